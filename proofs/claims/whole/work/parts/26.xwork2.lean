/-! the component's step: workOut -/
variable {tc pe lc uc tk rc pc en : Int32} {va : Int64} {oc cc sc dp ed : Int32} {T ES HP FT FE : Nat → Int32} {FF : Nat → Int64} {SZ : Nat → Int32} {CV : Nat → Int64} {CN MK RE OU : Nat → Int32}
theorem xw_work {post : SX → Prop} {t : Nat → Nat} {n p s d0 k0 : Nat} {K : List pm_F} {sg : List (List pm_F)} {nm : pm_N} {b o1 c1 mm : Nat} (hT : tx_T T t n) (hn : n ≤ 32) (hHP : xt_H HP t n) (I : pm_I t n (.inl (p, s)) K sg nm b o1 c1 mm)
    (P : xr_P (.inl (p, s)) K sg nm b pe lc uc pc en va FT FE FF SZ CV CN) (h : ∀ u, xr_Q n T ES HP d0 k0 (pm_evl t p s K sg nm b OU o1 c1 mm) u → post u) :
    wpX_workOut post (nI n, pe, lc, uc, nI k0, rc, pc, en, va, nI o1, nI c1, nI sg.length, nI d0, 0, T, ES, HP, FT, FE, FF, SZ, CV, CN, MK, RE, OU) := by
  have hbb := kp_bb t n I
  obtain ⟨⟨hp, hs⟩, hB, hA, i1, i2, i3, i4, i5⟩ := I
  have hKn := kp_Bn hB.2.2
  obtain ⟨t1, t2⟩ := hT p hp
  have t3 := tx_t120 t2
  unfold tx_tok at t2
  have hBl := hB.2.1
  obtain ⟨L, f, fl, ln, e1, e2, h8, hl, e3, hR, hG, hH, hU, e4, c, e5, hc⟩ := P
  subst e1 e2 e3 e4 e5
  have hc9 := xm_E9 hc
  unfold pm_evl at h
  refine ⟨vp_in_nI (by omega) (by decide), nm_r (e' := nI (t p)) (by rw [nI_clamp (by omega)]; exact t1) ⟨by decide, nm_r (xt_d10 (by omega)) ?_⟩⟩
  by_cases c4 : t p < 40
  · -- a name
    rw [if_pos c4] at h
    refine pk_eq (t p / 10) 3 (fun _ => ?_) (fun z => by omega)
    have ehp := hHP p hp
    unfold tx_hp at ehp
    rw [if_pos c4] at ehp
    cases ei : tx_ix (tx_G t p) (t p % 10) with
    | none =>
      rw [ei] at ehp
      have el := (tx_ixl nm (t p % 10) (tx_G t p) s).mpr ei
      rw [el] at h
      refine ⟨vp_in_nI (by omega) (by decide), nm_r (e' := -1) (by rw [nI_clamp (by omega)]; exact ehp) (br_t rfl ?_)⟩
      exact h _ (xr_st (by decide) i3 (fun _ => hKn))
    | some i =>
      rw [ei] at ehp
      cases el : pm_look nm (tx_G t p) (t p % 10) s with
      | none => exact absurd ((tx_ixl nm (t p % 10) (tx_G t p) s).mp el) (by rw [ei]; simp)
      | some v =>
        rw [el] at h
        have b1 := tx_ixb _ _ _ ei
        have b2 := tx_grl t p p
        have b3 : i < p := Nat.lt_of_lt_of_le b1 b2
        refine ⟨vp_in_nI (by omega) (by decide), nm_r (e' := nI i) (by rw [nI_clamp (by omega)]; exact ehp) (br_f (ys_ne (by omega)) ⟨i + 1, ?_⟩)⟩
        refine xw_hlp hH hs hc ei el (by omega) (fun va' hv => ?_) i 0 (by omega)
        exact h _ (xr_go ⟨L, f, fl, ln, rfl, rfl, h8, hl, rfl, hR, hG, hH, hU, rfl, hv⟩ (Or.inl rfl))
  rw [if_neg c4] at h
  refine pk_eq (t p / 10) 3 (fun z => by omega) (fun _ => ?_)
  by_cases c5 : t p < 50
  · -- a function
    rw [if_pos c5] at h
    refine pk_eq (t p / 10) 4 (fun _ => ?_) (fun z => by omega)
    have em : (nI p * 9000) + nI c = nI (p * 9000 + c) := by
      rw [show (9000 : Int32) = nI 9000 from rfl, pk_mul, nI_add]
    rw [em]
    refine xw_take (k := 2) (by decide) ?_
    exact h _ (xr_go ⟨L, f, fl, ln, rfl, rfl, h8, hl, rfl, hR, hG, hH, hU, rfl, c, rfl, hc⟩ (Or.inl rfl))
  rw [if_neg c5] at h
  refine pk_eq (t p / 10) 4 (fun z => by omega) (fun _ => ?_)
  by_cases c7 : t p < 70
  · -- an operation
    rw [if_pos c7] at h
    refine pk_eq (t p / 10) 7 (fun z => by omega) (fun _ => ?_)
    have Q : wX_workOut_77 post (nI (t p)) (nI n) (nI K.length) (nI ln) (nI (yn_hd fl)) (nI k0) rc (nI p) (nI c) va (nI o1) (nI c1) (nI sg.length) (nI d0) 0 T ES HP FT FE FF SZ CV CN MK RE OU := by
      unfold wX_workOut_77
      refine pk_eq K.length 16 (fun cK => ?_) (fun cK => ?_)
      · rw [if_pos cK] at h
        exact h _ (xr_st (by decide) i3 (fun _ => hKn))
      · rw [if_neg cK] at h
        have hpos : ∀ x, L x → 0 < x := fun x hx => (hH x hx).1
        have G2 : ∀ a d, xm_G L f (upd FT K.length a) (upd FE K.length d) (vp_updL FF K.length 0) SZ sg := by
          intro a d
          refine xm_Gc hG hpos (fun j hj => ⟨pk_un (by omega), pk_un (by omega), pk_uLn (by omega)⟩)
        refine pk_eq (t p) 59 (fun c9 => ?_) (fun c9 => ?_)
        · rw [if_pos c9] at h
          refine xw_push (by omega) (nm_r (nI_1 p) ?_)
          exact h _ (xr_go (K := none :: K) ⟨L, f, fl, ln, rfl, rfl, h8, hl, rfl, xm_Rpush hR ⟨rfl, rfl, rfl⟩, G2 _ _, hH, hU, rfl, c, rfl, hc⟩ (Or.inl rfl))
        · rw [if_neg c9] at h
          refine xw_push (by omega) (nm_r (nI_1 p) ?_)
          exact h _ (xr_go (K := some (p, s, none) :: K) ⟨L, f, fl, ln, rfl, rfl, h8, hl, rfl, xm_Rpush hR ⟨rfl, ⟨c, rfl, hc⟩, rfl⟩, G2 _ _, hH, hU, rfl, c, rfl, hc⟩ (Or.inl rfl))
    exact br_c (fun _ => Q) (fun z5 => br_c (fun _ => Q) (fun z6 => absurd (show t p / 10 = 5 ∨ t p / 10 = 6 by omega) (fun w => by
      rcases w with w | w
      · exact z5 (by rw [w]; rfl)
      · exact z6 (by rw [w]; rfl))))
  rw [if_neg c7] at h
  by_cases c8 : t p < 80
  · -- a shift
    rw [if_pos c8] at h
    refine pk_eq (t p / 10) 7 (fun _ => ?_) (fun z => by omega)
    by_cases cS : sg.length = 8
    · rw [if_pos cS] at h
      unfold wpX_shift
      refine br_t (by rw [cS]; rfl) ?_
      exact h _ (xr_st (by decide) i3 (fun _ => hKn))
    rw [if_neg cS] at h
    obtain ⟨z, K1, f1, f2, f3, f4, f5⟩ := kp_cut K hB.2.2
    rw [f1, f2] at h
    have hA1 := hA.1
    have hz : ∀ f, f ∈ z → ∃ p s o, f = some (p, s, o) ∧ p < 32 := by
      intro f hf
      have g1 := f4 f hf
      have g2 := hB.1 f (by rw [f3]; exact List.mem_append_left _ hf)
      rcases f with _ | ⟨p, s, o⟩
      · exact absurd g1 (by decide)
      · exact ⟨p, s, o, rfl, by have := g2.1; omega⟩
    have el : (sg ++ [z]).length = sg.length + 1 := by rw [List.length_append]; rfl
    rw [f3] at hR hBl ⊢
    refine xw_shift (y := t p % 10) hbb h8 hl hR hG hH hU hc hz hBl (by omega) (fun y hy => (hA.2.1 y hy).1) (by omega) (fun lc' uc' en' FT' FE' FF' SZ' CV' CN' Q => ?_)
    have H := h _ (xr_go (n := n) (d0 := d0) (T := T) (ES := ES) (HP := HP) (OU := OU) (o1 := o1) (c1 := c1) (mm := mm) (rc := rc) (MK := MK) (RE := RE) Q (Or.inr ⟨rfl, _, _, rfl⟩))
    rw [el] at H
    exact H
  · -- a number
    rw [if_neg c8] at h
    refine pk_eq (t p / 10) 7 (fun z => by omega) (fun _ => pk_eq (t p / 10) 5 (fun z => by omega) (fun _ => pk_eq (t p / 10) 6 (fun z => by omega) (fun _ => ?_)))
    refine xw_take (k := 1) (by decide) ?_
    exact h _ (xr_go ⟨L, f, fl, ln, rfl, rfl, h8, hl, rfl, hR, hG, hH, hU, rfl, rfl⟩ (Or.inl rfl))
