/-! the component's step: callFunction, resume, reckon -/
variable {tc pe lc uc tk rc pc en : Int32} {va : Int64} {oc cc sc dp ed : Int32} {T ES HP FT FE : Nat → Int32} {FF : Nat → Int64} {SZ : Nat → Int32} {CV : Nat → Int64} {CN MK RE OU : Nat → Int32}
theorem xw_kind {post : Int32 → Prop} {k : Nat} {a : Int32} (hk : k < 4) (h : post (nI k)) : wpX_kindOf post (xm_vo k a) := by
  unfold wpX_kindOf
  show post _
  rw [xv_kd hk]
  exact h
theorem xw_resume {post : SX → Prop} {L : Nat → Prop} {f : Nat → Nat} {j : Nat} {K : List pm_F} {sg : List (List pm_F)} (hj : j < sg.length) (h8 : sg.length ≤ 8) (hL : L (j + 1)) (hK : K.length ≤ 16) (hpos : ∀ x, L x → 0 < x) (h15 : (sg.getD j []).length ≤ 15) (hR : xm_R L f FT FE FF 0 K) (hG : xm_G L f FT FE FF SZ sg)
    (h1 : K.length + 1 + (sg.getD j []).length ≤ 16 → ∀ FT FE FF, xm_R L f FT FE FF 0 (sg.getD j [] ++ none :: K) → xm_G L f FT FE FF SZ sg → post (tc, nI (sg.getD j [] ++ none :: K).length, lc, uc, tk, rc, pc, en, va, oc, cc, sc, dp, ed, T, ES, HP, FT, FE, FF, SZ, CV, CN, MK, RE, OU))
    (h0 : 16 < K.length + 1 + (sg.getD j []).length → post (tc, nI K.length, lc, uc, tk, rc, pc, en, va, oc, cc, sc, dp, 4, T, ES, HP, FT, FE, FF, SZ, CV, CN, MK, RE, OU)) : wpX_resume post (tc, nI K.length, lc, uc, tk, rc, pc, en, va, oc, cc, sc, dp, ed, T, ES, HP, FT, FE, FF, SZ, CV, CN, MK, RE, OU) (nI (j + 1)) := by
  obtain ⟨g1, g2, g3⟩ := hG (j + 1) hL (by omega)
  rw [Nat.add_sub_cancel] at g2 g3
  have el : (sg.getD j [] ++ none :: K).length = (K.length + 1) + (sg.getD j []).length := by rw [List.length_append, List.length_cons]; omega
  rw [el] at h1
  refine ⟨vp_in_nI (by omega) (by decide), nm_r (e' := nI (sg.getD j []).length) (by rw [nI_clamp (by omega)]; exact g2) ?_⟩
  refine pk_le (K.length + 1 + (sg.getD j []).length) 16 (fun c => ?_) (fun c => h0 c) (by rw [nI_1, nI_add])
  refine xw_push (by omega) ?_
  have em : nI (j + 1) * 16 = nI ((j + 1) * 16) := pk_mul (j + 1) 16
  rw [em]
  refine xw_copy (by omega) (by omega) (Or.inr (by omega)) (nm_r (nI_add _ _) ?_)
  refine h1 c _ _ _ ?_ ?_
  · refine (xm_Ra _ _).mpr ⟨xm_Rc _ (fun i hi => ?_) g3, xm_Rc _ (fun i hi => ?_) (xm_Rpush (g := none) hR ⟨rfl, rfl, rfl⟩)⟩
    · have e : 0 + (none :: K).length + i = K.length + 1 + i := by rw [List.length_cons]; omega
      rw [e, xm_cpi hi, xm_cpi hi, xm_cpi hi]
      exact ⟨pk_un (by omega), pk_un (by omega), pk_uLn (by omega)⟩
    · rw [List.length_cons] at hi
      have q : 0 + i < K.length + 1 := by omega
      rw [xm_cpo (Or.inl q), xm_cpo (Or.inl q), xm_cpo (Or.inl q)]
      exact ⟨rfl, rfl, rfl⟩
  · refine xm_Gc hG hpos (fun i hi => ?_)
    have q : K.length + 1 + (sg.getD j []).length ≤ i := by omega
    rw [xm_cpo (Or.inr q), xm_cpo (Or.inr q), xm_cpo (Or.inr q)]
    exact ⟨pk_un (by omega), pk_un (by omega), pk_uLn (by omega)⟩
theorem xw_call {post : SX → Prop} {t : Nat → Nat} {n d0 k0 ln : Nat} {L : Nat → Prop} {f : Nat → Nat} {fl : List Nat} {w v : pm_V} {l : Int64} {K : List pm_F} {sg : List (List pm_F)} {nm : pm_N} {b o1 c1 mm : Nat} (hn : n ≤ 32) (hb : b ≤ 8703) (hd : 1 ≤ d0)
    (hpw : pm_v t n nm b sg.length w) (hA : pm_A t n sg nm b) (hK : K.length ≤ 16) (hKm : K.length ≤ mm) (hc1 : c1 ≤ 40) (h8 : 8 ≤ ln) (hl : ln ≤ 8 + b) (hR : xm_R L f FT FE FF 0 K) (hG : xm_G L f FT FE FF SZ sg) (hH : xm_H L f CV CN nm b ln) (hU : xm_U L CN ln fl) (hw : xm_V L f l w) (hv : xm_V L f va v)
    (h : ∀ u, xr_Q n T ES HP d0 k0 (pm_cal t w v K sg nm b OU o1 c1 mm) u → post u) :
    wpX_callFunction post (nI n, nI K.length, nI ln, nI (yn_hd fl), nI k0, rc, -1, en, va, nI o1, nI c1, nI sg.length, nI d0, 0, T, ES, HP, FT, FE, FF, SZ, CV, CN, MK, RE, OU) l := by
  unfold pm_cal at h
  unfold wpX_callFunction
  rcases w with a | ⟨s, p⟩ | j
  · have e : l = xm_vo 1 a := hw
    subst e
    refine xw_kind (by decide) (br_t rfl ?_)
    exact h _ (xr_st (by decide) hKm (fun z => by omega))
  · obtain ⟨c, e, hc⟩ := hw
    subst e
    obtain ⟨hp, hp4, hs⟩ := hpw
    have hc9 := xm_E9 hc
    have h' : ∀ u, xr_Q n T ES HP d0 k0 (if c1 = 40 then (.inr v, K, sg, nm, b, OU, o1, c1, mm, 3) else pm_go (.inl (p + 1, b + 1)) K sg (pm_bd nm b (t p % 10) v s) (b + 1) OU o1 (c1 + 1) mm) u → post u := h
    refine xw_kind (by decide) (br_f (by decide) (pk_eq c1 40 (fun q => ?_) (fun q => nm_r (nI_1 c1) (br_f (by decide) ⟨by decide, ?_⟩))))
    · rw [if_pos q] at h'
      exact h' _ (xr_st (by decide) hKm (fun z => by omega))
    · rw [if_neg q] at h'
      rw [xv_ct]
      have e1 : nI (p * 9000 + c) - nI (p * 9000 + c) / 9000 * 9000 = nI c := by
        rw [show (9000 : Int32) = nI 9000 from rfl, pk_rem (by omega) (by omega) (by omega)]
        exact congrArg nI (by omega)
      have e2 : nI (p * 9000 + c) / 9000 + 1 = nI (p + 1) := by
        rw [show (9000 : Int32) = nI 9000 from rfl, pk_div (by omega) (by omega) (by omega), nI_1]
        exact congrArg nI (by omega)
      rw [e1]
      refine xw_bind (y := t p % 10) hb h8 hl hR hG hH hU hv hc (fun lc' uc' en' CV' CN' Q => ⟨by decide, nm_r e2 ?_⟩)
      exact h' _ (xr_go (Q (p + 1)) (Or.inr ⟨rfl, _, _, rfl⟩))
  · obtain ⟨e, hL⟩ := hw
    subst e
    have hj : j < sg.length := hpw
    have hA1 := hA.1
    have h' : ∀ u, xr_Q n T ES HP d0 k0 (if c1 = 40 then (.inr v, K, sg, nm, b, OU, o1, c1, mm, 3) else if 16 < K.length + 1 + (sg.getD j []).length then (.inr v, K, sg, nm, b, OU, o1, c1 + 1, mm, 4) else pm_go (.inr v) (sg.getD j [] ++ none :: K) sg nm b OU o1 (c1 + 1) mm) u → post u := h
    refine xw_kind (by decide) (br_f (by decide) (pk_eq c1 40 (fun q => ?_) (fun q => nm_r (nI_1 c1) (br_t rfl ?_))))
    · rw [if_pos q] at h'
      exact h' _ (xr_st (by decide) hKm (fun z => by omega))
    · rw [if_neg q] at h'
      rw [xv_ct]
      refine xw_resume hj hA.1 hL hK (fun x hx => (hH x hx).1) (hA.2.1 _ (yn_gm hj)).1 hR hG (fun q2 FT FE FF R2 G2 => ?_) (fun q2 => ?_)
      · rw [if_neg (by omega)] at h'
        exact h' _ (xr_go ⟨L, f, fl, ln, rfl, rfl, h8, hl, rfl, R2, G2, hH, hU, rfl, hv⟩ (Or.inl rfl))
      · rw [if_pos q2] at h'
        exact h' _ (xr_st (by decide) hKm (fun z => by omega))
theorem xw_rk97 {post : SX → Prop} {a : Int32} (h : post (tc, pe, lc, uc, tk, rc, pc, en, xm_vo 1 a, oc, cc, sc, dp, ed, T, ES, HP, FT, FE, FF, SZ, CV, CN, MK, RE, OU)) : wX_reckon_97 post a tc pe lc uc tk rc pc en va oc cc sc dp ed T ES HP FT FE FF SZ CV CN MK RE OU := by
  unfold wX_reckon_97 wpX_valueOf
  have e : ((1 : Int32).toInt64 <<< ((32 : Int32).toInt64 &&& 63)) ||| (a.toInt64 &&& 4294967295) = xm_vo 1 a := xv_vo (k := 1) (by decide) a
  show post _
  rw [e]
  exact h
theorem xw_reckon {post : SX → Prop} {x : Nat} {a c : Int32} (hx : 52 < x) (hx2 : x < 57) (h : post (tc, pe, lc, uc, tk, rc, pc, en, xm_vo 1 (pm_rk x a c), oc, cc, sc, dp, ed, T, ES, HP, FT, FE, FF, SZ, CV, CN, MK, RE, OU)) : wpX_reckon post (tc, pe, lc, uc, tk, rc, pc, en, xm_vo 1 c, oc, cc, sc, dp, ed, T, ES, HP, FT, FE, FF, SZ, CV, CN, MK, RE, OU) (nI x) (xm_vo 1 a) := by
  unfold wpX_reckon
  unfold pm_rk at h
  refine xw_kind (by decide) (br_t rfl (xw_kind (by decide) (br_t rfl ?_)))
  rw [xv_ct, xv_ct]
  refine pk_eq x 53 (fun e => nm_e (xw_rk97 (by rw [if_pos e] at h; exact h))) (fun e1 => pk_eq x 54 (fun e => nm_e (xw_rk97 (by rw [if_neg e1, if_pos e] at h; exact h))) (fun e2 => pk_eq x 55 (fun e => nm_e (xw_rk97 (by rw [if_neg e1, if_neg e2, if_pos e] at h; exact h))) (fun e3 => ?_)))
  rw [if_neg e1, if_neg e2, if_neg e3] at h
  refine br_c (fun z => xw_rk97 ?_) (fun z => xw_rk97 ?_)
  · rw [if_neg (Int32.not_lt.mpr z)] at h; exact h
  · rw [if_pos (Int32.not_le.mp z)] at h; exact h
