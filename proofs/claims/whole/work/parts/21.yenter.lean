/-! the reference's step: callTaken, enter -/
variable {sz st so rs sh ca sf mo fr sp tp de bo pc sc ha vk va : Int32} {T PA PL SE AR KI VA OU TA NA NK NV NO : Nat → Int32}
theorem yw_taken {post : SY → Prop} {K : List pm_F} {sg : List (List pm_F)} {j m : Nat} (P : yr_P K sg fr sp tp PL SE AR KI VA OU TA) (B : yr_B sg) (hj : j < sg.length) (hsm : ∀ f, f ∈ sg.getD j [] → f.isSome = true) (hm : m ≤ 16) (hK : K.length ≤ 16)
    (h1 : K.length + 1 + (sg.getD j []).length ≤ 16 → ∀ fr sp tp PL SE AR KI VA OU, yr_P (sg.getD j [] ++ none :: K) sg fr sp tp PL SE AR KI VA OU TA → post (sz, st, so, rs, sh, ca, sf, nI (max m (sg.getD j [] ++ none :: K).length), fr, sp, tp, nI (sg.getD j [] ++ none :: K).length, bo, pc, sc, ha, vk, va, T, PA, PL, SE, AR, KI, VA, OU, TA, NA, NK, NV, NO))
    (h0 : 16 < K.length + 1 + (sg.getD j []).length → post (sz, 4, so, rs, sh, ca, sf, nI m, fr, sp, tp, nI K.length, bo, pc, sc, ha, vk, va, T, PA, PL, SE, AR, KI, VA, OU, TA, NA, NK, NV, NO)) : wpY_callTaken post (sz, st, so, rs, sh, ca, sf, nI m, fr, sp, tp, nI K.length, bo, pc, sc, ha, vk, va, T, PA, PL, SE, AR, KI, VA, OU, TA, NA, NK, NV, NO) (nI j) := by
  have hj8 : j < 8 := by have := B.1; omega
  have hlen : (sg.getD j [] ++ none :: K).length = (K.length + 1) + (sg.getD j []).length := by rw [List.length_append, List.length_cons]; omega
  have h15 := B.2 _ (yn_gm (zs := sg) hj)
  rw [hlen] at h1
  have P' := P
  obtain ⟨ys, zs, ss, fn, p1, p2, p3, p4, p5, p6, p7, p8, p9⟩ := P
  have hjz : j < zs.length := by have := p4.1; omega
  obtain ⟨z1, z2, z3⟩ := p4.2 j hjz
  have hl := yn_Sl _ _ z3
  have hb : ∀ x, x ∈ zs.getD j [] → 0 < x ∧ x < 200 := by
    intro x hx
    have := p5.2.1 x (List.mem_append_right _ (List.mem_append_left _ (yn_gf hjz hx)))
    omega
  refine ⟨vp_in_nI hj8 (by decide), nm_r (e' := nI (yn_hd (zs.getD j []))) (by rw [nI_clamp (by omega)]; exact z1) ⟨_, yc_cnt (zs.getD j []) 0 z2 hb ?_⟩⟩
  rw [Nat.zero_add, hl]
  refine pk_le (K.length + 1 + (sg.getD j []).length) 16 (fun c => ?_) (fun c => h0 c) (by rw [nI_1, nI_add])
  refine yw_push (f := none) P' B (by omega) hm rfl (fun fr' sp' tp' PL' SE' AR' OU' Q => ?_)
  obtain ⟨ys', zs', ss', fn', q1, q2, q3, q4, q5, q6, q7, q8, q9⟩ := Q
  have hjz' : j < zs'.length := by have := q4.1; omega
  obtain ⟨w1, w2, w3⟩ := q4.2 j hjz'
  subst q7 q8 q9
  refine ⟨vp_in_nI hj8 (by decide), nm_r (e' := nI (yn_hd (zs'.getD j []))) (by rw [nI_clamp (by omega)]; exact w1) ⟨(zs'.getD j []).length + 1, ?_⟩⟩
  have hys := yn_Sl _ _ q2
  rw [List.length_cons] at hys
  have emx : max (max m (K.length + 1)) (K.length + 1 + (sg.getD j []).length) = max m (K.length + 1 + (sg.getD j []).length) := by omega
  refine yc_lp (zt := sg.getD j []) (K1 := none :: K) (sg := sg) (zs := zs') (ys1 := ys') (d := K.length + 1) (m := max m (K.length + 1)) (cnt := (sg.getD j []).length) (yn_Zl q4 B.2 B.1) c (by omega) ?_ (zs'.getD j []) (sg.getD j []) [] ss' [] fn' PL' SE' AR' KI VA OU' rfl q5 q6 q1 q2 q3 q4 (fun w hw => yn_gf hjz' hw) w2 w3 hsm rfl (by rw [List.length_nil]; omega)
  intro fr sp tp PL SE AR KI VA OU R
  rw [emx]
  exact h1 c fr sp tp PL SE AR KI VA OU R
/-- the reference's state against the pure one: behind the last RESET it has one more step to do -/
def yr_R (n : Nat) (T : Nat → Int32) (S : pm_S) (v : SY) : Prop := match S, v with
  | (m, K, sg, nm, b, out, oc, cc, mm, e), (sz, st, _, _, sh, ca, sf, mo, fr, sp, tp, de, bo, pc, sc, ha, vk, va, T', PA, PL, SE, AR, KI, VA, OU, TA, NA, NK, NV, NO) =>
    sz = nI n ∧ T' = T ∧ sh = nI oc ∧ PA = out ∧ ca = nI cc ∧ sf = nI sg.length ∧ mo = nI mm ∧
    (e = 0 → st = 0 ∧ de = nI K.length ∧ bo = nI b ∧ yr_P K sg fr sp tp PL SE AR KI VA OU TA ∧ yn_N NA NK NV NO nm b ∧ yr_M sc pc ha vk va m) ∧
    (e = 1 → st = 0 ∧ tp = 0 ∧ ha = 1 ∧ ∃ w, m = .inr w ∧ yn_V vk va w) ∧
    (2 ≤ e → st = nI e)
theorem yr_go {n : Nat} {m : pm_M} {K : List pm_F} {sg : List (List pm_F)} {nm : pm_N} {b oc cc mm : Nat} (P : yr_P K sg fr sp tp PL SE AR KI VA OU TA) (N : yn_N NA NK NV NO nm b) (M : yr_M sc pc ha vk va m) :
    yr_R n T (pm_go m K sg nm b PA oc cc mm) (nI n, 0, so, rs, nI oc, nI cc, nI sg.length, nI (max mm K.length), fr, sp, tp, nI K.length, nI b, pc, sc, ha, vk, va, T, PA, PL, SE, AR, KI, VA, OU, TA, NA, NK, NV, NO) :=
  ⟨rfl, rfl, rfl, rfl, rfl, rfl, rfl, fun _ => ⟨rfl, rfl, rfl, P, N, M⟩, fun z => absurd z (by decide), fun z => absurd z (by decide)⟩
theorem yr_go' {n : Nat} {m : pm_M} {K : List pm_F} {sg : List (List pm_F)} {nm : pm_N} {b oc cc mm : Nat} (hK : K.length ≤ mm) (P : yr_P K sg fr sp tp PL SE AR KI VA OU TA) (N : yn_N NA NK NV NO nm b) (M : yr_M sc pc ha vk va m) :
    yr_R n T (pm_go m K sg nm b PA oc cc mm) (nI n, 0, so, rs, nI oc, nI cc, nI sg.length, nI mm, fr, sp, tp, nI K.length, nI b, pc, sc, ha, vk, va, T, PA, PL, SE, AR, KI, VA, OU, TA, NA, NK, NV, NO) := by
  have h := yr_go (so := so) (rs := rs) (n := n) (T := T) (PA := PA) (oc := oc) (cc := cc) (mm := mm) P N M
  rw [Nat.max_eq_left hK] at h
  exact h
theorem yr_st {n : Nat} {m : pm_M} {K : List pm_F} {sg : List (List pm_F)} {nm : pm_N} {b oc cc mm e : Nat} (he : 2 ≤ e) :
    yr_R n T (m, K, sg, nm, b, PA, oc, cc, mm, e) (nI n, nI e, so, rs, nI oc, nI cc, nI sg.length, nI mm, fr, sp, tp, de, bo, pc, sc, ha, vk, va, T, PA, PL, SE, AR, KI, VA, OU, TA, NA, NK, NV, NO) :=
  ⟨rfl, rfl, rfl, rfl, rfl, rfl, rfl, fun z => by omega, fun z => by omega, fun _ => rfl⟩
theorem yr_Bi {t : Nat → Nat} {n : Nat} {sg : List (List pm_F)} {nm : pm_N} {b : Nat} (A : pm_A t n sg nm b) : yr_B sg := ⟨A.1, fun z hz => (A.2.1 z hz).1⟩
theorem yw_enter {post : SY → Prop} {t : Nat → Nat} {n p s : Nat} {K : List pm_F} {sg : List (List pm_F)} {nm : pm_N} {b oc cc mm : Nat} (hT : tx_T T t n) (hn : n ≤ 32) (I : pm_I t n (.inl (p, s)) K sg nm b oc cc mm)
    (P : yr_P K sg fr sp tp PL SE AR KI VA OU TA) (N : yn_N NA NK NV NO nm b) (h : ∀ v, yr_R n T (pm_evl t p s K sg nm b PA oc cc mm) v → post v) :
    wpY_enter post (nI n, 0, so, rs, nI oc, nI cc, nI sg.length, nI mm, fr, sp, tp, nI K.length, nI b, nI p, nI s, 0, vk, va, T, PA, PL, SE, AR, KI, VA, OU, TA, NA, NK, NV, NO) := by
  have hbb := kp_bb t n I
  obtain ⟨⟨hp, hs⟩, hB, hA, i1, i2, i3, i4, i5⟩ := I
  obtain ⟨t1, t2⟩ := hT p hp
  have t3 := tx_t120 t2
  unfold tx_tok at t2
  have hBl := hB.2.1
  unfold pm_evl at h
  refine ⟨vp_in_nI (by omega) (by decide), nm_r (e' := nI (t p)) (by rw [nI_clamp (by omega)]; exact t1) ?_⟩
  refine pk_lt (t p) 80 (fun c80 => pk_le 40 (t p) (fun c40 => pk_le 46 (t p) (fun c46 => pk_lt (t p) 70 (fun c70 => ?_) (fun c70 => ?_)) (fun c46 => ?_)) (fun c40 => ?_)) (fun c80 => ?_)
  · -- an operation
    rw [if_neg (by omega), if_neg (by omega), if_pos c70] at h
    by_cases cK : K.length = 16
    · rw [if_pos cK] at h
      have Q : ∀ z0, wY_enter_103 post z0 (nI n) 0 so rs (nI oc) (nI cc) (nI sg.length) (nI mm) fr sp tp (nI K.length) (nI b) (nI p) (nI s) 0 vk va T PA PL SE AR KI VA OU TA NA NK NV NO := by
        intro z0
        unfold wY_enter_103
        refine pk_lt K.length 16 (fun w => by omega) (fun _ => ?_)
        exact h _ (yr_st (by decide))
      exact br_c (fun _ => Q _) (fun _ => Q _)
    rw [if_neg cK] at h
    have Q : ∀ z0 f, f = (if t p = 59 then none else some (p, s, none)) → yr_Fr z0 (nI s) f → wY_enter_103 post z0 (nI n) 0 so rs (nI oc) (nI cc) (nI sg.length) (nI mm) fr sp tp (nI K.length) (nI b) (nI p) (nI s) 0 vk va T PA PL SE AR KI VA OU TA NA NK NV NO := by
      intro z0 f hf hF
      rw [← hf] at h
      unfold wY_enter_103
      refine yw_push (f := f) P (yr_Bi hA) (by omega) i4 hF (fun fr' sp' tp' PL' SE' AR' OU' R => ?_)
      show post _
      rw [nI_1]
      exact h _ (yr_go R N ⟨rfl, rfl, rfl⟩)
    refine pk_eq (t p) 59 (fun c => Q _ none (by rw [if_pos c]) rfl) (fun c => Q _ (some (p, s, none)) (by rw [if_neg c]) ⟨rfl, rfl, rfl⟩)
  · -- a shift
    rw [if_neg (by omega), if_neg (by omega), if_neg (by omega), if_pos (by omega)] at h
    by_cases cS : sg.length = 8
    · rw [if_pos cS] at h
      unfold wpY_shift
      refine br_t (by rw [cS]; rfl) ?_
      exact h _ (yr_st (by decide))
    rw [if_neg cS] at h
    obtain ⟨z, K1, f1, f2, f3, f4, f5⟩ := kp_cut K hB.2.2
    rw [f1, f2] at h
    have hA1 := hA.1
    have hz : ∀ f, f ∈ z → ∃ p s o, f = some (p, s, o) ∧ p < 32 := by
      intro f hf
      have g1 := f4 f hf
      have g2 := hB.1 f (by rw [f3]; exact List.mem_append_left _ hf)
      rcases f with _ | ⟨p, s, o⟩
      · exact absurd g1 (by decide)
      · exact ⟨p, s, o, rfl, by have := g2.1; omega⟩
    have hKl : (none :: K1).length ≤ mm := by
      have : K.length = z.length + (none :: K1).length := by rw [f3, List.length_append]
      omega
    have e7 : nI (t p) - 70 = nI (t p % 10) := by
      rw [show t p % 10 = t p - 70 by omega]
      exact pk_sub (b := 70) (by omega)
    rw [e7]
    rw [f3] at P ⊢
    refine yw_shift P hz (by omega) (by omega) (fun tp' OU' TA' R => ?_)
    have el : (sg ++ [z]).length = sg.length + 1 := by rw [List.length_append]; rfl
    have H := h _ (yr_go' (so := so) (rs := rs) (vk := vk) (va := va) hKl R (yn_Nadd (x := t p % 10) (o := s) (k := 3) (a := nI sg.length) (v := .inr (.inr sg.length)) N ⟨rfl, rfl⟩) ⟨rfl, rfl, rfl⟩)
    rw [el] at H
    exact H
  · -- a function
    rw [if_neg (by omega), if_pos (by omega)] at h
    have e1 : (64 * nI s) + nI p = nI (64 * s + p) := by
      rw [show (64 : Int32) = nI 64 from rfl, pk_mul, nI_add]
    unfold wpY_give
    show post _
    rw [e1]
    exact h _ (yr_go' i3 P N ⟨rfl, rfl, rfl⟩)
  · -- a name
    rw [if_pos (by omega)] at h
    have e3 : nI (t p) - 30 = nI (t p % 10) := by
      rw [show t p % 10 = t p - 30 by omega]
      exact pk_sub (b := 30) (by omega)
    rw [e3]
    unfold wpY_find
    refine ⟨_, yw_flp (nm := nm) (b := b) (by omega) (by omega) N (tx_G t p) s hs (fun y hy => tx_grm t p p y hy) (fun w => ?_) (fun v k a w hv => ?_)⟩
    · rw [w] at h
      exact h _ (yr_st (by decide))
    · rw [w] at h
      exact h _ (yr_go' i3 P N ⟨rfl, hv⟩)
  · -- a number
    rw [if_neg (by omega), if_neg (by omega), if_neg (by omega), if_neg (by omega)] at h
    unfold wpY_give
    exact h _ (yr_go' i3 P N ⟨rfl, rfl, rfl⟩)
