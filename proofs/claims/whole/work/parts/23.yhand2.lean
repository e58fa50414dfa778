/-! the reference's step: hand -/
variable {sz st so rs sh ca sf mo fr sp tp de bo pc sc ha vk va : Int32} {T PA PL SE AR KI VA OU TA NA NK NV NO : Nat → Int32}
theorem yr_tp0 {K : List pm_F} {sg : List (List pm_F)} (P : yr_P K sg fr sp tp PL SE AR KI VA OU TA) (h : K.length = 0) : tp = 0 := by
  obtain ⟨ys, zs, ss, fn, h1, h2, h3, h4, h5, h6, h7, h8, h9⟩ := P
  have hl := yn_Sl _ _ h2
  have e : ys = [] := List.length_eq_zero_iff.mp (by omega)
  subst e
  exact h7
theorem yw_two {post : SY → Prop} {t : Nat → Nat} {n p s : Nat} {o : Option pm_V} {v : pm_V} {K : List pm_F} {sg : List (List pm_F)} {nm : pm_N} {b oc cc mm : Nat} (W : tx_W t n) (hT : tx_T T t n) (hn : n ≤ 32)
    (I : pm_I t n (.inr v) (some (p, s, o) :: K) sg nm b oc cc mm) (h57 : t p < 57) (P : yr_P (some (p, s, o) :: K) sg fr sp tp PL SE AR KI VA OU TA) (N : yn_N NA NK NV NO nm b) (hv : yn_V vk va v)
    (h : ∀ u, yr_R n T (pm_hnd t v (some (p, s, o) :: K) sg nm b PA oc cc mm) u → post u) :
    wpY_two post (nI n, 0, so, rs, nI oc, nI cc, nI sg.length, nI mm, fr, sp, tp, nI (K.length + 1), nI b, pc, sc, 1, vk, va, T, PA, PL, SE, AR, KI, VA, OU, TA, NA, NK, NV, NO) (nI p) := by
  have hbb := kp_bb t n I
  obtain ⟨hpv, hB, hA, i1, i2, i3, i4, i5⟩ := I
  obtain ⟨hp, h56, h59, hs, ho⟩ := hB.1 _ (List.mem_cons_self ..)
  obtain ⟨t1, t2⟩ := hT p hp
  unfold tx_tok at t2
  have Pp := @kp_pt (t p)
  have T1 := tx_1 W hp (by omega)
  have hBl := hB.2.1
  rw [List.length_cons] at hBl i3
  obtain ⟨x, htp, hx0, hx2, hF⟩ := yr_top P
  subst htp
  have cx : (nI x).toNatClampNeg = x := nI_clamp (by omega)
  have vx : vp_in (nI x) 200 := vp_in_nI hx2 (by decide)
  obtain ⟨F1, F2, F3⟩ := hF
  rcases o with _ | w
  · have h' : ∀ u, yr_R n T (if t p < 57 then pm_go (.inl (tx_e t (p + 1), s)) (some (p, s, some v) :: K) sg nm b PA oc cc mm else _) u → post u := h
    rw [if_pos h57] at h'
    have F3' : SE x = 0 := F3
    refine ⟨vx, ?_⟩
    refine br_t (by rw [cx]; exact F3') ⟨vx, nm_r (e' := upd SE x 1) (by rw [cx]; rfl) ⟨vx, nm_r (e' := upd KI x vk) (by rw [cx]) ⟨vx, nm_r (e' := upd VA x va) (by rw [cx]) ⟨vx, nm_r (e' := nI s) (by rw [cx]; exact F2) ?_⟩⟩⟩⟩
    rw [nI_1]
    refine yt_end W hT hn T1.1 ?_
    exact h' _ (yr_go' (K := some (p, s, some v) :: K) (by rw [List.length_cons]; exact i3) (yr_first P hx2 hv) N ⟨rfl, rfl, rfl⟩)
  · have F3' : SE x = 1 := F3.1
    refine ⟨vx, br_f (by rw [cx, F3']; decide) ⟨vx, nm_r (e' := KI x) (by rw [cx]) ⟨vx, nm_r (e' := VA x) (by rw [cx]) ?_⟩⟩⟩
    refine yw_pop P (fun sp' tp' OU' R => ⟨vp_in_nI (by omega) (by decide), ?_⟩)
    rw [nI_clamp (by omega), t1]
    by_cases c52 : t p = 52
    · have h' : ∀ u, yr_R n T (if t p < 57 then (if t p = 52 then pm_cal t w v K sg nm b PA oc cc mm else _) else _) u → post u := h
      rw [if_pos h57, if_pos c52] at h'
      refine br_t (by rw [c52]; rfl) ?_
      exact yw_call hT hn hbb ho.2 hA (by omega) (by omega) i4 i2 R N F3.2 hv h'
    · refine pk_eq (t p) 52 (fun e => absurd e c52) (fun _ => ?_)
      have h' : ∀ u, yr_R n T (if t p < 57 then (if t p = 52 then pm_cal t w v K sg nm b PA oc cc mm else (match w, v with
          | .inl a, .inl c => pm_go (.inr (.inl (pm_rk (t p) a c))) K sg nm b PA oc cc mm
          | _, _ => (.inr v, K, sg, nm, b, PA, oc, cc, mm, 2))) else _) u → post u := h
      rw [if_pos h57, if_neg c52] at h'
      have bad : yr_R n T (.inr v, K, sg, nm, b, PA, oc, cc, mm, 2) (nI n, 2, so, rs, nI oc, nI cc, nI sg.length, nI mm, fr, sp', tp', nI K.length, nI b, pc, sc, 1, vk, va, T, PA, PL, SE, AR, KI, VA, OU', TA, NA, NK, NV, NO) := yr_st (by decide)
      rcases w with a | ⟨s2, p2⟩ | j
      · refine br_t F3.2.1 ?_
        rcases v with c | ⟨s2, p2⟩ | j
        · refine br_t hv.1 ⟨vp_in_nI (by omega) (by decide), ?_⟩
          rw [F3.2.2, hv.2]
          refine yw_calc (by omega) h57 ?_
          exact h' _ (yr_go' (by omega) R N ⟨rfl, rfl, rfl⟩)
        · exact br_f (by rw [hv.1]; decide) (h' _ bad)
        · exact br_f (by rw [hv.1]; decide) (h' _ bad)
      · exact br_f (by rw [F3.2.1]; decide) (h' _ bad)
      · exact br_f (by rw [F3.2.1]; decide) (h' _ bad)
theorem yw_hand {post : SY → Prop} {t : Nat → Nat} {n : Nat} {v : pm_V} {K : List pm_F} {sg : List (List pm_F)} {nm : pm_N} {b oc cc mm : Nat} (W : tx_W t n) (hT : tx_T T t n) (hn : n ≤ 32)
    (I : pm_I t n (.inr v) K sg nm b oc cc mm) (P : yr_P K sg fr sp tp PL SE AR KI VA OU TA) (N : yn_N NA NK NV NO nm b) (hv : yn_V vk va v)
    (h : ∀ u, yr_R n T (pm_hnd t v K sg nm b PA oc cc mm) u → post u) :
    wpY_hand post (nI n, 0, so, rs, nI oc, nI cc, nI sg.length, nI mm, fr, sp, tp, nI K.length, nI b, pc, sc, 1, vk, va, T, PA, PL, SE, AR, KI, VA, OU, TA, NA, NK, NV, NO) := by
  have hbb := kp_bb t n I
  have I' := I
  obtain ⟨hpv, hB, hA, i1, i2, i3, i4, i5⟩ := I
  rcases K with _ | ⟨f, K⟩
  · obtain ⟨K0, e⟩ := hB.2.2
    exact absurd (congrArg List.length e) (by simp)
  have P' := P
  obtain ⟨x, htp, hx0, hx2, hF⟩ := yr_top P
  subst htp
  have cx : (nI x).toNatClampNeg = x := nI_clamp (by omega)
  have vx : vp_in (nI x) 200 := vp_in_nI hx2 (by decide)
  have nx : ¬ nI x = 0 := nI_ne0 hx0 (by omega)
  have hBl := hB.2.1
  rw [List.length_cons] at hBl i3
  refine br_f nx ⟨vx, ?_⟩
  rw [cx]
  rcases f with _ | ⟨p, s, o⟩
  · have e1 : PL x = -1 := hF
    rw [e1]
    refine br_f (by decide) (br_f nx (br_t (by decide) (br_t rfl ?_)))
    refine yw_pop P (fun sp' tp' OU' R => ?_)
    have h' : ∀ u, yr_R n T (if K.length = 0 then (.inr v, K, sg, nm, b, PA, oc, cc, mm, 1) else pm_go (.inr v) K sg nm b PA oc cc mm) u → post u := h
    by_cases c : K.length = 0
    · rw [if_pos c] at h'
      exact h' _ ⟨rfl, rfl, rfl, rfl, rfl, rfl, rfl, fun z => absurd z (by decide), fun _ => ⟨rfl, yr_tp0 R c, rfl, v, rfl, hv⟩, fun z => absurd z (by decide)⟩
    · rw [if_neg c] at h'
      exact h' _ (yr_go' (by omega) R N ⟨rfl, hv⟩)
  · obtain ⟨hp, h56, h59, hs, ho⟩ := hB.1 _ (List.mem_cons_self ..)
    obtain ⟨t1, t2⟩ := hT p hp
    have t3 := tx_t120 t2
    unfold tx_tok at t2
    have Pp := @kp_pt (t p)
    have T1 := tx_1 W hp (by omega)
    have F2 : AR x = nI s := hF.2.1
    have F1 : PL x = nI p := hF.1
    rw [F1]
    refine br_t (nI_pos' (by omega)) ⟨vp_in_nI (by omega) (by decide), ?_⟩
    rw [nI_clamp (by omega), t1]
    by_cases c57 : t p < 57
    · refine br_f nx (pk_lt 56 (t p) (fun z => by omega) (fun _ => ?_))
      exact yw_two W hT hn I' c57 P' N hv h
    · refine br_f nx (pk_lt 56 (t p) (fun _ => pk_eq (t p) 59 (fun z => absurd z h59) (fun _ => ?_)) (fun z => by omega))
      by_cases c60 : t p < 60
      · refine pk_lt (t p) 60 (fun _ => ?_) (fun z => by omega)
        by_cases c58 : t p < 58
        · have h' : ∀ u, yr_R n T (if t p < 57 then _ else if t p < 58 then (match v with
              | .inl a => pm_go (.inl (if a = 0 then tx_e t (tx_e t (p + 1)) else tx_e t (p + 1), s)) K sg nm b PA oc cc mm
              | .inr _ => (.inr v, K, sg, nm, b, PA, oc, cc, mm, 2)) else _) u → post u := h
          rw [if_neg c57, if_pos c58] at h'
          have bad : yr_R n T (.inr v, K, sg, nm, b, PA, oc, cc, mm, 2) (nI n, 2, so, rs, nI oc, nI cc, nI sg.length, nI mm, fr, sp, nI x, nI (K.length + 1), nI b, pc, sc, 1, vk, va, T, PA, PL, SE, AR, KI, VA, OU, TA, NA, NK, NV, NO) := yr_st (by decide)
          have T2 := tx_2 W hp (by omega)
          rcases v with a | ⟨s2, p2⟩ | j
          · refine br_t hv.1 (pk_eq (t p) 57 (fun _ => ?_) (fun z => by omega))
            rw [nI_1]
            refine yt_end W hT hn T1.1 ⟨vx, nm_r (e' := nI s) (by rw [cx]; exact F2) ?_⟩
            refine yw_pop P (fun sp' tp' OU' R => ?_)
            have ev : va = a := hv.2
            have h2 : ∀ u, yr_R n T (pm_go (.inl (if a = 0 then tx_e t (tx_e t (p + 1)) else tx_e t (p + 1), s)) K sg nm b PA oc cc mm) u → post u := h'
            refine br_c (fun z => ?_) (fun z => ?_)
            · rw [if_pos (ev ▸ z)] at h2
              refine yt_end W hT hn T2.1 ?_
              exact h2 _ (yr_go' (by omega) R N ⟨rfl, rfl, rfl⟩)
            · rw [if_neg (ev ▸ z)] at h2
              exact h2 _ (yr_go' (by omega) R N ⟨rfl, rfl, rfl⟩)
          · exact br_f (by rw [hv.1]; decide) (h' _ bad)
          · exact br_f (by rw [hv.1]; decide) (h' _ bad)
        · have h' : ∀ u, yr_R n T (if t p < 57 then _ else if t p < 58 then _ else if t p < 60 then (match v with
              | .inl a => if oc = 16 then (.inr v, K, sg, nm, b, PA, oc, cc, mm, 5) else pm_go (.inr (.inl a)) K sg nm b (upd PA oc a) (oc + 1) cc mm
              | .inr _ => (.inr v, K, sg, nm, b, PA, oc, cc, mm, 2)) else _) u → post u := h
          rw [if_neg c57, if_neg c58, if_pos c60] at h'
          have bad : ∀ e, 2 ≤ e → yr_R n T (.inr v, K, sg, nm, b, PA, oc, cc, mm, e) (nI n, nI e, so, rs, nI oc, nI cc, nI sg.length, nI mm, fr, sp, nI x, nI (K.length + 1), nI b, pc, sc, 1, vk, va, T, PA, PL, SE, AR, KI, VA, OU, TA, NA, NK, NV, NO) := fun e he => yr_st he
          rcases v with a | ⟨s2, p2⟩ | j
          · refine br_t hv.1 (pk_eq (t p) 57 (fun z => by omega) (fun _ => ?_))
            have h2 : ∀ u, yr_R n T (if oc = 16 then (.inr (.inl a), K, sg, nm, b, PA, oc, cc, mm, 5) else pm_go (.inr (.inl a)) K sg nm b (upd PA oc a) (oc + 1) cc mm) u → post u := h'
            refine pk_eq oc 16 (fun c => ?_) (fun c => ⟨vp_in_nI (by omega) (by decide), nm_r (e' := upd PA oc a) (by rw [nI_clamp (by omega), hv.2]) (nm_r (nI_1 oc) ?_)⟩)
            · rw [if_pos c] at h2
              exact h2 _ (bad 5 (by decide))
            · rw [if_neg c] at h2
              refine yw_pop P (fun sp' tp' OU' R => ?_)
              exact h2 _ (yr_go' (by omega) R N ⟨rfl, hv⟩)
          · exact br_f (by rw [hv.1]; decide) (h' _ (bad 2 (by decide)))
          · exact br_f (by rw [hv.1]; decide) (h' _ (bad 2 (by decide)))
      · have h' : ∀ u, yr_R n T (if t p < 57 then _ else if t p < 58 then _ else if t p < 60 then _ else pm_go (.inl (tx_e t (p + 1), b + 1)) K sg (pm_bd nm b (t p % 10) v s) (b + 1) PA oc cc mm) u → post u := h
        rw [if_neg c57, if_neg (by omega), if_neg c60] at h'
        refine pk_lt (t p) 60 (fun z => by omega) (fun _ => ⟨vx, nm_r (e' := nI s) (by rw [cx]; exact F2) ?_⟩)
        refine yw_pop P (fun sp' tp' OU' R => ?_)
        have e6 : nI (t p) - 60 = nI (t p % 10) := by
          rw [show t p % 10 = t p - 60 by omega]
          exact pk_sub (b := 60) (by omega)
        rw [e6]
        refine yw_bind (by omega) ?_
        rw [nI_1]
        refine yt_end W hT hn T1.1 ?_
        exact h' _ (yr_go' (by omega) R (yn_Nadd N hv) ⟨rfl, rfl, rfl⟩)
