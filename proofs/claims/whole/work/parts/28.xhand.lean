/-! the component's step: handBack -/
variable {tc pe lc uc tk rc pc en : Int32} {va : Int64} {oc cc sc dp ed : Int32} {T ES HP FT FE : Nat → Int32} {FF : Nat → Int64} {SZ : Nat → Int32} {CV : Nat → Int64} {CN MK RE OU : Nat → Int32}
theorem xv_nz {L : Nat → Prop} {f : Nat → Nat} {l : Int64} {v : pm_V} (h : xm_V L f l v) : ¬ l = 0 := by
  rcases v with a | ⟨s, p⟩ | j
  · have e : l = xm_vo 1 a := h
    rw [e]; exact xv_ne (by decide) (by decide) a
  · obtain ⟨c, e, _⟩ := h
    rw [e]; exact xv_ne (by decide) (by decide) _
  · rw [h.1]; exact xv_ne (by decide) (by decide) _
theorem xw_98 {post : SX → Prop} {t : Nat → Nat} {n d0 k0 ln p s c : Nat} {L : Nat → Prop} {f : Nat → Nat} {fl : List Nat} {o : Option pm_V} {v : pm_V} {K : List pm_F} {sg : List (List pm_F)} {nm : pm_N} {b o1 c1 mm : Nat} (W : tx_W t n) (hT : tx_T T t n) (hn : n ≤ 32) (hE : xt_E ES t 0 n) (hd : 1 ≤ d0)
    (I : pm_I t n (.inr v) (some (p, s, o) :: K) sg nm b o1 c1 mm) (ho2 : t p < 57 → ∃ w, o = some w) (h8 : 8 ≤ ln) (hl : ln ≤ 8 + b) (hR : xm_R L f FT FE FF 0 (some (p, s, o) :: K)) (hG : xm_G L f FT FE FF SZ sg) (hH : xm_H L f CV CN nm b ln) (hU : xm_U L CN ln fl) (hv : xm_V L f va v) (hc : xm_E L f c s) (hen : FE K.length = nI c)
    (h : ∀ u, xr_Q n T ES HP d0 k0 (pm_hnd t v (some (p, s, o) :: K) sg nm b OU o1 c1 mm) u → post u) :
    wX_handBack_98 post (nI K.length) (nI p) (nI (t p)) (nI n) (nI (K.length + 1)) (nI ln) (nI (yn_hd fl)) (nI k0) rc (-1) (nI c) va (nI o1) (nI c1) (nI sg.length) (nI d0) 0 T ES HP FT FE FF SZ CV CN MK RE OU := by
  have hbb := kp_bb t n I
  obtain ⟨hpv, hB, hA, i1, i2, i3, i4, i5⟩ := I
  obtain ⟨hp, h56, h59, hs, ho⟩ := hB.1 _ (List.mem_cons_self ..)
  obtain ⟨t1, t2⟩ := hT p hp
  have t3 := tx_t120 t2
  unfold tx_tok at t2
  have Pp := @kp_pt (t p)
  have T1 := tx_1 W hp (by omega)
  have hBl := hB.2.1
  rw [List.length_cons] at hBl i3
  have hR2 : xm_R L f FT FE FF 0 K := hR.2
  obtain ⟨r1, r2, r3⟩ := hR.1
  rw [Nat.zero_add] at r1 r3
  have ck : (nI K.length).toNatClampNeg = K.length := nI_clamp (by omega)
  have vk : vp_in (nI K.length) 144 := vp_in_nI (by omega) (by decide)
  have cp : (nI (p + 1)).toNatClampNeg = p + 1 := nI_clamp (by omega)
  have vp : vp_in (nI (p + 1)) 32 := vp_in_nI (by omega) (by decide)
  have ee : ES (p + 1) = nI (tx_e t (p + 1)) := hE (p + 1) (by omega) T1.1
  by_cases c57 : t p < 57
  · obtain ⟨w, ew⟩ := ho2 c57
    subst ew
    by_cases c52 : t p = 52
    · have h' : ∀ u, xr_Q n T ES HP d0 k0 (if t p < 57 then (if t p = 52 then pm_cal t w v K sg nm b OU o1 c1 mm else _) else _) u → post u := h
      rw [if_pos c57, if_pos c52] at h'
      refine br_t (by rw [c52]; rfl) ⟨vk, ?_⟩
      rw [ck]
      exact xw_call hn hbb hd ho.2 hA (by omega) (by omega) i2 h8 hl hR2 hG hH hU r3 hv h'
    · refine pk_eq (t p) 52 (fun q => absurd q c52) (fun _ => pk_lt 56 (t p) (fun q => by omega) (fun _ => ⟨vk, ?_⟩))
      rw [ck]
      have h' : ∀ u, xr_Q n T ES HP d0 k0 (if t p < 57 then (if t p = 52 then pm_cal t w v K sg nm b OU o1 c1 mm else (match w, v with
          | .inl a, .inl c => pm_go (.inr (.inl (pm_rk (t p) a c))) K sg nm b OU o1 c1 mm
          | _, _ => (.inr v, K, sg, nm, b, OU, o1, c1, mm, 2))) else _) u → post u := h
      rw [if_pos c57, if_neg c52] at h'
      have bad : xr_Q n T ES HP d0 k0 (.inr v, K, sg, nm, b, OU, o1, c1, mm, 2) (nI n, nI K.length, nI ln, nI (yn_hd fl), nI k0, rc, -1, nI c, va, nI o1, nI c1, nI sg.length, nI d0, 2, T, ES, HP, FT, FE, FF, SZ, CV, CN, MK, RE, OU) := xr_st (by decide) (by omega) (fun z => by omega)
      rcases w with a | ⟨s2, p2⟩ | j
      · have e1 : FF K.length = xm_vo 1 a := r3
        rw [e1]
        rcases v with d | ⟨s2, p2⟩ | j
        · have e2 : va = xm_vo 1 d := hv
          subst e2
          refine xw_reckon (by omega) c57 ?_
          exact h' _ (xr_go ⟨L, f, fl, ln, rfl, rfl, h8, hl, rfl, hR2, hG, hH, hU, rfl, rfl⟩ (Or.inl rfl))
        · obtain ⟨c', e2, _⟩ := hv
          subst e2
          unfold wpX_reckon
          exact xw_kind (by decide) (br_t rfl (xw_kind (by decide) (br_f (by decide) (h' _ bad))))
        · obtain ⟨e2, _⟩ := hv
          subst e2
          unfold wpX_reckon
          exact xw_kind (by decide) (br_t rfl (xw_kind (by decide) (br_f (by decide) (h' _ bad))))
      · obtain ⟨c', e1, _⟩ := r3
        rw [e1]
        unfold wpX_reckon
        exact xw_kind (by decide) (br_f (by decide) (h' _ bad))
      · rw [r3.1]
        unfold wpX_reckon
        exact xw_kind (by decide) (br_f (by decide) (h' _ bad))
  · refine pk_eq (t p) 52 (fun q => by omega) (fun _ => pk_lt 56 (t p) (fun _ => ?_) (fun q => by omega))
    by_cases c58 : t p < 58
    · have h' : ∀ u, xr_Q n T ES HP d0 k0 (if t p < 57 then _ else if t p < 58 then (match v with
          | .inl a => pm_go (.inl (if a = 0 then tx_e t (tx_e t (p + 1)) else tx_e t (p + 1), s)) K sg nm b OU o1 c1 mm
          | .inr _ => (.inr v, K, sg, nm, b, OU, o1, c1, mm, 2)) else _) u → post u := h
      rw [if_neg c57, if_pos c58] at h'
      have T2 := tx_2 W hp (by omega)
      have bad : xr_Q n T ES HP d0 k0 (.inr v, K, sg, nm, b, OU, o1, c1, mm, 2) (nI n, nI K.length, nI ln, nI (yn_hd fl), nI k0, rc, -1, nI c, va, nI o1, nI c1, nI sg.length, nI d0, 2, T, ES, HP, FT, FE, FF, SZ, CV, CN, MK, RE, OU) := xr_st (by decide) (by omega) (fun z => by omega)
      refine pk_eq (t p) 57 (fun _ => ?_) (fun q => by omega)
      rw [nI_1]
      refine ⟨vp, ?_⟩
      rw [cp, ee]
      unfold wpX_choose
      rcases v with a | ⟨s2, p2⟩ | j
      · have e2 : va = xm_vo 1 a := hv
        subst e2
        have h2 : ∀ u, xr_Q n T ES HP d0 k0 (pm_go (.inl (if a = 0 then tx_e t (tx_e t (p + 1)) else tx_e t (p + 1), s)) K sg nm b OU o1 c1 mm) u → post u := h'
        refine xw_kind (by decide) (br_t rfl ?_)
        rw [xv_ct]
        refine br_c (fun z => ⟨vp_in_nI (by omega) (by decide), nm_r (e' := nI (tx_e t (tx_e t (p + 1)))) ?_ ?_⟩) (fun z => ?_)
        · rw [nI_clamp (by omega)]; exact hE _ (by omega) T2.1
        · rw [if_pos z] at h2
          exact h2 _ (xr_go ⟨L, f, fl, ln, rfl, rfl, h8, hl, rfl, hR2, hG, hH, hU, rfl, c, rfl, hc⟩ (Or.inl rfl))
        · rw [if_neg z] at h2
          exact h2 _ (xr_go ⟨L, f, fl, ln, rfl, rfl, h8, hl, rfl, hR2, hG, hH, hU, rfl, c, rfl, hc⟩ (Or.inl rfl))
      · obtain ⟨c', e2, _⟩ := hv
        subst e2
        exact xw_kind (by decide) (br_f (by decide) (h' _ bad))
      · obtain ⟨e2, _⟩ := hv
        subst e2
        exact xw_kind (by decide) (br_f (by decide) (h' _ bad))
    refine pk_eq (t p) 57 (fun q => by omega) (fun _ => ?_)
    by_cases c60 : t p < 60
    · have h' : ∀ u, xr_Q n T ES HP d0 k0 (if t p < 57 then _ else if t p < 58 then _ else if t p < 60 then (match v with
          | .inl a => if o1 = 16 then (.inr v, K, sg, nm, b, OU, o1, c1, mm, 5) else pm_go (.inr (.inl a)) K sg nm b (upd OU o1 a) (o1 + 1) c1 mm
          | .inr _ => (.inr v, K, sg, nm, b, OU, o1, c1, mm, 2)) else _) u → post u := h
      rw [if_neg c57, if_neg c58, if_pos c60] at h'
      have bad : ∀ e, 2 ≤ e → xr_Q n T ES HP d0 k0 (.inr v, K, sg, nm, b, OU, o1, c1, mm, e) (nI n, nI K.length, nI ln, nI (yn_hd fl), nI k0, rc, -1, nI c, va, nI o1, nI c1, nI sg.length, nI d0, nI e, T, ES, HP, FT, FE, FF, SZ, CV, CN, MK, RE, OU) := fun e he => xr_st he (by omega) (fun z => by omega)
      refine pk_eq (t p) 58 (fun _ => ?_) (fun q => by omega)
      unfold wpX_putOut
      rcases v with a | ⟨s2, p2⟩ | j
      · have e2 : va = xm_vo 1 a := hv
        subst e2
        have h2 : ∀ u, xr_Q n T ES HP d0 k0 (if o1 = 16 then (.inr (.inl a), K, sg, nm, b, OU, o1, c1, mm, 5) else pm_go (.inr (.inl a)) K sg nm b (upd OU o1 a) (o1 + 1) c1 mm) u → post u := h'
        refine xw_kind (by decide) (br_t rfl ?_)
        rw [xv_ct]
        refine pk_eq o1 16 (fun q => ?_) (fun q => ⟨vp_in_nI (by omega) (by decide), nm_r (e' := upd OU o1 a) (by rw [nI_clamp (by omega)]) (nm_r (nI_1 o1) ?_)⟩)
        · rw [if_pos q] at h2
          exact h2 _ (bad 5 (by decide))
        · rw [if_neg q] at h2
          exact h2 _ (xr_go ⟨L, f, fl, ln, rfl, rfl, h8, hl, rfl, hR2, hG, hH, hU, rfl, rfl⟩ (Or.inl rfl))
      · obtain ⟨c', e2, _⟩ := hv
        subst e2
        exact xw_kind (by decide) (br_f (by decide) (h' _ (bad 2 (by decide))))
      · obtain ⟨e2, _⟩ := hv
        subst e2
        exact xw_kind (by decide) (br_f (by decide) (h' _ (bad 2 (by decide))))
    · have h' : ∀ u, xr_Q n T ES HP d0 k0 (if t p < 57 then _ else if t p < 58 then _ else if t p < 60 then _ else pm_go (.inl (tx_e t (p + 1), b + 1)) K sg (pm_bd nm b (t p % 10) v s) (b + 1) OU o1 c1 mm) u → post u := h
      rw [if_neg c57, if_neg c58, if_neg c60] at h'
      refine pk_eq (t p) 58 (fun q => by omega) (fun _ => ?_)
      refine xw_bind (y := t p % 10) hbb h8 hl hR2 hG hH hU hv hc (fun lc' uc' en' CV' CN' Q => ?_)
      show vp_in (nI p + 1) 32 ∧ _
      rw [nI_1]
      refine ⟨vp, nm_r (e' := nI (tx_e t (p + 1))) (by rw [cp]; exact ee) ?_⟩
      exact h' _ (xr_go (Q _) (Or.inr ⟨rfl, _, _, rfl⟩))
theorem xw_hand {post : SX → Prop} {t : Nat → Nat} {n d0 k0 : Nat} {v : pm_V} {K : List pm_F} {sg : List (List pm_F)} {nm : pm_N} {b o1 c1 mm : Nat} (W : tx_W t n) (hT : tx_T T t n) (hn : n ≤ 32) (hE : xt_E ES t 0 n) (hd : 1 ≤ d0)
    (I : pm_I t n (.inr v) K sg nm b o1 c1 mm) (P : xr_P (.inr v) K sg nm b pe lc uc pc en va FT FE FF SZ CV CN)
    (h : ∀ u, xr_Q n T ES HP d0 k0 (pm_hnd t v K sg nm b OU o1 c1 mm) u → post u) :
    wpX_handBack post (nI n, pe, lc, uc, nI k0, rc, pc, en, va, nI o1, nI c1, nI sg.length, nI d0, 0, T, ES, HP, FT, FE, FF, SZ, CV, CN, MK, RE, OU) := by
  have I' := I
  obtain ⟨hpv, hB, hA, i1, i2, i3, i4, i5⟩ := I
  rcases K with _ | ⟨g, K⟩
  · obtain ⟨K0, e⟩ := hB.2.2
    exact absurd (congrArg List.length e) (by simp)
  obtain ⟨L, f, fl, ln, e1, e2, h8, hl, e3, hR, hG, hH, hU, e4, hv⟩ := P
  subst e2 e3 e4
  have e1' : pe = nI (K.length + 1) := e1
  subst e1'
  have hBl := hB.2.1
  rw [List.length_cons] at hBl i3
  have ck : (nI K.length).toNatClampNeg = K.length := nI_clamp (by omega)
  have vk : vp_in (nI K.length) 144 := vp_in_nI (by omega) (by decide)
  have hR1 := hR.1
  rw [Nat.zero_add] at hR1
  refine nm_r (nI_pred K.length) ⟨vk, ?_⟩
  rw [ck]
  rcases g with _ | ⟨p, s, o⟩
  · refine nm_r hR1.1 (br_t rfl ?_)
    have h' : ∀ u, xr_Q n T ES HP d0 k0 (if K.length = 0 then (.inr v, K, sg, nm, b, OU, o1, c1, mm, 1) else pm_go (.inr v) K sg nm b OU o1 c1 mm) u → post u := h
    refine pk_eq K.length 0 (fun c => ?_) (fun c => ?_)
    · rw [if_pos c] at h'
      exact h' _ ⟨rfl, rfl, rfl, rfl, rfl, rfl, rfl, rfl, rfl, rfl, fun z => absurd z (by decide), fun _ => ⟨v, L, f, rfl, hv⟩, fun _ => ⟨rfl, K.length, rfl, by omega, fun z => by omega⟩⟩
    · rw [if_neg c] at h'
      exact h' _ (xr_go ⟨L, f, fl, ln, rfl, rfl, h8, hl, rfl, hR.2, hG, hH, hU, rfl, hv⟩ (Or.inl rfl))
  · obtain ⟨hp, h56, h59, hs, ho⟩ := hB.1 _ (List.mem_cons_self ..)
    obtain ⟨t1, t2⟩ := hT p hp
    have t3 := tx_t120 t2
    unfold tx_tok at t2
    have Pp := @kp_pt (t p)
    have T1 := tx_1 W hp (by omega)
    obtain ⟨r1, ⟨c, r2, hc⟩, r3⟩ := hR1
    refine nm_r r1 (br_f (ys_ne (by omega)) ⟨vp_in_nI (by omega) (by decide), nm_r (e' := nI (t p)) (by rw [nI_clamp (by omega)]; exact t1) ⟨vk, nm_r (e' := nI c) r2 ?_⟩⟩)
    refine pk_lt 56 (t p) (fun q => ?_) (fun q => ⟨vk, ?_⟩)
    · exact xw_98 W hT hn hE hd I' (fun z => by omega) h8 hl hR hG hH hU hv hc r2 h
    rcases o with _ | w
    · have h' : ∀ u, xr_Q n T ES HP d0 k0 (if t p < 57 then pm_go (.inl (tx_e t (p + 1), s)) (some (p, s, some v) :: K) sg nm b OU o1 c1 mm else _) u → post u := h
      rw [if_pos (by omega)] at h'
      refine br_t r3 ⟨vk, nm_r (e' := vp_updL FF K.length va) rfl ?_⟩
      rw [nI_1]
      refine ⟨vp_in_nI (by omega) (by decide), nm_r (e' := nI (tx_e t (p + 1))) (by rw [nI_clamp (by omega)]; exact hE (p + 1) (by omega) T1.1) ?_⟩
      have R2 : xm_R L f FT FE (vp_updL FF K.length va) 0 (some (p, s, some v) :: K) := by
        refine ⟨?_, xm_Rc K (fun i hi => ⟨rfl, rfl, pk_uLn (by omega)⟩) hR.2⟩
        rw [Nat.zero_add, pk_uLs]
        exact ⟨r1, ⟨c, r2, hc⟩, hv⟩
      have G2 : xm_G L f FT FE (vp_updL FF K.length va) SZ sg := xm_Gc hG (fun x hx => (hH x hx).1) (fun j hj => ⟨rfl, rfl, pk_uLn (by omega)⟩)
      exact h' _ (xr_go (K := some (p, s, some v) :: K) ⟨L, f, fl, ln, rfl, rfl, h8, hl, rfl, R2, G2, hH, hU, rfl, c, rfl, hc⟩ (Or.inl rfl))
    · refine br_f (xv_nz r3) ?_
      exact xw_98 W hT hn hE hd I' (fun _ => ⟨w, rfl⟩) h8 hl hR hG hH hU hv hc r2 h
