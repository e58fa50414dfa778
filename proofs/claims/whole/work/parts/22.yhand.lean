/-! the reference's step: two, hand -/
variable {sz st so rs sh ca sf mo fr sp tp de bo pc sc ha vk va : Int32} {T PA PL SE AR KI VA OU TA NA NK NV NO : Nat → Int32}
theorem pm_Chb {nm : pm_N} {b : Nat} : ∀ (l : List Nat) (s : Nat), pm_Ch nm b l s → s ≤ b
  | [], s, h => by have h' : s = 0 := h; omega
  | _ :: _, _, h => h.2.1
theorem yr_first {K : List pm_F} {sg : List (List pm_F)} {p s x : Nat} {v : pm_V} (P : yr_P (some (p, s, none) :: K) sg fr sp (nI x) PL SE AR KI VA OU TA) (hx : x < 200) (hv : yn_V vk va v) :
    yr_P (some (p, s, some v) :: K) sg fr sp (nI x) PL (upd SE x 1) AR (upd KI x vk) (upd VA x va) OU TA := by
  obtain ⟨ys, zs, ss, fn, h1, h2, h3, h4, h5, h6, h7, h8, h9⟩ := P
  rcases ys with _ | ⟨y, ys⟩
  · exact absurd h2 (fun z => z)
  have N := yn_Qn h5
  have e : x = y := by
    have h7' : nI x = nI y := h7
    rw [nI_eq (by omega) (by omega)] at h7'
    exact h7'
  subst e
  refine ⟨x :: ys, zs, ss, fn, h1, ⟨⟨h2.1.1, h2.1.2.1, yn_us, ?_⟩, yn_Sc ys K (fun w hw => ?_) h2.2⟩, h3, yn_Zc (fun w hw => ?_) h4, h5, h6, h7, h8, h9⟩
  · rw [yn_us, yn_us]; exact hv
  · have e : w ≠ x := fun e => N.1 (e ▸ hw)
    exact ⟨rfl, yn_un e, rfl, yn_un e, yn_un e⟩
  · have e : w ≠ x := fun e => N.2.1 (e ▸ hw)
    exact ⟨rfl, rfl, yn_un e, rfl, yn_un e, yn_un e⟩
theorem yw_call {post : SY → Prop} {t : Nat → Nat} {n : Nat} {w v : pm_V} {k a : Int32} {K : List pm_F} {sg : List (List pm_F)} {nm : pm_N} {b oc cc mm : Nat} (hT : tx_T T t n) (hn : n ≤ 32) (hb : b ≤ 8703)
    (hw : pm_v t n nm b sg.length w) (hA : pm_A t n sg nm b) (hK : K.length ≤ 16) (hKm : K.length ≤ mm) (hm : mm ≤ 16) (hc : cc ≤ 40) (P : yr_P K sg fr sp tp PL SE AR KI VA OU TA) (N : yn_N NA NK NV NO nm b) (hk : yn_V k a w) (hv : yn_V vk va v)
    (h : ∀ u, yr_R n T (pm_cal t w v K sg nm b PA oc cc mm) u → post u) :
    wpY_call post (nI n, 0, so, rs, nI oc, nI cc, nI sg.length, nI mm, fr, sp, tp, nI K.length, nI b, pc, sc, 1, vk, va, T, PA, PL, SE, AR, KI, VA, OU, TA, NA, NK, NV, NO) k a := by
  unfold pm_cal at h
  rcases w with a' | ⟨s, p⟩ | j
  · exact br_t hk.1 (h _ (yr_st (by decide)))
  · obtain ⟨hp, hp4, hs⟩ := hw
    obtain ⟨k1, k2⟩ := hk
    subst k1 k2
    have hsb := pm_Chb _ _ hs
    obtain ⟨t1, t2⟩ := hT p hp
    have h' : ∀ u, yr_R n T (if cc = 40 then (.inr v, K, sg, nm, b, PA, oc, cc, mm, 3) else pm_go (.inl (p + 1, b + 1)) K sg (pm_bd nm b (t p % 10) v s) (b + 1) PA oc (cc + 1) mm) u → post u := h
    refine br_f (by decide) (pk_eq cc 40 (fun c => ?_) (fun c => nm_r (nI_1 cc) (br_t rfl ⟨by decide, nm_r (e' := nI p) ?_ ⟨vp_in_nI (by omega) (by decide), by decide, ?_⟩⟩)))
    · rw [if_pos c] at h'
      exact h' _ (yr_st (by decide))
    · rw [show (64 : Int32) = nI 64 from rfl, pk_rem (by omega) (by omega) (by omega)]
      exact congrArg nI (by omega)
    · rw [if_neg c] at h'
      have e1 : T (nI p).toNatClampNeg - 40 = nI (t p % 10) := by
        rw [nI_clamp (by omega), t1, show t p % 10 = t p - 40 by omega]
        exact pk_sub (b := 40) (by omega)
      have e2 : nI (64 * s + p) / 64 = nI s := by
        rw [show (64 : Int32) = nI 64 from rfl, pk_div (by omega) (by omega) (by omega)]
        exact congrArg nI (by omega)
      rw [e1, e2]
      refine yw_bind (by omega) ?_
      show post _
      rw [nI_1]
      exact h' _ (yr_go' hKm P (yn_Nadd N hv) ⟨rfl, rfl, rfl⟩)
  · have hj : j < sg.length := hw
    obtain ⟨k1, k2⟩ := hk
    subst k1 k2
    have h' : ∀ u, yr_R n T (if cc = 40 then (.inr v, K, sg, nm, b, PA, oc, cc, mm, 3) else if 16 < K.length + 1 + (sg.getD j []).length then (.inr v, K, sg, nm, b, PA, oc, cc + 1, mm, 4) else pm_go (.inr v) (sg.getD j [] ++ none :: K) sg nm b PA oc (cc + 1) mm) u → post u := h
    refine br_f (by decide) (pk_eq cc 40 (fun c => ?_) (fun c => nm_r (nI_1 cc) (br_f (by decide) ?_)))
    · rw [if_pos c] at h'
      exact h' _ (yr_st (by decide))
    · rw [if_neg c] at h'
      refine yw_taken P (yr_Bi hA) hj (fun f hf => ((hA.2.1 _ (yn_gm hj)).2 f hf).1) hm hK (fun c2 fr sp tp PL SE AR KI VA OU R => ?_) (fun c2 => ?_)
      · rw [if_neg (by omega)] at h'
        exact h' _ (yr_go R N ⟨rfl, hv⟩)
      · rw [if_pos c2] at h'
        exact h' _ (yr_st (by decide))
theorem yw_calc {post : Int32 → Prop} {x : Nat} {a c : Int32} (hx : 52 < x) (hx2 : x < 57) (h : post (pm_rk x a c)) : wpY_calculated post (sz, st, so, rs, sh, ca, sf, mo, fr, sp, tp, de, bo, pc, sc, ha, vk, va, T, PA, PL, SE, AR, KI, VA, OU, TA, NA, NK, NV, NO) (nI x) a c := by
  unfold pm_rk at h
  refine pk_eq x 53 (fun e => by rw [if_pos e] at h; exact h) (fun e1 => pk_eq x 54 (fun e => by rw [if_neg e1, if_pos e] at h; exact h) (fun e2 => pk_eq x 55 (fun e => by rw [if_neg e1, if_neg e2, if_pos e] at h; exact h) (fun e3 => ?_)))
  rw [if_neg e1, if_neg e2, if_neg e3] at h
  refine br_c (fun z => ?_) (fun z => ?_)
  · rw [if_neg (Int32.not_lt.mpr z)] at h; exact h
  · rw [if_pos (Int32.not_le.mp z)] at h; exact h
