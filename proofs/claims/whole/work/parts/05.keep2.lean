/-! the same, with a value in hand -/
theorem kp_cal {t : Nat → Nat} {n : Nat} (W : tx_W t n) (hn : n ≤ 32) (hk : ∀ i, i < n → tx_tok (t i)) {w v : pm_V} {K : List pm_F} {sg : List (List pm_F)} {nm : pm_N} {b : Nat} {out : Nat → Int32} {oc cc mo q : Nat}
    (hw : pm_v t n nm b sg.length w) (hv : pm_v t n nm b sg.length v) (hB : pm_B t n K sg.length nm b) (hA : pm_A t n sg nm b) (h1 : oc ≤ 16) (h2 : cc ≤ 40) (h3 : mo ≤ 16)
    (h4 : 2 * b + pm_cs t K + (40 - cc) * 434 + (8 - sg.length) * 2 ≤ 17407) (h5 : pm_ws t K + (40 - cc) * 2000 < q) : pm_J t n q (pm_cal t w v K sg nm b out oc cc mo) := by
  unfold pm_cal
  rcases w with a | ⟨s, p⟩ | j
  · exact fun z => absurd z (by decide)
  · obtain ⟨hp, hp4, hs⟩ := hw
    show pm_J t n q (if cc = 40 then _ else _)
    by_cases c1 : cc = 40
    · rw [if_pos c1]; exact fun z => absurd z (by decide)
    rw [if_neg c1]
    have P := @kp_pt (t p)
    have hpt : tx_pt (t p) = 1 := by omega
    have T := tx_1 W hp (by omega)
    have hG := tx_Gname W hp (by omega) (by omega)
    have X := pm_X_bd nm b sg.length sg.length (t p % 10) v s (Nat.le_refl _)
    have ecm' : pm_cm t (.inl (p + 1, b + 1)) = tx_e t (p + 1) - (p + 1) - 1 := rfl
    have e2 : pm_w t (.inl (p + 1, b + 1)) K (cc + 1) = 3 * (tx_e t (p + 1) - (p + 1)) + pm_ws t K + (40 - (cc + 1)) * 2000 := rfl
    exact kp_go (m := .inl (p + 1, b + 1)) ⟨T.1, by rw [hG]; exact pm_Ch_bd hs⟩ (kp_Bbd hB (Nat.le_refl _)) (kp_Abd hA hv) h1 (by omega) h3 (by omega) (by omega)
  · have hj : j < sg.length := hw
    show pm_J t n q (if cc = 40 then _ else if _ then _ else _)
    by_cases c1 : cc = 40
    · rw [if_pos c1]; exact fun z => absurd z (by decide)
    rw [if_neg c1]
    by_cases c2 : 16 < K.length + 1 + (sg.getD j []).length
    · rw [if_pos c2]; exact fun z => absurd z (by decide)
    rw [if_neg c2]
    have hz : sg.getD j [] ∈ sg := by
      rw [List.getD_eq_getElem?_getD, List.getElem?_eq_getElem hj]
      exact List.getElem_mem hj
    generalize sg.getD j [] = z at c2 hz
    have hz2 := (hA.2.1 z hz).2
    have hb := kp_b t z (fun f hf => kp_cw W hn f (hz2 f hf).2)
    have ea := kp_a t z (none :: K)
    have e1 : pm_cs t (none :: K) = 0 + pm_cs t K := rfl
    have e3 : pm_ws t (none :: K) = 2 + pm_ws t K := rfl
    have e2 : pm_w t (.inr v) (z ++ none :: K) (cc + 1) = 0 + pm_ws t (z ++ none :: K) + (40 - (cc + 1)) * 2000 := rfl
    have ecm : pm_cm t (.inr v) = 0 := rfl
    have hl : (z ++ none :: K).length = z.length + (K.length + 1) := by rw [List.length_append]; rfl
    have hK := kp_Bn hB.2.2
    obtain ⟨K0, eK⟩ := hB.2.2
    refine kp_go (m := .inr v) hv ⟨?_, by omega, ⟨z ++ none :: K0, by rw [eK]; simp⟩⟩ hA h1 (by omega) h3 (by omega) (by omega)
    intro f hf
    rcases List.mem_append.mp hf with y | y
    · exact (hz2 f y).2
    · rcases List.mem_cons.mp y with y | y
      · rw [y]; exact True.intro
      · exact hB.1 f y
theorem kp_hnd {t : Nat → Nat} {n : Nat} (W : tx_W t n) (hn : n ≤ 32) (hk : ∀ i, i < n → tx_tok (t i)) {v : pm_V} {K : List pm_F} {sg : List (List pm_F)} {nm : pm_N} {b : Nat} {out : Nat → Int32} {oc cc mo : Nat}
    (I : pm_I t n (.inr v) K sg nm b oc cc mo) : pm_J t n (pm_w t (.inr v) K cc) (pm_hnd t v K sg nm b out oc cc mo) := by
  obtain ⟨hv, hB, hA, h1, h2, h3, h4, h5⟩ := I
  have ecm : ∀ v : pm_V, pm_cm t (.inr v) = 0 := fun _ => rfl
  have ev := ecm v
  rcases K with _ | ⟨_ | ⟨p, s, o⟩, K⟩
  · exact fun z => absurd z (by decide)
  · show pm_J t n _ (if K.length = 0 then _ else _)
    by_cases c1 : K.length = 0
    · rw [if_pos c1]; exact fun z => absurd z (by decide)
    rw [if_neg c1]
    have e1 : pm_cs t (none :: K) = 0 + pm_cs t K := rfl
    have e2 : pm_w t (.inr v) (none :: K) cc = 0 + (2 + pm_ws t K) + (40 - cc) * 2000 := rfl
    have e3 : pm_w t (.inr v) K cc = 0 + pm_ws t K + (40 - cc) * 2000 := rfl
    exact kp_go (m := .inr v) hv (kp_Bt hB (Or.inr c1)) hA h1 h2 h4 (by omega) (by omega)
  · have hf := hB.1 _ (List.mem_cons_self ..)
    obtain ⟨hp, h56, h59, hs, ho⟩ := hf
    have htk := hk p hp
    unfold tx_tok at htk
    have P := @kp_pt (t p)
    have hpt : 1 ≤ tx_pt (t p) := by omega
    have T := tx_1 W hp hpt
    have hN := tx_nest W T.1 T.2.1.1 T.2.1.2.1
    have hlt := tx_lt W hp
    have hle := tx_le W hp
    have hBt := kp_Bt hB (Or.inl rfl)
    have hBl := hB.2.1
    rw [List.length_cons] at hBl
    have e3 : ∀ v : pm_V, pm_w t (.inr v) K cc = 0 + pm_ws t K + (40 - cc) * 2000 := fun _ => rfl
    show pm_J t n _ (if t p < 57 then _ else _)
    by_cases c1 : t p < 57
    · rw [if_pos c1]
      have T2 := tx_2 W hp (by omega)
      have hE := tx_2e W hp (by omega)
      rcases o with _ | w
      · have e1 : pm_cs t (some (p, s, none) :: K) = tx_e t p - tx_e t (p + 1) + 1 + pm_cs t K := rfl
        have e2 : pm_w t (.inr v) (some (p, s, none) :: K) cc = 0 + (3 * (tx_e t p - tx_e t (p + 1)) + 2 + pm_ws t K) + (40 - cc) * 2000 := rfl
        have f1 : pm_cs t (some (p, s, some v) :: K) = 0 + pm_cs t K := rfl
        have f2 : pm_w t (.inl (tx_e t (p + 1), s)) (some (p, s, some v) :: K) cc = 3 * (tx_e t (tx_e t (p + 1)) - tx_e t (p + 1)) + (1 + pm_ws t K) + (40 - cc) * 2000 := rfl
        have f3 : pm_cm t (.inl (tx_e t (p + 1), s)) = tx_e t (tx_e t (p + 1)) - tx_e t (p + 1) - 1 := rfl
        obtain ⟨K0, eK⟩ := hBt.2.2
        refine kp_go (m := .inl (tx_e t (p + 1), s)) ⟨T2.1, ?_⟩ ⟨?_, ?_, ⟨some (p, s, some v) :: K0, by rw [eK]; rfl⟩⟩ hA h1 h2 h4 (by omega) (by omega)
        · rw [tx_Gop1 W hp (by omega) (by omega)]; exact hs
        · intro f hf
          rcases List.mem_cons.mp hf with z | z
          · rw [z]; exact ⟨hp, h56, h59, hs, c1, hv⟩
          · exact hBt.1 f z
        · rw [List.length_cons]; omega
      · have e1 : pm_cs t (some (p, s, some w) :: K) = 0 + pm_cs t K := rfl
        have e2 : pm_w t (.inr v) (some (p, s, some w) :: K) cc = 0 + (1 + pm_ws t K) + (40 - cc) * 2000 := rfl
        show pm_J t n _ (if t p = 52 then _ else _)
        by_cases c2 : t p = 52
        · rw [if_pos c2]
          exact kp_cal W hn hk ho.2 hv hBt hA h1 h2 h4 (by omega) (by omega)
        · rw [if_neg c2]
          rcases w with a | w
          · rcases v with d | v
            · exact kp_go (m := .inr (.inl (pm_rk (t p) a d))) True.intro hBt hA h1 h2 h4 (by have := ecm (.inl (pm_rk (t p) a d)); omega) (by have := e3 (.inl (pm_rk (t p) a d)); omega)
            · exact fun z => absurd z (by decide)
          · exact fun z => absurd z (by decide)
    rw [if_neg c1]
    have ho' : o = none := by
      rcases o with _ | w
      · rfl
      · exact absurd ho.1 c1
    subst ho'
    have e1 : pm_cs t (some (p, s, none) :: K) = tx_e t p - tx_e t (p + 1) + 1 + pm_cs t K := rfl
    have e2 : pm_w t (.inr v) (some (p, s, none) :: K) cc = 0 + (3 * (tx_e t p - tx_e t (p + 1)) + 2 + pm_ws t K) + (40 - cc) * 2000 := rfl
    by_cases c2 : t p < 58
    · rw [if_pos c2]
      rcases v with a | v
      · have T2 := tx_2 W hp (by omega)
        have T3 := tx_3 W hp (by omega)
        have L3 := tx_lt W T3.1
        show pm_J t n _ (pm_go _ _ _ _ _ _ _ _ _)
        by_cases c3 : a = 0
        · rw [if_pos c3]
          have f2 : pm_w t (.inl (tx_e t (tx_e t (p + 1)), s)) K cc = 3 * (tx_e t (tx_e t (tx_e t (p + 1))) - tx_e t (tx_e t (p + 1))) + pm_ws t K + (40 - cc) * 2000 := rfl
          have f3 : pm_cm t (.inl (tx_e t (tx_e t (p + 1)), s)) = tx_e t (tx_e t (tx_e t (p + 1))) - tx_e t (tx_e t (p + 1)) - 1 := rfl
          exact kp_go (m := .inl (tx_e t (tx_e t (p + 1)), s)) ⟨T3.1, by rw [tx_Gop2 W hp (by omega) (by omega)]; exact hs⟩ hBt hA h1 h2 h4 (by omega) (by omega)
        · rw [if_neg c3]
          have f2 : pm_w t (.inl (tx_e t (p + 1), s)) K cc = 3 * (tx_e t (tx_e t (p + 1)) - tx_e t (p + 1)) + pm_ws t K + (40 - cc) * 2000 := rfl
          have f3 : pm_cm t (.inl (tx_e t (p + 1), s)) = tx_e t (tx_e t (p + 1)) - tx_e t (p + 1) - 1 := rfl
          exact kp_go (m := .inl (tx_e t (p + 1), s)) ⟨T2.1, by rw [tx_Gop1 W hp (by omega) (by omega)]; exact hs⟩ hBt hA h1 h2 h4 (by omega) (by omega)
      · exact fun z => absurd z (by decide)
    rw [if_neg c2]
    by_cases c3 : t p < 60
    · rw [if_pos c3]
      rcases v with a | v
      · show pm_J t n _ (if oc = 16 then _ else _)
        by_cases c4 : oc = 16
        · rw [if_pos c4]; exact fun z => absurd z (by decide)
        rw [if_neg c4]
        exact kp_go (m := .inr (.inl a)) True.intro hBt hA (by omega) h2 h4 (by omega) (by have := e3 (.inl a); omega)
      · exact fun z => absurd z (by decide)
    rw [if_neg c3]
    have T2 := tx_2 W hp (by omega)
    have hE := tx_2e W hp (by omega)
    have f2 : pm_w t (.inl (tx_e t (p + 1), b + 1)) K cc = 3 * (tx_e t (tx_e t (p + 1)) - tx_e t (p + 1)) + pm_ws t K + (40 - cc) * 2000 := rfl
    have f3 : pm_cm t (.inl (tx_e t (p + 1), b + 1)) = tx_e t (tx_e t (p + 1)) - tx_e t (p + 1) - 1 := rfl
    exact kp_go (m := .inl (tx_e t (p + 1), b + 1)) ⟨T2.1, by rw [tx_Glet1 W hp (by omega) (by omega)]; exact pm_Ch_bd hs⟩ (kp_Bbd hBt (Nat.le_refl _)) (kp_Abd hA hv) h1 h2 h4 (by omega) (by omega)
theorem kp_step {t : Nat → Nat} {n : Nat} (W : tx_W t n) (hn : n ≤ 32) (hk : ∀ i, i < n → tx_tok (t i)) {m : pm_M} {K : List pm_F} {sg : List (List pm_F)} {nm : pm_N} {b : Nat} {out : Nat → Int32} {oc cc mo : Nat}
    (I : pm_I t n m K sg nm b oc cc mo) : pm_J t n (pm_w t m K cc) (pm_step t m K sg nm b out oc cc mo) := by
  rcases m with ⟨p, s⟩ | v
  · exact kp_evl W hn hk I
  · exact kp_hnd W hn hk I
theorem kp_bb (t : Nat → Nat) (n : Nat) {m : pm_M} {K : List pm_F} {sg : List (List pm_F)} {nm : pm_N} {b oc cc mo : Nat} (I : pm_I t n m K sg nm b oc cc mo) : b ≤ 8703 := by
  have := I.2.2.2.2.2.2.2
  omega
theorem kp_0n {t : Nat → Nat} {n : Nat} (W : tx_W t n) : 0 < n := by
  rcases Nat.eq_zero_or_pos n with z | z
  · have h := W.1
    rw [z] at h
    exact absurd h (by show ¬ (1 : Int) = 0; omega)
  · exact z
theorem kp_0 {t : Nat → Nat} {n : Nat} (W : tx_W t n) (hn : n ≤ 32) (nm : pm_N) : pm_I t n (.inl (0, 0)) [none] [] nm 0 0 0 1 ∧ pm_w t (.inl (0, 0)) [none] 0 ≤ 90000 := by
  have h0 := kp_0n W
  have hle := tx_le W h0
  have e1 : pm_cm t (.inl (0, 0)) = tx_e t 0 - 0 - 1 := rfl
  have e2 : pm_cs t [none] = 0 + 0 := rfl
  have e3 : pm_w t (.inl (0, 0)) [none] 0 = 3 * (tx_e t 0 - 0) + (2 + 0) + (40 - 0) * 2000 := rfl
  refine ⟨⟨⟨h0, rfl⟩, ⟨?_, by decide, ⟨[], rfl⟩⟩, ⟨by decide, (fun z hz => absurd hz (by simp)), (fun i h1 h2 => by omega)⟩, by omega, by omega, by decide, by omega, ?_⟩, by omega⟩
  · intro f hf
    rw [List.mem_singleton.mp hf]; exact True.intro
  · rw [e1, e2]
    show 2 * 0 + (tx_e t 0 - 0 - 1) + (0 + 0) + (40 - 0) * 434 + (8 - 0) * 2 ≤ 17407
    omega
