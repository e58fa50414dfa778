/-! a step keeps what is well formed, and leaves less to do -/
theorem kp_a (t : Nat → Nat) (z K : List pm_F) : pm_cs t (z ++ K) = pm_cs t z + pm_cs t K ∧ pm_ws t (z ++ K) = pm_ws t z + pm_ws t K := by
  induction z with
  | nil => exact ⟨(Nat.zero_add _).symm, (Nat.zero_add _).symm⟩
  | cons f z ih =>
    have e1 : pm_cs t ((f :: z) ++ K) = pm_cf t f + pm_cs t (z ++ K) := rfl
    have e2 : pm_ws t ((f :: z) ++ K) = pm_wf t f + pm_ws t (z ++ K) := rfl
    have e3 : pm_cs t (f :: z) = pm_cf t f + pm_cs t z := rfl
    have e4 : pm_ws t (f :: z) = pm_wf t f + pm_ws t z := rfl
    omega
theorem kp_b (t : Nat → Nat) (z : List pm_F) (h : ∀ f, f ∈ z → pm_cf t f ≤ 31 ∧ pm_wf t f ≤ 100) : pm_cs t z ≤ z.length * 31 ∧ pm_ws t z ≤ z.length * 100 := by
  induction z with
  | nil => exact ⟨Nat.zero_le _, Nat.zero_le _⟩
  | cons f z ih =>
    have e3 : pm_cs t (f :: z) = pm_cf t f + pm_cs t z := rfl
    have e4 : pm_ws t (f :: z) = pm_wf t f + pm_ws t z := rfl
    have h1 := h f (List.mem_cons_self ..)
    have h2 := ih (fun g hg => h g (List.mem_cons_of_mem _ hg))
    rw [List.length_cons]
    omega
theorem kp_pt {x : Nat} : (x < 40 → tx_pt x = 0) ∧ (40 ≤ x → x < 50 → tx_pt x = 1) ∧ (50 ≤ x → x < 57 → tx_pt x = 2) ∧ (x = 57 → tx_pt x = 3) ∧ (58 ≤ x → x < 60 → tx_pt x = 1) ∧ (60 ≤ x → x < 70 → tx_pt x = 2) ∧ (70 ≤ x → x < 80 → tx_pt x = 1) ∧ (80 ≤ x → tx_pt x = 0) := by
  unfold tx_pt
  refine ⟨fun a => ?_, fun a c => ?_, fun a c => ?_, fun a => ?_, fun a c => ?_, fun a c => ?_, fun a c => ?_, fun a => ?_⟩ <;>
    repeat (first | rw [if_pos (by omega)] | rw [if_neg (by omega)])
theorem kp_cw {t : Nat → Nat} {n : Nat} (W : tx_W t n) (hn : n ≤ 32) {nm : pm_N} {b c : Nat} (f : pm_F) (hf : pm_f t n nm b c f) : pm_cf t f ≤ 31 ∧ pm_wf t f ≤ 100 := by
  rcases f with _ | ⟨p, s, o⟩
  · exact ⟨Nat.zero_le _, by show 2 ≤ 100; omega⟩
  · rcases o with _ | v
    · have hp := hf.1
      have h1 : 1 ≤ tx_pt (t p) := by
        have P := @kp_pt (t p)
        have h5 := hf.2.1
        omega
      have T := tx_1 W hp h1
      have L := tx_le W hp
      have e1 : pm_cf t (some (p, s, none)) = tx_e t p - tx_e t (p + 1) + 1 := rfl
      have e2 : pm_wf t (some (p, s, none)) = 3 * (tx_e t p - tx_e t (p + 1)) + 2 := rfl
      omega
    · exact ⟨Nat.zero_le _, by show 1 ≤ 100; omega⟩
theorem kp_look {t : Nat → Nat} {n : Nat} {nm : pm_N} {b c x : Nat} {v : pm_V} (h : ∀ i, 1 ≤ i → i ≤ b → pm_v t n nm b c (nm i).2.1) : ∀ (l : List Nat) (s : Nat), pm_Ch nm b l s → pm_look nm l x s = some v → pm_v t n nm b c v := by
  intro l
  induction l with
  | nil => intro s _ e; exact absurd e (by simp [pm_look])
  | cons y l ih =>
    intro s hs e
    rw [pm_look] at e
    by_cases c1 : y = x
    · rw [if_pos c1] at e
      have e' := Option.some.inj e
      rw [← e']
      exact h s hs.1 hs.2.1
    · rw [if_neg c1] at e
      exact ih _ hs.2.2.2 e
theorem kp_tl {f : pm_F} {K : List pm_F} (h : ∃ K0, f :: K = K0 ++ [none]) (hk : f.isSome = true ∨ K.length ≠ 0) : ∃ K0, K = K0 ++ [none] := by
  obtain ⟨K0, e⟩ := h
  rcases K0 with _ | ⟨g, K0⟩
  · have e' : f = none ∧ K = [] := by
      have := List.cons.inj e
      exact this
    rcases hk with z | z
    · rw [e'.1] at z; exact absurd z (by decide)
    · rw [e'.2] at z; exact absurd rfl z
  · exact ⟨K0, (List.cons.inj e).2⟩
theorem kp_cut : ∀ (K : List pm_F), (∃ K0, K = K0 ++ [none]) → ∃ z K1, K.takeWhile Option.isSome = z ∧ K.dropWhile Option.isSome = none :: K1 ∧ K = z ++ none :: K1 ∧ (∀ f, f ∈ z → f.isSome = true) ∧ ∃ K0, none :: K1 = K0 ++ [none] := by
  intro K
  induction K with
  | nil => rintro ⟨K0, e⟩; exact absurd (congrArg List.length e) (by simp)
  | cons f K ih =>
    intro h
    rcases f with _ | f
    · exact ⟨[], K, rfl, rfl, rfl, (fun f hf => absurd hf (by simp)), h⟩
    · obtain ⟨z, K1, e1, e2, e3, e4, e5⟩ := ih (kp_tl h (Or.inl rfl))
      refine ⟨some f :: z, K1, ?_, ?_, by rw [e3]; rfl, ?_, e5⟩
      · rw [← e1]; rfl
      · rw [← e2]; rfl
      · intro g hg
        rcases List.mem_cons.mp hg with hg | hg
        · rw [hg]; rfl
        · exact e4 g hg
theorem kp_go {t : Nat → Nat} {n w : Nat} {m : pm_M} {K : List pm_F} {sg : List (List pm_F)} {nm : pm_N} {b : Nat} {out : Nat → Int32} {oc cc mo : Nat}
    (hm : pm_m t n nm b sg.length m) (hB : pm_B t n K sg.length nm b) (hA : pm_A t n sg nm b) (h1 : oc ≤ 16) (h2 : cc ≤ 40) (h3 : mo ≤ 16)
    (h4 : 2 * b + pm_cm t m + pm_cs t K + (40 - cc) * 434 + (8 - sg.length) * 2 ≤ 17407) (h5 : pm_w t m K cc < w) : pm_J t n w (pm_go m K sg nm b out oc cc mo) :=
  fun _ => ⟨⟨hm, hB, hA, h1, h2, Nat.le_max_right _ _, Nat.max_le.mpr ⟨h3, hB.2.1⟩, h4⟩, h5⟩
theorem kp_Abd {t : Nat → Nat} {n x o b : Nat} {v : pm_V} {sg : List (List pm_F)} {nm : pm_N} (h : pm_A t n sg nm b) (hv : pm_v t n nm b sg.length v) : pm_A t n sg (pm_bd nm b x v o) (b + 1) := by
  have X := pm_X_bd nm b sg.length sg.length x v o (Nat.le_refl _)
  refine ⟨h.1, fun z hz => ⟨(h.2.1 z hz).1, fun f hf => ⟨((h.2.1 z hz).2 f hf).1, pm_f_x X f ((h.2.1 z hz).2 f hf).2⟩⟩, fun i h1 h2 => ?_⟩
  rcases Nat.lt_or_ge b i with c | c
  · have e : i = b + 1 := by omega
    rw [e, pm_bd_s]
    exact pm_v_x X v hv
  · rw [X.2.2 i c]
    exact pm_v_x X _ (h.2.2 i h1 c)
theorem kp_Bbd {t : Nat → Nat} {n x o b c c' : Nat} {v : pm_V} {K : List pm_F} {nm : pm_N} (h : pm_B t n K c nm b) (hc : c ≤ c') : pm_B t n K c' (pm_bd nm b x v o) (b + 1) :=
  ⟨fun f hf => pm_f_x (pm_X_bd nm b c c' x v o hc) f (h.1 f hf), h.2⟩
theorem kp_Bt {t : Nat → Nat} {n c b : Nat} {nm : pm_N} {f : pm_F} {K : List pm_F} (h : pm_B t n (f :: K) c nm b) (hk : f.isSome = true ∨ K.length ≠ 0) : pm_B t n K c nm b :=
  ⟨fun g hg => h.1 g (List.mem_cons_of_mem _ hg), by have := h.2.1; rw [List.length_cons] at this; omega, kp_tl h.2.2 hk⟩
theorem kp_Bn {K : List pm_F} (h : ∃ K0, K = K0 ++ [none]) : 1 ≤ K.length := by
  obtain ⟨K0, e⟩ := h
  rw [e, List.length_append]; exact Nat.le_add_left _ _
theorem kp_evl {t : Nat → Nat} {n : Nat} (W : tx_W t n) (hn : n ≤ 32) (hk : ∀ i, i < n → tx_tok (t i)) {p s : Nat} {K : List pm_F} {sg : List (List pm_F)} {nm : pm_N} {b : Nat} {out : Nat → Int32} {oc cc mo : Nat}
    (I : pm_I t n (.inl (p, s)) K sg nm b oc cc mo) : pm_J t n (pm_w t (.inl (p, s)) K cc) (pm_evl t p s K sg nm b out oc cc mo) := by
  obtain ⟨⟨hp, hs⟩, hB, hA, h1, h2, h3, h4, h5⟩ := I
  have htk := hk p hp
  have P := @kp_pt (t p)
  have hlt := tx_lt W hp
  have hle := tx_le W hp
  have ecm : pm_cm t (.inl (p, s)) = tx_e t p - p - 1 := rfl
  have ew : pm_w t (.inl (p, s)) K cc = 3 * (tx_e t p - p) + pm_ws t K + (40 - cc) * 2000 := rfl
  have hv : ∀ v : pm_V, pm_cm t (.inr v) = 0 ∧ pm_w t (.inr v) K cc = 0 + pm_ws t K + (40 - cc) * 2000 := fun v => ⟨rfl, rfl⟩
  unfold pm_evl
  by_cases c1 : t p < 40
  · rw [if_pos c1]
    cases e : pm_look nm (tx_G t p) (t p % 10) s with
    | none => exact fun z => absurd z (by decide)
    | some v => exact kp_go (kp_look hA.2.2 _ _ hs e) hB hA h1 h2 h4 (by have := hv v; omega) (by have := hv v; omega)
  rw [if_neg c1]
  by_cases c2 : t p < 50
  · rw [if_pos c2]
    exact kp_go (m := .inr (.inr (.inl (s, p)))) ⟨hp, by omega, hs⟩ hB hA h1 h2 h4 (by have := hv (.inr (.inl (s, p))); omega) (by have := hv (.inr (.inl (s, p))); omega)
  rw [if_neg c2]
  by_cases c3 : t p < 70
  · rw [if_pos c3]
    by_cases c4 : K.length = 16
    · rw [if_pos c4]; exact fun z => absurd z (by decide)
    rw [if_neg c4]
    have hpt : 1 ≤ tx_pt (t p) := by omega
    have T := tx_1 W hp hpt
    have hN := tx_nest W T.1 T.2.1.1 T.2.1.2.1
    have hG := tx_Glet0 W hp (by unfold tx_tok at htk; omega) hpt
    have ecm' : pm_cm t (.inl (p + 1, s)) = tx_e t (p + 1) - (p + 1) - 1 := rfl
    have hB2 := hB.2.1
    obtain ⟨K0, eK⟩ := hB.2.2
    by_cases c5 : t p = 59
    · rw [if_pos c5]
      have e1 : pm_cs t (none :: K) = 0 + pm_cs t K := rfl
      have e2 : pm_w t (.inl (p + 1, s)) (none :: K) cc = 3 * (tx_e t (p + 1) - (p + 1)) + (2 + pm_ws t K) + (40 - cc) * 2000 := rfl
      refine kp_go (m := .inl (p + 1, s)) ⟨T.1, by rw [hG]; exact hs⟩ ⟨?_, ?_, ⟨none :: K0, by rw [eK]; rfl⟩⟩ hA h1 h2 h4 (by omega) (by omega)
      · intro f hf
        rcases List.mem_cons.mp hf with z | z
        · rw [z]; exact True.intro
        · exact hB.1 f z
      · rw [List.length_cons]; omega
    · rw [if_neg c5]
      have e1 : pm_cs t (some (p, s, none) :: K) = tx_e t p - tx_e t (p + 1) + 1 + pm_cs t K := rfl
      have e2 : pm_w t (.inl (p + 1, s)) (some (p, s, none) :: K) cc = 3 * (tx_e t (p + 1) - (p + 1)) + (3 * (tx_e t p - tx_e t (p + 1)) + 2 + pm_ws t K) + (40 - cc) * 2000 := rfl
      refine kp_go (m := .inl (p + 1, s)) ⟨T.1, by rw [hG]; exact hs⟩ ⟨?_, ?_, ⟨some (p, s, none) :: K0, by rw [eK]; rfl⟩⟩ hA h1 h2 h4 (by omega) (by omega)
      · intro f hf
        rcases List.mem_cons.mp hf with z | z
        · rw [z]; exact ⟨hp, by unfold tx_tok at htk; omega, c5, hs, True.intro⟩
        · exact hB.1 f z
      · rw [List.length_cons]; omega
  rw [if_neg c3]
  by_cases c4 : t p < 80
  · rw [if_pos c4]
    by_cases c5 : sg.length = 8
    · rw [if_pos c5]; exact fun z => absurd z (by decide)
    rw [if_neg c5]
    have hpt : tx_pt (t p) = 1 := by omega
    have T := tx_1 W hp (by omega)
    have hE := tx_1e W hp hpt
    have hG := tx_Gname W hp (by omega) (by omega)
    obtain ⟨z, K1, f1, f2, f3, f4, f5⟩ := kp_cut K hB.2.2
    rw [f1, f2]
    have hA1 := hA.1
    have el : (sg ++ [z]).length = sg.length + 1 := by rw [List.length_append]; rfl
    have X := pm_X_bd nm b sg.length (sg ++ [z]).length (t p % 10) (.inr (.inr sg.length)) s (by omega)
    have ea := kp_a t z (none :: K1)
    rw [← f3] at ea
    have e1 : pm_cs t (none :: K1) = 0 + pm_cs t K1 := rfl
    have e2 : pm_w t (.inl (p + 1, b + 1)) (none :: K1) cc = 3 * (tx_e t (p + 1) - (p + 1)) + pm_ws t (none :: K1) + (40 - cc) * 2000 := rfl
    have ecm' : pm_cm t (.inl (p + 1, b + 1)) = tx_e t (p + 1) - (p + 1) - 1 := rfl
    have hl : K.length = z.length + (K1.length + 1) := by rw [f3, List.length_append]; rfl
    have hB2 := hB.2.1
    refine kp_go (m := .inl (p + 1, b + 1)) ⟨T.1, ?_⟩ ⟨?_, ?_, f5⟩ ⟨by omega, ?_, ?_⟩ h1 h2 h4 (by rw [el]; omega) (by omega)
    · rw [hG]; exact pm_Ch_bd hs
    · intro f hf
      refine pm_f_x X f (hB.1 f ?_)
      rw [f3]; exact List.mem_append_right _ hf
    · rw [List.length_cons]; omega
    · intro y hy
      rcases List.mem_append.mp hy with q | q
      · exact ⟨(hA.2.1 y q).1, fun f hf => ⟨((hA.2.1 y q).2 f hf).1, pm_f_x X f ((hA.2.1 y q).2 f hf).2⟩⟩
      · have q' : y = z := List.mem_singleton.mp q
        rw [q']
        refine ⟨by omega, fun f hf => ⟨f4 f hf, pm_f_x X f (hB.1 f ?_)⟩⟩
        rw [f3]; exact List.mem_append_left _ hf
    · intro i g1 g2
      rcases Nat.lt_or_ge b i with c | c
      · have e : i = b + 1 := by omega
        rw [e, pm_bd_s]
        show sg.length < (sg ++ [z]).length
        omega
      · rw [X.2.2 i c]
        exact pm_v_x X _ (hA.2.2 i g1 c)
  rw [if_neg c4]
  exact kp_go (m := .inr (.inl (nI (t p) - 100))) True.intro hB hA h1 h2 h4 (by have := hv (.inl (nI (t p) - 100)); omega) (by have := hv (.inl (nI (t p) - 100)); omega)
