/-! a name is looked up: by counted hops, and by its name -/
def tx_ix : List Nat → Nat → Option Nat
  | [], _ => none
  | y :: l, x => if y = x then some 0 else (tx_ix l x).map (· + 1)
theorem tx_ixl (nm : pm_N) (x : Nat) : ∀ (l : List Nat) (s : Nat), pm_look nm l x s = none ↔ tx_ix l x = none := by
  intro l
  induction l with
  | nil => intro s; exact ⟨fun _ => rfl, fun _ => rfl⟩
  | cons y l ih =>
    intro s
    rw [pm_look, tx_ix]
    by_cases c : y = x
    · rw [if_pos c, if_pos c]
      exact ⟨fun h => absurd h (by simp), fun h => absurd h (by simp)⟩
    · rw [if_neg c, if_neg c, ih, Option.map_eq_none_iff]
theorem tx_ixb : ∀ (l : List Nat) (x i : Nat), tx_ix l x = some i → i < l.length := by
  intro l
  induction l with
  | nil => intro x i h; exact absurd h (by simp [tx_ix])
  | cons y l ih =>
    intro x i h
    rw [tx_ix] at h
    rw [List.length_cons]
    by_cases c : y = x
    · rw [if_pos c] at h
      have := Option.some.inj h
      omega
    · rw [if_neg c] at h
      cases e : tx_ix l x with
      | none => rw [e] at h; exact absurd h (by simp)
      | some k =>
        rw [e] at h
        have h2 : k + 1 = i := Option.some.inj h
        have := ih x k e
        omega
theorem tx_grl (t : Nat → Nat) (q : Nat) : ∀ m, (tx_gr t q m).length ≤ m := by
  intro m
  induction m with
  | zero => exact Nat.le_refl _
  | succ m ih =>
    rw [tx_gr]
    split
    · rw [List.length_cons]; omega
    · omega
theorem tx_grm (t : Nat → Nat) (q : Nat) : ∀ m y, y ∈ tx_gr t q m → y < 10 := by
  intro m
  induction m with
  | zero => intro y h; exact absurd h (by simp [tx_gr])
  | succ m ih =>
    intro y h
    rw [tx_gr] at h
    split at h
    · rcases List.mem_cons.mp h with e | e
      · omega
      · exact ih y e
    · exact ih y h
/-- the cell that i hops lead to holds the value -/
def xm_hop (cn : Nat → Int32) : Nat → Nat → Nat
  | 0, c => c
  | i + 1, c => xm_hop cn i (cn c).toNatClampNeg
theorem xm_look {L : Nat → Prop} {f : Nat → Nat} {cv : Nat → Int64} {cn : Nat → Int32} {nm : pm_N} {b lc : Nat} (H : xm_H L f cv cn nm b lc) (x : Nat) (v : pm_V) : ∀ (l : List Nat) (s c i : Nat), pm_Ch nm b l s → xm_E L f c s → tx_ix l x = some i → pm_look nm l x s = some v →
    (∀ j, j ≤ i → xm_hop cn j c < 9000 ∧ cn (xm_hop cn j c) = nI (xm_hop cn (j + 1) c)) ∧ xm_V L f (cv (xm_hop cn i c)) v := by
  intro l
  induction l with
  | nil => intro s c i _ _ h; exact absurd h (by simp [tx_ix])
  | cons y l ih =>
    intro s c i hC hE h hv
    obtain ⟨g1, g2, g3, g4⟩ := hC
    rcases hE with z | ⟨z1, z2, z3, z4⟩
    · omega
    obtain ⟨k1, k2, k3⟩ := H c z3
    obtain ⟨k4, k5, ⟨d, k6, k7⟩, k8⟩ := k3 z1
    rw [z4] at k7 k8
    have hd := xm_E9 k7
    have ed : (cn c).toNatClampNeg = d := by rw [k6]; exact nI_clamp (by omega)
    have e0 : ∀ j, xm_hop cn (j + 1) c = xm_hop cn j d := by
      intro j
      rw [xm_hop, ed]
    rw [tx_ix] at h
    rw [pm_look] at hv
    by_cases q : y = x
    · rw [if_pos q] at h hv
      have hi : i = 0 := (Option.some.inj h).symm
      rw [hi]
      refine ⟨fun j hj => ?_, ?_⟩
      · have : j = 0 := by omega
        rw [this]
        refine ⟨z2, ?_⟩
        rw [e0]; exact k6
      · rw [← Option.some.inj hv]; exact k8
    · rw [if_neg q] at h hv
      cases e : tx_ix l x with
      | none => rw [e] at h; exact absurd h (by simp)
      | some k =>
        rw [e] at h
        have h2 : k + 1 = i := Option.some.inj h
        obtain ⟨r1, r2⟩ := ih (nm s).2.2 d k g4 k7 e hv
        rw [← h2]
        refine ⟨fun j hj => ?_, by rw [e0]; exact r2⟩
        rcases j with _ | j
        · refine ⟨z2, ?_⟩
          rw [e0]; exact k6
        · rw [e0, e0]
          exact r1 j (by omega)
/-- the reference's names -/
def yn_N (na nk nv no : Nat → Int32) (nm : pm_N) (b : Nat) : Prop :=
  ∀ i, 1 ≤ i → i ≤ b → na i = nI (nm i).1 ∧ yn_V (nk i) (nv i) (nm i).2.1 ∧ no i = nI (nm i).2.2
theorem yn_Nadd {na nk nv no : Nat → Int32} {nm : pm_N} {b x o : Nat} {k a : Int32} {v : pm_V} (h : yn_N na nk nv no nm b) (hv : yn_V k a v) :
    yn_N (upd na (b + 1) (nI x)) (upd nk (b + 1) k) (upd nv (b + 1) a) (upd no (b + 1) (nI o)) (pm_bd nm b x v o) (b + 1) := by
  intro i h1 h2
  by_cases c : i = b + 1
  · rw [c, pm_bd_s, yn_us, yn_us, yn_us, yn_us]
    exact ⟨rfl, hv, rfl⟩
  · rw [yn_un c, yn_un c, yn_un c, yn_un c]
    have e : pm_bd nm b x v o i = nm i := by unfold pm_bd; rw [if_neg c]
    rw [e]
    exact h i h1 (by omega)
theorem tx_ixn (t : Nat → Nat) (q x : Nat) : ∀ m, tx_ix (tx_gr t q m) x = none ↔ ∀ g, g < m → tx_gv t g q = true → t g % 10 ≠ x := by
  intro m
  induction m with
  | zero => exact ⟨fun _ g h => absurd h (by omega), fun _ => rfl⟩
  | succ m ih =>
    rw [tx_gr]
    by_cases c : tx_gv t m q = true
    · rw [if_pos c, tx_ix]
      by_cases d : t m % 10 = x
      · rw [if_pos d]
        exact ⟨fun h => absurd h (by simp), fun h => absurd d (h m (by omega) c)⟩
      · rw [if_neg d, Option.map_eq_none_iff, ih]
        refine ⟨fun h g hg hv => ?_, fun h g hg hv => h g (by omega) hv⟩
        rcases Nat.lt_or_ge g m with e | e
        · exact h g e hv
        · have e' : g = m := by omega
          rw [e']; exact d
    · rw [if_neg c, ih]
      refine ⟨fun h g hg hv => ?_, fun h g hg hv => h g (by omega) hv⟩
      rcases Nat.lt_or_ge g m with e | e
      · exact h g e hv
      · have e' : g = m := by omega
        rw [e'] at hv; exact absurd hv c
/-- the free names among the first i tokens -/
noncomputable def tx_fr (t : Nat → Nat) : Nat → Int32
  | 0 => 0
  | q + 1 => if t q < 40 ∧ tx_ix (tx_G t q) (t q % 10) = none then tx_fr t q ||| ((1 : Int32) <<< (nI (t q % 10) &&& 31)) else tx_fr t q
