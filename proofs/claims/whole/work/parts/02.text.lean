/-! the text of a program: D (what is still wanting), e (where a term ends), G (the names given around a place) -/
def tx_pt (t : Nat) : Nat := if t < 40 then 0 else if t < 50 then 1 else if t < 57 then 2 else if t < 58 then 3 else if t < 60 then 1 else if t < 70 then 2 else if t < 80 then 1 else 0
def tx_tok (t : Nat) : Prop := (30 ≤ t ∧ t ≤ 35) ∨ (40 ≤ t ∧ t ≤ 45) ∨ (52 ≤ t ∧ t ≤ 65) ∨ (70 ≤ t ∧ t ≤ 75) ∨ (80 ≤ t ∧ t ≤ 120)
def tx_D (t : Nat → Nat) : Nat → Int
  | 0 => 1
  | i + 1 => tx_D t i + (tx_pt (t i) : Int) - 1
theorem tx_D1 (t : Nat → Nat) (i : Nat) : tx_D t (i + 1) = tx_D t i + (tx_pt (t i) : Int) - 1 := rfl
theorem tx_Dm (t : Nat → Nat) {i : Nat} (h : 0 < i) : tx_D t (i - 1) - 1 ≤ tx_D t i := by
  have e := tx_D1 t (i - 1)
  rw [show i - 1 + 1 = i by omega] at e
  omega
def tx_E (t : Nat → Nat) (p e : Nat) : Prop := p < e ∧ tx_D t e = tx_D t p - 1 ∧ ∀ i, p ≤ i → i < e → tx_D t p ≤ tx_D t i
def tx_W (t : Nat → Nat) (n : Nat) : Prop := tx_D t n = 0 ∧ ∀ i, i < n → 1 ≤ tx_D t i
noncomputable def tx_e (t : Nat → Nat) (p : Nat) : Nat := Classical.epsilon (tx_E t p)
theorem tx_uniq {t : Nat → Nat} {p e f : Nat} (h : tx_E t p e) (h' : tx_E t p f) : e = f := by
  rcases Nat.lt_trichotomy e f with c | c | c
  · have := h'.2.2 e (by have := h.1; omega) c
    have := h.2.1
    omega
  · exact c
  · have := h.2.2 f (by have := h'.1; omega) c
    have := h'.2.1
    omega
theorem tx_ex {t : Nat → Nat} {n p : Nat} (W : tx_W t n) (hp : p < n) : ∀ d i, i + d = n → p < i → (∀ j, p ≤ j → j < i → tx_D t p ≤ tx_D t j) → ∃ e, e ≤ n ∧ tx_E t p e := by
  intro d
  induction d with
  | zero =>
    intro i hi hpi h
    have h0 : i = n := by omega
    have h1 := h (i - 1) (by omega) (by omega)
    have h2 := tx_Dm t (i := i) (by omega)
    have h3 := W.1
    have h4 := W.2 p hp
    rw [← h0] at h3
    exact ⟨i, by omega, hpi, by omega, h⟩
  | succ d ih =>
    intro i hi hpi h
    by_cases c : tx_D t i < tx_D t p
    · have h1 := h (i - 1) (by omega) (by omega)
      have h2 := tx_Dm t (i := i) (by omega)
      exact ⟨i, by omega, hpi, by omega, h⟩
    · refine ih (i + 1) (by omega) (by omega) (fun j h1 h2 => ?_)
      rcases Nat.lt_or_ge j i with h3 | h3
      · exact h j h1 h3
      · have h4 : j = i := by omega
        rw [h4]; omega
theorem tx_spec {t : Nat → Nat} {n p : Nat} (W : tx_W t n) (hp : p < n) : tx_E t p (tx_e t p) ∧ tx_e t p ≤ n := by
  obtain ⟨e, he, hE⟩ := tx_ex W hp (n - (p + 1)) (p + 1) (by omega) (by omega) (fun j h1 h2 => by
    have h3 : j = p := by omega
    rw [h3]; exact Int.le_refl _)
  have h1 : tx_E t p (tx_e t p) := Classical.epsilon_spec (p := tx_E t p) ⟨e, hE⟩
  have h2 := tx_uniq h1 hE
  exact ⟨h1, by omega⟩
theorem tx_eq {t : Nat → Nat} {p e : Nat} (h : tx_E t p e) : tx_e t p = e :=
  tx_uniq (Classical.epsilon_spec (p := tx_E t p) ⟨e, h⟩) h
theorem tx_lt {t : Nat → Nat} {n p : Nat} (W : tx_W t n) (hp : p < n) : p < tx_e t p := (tx_spec W hp).1.1
theorem tx_le {t : Nat → Nat} {n p : Nat} (W : tx_W t n) (hp : p < n) : tx_e t p ≤ n := (tx_spec W hp).2
theorem tx_drop {t : Nat → Nat} {n i c : Nat} (W : tx_W t n) (hi : i < n) (h : i < c) (hD : tx_D t c < tx_D t i) : tx_e t i ≤ c := by
  rcases Nat.lt_or_ge c (tx_e t i) with h1 | h1
  · have := (tx_spec W hi).1.2.2 c (by omega) h1
    omega
  · exact h1
theorem tx_nest {t : Nat → Nat} {n g q : Nat} (W : tx_W t n) (hq : q < n) (h : g < q) (h' : q < tx_e t g) : tx_e t q ≤ tx_e t g := by
  have S := (tx_spec W (p := g) (by omega)).1
  have h1 := S.2.2 q (by omega) h'
  have h2 := S.2.1
  exact tx_drop W hq h' (by omega)
/-- c begins the j-th part of the term at p -/
def tx_P (t : Nat → Nat) (p j c : Nat) : Prop := p < c ∧ tx_D t c = tx_D t p + (tx_pt (t p) : Int) - 1 - j ∧ ∀ i, p < i → i < c → tx_D t c < tx_D t i
theorem tx_P0 (t : Nat → Nat) (p : Nat) : tx_P t p 0 (p + 1) := ⟨by omega, by rw [tx_D1]; omega, fun i h1 h2 => by omega⟩
theorem tx_Pe {t : Nat → Nat} {p c : Nat} (h : tx_P t p (tx_pt (t p)) c) : tx_e t p = c := by
  refine tx_eq ⟨h.1, by have := h.2.1; omega, fun i h1 h2 => ?_⟩
  rcases Nat.lt_or_ge p i with h3 | h3
  · have := h.2.2 i h3 h2
    have := h.2.1
    omega
  · have h4 : i = p := by omega
    rw [h4]; exact Int.le_refl _
theorem tx_Ps {t : Nat → Nat} {n p j c : Nat} (W : tx_W t n) (hp : p < n) (hj : j < tx_pt (t p)) (hc : c ≤ n) (h : tx_P t p j c) : c < n ∧ c < tx_e t p ∧ tx_P t p (j + 1) (tx_e t c) := by
  have h1 := W.2 p hp
  have h2 := h.2.1
  have h3 := W.1
  have h4 : c < n := by
    rcases Nat.lt_or_ge c n with h4 | h4
    · exact h4
    · have h5 : c = n := by omega
      rw [h5] at h2
      omega
  have S := (tx_spec W hp).1
  have C := (tx_spec W h4).1
  refine ⟨h4, ?_, ?_, ?_, ?_⟩
  · have h6 := S.2.1
    rcases Nat.lt_trichotomy c (tx_e t p) with h5 | h5 | h5
    · exact h5
    · rw [← h5] at h6
      omega
    · have := h.2.2 _ S.1 h5
      omega
  · have := h.1
    have := C.1
    omega
  · have := C.2.1
    omega
  · intro i h5 h6
    have h7 := C.2.1
    rcases Nat.lt_or_ge i c with h8 | h8
    · have := h.2.2 i h5 h8
      omega
    · have := C.2.2 i h8 h6
      omega
/-- c begins a part of the term at p -/
def tx_S (t : Nat → Nat) (p c : Nat) : Prop := p < c ∧ c < tx_e t p ∧ ∀ i, p < i → i < c → tx_D t c < tx_D t i
theorem tx_0 {t : Nat → Nat} {p : Nat} (h : tx_pt (t p) = 0) : tx_e t p = p + 1 := tx_Pe (by rw [h]; exact tx_P0 t p)
theorem tx_1 {t : Nat → Nat} {n p : Nat} (W : tx_W t n) (hp : p < n) (h : 1 ≤ tx_pt (t p)) : p + 1 < n ∧ tx_S t p (p + 1) ∧ tx_e t (p + 1) ≤ n ∧ p + 1 < tx_e t (p + 1) := by
  have A := tx_Ps W hp (j := 0) (by omega) (by omega) (tx_P0 t p)
  exact ⟨A.1, ⟨by omega, A.2.1, (tx_P0 t p).2.2⟩, tx_le W A.1, tx_lt W A.1⟩
theorem tx_1e {t : Nat → Nat} {n p : Nat} (W : tx_W t n) (hp : p < n) (h : tx_pt (t p) = 1) : tx_e t p = tx_e t (p + 1) := by
  have A := tx_Ps W hp (j := 0) (by omega) (by omega) (tx_P0 t p)
  exact tx_Pe (by rw [h]; exact A.2.2)
theorem tx_2 {t : Nat → Nat} {n p : Nat} (W : tx_W t n) (hp : p < n) (h : 2 ≤ tx_pt (t p)) : tx_e t (p + 1) < n ∧ tx_S t p (tx_e t (p + 1)) ∧ tx_e t (tx_e t (p + 1)) ≤ n ∧ tx_e t (p + 1) < tx_e t (tx_e t (p + 1)) := by
  have A := tx_Ps W hp (j := 0) (by omega) (by omega) (tx_P0 t p)
  have B := tx_Ps W hp (j := 1) (by omega) (tx_le W A.1) A.2.2
  exact ⟨B.1, ⟨A.2.2.1, B.2.1, A.2.2.2.2⟩, tx_le W B.1, tx_lt W B.1⟩
theorem tx_2e {t : Nat → Nat} {n p : Nat} (W : tx_W t n) (hp : p < n) (h : tx_pt (t p) = 2) : tx_e t p = tx_e t (tx_e t (p + 1)) := by
  have A := tx_Ps W hp (j := 0) (by omega) (by omega) (tx_P0 t p)
  have B := tx_Ps W hp (j := 1) (by omega) (tx_le W A.1) A.2.2
  exact tx_Pe (by rw [h]; exact B.2.2)
theorem tx_3 {t : Nat → Nat} {n p : Nat} (W : tx_W t n) (hp : p < n) (h : tx_pt (t p) = 3) : tx_e t (tx_e t (p + 1)) < n ∧ tx_S t p (tx_e t (tx_e t (p + 1))) ∧ tx_e t p = tx_e t (tx_e t (tx_e t (p + 1))) := by
  have A := tx_Ps W hp (j := 0) (by omega) (by omega) (tx_P0 t p)
  have B := tx_Ps W hp (j := 1) (by omega) (tx_le W A.1) A.2.2
  have C := tx_Ps W hp (j := 2) (by omega) (tx_le W B.1) B.2.2
  exact ⟨C.1, ⟨B.2.2.1, C.2.1, B.2.2.2.2⟩, tx_Pe (by rw [h]; exact C.2.2)⟩
/-- g gives its name at q -/
noncomputable def tx_gv (t : Nat → Nat) (g q : Nat) : Bool := decide (((t g / 10 = 4 ∨ t g / 10 = 7) ∧ g < q ∨ t g / 10 = 6 ∧ tx_e t (g + 1) ≤ q) ∧ q < tx_e t g)
noncomputable def tx_gr (t : Nat → Nat) (q : Nat) : Nat → List Nat
  | 0 => []
  | g + 1 => if tx_gv t g q = true then (t g % 10) :: tx_gr t q g else tx_gr t q g
noncomputable def tx_G (t : Nat → Nat) (q : Nat) : List Nat := tx_gr t q q
theorem tx_gv_iff {t : Nat → Nat} {g q : Nat} : tx_gv t g q = true ↔ ((t g / 10 = 4 ∨ t g / 10 = 7) ∧ g < q ∨ t g / 10 = 6 ∧ tx_e t (g + 1) ≤ q) ∧ q < tx_e t g := by
  unfold tx_gv; exact decide_eq_true_iff
theorem tx_gr_mid {t : Nat → Nat} {p c : Nat} (h : ∀ g, p < g → g < c → ¬ tx_gv t g c = true) : ∀ d, p + 1 + d ≤ c → tx_gr t c (p + 1 + d) = tx_gr t c (p + 1) := by
  intro d
  induction d with
  | zero => intro _; rfl
  | succ d ih =>
    intro hd
    show tx_gr t c (p + 1 + d + 1) = _
    rw [tx_gr, if_neg (h (p + 1 + d) (by omega) (by omega))]
    exact ih (by omega)
theorem tx_gr_low {t : Nat → Nat} {p c : Nat} (h : ∀ g, g < p → (tx_gv t g c = true ↔ tx_gv t g p = true)) : ∀ m, m ≤ p → tx_gr t c m = tx_gr t p m := by
  intro m
  induction m with
  | zero => intro _; rfl
  | succ m ih =>
    intro hm
    rw [tx_gr, tx_gr, ih (by omega)]
    by_cases c1 : tx_gv t m p = true
    · rw [if_pos c1, if_pos ((h m (by omega)).mpr c1)]
    · rw [if_neg c1, if_neg (fun z => c1 ((h m (by omega)).mp z))]
theorem tx_Gp {t : Nat → Nat} {n p c : Nat} (W : tx_W t n) (hp : p < n) (hc : c < n) (h : tx_S t p c) : tx_G t c = if tx_gv t p c = true then (t p % 10) :: tx_G t p else tx_G t p := by
  have hpt : ∀ g, t g / 10 = 6 → 1 ≤ tx_pt (t g) := by
    intro g hg; unfold tx_pt; split <;> (try split) <;> (try split) <;> (try split) <;> (try split) <;> (try split) <;> omega
  have hlow : ∀ g, g < p → (tx_gv t g c = true ↔ tx_gv t g p = true) := by
    intro g hg
    rw [tx_gv_iff, tx_gv_iff]
    have hgn : g < n := by omega
    have a1 := h.1
    have a2 := h.2.1
    have key : (c < tx_e t g ↔ p < tx_e t g) := by
      constructor
      · intro z; omega
      · intro z
        have := tx_nest W hp hg z
        omega
    have key2 : t g / 10 = 6 → (tx_e t (g + 1) ≤ c ↔ tx_e t (g + 1) ≤ p) := by
      intro z6
      have T := tx_1 W hgn (hpt g z6)
      constructor
      · intro z
        rcases Nat.lt_or_ge p (tx_e t (g + 1)) with z1 | z1
        · rcases Nat.lt_or_ge (g + 1) p with z2 | z2
          · have := tx_nest W hp z2 z1
            omega
          · have z3 : g + 1 = p := by omega
            rw [z3] at z z1
            omega
        · exact z1
      · intro z; omega
    rw [key]
    constructor
    · rintro ⟨z1 | z1, z2⟩
      · exact ⟨Or.inl ⟨z1.1, hg⟩, z2⟩
      · exact ⟨Or.inr ⟨z1.1, (key2 z1.1).mp z1.2⟩, z2⟩
    · rintro ⟨z1 | z1, z2⟩
      · exact ⟨Or.inl ⟨z1.1, by omega⟩, z2⟩
      · exact ⟨Or.inr ⟨z1.1, (key2 z1.1).mpr z1.2⟩, z2⟩
  have hmid : ∀ g, p < g → g < c → ¬ tx_gv t g c = true := by
    intro g h1 h2 z
    rw [tx_gv_iff] at z
    have := tx_drop W (i := g) (by omega) h2 (h.2.2 g h1 h2)
    omega
  have e1 : tx_G t c = tx_gr t c (p + 1) := by
    have := tx_gr_mid hmid (c - (p + 1)) (by have := h.1; omega)
    rw [show p + 1 + (c - (p + 1)) = c by have := h.1; omega] at this
    exact this
  rw [e1, tx_gr, tx_gr_low hlow p (Nat.le_refl _)]
  rfl
theorem tx_G0 (t : Nat → Nat) : tx_G t 0 = [] := rfl
theorem tx_Gname {t : Nat → Nat} {n p : Nat} (W : tx_W t n) (hp : p < n) (h : t p / 10 = 4 ∨ t p / 10 = 7) (h1 : 1 ≤ tx_pt (t p)) : tx_G t (p + 1) = (t p % 10) :: tx_G t p := by
  have T := tx_1 W hp h1
  rw [tx_Gp W hp T.1 T.2.1, if_pos (tx_gv_iff.mpr ⟨Or.inl ⟨h, by omega⟩, T.2.1.2.1⟩)]
theorem tx_Glet0 {t : Nat → Nat} {n p : Nat} (W : tx_W t n) (hp : p < n) (h : t p / 10 = 5 ∨ t p / 10 = 6) (h1 : 1 ≤ tx_pt (t p)) : tx_G t (p + 1) = tx_G t p := by
  have T := tx_1 W hp h1
  rw [tx_Gp W hp T.1 T.2.1, if_neg (fun z => ?_)]
  rw [tx_gv_iff] at z
  omega
theorem tx_Glet1 {t : Nat → Nat} {n p : Nat} (W : tx_W t n) (hp : p < n) (h : t p / 10 = 6) (h1 : 2 ≤ tx_pt (t p)) : tx_G t (tx_e t (p + 1)) = (t p % 10) :: tx_G t p := by
  have T := tx_2 W hp h1
  rw [tx_Gp W hp T.1 T.2.1, if_pos (tx_gv_iff.mpr ⟨Or.inr ⟨h, Nat.le_refl _⟩, T.2.1.2.1⟩)]
theorem tx_Gop1 {t : Nat → Nat} {n p : Nat} (W : tx_W t n) (hp : p < n) (h : t p / 10 = 5) (h1 : 2 ≤ tx_pt (t p)) : tx_G t (tx_e t (p + 1)) = tx_G t p := by
  have T := tx_2 W hp h1
  rw [tx_Gp W hp T.1 T.2.1, if_neg (fun z => ?_)]
  rw [tx_gv_iff] at z
  omega
theorem tx_Gop2 {t : Nat → Nat} {n p : Nat} (W : tx_W t n) (hp : p < n) (h : t p / 10 = 5) (h1 : tx_pt (t p) = 3) : tx_G t (tx_e t (tx_e t (p + 1))) = tx_G t p := by
  have T := tx_3 W hp h1
  rw [tx_Gp W hp T.1 T.2.1, if_neg (fun z => ?_)]
  rw [tx_gv_iff] at z
  omega
