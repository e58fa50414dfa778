section
/-! rows pasted from kit/rows -/
theorem pk_us {f : Nat → Int32} {k : Nat} {x : Int32} : upd f k x k = x := if_pos rfl
theorem pk_un {f : Nat → Int32} {k j : Nat} {x : Int32} (h : j ≠ k) : upd f k x j = f j := if_neg h
theorem pk_uLs {f : Nat → Int64} {k : Nat} {x : Int64} : vp_updL f k x k = x := if_pos rfl
theorem pk_uLn {f : Nat → Int64} {k j : Nat} {x : Int64} (h : j ≠ k) : vp_updL f k x j = f j := if_neg h
theorem pk_sub {a b : Nat} (h : b ≤ a) : nI a - nI b = nI (a - b) := by
  obtain ⟨c, rfl⟩ : ∃ c, a = c + b := ⟨a - b, by omega⟩
  rw [← nI_add, Int32.add_sub_cancel, Nat.add_sub_cancel]
theorem pk_m1 (n : Nat) : nI (n + 1) + (-1) = nI n := by
  rw [← nI_1, Int32.add_assoc, show (1 : Int32) + (-1) = 0 from rfl, Int32.add_zero]
theorem pk_mul (a b : Nat) : nI a * nI b = nI (a * b) := (Int32.ofNat_mul a b).symm
theorem pk_div {a d : Nat} (ha : a < 2 ^ 31) (h0 : 0 < d) (hd : d < 2 ^ 31) : nI a / nI d = nI (a / d) := by
  apply Int32.toInt_inj.mp
  rw [lg_idiv_nonneg (by rw [nI_toInt ha]; omega) (by rw [nI_toInt hd]; omega), nI_toInt ha, nI_toInt hd, nI_toInt (Nat.lt_of_le_of_lt (Nat.div_le_self a d) ha)]
  first | rfl | exact (Int.natCast_ediv _ _).symm
theorem pk_rem {a d : Nat} (ha : a < 2 ^ 31) (h0 : 0 < d) (hd : d < 2 ^ 31) : nI a - nI a / nI d * nI d = nI (a % d) := by
  rw [pk_div ha h0 hd, pk_mul, pk_sub (Nat.div_mul_le_self a d)]
  exact congrArg nI (by have := Nat.div_add_mod' a d; omega)
theorem pk_ix (x : Int32) {n : Nat} (hn : n < 2 ^ 31) : x < 0 ∨ nI n ≤ x ∨ ∃ j : Nat, j < n ∧ x = nI j := by
  by_cases h : x < 0
  · exact Or.inl h
  · obtain ⟨j, hj, rfl⟩ := nI_of h
    by_cases h2 : j < n
    · exact Or.inr (Or.inr ⟨j, h2, rfl⟩)
    · exact Or.inr (Or.inl (nI_le (by omega) hj))
theorem pk_le {x y : Int32} {A B : Prop} (a b : Nat) (f : a ≤ b → A) (g : b < a → B) (hx : x = nI a := by rfl) (hy : y = nI b := by rfl) (ha : a < 2 ^ 31 := by omega) (hb : b < 2 ^ 31 := by omega) : (x ≤ y → A) ∧ (¬ x ≤ y → B) := by
  subst hx hy
  rw [nI_leI ha hb]
  exact ⟨f, fun z => g (by omega)⟩
theorem pk_lt {x y : Int32} {A B : Prop} (a b : Nat) (f : a < b → A) (g : b ≤ a → B) (hx : x = nI a := by rfl) (hy : y = nI b := by rfl) (ha : a < 2 ^ 31 := by omega) (hb : b < 2 ^ 31 := by omega) : (x < y → A) ∧ (¬ x < y → B) := by
  subst hx hy
  rw [nI_ltI ha hb]
  exact ⟨f, fun z => g (by omega)⟩
theorem pk_eq {x y : Int32} {A B : Prop} (a b : Nat) (f : a = b → A) (g : a ≠ b → B) (hx : x = nI a := by rfl) (hy : y = nI b := by rfl) (ha : a < 2 ^ 31 := by omega) (hb : b < 2 ^ 31 := by omega) : (x = y → A) ∧ (¬ x = y → B) := by
  subst hx hy
  rw [nI_eq ha hb]
  exact ⟨f, g⟩
theorem pk_in {x : Int32} (n N : Nat) (h : n < N) (hx : x = nI n := by rfl) (hN : N < 2 ^ 31 := by omega) : vp_in x N := by
  subst hx
  exact vp_in_nI h hN
theorem pk_cl {x : Int32} (n : Nat) (hx : x = nI n := by rfl) (h : n < 2 ^ 31 := by omega) : x.toNatClampNeg = n := by
  subst hx
  exact nI_clamp h
theorem pk_tn {n : Nat} (h : n < 2 ^ 32) : (nI n).toBitVec.toNat = n := Nat.mod_eq_of_lt h
theorem pk_lT {n : Nat} (h : n < 2 ^ 63) : (lN n).toInt = (n : Int) := lg_ofNat_toInt h
theorem pk_lEQ {a b : Nat} (ha : a < 2 ^ 63) (hb : b < 2 ^ 63) : lN a = lN b ↔ a = b := by
  rw [← Int64.toInt_inj, pk_lT ha, pk_lT hb]; omega
theorem wb_tb (n : Nat) : (lN n).toBitVec = BitVec.ofNat 64 n := rfl
theorem wb_inj {a b : Int64} (h : a.toBitVec = b.toBitVec) : a = b := Int64.toBitVec_inj.mp h
theorem wb_c : ∀ k, k < 64 → ((nI k).toInt64 &&& 63) = lN k := by decide +kernel
theorem wb_sm : ∀ k, k < 64 → (BitVec.ofNat 64 k).smod 64 = BitVec.ofNat 64 k := by decide +kernel
theorem wb_shl (n : Nat) {k : Nat} (hk : k < 64) : lN n <<< ((nI k).toInt64 &&& 63) = lN (n * 2 ^ k) := by
  rw [wb_c k hk]
  apply wb_inj
  rw [Int64.toBitVec_shiftLeft, wb_tb, wb_tb, wb_tb, wb_sm k hk]
  apply BitVec.eq_of_toNat_eq
  rw [BitVec.shiftLeft_eq', BitVec.toNat_shiftLeft, BitVec.toNat_ofNat, BitVec.toNat_ofNat, BitVec.toNat_ofNat, Nat.mod_eq_of_lt (show k < 2 ^ 64 by omega), Nat.shiftLeft_eq, Nat.mul_mod, Nat.mod_mod, ← Nat.mul_mod]
theorem u_tn {n : Nat} (h : n < 2 ^ 64) : (UInt64.ofNat n).toNat = n := Nat.mod_eq_of_lt h
theorem g_or {k p a b : Nat} (hp : 2 ^ k = p) (ha : a < p) (h : b * p + a < 2 ^ 64) : lN (b * p) ||| lN a = lN (b * p + a) := by
  subst hp
  have h1 : b * 2 ^ k ||| a = b * 2 ^ k + a := by rw [← Nat.shiftLeft_eq, Nat.shiftLeft_add_eq_or_of_lt ha]
  have h3 : UInt64.ofNat (b * 2 ^ k) ||| UInt64.ofNat a = UInt64.ofNat (b * 2 ^ k + a) := UInt64.toNat_inj.mp (by rw [UInt64.toNat_or, u_tn (by omega), u_tn (by omega), u_tn h, h1])
  have h2 := congrArg UInt64.toInt64 h3
  exact h2
theorem pf_lI {a : Nat} (h : a < 2 ^ 63) : (lN a).toInt = (a : Int) := lg_ofNat_toInt h
theorem pf_shr {a d : Nat} {D : Int64} (hD : (D.toBitVec.smod 64).toNat = d) (h : a < 2 ^ 62) : lN a >>> D = lN (a / 2 ^ d) := by
  have hd : a / 2 ^ d ≤ a := Nat.div_le_self _ _
  apply Int64.toInt_inj.mp
  have e : (lN a >>> D).toInt = (lN a).toInt >>> d := by
    rw [← hD]
    exact BitVec.toInt_sshiftRight ..
  rw [e, Int.shiftRight_eq_div_pow, pf_lI (by omega), pf_lI (by omega)]
  rfl
end
section
/-! the text of a program: D (what is still wanting), e (where a term ends), G (the names given around a place) -/
def tx_pt (t : Nat) : Nat := if t < 40 then 0 else if t < 50 then 1 else if t < 57 then 2 else if t < 58 then 3 else if t < 60 then 1 else if t < 70 then 2 else if t < 80 then 1 else 0
def tx_tok (t : Nat) : Prop := (30 ≤ t ∧ t ≤ 35) ∨ (40 ≤ t ∧ t ≤ 45) ∨ (52 ≤ t ∧ t ≤ 65) ∨ (70 ≤ t ∧ t ≤ 75) ∨ (80 ≤ t ∧ t ≤ 120)
def tx_D (t : Nat → Nat) : Nat → Int
  | 0 => 1
  | i + 1 => tx_D t i + (tx_pt (t i) : Int) - 1
theorem tx_D1 (t : Nat → Nat) (i : Nat) : tx_D t (i + 1) = tx_D t i + (tx_pt (t i) : Int) - 1 := rfl
theorem tx_Dm (t : Nat → Nat) {i : Nat} (h : 0 < i) : tx_D t (i - 1) - 1 ≤ tx_D t i := by
  have e := tx_D1 t (i - 1)
  rw [show i - 1 + 1 = i by omega] at e
  omega
def tx_E (t : Nat → Nat) (p e : Nat) : Prop := p < e ∧ tx_D t e = tx_D t p - 1 ∧ ∀ i, p ≤ i → i < e → tx_D t p ≤ tx_D t i
def tx_W (t : Nat → Nat) (n : Nat) : Prop := tx_D t n = 0 ∧ ∀ i, i < n → 1 ≤ tx_D t i
noncomputable def tx_e (t : Nat → Nat) (p : Nat) : Nat := Classical.epsilon (tx_E t p)
theorem tx_uniq {t : Nat → Nat} {p e f : Nat} (h : tx_E t p e) (h' : tx_E t p f) : e = f := by
  rcases Nat.lt_trichotomy e f with c | c | c
  · have := h'.2.2 e (by have := h.1; omega) c
    have := h.2.1
    omega
  · exact c
  · have := h.2.2 f (by have := h'.1; omega) c
    have := h'.2.1
    omega
theorem tx_ex {t : Nat → Nat} {n p : Nat} (W : tx_W t n) (hp : p < n) : ∀ d i, i + d = n → p < i → (∀ j, p ≤ j → j < i → tx_D t p ≤ tx_D t j) → ∃ e, e ≤ n ∧ tx_E t p e := by
  intro d
  induction d with
  | zero =>
    intro i hi hpi h
    have h0 : i = n := by omega
    have h1 := h (i - 1) (by omega) (by omega)
    have h2 := tx_Dm t (i := i) (by omega)
    have h3 := W.1
    have h4 := W.2 p hp
    rw [← h0] at h3
    exact ⟨i, by omega, hpi, by omega, h⟩
  | succ d ih =>
    intro i hi hpi h
    by_cases c : tx_D t i < tx_D t p
    · have h1 := h (i - 1) (by omega) (by omega)
      have h2 := tx_Dm t (i := i) (by omega)
      exact ⟨i, by omega, hpi, by omega, h⟩
    · refine ih (i + 1) (by omega) (by omega) (fun j h1 h2 => ?_)
      rcases Nat.lt_or_ge j i with h3 | h3
      · exact h j h1 h3
      · have h4 : j = i := by omega
        rw [h4]; omega
theorem tx_spec {t : Nat → Nat} {n p : Nat} (W : tx_W t n) (hp : p < n) : tx_E t p (tx_e t p) ∧ tx_e t p ≤ n := by
  obtain ⟨e, he, hE⟩ := tx_ex W hp (n - (p + 1)) (p + 1) (by omega) (by omega) (fun j h1 h2 => by
    have h3 : j = p := by omega
    rw [h3]; exact Int.le_refl _)
  have h1 : tx_E t p (tx_e t p) := Classical.epsilon_spec (p := tx_E t p) ⟨e, hE⟩
  have h2 := tx_uniq h1 hE
  exact ⟨h1, by omega⟩
theorem tx_eq {t : Nat → Nat} {p e : Nat} (h : tx_E t p e) : tx_e t p = e :=
  tx_uniq (Classical.epsilon_spec (p := tx_E t p) ⟨e, h⟩) h
theorem tx_lt {t : Nat → Nat} {n p : Nat} (W : tx_W t n) (hp : p < n) : p < tx_e t p := (tx_spec W hp).1.1
theorem tx_le {t : Nat → Nat} {n p : Nat} (W : tx_W t n) (hp : p < n) : tx_e t p ≤ n := (tx_spec W hp).2
theorem tx_drop {t : Nat → Nat} {n i c : Nat} (W : tx_W t n) (hi : i < n) (h : i < c) (hD : tx_D t c < tx_D t i) : tx_e t i ≤ c := by
  rcases Nat.lt_or_ge c (tx_e t i) with h1 | h1
  · have := (tx_spec W hi).1.2.2 c (by omega) h1
    omega
  · exact h1
theorem tx_nest {t : Nat → Nat} {n g q : Nat} (W : tx_W t n) (hq : q < n) (h : g < q) (h' : q < tx_e t g) : tx_e t q ≤ tx_e t g := by
  have S := (tx_spec W (p := g) (by omega)).1
  have h1 := S.2.2 q (by omega) h'
  have h2 := S.2.1
  exact tx_drop W hq h' (by omega)
/-- c begins the j-th part of the term at p -/
def tx_P (t : Nat → Nat) (p j c : Nat) : Prop := p < c ∧ tx_D t c = tx_D t p + (tx_pt (t p) : Int) - 1 - j ∧ ∀ i, p < i → i < c → tx_D t c < tx_D t i
theorem tx_P0 (t : Nat → Nat) (p : Nat) : tx_P t p 0 (p + 1) := ⟨by omega, by rw [tx_D1]; omega, fun i h1 h2 => by omega⟩
theorem tx_Pe {t : Nat → Nat} {p c : Nat} (h : tx_P t p (tx_pt (t p)) c) : tx_e t p = c := by
  refine tx_eq ⟨h.1, by have := h.2.1; omega, fun i h1 h2 => ?_⟩
  rcases Nat.lt_or_ge p i with h3 | h3
  · have := h.2.2 i h3 h2
    have := h.2.1
    omega
  · have h4 : i = p := by omega
    rw [h4]; exact Int.le_refl _
theorem tx_Ps {t : Nat → Nat} {n p j c : Nat} (W : tx_W t n) (hp : p < n) (hj : j < tx_pt (t p)) (hc : c ≤ n) (h : tx_P t p j c) : c < n ∧ c < tx_e t p ∧ tx_P t p (j + 1) (tx_e t c) := by
  have h1 := W.2 p hp
  have h2 := h.2.1
  have h3 := W.1
  have h4 : c < n := by
    rcases Nat.lt_or_ge c n with h4 | h4
    · exact h4
    · have h5 : c = n := by omega
      rw [h5] at h2
      omega
  have S := (tx_spec W hp).1
  have C := (tx_spec W h4).1
  refine ⟨h4, ?_, ?_, ?_, ?_⟩
  · have h6 := S.2.1
    rcases Nat.lt_trichotomy c (tx_e t p) with h5 | h5 | h5
    · exact h5
    · rw [← h5] at h6
      omega
    · have := h.2.2 _ S.1 h5
      omega
  · have := h.1
    have := C.1
    omega
  · have := C.2.1
    omega
  · intro i h5 h6
    have h7 := C.2.1
    rcases Nat.lt_or_ge i c with h8 | h8
    · have := h.2.2 i h5 h8
      omega
    · have := C.2.2 i h8 h6
      omega
/-- c begins a part of the term at p -/
def tx_S (t : Nat → Nat) (p c : Nat) : Prop := p < c ∧ c < tx_e t p ∧ ∀ i, p < i → i < c → tx_D t c < tx_D t i
theorem tx_0 {t : Nat → Nat} {p : Nat} (h : tx_pt (t p) = 0) : tx_e t p = p + 1 := tx_Pe (by rw [h]; exact tx_P0 t p)
theorem tx_1 {t : Nat → Nat} {n p : Nat} (W : tx_W t n) (hp : p < n) (h : 1 ≤ tx_pt (t p)) : p + 1 < n ∧ tx_S t p (p + 1) ∧ tx_e t (p + 1) ≤ n ∧ p + 1 < tx_e t (p + 1) := by
  have A := tx_Ps W hp (j := 0) (by omega) (by omega) (tx_P0 t p)
  exact ⟨A.1, ⟨by omega, A.2.1, (tx_P0 t p).2.2⟩, tx_le W A.1, tx_lt W A.1⟩
theorem tx_1e {t : Nat → Nat} {n p : Nat} (W : tx_W t n) (hp : p < n) (h : tx_pt (t p) = 1) : tx_e t p = tx_e t (p + 1) := by
  have A := tx_Ps W hp (j := 0) (by omega) (by omega) (tx_P0 t p)
  exact tx_Pe (by rw [h]; exact A.2.2)
theorem tx_2 {t : Nat → Nat} {n p : Nat} (W : tx_W t n) (hp : p < n) (h : 2 ≤ tx_pt (t p)) : tx_e t (p + 1) < n ∧ tx_S t p (tx_e t (p + 1)) ∧ tx_e t (tx_e t (p + 1)) ≤ n ∧ tx_e t (p + 1) < tx_e t (tx_e t (p + 1)) := by
  have A := tx_Ps W hp (j := 0) (by omega) (by omega) (tx_P0 t p)
  have B := tx_Ps W hp (j := 1) (by omega) (tx_le W A.1) A.2.2
  exact ⟨B.1, ⟨A.2.2.1, B.2.1, A.2.2.2.2⟩, tx_le W B.1, tx_lt W B.1⟩
theorem tx_2e {t : Nat → Nat} {n p : Nat} (W : tx_W t n) (hp : p < n) (h : tx_pt (t p) = 2) : tx_e t p = tx_e t (tx_e t (p + 1)) := by
  have A := tx_Ps W hp (j := 0) (by omega) (by omega) (tx_P0 t p)
  have B := tx_Ps W hp (j := 1) (by omega) (tx_le W A.1) A.2.2
  exact tx_Pe (by rw [h]; exact B.2.2)
theorem tx_3 {t : Nat → Nat} {n p : Nat} (W : tx_W t n) (hp : p < n) (h : tx_pt (t p) = 3) : tx_e t (tx_e t (p + 1)) < n ∧ tx_S t p (tx_e t (tx_e t (p + 1))) ∧ tx_e t p = tx_e t (tx_e t (tx_e t (p + 1))) := by
  have A := tx_Ps W hp (j := 0) (by omega) (by omega) (tx_P0 t p)
  have B := tx_Ps W hp (j := 1) (by omega) (tx_le W A.1) A.2.2
  have C := tx_Ps W hp (j := 2) (by omega) (tx_le W B.1) B.2.2
  exact ⟨C.1, ⟨B.2.2.1, C.2.1, B.2.2.2.2⟩, tx_Pe (by rw [h]; exact C.2.2)⟩
/-- g gives its name at q -/
noncomputable def tx_gv (t : Nat → Nat) (g q : Nat) : Bool := decide (((t g / 10 = 4 ∨ t g / 10 = 7) ∧ g < q ∨ t g / 10 = 6 ∧ tx_e t (g + 1) ≤ q) ∧ q < tx_e t g)
noncomputable def tx_gr (t : Nat → Nat) (q : Nat) : Nat → List Nat
  | 0 => []
  | g + 1 => if tx_gv t g q = true then (t g % 10) :: tx_gr t q g else tx_gr t q g
noncomputable def tx_G (t : Nat → Nat) (q : Nat) : List Nat := tx_gr t q q
theorem tx_gv_iff {t : Nat → Nat} {g q : Nat} : tx_gv t g q = true ↔ ((t g / 10 = 4 ∨ t g / 10 = 7) ∧ g < q ∨ t g / 10 = 6 ∧ tx_e t (g + 1) ≤ q) ∧ q < tx_e t g := by
  unfold tx_gv; exact decide_eq_true_iff
theorem tx_gr_mid {t : Nat → Nat} {p c : Nat} (h : ∀ g, p < g → g < c → ¬ tx_gv t g c = true) : ∀ d, p + 1 + d ≤ c → tx_gr t c (p + 1 + d) = tx_gr t c (p + 1) := by
  intro d
  induction d with
  | zero => intro _; rfl
  | succ d ih =>
    intro hd
    show tx_gr t c (p + 1 + d + 1) = _
    rw [tx_gr, if_neg (h (p + 1 + d) (by omega) (by omega))]
    exact ih (by omega)
theorem tx_gr_low {t : Nat → Nat} {p c : Nat} (h : ∀ g, g < p → (tx_gv t g c = true ↔ tx_gv t g p = true)) : ∀ m, m ≤ p → tx_gr t c m = tx_gr t p m := by
  intro m
  induction m with
  | zero => intro _; rfl
  | succ m ih =>
    intro hm
    rw [tx_gr, tx_gr, ih (by omega)]
    by_cases c1 : tx_gv t m p = true
    · rw [if_pos c1, if_pos ((h m (by omega)).mpr c1)]
    · rw [if_neg c1, if_neg (fun z => c1 ((h m (by omega)).mp z))]
theorem tx_Gp {t : Nat → Nat} {n p c : Nat} (W : tx_W t n) (hp : p < n) (hc : c < n) (h : tx_S t p c) : tx_G t c = if tx_gv t p c = true then (t p % 10) :: tx_G t p else tx_G t p := by
  have hpt : ∀ g, t g / 10 = 6 → 1 ≤ tx_pt (t g) := by
    intro g hg; unfold tx_pt; split <;> (try split) <;> (try split) <;> (try split) <;> (try split) <;> (try split) <;> omega
  have hlow : ∀ g, g < p → (tx_gv t g c = true ↔ tx_gv t g p = true) := by
    intro g hg
    rw [tx_gv_iff, tx_gv_iff]
    have hgn : g < n := by omega
    have a1 := h.1
    have a2 := h.2.1
    have key : (c < tx_e t g ↔ p < tx_e t g) := by
      constructor
      · intro z; omega
      · intro z
        have := tx_nest W hp hg z
        omega
    have key2 : t g / 10 = 6 → (tx_e t (g + 1) ≤ c ↔ tx_e t (g + 1) ≤ p) := by
      intro z6
      have T := tx_1 W hgn (hpt g z6)
      constructor
      · intro z
        rcases Nat.lt_or_ge p (tx_e t (g + 1)) with z1 | z1
        · rcases Nat.lt_or_ge (g + 1) p with z2 | z2
          · have := tx_nest W hp z2 z1
            omega
          · have z3 : g + 1 = p := by omega
            rw [z3] at z z1
            omega
        · exact z1
      · intro z; omega
    rw [key]
    constructor
    · rintro ⟨z1 | z1, z2⟩
      · exact ⟨Or.inl ⟨z1.1, hg⟩, z2⟩
      · exact ⟨Or.inr ⟨z1.1, (key2 z1.1).mp z1.2⟩, z2⟩
    · rintro ⟨z1 | z1, z2⟩
      · exact ⟨Or.inl ⟨z1.1, by omega⟩, z2⟩
      · exact ⟨Or.inr ⟨z1.1, (key2 z1.1).mpr z1.2⟩, z2⟩
  have hmid : ∀ g, p < g → g < c → ¬ tx_gv t g c = true := by
    intro g h1 h2 z
    rw [tx_gv_iff] at z
    have := tx_drop W (i := g) (by omega) h2 (h.2.2 g h1 h2)
    omega
  have e1 : tx_G t c = tx_gr t c (p + 1) := by
    have := tx_gr_mid hmid (c - (p + 1)) (by have := h.1; omega)
    rw [show p + 1 + (c - (p + 1)) = c by have := h.1; omega] at this
    exact this
  rw [e1, tx_gr, tx_gr_low hlow p (Nat.le_refl _)]
  rfl
theorem tx_G0 (t : Nat → Nat) : tx_G t 0 = [] := rfl
theorem tx_Gname {t : Nat → Nat} {n p : Nat} (W : tx_W t n) (hp : p < n) (h : t p / 10 = 4 ∨ t p / 10 = 7) (h1 : 1 ≤ tx_pt (t p)) : tx_G t (p + 1) = (t p % 10) :: tx_G t p := by
  have T := tx_1 W hp h1
  rw [tx_Gp W hp T.1 T.2.1, if_pos (tx_gv_iff.mpr ⟨Or.inl ⟨h, by omega⟩, T.2.1.2.1⟩)]
theorem tx_Glet0 {t : Nat → Nat} {n p : Nat} (W : tx_W t n) (hp : p < n) (h : t p / 10 = 5 ∨ t p / 10 = 6) (h1 : 1 ≤ tx_pt (t p)) : tx_G t (p + 1) = tx_G t p := by
  have T := tx_1 W hp h1
  rw [tx_Gp W hp T.1 T.2.1, if_neg (fun z => ?_)]
  rw [tx_gv_iff] at z
  omega
theorem tx_Glet1 {t : Nat → Nat} {n p : Nat} (W : tx_W t n) (hp : p < n) (h : t p / 10 = 6) (h1 : 2 ≤ tx_pt (t p)) : tx_G t (tx_e t (p + 1)) = (t p % 10) :: tx_G t p := by
  have T := tx_2 W hp h1
  rw [tx_Gp W hp T.1 T.2.1, if_pos (tx_gv_iff.mpr ⟨Or.inr ⟨h, Nat.le_refl _⟩, T.2.1.2.1⟩)]
theorem tx_Gop1 {t : Nat → Nat} {n p : Nat} (W : tx_W t n) (hp : p < n) (h : t p / 10 = 5) (h1 : 2 ≤ tx_pt (t p)) : tx_G t (tx_e t (p + 1)) = tx_G t p := by
  have T := tx_2 W hp h1
  rw [tx_Gp W hp T.1 T.2.1, if_neg (fun z => ?_)]
  rw [tx_gv_iff] at z
  omega
theorem tx_Gop2 {t : Nat → Nat} {n p : Nat} (W : tx_W t n) (hp : p < n) (h : t p / 10 = 5) (h1 : tx_pt (t p) = 3) : tx_G t (tx_e t (tx_e t (p + 1))) = tx_G t p := by
  have T := tx_3 W hp h1
  rw [tx_Gp W hp T.1 T.2.1, if_neg (fun z => ?_)]
  rw [tx_gv_iff] at z
  omega
end
section
/-! the pure machine: frames in lists, names in one growing table -/
abbrev pm_V : Type := Int32 ⊕ ((Nat × Nat) ⊕ Nat)
abbrev pm_F : Type := Option (Nat × Nat × Option pm_V)
abbrev pm_N : Type := Nat → Nat × pm_V × Nat
abbrev pm_M : Type := (Nat × Nat) ⊕ pm_V
/-- mode, pending (innermost first), segments, names, their number, numbers put out, their number, calls, deepest, ending -/
abbrev pm_S : Type := pm_M × List pm_F × List (List pm_F) × pm_N × Nat × (Nat → Int32) × Nat × Nat × Nat × Nat
def pm_bd (nm : pm_N) (b x : Nat) (v : pm_V) (o : Nat) : pm_N := fun i => if i = b + 1 then (x, v, o) else nm i
def pm_look (nm : pm_N) : List Nat → Nat → Nat → Option pm_V
  | [], _, _ => none
  | y :: l, x, s => if y = x then some (nm s).2.1 else pm_look nm l x (nm s).2.2
def pm_rk (k : Nat) (a c : Int32) : Int32 := if k = 53 then a + c else if k = 54 then a - c else if k = 55 then a * c else if a < c then 1 else 0
def pm_go (m : pm_M) (K : List pm_F) (sg : List (List pm_F)) (nm : pm_N) (b : Nat) (out : Nat → Int32) (oc cc mo : Nat) : pm_S := (m, K, sg, nm, b, out, oc, cc, max mo K.length, 0)
noncomputable def pm_evl (t : Nat → Nat) (p s : Nat) (K : List pm_F) (sg : List (List pm_F)) (nm : pm_N) (b : Nat) (out : Nat → Int32) (oc cc mo : Nat) : pm_S :=
  if t p < 40 then
    match pm_look nm (tx_G t p) (t p % 10) s with
    | none => (.inl (p, s), K, sg, nm, b, out, oc, cc, mo, 2)
    | some v => pm_go (.inr v) K sg nm b out oc cc mo
  else if t p < 50 then pm_go (.inr (.inr (.inl (s, p)))) K sg nm b out oc cc mo
  else if t p < 70 then
    if K.length = 16 then (.inl (p, s), K, sg, nm, b, out, oc, cc, mo, 4)
    else pm_go (.inl (p + 1, s)) ((if t p = 59 then none else some (p, s, none)) :: K) sg nm b out oc cc mo
  else if t p < 80 then
    if sg.length = 8 then (.inl (p, s), K, sg, nm, b, out, oc, cc, mo, 3)
    else pm_go (.inl (p + 1, b + 1)) (K.dropWhile Option.isSome) (sg ++ [K.takeWhile Option.isSome]) (pm_bd nm b (t p % 10) (.inr (.inr sg.length)) s) (b + 1) out oc cc mo
  else pm_go (.inr (.inl (nI (t p) - 100))) K sg nm b out oc cc mo
noncomputable def pm_cal (t : Nat → Nat) (w v : pm_V) (K : List pm_F) (sg : List (List pm_F)) (nm : pm_N) (b : Nat) (out : Nat → Int32) (oc cc mo : Nat) : pm_S :=
  match w with
  | .inl _ => (.inr v, K, sg, nm, b, out, oc, cc, mo, 2)
  | .inr (.inl (s, p)) =>
    if cc = 40 then (.inr v, K, sg, nm, b, out, oc, cc, mo, 3)
    else pm_go (.inl (p + 1, b + 1)) K sg (pm_bd nm b (t p % 10) v s) (b + 1) out oc (cc + 1) mo
  | .inr (.inr j) =>
    if cc = 40 then (.inr v, K, sg, nm, b, out, oc, cc, mo, 3)
    else if 16 < K.length + 1 + (sg.getD j []).length then (.inr v, K, sg, nm, b, out, oc, cc + 1, mo, 4)
    else pm_go (.inr v) (sg.getD j [] ++ none :: K) sg nm b out oc (cc + 1) mo
noncomputable def pm_hnd (t : Nat → Nat) (v : pm_V) (K : List pm_F) (sg : List (List pm_F)) (nm : pm_N) (b : Nat) (out : Nat → Int32) (oc cc mo : Nat) : pm_S :=
  match K with
  | [] => (.inr v, [], sg, nm, b, out, oc, cc, mo, 1)
  | none :: K => if K.length = 0 then (.inr v, K, sg, nm, b, out, oc, cc, mo, 1) else pm_go (.inr v) K sg nm b out oc cc mo
  | some (p, s, o) :: K =>
    if t p < 57 then
      match o with
      | none => pm_go (.inl (tx_e t (p + 1), s)) (some (p, s, some v) :: K) sg nm b out oc cc mo
      | some w =>
        if t p = 52 then pm_cal t w v K sg nm b out oc cc mo
        else match w, v with
          | .inl a, .inl c => pm_go (.inr (.inl (pm_rk (t p) a c))) K sg nm b out oc cc mo
          | _, _ => (.inr v, K, sg, nm, b, out, oc, cc, mo, 2)
    else if t p < 58 then
      match v with
      | .inl a => pm_go (.inl (if a = 0 then tx_e t (tx_e t (p + 1)) else tx_e t (p + 1), s)) K sg nm b out oc cc mo
      | .inr _ => (.inr v, K, sg, nm, b, out, oc, cc, mo, 2)
    else if t p < 60 then
      match v with
      | .inl a => if oc = 16 then (.inr v, K, sg, nm, b, out, oc, cc, mo, 5) else pm_go (.inr (.inl a)) K sg nm b (upd out oc a) (oc + 1) cc mo
      | .inr _ => (.inr v, K, sg, nm, b, out, oc, cc, mo, 2)
    else pm_go (.inl (tx_e t (p + 1), b + 1)) K sg (pm_bd nm b (t p % 10) v s) (b + 1) out oc cc mo
noncomputable def pm_step (t : Nat → Nat) (m : pm_M) (K : List pm_F) (sg : List (List pm_F)) (nm : pm_N) (b : Nat) (out : Nat → Int32) (oc cc mo : Nat) : pm_S :=
  match m with
  | .inl (p, s) => pm_evl t p s K sg nm b out oc cc mo
  | .inr v => pm_hnd t v K sg nm b out oc cc mo
/-! what is well formed -/
def pm_Ch (nm : pm_N) (b : Nat) : List Nat → Nat → Prop
  | [], s => s = 0
  | x :: l, s => 0 < s ∧ s ≤ b ∧ (nm s).1 = x ∧ pm_Ch nm b l (nm s).2.2
def pm_v (t : Nat → Nat) (n : Nat) (nm : pm_N) (b c : Nat) : pm_V → Prop
  | .inl _ => True
  | .inr (.inl (s, p)) => p < n ∧ t p / 10 = 4 ∧ pm_Ch nm b (tx_G t p) s
  | .inr (.inr j) => j < c
def pm_o (t : Nat → Nat) (n : Nat) (nm : pm_N) (b c p : Nat) : Option pm_V → Prop
  | none => True
  | some v => t p < 57 ∧ pm_v t n nm b c v
def pm_f (t : Nat → Nat) (n : Nat) (nm : pm_N) (b c : Nat) : pm_F → Prop
  | none => True
  | some (p, s, o) => p < n ∧ (t p / 10 = 5 ∨ t p / 10 = 6) ∧ t p ≠ 59 ∧ pm_Ch nm b (tx_G t p) s ∧ pm_o t n nm b c p o
def pm_m (t : Nat → Nat) (n : Nat) (nm : pm_N) (b c : Nat) : pm_M → Prop
  | .inl (p, s) => p < n ∧ pm_Ch nm b (tx_G t p) s
  | .inr v => pm_v t n nm b c v
def pm_X (nm : pm_N) (b c : Nat) (nm' : pm_N) (b' c' : Nat) : Prop := b ≤ b' ∧ c ≤ c' ∧ ∀ i, i ≤ b → nm' i = nm i
theorem pm_Ch_x {nm nm' : pm_N} {b b' c c' : Nat} (h : pm_X nm b c nm' b' c') : ∀ (l : List Nat) (s : Nat), pm_Ch nm b l s → pm_Ch nm' b' l s := by
  intro l
  induction l with
  | nil => intro s hs; exact hs
  | cons x l ih =>
    intro s hs
    obtain ⟨h1, h2, h3, h4⟩ := hs
    have e := h.2.2 s h2
    refine ⟨h1, Nat.le_trans h2 h.1, by rw [e]; exact h3, ?_⟩
    rw [e]; exact ih _ h4
theorem pm_v_x {t : Nat → Nat} {n : Nat} {nm nm' : pm_N} {b b' c c' : Nat} (h : pm_X nm b c nm' b' c') : ∀ v, pm_v t n nm b c v → pm_v t n nm' b' c' v
  | .inl _, _ => trivial
  | .inr (.inl (_, _)), hv => ⟨hv.1, hv.2.1, pm_Ch_x h _ _ hv.2.2⟩
  | .inr (.inr _), hv => Nat.lt_of_lt_of_le hv h.2.1
theorem pm_o_x {t : Nat → Nat} {n p : Nat} {nm nm' : pm_N} {b b' c c' : Nat} (h : pm_X nm b c nm' b' c') : ∀ o, pm_o t n nm b c p o → pm_o t n nm' b' c' p o
  | none, _ => trivial
  | some v, hv => ⟨hv.1, pm_v_x h v hv.2⟩
theorem pm_f_x {t : Nat → Nat} {n : Nat} {nm nm' : pm_N} {b b' c c' : Nat} (h : pm_X nm b c nm' b' c') : ∀ f, pm_f t n nm b c f → pm_f t n nm' b' c' f
  | none, _ => trivial
  | some (_, _, o), hf => ⟨hf.1, hf.2.1, hf.2.2.1, pm_Ch_x h _ _ hf.2.2.2.1, pm_o_x h o hf.2.2.2.2⟩
theorem pm_X_bd (nm : pm_N) (b c c' x : Nat) (v : pm_V) (o : Nat) (h : c ≤ c') : pm_X nm b c (pm_bd nm b x v o) (b + 1) c' :=
  ⟨by omega, h, fun i hi => by unfold pm_bd; rw [if_neg (by omega)]⟩
theorem pm_bd_s (nm : pm_N) (b x : Nat) (v : pm_V) (o : Nat) : pm_bd nm b x v o (b + 1) = (x, v, o) := by unfold pm_bd; rw [if_pos rfl]
theorem pm_Ch_bd {nm : pm_N} {b x o : Nat} {v : pm_V} {l : List Nat} (h : pm_Ch nm b l o) : pm_Ch (pm_bd nm b x v o) (b + 1) (x :: l) (b + 1) := by
  refine ⟨by omega, Nat.le_refl _, by rw [pm_bd_s], ?_⟩
  rw [pm_bd_s]
  exact pm_Ch_x (pm_X_bd nm b 0 0 x v o (Nat.le_refl _)) l o h
/-- the heap: segments and names -/
def pm_A (t : Nat → Nat) (n : Nat) (sg : List (List pm_F)) (nm : pm_N) (b : Nat) : Prop :=
  sg.length ≤ 8 ∧ (∀ z, z ∈ sg → z.length ≤ 15 ∧ ∀ f, f ∈ z → f.isSome = true ∧ pm_f t n nm b sg.length f) ∧ ∀ i, 1 ≤ i → i ≤ b → pm_v t n nm b sg.length (nm i).2.1
def pm_B (t : Nat → Nat) (n : Nat) (K : List pm_F) (c : Nat) (nm : pm_N) (b : Nat) : Prop :=
  (∀ f, f ∈ K → pm_f t n nm b c f) ∧ K.length ≤ 16 ∧ ∃ K0, K = K0 ++ [none]
noncomputable def pm_cf (t : Nat → Nat) : pm_F → Nat
  | some (p, _, none) => tx_e t p - tx_e t (p + 1) + 1
  | _ => 0
noncomputable def pm_cm (t : Nat → Nat) : pm_M → Nat
  | .inl (p, _) => tx_e t p - p - 1
  | .inr _ => 0
noncomputable def pm_wf (t : Nat → Nat) : pm_F → Nat
  | none => 2
  | some (p, _, none) => 3 * (tx_e t p - tx_e t (p + 1)) + 2
  | some (_, _, some _) => 1
noncomputable def pm_wm (t : Nat → Nat) : pm_M → Nat
  | .inl (p, _) => 3 * (tx_e t p - p)
  | .inr _ => 0
noncomputable def pm_cs (t : Nat → Nat) : List pm_F → Nat
  | [] => 0
  | f :: K => pm_cf t f + pm_cs t K
noncomputable def pm_ws (t : Nat → Nat) : List pm_F → Nat
  | [] => 0
  | f :: K => pm_wf t f + pm_ws t K
noncomputable def pm_w (t : Nat → Nat) (m : pm_M) (K : List pm_F) (cc : Nat) : Nat := pm_wm t m + pm_ws t K + (40 - cc) * 2000
def pm_C (t : Nat → Nat) (m : pm_M) (K : List pm_F) (c b oc cc mo : Nat) : Prop :=
  oc ≤ 16 ∧ cc ≤ 40 ∧ K.length ≤ mo ∧ mo ≤ 16 ∧ 2 * b + pm_cm t m + pm_cs t K + (40 - cc) * 434 + (8 - c) * 2 ≤ 17407
def pm_I (t : Nat → Nat) (n : Nat) (m : pm_M) (K : List pm_F) (sg : List (List pm_F)) (nm : pm_N) (b oc cc mo : Nat) : Prop :=
  pm_m t n nm b sg.length m ∧ pm_B t n K sg.length nm b ∧ pm_A t n sg nm b ∧ pm_C t m K sg.length b oc cc mo
/-- if it goes on: well formed again, and less is left to do -/
def pm_J (t : Nat → Nat) (n w : Nat) : pm_S → Prop
  | (m, K, sg, nm, b, _, oc, cc, mo, st) => st = 0 → pm_I t n m K sg nm b oc cc mo ∧ pm_w t m K cc < w
end
section
/-! a step keeps what is well formed, and leaves less to do -/
theorem kp_a (t : Nat → Nat) (z K : List pm_F) : pm_cs t (z ++ K) = pm_cs t z + pm_cs t K ∧ pm_ws t (z ++ K) = pm_ws t z + pm_ws t K := by
  induction z with
  | nil => exact ⟨(Nat.zero_add _).symm, (Nat.zero_add _).symm⟩
  | cons f z ih =>
    have e1 : pm_cs t ((f :: z) ++ K) = pm_cf t f + pm_cs t (z ++ K) := rfl
    have e2 : pm_ws t ((f :: z) ++ K) = pm_wf t f + pm_ws t (z ++ K) := rfl
    have e3 : pm_cs t (f :: z) = pm_cf t f + pm_cs t z := rfl
    have e4 : pm_ws t (f :: z) = pm_wf t f + pm_ws t z := rfl
    omega
theorem kp_b (t : Nat → Nat) (z : List pm_F) (h : ∀ f, f ∈ z → pm_cf t f ≤ 31 ∧ pm_wf t f ≤ 100) : pm_cs t z ≤ z.length * 31 ∧ pm_ws t z ≤ z.length * 100 := by
  induction z with
  | nil => exact ⟨Nat.zero_le _, Nat.zero_le _⟩
  | cons f z ih =>
    have e3 : pm_cs t (f :: z) = pm_cf t f + pm_cs t z := rfl
    have e4 : pm_ws t (f :: z) = pm_wf t f + pm_ws t z := rfl
    have h1 := h f (List.mem_cons_self ..)
    have h2 := ih (fun g hg => h g (List.mem_cons_of_mem _ hg))
    rw [List.length_cons]
    omega
theorem kp_pt {x : Nat} : (x < 40 → tx_pt x = 0) ∧ (40 ≤ x → x < 50 → tx_pt x = 1) ∧ (50 ≤ x → x < 57 → tx_pt x = 2) ∧ (x = 57 → tx_pt x = 3) ∧ (58 ≤ x → x < 60 → tx_pt x = 1) ∧ (60 ≤ x → x < 70 → tx_pt x = 2) ∧ (70 ≤ x → x < 80 → tx_pt x = 1) ∧ (80 ≤ x → tx_pt x = 0) := by
  unfold tx_pt
  refine ⟨fun a => ?_, fun a c => ?_, fun a c => ?_, fun a => ?_, fun a c => ?_, fun a c => ?_, fun a c => ?_, fun a => ?_⟩ <;>
    repeat (first | rw [if_pos (by omega)] | rw [if_neg (by omega)])
theorem kp_cw {t : Nat → Nat} {n : Nat} (W : tx_W t n) (hn : n ≤ 32) {nm : pm_N} {b c : Nat} (f : pm_F) (hf : pm_f t n nm b c f) : pm_cf t f ≤ 31 ∧ pm_wf t f ≤ 100 := by
  rcases f with _ | ⟨p, s, o⟩
  · exact ⟨Nat.zero_le _, by show 2 ≤ 100; omega⟩
  · rcases o with _ | v
    · have hp := hf.1
      have h1 : 1 ≤ tx_pt (t p) := by
        have P := @kp_pt (t p)
        have h5 := hf.2.1
        omega
      have T := tx_1 W hp h1
      have L := tx_le W hp
      have e1 : pm_cf t (some (p, s, none)) = tx_e t p - tx_e t (p + 1) + 1 := rfl
      have e2 : pm_wf t (some (p, s, none)) = 3 * (tx_e t p - tx_e t (p + 1)) + 2 := rfl
      omega
    · exact ⟨Nat.zero_le _, by show 1 ≤ 100; omega⟩
theorem kp_look {t : Nat → Nat} {n : Nat} {nm : pm_N} {b c x : Nat} {v : pm_V} (h : ∀ i, 1 ≤ i → i ≤ b → pm_v t n nm b c (nm i).2.1) : ∀ (l : List Nat) (s : Nat), pm_Ch nm b l s → pm_look nm l x s = some v → pm_v t n nm b c v := by
  intro l
  induction l with
  | nil => intro s _ e; exact absurd e (by simp [pm_look])
  | cons y l ih =>
    intro s hs e
    rw [pm_look] at e
    by_cases c1 : y = x
    · rw [if_pos c1] at e
      have e' := Option.some.inj e
      rw [← e']
      exact h s hs.1 hs.2.1
    · rw [if_neg c1] at e
      exact ih _ hs.2.2.2 e
theorem kp_tl {f : pm_F} {K : List pm_F} (h : ∃ K0, f :: K = K0 ++ [none]) (hk : f.isSome = true ∨ K.length ≠ 0) : ∃ K0, K = K0 ++ [none] := by
  obtain ⟨K0, e⟩ := h
  rcases K0 with _ | ⟨g, K0⟩
  · have e' : f = none ∧ K = [] := by
      have := List.cons.inj e
      exact this
    rcases hk with z | z
    · rw [e'.1] at z; exact absurd z (by decide)
    · rw [e'.2] at z; exact absurd rfl z
  · exact ⟨K0, (List.cons.inj e).2⟩
theorem kp_cut : ∀ (K : List pm_F), (∃ K0, K = K0 ++ [none]) → ∃ z K1, K.takeWhile Option.isSome = z ∧ K.dropWhile Option.isSome = none :: K1 ∧ K = z ++ none :: K1 ∧ (∀ f, f ∈ z → f.isSome = true) ∧ ∃ K0, none :: K1 = K0 ++ [none] := by
  intro K
  induction K with
  | nil => rintro ⟨K0, e⟩; exact absurd (congrArg List.length e) (by simp)
  | cons f K ih =>
    intro h
    rcases f with _ | f
    · exact ⟨[], K, rfl, rfl, rfl, (fun f hf => absurd hf (by simp)), h⟩
    · obtain ⟨z, K1, e1, e2, e3, e4, e5⟩ := ih (kp_tl h (Or.inl rfl))
      refine ⟨some f :: z, K1, ?_, ?_, by rw [e3]; rfl, ?_, e5⟩
      · rw [← e1]; rfl
      · rw [← e2]; rfl
      · intro g hg
        rcases List.mem_cons.mp hg with hg | hg
        · rw [hg]; rfl
        · exact e4 g hg
theorem kp_go {t : Nat → Nat} {n w : Nat} {m : pm_M} {K : List pm_F} {sg : List (List pm_F)} {nm : pm_N} {b : Nat} {out : Nat → Int32} {oc cc mo : Nat}
    (hm : pm_m t n nm b sg.length m) (hB : pm_B t n K sg.length nm b) (hA : pm_A t n sg nm b) (h1 : oc ≤ 16) (h2 : cc ≤ 40) (h3 : mo ≤ 16)
    (h4 : 2 * b + pm_cm t m + pm_cs t K + (40 - cc) * 434 + (8 - sg.length) * 2 ≤ 17407) (h5 : pm_w t m K cc < w) : pm_J t n w (pm_go m K sg nm b out oc cc mo) :=
  fun _ => ⟨⟨hm, hB, hA, h1, h2, Nat.le_max_right _ _, Nat.max_le.mpr ⟨h3, hB.2.1⟩, h4⟩, h5⟩
theorem kp_Abd {t : Nat → Nat} {n x o b : Nat} {v : pm_V} {sg : List (List pm_F)} {nm : pm_N} (h : pm_A t n sg nm b) (hv : pm_v t n nm b sg.length v) : pm_A t n sg (pm_bd nm b x v o) (b + 1) := by
  have X := pm_X_bd nm b sg.length sg.length x v o (Nat.le_refl _)
  refine ⟨h.1, fun z hz => ⟨(h.2.1 z hz).1, fun f hf => ⟨((h.2.1 z hz).2 f hf).1, pm_f_x X f ((h.2.1 z hz).2 f hf).2⟩⟩, fun i h1 h2 => ?_⟩
  rcases Nat.lt_or_ge b i with c | c
  · have e : i = b + 1 := by omega
    rw [e, pm_bd_s]
    exact pm_v_x X v hv
  · rw [X.2.2 i c]
    exact pm_v_x X _ (h.2.2 i h1 c)
theorem kp_Bbd {t : Nat → Nat} {n x o b c c' : Nat} {v : pm_V} {K : List pm_F} {nm : pm_N} (h : pm_B t n K c nm b) (hc : c ≤ c') : pm_B t n K c' (pm_bd nm b x v o) (b + 1) :=
  ⟨fun f hf => pm_f_x (pm_X_bd nm b c c' x v o hc) f (h.1 f hf), h.2⟩
theorem kp_Bt {t : Nat → Nat} {n c b : Nat} {nm : pm_N} {f : pm_F} {K : List pm_F} (h : pm_B t n (f :: K) c nm b) (hk : f.isSome = true ∨ K.length ≠ 0) : pm_B t n K c nm b :=
  ⟨fun g hg => h.1 g (List.mem_cons_of_mem _ hg), by have := h.2.1; rw [List.length_cons] at this; omega, kp_tl h.2.2 hk⟩
theorem kp_Bn {K : List pm_F} (h : ∃ K0, K = K0 ++ [none]) : 1 ≤ K.length := by
  obtain ⟨K0, e⟩ := h
  rw [e, List.length_append]; exact Nat.le_add_left _ _
theorem kp_evl {t : Nat → Nat} {n : Nat} (W : tx_W t n) (hn : n ≤ 32) (hk : ∀ i, i < n → tx_tok (t i)) {p s : Nat} {K : List pm_F} {sg : List (List pm_F)} {nm : pm_N} {b : Nat} {out : Nat → Int32} {oc cc mo : Nat}
    (I : pm_I t n (.inl (p, s)) K sg nm b oc cc mo) : pm_J t n (pm_w t (.inl (p, s)) K cc) (pm_evl t p s K sg nm b out oc cc mo) := by
  obtain ⟨⟨hp, hs⟩, hB, hA, h1, h2, h3, h4, h5⟩ := I
  have htk := hk p hp
  have P := @kp_pt (t p)
  have hlt := tx_lt W hp
  have hle := tx_le W hp
  have ecm : pm_cm t (.inl (p, s)) = tx_e t p - p - 1 := rfl
  have ew : pm_w t (.inl (p, s)) K cc = 3 * (tx_e t p - p) + pm_ws t K + (40 - cc) * 2000 := rfl
  have hv : ∀ v : pm_V, pm_cm t (.inr v) = 0 ∧ pm_w t (.inr v) K cc = 0 + pm_ws t K + (40 - cc) * 2000 := fun v => ⟨rfl, rfl⟩
  unfold pm_evl
  by_cases c1 : t p < 40
  · rw [if_pos c1]
    cases e : pm_look nm (tx_G t p) (t p % 10) s with
    | none => exact fun z => absurd z (by decide)
    | some v => exact kp_go (kp_look hA.2.2 _ _ hs e) hB hA h1 h2 h4 (by have := hv v; omega) (by have := hv v; omega)
  rw [if_neg c1]
  by_cases c2 : t p < 50
  · rw [if_pos c2]
    exact kp_go (m := .inr (.inr (.inl (s, p)))) ⟨hp, by omega, hs⟩ hB hA h1 h2 h4 (by have := hv (.inr (.inl (s, p))); omega) (by have := hv (.inr (.inl (s, p))); omega)
  rw [if_neg c2]
  by_cases c3 : t p < 70
  · rw [if_pos c3]
    by_cases c4 : K.length = 16
    · rw [if_pos c4]; exact fun z => absurd z (by decide)
    rw [if_neg c4]
    have hpt : 1 ≤ tx_pt (t p) := by omega
    have T := tx_1 W hp hpt
    have hN := tx_nest W T.1 T.2.1.1 T.2.1.2.1
    have hG := tx_Glet0 W hp (by unfold tx_tok at htk; omega) hpt
    have ecm' : pm_cm t (.inl (p + 1, s)) = tx_e t (p + 1) - (p + 1) - 1 := rfl
    have hB2 := hB.2.1
    obtain ⟨K0, eK⟩ := hB.2.2
    by_cases c5 : t p = 59
    · rw [if_pos c5]
      have e1 : pm_cs t (none :: K) = 0 + pm_cs t K := rfl
      have e2 : pm_w t (.inl (p + 1, s)) (none :: K) cc = 3 * (tx_e t (p + 1) - (p + 1)) + (2 + pm_ws t K) + (40 - cc) * 2000 := rfl
      refine kp_go (m := .inl (p + 1, s)) ⟨T.1, by rw [hG]; exact hs⟩ ⟨?_, ?_, ⟨none :: K0, by rw [eK]; rfl⟩⟩ hA h1 h2 h4 (by omega) (by omega)
      · intro f hf
        rcases List.mem_cons.mp hf with z | z
        · rw [z]; exact True.intro
        · exact hB.1 f z
      · rw [List.length_cons]; omega
    · rw [if_neg c5]
      have e1 : pm_cs t (some (p, s, none) :: K) = tx_e t p - tx_e t (p + 1) + 1 + pm_cs t K := rfl
      have e2 : pm_w t (.inl (p + 1, s)) (some (p, s, none) :: K) cc = 3 * (tx_e t (p + 1) - (p + 1)) + (3 * (tx_e t p - tx_e t (p + 1)) + 2 + pm_ws t K) + (40 - cc) * 2000 := rfl
      refine kp_go (m := .inl (p + 1, s)) ⟨T.1, by rw [hG]; exact hs⟩ ⟨?_, ?_, ⟨some (p, s, none) :: K0, by rw [eK]; rfl⟩⟩ hA h1 h2 h4 (by omega) (by omega)
      · intro f hf
        rcases List.mem_cons.mp hf with z | z
        · rw [z]; exact ⟨hp, by unfold tx_tok at htk; omega, c5, hs, True.intro⟩
        · exact hB.1 f z
      · rw [List.length_cons]; omega
  rw [if_neg c3]
  by_cases c4 : t p < 80
  · rw [if_pos c4]
    by_cases c5 : sg.length = 8
    · rw [if_pos c5]; exact fun z => absurd z (by decide)
    rw [if_neg c5]
    have hpt : tx_pt (t p) = 1 := by omega
    have T := tx_1 W hp (by omega)
    have hE := tx_1e W hp hpt
    have hG := tx_Gname W hp (by omega) (by omega)
    obtain ⟨z, K1, f1, f2, f3, f4, f5⟩ := kp_cut K hB.2.2
    rw [f1, f2]
    have hA1 := hA.1
    have el : (sg ++ [z]).length = sg.length + 1 := by rw [List.length_append]; rfl
    have X := pm_X_bd nm b sg.length (sg ++ [z]).length (t p % 10) (.inr (.inr sg.length)) s (by omega)
    have ea := kp_a t z (none :: K1)
    rw [← f3] at ea
    have e1 : pm_cs t (none :: K1) = 0 + pm_cs t K1 := rfl
    have e2 : pm_w t (.inl (p + 1, b + 1)) (none :: K1) cc = 3 * (tx_e t (p + 1) - (p + 1)) + pm_ws t (none :: K1) + (40 - cc) * 2000 := rfl
    have ecm' : pm_cm t (.inl (p + 1, b + 1)) = tx_e t (p + 1) - (p + 1) - 1 := rfl
    have hl : K.length = z.length + (K1.length + 1) := by rw [f3, List.length_append]; rfl
    have hB2 := hB.2.1
    refine kp_go (m := .inl (p + 1, b + 1)) ⟨T.1, ?_⟩ ⟨?_, ?_, f5⟩ ⟨by omega, ?_, ?_⟩ h1 h2 h4 (by rw [el]; omega) (by omega)
    · rw [hG]; exact pm_Ch_bd hs
    · intro f hf
      refine pm_f_x X f (hB.1 f ?_)
      rw [f3]; exact List.mem_append_right _ hf
    · rw [List.length_cons]; omega
    · intro y hy
      rcases List.mem_append.mp hy with q | q
      · exact ⟨(hA.2.1 y q).1, fun f hf => ⟨((hA.2.1 y q).2 f hf).1, pm_f_x X f ((hA.2.1 y q).2 f hf).2⟩⟩
      · have q' : y = z := List.mem_singleton.mp q
        rw [q']
        refine ⟨by omega, fun f hf => ⟨f4 f hf, pm_f_x X f (hB.1 f ?_)⟩⟩
        rw [f3]; exact List.mem_append_left _ hf
    · intro i g1 g2
      rcases Nat.lt_or_ge b i with c | c
      · have e : i = b + 1 := by omega
        rw [e, pm_bd_s]
        show sg.length < (sg ++ [z]).length
        omega
      · rw [X.2.2 i c]
        exact pm_v_x X _ (hA.2.2 i g1 c)
  rw [if_neg c4]
  exact kp_go (m := .inr (.inl (nI (t p) - 100))) True.intro hB hA h1 h2 h4 (by have := hv (.inl (nI (t p) - 100)); omega) (by have := hv (.inl (nI (t p) - 100)); omega)
end
section
/-! the same, with a value in hand -/
theorem kp_cal {t : Nat → Nat} {n : Nat} (W : tx_W t n) (hn : n ≤ 32) (hk : ∀ i, i < n → tx_tok (t i)) {w v : pm_V} {K : List pm_F} {sg : List (List pm_F)} {nm : pm_N} {b : Nat} {out : Nat → Int32} {oc cc mo q : Nat}
    (hw : pm_v t n nm b sg.length w) (hv : pm_v t n nm b sg.length v) (hB : pm_B t n K sg.length nm b) (hA : pm_A t n sg nm b) (h1 : oc ≤ 16) (h2 : cc ≤ 40) (h3 : mo ≤ 16)
    (h4 : 2 * b + pm_cs t K + (40 - cc) * 434 + (8 - sg.length) * 2 ≤ 17407) (h5 : pm_ws t K + (40 - cc) * 2000 < q) : pm_J t n q (pm_cal t w v K sg nm b out oc cc mo) := by
  unfold pm_cal
  rcases w with a | ⟨s, p⟩ | j
  · exact fun z => absurd z (by decide)
  · obtain ⟨hp, hp4, hs⟩ := hw
    show pm_J t n q (if cc = 40 then _ else _)
    by_cases c1 : cc = 40
    · rw [if_pos c1]; exact fun z => absurd z (by decide)
    rw [if_neg c1]
    have P := @kp_pt (t p)
    have hpt : tx_pt (t p) = 1 := by omega
    have T := tx_1 W hp (by omega)
    have hG := tx_Gname W hp (by omega) (by omega)
    have X := pm_X_bd nm b sg.length sg.length (t p % 10) v s (Nat.le_refl _)
    have ecm' : pm_cm t (.inl (p + 1, b + 1)) = tx_e t (p + 1) - (p + 1) - 1 := rfl
    have e2 : pm_w t (.inl (p + 1, b + 1)) K (cc + 1) = 3 * (tx_e t (p + 1) - (p + 1)) + pm_ws t K + (40 - (cc + 1)) * 2000 := rfl
    exact kp_go (m := .inl (p + 1, b + 1)) ⟨T.1, by rw [hG]; exact pm_Ch_bd hs⟩ (kp_Bbd hB (Nat.le_refl _)) (kp_Abd hA hv) h1 (by omega) h3 (by omega) (by omega)
  · have hj : j < sg.length := hw
    show pm_J t n q (if cc = 40 then _ else if _ then _ else _)
    by_cases c1 : cc = 40
    · rw [if_pos c1]; exact fun z => absurd z (by decide)
    rw [if_neg c1]
    by_cases c2 : 16 < K.length + 1 + (sg.getD j []).length
    · rw [if_pos c2]; exact fun z => absurd z (by decide)
    rw [if_neg c2]
    have hz : sg.getD j [] ∈ sg := by
      rw [List.getD_eq_getElem?_getD, List.getElem?_eq_getElem hj]
      exact List.getElem_mem hj
    generalize sg.getD j [] = z at c2 hz
    have hz2 := (hA.2.1 z hz).2
    have hb := kp_b t z (fun f hf => kp_cw W hn f (hz2 f hf).2)
    have ea := kp_a t z (none :: K)
    have e1 : pm_cs t (none :: K) = 0 + pm_cs t K := rfl
    have e3 : pm_ws t (none :: K) = 2 + pm_ws t K := rfl
    have e2 : pm_w t (.inr v) (z ++ none :: K) (cc + 1) = 0 + pm_ws t (z ++ none :: K) + (40 - (cc + 1)) * 2000 := rfl
    have ecm : pm_cm t (.inr v) = 0 := rfl
    have hl : (z ++ none :: K).length = z.length + (K.length + 1) := by rw [List.length_append]; rfl
    have hK := kp_Bn hB.2.2
    obtain ⟨K0, eK⟩ := hB.2.2
    refine kp_go (m := .inr v) hv ⟨?_, by omega, ⟨z ++ none :: K0, by rw [eK]; simp⟩⟩ hA h1 (by omega) h3 (by omega) (by omega)
    intro f hf
    rcases List.mem_append.mp hf with y | y
    · exact (hz2 f y).2
    · rcases List.mem_cons.mp y with y | y
      · rw [y]; exact True.intro
      · exact hB.1 f y
theorem kp_hnd {t : Nat → Nat} {n : Nat} (W : tx_W t n) (hn : n ≤ 32) (hk : ∀ i, i < n → tx_tok (t i)) {v : pm_V} {K : List pm_F} {sg : List (List pm_F)} {nm : pm_N} {b : Nat} {out : Nat → Int32} {oc cc mo : Nat}
    (I : pm_I t n (.inr v) K sg nm b oc cc mo) : pm_J t n (pm_w t (.inr v) K cc) (pm_hnd t v K sg nm b out oc cc mo) := by
  obtain ⟨hv, hB, hA, h1, h2, h3, h4, h5⟩ := I
  have ecm : ∀ v : pm_V, pm_cm t (.inr v) = 0 := fun _ => rfl
  have ev := ecm v
  rcases K with _ | ⟨_ | ⟨p, s, o⟩, K⟩
  · exact fun z => absurd z (by decide)
  · show pm_J t n _ (if K.length = 0 then _ else _)
    by_cases c1 : K.length = 0
    · rw [if_pos c1]; exact fun z => absurd z (by decide)
    rw [if_neg c1]
    have e1 : pm_cs t (none :: K) = 0 + pm_cs t K := rfl
    have e2 : pm_w t (.inr v) (none :: K) cc = 0 + (2 + pm_ws t K) + (40 - cc) * 2000 := rfl
    have e3 : pm_w t (.inr v) K cc = 0 + pm_ws t K + (40 - cc) * 2000 := rfl
    exact kp_go (m := .inr v) hv (kp_Bt hB (Or.inr c1)) hA h1 h2 h4 (by omega) (by omega)
  · have hf := hB.1 _ (List.mem_cons_self ..)
    obtain ⟨hp, h56, h59, hs, ho⟩ := hf
    have htk := hk p hp
    unfold tx_tok at htk
    have P := @kp_pt (t p)
    have hpt : 1 ≤ tx_pt (t p) := by omega
    have T := tx_1 W hp hpt
    have hN := tx_nest W T.1 T.2.1.1 T.2.1.2.1
    have hlt := tx_lt W hp
    have hle := tx_le W hp
    have hBt := kp_Bt hB (Or.inl rfl)
    have hBl := hB.2.1
    rw [List.length_cons] at hBl
    have e3 : ∀ v : pm_V, pm_w t (.inr v) K cc = 0 + pm_ws t K + (40 - cc) * 2000 := fun _ => rfl
    show pm_J t n _ (if t p < 57 then _ else _)
    by_cases c1 : t p < 57
    · rw [if_pos c1]
      have T2 := tx_2 W hp (by omega)
      have hE := tx_2e W hp (by omega)
      rcases o with _ | w
      · have e1 : pm_cs t (some (p, s, none) :: K) = tx_e t p - tx_e t (p + 1) + 1 + pm_cs t K := rfl
        have e2 : pm_w t (.inr v) (some (p, s, none) :: K) cc = 0 + (3 * (tx_e t p - tx_e t (p + 1)) + 2 + pm_ws t K) + (40 - cc) * 2000 := rfl
        have f1 : pm_cs t (some (p, s, some v) :: K) = 0 + pm_cs t K := rfl
        have f2 : pm_w t (.inl (tx_e t (p + 1), s)) (some (p, s, some v) :: K) cc = 3 * (tx_e t (tx_e t (p + 1)) - tx_e t (p + 1)) + (1 + pm_ws t K) + (40 - cc) * 2000 := rfl
        have f3 : pm_cm t (.inl (tx_e t (p + 1), s)) = tx_e t (tx_e t (p + 1)) - tx_e t (p + 1) - 1 := rfl
        obtain ⟨K0, eK⟩ := hBt.2.2
        refine kp_go (m := .inl (tx_e t (p + 1), s)) ⟨T2.1, ?_⟩ ⟨?_, ?_, ⟨some (p, s, some v) :: K0, by rw [eK]; rfl⟩⟩ hA h1 h2 h4 (by omega) (by omega)
        · rw [tx_Gop1 W hp (by omega) (by omega)]; exact hs
        · intro f hf
          rcases List.mem_cons.mp hf with z | z
          · rw [z]; exact ⟨hp, h56, h59, hs, c1, hv⟩
          · exact hBt.1 f z
        · rw [List.length_cons]; omega
      · have e1 : pm_cs t (some (p, s, some w) :: K) = 0 + pm_cs t K := rfl
        have e2 : pm_w t (.inr v) (some (p, s, some w) :: K) cc = 0 + (1 + pm_ws t K) + (40 - cc) * 2000 := rfl
        show pm_J t n _ (if t p = 52 then _ else _)
        by_cases c2 : t p = 52
        · rw [if_pos c2]
          exact kp_cal W hn hk ho.2 hv hBt hA h1 h2 h4 (by omega) (by omega)
        · rw [if_neg c2]
          rcases w with a | w
          · rcases v with d | v
            · exact kp_go (m := .inr (.inl (pm_rk (t p) a d))) True.intro hBt hA h1 h2 h4 (by have := ecm (.inl (pm_rk (t p) a d)); omega) (by have := e3 (.inl (pm_rk (t p) a d)); omega)
            · exact fun z => absurd z (by decide)
          · exact fun z => absurd z (by decide)
    rw [if_neg c1]
    have ho' : o = none := by
      rcases o with _ | w
      · rfl
      · exact absurd ho.1 c1
    subst ho'
    have e1 : pm_cs t (some (p, s, none) :: K) = tx_e t p - tx_e t (p + 1) + 1 + pm_cs t K := rfl
    have e2 : pm_w t (.inr v) (some (p, s, none) :: K) cc = 0 + (3 * (tx_e t p - tx_e t (p + 1)) + 2 + pm_ws t K) + (40 - cc) * 2000 := rfl
    by_cases c2 : t p < 58
    · rw [if_pos c2]
      rcases v with a | v
      · have T2 := tx_2 W hp (by omega)
        have T3 := tx_3 W hp (by omega)
        have L3 := tx_lt W T3.1
        show pm_J t n _ (pm_go _ _ _ _ _ _ _ _ _)
        by_cases c3 : a = 0
        · rw [if_pos c3]
          have f2 : pm_w t (.inl (tx_e t (tx_e t (p + 1)), s)) K cc = 3 * (tx_e t (tx_e t (tx_e t (p + 1))) - tx_e t (tx_e t (p + 1))) + pm_ws t K + (40 - cc) * 2000 := rfl
          have f3 : pm_cm t (.inl (tx_e t (tx_e t (p + 1)), s)) = tx_e t (tx_e t (tx_e t (p + 1))) - tx_e t (tx_e t (p + 1)) - 1 := rfl
          exact kp_go (m := .inl (tx_e t (tx_e t (p + 1)), s)) ⟨T3.1, by rw [tx_Gop2 W hp (by omega) (by omega)]; exact hs⟩ hBt hA h1 h2 h4 (by omega) (by omega)
        · rw [if_neg c3]
          have f2 : pm_w t (.inl (tx_e t (p + 1), s)) K cc = 3 * (tx_e t (tx_e t (p + 1)) - tx_e t (p + 1)) + pm_ws t K + (40 - cc) * 2000 := rfl
          have f3 : pm_cm t (.inl (tx_e t (p + 1), s)) = tx_e t (tx_e t (p + 1)) - tx_e t (p + 1) - 1 := rfl
          exact kp_go (m := .inl (tx_e t (p + 1), s)) ⟨T2.1, by rw [tx_Gop1 W hp (by omega) (by omega)]; exact hs⟩ hBt hA h1 h2 h4 (by omega) (by omega)
      · exact fun z => absurd z (by decide)
    rw [if_neg c2]
    by_cases c3 : t p < 60
    · rw [if_pos c3]
      rcases v with a | v
      · show pm_J t n _ (if oc = 16 then _ else _)
        by_cases c4 : oc = 16
        · rw [if_pos c4]; exact fun z => absurd z (by decide)
        rw [if_neg c4]
        exact kp_go (m := .inr (.inl a)) True.intro hBt hA (by omega) h2 h4 (by omega) (by have := e3 (.inl a); omega)
      · exact fun z => absurd z (by decide)
    rw [if_neg c3]
    have T2 := tx_2 W hp (by omega)
    have hE := tx_2e W hp (by omega)
    have f2 : pm_w t (.inl (tx_e t (p + 1), b + 1)) K cc = 3 * (tx_e t (tx_e t (p + 1)) - tx_e t (p + 1)) + pm_ws t K + (40 - cc) * 2000 := rfl
    have f3 : pm_cm t (.inl (tx_e t (p + 1), b + 1)) = tx_e t (tx_e t (p + 1)) - tx_e t (p + 1) - 1 := rfl
    exact kp_go (m := .inl (tx_e t (p + 1), b + 1)) ⟨T2.1, by rw [tx_Glet1 W hp (by omega) (by omega)]; exact pm_Ch_bd hs⟩ (kp_Bbd hBt (Nat.le_refl _)) (kp_Abd hA hv) h1 h2 h4 (by omega) (by omega)
theorem kp_step {t : Nat → Nat} {n : Nat} (W : tx_W t n) (hn : n ≤ 32) (hk : ∀ i, i < n → tx_tok (t i)) {m : pm_M} {K : List pm_F} {sg : List (List pm_F)} {nm : pm_N} {b : Nat} {out : Nat → Int32} {oc cc mo : Nat}
    (I : pm_I t n m K sg nm b oc cc mo) : pm_J t n (pm_w t m K cc) (pm_step t m K sg nm b out oc cc mo) := by
  rcases m with ⟨p, s⟩ | v
  · exact kp_evl W hn hk I
  · exact kp_hnd W hn hk I
theorem kp_bb (t : Nat → Nat) (n : Nat) {m : pm_M} {K : List pm_F} {sg : List (List pm_F)} {nm : pm_N} {b oc cc mo : Nat} (I : pm_I t n m K sg nm b oc cc mo) : b ≤ 8703 := by
  have := I.2.2.2.2.2.2.2
  omega
theorem kp_0n {t : Nat → Nat} {n : Nat} (W : tx_W t n) : 0 < n := by
  rcases Nat.eq_zero_or_pos n with z | z
  · have h := W.1
    rw [z] at h
    exact absurd h (by show ¬ (1 : Int) = 0; omega)
  · exact z
theorem kp_0 {t : Nat → Nat} {n : Nat} (W : tx_W t n) (hn : n ≤ 32) (nm : pm_N) : pm_I t n (.inl (0, 0)) [none] [] nm 0 0 0 1 ∧ pm_w t (.inl (0, 0)) [none] 0 ≤ 90000 := by
  have h0 := kp_0n W
  have hle := tx_le W h0
  have e1 : pm_cm t (.inl (0, 0)) = tx_e t 0 - 0 - 1 := rfl
  have e2 : pm_cs t [none] = 0 + 0 := rfl
  have e3 : pm_w t (.inl (0, 0)) [none] 0 = 3 * (tx_e t 0 - 0) + (2 + 0) + (40 - 0) * 2000 := rfl
  refine ⟨⟨⟨h0, rfl⟩, ⟨?_, by decide, ⟨[], rfl⟩⟩, ⟨by decide, (fun z hz => absurd hz (by simp)), (fun i h1 h2 => by omega)⟩, by omega, by omega, by decide, by omega, ?_⟩, by omega⟩
  · intro f hf
    rw [List.mem_singleton.mp hf]; exact True.intro
  · rw [e1, e2]
    show 2 * 0 + (tx_e t 0 - 0 - 1) + (0 + 0) + (40 - 0) * 434 + (8 - 0) * 2 ≤ 17407
    omega
end
section
/-! the reference's frames: lists of nodes in one pool -/
def yn_hd : List Nat → Nat
  | [] => 0
  | x :: _ => x
def yn_V (k a : Int32) : pm_V → Prop
  | .inl z => k = 1 ∧ a = z
  | .inr (.inl (s, p)) => k = 2 ∧ a = nI (64 * s + p)
  | .inr (.inr j) => k = 3 ∧ a = nI j
def yn_O (se ki va : Nat → Int32) (x : Nat) : Option pm_V → Prop
  | none => se x = 0
  | some v => se x = 1 ∧ yn_V (ki x) (va x) v
def yn_F (pl se ar ki va : Nat → Int32) (x : Nat) : pm_F → Prop
  | none => pl x = -1
  | some (p, s, o) => pl x = nI p ∧ ar x = nI s ∧ yn_O se ki va x o
def yn_L (ou : Nat → Int32) : List Nat → Prop
  | [] => True
  | x :: l => ou x = nI (yn_hd l) ∧ yn_L ou l
def yn_S (pl se ar ki va : Nat → Int32) : List Nat → List pm_F → Prop
  | [], [] => True
  | x :: l, f :: K => yn_F pl se ar ki va x f ∧ yn_S pl se ar ki va l K
  | _, _ => False
theorem yn_Lc {ou ou' : Nat → Int32} : ∀ (l : List Nat), (∀ x, x ∈ l → ou' x = ou x) → yn_L ou l → yn_L ou' l := by
  intro l
  induction l with
  | nil => intro _ _; exact True.intro
  | cons x l ih =>
    intro h hl
    exact ⟨by rw [h x (List.mem_cons_self ..)]; exact hl.1, ih (fun y hy => h y (List.mem_cons_of_mem _ hy)) hl.2⟩
theorem yn_Fc {pl se ar ki va pl' se' ar' ki' va' : Nat → Int32} {x : Nat} (h : pl' x = pl x ∧ se' x = se x ∧ ar' x = ar x ∧ ki' x = ki x ∧ va' x = va x) : ∀ f, yn_F pl se ar ki va x f → yn_F pl' se' ar' ki' va' x f := by
  obtain ⟨h1, h2, h3, h4, h5⟩ := h
  intro f hf
  rcases f with _ | ⟨p, s, o⟩
  · show pl' x = -1
    rw [h1]; exact hf
  · obtain ⟨f1, f2, f3⟩ := hf
    refine ⟨by rw [h1]; exact f1, by rw [h3]; exact f2, ?_⟩
    rcases o with _ | v
    · show se' x = 0
      rw [h2]; exact f3
    · refine ⟨by rw [h2]; exact f3.1, ?_⟩
      rw [h4, h5]; exact f3.2
theorem yn_Sc {pl se ar ki va pl' se' ar' ki' va' : Nat → Int32} : ∀ (l : List Nat) (K : List pm_F), (∀ x, x ∈ l → pl' x = pl x ∧ se' x = se x ∧ ar' x = ar x ∧ ki' x = ki x ∧ va' x = va x) → yn_S pl se ar ki va l K → yn_S pl' se' ar' ki' va' l K := by
  intro l
  induction l with
  | nil => intro K _ hS; rcases K with _ | ⟨f, K⟩; exact True.intro; exact hS
  | cons x l ih =>
    intro K h hS
    rcases K with _ | ⟨f, K⟩
    · exact hS
    · exact ⟨yn_Fc (h x (List.mem_cons_self ..)) f hS.1, ih K (fun y hy => h y (List.mem_cons_of_mem _ hy)) hS.2⟩
theorem yn_Sl {pl se ar ki va : Nat → Int32} : ∀ (l : List Nat) (K : List pm_F), yn_S pl se ar ki va l K → l.length = K.length := by
  intro l
  induction l with
  | nil => intro K hS; rcases K with _ | ⟨f, K⟩; rfl; exact absurd hS (fun z => z)
  | cons x l ih =>
    intro K hS
    rcases K with _ | ⟨f, K⟩
    · exact absurd hS (fun z => z)
    · rw [List.length_cons, List.length_cons, ih K hS.2]
/-- the pool: stack, segments, spare -/
def yn_Q (ys zl sp : List Nat) (fr : Nat) : Prop :=
  (ys ++ (zl ++ sp)).Nodup ∧ (∀ x, x ∈ ys ++ (zl ++ sp) → 0 < x ∧ x < fr) ∧ fr = 1 + (ys.length + (zl.length + sp.length))
theorem yn_Qp {ys zl sp ys' zl' sp' : List Nat} {fr : Nat} (h : List.Perm (ys ++ (zl ++ sp)) (ys' ++ (zl' ++ sp'))) (q : yn_Q ys zl sp fr) : yn_Q ys' zl' sp' fr := by
  refine ⟨h.nodup_iff.mp q.1, fun x hx => q.2.1 x (h.mem_iff.mpr hx), ?_⟩
  have e := h.length_eq
  have e2 := q.2.2
  rw [List.length_append, List.length_append, List.length_append, List.length_append] at e
  omega
theorem yn_Q1 {ys zl sp : List Nat} {fr x : Nat} (q : yn_Q ys zl (x :: sp) fr) : yn_Q (x :: ys) zl sp fr := by
  refine yn_Qp ?_ q
  have h : List.Perm ((ys ++ zl) ++ x :: sp) (x :: ((ys ++ zl) ++ sp)) := List.perm_middle
  rw [List.append_assoc, List.append_assoc] at h
  exact h
theorem yn_Q3 {ys zl sp : List Nat} {fr x : Nat} (q : yn_Q (x :: ys) zl sp fr) : yn_Q ys zl (x :: sp) fr := by
  refine yn_Qp ?_ q
  have h : List.Perm ((ys ++ zl) ++ x :: sp) (x :: ((ys ++ zl) ++ sp)) := List.perm_middle
  rw [List.append_assoc, List.append_assoc] at h
  exact h.symm
theorem yn_Q2 {ys zl : List Nat} {fr : Nat} (q : yn_Q ys zl [] fr) : yn_Q (fr :: ys) zl [] (fr + 1) := by
  refine ⟨?_, ?_, ?_⟩
  · show (fr :: (ys ++ (zl ++ []))).Nodup
    refine List.nodup_cons.mpr ⟨fun z => ?_, q.1⟩
    have := q.2.1 fr z
    omega
  · intro x hx
    rcases List.mem_cons.mp hx with z | z
    · have := q.2.2
      omega
    · have := q.2.1 x z
      omega
  · have := q.2.2
    rw [List.length_cons]
    omega
theorem yn_Q4 {yz ys zl sp : List Nat} {fr : Nat} (q : yn_Q (yz ++ ys) zl sp fr) : yn_Q ys (zl ++ yz) sp fr := by
  refine yn_Qp ?_ q
  have h : List.Perm (yz ++ (ys ++ zl)) ((ys ++ zl) ++ yz) := List.perm_append_comm
  have h2 := h.append_right sp
  simp only [List.append_assoc] at h2 ⊢
  exact h2
theorem yn_Qn {ys zl sp : List Nat} {fr x : Nat} (q : yn_Q (x :: ys) zl sp fr) : x ∉ ys ∧ x ∉ zl ∧ x ∉ sp ∧ 0 < x ∧ x < fr := by
  have h : x ∉ ys ++ (zl ++ sp) := (List.nodup_cons.mp q.1).1
  refine ⟨fun z => h (List.mem_append_left _ z), fun z => h (List.mem_append_right _ (List.mem_append_left _ z)), fun z => h (List.mem_append_right _ (List.mem_append_right _ z)), q.2.1 x (List.mem_cons_self ..)⟩
theorem yn_fl : ∀ (zs : List (List Nat)), (∀ z, z ∈ zs → z.length ≤ 15) → zs.flatten.length ≤ zs.length * 15 := by
  intro zs
  induction zs with
  | nil => intro _; exact Nat.le_refl _
  | cons z zs ih =>
    intro h
    have h1 := h z (List.mem_cons_self ..)
    have h2 := ih (fun y hy => h y (List.mem_cons_of_mem _ hy))
    have e : (z :: zs).flatten.length = z.length + zs.flatten.length := by rw [List.flatten_cons, List.length_append]
    rw [e, List.length_cons]
    omega
/-- the segments -/
def yn_Z (ou pl se ar ki va ta : Nat → Int32) (zs : List (List Nat)) (sg : List (List pm_F)) : Prop :=
  zs.length = sg.length ∧ ∀ j, j < zs.length → ta j = nI (yn_hd (zs.getD j [])) ∧ yn_L ou (zs.getD j []) ∧ yn_S pl se ar ki va (zs.getD j []) (sg.getD j [])
theorem yn_gm {α : Type} {zs : List (List α)} {j : Nat} (hj : j < zs.length) : zs.getD j [] ∈ zs := by
  rw [List.getD_eq_getElem?_getD, List.getElem?_eq_getElem hj]
  exact List.getElem_mem hj
theorem yn_gf {α : Type} {zs : List (List α)} {j : Nat} (hj : j < zs.length) {x : α} (hx : x ∈ zs.getD j []) : x ∈ zs.flatten :=
  List.mem_flatten.mpr ⟨_, yn_gm hj, hx⟩
theorem yn_Zc {ou pl se ar ki va ta ou' pl' se' ar' ki' va' : Nat → Int32} {zs : List (List Nat)} {sg : List (List pm_F)} (h : ∀ x, x ∈ zs.flatten → ou' x = ou x ∧ pl' x = pl x ∧ se' x = se x ∧ ar' x = ar x ∧ ki' x = ki x ∧ va' x = va x) (hz : yn_Z ou pl se ar ki va ta zs sg) : yn_Z ou' pl' se' ar' ki' va' ta zs sg := by
  refine ⟨hz.1, fun j hj => ⟨(hz.2 j hj).1, yn_Lc _ (fun x hx => (h x (yn_gf hj hx)).1) (hz.2 j hj).2.1, yn_Sc _ _ (fun x hx => (h x (yn_gf hj hx)).2) (hz.2 j hj).2.2⟩⟩
theorem yn_Zl {ou pl se ar ki va ta : Nat → Int32} {zs : List (List Nat)} {sg : List (List pm_F)} (hz : yn_Z ou pl se ar ki va ta zs sg) (h : ∀ z, z ∈ sg → z.length ≤ 15) (h8 : sg.length ≤ 8) : zs.flatten.length ≤ 120 := by
  have h1 : ∀ z, z ∈ zs → z.length ≤ 15 := by
    intro z hm
    obtain ⟨j, hj, e⟩ := List.mem_iff_getElem.mp hm
    have e2 : zs.getD j [] = z := by rw [List.getD_eq_getElem?_getD, List.getElem?_eq_getElem hj]; exact e
    have h3 := yn_Sl _ _ (hz.2 j hj).2.2
    rw [e2] at h3
    have h4 := h _ (yn_gm (zs := sg) (j := j) (by rw [← hz.1]; exact hj))
    omega
  have h2 := yn_fl zs h1
  have h3 := hz.1
  omega
end
section
/-! the component's frames and cells: L what may still be used, f the name that a cell stands for -/
def xm_vo (k : Nat) (a : Int32) : Int64 := lN (k * 4294967296 + a.toBitVec.toNat)
def xm_E (L : Nat → Prop) (f : Nat → Nat) (c s : Nat) : Prop := (c = 0 ∧ s = 0) ∨ (9 ≤ c ∧ c < 9000 ∧ L c ∧ f c = s)
def xm_V (L : Nat → Prop) (f : Nat → Nat) (l : Int64) : pm_V → Prop
  | .inl a => l = xm_vo 1 a
  | .inr (.inl (s, p)) => ∃ c, l = xm_vo 2 (nI (p * 9000 + c)) ∧ xm_E L f c s
  | .inr (.inr j) => l = xm_vo 3 (nI (j + 1)) ∧ L (j + 1)
def xm_O (L : Nat → Prop) (f : Nat → Nat) (l : Int64) : Option pm_V → Prop
  | none => l = 0
  | some v => xm_V L f l v
def xm_F (L : Nat → Prop) (f : Nat → Nat) (te en : Int32) (fi : Int64) : pm_F → Prop
  | none => te = -1 ∧ en = 0 ∧ fi = 0
  | some (p, s, o) => te = nI p ∧ (∃ c, en = nI c ∧ xm_E L f c s) ∧ xm_O L f fi o
def xm_R (L : Nat → Prop) (f : Nat → Nat) (te en : Nat → Int32) (fi : Nat → Int64) (o : Nat) : List pm_F → Prop
  | [] => True
  | g :: K => xm_F L f (te (o + K.length)) (en (o + K.length)) (fi (o + K.length)) g ∧ xm_R L f te en fi o K
theorem xm_E9 {L : Nat → Prop} {f : Nat → Nat} {c s : Nat} (h : xm_E L f c s) : c < 9000 := by
  rcases h with h | h <;> omega
/-- what holds of more holds: L grows, f stays on L -/
def xm_M (L : Nat → Prop) (f : Nat → Nat) (L' : Nat → Prop) (f' : Nat → Nat) : Prop := ∀ x, L x → L' x ∧ f' x = f x
theorem xm_Em {L L' : Nat → Prop} {f f' : Nat → Nat} (M : xm_M L f L' f') {c s : Nat} (h : xm_E L f c s) : xm_E L' f' c s := by
  rcases h with h | ⟨h1, h2, h3, h4⟩
  · exact Or.inl h
  · exact Or.inr ⟨h1, h2, (M c h3).1, by rw [(M c h3).2]; exact h4⟩
theorem xm_Vm {L L' : Nat → Prop} {f f' : Nat → Nat} (M : xm_M L f L' f') {l : Int64} : ∀ v, xm_V L f l v → xm_V L' f' l v
  | .inl _, h => h
  | .inr (.inl (_, _)), ⟨c, h1, h2⟩ => ⟨c, h1, xm_Em M h2⟩
  | .inr (.inr j), h => ⟨h.1, (M (j + 1) h.2).1⟩
theorem xm_Om {L L' : Nat → Prop} {f f' : Nat → Nat} (M : xm_M L f L' f') {l : Int64} : ∀ o, xm_O L f l o → xm_O L' f' l o
  | none, h => h
  | some v, h => xm_Vm M v h
theorem xm_Fm {L L' : Nat → Prop} {f f' : Nat → Nat} (M : xm_M L f L' f') {te en : Int32} {fi : Int64} : ∀ g, xm_F L f te en fi g → xm_F L' f' te en fi g
  | none, h => h
  | some (_, _, o), ⟨h1, ⟨c, h2, h3⟩, h4⟩ => ⟨h1, ⟨c, h2, xm_Em M h3⟩, xm_Om M o h4⟩
theorem xm_Rm {L L' : Nat → Prop} {f f' : Nat → Nat} (M : xm_M L f L' f') {te en : Nat → Int32} {fi : Nat → Int64} {o : Nat} : ∀ K, xm_R L f te en fi o K → xm_R L' f' te en fi o K
  | [], _ => True.intro
  | g :: K, h => ⟨xm_Fm M g h.1, xm_Rm M K h.2⟩
/-- the same frames at another place -/
theorem xm_Rc {L : Nat → Prop} {f : Nat → Nat} {te en te' en' : Nat → Int32} {fi fi' : Nat → Int64} {o o' : Nat} : ∀ (K : List pm_F), (∀ i, i < K.length → te' (o' + i) = te (o + i) ∧ en' (o' + i) = en (o + i) ∧ fi' (o' + i) = fi (o + i)) → xm_R L f te en fi o K → xm_R L f te' en' fi' o' K := by
  intro K
  induction K with
  | nil => intro _ _; exact True.intro
  | cons g K ih =>
    intro h hR
    have h0 := h K.length (by rw [List.length_cons]; omega)
    refine ⟨?_, ih (fun i hi => h i (by rw [List.length_cons]; omega)) hR.2⟩
    rw [h0.1, h0.2.1, h0.2.2]
    exact hR.1
theorem xm_Ra {L : Nat → Prop} {f : Nat → Nat} {te en : Nat → Int32} {fi : Nat → Int64} {o : Nat} : ∀ (z K : List pm_F), xm_R L f te en fi o (z ++ K) ↔ xm_R L f te en fi (o + K.length) z ∧ xm_R L f te en fi o K := by
  intro z K
  induction z with
  | nil => exact ⟨fun h => ⟨True.intro, h⟩, fun h => h.2⟩
  | cons g z ih =>
    have e : o + (z ++ K).length = o + K.length + z.length := by rw [List.length_append]; omega
    have e1 : xm_R L f te en fi o ((g :: z) ++ K) = (xm_F L f (te (o + (z ++ K).length)) (en (o + (z ++ K).length)) (fi (o + (z ++ K).length)) g ∧ xm_R L f te en fi o (z ++ K)) := rfl
    have e2 : xm_R L f te en fi (o + K.length) (g :: z) = (xm_F L f (te (o + K.length + z.length)) (en (o + K.length + z.length)) (fi (o + K.length + z.length)) g ∧ xm_R L f te en fi (o + K.length) z) := rfl
    rw [e1, e2, e, ih]
    exact ⟨fun h => ⟨⟨h.1, h.2.1⟩, h.2.2⟩, fun h => ⟨h.1.1, h.1.2, h.2⟩⟩
/-- the cells -/
def xm_H (L : Nat → Prop) (f : Nat → Nat) (cv : Nat → Int64) (cn : Nat → Int32) (nm : pm_N) (b lc : Nat) : Prop :=
  ∀ x, L x → 0 < x ∧ x ≤ lc ∧ (9 ≤ x → 1 ≤ f x ∧ f x ≤ b ∧ (∃ c, cn x = nI c ∧ xm_E L f c (nm (f x)).2.2) ∧ xm_V L f (cv x) (nm (f x)).2.1)
/-- the segments that may still be used -/
def xm_G (L : Nat → Prop) (f : Nat → Nat) (te en : Nat → Int32) (fi : Nat → Int64) (sz : Nat → Int32) (sg : List (List pm_F)) : Prop :=
  ∀ x, L x → x < 9 → x ≤ sg.length ∧ sz x = nI (sg.getD (x - 1) []).length ∧ xm_R L f te en fi (x * 16) (sg.getD (x - 1) [])
/-- the unused cells -/
def xm_U (L : Nat → Prop) (cn : Nat → Int32) (lc : Nat) (fl : List Nat) : Prop :=
  yn_L cn fl ∧ fl.Nodup ∧ ∀ x, x ∈ fl → 9 ≤ x ∧ x ≤ lc ∧ ¬ L x
def xm_add (L : Nat → Prop) (x : Nat) : Nat → Prop := fun y => L y ∨ y = x
def xm_put (f : Nat → Nat) (x k : Nat) : Nat → Nat := fun y => if y = x then k else f y
theorem xm_Ma {L : Nat → Prop} {f : Nat → Nat} {x k : Nat} (hx : ¬ L x) : xm_M L f (xm_add L x) (xm_put f x k) := by
  intro y hy
  refine ⟨Or.inl hy, ?_⟩
  unfold xm_put
  rw [if_neg (fun e : y = x => hx (e ▸ hy))]
theorem xm_Ms (L : Nat → Prop) (f : Nat → Nat) (x : Nat) : xm_M L f (xm_add L x) f := fun y hy => ⟨Or.inl hy, rfl⟩
/-- a cell joins: the value l with the cell c around it -/
theorem xm_Hadd {L : Nat → Prop} {f : Nat → Nat} {cv : Nat → Int64} {cn : Nat → Int32} {nm : pm_N} {b lc lc' x c o y : Nat} {l : Int64} {v : pm_V}
    (h : xm_H L f cv cn nm b lc) (hx : ¬ L x) (h9 : 9 ≤ x) (hl : x ≤ lc') (hlc : lc ≤ lc') (hv : xm_V L f l v) (hc : xm_E L f c o) :
    xm_H (xm_add L x) (xm_put f x (b + 1)) (vp_updL cv x l) (upd cn x (nI c)) (pm_bd nm b y v o) (b + 1) lc' := by
  have M := xm_Ma (f := f) (k := b + 1) hx
  intro z hz
  by_cases e : z = x
  · rw [e]
    have e1 : xm_put f x (b + 1) x = b + 1 := by unfold xm_put; rw [if_pos rfl]
    refine ⟨by omega, hl, fun _ => ?_⟩
    rw [e1, pm_bd_s]
    refine ⟨by omega, Nat.le_refl _, ⟨c, by unfold upd; rw [if_pos rfl], xm_Em M hc⟩, ?_⟩
    have e2 : vp_updL cv x l x = l := by unfold vp_updL; rw [if_pos rfl]
    rw [e2]; exact xm_Vm M v hv
  · have hz' : L z := by
      rcases hz with q | q
      · exact q
      · exact absurd q e
    obtain ⟨h1, h2, h3⟩ := h z hz'
    refine ⟨h1, by omega, fun q => ?_⟩
    obtain ⟨g1, g2, ⟨d, g3, g4⟩, g5⟩ := h3 q
    have e1 : xm_put f x (b + 1) z = f z := (M z hz').2
    have e2 : pm_bd nm b y v o (f z) = nm (f z) := by unfold pm_bd; rw [if_neg (by omega)]
    have e3 : vp_updL cv x l z = cv z := by unfold vp_updL; rw [if_neg e]
    have e4 : upd cn x (nI c) z = cn z := by unfold upd; rw [if_neg e]
    rw [e1, e2, e3, e4]
    exact ⟨g1, by omega, ⟨d, g3, xm_Em M g4⟩, xm_Vm M _ g5⟩
theorem xm_Gadd {L : Nat → Prop} {f : Nat → Nat} {te en : Nat → Int32} {fi : Nat → Int64} {sz : Nat → Int32} {sg : List (List pm_F)} {x k : Nat}
    (h : xm_G L f te en fi sz sg) (hx : ¬ L x) (h9 : 9 ≤ x) : xm_G (xm_add L x) (xm_put f x k) te en fi sz sg := by
  have M := xm_Ma (f := f) (k := k) hx
  intro z hz h8
  have hz' : L z := by
    rcases hz with q | q
    · exact q
    · omega
  obtain ⟨h1, h2, h3⟩ := h z hz' h8
  exact ⟨h1, h2, xm_Rm M _ h3⟩
theorem xm_Uadd {L : Nat → Prop} {cn : Nat → Int32} {lc x : Nat} {c : Int32} {fl : List Nat} (h : xm_U L cn lc (x :: fl)) : xm_U (xm_add L x) (upd cn x c) lc fl := by
  obtain ⟨h1, h2, h3⟩ := h
  have hn := List.nodup_cons.mp h2
  refine ⟨yn_Lc fl (fun y hy => ?_) h1.2, hn.2, fun y hy => ?_⟩
  · unfold upd
    rw [if_neg (fun e : y = x => hn.1 (e ▸ hy))]
  · obtain ⟨g1, g2, g3⟩ := h3 y (List.mem_cons_of_mem _ hy)
    refine ⟨g1, g2, fun q => ?_⟩
    rcases q with q | q
    · exact g3 q
    · exact hn.1 (q ▸ hy)
theorem xm_Uadd0 {L : Nat → Prop} {cn : Nat → Int32} {lc x : Nat} {c : Int32} : xm_U (xm_add L x) (upd cn x c) lc [] := ⟨True.intro, List.nodup_nil, fun y hy => absurd hy (by simp)⟩
end
section
/-! rows of frames that are written, and the marks of the collector -/
theorem xm_Gc {L : Nat → Prop} {f : Nat → Nat} {te en te' en' : Nat → Int32} {fi fi' : Nat → Int64} {sz : Nat → Int32} {sg : List (List pm_F)}
    (h : xm_G L f te en fi sz sg) (hp : ∀ x, L x → 0 < x) (ha : ∀ j, 16 ≤ j → te' j = te j ∧ en' j = en j ∧ fi' j = fi j) : xm_G L f te' en' fi' sz sg := by
  intro x hx h9
  obtain ⟨h1, h2, h3⟩ := h x hx h9
  have := hp x hx
  exact ⟨h1, h2, xm_Rc _ (fun i _ => ha (x * 16 + i) (by omega)) h3⟩
theorem xm_gd {α : Type} (sg : List (List α)) (z : List α) (j : Nat) : (sg ++ [z]).getD j [] = if j < sg.length then sg.getD j [] else if j = sg.length then z else [] := by
  rw [List.getD_eq_getElem?_getD, List.getD_eq_getElem?_getD]
  by_cases c1 : j < sg.length
  · rw [if_pos c1, List.getElem?_append_left c1]
  · rw [if_neg c1, List.getElem?_append_right (by omega)]
    by_cases c2 : j = sg.length
    · rw [if_pos c2, c2, Nat.sub_self]; rfl
    · rw [if_neg c2, List.getElem?_eq_none (by rw [List.length_singleton]; omega)]; rfl
theorem xm_Gshift {L : Nat → Prop} {f : Nat → Nat} {te en te' en' : Nat → Int32} {fi fi' : Nat → Int64} {sz : Nat → Int32} {sg : List (List pm_F)} {z : List pm_F} {o : Nat}
    (h : xm_G L f te en fi sz sg) (hp : ∀ x, L x → 0 < x) (h15 : ∀ y, y ∈ sg → y.length ≤ 15) (hz : xm_R L f te en fi o z)
    (ha : ∀ j, j < (sg.length + 1) * 16 → te' j = te j ∧ en' j = en j ∧ fi' j = fi j)
    (hb : ∀ i, i < z.length → te' ((sg.length + 1) * 16 + i) = te (o + i) ∧ en' ((sg.length + 1) * 16 + i) = en (o + i) ∧ fi' ((sg.length + 1) * 16 + i) = fi (o + i)) :
    xm_G (xm_add L (sg.length + 1)) f te' en' fi' (upd sz (sg.length + 1) (nI z.length)) (sg ++ [z]) := by
  have M := xm_Ms L f (sg.length + 1)
  have el : (sg ++ [z]).length = sg.length + 1 := by rw [List.length_append]; rfl
  intro x hx h9
  by_cases c : x = sg.length + 1
  · have e : (sg ++ [z]).getD (x - 1) [] = z := by rw [xm_gd, if_neg (by omega), if_pos (by omega)]
    rw [e, c]
    exact ⟨by omega, by unfold upd; rw [if_pos rfl], xm_Rm M _ (xm_Rc z hb hz)⟩
  · have hx' : L x := by
      rcases hx with q | q
      · exact q
      · exact absurd q c
    obtain ⟨h1, h2, h3⟩ := h x hx' h9
    have h0 := hp x hx'
    have e : (sg ++ [z]).getD (x - 1) [] = sg.getD (x - 1) [] := by rw [xm_gd, if_pos (by omega)]
    have hl := h15 _ (yn_gm (zs := sg) (j := x - 1) (by omega))
    rw [e]
    refine ⟨by omega, by unfold upd; rw [if_neg c]; exact h2, xm_Rm M _ (xm_Rc _ (fun i hi => ha (x * 16 + i) (by omega)) h3)⟩
/-- a frame is pushed -/
theorem xm_Rpush {L : Nat → Prop} {f : Nat → Nat} {te en : Nat → Int32} {fi : Nat → Int64} {K : List pm_F} {g : pm_F} {a b : Int32} {l : Int64}
    (h : xm_R L f te en fi 0 K) (hg : xm_F L f a b l g) : xm_R L f (upd te K.length a) (upd en K.length b) (vp_updL fi K.length l) 0 (g :: K) := by
  refine ⟨?_, xm_Rc K (fun i hi => ?_) h⟩
  · rw [Nat.zero_add]
    unfold upd vp_updL
    rw [if_pos rfl, if_pos rfl, if_pos rfl]
    exact hg
  · unfold upd vp_updL
    rw [if_neg (by omega), if_neg (by omega), if_neg (by omega)]
    exact ⟨rfl, rfl, rfl⟩
def xm_mk (mk : Nat → Int32) (lc : Nat) : Nat → Prop := fun x => x ≤ lc ∧ mk x = 1
def xm_cnt (mk : Nat → Int32) : Nat → Nat
  | 0 => 0
  | i + 1 => xm_cnt mk i + (if mk i = 1 then 1 else 0)
theorem xm_cnt1 (mk : Nat → Int32) (i : Nat) : xm_cnt mk (i + 1) = xm_cnt mk i + (if mk i = 1 then 1 else 0) := rfl
theorem xm_cle (mk : Nat → Int32) : ∀ i, xm_cnt mk i ≤ i := by
  intro i
  induction i with
  | zero => exact Nat.le_refl _
  | succ i ih => rw [xm_cnt1]; split <;> omega
theorem xm_clt (mk : Nat → Int32) {x : Nat} (hx : ¬ mk x = 1) : ∀ i, x < i → xm_cnt mk i < i := by
  intro i
  induction i with
  | zero => intro h; omega
  | succ i ih =>
    intro h
    rw [xm_cnt1]
    by_cases c : x = i
    · rw [← c, if_neg hx]
      have := xm_cle mk x
      omega
    · have := ih (by omega)
      split <;> omega
theorem xm_cup (mk : Nat → Int32) {x : Nat} (hx : ¬ mk x = 1) : ∀ i, xm_cnt (upd mk x 1) i = xm_cnt mk i + (if x < i then 1 else 0) := by
  intro i
  induction i with
  | zero => rw [if_neg (by omega)]; rfl
  | succ i ih =>
    rw [xm_cnt1, xm_cnt1, ih]
    by_cases c : x = i
    · have e : upd mk x 1 i = 1 := by unfold upd; rw [if_pos c.symm]
      have h1 : (if x < i then 1 else 0) = (0 : Nat) := if_neg (by omega)
      have h2 : (if x < i + 1 then 1 else 0) = (1 : Nat) := if_pos (by omega)
      have h3 : ¬ mk i = 1 := c ▸ hx
      rw [h1, h2, if_pos e, if_neg h3]
    · have e : upd mk x 1 i = mk i := by unfold upd; rw [if_neg (fun q => c q.symm)]
      rw [e]
      by_cases c2 : x < i
      · have h1 : (if x < i then 1 else 0) = (1 : Nat) := if_pos c2
        have h2 : (if x < i + 1 then 1 else 0) = (1 : Nat) := if_pos (by omega)
        rw [h1, h2]; omega
      · have h1 : (if x < i then 1 else 0) = (0 : Nat) := if_neg c2
        have h2 : (if x < i + 1 then 1 else 0) = (0 : Nat) := if_neg (by omega)
        rw [h1, h2]; omega
theorem xm_c0 (mk : Nat → Int32) : ∀ i, (∀ x, x < i → mk x = 0) → xm_cnt mk i = 0 := by
  intro i
  induction i with
  | zero => intro _; rfl
  | succ i ih =>
    intro h
    rw [xm_cnt1, ih (fun x hx => h x (by omega)), h i (by omega)]
    rfl
/-- the marks and the list of what is marked -/
def xm_K (L : Nat → Prop) (mk re : Nat → Int32) (lc rc : Nat) : Prop :=
  (∀ x, x ≤ lc → mk x = 0 ∨ mk x = 1) ∧ (∀ x, xm_mk mk lc x → L x ∧ ∃ k, k < rc ∧ re k = nI x) ∧ (∀ k, k < rc → ∃ x, re k = nI x ∧ xm_mk mk lc x) ∧ rc = xm_cnt mk (lc + 1)
theorem xm_Krc {L : Nat → Prop} {mk re : Nat → Int32} {lc rc : Nat} (h : xm_K L mk re lc rc) : rc ≤ lc + 1 := by
  have := xm_cle mk (lc + 1)
  have := h.2.2.2
  omega
theorem xm_Kadd {L : Nat → Prop} {mk re : Nat → Int32} {lc rc x : Nat} (h : xm_K L mk re lc rc) (hL : L x) (hx : x ≤ lc) (hm : ¬ mk x = 1) : rc ≤ lc ∧ xm_K L (upd mk x 1) (upd re rc (nI x)) lc (rc + 1) := by
  obtain ⟨h1, h2, h3, h4⟩ := h
  have c1 := xm_clt mk hm (lc + 1) (by omega)
  have c2 := xm_cup mk hm (lc + 1)
  rw [if_pos (by omega)] at c2
  have eu : ∀ y, upd mk x 1 y = if y = x then 1 else mk y := fun y => rfl
  have er : ∀ k, upd re rc (nI x) k = if k = rc then nI x else re k := fun k => rfl
  refine ⟨by omega, fun y hy => ?_, fun y hy => ?_, fun k hk => ?_, by omega⟩
  · rw [eu]
    by_cases c : y = x
    · rw [if_pos c]; exact Or.inr rfl
    · rw [if_neg c]; exact h1 y hy
  · by_cases c : y = x
    · exact ⟨c ▸ hL, rc, by omega, by rw [er, if_pos rfl, c]⟩
    · have hy' : xm_mk mk lc y := ⟨hy.1, by have := hy.2; rw [eu, if_neg c] at this; exact this⟩
      obtain ⟨g1, k, g2, g3⟩ := h2 y hy'
      exact ⟨g1, k, by omega, by rw [er, if_neg (by omega)]; exact g3⟩
  · by_cases c : k = rc
    · exact ⟨x, by rw [er, if_pos c], hx, by rw [eu, if_pos rfl]⟩
    · obtain ⟨y, g1, g2⟩ := h3 k (by omega)
      refine ⟨y, by rw [er, if_neg c]; exact g1, g2.1, ?_⟩
      rw [eu]
      by_cases d : y = x
      · rw [if_pos d]
      · rw [if_neg d]; exact g2.2
end
section
/-! lists of nodes that are cut and copied -/
def yn_la : Nat → List Nat → Nat
  | d, [] => d
  | _, x :: l => yn_la x l
theorem yn_lam : ∀ (l : List Nat) (d : Nat), yn_la d l ∈ d :: l := by
  intro l
  induction l with
  | nil => intro d; exact List.mem_cons_self ..
  | cons x l ih => intro d; exact List.mem_cons_of_mem _ (ih x)
theorem yn_laa : ∀ (l : List Nat) (d x : Nat), yn_la d (l ++ [x]) = x := by
  intro l
  induction l with
  | nil => intro d x; rfl
  | cons y l ih => intro d x; exact ih y x
theorem yn_hda (l : List Nat) (r : Nat) (k m : List Nat) : yn_hd (l ++ r :: k) = yn_hd (l ++ r :: m) := by
  rcases l with _ | ⟨x, l⟩ <;> rfl
theorem yn_La {ou : Nat → Int32} : ∀ (l k : List Nat), yn_L ou (l ++ k) → yn_L ou k := by
  intro l
  induction l with
  | nil => intro k h; exact h
  | cons x l ih => intro k h; exact ih k h.2
theorem yn_us {f : Nat → Int32} {k : Nat} {x : Int32} : upd f k x k = x := by unfold upd; rw [if_pos rfl]
theorem yn_un {f : Nat → Int32} {k j : Nat} {x : Int32} (h : j ≠ k) : upd f k x j = f j := by unfold upd; rw [if_neg h]
/-- the list is cut behind l -/
theorem yn_Lcut {ou : Nat → Int32} (k : List Nat) : ∀ (l : List Nat) (c : Nat), (c :: l).Nodup → yn_L ou ((c :: l) ++ k) → yn_L (upd ou (yn_la c l) 0) (c :: l) := by
  intro l
  induction l with
  | nil => intro c _ _; exact ⟨yn_us, True.intro⟩
  | cons d l ih =>
    intro c hn h
    have hn' := List.nodup_cons.mp hn
    have hm := yn_lam l d
    refine ⟨?_, ih d hn'.2 h.2⟩
    show upd ou (yn_la d l) 0 c = nI d
    rw [yn_un (fun e : c = yn_la d l => hn'.1 (by rw [e]; exact hm))]
    exact h.1
/-- a node goes in behind l -/
theorem yn_Lins {ou : Nat → Int32} {x : Nat} (k : List Nat) : ∀ (l : List Nat) (c : Nat), x ∉ (c :: l) ++ k → ((c :: l) ++ k).Nodup → yn_L ou ((c :: l) ++ k) → yn_L (upd (upd ou x (nI (yn_hd k))) (yn_la c l) (nI x)) ((c :: l) ++ x :: k) := by
  intro l
  induction l with
  | nil =>
    intro c hx hn h
    have hn' := List.nodup_cons.mp hn
    have hxc : x ≠ c := fun e => hx (e ▸ List.mem_cons_self ..)
    have hxk : x ∉ k := fun e => hx (List.mem_cons_of_mem _ e)
    refine ⟨yn_us, ?_, yn_Lc k (fun y hy => ?_) h.2⟩
    · show upd (upd ou x (nI (yn_hd k))) c (nI x) x = nI (yn_hd k)
      rw [yn_un hxc, yn_us]
    · show upd (upd ou x (nI (yn_hd k))) c (nI x) y = ou y
      have h1 : y ≠ c := fun e => hn'.1 (by rw [← e]; exact hy)
      have h2 : y ≠ x := fun e => hxk (by rw [← e]; exact hy)
      rw [yn_un h1, yn_un h2]
  | cons d l ih =>
    intro c hx hn h
    have hn' := List.nodup_cons.mp hn
    have hm : yn_la d l ∈ (d :: l) ++ k := List.mem_append_left _ (yn_lam l d)
    have hxc : c ≠ x := fun e => hx (e ▸ List.mem_cons_self ..)
    refine ⟨?_, ih d (fun e => hx (List.mem_cons_of_mem _ e)) hn'.2 h.2⟩
    show upd (upd ou x (nI (yn_hd k))) (yn_la d l) (nI x) c = nI d
    rw [yn_un (fun e : c = yn_la d l => hn'.1 (by rw [e]; exact hm)), yn_un hxc]
    exact h.1
theorem yn_Sa {pl se ar ki va : Nat → Int32} : ∀ (l : List Nat) (z : List pm_F) (l' : List Nat) (z' : List pm_F), yn_S pl se ar ki va l z → yn_S pl se ar ki va l' z' → yn_S pl se ar ki va (l ++ l') (z ++ z') := by
  intro l
  induction l with
  | nil =>
    intro z l' z' h h'
    rcases z with _ | ⟨f, z⟩
    · exact h'
    · exact absurd h (fun q => q)
  | cons x l ih =>
    intro z l' z' h h'
    rcases z with _ | ⟨f, z⟩
    · exact absurd h (fun q => q)
    · exact ⟨h.1, ih z l' z' h.2 h'⟩
/-- nodes of frames z ++ K, cut where K begins -/
theorem yn_Sx {pl se ar ki va : Nat → Int32} : ∀ (z : List pm_F) (l : List Nat) (K : List pm_F), yn_S pl se ar ki va l (z ++ K) → ∃ l1 l2, l = l1 ++ l2 ∧ yn_S pl se ar ki va l1 z ∧ yn_S pl se ar ki va l2 K := by
  intro z
  induction z with
  | nil => intro l K h; exact ⟨[], l, rfl, True.intro, h⟩
  | cons f z ih =>
    intro l K h
    rcases l with _ | ⟨x, l⟩
    · exact absurd h (fun q => q)
    · obtain ⟨l1, l2, e, h1, h2⟩ := ih l K h.2
      exact ⟨x :: l1, l2, by rw [e]; rfl, ⟨h.1, h1⟩, h2⟩
theorem yn_Q5 {cs ys zl sp : List Nat} {fr x : Nat} (q : yn_Q (x :: (cs ++ ys)) zl sp fr) : yn_Q (cs ++ x :: ys) zl sp fr := by
  refine yn_Qp ?_ q
  have h : List.Perm (cs ++ x :: ys) (x :: (cs ++ ys)) := List.perm_middle
  exact (h.append_right (zl ++ sp)).symm
theorem yn_Qy {ys zl sp : List Nat} {fr : Nat} (q : yn_Q ys zl sp fr) : ys.Nodup := (List.nodup_append.mp q.1).1
theorem yn_Zadd {ou pl se ar ki va ta : Nat → Int32} {zs : List (List Nat)} {sg : List (List pm_F)} {l : List Nat} {z : List pm_F} (h : yn_Z ou pl se ar ki va ta zs sg) (hL : yn_L ou l) (hS : yn_S pl se ar ki va l z) :
    yn_Z ou pl se ar ki va (upd ta sg.length (nI (yn_hd l))) (zs ++ [l]) (sg ++ [z]) := by
  have e1 : (zs ++ [l]).length = zs.length + 1 := by rw [List.length_append]; rfl
  have e2 : (sg ++ [z]).length = sg.length + 1 := by rw [List.length_append]; rfl
  have h1 := h.1
  refine ⟨by omega, fun j hj => ?_⟩
  rw [xm_gd, xm_gd]
  by_cases c : j < zs.length
  · rw [if_pos c, if_pos (by omega), yn_un (by omega)]
    exact h.2 j c
  · rw [if_neg c, if_pos (by omega), if_neg (by omega), if_pos (by omega), show j = sg.length by omega, yn_us]
    exact ⟨rfl, hL, hS⟩
end
section
/-! a name is looked up: by counted hops, and by its name -/
def tx_ix : List Nat → Nat → Option Nat
  | [], _ => none
  | y :: l, x => if y = x then some 0 else (tx_ix l x).map (· + 1)
theorem tx_ixl (nm : pm_N) (x : Nat) : ∀ (l : List Nat) (s : Nat), pm_look nm l x s = none ↔ tx_ix l x = none := by
  intro l
  induction l with
  | nil => intro s; exact ⟨fun _ => rfl, fun _ => rfl⟩
  | cons y l ih =>
    intro s
    rw [pm_look, tx_ix]
    by_cases c : y = x
    · rw [if_pos c, if_pos c]
      exact ⟨fun h => absurd h (by simp), fun h => absurd h (by simp)⟩
    · rw [if_neg c, if_neg c, ih, Option.map_eq_none_iff]
theorem tx_ixb : ∀ (l : List Nat) (x i : Nat), tx_ix l x = some i → i < l.length := by
  intro l
  induction l with
  | nil => intro x i h; exact absurd h (by simp [tx_ix])
  | cons y l ih =>
    intro x i h
    rw [tx_ix] at h
    rw [List.length_cons]
    by_cases c : y = x
    · rw [if_pos c] at h
      have := Option.some.inj h
      omega
    · rw [if_neg c] at h
      cases e : tx_ix l x with
      | none => rw [e] at h; exact absurd h (by simp)
      | some k =>
        rw [e] at h
        have h2 : k + 1 = i := Option.some.inj h
        have := ih x k e
        omega
theorem tx_grl (t : Nat → Nat) (q : Nat) : ∀ m, (tx_gr t q m).length ≤ m := by
  intro m
  induction m with
  | zero => exact Nat.le_refl _
  | succ m ih =>
    rw [tx_gr]
    split
    · rw [List.length_cons]; omega
    · omega
theorem tx_grm (t : Nat → Nat) (q : Nat) : ∀ m y, y ∈ tx_gr t q m → y < 10 := by
  intro m
  induction m with
  | zero => intro y h; exact absurd h (by simp [tx_gr])
  | succ m ih =>
    intro y h
    rw [tx_gr] at h
    split at h
    · rcases List.mem_cons.mp h with e | e
      · omega
      · exact ih y e
    · exact ih y h
/-- the cell that i hops lead to holds the value -/
def xm_hop (cn : Nat → Int32) : Nat → Nat → Nat
  | 0, c => c
  | i + 1, c => xm_hop cn i (cn c).toNatClampNeg
theorem xm_look {L : Nat → Prop} {f : Nat → Nat} {cv : Nat → Int64} {cn : Nat → Int32} {nm : pm_N} {b lc : Nat} (H : xm_H L f cv cn nm b lc) (x : Nat) (v : pm_V) : ∀ (l : List Nat) (s c i : Nat), pm_Ch nm b l s → xm_E L f c s → tx_ix l x = some i → pm_look nm l x s = some v →
    (∀ j, j ≤ i → xm_hop cn j c < 9000 ∧ cn (xm_hop cn j c) = nI (xm_hop cn (j + 1) c)) ∧ xm_V L f (cv (xm_hop cn i c)) v := by
  intro l
  induction l with
  | nil => intro s c i _ _ h; exact absurd h (by simp [tx_ix])
  | cons y l ih =>
    intro s c i hC hE h hv
    obtain ⟨g1, g2, g3, g4⟩ := hC
    rcases hE with z | ⟨z1, z2, z3, z4⟩
    · omega
    obtain ⟨k1, k2, k3⟩ := H c z3
    obtain ⟨k4, k5, ⟨d, k6, k7⟩, k8⟩ := k3 z1
    rw [z4] at k7 k8
    have hd := xm_E9 k7
    have ed : (cn c).toNatClampNeg = d := by rw [k6]; exact nI_clamp (by omega)
    have e0 : ∀ j, xm_hop cn (j + 1) c = xm_hop cn j d := by
      intro j
      rw [xm_hop, ed]
    rw [tx_ix] at h
    rw [pm_look] at hv
    by_cases q : y = x
    · rw [if_pos q] at h hv
      have hi : i = 0 := (Option.some.inj h).symm
      rw [hi]
      refine ⟨fun j hj => ?_, ?_⟩
      · have : j = 0 := by omega
        rw [this]
        refine ⟨z2, ?_⟩
        rw [e0]; exact k6
      · rw [← Option.some.inj hv]; exact k8
    · rw [if_neg q] at h hv
      cases e : tx_ix l x with
      | none => rw [e] at h; exact absurd h (by simp)
      | some k =>
        rw [e] at h
        have h2 : k + 1 = i := Option.some.inj h
        obtain ⟨r1, r2⟩ := ih (nm s).2.2 d k g4 k7 e hv
        rw [← h2]
        refine ⟨fun j hj => ?_, by rw [e0]; exact r2⟩
        rcases j with _ | j
        · refine ⟨z2, ?_⟩
          rw [e0]; exact k6
        · rw [e0, e0]
          exact r1 j (by omega)
/-- the reference's names -/
def yn_N (na nk nv no : Nat → Int32) (nm : pm_N) (b : Nat) : Prop :=
  ∀ i, 1 ≤ i → i ≤ b → na i = nI (nm i).1 ∧ yn_V (nk i) (nv i) (nm i).2.1 ∧ no i = nI (nm i).2.2
theorem yn_Nadd {na nk nv no : Nat → Int32} {nm : pm_N} {b x o : Nat} {k a : Int32} {v : pm_V} (h : yn_N na nk nv no nm b) (hv : yn_V k a v) :
    yn_N (upd na (b + 1) (nI x)) (upd nk (b + 1) k) (upd nv (b + 1) a) (upd no (b + 1) (nI o)) (pm_bd nm b x v o) (b + 1) := by
  intro i h1 h2
  by_cases c : i = b + 1
  · rw [c, pm_bd_s, yn_us, yn_us, yn_us, yn_us]
    exact ⟨rfl, hv, rfl⟩
  · rw [yn_un c, yn_un c, yn_un c, yn_un c]
    have e : pm_bd nm b x v o i = nm i := by unfold pm_bd; rw [if_neg c]
    rw [e]
    exact h i h1 (by omega)
theorem tx_ixn (t : Nat → Nat) (q x : Nat) : ∀ m, tx_ix (tx_gr t q m) x = none ↔ ∀ g, g < m → tx_gv t g q = true → t g % 10 ≠ x := by
  intro m
  induction m with
  | zero => exact ⟨fun _ g h => absurd h (by omega), fun _ => rfl⟩
  | succ m ih =>
    rw [tx_gr]
    by_cases c : tx_gv t m q = true
    · rw [if_pos c, tx_ix]
      by_cases d : t m % 10 = x
      · rw [if_pos d]
        exact ⟨fun h => absurd h (by simp), fun h => absurd d (h m (by omega) c)⟩
      · rw [if_neg d, Option.map_eq_none_iff, ih]
        refine ⟨fun h g hg hv => ?_, fun h g hg hv => h g (by omega) hv⟩
        rcases Nat.lt_or_ge g m with e | e
        · exact h g e hv
        · have e' : g = m := by omega
          rw [e']; exact d
    · rw [if_neg c, ih]
      refine ⟨fun h g hg hv => ?_, fun h g hg hv => h g (by omega) hv⟩
      rcases Nat.lt_or_ge g m with e | e
      · exact h g e hv
      · have e' : g = m := by omega
        rw [e'] at hv; exact absurd hv c
/-- the free names among the first i tokens -/
noncomputable def tx_fr (t : Nat → Nat) : Nat → Int32
  | 0 => 0
  | q + 1 => if t q < 40 ∧ tx_ix (tx_G t q) (t q % 10) = none then tx_fr t q ||| ((1 : Int32) <<< (nI (t q % 10) &&& 31)) else tx_fr t q
end
section
/-! a value in one long -/
theorem xv_lt (a : Int32) : a.toBitVec.toNat < 4294967296 := a.toBitVec.isLt
theorem xv_of (a : Int32) : nI a.toBitVec.toNat = a := Int32.toBitVec_inj.mp (by show BitVec.ofNat 32 _ = _; simp)
theorem xv_lo (a : Int32) : a.toInt64 &&& 4294967295 = lN a.toBitVec.toNat := by
  apply wb_inj
  apply BitVec.eq_of_toNat_eq
  show ((a.toInt64).toBitVec &&& 4294967295#64).toNat = (BitVec.ofNat 64 a.toBitVec.toNat).toNat
  have h := xv_lt a
  rw [BitVec.toNat_and, show (4294967295#64).toNat = 2 ^ 32 - 1 from by decide, Nat.and_two_pow_sub_one_eq_mod, BitVec.toNat_ofNat, Int32.toBitVec_toInt64, BitVec.toNat_signExtend, BitVec.toNat_setWidth]
  split <;> omega
theorem xv_vo {k : Nat} (hk : k < 4) (a : Int32) : ((nI k).toInt64 <<< ((32 : Int32).toInt64 &&& 63)) ||| (a.toInt64 &&& 4294967295) = xm_vo k a := by
  have h := xv_lt a
  have e : (nI k).toInt64 <<< ((32 : Int32).toInt64 &&& 63) = lN (k * 4294967296) := by
    rw [nI_l (by omega)]
    exact wb_shl k (k := 32) (by decide)
  rw [e, xv_lo]
  exact g_or (k := 32) (by decide) h (by omega)
theorem xv_kd {k : Nat} (hk : k < 4) (a : Int32) : (xm_vo k a >>> ((32 : Int32).toInt64 &&& 63)).toInt32 = nI k := by
  have h := xv_lt a
  unfold xm_vo
  rw [pf_shr (d := 32) (by decide) (by omega), lN_i]
  exact congrArg nI (by omega)
theorem xv_k0 : ((0 : Int64) >>> ((32 : Int32).toInt64 &&& 63)).toInt32 = 0 := by decide
theorem xv_ct (k : Nat) (a : Int32) : (xm_vo k a).toInt32 = a := by
  unfold xm_vo
  rw [lN_i]
  apply Int32.toBitVec_inj.mp
  show BitVec.ofNat 32 _ = _
  apply BitVec.eq_of_toNat_eq
  have h := xv_lt a
  rw [BitVec.toNat_ofNat]
  omega
theorem xv_ne {k : Nat} (h0 : 0 < k) (hk : k < 4) (a : Int32) : ¬ xm_vo k a = 0 := by
  have h := xv_lt a
  unfold xm_vo
  intro z
  have z' : lN (k * 4294967296 + a.toBitVec.toNat) = lN 0 := z
  rw [pk_lEQ (by omega) (by omega)] at z'
  omega
end
section
/-! copied frames, and what the collector leaves -/
def xm_cp {α : Type} (F : Nat → α) (a c i : Nat) : Nat → α := fun j => if c ≤ j ∧ j < c + i then F (a + (j - c)) else F j
theorem xm_cp0 {α : Type} (F : Nat → α) (a c : Nat) : xm_cp F a c 0 = F := by
  funext j
  unfold xm_cp
  rw [if_neg (by omega)]
theorem xm_cpr {α : Type} {F : Nat → α} {a c i : Nat} (h : a + i < c ∨ c + i ≤ a) : xm_cp F a c i (a + i) = F (a + i) := by
  unfold xm_cp
  rw [if_neg (by omega)]
theorem xm_cps {F : Nat → Int32} {a c i : Nat} : upd (xm_cp F a c i) (c + i) (F (a + i)) = xm_cp F a c (i + 1) := by
  funext j
  unfold upd xm_cp
  by_cases e : j = c + i
  · rw [if_pos e, if_pos (by omega), show a + (j - c) = a + i by omega]
  · rw [if_neg e]
    by_cases e2 : c ≤ j ∧ j < c + i
    · rw [if_pos e2, if_pos (by omega)]
    · rw [if_neg e2, if_neg (by omega)]
theorem xm_cpL {F : Nat → Int64} {a c i : Nat} : vp_updL (xm_cp F a c i) (c + i) (F (a + i)) = xm_cp F a c (i + 1) := by
  funext j
  unfold vp_updL xm_cp
  by_cases e : j = c + i
  · rw [if_pos e, if_pos (by omega), show a + (j - c) = a + i by omega]
  · rw [if_neg e]
    by_cases e2 : c ≤ j ∧ j < c + i
    · rw [if_pos e2, if_pos (by omega)]
    · rw [if_neg e2, if_neg (by omega)]
theorem xm_cpi {α : Type} {F : Nat → α} {a c n i : Nat} (h : i < n) : xm_cp F a c n (c + i) = F (a + i) := by
  unfold xm_cp
  rw [if_pos (by omega), show a + (c + i - c) = a + i by omega]
theorem xm_cpo {α : Type} {F : Nat → α} {a c n j : Nat} (h : j < c ∨ c + n ≤ j) : xm_cp F a c n j = F j := by
  unfold xm_cp
  rw [if_neg (by omega)]
/-- what is marked with all that it leads to -/
def xm_cl (L : Nat → Prop) (f : Nat → Nat) (cv : Nat → Int64) (cn : Nat → Int32) (nm : pm_N) (te en : Nat → Int32) (fi : Nat → Int64) (sg : List (List pm_F)) (x : Nat) : Prop :=
  (9 ≤ x → (∃ c, cn x = nI c ∧ xm_E L f c (nm (f x)).2.2) ∧ xm_V L f (cv x) (nm (f x)).2.1) ∧ (x < 9 → xm_R L f te en fi (x * 16) (sg.getD (x - 1) []))
theorem xm_clm {L L' : Nat → Prop} {f : Nat → Nat} (M : xm_M L f L' f) {cv : Nat → Int64} {cn : Nat → Int32} {nm : pm_N} {te en : Nat → Int32} {fi : Nat → Int64} {sg : List (List pm_F)} {x : Nat} (h : xm_cl L f cv cn nm te en fi sg x) : xm_cl L' f cv cn nm te en fi sg x := by
  refine ⟨fun h9 => ?_, fun h9 => xm_Rm M _ (h.2 h9)⟩
  obtain ⟨⟨c, h1, h2⟩, h3⟩ := h.1 h9
  exact ⟨⟨c, h1, xm_Em M h2⟩, xm_Vm M _ h3⟩
theorem xm_col {L : Nat → Prop} {f : Nat → Nat} {cv : Nat → Int64} {cn cn' : Nat → Int32} {nm : pm_N} {b lc rc : Nat} {te en : Nat → Int32} {fi : Nat → Int64} {sz mk re : Nat → Int32} {sg : List (List pm_F)}
    (H : xm_H L f cv cn nm b lc) (G : xm_G L f te en fi sz sg) (K : xm_K L mk re lc rc) (hl : lc < 9000) (C : ∀ k x, k < rc → re k = nI x → x < 9000 → xm_cl (xm_mk mk lc) f cv cn nm te en fi sg x)
    (hc : ∀ x, xm_mk mk lc x → cn' x = cn x) : xm_H (xm_mk mk lc) f cv cn' nm b lc ∧ xm_G (xm_mk mk lc) f te en fi sz sg := by
  have C' : ∀ x, xm_mk mk lc x → xm_cl (xm_mk mk lc) f cv cn nm te en fi sg x := by
    intro x hx
    obtain ⟨_, k, h1, h2⟩ := K.2.1 x hx
    exact C k x h1 h2 (by have := hx.1; omega)
  refine ⟨fun x hx => ?_, fun x hx h9 => ?_⟩
  · have hL := (K.2.1 x hx).1
    obtain ⟨h1, h2, h3⟩ := H x hL
    refine ⟨h1, h2, fun h9 => ?_⟩
    obtain ⟨h4, h5, _, _⟩ := h3 h9
    obtain ⟨h6, h7⟩ := (C' x hx).1 h9
    rw [hc x hx]
    exact ⟨h4, h5, h6, h7⟩
  · have hL := (K.2.1 x hx).1
    obtain ⟨h1, h2, _⟩ := G x hL h9
    exact ⟨h1, h2, (C' x hx).2 h9⟩
/-- the list of what is not marked, from 9 up to i -/
def xm_fl (mk : Nat → Int32) : Nat → List Nat
  | 0 => []
  | i + 1 => if mk (9 + i) = 0 then (9 + i) :: xm_fl mk i else xm_fl mk i
theorem xm_flm (mk : Nat → Int32) : ∀ i x, x ∈ xm_fl mk i → 9 ≤ x ∧ x < 9 + i ∧ mk x = 0 := by
  intro i
  induction i with
  | zero => intro x h; exact absurd h (by simp [xm_fl])
  | succ i ih =>
    intro x h
    rw [xm_fl] at h
    split at h
    · rcases List.mem_cons.mp h with e | e
      · rw [e]; exact ⟨by omega, by omega, by assumption⟩
      · have := ih x e
        exact ⟨this.1, by omega, this.2.2⟩
    · have := ih x h
      exact ⟨this.1, by omega, this.2.2⟩
theorem xm_fln (mk : Nat → Int32) : ∀ i, (xm_fl mk i).Nodup := by
  intro i
  induction i with
  | zero => exact List.nodup_nil
  | succ i ih =>
    rw [xm_fl]
    split
    · refine List.nodup_cons.mpr ⟨fun h => ?_, ih⟩
      have := xm_flm mk i _ h
      omega
    · exact ih
end
section
/-! the two machines against the pure one -/
def yr_M (sc pc ha vk va : Int32) : pm_M → Prop
  | .inl (p, s) => ha = 0 ∧ pc = nI p ∧ sc = nI s
  | .inr v => ha = 1 ∧ yn_V vk va v
/-- the reference's nodes -/
def yr_P (K : List pm_F) (sg : List (List pm_F)) (fr sp tp : Int32) (PL SE AR KI VA OU TA : Nat → Int32) : Prop :=
  ∃ (ys : List Nat) (zs : List (List Nat)) (ss : List Nat) (fn : Nat), yn_L OU ys ∧ yn_S PL SE AR KI VA ys K ∧ yn_L OU ss ∧ yn_Z OU PL SE AR KI VA TA zs sg ∧ yn_Q ys zs.flatten ss fn ∧ fn ≤ 200 ∧ tp = nI (yn_hd ys) ∧ sp = nI (yn_hd ss) ∧ fr = nI fn
/-- the component's frames and cells -/
def xr_P (m : pm_M) (K : List pm_F) (sg : List (List pm_F)) (nm : pm_N) (b : Nat) (pe lc uc pc en : Int32) (va : Int64) (FT FE : Nat → Int32) (FF : Nat → Int64) (SZ : Nat → Int32) (CV : Nat → Int64) (CN : Nat → Int32) : Prop :=
  ∃ (L : Nat → Prop) (f : Nat → Nat) (fl : List Nat) (ln : Nat), pe = nI K.length ∧ lc = nI ln ∧ 8 ≤ ln ∧ ln ≤ 8 + b ∧ uc = nI (yn_hd fl) ∧ xm_R L f FT FE FF 0 K ∧ xm_G L f FT FE FF SZ sg ∧ xm_H L f CV CN nm b ln ∧ xm_U L CN ln fl ∧
    (match m with
      | .inl (p, s) => pc = nI p ∧ ∃ c, en = nI c ∧ xm_E L f c s
      | .inr v => pc = -1 ∧ xm_V L f va v)
end
section
/-! the reference's text: parts, end, complete, gives, free -/
variable {sz st so rs sh ca sf mo fr sp tp de bo pc sc ha vk va : Int32} {T PA PL SE AR KI VA OU TA NA NK NV NO : Nat → Int32}
def tx_T (T : Nat → Int32) (t : Nat → Nat) (n : Nat) : Prop := ∀ i, i < n → T i = nI (t i) ∧ tx_tok (t i)
theorem tx_pt3 (x : Nat) : tx_pt x ≤ 3 := by
  have P := @kp_pt x
  omega
theorem tx_t120 {x : Nat} (h : tx_tok x) : 30 ≤ x ∧ x ≤ 120 := by unfold tx_tok at h; omega
theorem yt_parts {post : Int32 → Prop} {x : Nat} (hx : tx_tok x) (hp : post (nI (tx_pt x))) : wpY_parts post (sz, st, so, rs, sh, ca, sf, mo, fr, sp, tp, de, bo, pc, sc, ha, vk, va, T, PA, PL, SE, AR, KI, VA, OU, TA, NA, NK, NV, NO) (nI x) := by
  have P := @kp_pt x
  unfold tx_tok at hx
  have q0 : tx_pt x = 0 → post 0 := fun e => by rw [e] at hp; exact hp
  have q1 : tx_pt x = 1 → post 1 := fun e => by rw [e] at hp; exact hp
  have q2 : tx_pt x = 2 → post 2 := fun e => by rw [e] at hp; exact hp
  have q3 : tx_pt x = 3 → post 3 := fun e => by rw [e] at hp; exact hp
  exact pk_le 80 x (fun h => q0 (by omega)) (fun h => pk_le 40 x (fun h2 => pk_le 46 x (fun h3 => pk_lt 56 x (fun h4 => pk_eq x 57 (fun h5 => q3 (by omega)) (fun h5 => pk_lt 59 x (fun h6 => pk_le 66 x (fun h7 => q1 (by omega)) (fun h7 => q2 (by omega))) (fun h6 => q1 (by omega)))) (fun h4 => q2 (by omega))) (fun h3 => q1 (by omega))) (fun h2 => q0 (by omega)))
theorem yt_lp {post : Int32 → Prop} {t : Nat → Nat} {n : Nat} (hT : tx_T T t n) (hn : n ≤ 32) {p e : Nat} (he : e ≤ n) (hD : ∀ j, p ≤ j → j < e → tx_D t p ≤ tx_D t j)
    (h1 : tx_D t e = tx_D t p - 1 → post (nI e)) (h2 : tx_D t p ≤ tx_D t e → e = n ∧ post 100) (h3 : tx_D t p - 1 ≤ tx_D t e) :
    ∀ d i (a : Nat), i + d = e → p ≤ i → (a : Int) = tx_D t i - tx_D t p + 1 → a ≤ 2 * i + 1 → wY_end_4 post (nI n) st so rs sh ca sf mo fr sp tp de bo pc sc ha vk va T PA PL SE AR KI VA OU TA NA NK NV NO (d + 1) (nI a) (nI i) := by
  intro d
  induction d with
  | zero =>
    intro i a hi hpi ha hb
    have e1 : i = e := by omega
    rw [e1] at ha hb ⊢
    by_cases c : a = 0
    · rw [c]
      exact pk_le 0 0 (fun _ => pk_le 0 0 (fun _ => h1 (by omega)) (fun h => by omega)) (fun h => by omega)
    · obtain ⟨g1, g2⟩ := h2 (by omega)
      exact pk_le a 0 (fun h => by omega) (fun _ => pk_le n e (fun _ => pk_le a 0 (fun h => by omega) (fun _ => g2)) (fun h => by omega))
  | succ d ih =>
    intro i a hi hpi ha hb
    have g := hD i hpi (by omega)
    obtain ⟨t1, t2⟩ := hT i (by omega)
    have hp3 := tx_pt3 (t i)
    have e1 := tx_D1 t i
    refine pk_le a 0 (fun h => by omega) (fun _ => pk_le n i (fun h => by omega) (fun _ => ⟨vp_in_nI (by omega) (by omega), ?_⟩))
    rw [nI_clamp (by omega), t1]
    refine yt_parts t2 (nm_r (e' := nI (a + tx_pt (t i) - 1)) ?_ (nm_r (nI_1 i) (ih (i + 1) _ (by omega) (by omega) (by omega) (by omega))))
    rw [nI_add]
    exact pk_sub (b := 1) (by omega)
theorem yt_end {post : Int32 → Prop} {t : Nat → Nat} {n : Nat} (W : tx_W t n) (hT : tx_T T t n) (hn : n ≤ 32) {p : Nat} (hp : p < n) (h : post (nI (tx_e t p))) : wpY_end post (nI n, st, so, rs, sh, ca, sf, mo, fr, sp, tp, de, bo, pc, sc, ha, vk, va, T, PA, PL, SE, AR, KI, VA, OU, TA, NA, NK, NV, NO) (nI p) := by
  obtain ⟨S, hle⟩ := tx_spec W hp
  have h0 := S.1
  exact ⟨_, yt_lp hT hn hle S.2.2 (fun _ => h) (fun q => by have := S.2.1; omega) (by have := S.2.1; omega) (tx_e t p - p) p 1 (by omega) (Nat.le_refl _) (by omega) (by omega)⟩
/-- every proper beginning wants something -/
def tx_B (t : Nat → Nat) (n : Nat) : Prop := ∀ i, i < n → 1 ≤ tx_D t i
theorem tx_B0 {t : Nat → Nat} {n : Nat} (B : tx_B t n) : 0 ≤ tx_D t n := by
  rcases Nat.eq_zero_or_pos n with h | h
  · rw [h]; show (0 : Int) ≤ 1; omega
  · have h1 := B (n - 1) (by omega)
    have h2 := tx_Dm t h
    omega
theorem yt_complete {post : Int32 → Prop} {t : Nat → Nat} {n : Nat} (B : tx_B t n) (hT : tx_T T t n) (hn : n ≤ 32) (h1 : tx_W t n → post 1) (h0 : ¬ tx_W t n → post 0) : wpY_complete post (nI n, st, so, rs, sh, ca, sf, mo, fr, sp, tp, de, bo, pc, sc, ha, vk, va, T, PA, PL, SE, AR, KI, VA, OU, TA, NA, NK, NV, NO) := by
  have b0 := tx_B0 B
  have e0 : tx_D t 0 = 1 := rfl
  refine ⟨_, yt_lp (p := 0) hT hn (Nat.le_refl n) (fun j _ hj => by have := B j hj; omega) (fun q => ?_) (fun q => ⟨rfl, ?_⟩) (by omega) n 0 1 (by omega) (Nat.le_refl _) (by omega) (by omega)⟩
  · exact br_t rfl (h1 ⟨by omega, B⟩)
  · refine br_f (fun z => ?_) (h0 (fun W => by have := W.1; omega))
    have z' : nI 100 = nI n := z
    rw [nI_eq (by omega) (by omega)] at z'
    omega
theorem yt_gives {post : Int32 → Prop} {t : Nat → Nat} {n : Nat} (W : tx_W t n) (hT : tx_T T t n) (hn : n ≤ 32) {p q x : Nat} (hp : p < q) (hq : q < n) (hx : x ≤ 5)
    (h1 : tx_gv t p q = true → t p % 10 = x → post 1) (h0 : ¬ (tx_gv t p q = true ∧ t p % 10 = x) → post 0) : wpY_gives post (nI n, st, so, rs, sh, ca, sf, mo, fr, sp, tp, de, bo, pc, sc, ha, vk, va, T, PA, PL, SE, AR, KI, VA, OU, TA, NA, NK, NV, NO) (nI p) (nI x) (nI q) := by
  obtain ⟨t1, t2⟩ := hT p (by omega)
  have P := @kp_pt (t p)
  have G := @tx_gv_iff t p q
  unfold tx_tok at t2
  refine ⟨vp_in_nI (by omega) (by omega), nm_r (e' := nI (t p)) (by rw [nI_clamp (by omega)]; exact t1) ?_⟩
  have L : ∀ (k : Nat), t p = k + x → (k = 40 ∨ k = 70) → wY_gives_61 post (nI p) (nI q) (nI n) st so rs sh ca sf mo fr sp tp de bo pc sc ha vk va T PA PL SE AR KI VA OU TA NA NK NV NO := by
    intro k e hk
    refine pk_le q p (fun h => by omega) (fun _ => yt_end W hT hn (by omega) ?_)
    exact pk_le (tx_e t p) q (fun h => h0 (fun z => by have := G.mp z.1; omega)) (fun h => h1 (G.mpr ⟨Or.inl ⟨by omega, hp⟩, h⟩) (by omega)) rfl rfl (by have := tx_le W (p := p) (by omega); omega)
  refine pk_eq (t p) (60 + x) (fun e => ?_) (fun e => pk_eq (t p) (40 + x) (fun e2 => L 40 e2 (Or.inl rfl)) (fun e2 => pk_eq (t p) (70 + x) (fun e3 => L 70 e3 (Or.inr rfl)) (fun e3 => h0 (fun z => ?_)) rfl (nI_add 70 x)) rfl (nI_add 40 x)) rfl (nI_add 60 x)
  · have T1 := tx_1 W (p := p) (by omega) (by omega)
    have e1 : nI p + 1 = nI (p + 1) := nI_1 p
    have le1 := tx_le W (p := p) (by omega)
    rw [e1]
    refine yt_end W hT hn T1.1 (pk_lt q (tx_e t (p + 1)) (fun h => h0 (fun z => by have := G.mp z.1; omega)) (fun h => yt_end W hT hn (by omega) ?_))
    exact pk_le (tx_e t p) q (fun h => h0 (fun z => by have := G.mp z.1; omega)) (fun h => h1 (G.mpr ⟨Or.inr ⟨by omega, by omega⟩, h⟩) (by omega))
  · have := G.mp z.1
    omega
end
section
/-! the reference's free -/
variable {sz st so rs sh ca sf mo fr sp tp de bo pc sc ha vk va : Int32} {T PA PL SE AR KI VA OU TA NA NK NV NO : Nat → Int32}
theorem yf_0 {post : Int32 → Prop} {J : Int32 → Int32 → Prop} {a x : Int32} {q : Nat} (h : J a (nI (q + 1))) (n : Nat) (i : Int32) : wY_free_50 post J a (nI q) x sz st so rs sh ca sf mo fr sp tp de bo pc sc ha vk va T PA PL SE AR KI VA OU TA NA NK NV NO (n + 1) 0 i :=
  br_c (fun _ => br_t rfl (nm_r (nI_1 q) h)) (fun _ => br_t rfl (br_t rfl (nm_r (nI_1 q) h)))
theorem yf_in {post : Int32 → Prop} {J : Int32 → Int32 → Prop} {a : Int32} {t : Nat → Nat} {n q x : Nat} (W : tx_W t n) (hT : tx_T T t n) (hn : n ≤ 32) (hq : q < n) (hx : x ≤ 5)
    (h1 : tx_ix (tx_G t q) x = none → J (a ||| ((1 : Int32) <<< (nI x &&& 31))) (nI (q + 1))) (h0 : ¬ tx_ix (tx_G t q) x = none → J a (nI (q + 1))) :
    ∀ d p, p + d = q → (∀ g, g < p → tx_gv t g q = true → t g % 10 ≠ x) → wY_free_50 post J a (nI q) (nI x) (nI n) st so rs sh ca sf mo fr sp tp de bo pc sc ha vk va T PA PL SE AR KI VA OU TA NA NK NV NO (d + 2) 1 (nI p) := by
  have E := tx_ixn t q x q
  intro d
  induction d with
  | zero =>
    intro p hp h
    have e : p = q := by omega
    rw [e] at h ⊢
    exact pk_le q q (fun _ => br_f (by decide) (nm_e (nm_r (nI_1 q) (h1 (E.mpr h))))) (fun z => by omega)
  | succ d ih =>
    intro p hp h
    refine pk_le q p (fun z => by omega) (fun _ => br_f (by decide) (yt_gives W hT hn (by omega) hq hx (fun g1 g2 => ?_) (fun g => ?_)))
    · exact br_f (by decide) (nm_r (nI_1 p) (yf_0 (h0 (fun z => E.mp z p (by omega) g1 g2)) _ _))
    · refine br_t rfl (nm_r (nI_1 p) (ih (p + 1) (by omega) (fun g' z1 z2 z3 => ?_)))
      rcases Nat.lt_or_ge g' p with z | z
      · exact h g' z z2 z3
      · have z4 : g' = p := by omega
        rw [z4] at z2 z3
        exact g ⟨z2, z3⟩
theorem yf_lp {post : Int32 → Prop} {t : Nat → Nat} {n : Nat} (W : tx_W t n) (hT : tx_T T t n) (hn : n ≤ 32) (h : post (tx_fr t n)) :
    ∀ d q, q + d = n → wY_free_13 post (nI n) st so rs sh ca sf mo fr sp tp de bo pc sc ha vk va T PA PL SE AR KI VA OU TA NA NK NV NO (d + 1) (tx_fr t q) (nI q) := by
  intro d
  induction d with
  | zero =>
    intro q hq
    have e : q = n := by omega
    rw [e]
    exact pk_le n n (fun _ => h) (fun z => by omega)
  | succ d ih =>
    intro q hq
    obtain ⟨t1, t2⟩ := hT q (by omega)
    have t3 := tx_t120 t2
    refine pk_le n q (fun z => by omega) (fun _ => ⟨vp_in_nI (by omega) (by omega), nm_r (e' := nI (t q - 30)) ?_ ?_⟩)
    · rw [nI_clamp (by omega), t1]; exact pk_sub (b := 30) (by omega)
    have I := ih (q + 1) (by omega)
    refine br_f (nI_pos (by omega)) (pk_lt 5 (t q - 30) (fun z => ?_) (fun z => ?_))
    · have e : tx_fr t (q + 1) = tx_fr t q := by
        rw [tx_fr, if_neg (fun y : t q < 40 ∧ tx_ix (tx_G t q) (t q % 10) = none => by have := y.1; unfold tx_tok at t2; omega)]
      rw [e] at I
      exact ⟨1, yf_0 I 0 0⟩
    · have e9 : t q - 30 = t q % 10 := by unfold tx_tok at t2; omega
      rw [e9]
      refine ⟨q + 2, yf_in W hT hn (by omega) (by omega) (fun y => ?_) (fun y => ?_) q 0 (by omega) (fun g z => by omega)⟩
      · have e : tx_fr t (q + 1) = tx_fr t q ||| ((1 : Int32) <<< (nI (t q % 10) &&& 31)) := by
          rw [tx_fr, if_pos ⟨by omega, y⟩]
        rw [e] at I
        exact I
      · have e : tx_fr t (q + 1) = tx_fr t q := by
          rw [tx_fr, if_neg (fun w => y w.2)]
        rw [e] at I
        exact I
theorem yf_free {post : Int32 → Prop} {t : Nat → Nat} {n : Nat} (B : tx_B t n) (hT : tx_T T t n) (hn : n ≤ 32) (h1 : tx_W t n → post (tx_fr t n)) (h0 : ¬ tx_W t n → post (-1)) : wpY_free post (nI n, st, so, rs, sh, ca, sf, mo, fr, sp, tp, de, bo, pc, sc, ha, vk, va, T, PA, PL, SE, AR, KI, VA, OU, TA, NA, NK, NV, NO) := by
  unfold wpY_free
  refine yt_complete B hT hn (fun W => br_f (by decide) ⟨n + 1, ?_⟩) (fun W => br_t rfl (h0 W))
  exact yf_lp W hT hn (h1 W) n 0 (by omega)
end
section
/-! the component's text: partsOf, complete, findEnds -/
variable {tc pe lc uc tk rc pc en : Int32} {va : Int64} {oc cc sc dp ed : Int32} {T ES HP FT FE : Nat → Int32} {FF : Nat → Int64} {SZ : Nat → Int32} {CV : Nat → Int64} {CN MK RE OU : Nat → Int32}
theorem xt_d10 {x : Nat} (h : x < 1000) : nI x / 10 = nI (x / 10) := pk_div (d := 10) (by omega) (by decide) (by decide)
theorem xt_r10 {x : Nat} (h : x < 1000) : nI x - nI x / 10 * 10 = nI (x % 10) := pk_rem (d := 10) (by omega) (by decide) (by decide)
theorem xt_parts {post : Int32 → Prop} {x : Nat} (hx : tx_tok x) (hp : post (nI (tx_pt x))) : wpX_partsOf post (nI x) := by
  have P := @kp_pt x
  unfold tx_tok at hx
  have q0 : tx_pt x = 0 → post 0 := fun e => by rw [e] at hp; exact hp
  have q1 : tx_pt x = 1 → post 1 := fun e => by rw [e] at hp; exact hp
  have q2 : tx_pt x = 2 → post 2 := fun e => by rw [e] at hp; exact hp
  have q3 : tx_pt x = 3 → post 3 := fun e => by rw [e] at hp; exact hp
  exact ⟨by decide, nm_r (xt_d10 (by omega)) (pk_eq (x / 10) 4 (fun h => q1 (by omega)) (fun h => pk_eq (x / 10) 7 (fun h => q1 (by omega)) (fun h => pk_eq x 58 (fun h => q1 (by omega)) (fun h => pk_eq x 59 (fun h => q1 (by omega)) (fun h => pk_eq x 57 (fun h => q3 (by omega)) (fun h => pk_eq (x / 10) 5 (fun h => q2 (by omega)) (fun h => pk_eq (x / 10) 6 (fun h => q2 (by omega)) (fun h => q0 (by omega)))))))))⟩
theorem xt_ap {a k : Nat} (h : 1 ≤ a + k) : nI a + (nI k - 1) = nI (a + k - 1) := by
  have e : nI a + (nI k - 1) = (nI a + nI k) - 1 := by grind
  rw [e, nI_add]
  exact pk_sub (b := 1) h
theorem xt_clp {post : Int32 → Prop} {t : Nat → Nat} {n : Nat} (B : tx_B t n) (hT : tx_T T t n) (hn : n ≤ 32) (h1 : tx_W t n → post 1) (h0 : ¬ tx_W t n → post 0) :
    ∀ d i (a : Nat), i + d = n → (a : Int) = tx_D t i → a ≤ 2 * i + 1 → wX_complete_4 post (nI n) pe lc uc tk rc pc en va oc cc sc dp ed T ES HP FT FE FF SZ CV CN MK RE OU (d + 1) (nI a) (nI i) := by
  intro d
  induction d with
  | zero =>
    intro i a hi ha hb
    have e : i = n := by omega
    rw [e] at ha hb ⊢
    refine pk_le n n (fun _ => pk_eq a 0 (fun z => h1 ⟨by omega, B⟩) (fun z => h0 (fun W => by have := W.1; omega))) (fun z => by omega)
  | succ d ih =>
    intro i a hi ha hb
    obtain ⟨t1, t2⟩ := hT i (by omega)
    have g := B i (by omega)
    have hp3 := tx_pt3 (t i)
    have e1 := tx_D1 t i
    refine pk_le n i (fun z => by omega) (fun _ => ⟨vp_in_nI (by omega) (by omega), ?_⟩)
    rw [nI_clamp (by omega), t1]
    exact xt_parts t2 (nm_r (xt_ap (by omega)) (nm_r (nI_1 i) (ih (i + 1) _ (by omega) (by omega) (by omega))))
theorem xt_complete {post : Int32 → Prop} {t : Nat → Nat} {n : Nat} (B : tx_B t n) (hT : tx_T T t n) (hn : n ≤ 32) (h1 : tx_W t n → post 1) (h0 : ¬ tx_W t n → post 0) : wpX_complete post (nI n, pe, lc, uc, tk, rc, pc, en, va, oc, cc, sc, dp, ed, T, ES, HP, FT, FE, FF, SZ, CV, CN, MK, RE, OU) :=
  ⟨n + 1, xt_clp B hT hn h1 h0 n 0 1 (by omega) rfl (by omega)⟩
def xt_E (ES : Nat → Int32) (t : Nat → Nat) (k n : Nat) : Prop := ∀ q, k ≤ q → q < n → ES q = nI (tx_e t q)
theorem xt_in {post : SX → Prop} {J : Int32 → (Nat → Int32) → (Nat → Int32) → (Nat → Int32) → (Nat → Int32) → (Nat → Int32) → (Nat → Int64) → (Nat → Int32) → (Nat → Int64) → (Nat → Int32) → (Nat → Int32) → (Nat → Int32) → (Nat → Int32) → Prop} {t : Nat → Nat} {n p : Nat} (W : tx_W t n) (hn : n ≤ 32) (hp : p < n) (hE : xt_E ES t (p + 1) n)
    (h : J (nI p + (-1)) T (upd ES p (nI (tx_e t p))) HP FT FE FF SZ CV CN MK RE OU) : ∀ d j c, j + d = tx_pt (t p) → c ≤ n → tx_P t p j c → wX_findEnds_28 post J (nI p) (nI (tx_pt (t p))) tc pe lc uc tk rc pc en va oc cc sc dp ed T ES HP FT FE FF SZ CV CN MK RE OU (d + 1) (nI c) (nI j) := by
  have hp3 := tx_pt3 (t p)
  intro d
  induction d with
  | zero =>
    intro j c hj hc hP
    have e : j = tx_pt (t p) := by omega
    rw [e] at hP ⊢
    have e2 := tx_Pe hP
    refine pk_le (tx_pt (t p)) (tx_pt (t p)) (fun _ => ⟨vp_in_nI (by omega) (by omega), nm_r (e' := upd ES p (nI (tx_e t p))) ?_ (nm_e h)⟩) (fun z => by omega)
    rw [nI_clamp (by omega), e2]
  | succ d ih =>
    intro j c hj hc hP
    have S := tx_Ps W hp (by omega) hc hP
    have h1 := hP.1
    refine pk_le (tx_pt (t p)) j (fun z => by omega) (fun _ => ⟨vp_in_nI (by omega) (by omega), nm_r (e' := nI (tx_e t c)) ?_ (nm_r (nI_1 j) (ih (j + 1) _ (by omega) (tx_le W S.1) S.2.2))⟩)
    rw [nI_clamp (by omega)]
    exact hE c (by omega) S.1
theorem xt_m1 (k : Nat) : nI k + (-1) = nI k - 1 := by grind
theorem xt_elp {post : SX → Prop} {t : Nat → Nat} {n : Nat} (W : tx_W t n) (hT : tx_T T t n) (hn : n ≤ 32) (h : ∀ ES', xt_E ES' t 0 n → post (nI n, pe, lc, uc, tk, rc, pc, en, va, oc, cc, sc, dp, ed, T, ES', HP, FT, FE, FF, SZ, CV, CN, MK, RE, OU)) :
    ∀ k ES, k ≤ n → xt_E ES t k n → wX_findEnds_7 post (nI n) pe lc uc tk rc pc en va oc cc sc dp ed (k + 1) (nI k - 1) T ES HP FT FE FF SZ CV CN MK RE OU := by
  intro k
  induction k with
  | zero => intro ES _ hE; exact br_t (by decide) (h ES hE)
  | succ k ih =>
    intro ES hk hE
    rw [nI_pred]
    obtain ⟨t1, t2⟩ := hT k (by omega)
    have hp3 := tx_pt3 (t k)
    refine br_f (nI_pos (by omega)) (nm_r (nI_1 k) ⟨vp_in_nI (by omega) (by omega), ?_⟩)
    rw [nI_clamp (by omega), t1]
    refine xt_parts t2 ⟨_, xt_in W hn (by omega) hE ?_ (tx_pt (t k)) 0 (k + 1) (by omega) (by omega) (tx_P0 t k)⟩
    rw [xt_m1]
    refine ih _ (by omega) (fun q h1 h2 => ?_)
    by_cases c : q = k
    · rw [c, pk_us]
    · rw [pk_un c]; exact hE q (by omega) h2
theorem xt_ends {post : SX → Prop} {t : Nat → Nat} {n : Nat} (W : tx_W t n) (hT : tx_T T t n) (hn : n ≤ 32) (h : ∀ ES', xt_E ES' t 0 n → post (nI n, pe, lc, uc, tk, rc, pc, en, va, oc, cc, sc, dp, ed, T, ES', HP, FT, FE, FF, SZ, CV, CN, MK, RE, OU)) : wpX_findEnds post (nI n, pe, lc, uc, tk, rc, pc, en, va, oc, cc, sc, dp, ed, T, ES, HP, FT, FE, FF, SZ, CV, CN, MK, RE, OU) :=
  nm_e ⟨n + 1, xt_elp W hT hn h n ES (Nat.le_refl _) (fun q h1 h2 => by omega)⟩
end
section
/-! the component's text: givesNameAt, hopsFrom, compile, free -/
variable {tc pe lc uc tk rc pc en : Int32} {va : Int64} {oc cc sc dp ed : Int32} {T ES HP FT FE : Nat → Int32} {FF : Nat → Int64} {SZ : Nat → Int32} {CV : Nat → Int64} {CN MK RE OU : Nat → Int32}
theorem xh_49 {post : Int32 → Prop} {t : Nat → Nat} {n : Nat} (W : tx_W t n) (hn : n ≤ 32) (hE : xt_E ES t 0 n) {g q a : Nat} (hg : g < n) (hq : q < n) (ha : a ≤ 32) (h1 : a ≤ q → q < tx_e t g → post 1) (h0 : ¬ (a ≤ q ∧ q < tx_e t g) → post 0) :
    wX_givesNameAt_49 post (nI g) (nI q) (nI a) tc pe lc uc tk rc pc en va oc cc sc dp ed T ES HP FT FE FF SZ CV CN MK RE OU := by
  have hle := tx_le W hg
  refine pk_lt q a (fun z => h0 (fun y => by omega)) (fun z => ⟨vp_in_nI (by omega) (by omega), ?_⟩)
  rw [nI_clamp (by omega), hE g (by omega) hg]
  exact pk_le (tx_e t g) q (fun y => h0 (fun w => by omega)) (fun y => h1 z y)
theorem xh_gives {post : Int32 → Prop} {t : Nat → Nat} {n : Nat} (W : tx_W t n) (hT : tx_T T t n) (hn : n ≤ 32) (hE : xt_E ES t 0 n) {g q : Nat} (hg : g < q) (hq : q < n) (h1 : tx_gv t g q = true → post 1) (h0 : ¬ tx_gv t g q = true → post 0) :
    wpX_givesNameAt post (tc, pe, lc, uc, tk, rc, pc, en, va, oc, cc, sc, dp, ed, T, ES, HP, FT, FE, FF, SZ, CV, CN, MK, RE, OU) (nI g) (nI q) := by
  obtain ⟨t1, t2⟩ := hT g (by omega)
  have t3 := tx_t120 t2
  have P := @kp_pt (t g)
  have G := @tx_gv_iff t g q
  have A : (t g / 10 = 4 ∨ t g / 10 = 7) → wX_givesNameAt_29 post (nI g) (nI q) (nI (t g / 10)) tc pe lc uc tk rc pc en va oc cc sc dp ed T ES HP FT FE FF SZ CV CN MK RE OU := by
    intro hh
    refine pk_eq (t g / 10) 6 (fun z => by omega) (fun z => ?_)
    rw [nI_1]
    exact xh_49 W hn hE (by omega) hq (by omega) (fun y1 y2 => h1 (G.mpr ⟨Or.inl ⟨hh, by omega⟩, y2⟩)) (fun y => h0 (fun w => y ⟨by omega, (G.mp w).2⟩))
  have B : t g / 10 = 6 → wX_givesNameAt_29 post (nI g) (nI q) (nI (t g / 10)) tc pe lc uc tk rc pc en va oc cc sc dp ed T ES HP FT FE FF SZ CV CN MK RE OU := by
    intro hh
    have T1 := tx_1 W (p := g) (by omega) (by omega)
    refine pk_eq (t g / 10) 6 (fun z => ?_) (fun z => by omega)
    rw [nI_1, nI_clamp (by omega), hE (g + 1) (by omega) T1.1]
    refine ⟨vp_in_nI (by omega) (by omega), xh_49 W hn hE (by omega) hq (by omega) (fun y1 y2 => h1 (G.mpr ⟨Or.inr ⟨hh, y1⟩, y2⟩)) (fun y => h0 (fun w => ?_))⟩
    have := G.mp w
    omega
  refine ⟨vp_in_nI (by omega) (by omega), by decide, nm_r (e' := nI (t g / 10)) ?_ ?_⟩
  · rw [nI_clamp (by omega), t1]; exact xt_d10 (by omega)
  · refine pk_eq (t g / 10) 4 (fun z => A (Or.inl z)) (fun z4 => pk_eq (t g / 10) 6 (fun z => B z) (fun z6 => pk_eq (t g / 10) 7 (fun z => A (Or.inr z)) (fun z7 => h0 (fun w => ?_))))
    have := G.mp w
    omega
theorem xh_hlp {post : Int32 → Prop} {t : Nat → Nat} {n q : Nat} (W : tx_W t n) (hT : tx_T T t n) (hn : n ≤ 32) (hE : xt_E ES t 0 n) (hq : q < n) :
    ∀ g k, g ≤ q → (∀ i, tx_ix (tx_gr t q g) (t q % 10) = some i → post (nI (k + i))) → (tx_ix (tx_gr t q g) (t q % 10) = none → post (-1)) → wX_hopsFrom_6 post (nI q) tc pe lc uc tk rc pc en va oc cc sc dp ed T ES HP FT FE FF SZ CV CN MK RE OU (g + 1) (nI k) (nI g - 1) := by
  obtain ⟨q1, q2⟩ := hT q hq
  have q3 := tx_t120 q2
  intro g
  induction g with
  | zero => intro k _ _ h0; exact br_t (by decide) (h0 rfl)
  | succ g ih =>
    intro k hg h1 h0
    obtain ⟨t1, t2⟩ := hT g (by omega)
    have t3 := tx_t120 t2
    rw [nI_pred]
    rw [tx_gr] at h1 h0
    refine br_f (nI_pos (by omega)) (xh_gives W hT hn hE (by omega) hq (fun y => ?_) (fun y => ?_))
    · rw [if_pos y, tx_ix] at h1 h0
      refine br_f (by decide) ⟨vp_in_nI (by omega) (by omega), by decide, vp_in_nI (by omega) (by omega), by decide, ?_⟩
      rw [nI_clamp (by omega), nI_clamp (by omega), t1, q1, xt_r10 (by omega), xt_r10 (by omega)]
      refine pk_eq (t g % 10) (t q % 10) (fun z => ?_) (fun z => ?_)
      · rw [if_pos z] at h1
        exact h1 0 rfl
      · rw [if_neg z] at h1 h0
        refine nm_r (nI_1 k) (nm_r (xt_m1 g) (ih (k + 1) (by omega) (fun i hi => ?_) (fun hi => h0 (by rw [hi]; rfl))))
        have := h1 (i + 1) (by rw [hi]; rfl)
        rw [show k + 1 + i = k + (i + 1) by omega]
        exact this
    · rw [if_neg y] at h1 h0
      exact br_t rfl (nm_r (xt_m1 g) (ih k (by omega) h1 h0))
/-- how far out the value is -/
noncomputable def tx_hp (t : Nat → Nat) (q : Nat) : Int32 :=
  if t q < 40 then
    match tx_ix (tx_G t q) (t q % 10) with
    | none => -1
    | some i => nI i
  else 0
theorem xh_hops {post : Int32 → Prop} {t : Nat → Nat} {n q : Nat} (W : tx_W t n) (hT : tx_T T t n) (hn : n ≤ 32) (hE : xt_E ES t 0 n) (hq : q < n) (h4 : t q < 40) (h : post (tx_hp t q)) : wpX_hopsFrom post (tc, pe, lc, uc, tk, rc, pc, en, va, oc, cc, sc, dp, ed, T, ES, HP, FT, FE, FF, SZ, CV, CN, MK, RE, OU) (nI q) := by
  unfold tx_hp at h
  rw [if_pos h4] at h
  refine nm_e ⟨q + 1, xh_hlp W hT hn hE hq q 0 (Nat.le_refl _) (fun i hi => ?_) (fun hi => ?_)⟩
  · have e : tx_ix (tx_G t q) (t q % 10) = some i := hi
    rw [e] at h
    rw [Nat.zero_add]
    exact h
  · have e : tx_ix (tx_G t q) (t q % 10) = none := hi
    rw [e] at h
    exact h
def xt_H (HP : Nat → Int32) (t : Nat → Nat) (n : Nat) : Prop := ∀ q, q < n → HP q = tx_hp t q
theorem xh_clp {post : SX → Prop} {t : Nat → Nat} {n : Nat} (W : tx_W t n) (hT : tx_T T t n) (hn : n ≤ 32) (hE : xt_E ES t 0 n) (h : ∀ HP', xt_H HP' t n → post (nI n, pe, lc, uc, tk, rc, pc, en, va, oc, cc, sc, dp, ed, T, ES, HP', FT, FE, FF, SZ, CV, CN, MK, RE, OU)) :
    ∀ d q HP, q + d = n → xt_H HP t q → wX_compile_6 post (nI n) pe lc uc tk rc pc en va oc cc sc dp ed (d + 1) (nI q) T ES HP FT FE FF SZ CV CN MK RE OU := by
  intro d
  induction d with
  | zero =>
    intro q HP hq hH
    have e : q = n := by omega
    rw [e] at hH ⊢
    exact pk_le n n (fun _ => h HP hH) (fun z => by omega)
  | succ d ih =>
    intro q HP hq hH
    obtain ⟨t1, t2⟩ := hT q (by omega)
    have t3 := tx_t120 t2
    have U : ∀ r, r = tx_hp t q → xt_H (upd HP q r) t (q + 1) := by
      intro r hr q' hq'
      by_cases c : q' = q
      · rw [c, pk_us, hr]
      · rw [pk_un c]; exact hH q' (by omega)
    refine pk_le n q (fun z => by omega) (fun _ => ⟨vp_in_nI (by omega) (by omega), by decide, ?_⟩)
    rw [nI_clamp (by omega), t1, xt_d10 (by omega)]
    refine pk_eq (t q / 10) 3 (fun z => xh_hops W hT hn hE (by omega) (by omega) ⟨vp_in_nI (by omega) (by omega), nm_e (nm_r (nI_1 q) (ih (q + 1) _ (by omega) (U _ rfl)))⟩) (fun z => ⟨vp_in_nI (by omega) (by omega), nm_e (nm_r (nI_1 q) (ih (q + 1) _ (by omega) (U _ ?_)))⟩)
    unfold tx_hp
    rw [if_neg (by unfold tx_tok at t2; omega)]
theorem xh_compile {post : SX → Prop} {t : Nat → Nat} {n : Nat} (W : tx_W t n) (hT : tx_T T t n) (hn : n ≤ 32) (h : ∀ ES' HP', xt_E ES' t 0 n → xt_H HP' t n → post (nI n, pe, lc, uc, tk, rc, pc, en, va, oc, cc, sc, dp, ed, T, ES', HP', FT, FE, FF, SZ, CV, CN, MK, RE, OU)) : wpX_compile post (nI n, pe, lc, uc, tk, rc, pc, en, va, oc, cc, sc, dp, ed, T, ES, HP, FT, FE, FF, SZ, CV, CN, MK, RE, OU) := by
  unfold wpX_compile
  exact xt_ends W hT hn (fun ES' hE => ⟨n + 1, xh_clp W hT hn hE (fun HP' hH => h ES' HP' hE hH) n 0 HP (by omega) (fun q hq => by omega)⟩)
theorem xh_flp {post : Int32 → SX → Prop} {t : Nat → Nat} {n : Nat} (hT : tx_T T t n) (hn : n ≤ 32) (hH : xt_H HP t n) (h : post (tx_fr t n) (nI n, pe, lc, uc, tk, rc, pc, en, va, oc, cc, sc, dp, ed, T, ES, HP, FT, FE, FF, SZ, CV, CN, MK, RE, OU)) :
    ∀ d q, q + d = n → wX_free_17 post (nI n) pe lc uc tk rc pc en va oc cc sc dp ed T ES HP FT FE FF SZ CV CN MK RE OU (d + 1) (tx_fr t q) (nI q) := by
  intro d
  induction d with
  | zero =>
    intro q hq
    have e : q = n := by omega
    rw [e]
    exact pk_le n n (fun _ => h) (fun z => by omega)
  | succ d ih =>
    intro q hq
    obtain ⟨t1, t2⟩ := hT q (by omega)
    have t3 := tx_t120 t2
    have I := ih (q + 1) (by omega)
    refine pk_le n q (fun z => by omega) (fun _ => ⟨vp_in_nI (by omega) (by omega), ?_⟩)
    rw [nI_clamp (by omega), hH q (by omega)]
    by_cases c : t q < 40 ∧ tx_ix (tx_G t q) (t q % 10) = none
    · have e : tx_fr t (q + 1) = tx_fr t q ||| ((1 : Int32) <<< (nI (t q % 10) &&& 31)) := by
        rw [tx_fr, if_pos c]
      have e2 : tx_hp t q = -1 := by
        unfold tx_hp
        rw [if_pos c.1, c.2]
      rw [e] at I
      rw [e2, t1, xt_r10 (by omega)]
      exact br_t rfl ⟨vp_in_nI (by omega) (by omega), by decide, nm_e (nm_r (nI_1 q) I)⟩
    · have e : tx_fr t (q + 1) = tx_fr t q := by
        rw [tx_fr, if_neg c]
      have e2 : ¬ tx_hp t q = -1 := by
        unfold tx_hp
        by_cases c1 : t q < 40
        · rw [if_pos c1]
          cases e3 : tx_ix (tx_G t q) (t q % 10) with
          | none => exact absurd ⟨c1, e3⟩ c
          | some i =>
            have b1 := tx_ixb _ _ _ e3
            have b2 := tx_grl t q q
            have b3 : i < q := Nat.lt_of_lt_of_le b1 b2
            intro z
            have z' : nI i < 0 := by
              have z2 : nI i = -1 := z
              rw [z2]; decide
            exact nI_pos (by omega) z'
        · rw [if_neg c1]; decide
      rw [e] at I
      exact br_f e2 (nm_r (nI_1 q) I)
theorem xh_free {post : Int32 → SX → Prop} {t : Nat → Nat} {n : Nat} (B : tx_B t n) (hT : tx_T T t n) (hn : n ≤ 32) (h1 : tx_W t n → ∀ ES' HP', post (tx_fr t n) (nI n, pe, lc, uc, tk, rc, pc, en, va, oc, cc, sc, dp, ed, T, ES', HP', FT, FE, FF, SZ, CV, CN, MK, RE, OU)) (h0 : ¬ tx_W t n → post (-1) (nI n, pe, lc, uc, tk, rc, pc, en, va, oc, cc, sc, dp, ed, T, ES, HP, FT, FE, FF, SZ, CV, CN, MK, RE, OU)) : wpX_free post (nI n, pe, lc, uc, tk, rc, pc, en, va, oc, cc, sc, dp, ed, T, ES, HP, FT, FE, FF, SZ, CV, CN, MK, RE, OU) := by
  unfold wpX_free
  refine xt_complete B hT hn (fun W => br_f (by decide) (xh_compile W hT hn (fun ES' HP' hE hH => ⟨n + 1, ?_⟩))) (fun W => br_t rfl (h0 W))
  exact xh_flp hT hn hH (h1 W ES' HP') n 0 (by omega)
end
section
/-! the reference's small methods: node, push, pop, bind, find -/
variable {sz st so rs sh ca sf mo fr sp tp de bo pc sc ha vk va : Int32} {T PA PL SE AR KI VA OU TA NA NK NV NO : Nat → Int32}
theorem yw_node {post : Int32 → SY → Prop} {ys zl ss : List Nat} {fn : Nat} {p0 p1 : Int32} (q : yn_Q ys zl ss fn) (hL : yn_L OU ss) (h200 : fn ≤ 200) (hz : ss = [] → fn < 200)
    (h : ∀ x ss' fn', yn_Q (x :: ys) zl ss' fn' → yn_L OU ss' → fn' ≤ 200 → x < 200 → post (nI x) (sz, st, so, rs, sh, ca, sf, mo, nI fn', nI (yn_hd ss'), tp, de, bo, pc, sc, ha, vk, va, T, PA, upd PL x p0, upd SE x 0, upd AR x p1, KI, VA, OU, TA, NA, NK, NV, NO)) : wpY_node post (sz, st, so, rs, sh, ca, sf, mo, nI fn, nI (yn_hd ss), tp, de, bo, pc, sc, ha, vk, va, T, PA, PL, SE, AR, KI, VA, OU, TA, NA, NK, NV, NO) p0 p1 := by
  rcases ss with _ | ⟨x, ss⟩
  · have q' := yn_Q2 q
    have hf := hz rfl
    have H := h fn [] (fn + 1) q' True.intro (by omega) hf
    refine br_t nI_0 (nm_r (nI_1 fn) ⟨vp_in_nI hf (by decide), nm_r (e' := upd PL fn p0) (by rw [nI_clamp (by omega)]) ⟨vp_in_nI hf (by decide), nm_r (e' := upd SE fn 0) (by rw [nI_clamp (by omega)]; rfl) ⟨vp_in_nI hf (by decide), nm_r (e' := upd AR fn p1) (by rw [nI_clamp (by omega)]) H⟩⟩⟩)
  · have q' := yn_Q1 q
    have n := yn_Qn q'
    have hf : x < 200 := by omega
    have H := h x ss fn q' hL.2 h200 hf
    have e : yn_hd (x :: ss) = x := rfl
    rw [e]
    refine br_f (nI_ne0 (by omega) (by omega)) ⟨vp_in_nI hf (by decide), nm_r (e' := nI (yn_hd ss)) (by rw [nI_clamp (by omega)]; exact hL.1) ⟨vp_in_nI hf (by decide), nm_r (e' := upd PL x p0) (by rw [nI_clamp (by omega)]) ⟨vp_in_nI hf (by decide), nm_r (e' := upd SE x 0) (by rw [nI_clamp (by omega)]; rfl) ⟨vp_in_nI hf (by decide), nm_r (e' := upd AR x p1) (by rw [nI_clamp (by omega)]) H⟩⟩⟩⟩
/-- the lengths that bound the pool -/
def yr_B (sg : List (List pm_F)) : Prop := sg.length ≤ 8 ∧ ∀ z, z ∈ sg → z.length ≤ 15
theorem yr_Bf {ys zl ss : List Nat} {fn : Nat} (q : yn_Q ys zl ss fn) (h1 : ys.length ≤ 16) (h2 : zl.length ≤ 120) : ss = [] → fn < 200 := by
  intro e
  have := q.2.2
  rw [e] at this
  simp only [List.length_nil] at this
  omega
def yr_Fr (p0 s0 : Int32) : pm_F → Prop
  | none => p0 = -1
  | some (p, s, o) => p0 = nI p ∧ s0 = nI s ∧ o = none
theorem yw_push {post : SY → Prop} {K : List pm_F} {sg : List (List pm_F)} {f : pm_F} {p0 : Int32} {m : Nat} (P : yr_P K sg fr sp tp PL SE AR KI VA OU TA) (B : yr_B sg) (hK : K.length < 16) (hm : m ≤ 16) (hf : yr_Fr p0 sc f)
    (h : ∀ fr' sp' tp' PL' SE' AR' OU', yr_P (f :: K) sg fr' sp' tp' PL' SE' AR' KI VA OU' TA → post (sz, st, so, rs, sh, ca, sf, nI (max m (K.length + 1)), fr', sp', tp', nI (K.length + 1), bo, pc, sc, ha, vk, va, T, PA, PL', SE', AR', KI, VA, OU', TA, NA, NK, NV, NO)) :
    wpY_push post (sz, st, so, rs, sh, ca, sf, nI m, fr, sp, tp, nI K.length, bo, pc, sc, ha, vk, va, T, PA, PL, SE, AR, KI, VA, OU, TA, NA, NK, NV, NO) p0 := by
  obtain ⟨ys, zs, ss, fn, h1, h2, h3, h4, h5, h6, h7, h8, h9⟩ := P
  subst h7 h8 h9
  have hl := yn_Sl _ _ h2
  refine pk_lt K.length 16 (fun _ => ?_) (fun z => by omega)
  refine yw_node h5 h3 h6 (yr_Bf h5 (by omega) (yn_Zl h4 B.2 B.1)) (fun x ss' fn' q' hL' h200 hx => ?_)
  have N := yn_Qn q'
  have H := h (nI fn') (nI (yn_hd ss')) (nI x) (upd PL x p0) (upd SE x 0) (upd AR x sc) (upd OU x (nI (yn_hd ys))) ⟨x :: ys, zs, ss', fn', ?_, ?_, ?_, ?_, q', h200, rfl, rfl, rfl⟩
  · refine ⟨vp_in_nI hx (by decide), nm_r (e' := upd OU x (nI (yn_hd ys))) (by rw [nI_clamp (by omega)]) (nm_r (nI_1 K.length) (pk_le (K.length + 1) m (fun z => ?_) (fun z => ?_)))⟩
    · rw [Nat.max_eq_left z] at H; exact H
    · rw [Nat.max_eq_right (by omega)] at H; exact H
  · exact ⟨yn_us, yn_Lc ys (fun y hy => yn_un (fun e : y = x => N.1 (e ▸ hy))) h1⟩
  · refine ⟨?_, yn_Sc ys K (fun y hy => ?_) h2⟩
    · rcases f with _ | ⟨p, s, o⟩
      · exact (yn_us).trans hf
      · obtain ⟨g1, g2, g3⟩ := hf
        rw [g3]
        exact ⟨(yn_us).trans g1, (yn_us).trans g2, yn_us⟩
    · have e : y ≠ x := fun e => N.1 (e ▸ hy)
      exact ⟨yn_un e, yn_un e, yn_un e, rfl, rfl⟩
  · exact yn_Lc ss' (fun y hy => yn_un (fun e : y = x => N.2.2.1 (e ▸ hy))) hL'
  · refine yn_Zc (fun y hy => ?_) h4
    have e : y ≠ x := fun e => N.2.1 (e ▸ hy)
    exact ⟨yn_un e, yn_un e, yn_un e, yn_un e, rfl, rfl⟩
theorem yr_top {K : List pm_F} {sg : List (List pm_F)} {f : pm_F} (P : yr_P (f :: K) sg fr sp tp PL SE AR KI VA OU TA) : ∃ x, tp = nI x ∧ 0 < x ∧ x < 200 ∧ yn_F PL SE AR KI VA x f := by
  obtain ⟨ys, zs, ss, fn, h1, h2, h3, h4, h5, h6, h7, h8, h9⟩ := P
  rcases ys with _ | ⟨x, ys⟩
  · exact absurd h2 (fun z => z)
  · have N := yn_Qn h5
    exact ⟨x, h7, N.2.2.2.1, by omega, h2.1⟩
theorem yw_pop {post : SY → Prop} {K : List pm_F} {sg : List (List pm_F)} {f : pm_F} (P : yr_P (f :: K) sg fr sp tp PL SE AR KI VA OU TA)
    (h : ∀ sp' tp' OU', yr_P K sg fr sp' tp' PL SE AR KI VA OU' TA → post (sz, st, so, rs, sh, ca, sf, mo, fr, sp', tp', nI K.length, bo, pc, sc, ha, vk, va, T, PA, PL, SE, AR, KI, VA, OU', TA, NA, NK, NV, NO)) : wpY_pop post (sz, st, so, rs, sh, ca, sf, mo, fr, sp, tp, nI (K.length + 1), bo, pc, sc, ha, vk, va, T, PA, PL, SE, AR, KI, VA, OU, TA, NA, NK, NV, NO) := by
  obtain ⟨ys, zs, ss, fn, h1, h2, h3, h4, h5, h6, h7, h8, h9⟩ := P
  rcases ys with _ | ⟨x, ys⟩
  · exact absurd h2 (fun z => z)
  subst h8 h9
  have h7' : tp = nI x := h7
  subst h7'
  have N := yn_Qn h5
  have hx : x < 200 := by omega
  refine ⟨vp_in_nI hx (by decide), nm_r (e' := nI (yn_hd ys)) (by rw [nI_clamp (by omega)]; exact h1.1) (nm_r (nI_pred K.length) ⟨vp_in_nI hx (by decide), nm_r (e' := upd OU x (nI (yn_hd ss))) (by rw [nI_clamp (by omega)]) (h _ _ _ ?_)⟩)⟩
  refine ⟨ys, zs, x :: ss, fn, ?_, h2.2, ?_, ?_, yn_Q3 h5, h6, rfl, rfl, rfl⟩
  · exact yn_Lc ys (fun y hy => yn_un (fun e : y = x => N.1 (e ▸ hy))) h1.2
  · exact ⟨yn_us, yn_Lc ss (fun y hy => yn_un (fun e : y = x => N.2.2.1 (e ▸ hy))) h3⟩
  · refine yn_Zc (fun y hy => ?_) h4
    have e : y ≠ x := fun e => N.2.1 (e ▸ hy)
    exact ⟨yn_un e, rfl, rfl, rfl, rfl, rfl⟩
theorem yw_bind {post : SY → Prop} {b : Nat} {p0 p1 p2 p3 : Int32} (hb : b < 11000) (h : post (sz, st, so, rs, sh, ca, sf, mo, fr, sp, tp, de, nI (b + 1), pc, nI (b + 1), ha, vk, va, T, PA, PL, SE, AR, KI, VA, OU, TA, upd NA (b + 1) p0, upd NK (b + 1) p2, upd NV (b + 1) p3, upd NO (b + 1) p1)) : wpY_bind post (sz, st, so, rs, sh, ca, sf, mo, fr, sp, tp, de, nI b, pc, sc, ha, vk, va, T, PA, PL, SE, AR, KI, VA, OU, TA, NA, NK, NV, NO) p0 p1 p2 p3 := by
  have e : (nI (b + 1)).toNatClampNeg = b + 1 := nI_clamp (by omega)
  have v : vp_in (nI (b + 1)) 12000 := vp_in_nI (by omega) (by decide)
  exact nm_r (nI_1 b) ⟨v, nm_r (e' := upd NA (b + 1) p0) (by rw [e]) ⟨v, nm_r (e' := upd NK (b + 1) p2) (by rw [e]) ⟨v, nm_r (e' := upd NV (b + 1) p3) (by rw [e]) ⟨v, nm_r (e' := upd NO (b + 1) p1) (by rw [e]) h⟩⟩⟩⟩
theorem yw_flp {post : SY → Prop} {nm : pm_N} {b x : Nat} (hb : b < 11000) (hx : x < 10) (hN : yn_N NA NK NV NO nm b) :
    ∀ (l : List Nat) (s : Nat), pm_Ch nm b l s → (∀ y, y ∈ l → y < 10) → (pm_look nm l x s = none → post (sz, 2, so, rs, sh, ca, sf, mo, fr, sp, tp, de, bo, pc, sc, ha, vk, va, T, PA, PL, SE, AR, KI, VA, OU, TA, NA, NK, NV, NO)) → (∀ v k a, pm_look nm l x s = some v → yn_V k a v → post (sz, st, so, rs, sh, ca, sf, mo, fr, sp, tp, de, bo, pc, sc, 1, k, a, T, PA, PL, SE, AR, KI, VA, OU, TA, NA, NK, NV, NO)) → wY_find_5 post (nI x) sz st so rs sh ca sf mo fr sp tp de bo pc sc ha vk va T PA PL SE AR KI VA OU TA NA NK NV NO (l.length + 1) (nI s) := by
  intro l
  induction l with
  | nil =>
    intro s hs _ h0 _
    have e : s = 0 := hs
    rw [e]
    exact br_t nI_0 (br_t nI_0 (h0 rfl))
  | cons y l ih =>
    intro s hs hl h0 h1
    obtain ⟨g1, g2, g3, g4⟩ := hs
    obtain ⟨n1, n2, n3⟩ := hN s g1 g2
    have hy := hl y (List.mem_cons_self ..)
    have v : vp_in (nI s) 12000 := vp_in_nI (by omega) (by decide)
    rw [pm_look] at h0 h1
    have hne : ¬ nI s = 0 := nI_ne0 g1 (by omega)
    refine br_f hne ⟨v, ?_⟩
    rw [nI_clamp (by omega), n1, g3]
    refine pk_eq y x (fun c => ?_) (fun c => ⟨v, nm_r n3 (ih _ g4 (fun z hz => hl z (List.mem_cons_of_mem _ hz)) ?_ ?_)⟩)
    · rw [if_pos c] at h1
      refine br_f hne ⟨v, v, ?_⟩
      rw [nI_clamp (by omega)]
      exact h1 _ _ _ rfl n2
    · rw [if_neg c] at h0; exact h0
    · rw [if_neg c] at h1; exact h1
end
section
/-! the reference's shift and callTaken -/
variable {sz st so rs sh ca sf mo fr sp tp de bo pc sc ha vk va : Int32} {T PA PL SE AR KI VA OU TA NA NK NV NO : Nat → Int32}
theorem ys_ne {p : Nat} (h : p < 2 ^ 31) : ¬ nI p = -1 := by
  intro z
  have z' : nI p < 0 := by rw [z]; decide
  exact nI_pos h z'
theorem ys_lp {post : SY → Prop} {x1 : Int32} {r D : Nat} {k : List Nat} (hr : PL r = -1) (hr2 : r < 200) :
    ∀ (l : List Nat) (z : List pm_F) (lst : Nat), yn_S PL SE AR KI VA l z → (∀ f, f ∈ z → ∃ p s o, f = some (p, s, o) ∧ p < 32) → yn_L OU (l ++ r :: k) → (∀ x, x ∈ l → x < 200) →
      ((nI (yn_la lst l) = 0 → wY_shift_74 post x1 (nI (yn_la lst l)) (nI r) 0 sf sz st so rs sh ca sf mo fr sp tp (nI D) bo pc sc ha vk va T PA PL SE AR KI VA OU TA NA NK NV NO) ∧ (¬ nI (yn_la lst l) = 0 → wY_shift_74 post x1 (nI (yn_la lst l)) (nI r) tp sf sz st so rs sh ca sf mo fr sp tp (nI D) bo pc sc ha vk va T PA PL SE AR KI VA OU TA NA NK NV NO)) →
      wY_shift_22 post x1 sz st so rs sh ca sf mo fr sp tp bo pc sc ha vk va T PA PL SE AR KI VA OU TA NA NK NV NO (l.length + 1) (nI lst) (nI (yn_hd (l ++ r :: k))) (nI (D + l.length)) := by
  intro l
  induction l with
  | nil =>
    intro z lst _ _ _ _ h
    have E : PL (nI (yn_hd ([] ++ r :: k))).toNatClampNeg = -1 := by
      show PL (nI r).toNatClampNeg = -1
      rw [nI_clamp (by omega)]
      exact hr
    exact ⟨vp_in_nI hr2 (by decide), br_t E h⟩
  | cons x l ih =>
    intro z lst hS hz hL hb h
    rcases z with _ | ⟨f, z⟩
    · exact absurd hS (fun w => w)
    obtain ⟨p, s, o, e, hp⟩ := hz f (List.mem_cons_self ..)
    subst e
    have hx := hb x (List.mem_cons_self ..)
    have e1 : PL x = nI p := hS.1.1
    have E : ¬ PL (nI (yn_hd (x :: l ++ r :: k))).toNatClampNeg = -1 := by
      show ¬ PL (nI x).toNatClampNeg = -1
      rw [nI_clamp (by omega), e1]
      exact ys_ne (by omega)
    refine ⟨vp_in_nI hx (by decide), br_f E ⟨vp_in_nI hx (by decide), nm_r (e' := nI (yn_hd (l ++ r :: k))) ?_ (nm_r (e' := nI (D + l.length)) ?_ (ih z x hS.2 (fun g hg => hz g (List.mem_cons_of_mem _ hg)) hL.2 (fun y hy => hb y (List.mem_cons_of_mem _ hy)) h))⟩⟩
    · show OU (nI x).toNatClampNeg = _
      rw [nI_clamp (by omega)]; exact hL.1
    · rw [List.length_cons, ← Nat.add_assoc]; exact nI_pred _
theorem ys_fin {post : SY → Prop} {b p s x c : Nat} {x2 x3 z0 : Int32} (hb : b < 11000) (hc : c < 8) (hs : sc = nI s) (hp : pc = nI p) (hsf : sf = nI c) (hbo : bo = nI b)
    (h : ∀ OU', ((x2 = 0 ∧ OU' = OU) ∨ (¬ x2 = 0 ∧ vp_in x2 200 ∧ OU' = upd OU x2.toNatClampNeg 0)) → post (sz, st, so, rs, sh, ca, nI (c + 1), mo, fr, sp, x3, de, nI (b + 1), nI (p + 1), nI (b + 1), 0, vk, va, T, PA, PL, SE, AR, KI, VA, OU', upd TA c z0, upd NA (b + 1) (nI x), upd NK (b + 1) 3, upd NV (b + 1) (nI c), upd NO (b + 1) (nI s)))
    (hx : ¬ x2 = 0 → vp_in x2 200) : wY_shift_74 post (nI x) x2 x3 z0 sf sz st so rs sh ca sf mo fr sp tp de bo pc sc ha vk va T PA PL SE AR KI VA OU TA NA NK NV NO := by
  subst hs hp hsf hbo
  have F : ∀ OU', post (sz, st, so, rs, sh, ca, nI (c + 1), mo, fr, sp, x3, de, nI (b + 1), nI (p + 1), nI (b + 1), 0, vk, va, T, PA, PL, SE, AR, KI, VA, OU', upd TA c z0, upd NA (b + 1) (nI x), upd NK (b + 1) 3, upd NV (b + 1) (nI c), upd NO (b + 1) (nI s)) → wY_shift_86 post (nI x) x3 sz st so rs sh ca (nI c) mo fr sp tp de (nI b) (nI p) (nI s) ha vk va T PA PL SE AR KI VA OU' (upd TA c z0) NA NK NV NO := by
    intro OU' H
    unfold wY_shift_86
    refine yw_bind hb (nm_r (nI_1 c) ?_)
    show post _
    rw [nI_1]
    exact H
  refine ⟨vp_in_nI hc (by decide), nm_r (e' := upd TA c z0) (by rw [nI_clamp (by omega)]) (br_c (fun z => F OU (h OU (Or.inl ⟨z, rfl⟩))) (fun z => ⟨hx z, nm_e (F _ (h _ (Or.inr ⟨z, hx z, rfl⟩)))⟩))⟩
theorem yn_Qd {yz ys zl sp : List Nat} {fr x : Nat} (q : yn_Q (yz ++ ys) zl sp fr) (hx : x ∈ yz) : x ∉ ys ∧ x ∉ zl ∧ x ∉ sp ∧ 0 < x ∧ x < fr := by
  have h := q.1
  rw [List.append_assoc] at h
  have d := (List.nodup_append.mp h).2.2
  refine ⟨fun z => d x hx x (List.mem_append_left _ z) rfl, fun z => d x hx x (List.mem_append_right _ (List.mem_append_left _ z)) rfl, fun z => d x hx x (List.mem_append_right _ (List.mem_append_right _ z)) rfl, ?_⟩
  exact q.2.1 x (List.mem_append_left _ (List.mem_append_left _ hx))
theorem yw_shift {post : SY → Prop} {z K1 : List pm_F} {sg : List (List pm_F)} {b p s x : Nat} (P : yr_P (z ++ none :: K1) sg fr sp tp PL SE AR KI VA OU TA) (hz : ∀ f, f ∈ z → ∃ p s o, f = some (p, s, o) ∧ p < 32) (hc : sg.length < 8) (hb : b < 11000)
    (h : ∀ tp' OU' TA', yr_P (none :: K1) (sg ++ [z]) fr sp tp' PL SE AR KI VA OU' TA' → post (sz, st, so, rs, sh, ca, nI (sg.length + 1), mo, fr, sp, tp', nI (K1.length + 1), nI (b + 1), nI (p + 1), nI (b + 1), 0, vk, va, T, PA, PL, SE, AR, KI, VA, OU', TA', upd NA (b + 1) (nI x), upd NK (b + 1) 3, upd NV (b + 1) (nI sg.length), upd NO (b + 1) (nI s))) :
    wpY_shift post (sz, st, so, rs, sh, ca, nI sg.length, mo, fr, sp, tp, nI (z ++ none :: K1).length, nI b, nI p, nI s, ha, vk, va, T, PA, PL, SE, AR, KI, VA, OU, TA, NA, NK, NV, NO) (nI x) := by
  obtain ⟨ys, zs, ss, fn, h1, h2, h3, h4, h5, h6, h7, h8, h9⟩ := P
  obtain ⟨yz, l2, e, S1, S2⟩ := yn_Sx z ys _ h2
  rcases l2 with _ | ⟨r, k⟩
  · exact absurd S2 (fun w => w)
  subst e h7 h8 h9
  have hl := yn_Sl _ _ S1
  have hr : PL r = -1 := S2.1
  have hb2 : ∀ y, y ∈ yz ++ r :: k → 0 < y ∧ y < 200 := by
    intro y hy
    have := h5.2.1 y (List.mem_append_left _ hy)
    omega
  have hr2 := hb2 r (List.mem_append_right _ (List.mem_cons_self ..))
  have q4 := yn_Q4 h5
  have ef : (zs ++ [yz]).flatten = zs.flatten ++ yz := by simp
  rw [← ef] at q4
  refine pk_eq sg.length 8 (fun w => by omega) (fun _ => ⟨yz.length + 1, ?_⟩)
  have ed : (z ++ none :: K1).length = (K1.length + 1) + yz.length := by rw [List.length_append, List.length_cons]; omega
  rw [ed]
  have e0 : (0 : Int32) = nI 0 := nI_0.symm
  rw [e0]
  refine ys_lp hr hr2.2 yz z 0 S1 hz h1 (fun y hy => (hb2 y (List.mem_append_left _ hy)).2) ?_
  rcases yz with _ | ⟨y, yl⟩
  · refine br_t nI_0 (ys_fin hb hc rfl rfl rfl rfl (fun OU' ho => h _ _ _ ?_) (fun w => absurd nI_0 w))
    rcases ho with ⟨_, ho⟩ | ⟨ho, _⟩
    · subst ho
      exact ⟨r :: k, zs ++ [[]], ss, fn, h1, S2, h3, yn_Zadd (l := []) h4 True.intro S1, q4, h6, rfl, rfl, rfl⟩
    · exact absurd nI_0 ho
  · have hm := yn_lam yl y
    have hla : yn_la 0 (y :: yl) = yn_la y yl := rfl
    rw [hla]
    have D := yn_Qd h5 hm
    have hlt := hb2 _ (List.mem_append_left (r :: k) hm)
    have hne : ¬ nI (yn_la y yl) = 0 := nI_ne0 hlt.1 (by omega)
    have hyn : (y :: yl).Nodup := (List.nodup_append.mp (yn_Qy h5)).1
    have L1 := yn_Lcut (r :: k) yl y hyn h1
    have L2 : yn_L (upd OU (yn_la y yl) 0) (r :: k) := yn_Lc _ (fun w hw => yn_un (fun e : w = yn_la y yl => D.1 (e ▸ hw))) (yn_La (y :: yl) _ h1)
    have L3 : yn_L (upd OU (yn_la y yl) 0) ss := yn_Lc _ (fun w hw => yn_un (fun e : w = yn_la y yl => D.2.2.1 (e ▸ hw))) h3
    have Z3 : yn_Z (upd OU (yn_la y yl) 0) PL SE AR KI VA TA zs sg := yn_Zc (fun w hw => ⟨yn_un (fun e : w = yn_la y yl => D.2.1 (e ▸ hw)), rfl, rfl, rfl, rfl, rfl⟩) h4
    refine br_f hne (ys_fin hb hc rfl rfl rfl rfl (fun OU' ho => h _ _ _ ?_) (fun w => vp_in_nI hlt.2 (by decide)))
    rcases ho with ⟨ho, _⟩ | ⟨_, _, ho⟩
    · exact absurd ho hne
    · rw [nI_clamp (by omega)] at ho
      subst ho
      exact ⟨r :: k, zs ++ [y :: yl], ss, fn, L2, S2, L3, yn_Zadd Z3 L1 S1, q4, h6, rfl, rfl, rfl⟩
end
section
/-! the reference's callTaken -/
variable {sz st so rs sh ca sf mo fr sp tp de bo pc sc ha vk va : Int32} {T PA PL SE AR KI VA OU TA NA NK NV NO : Nat → Int32}
theorem yc_cnt {post : SY → Prop} {x1 : Int32} :
    ∀ (l : List Nat) (a : Nat), yn_L OU l → (∀ x, x ∈ l → 0 < x ∧ x < 200) →
      (((((de + 1) + nI (a + l.length)) ≤ 16 → (wpY_push (fun u => match u with | (sz, st, so, rs, sh, ca, sf, mo, fr, sp, tp, de, bo, pc, sc, ha, vk, va, T, PA, PL, SE, AR, KI, VA, OU, TA, NA, NK, NV, NO) => (vp_in x1 8 ∧ (∀ x5 : Int32, x5 = TA x1.toNatClampNeg → (∃ n66 : Nat, wY_callTaken_66 post (nI (a + l.length)) tp n66 0 x5 sz st so rs sh ca sf mo fr sp tp de bo pc sc ha vk va T PA PL SE AR KI VA OU TA NA NK NV NO)))) (sz, st, so, rs, sh, ca, sf, mo, fr, sp, tp, de, bo, pc, sc, ha, vk, va, T, PA, PL, SE, AR, KI, VA, OU, TA, NA, NK, NV, NO) (-1))) ∧ (¬ ((de + 1) + nI (a + l.length)) ≤ 16 → (post (sz, 4, so, rs, sh, ca, sf, mo, fr, sp, tp, de, bo, pc, sc, ha, vk, va, T, PA, PL, SE, AR, KI, VA, OU, TA, NA, NK, NV, NO))))) →
      wY_callTaken_9 post x1 sz st so rs sh ca sf mo fr sp tp de bo pc sc ha vk va T PA PL SE AR KI VA OU TA NA NK NV NO (l.length + 1) (nI a) (nI (yn_hd l)) := by
  intro l
  induction l with
  | nil => intro a _ _ h; exact br_t nI_0 h
  | cons x l ih =>
    intro a hL hb h
    have hx := hb x (List.mem_cons_self ..)
    have E : ¬ nI (yn_hd (x :: l)) = 0 := nI_ne0 hx.1 (by show x < _; omega)
    refine br_f E (nm_r (nI_1 a) ⟨vp_in_nI hx.2 (by decide), nm_r (e' := nI (yn_hd l)) ?_ (ih (a + 1) hL.2 (fun y hy => hb y (List.mem_cons_of_mem _ hy)) ?_)⟩)
    · show OU (nI x).toNatClampNeg = _
      rw [nI_clamp (by omega)]; exact hL.1
    · rw [List.length_cons, show a + (l.length + 1) = a + 1 + l.length by omega] at h
      exact h
theorem yc_bo {se : Int32} (h : se = 0 ∨ se = 1) : vp_nar .boolean se = se := by
  rcases h with h | h <;> rw [h] <;> rfl
/-- one node is copied -/
theorem yc_one {ys1 cs ss : List Nat} {zs : List (List Nat)} {sg : List (List pm_F)} {K1 zc : List pm_F} {fn x y : Nat} {f : pm_F} {l : List Nat} {z : List pm_F}
    (q : yn_Q (y :: (cs ++ ys1)) zs.flatten ss fn) (hL : yn_L OU (cs ++ ys1)) (hS : yn_S PL SE AR KI VA (cs ++ ys1) (zc ++ K1)) (hss : yn_L OU ss) (hZ : yn_Z OU PL SE AR KI VA TA zs sg)
    (hx : ∀ w, w ∈ x :: l → w ∈ zs.flatten) (hl : yn_L OU (x :: l)) (hf : yn_S PL SE AR KI VA (x :: l) (f :: z)) (hfs : f.isSome = true) (hlen : cs.length = zc.length) :
    ∀ OU', ((cs = [] ∧ OU' = upd OU y (nI (yn_hd ys1))) ∨ (cs ≠ [] ∧ OU' = upd (upd OU y (nI (yn_hd ys1))) (yn_la 0 cs) (nI y))) →
      yn_Q ((cs ++ [y]) ++ ys1) zs.flatten ss fn ∧ yn_L OU' ((cs ++ [y]) ++ ys1) ∧ yn_S (upd PL y (PL x)) (upd SE y (SE x)) (upd AR y (AR x)) (upd KI y (KI x)) (upd VA y (VA x)) ((cs ++ [y]) ++ ys1) ((zc ++ [f]) ++ K1) ∧ yn_L OU' ss ∧
      yn_Z OU' (upd PL y (PL x)) (upd SE y (SE x)) (upd AR y (AR x)) (upd KI y (KI x)) (upd VA y (VA x)) TA zs sg ∧ yn_L OU' l ∧ yn_S (upd PL y (PL x)) (upd SE y (SE x)) (upd AR y (AR x)) (upd KI y (KI x)) (upd VA y (VA x)) l z := by
  intro OU' ho
  have N := yn_Qn q
  have q5 := yn_Q5 q
  have hn : (cs ++ ys1).Nodup := (List.nodup_cons.mp (yn_Qy q)).2
  have ea : (cs ++ [y]) ++ ys1 = cs ++ y :: ys1 := by rw [List.append_assoc]; rfl
  have ek : (zc ++ [f]) ++ K1 = zc ++ f :: K1 := by rw [List.append_assoc]; rfl
  rw [ea, ek]
  have hla : cs ≠ [] → yn_la 0 cs ∈ cs := by
    intro h
    rcases cs with _ | ⟨c, cs⟩
    · exact absurd rfl h
    · exact yn_lam cs c
  have hout : ∀ w, w ∉ cs → w ≠ y → OU' w = OU w := by
    intro w hw hwy
    rcases ho with ⟨_, e⟩ | ⟨hc, e⟩
    · rw [e, yn_un hwy]
    · rw [e, yn_un (fun e2 : w = yn_la 0 cs => hw (e2 ▸ hla hc)), yn_un hwy]
  have hzl : ∀ w, w ∈ zs.flatten → w ∉ cs ∧ w ≠ y := by
    intro w hw
    refine ⟨fun hc => ?_, fun e => N.2.1 (e ▸ hw)⟩
    have h2 : w ∈ y :: (cs ++ ys1) := List.mem_cons_of_mem _ (List.mem_append_left _ hc)
    exact (List.nodup_append.mp q.1).2.2 w h2 w (List.mem_append_left _ hw) rfl
  have hsl : ∀ w, w ∈ ss → w ∉ cs ∧ w ≠ y := by
    intro w hw
    refine ⟨fun hc => ?_, fun e => N.2.2.1 (e ▸ hw)⟩
    have h2 : w ∈ y :: (cs ++ ys1) := List.mem_cons_of_mem _ (List.mem_append_left _ hc)
    exact (List.nodup_append.mp q.1).2.2 w h2 w (List.mem_append_right _ hw) rfl
  have hco : ∀ w, w ≠ y → upd PL y (PL x) w = PL w ∧ upd SE y (SE x) w = SE w ∧ upd AR y (AR x) w = AR w ∧ upd KI y (KI x) w = KI w ∧ upd VA y (VA x) w = VA w :=
    fun w hw => ⟨yn_un hw, yn_un hw, yn_un hw, yn_un hw, yn_un hw⟩
  have hys : ∀ w, w ∈ cs ++ ys1 → w ≠ y := fun w hw e => N.1 (e ▸ hw)
  have hS1 : ∃ l1 l2, cs ++ ys1 = l1 ++ l2 ∧ yn_S PL SE AR KI VA l1 zc ∧ yn_S PL SE AR KI VA l2 K1 := yn_Sx zc _ K1 hS
  obtain ⟨l1, l2, e1, S1, S2⟩ := hS1
  have e2 := yn_Sl _ _ S1
  obtain ⟨e3, e4⟩ := List.append_inj e1 (by omega)
  rw [← e3] at S1
  rw [← e4] at S2
  have hfy : yn_F (upd PL y (PL x)) (upd SE y (SE x)) (upd AR y (AR x)) (upd KI y (KI x)) (upd VA y (VA x)) y f := by
    have h := hf.1
    rcases f with _ | ⟨p, s, o⟩
    · exact absurd hfs (by decide)
    · obtain ⟨f1, f2, f3⟩ := h
      refine ⟨(yn_us).trans f1, (yn_us).trans f2, ?_⟩
      rcases o with _ | v
      · exact (yn_us).trans f3
      · refine ⟨(yn_us).trans f3.1, ?_⟩
        rw [yn_us, yn_us]; exact f3.2
  refine ⟨q5, ?_, ?_, ?_, ?_, ?_, ?_⟩
  · rcases ho with ⟨hc, e⟩ | ⟨hc, e⟩
    · rw [hc] at hL ⊢
      rw [e]
      exact ⟨yn_us, yn_Lc ys1 (fun w hw => yn_un (hys w (List.mem_append_right _ hw))) hL⟩
    · rw [e]
      rcases cs with _ | ⟨c, cs⟩
      · exact absurd rfl hc
      · exact yn_Lins ys1 cs c N.1 hn hL
  · refine yn_Sa cs zc (y :: ys1) (f :: K1) (yn_Sc cs zc (fun w hw => hco w (hys w (List.mem_append_left _ hw))) S1) ⟨hfy, yn_Sc ys1 K1 (fun w hw => hco w (hys w (List.mem_append_right _ hw))) S2⟩
  · exact yn_Lc ss (fun w hw => hout w (hsl w hw).1 (hsl w hw).2) hss
  · exact yn_Zc (fun w hw => ⟨hout w (hzl w hw).1 (hzl w hw).2, hco w (hzl w hw).2⟩) hZ
  · exact yn_Lc l (fun w hw => hout w (hzl w (hx w (List.mem_cons_of_mem _ hw))).1 (hzl w (hx w (List.mem_cons_of_mem _ hw))).2) hl.2
  · exact yn_Sc l z (fun w hw => hco w (hzl w (hx w (List.mem_cons_of_mem _ hw))).2) hf.2
theorem yc_lp {post : SY → Prop} {ys1 : List Nat} {zs : List (List Nat)} {sg : List (List pm_F)} {K1 zt : List pm_F} {d m cnt : Nat} (hz : zs.flatten.length ≤ 120) (hd : d + cnt ≤ 16) (hm : m ≤ 16)
    (h : ∀ fr sp tp PL SE AR KI VA OU, yr_P (zt ++ K1) sg fr sp tp PL SE AR KI VA OU TA → post (sz, st, so, rs, sh, ca, sf, nI (max m (d + cnt)), fr, sp, tp, nI (d + cnt), bo, pc, sc, ha, vk, va, T, PA, PL, SE, AR, KI, VA, OU, TA, NA, NK, NV, NO)) :
    ∀ (l : List Nat) (z : List pm_F) (cs ss : List Nat) (zc : List pm_F) (fn : Nat) (PL SE AR KI VA OU : Nat → Int32),
      zt = zc ++ z → yn_Q (cs ++ ys1) zs.flatten ss fn → fn ≤ 200 → yn_L OU (cs ++ ys1) → yn_S PL SE AR KI VA (cs ++ ys1) (zc ++ K1) → yn_L OU ss → yn_Z OU PL SE AR KI VA TA zs sg → (∀ w, w ∈ l → w ∈ zs.flatten) → yn_L OU l → yn_S PL SE AR KI VA l z → (∀ f, f ∈ z → f.isSome = true) → cs.length = zc.length → zc.length + z.length + ys1.length ≤ 16 →
      wY_callTaken_66 post (nI cnt) (nI (yn_hd ys1)) (l.length + 1) (nI (yn_la 0 cs)) (nI (yn_hd l)) sz st so rs sh ca sf (nI m) (nI fn) (nI (yn_hd ss)) (nI (yn_hd (cs ++ ys1))) (nI d) bo pc sc ha vk va T PA PL SE AR KI VA OU TA NA NK NV NO := by
  intro l
  induction l with
  | nil =>
    intro z cs ss zc fn PL SE AR KI VA OU ht q hfn hL hS hss hZ hx hl hf hfs hlen hlt
    rcases z with _ | ⟨f, z⟩
    · rw [List.append_nil] at ht
      rw [← ht] at hS
      have H := h _ _ _ PL SE AR KI VA OU ⟨cs ++ ys1, zs, ss, fn, hL, hS, hss, hZ, q, hfn, rfl, rfl, rfl⟩
      refine br_t nI_0 (nm_r (nI_add d cnt) (pk_le (d + cnt) m (fun w => ?_) (fun w => ?_)))
      · rw [Nat.max_eq_left w] at H; exact H
      · rw [Nat.max_eq_right (by omega)] at H; exact H
    · exact absurd hf (fun w => w)
  | cons x l ih =>
    intro z cs ss zc fn PL SE AR KI VA OU ht q hfn hL hS hss hZ hx hl hf hfs hlen hlt
    rcases z with _ | ⟨f, z⟩
    · exact absurd hf (fun w => w)
    have hxz := hx x (List.mem_cons_self ..)
    have hxb := q.2.1 x (List.mem_append_right _ (List.mem_append_left _ hxz))
    have vx : vp_in (nI x) 200 := vp_in_nI (by omega) (by decide)
    have cx : (nI x).toNatClampNeg = x := nI_clamp (by omega)
    have E : ¬ nI (yn_hd (x :: l)) = 0 := nI_ne0 hxb.1 (by show x < _; omega)
    rw [List.length_cons] at hlt
    have hcl : (cs ++ ys1).length ≤ 16 := by rw [List.length_append]; omega
    refine br_f E ⟨vx, vx, ?_⟩
    refine yw_node q hss hfn (yr_Bf q hcl hz) (fun y ss' fn' q' hss' hfn' hy => ?_)
    have N := yn_Qn q'
    have vy : vp_in (nI y) 200 := vp_in_nI hy (by decide)
    have cy : (nI y).toNatClampNeg = y := nI_clamp (by omega)
    have hxy : x ≠ y := fun e => N.2.1 (e ▸ hxz)
    have hse : SE x = 0 ∨ SE x = 1 := by
      have h1 := hf.1
      have h2 := hfs f (List.mem_cons_self ..)
      rcases f with _ | ⟨p, s, o⟩
      · exact absurd h2 (by decide)
      · rcases o with _ | v
        · exact Or.inl h1.2.2
        · exact Or.inr h1.2.2.1
    have O := yc_one (TA := TA) q' hL hS hss' hZ hx hl hf (hfs f (List.mem_cons_self ..)) hlen
    have ese : upd (upd SE y 0) y (vp_nar .boolean (upd SE y 0 x)) = upd SE y (SE x) := by
      rw [yn_un hxy, yc_bo hse]
      funext j
      unfold upd
      by_cases c : j = y
      · rw [if_pos c, if_pos c]
      · rw [if_neg c, if_neg c, if_neg c]
    have hap : (cs ++ [y]).length = (zc ++ [f]).length := by rw [List.length_append, List.length_append, hlen]; rfl
    have hap2 : (zc ++ [f]).length = zc.length + 1 := by rw [List.length_append]; rfl
    show vp_in (nI x) 200 ∧ _
    refine ⟨vx, vy, nm_r (e' := upd SE y (SE x)) ?_ ⟨vx, vy, nm_r (e' := upd KI y (KI x)) ?_ ⟨vx, vy, nm_r (e' := upd VA y (VA x)) ?_ ⟨vy, nm_r (e' := upd OU y (nI (yn_hd ys1))) ?_ ?_⟩⟩⟩⟩
    · rw [show (nI (yn_hd (x :: l))).toNatClampNeg = x from cx, cy]; exact ese
    · rw [show (nI (yn_hd (x :: l))).toNatClampNeg = x from cx, cy]
    · rw [show (nI (yn_hd (x :: l))).toNatClampNeg = x from cx, cy]
    · rw [cy]
    rcases cs with _ | ⟨c, cs⟩
    · obtain ⟨o1, o2, o3, o4, o5, o6, o7⟩ := O _ (Or.inl ⟨rfl, rfl⟩)
      refine br_t nI_0 ⟨vx, nm_r (e' := nI (yn_hd l)) ?_ ?_⟩
      · rw [show (nI (yn_hd (x :: l))).toNatClampNeg = x from cx, yn_un hxy]; exact hl.1
      · have I := ih z ([] ++ [y]) ss' (zc ++ [f]) fn' (upd PL y (PL x)) (upd SE y (SE x)) (upd AR y (AR x)) (upd KI y (KI x)) (upd VA y (VA x)) _ (by rw [ht, List.append_assoc]; rfl) o1 hfn' o2 o3 o4 o5 (fun w hw => hx w (List.mem_cons_of_mem _ hw)) o6 o7 (fun g hg => hfs g (List.mem_cons_of_mem _ hg)) hap (by omega)
        rw [show (nI (yn_hd (x :: l))).toNatClampNeg = x from cx]
        exact I
    · obtain ⟨o1, o2, o3, o4, o5, o6, o7⟩ := O _ (Or.inr ⟨by simp, rfl⟩)
      have hm := yn_lam cs c
      have hlb := q.2.1 (yn_la c cs) (List.mem_append_left _ (List.mem_append_left _ hm))
      have cl : (nI (yn_la c cs)).toNatClampNeg = yn_la c cs := nI_clamp (by omega)
      have hxl : x ≠ yn_la c cs := fun e => by
        have d2 := (List.nodup_append.mp q.1).2.2
        exact d2 x (by rw [e]; exact List.mem_append_left _ hm) x (List.mem_append_left _ hxz) rfl
      refine br_f (nI_ne0 hlb.1 (by show yn_la c cs < _; omega)) ⟨vp_in_nI (by show yn_la c cs < _; omega) (by decide), nm_r (e' := upd (upd OU y (nI (yn_hd ys1))) (yn_la c cs) (nI y)) ?_ ⟨vx, nm_r (e' := nI (yn_hd l)) ?_ ?_⟩⟩
      · show upd (upd OU y (nI (yn_hd ys1))) (nI (yn_la c cs)).toNatClampNeg (nI y) = _
        rw [cl]
      · rw [show (nI (yn_hd (x :: l))).toNatClampNeg = x from cx, yn_un hxl, yn_un hxy]; exact hl.1
      · have I := ih z ((c :: cs) ++ [y]) ss' (zc ++ [f]) fn' (upd PL y (PL x)) (upd SE y (SE x)) (upd AR y (AR x)) (upd KI y (KI x)) (upd VA y (VA x)) _ (by rw [ht, List.append_assoc]; rfl) o1 hfn' o2 o3 o4 o5 (fun w hw => hx w (List.mem_cons_of_mem _ hw)) o6 o7 (fun g hg => hfs g (List.mem_cons_of_mem _ hg)) hap (by omega)
        rw [yn_laa] at I
        rw [show (nI (yn_hd (x :: l))).toNatClampNeg = x from cx]
        exact I
end
section
/-! the reference's step: callTaken, enter -/
variable {sz st so rs sh ca sf mo fr sp tp de bo pc sc ha vk va : Int32} {T PA PL SE AR KI VA OU TA NA NK NV NO : Nat → Int32}
theorem yw_taken {post : SY → Prop} {K : List pm_F} {sg : List (List pm_F)} {j m : Nat} (P : yr_P K sg fr sp tp PL SE AR KI VA OU TA) (B : yr_B sg) (hj : j < sg.length) (hsm : ∀ f, f ∈ sg.getD j [] → f.isSome = true) (hm : m ≤ 16) (hK : K.length ≤ 16)
    (h1 : K.length + 1 + (sg.getD j []).length ≤ 16 → ∀ fr sp tp PL SE AR KI VA OU, yr_P (sg.getD j [] ++ none :: K) sg fr sp tp PL SE AR KI VA OU TA → post (sz, st, so, rs, sh, ca, sf, nI (max m (sg.getD j [] ++ none :: K).length), fr, sp, tp, nI (sg.getD j [] ++ none :: K).length, bo, pc, sc, ha, vk, va, T, PA, PL, SE, AR, KI, VA, OU, TA, NA, NK, NV, NO))
    (h0 : 16 < K.length + 1 + (sg.getD j []).length → post (sz, 4, so, rs, sh, ca, sf, nI m, fr, sp, tp, nI K.length, bo, pc, sc, ha, vk, va, T, PA, PL, SE, AR, KI, VA, OU, TA, NA, NK, NV, NO)) : wpY_callTaken post (sz, st, so, rs, sh, ca, sf, nI m, fr, sp, tp, nI K.length, bo, pc, sc, ha, vk, va, T, PA, PL, SE, AR, KI, VA, OU, TA, NA, NK, NV, NO) (nI j) := by
  have hj8 : j < 8 := by have := B.1; omega
  have hlen : (sg.getD j [] ++ none :: K).length = (K.length + 1) + (sg.getD j []).length := by rw [List.length_append, List.length_cons]; omega
  have h15 := B.2 _ (yn_gm (zs := sg) hj)
  rw [hlen] at h1
  have P' := P
  obtain ⟨ys, zs, ss, fn, p1, p2, p3, p4, p5, p6, p7, p8, p9⟩ := P
  have hjz : j < zs.length := by have := p4.1; omega
  obtain ⟨z1, z2, z3⟩ := p4.2 j hjz
  have hl := yn_Sl _ _ z3
  have hb : ∀ x, x ∈ zs.getD j [] → 0 < x ∧ x < 200 := by
    intro x hx
    have := p5.2.1 x (List.mem_append_right _ (List.mem_append_left _ (yn_gf hjz hx)))
    omega
  refine ⟨vp_in_nI hj8 (by decide), nm_r (e' := nI (yn_hd (zs.getD j []))) (by rw [nI_clamp (by omega)]; exact z1) ⟨_, yc_cnt (zs.getD j []) 0 z2 hb ?_⟩⟩
  rw [Nat.zero_add, hl]
  refine pk_le (K.length + 1 + (sg.getD j []).length) 16 (fun c => ?_) (fun c => h0 c) (by rw [nI_1, nI_add])
  refine yw_push (f := none) P' B (by omega) hm rfl (fun fr' sp' tp' PL' SE' AR' OU' Q => ?_)
  obtain ⟨ys', zs', ss', fn', q1, q2, q3, q4, q5, q6, q7, q8, q9⟩ := Q
  have hjz' : j < zs'.length := by have := q4.1; omega
  obtain ⟨w1, w2, w3⟩ := q4.2 j hjz'
  subst q7 q8 q9
  refine ⟨vp_in_nI hj8 (by decide), nm_r (e' := nI (yn_hd (zs'.getD j []))) (by rw [nI_clamp (by omega)]; exact w1) ⟨(zs'.getD j []).length + 1, ?_⟩⟩
  have hys := yn_Sl _ _ q2
  rw [List.length_cons] at hys
  have emx : max (max m (K.length + 1)) (K.length + 1 + (sg.getD j []).length) = max m (K.length + 1 + (sg.getD j []).length) := by omega
  refine yc_lp (zt := sg.getD j []) (K1 := none :: K) (sg := sg) (zs := zs') (ys1 := ys') (d := K.length + 1) (m := max m (K.length + 1)) (cnt := (sg.getD j []).length) (yn_Zl q4 B.2 B.1) c (by omega) ?_ (zs'.getD j []) (sg.getD j []) [] ss' [] fn' PL' SE' AR' KI VA OU' rfl q5 q6 q1 q2 q3 q4 (fun w hw => yn_gf hjz' hw) w2 w3 hsm rfl (by rw [List.length_nil]; omega)
  intro fr sp tp PL SE AR KI VA OU R
  rw [emx]
  exact h1 c fr sp tp PL SE AR KI VA OU R
/-- the reference's state against the pure one: behind the last RESET it has one more step to do -/
def yr_R (n : Nat) (T : Nat → Int32) (S : pm_S) (v : SY) : Prop := match S, v with
  | (m, K, sg, nm, b, out, oc, cc, mm, e), (sz, st, _, _, sh, ca, sf, mo, fr, sp, tp, de, bo, pc, sc, ha, vk, va, T', PA, PL, SE, AR, KI, VA, OU, TA, NA, NK, NV, NO) =>
    sz = nI n ∧ T' = T ∧ sh = nI oc ∧ PA = out ∧ ca = nI cc ∧ sf = nI sg.length ∧ mo = nI mm ∧
    (e = 0 → st = 0 ∧ de = nI K.length ∧ bo = nI b ∧ yr_P K sg fr sp tp PL SE AR KI VA OU TA ∧ yn_N NA NK NV NO nm b ∧ yr_M sc pc ha vk va m) ∧
    (e = 1 → st = 0 ∧ tp = 0 ∧ ha = 1 ∧ ∃ w, m = .inr w ∧ yn_V vk va w) ∧
    (2 ≤ e → st = nI e)
theorem yr_go {n : Nat} {m : pm_M} {K : List pm_F} {sg : List (List pm_F)} {nm : pm_N} {b oc cc mm : Nat} (P : yr_P K sg fr sp tp PL SE AR KI VA OU TA) (N : yn_N NA NK NV NO nm b) (M : yr_M sc pc ha vk va m) :
    yr_R n T (pm_go m K sg nm b PA oc cc mm) (nI n, 0, so, rs, nI oc, nI cc, nI sg.length, nI (max mm K.length), fr, sp, tp, nI K.length, nI b, pc, sc, ha, vk, va, T, PA, PL, SE, AR, KI, VA, OU, TA, NA, NK, NV, NO) :=
  ⟨rfl, rfl, rfl, rfl, rfl, rfl, rfl, fun _ => ⟨rfl, rfl, rfl, P, N, M⟩, fun z => absurd z (by decide), fun z => absurd z (by decide)⟩
theorem yr_go' {n : Nat} {m : pm_M} {K : List pm_F} {sg : List (List pm_F)} {nm : pm_N} {b oc cc mm : Nat} (hK : K.length ≤ mm) (P : yr_P K sg fr sp tp PL SE AR KI VA OU TA) (N : yn_N NA NK NV NO nm b) (M : yr_M sc pc ha vk va m) :
    yr_R n T (pm_go m K sg nm b PA oc cc mm) (nI n, 0, so, rs, nI oc, nI cc, nI sg.length, nI mm, fr, sp, tp, nI K.length, nI b, pc, sc, ha, vk, va, T, PA, PL, SE, AR, KI, VA, OU, TA, NA, NK, NV, NO) := by
  have h := yr_go (so := so) (rs := rs) (n := n) (T := T) (PA := PA) (oc := oc) (cc := cc) (mm := mm) P N M
  rw [Nat.max_eq_left hK] at h
  exact h
theorem yr_st {n : Nat} {m : pm_M} {K : List pm_F} {sg : List (List pm_F)} {nm : pm_N} {b oc cc mm e : Nat} (he : 2 ≤ e) :
    yr_R n T (m, K, sg, nm, b, PA, oc, cc, mm, e) (nI n, nI e, so, rs, nI oc, nI cc, nI sg.length, nI mm, fr, sp, tp, de, bo, pc, sc, ha, vk, va, T, PA, PL, SE, AR, KI, VA, OU, TA, NA, NK, NV, NO) :=
  ⟨rfl, rfl, rfl, rfl, rfl, rfl, rfl, fun z => by omega, fun z => by omega, fun _ => rfl⟩
theorem yr_Bi {t : Nat → Nat} {n : Nat} {sg : List (List pm_F)} {nm : pm_N} {b : Nat} (A : pm_A t n sg nm b) : yr_B sg := ⟨A.1, fun z hz => (A.2.1 z hz).1⟩
theorem yw_enter {post : SY → Prop} {t : Nat → Nat} {n p s : Nat} {K : List pm_F} {sg : List (List pm_F)} {nm : pm_N} {b oc cc mm : Nat} (hT : tx_T T t n) (hn : n ≤ 32) (I : pm_I t n (.inl (p, s)) K sg nm b oc cc mm)
    (P : yr_P K sg fr sp tp PL SE AR KI VA OU TA) (N : yn_N NA NK NV NO nm b) (h : ∀ v, yr_R n T (pm_evl t p s K sg nm b PA oc cc mm) v → post v) :
    wpY_enter post (nI n, 0, so, rs, nI oc, nI cc, nI sg.length, nI mm, fr, sp, tp, nI K.length, nI b, nI p, nI s, 0, vk, va, T, PA, PL, SE, AR, KI, VA, OU, TA, NA, NK, NV, NO) := by
  have hbb := kp_bb t n I
  obtain ⟨⟨hp, hs⟩, hB, hA, i1, i2, i3, i4, i5⟩ := I
  obtain ⟨t1, t2⟩ := hT p hp
  have t3 := tx_t120 t2
  unfold tx_tok at t2
  have hBl := hB.2.1
  unfold pm_evl at h
  refine ⟨vp_in_nI (by omega) (by decide), nm_r (e' := nI (t p)) (by rw [nI_clamp (by omega)]; exact t1) ?_⟩
  refine pk_lt (t p) 80 (fun c80 => pk_le 40 (t p) (fun c40 => pk_le 46 (t p) (fun c46 => pk_lt (t p) 70 (fun c70 => ?_) (fun c70 => ?_)) (fun c46 => ?_)) (fun c40 => ?_)) (fun c80 => ?_)
  · -- an operation
    rw [if_neg (by omega), if_neg (by omega), if_pos c70] at h
    by_cases cK : K.length = 16
    · rw [if_pos cK] at h
      have Q : ∀ z0, wY_enter_103 post z0 (nI n) 0 so rs (nI oc) (nI cc) (nI sg.length) (nI mm) fr sp tp (nI K.length) (nI b) (nI p) (nI s) 0 vk va T PA PL SE AR KI VA OU TA NA NK NV NO := by
        intro z0
        unfold wY_enter_103
        refine pk_lt K.length 16 (fun w => by omega) (fun _ => ?_)
        exact h _ (yr_st (by decide))
      exact br_c (fun _ => Q _) (fun _ => Q _)
    rw [if_neg cK] at h
    have Q : ∀ z0 f, f = (if t p = 59 then none else some (p, s, none)) → yr_Fr z0 (nI s) f → wY_enter_103 post z0 (nI n) 0 so rs (nI oc) (nI cc) (nI sg.length) (nI mm) fr sp tp (nI K.length) (nI b) (nI p) (nI s) 0 vk va T PA PL SE AR KI VA OU TA NA NK NV NO := by
      intro z0 f hf hF
      rw [← hf] at h
      unfold wY_enter_103
      refine yw_push (f := f) P (yr_Bi hA) (by omega) i4 hF (fun fr' sp' tp' PL' SE' AR' OU' R => ?_)
      show post _
      rw [nI_1]
      exact h _ (yr_go R N ⟨rfl, rfl, rfl⟩)
    refine pk_eq (t p) 59 (fun c => Q _ none (by rw [if_pos c]) rfl) (fun c => Q _ (some (p, s, none)) (by rw [if_neg c]) ⟨rfl, rfl, rfl⟩)
  · -- a shift
    rw [if_neg (by omega), if_neg (by omega), if_neg (by omega), if_pos (by omega)] at h
    by_cases cS : sg.length = 8
    · rw [if_pos cS] at h
      unfold wpY_shift
      refine br_t (by rw [cS]; rfl) ?_
      exact h _ (yr_st (by decide))
    rw [if_neg cS] at h
    obtain ⟨z, K1, f1, f2, f3, f4, f5⟩ := kp_cut K hB.2.2
    rw [f1, f2] at h
    have hA1 := hA.1
    have hz : ∀ f, f ∈ z → ∃ p s o, f = some (p, s, o) ∧ p < 32 := by
      intro f hf
      have g1 := f4 f hf
      have g2 := hB.1 f (by rw [f3]; exact List.mem_append_left _ hf)
      rcases f with _ | ⟨p, s, o⟩
      · exact absurd g1 (by decide)
      · exact ⟨p, s, o, rfl, by have := g2.1; omega⟩
    have hKl : (none :: K1).length ≤ mm := by
      have : K.length = z.length + (none :: K1).length := by rw [f3, List.length_append]
      omega
    have e7 : nI (t p) - 70 = nI (t p % 10) := by
      rw [show t p % 10 = t p - 70 by omega]
      exact pk_sub (b := 70) (by omega)
    rw [e7]
    rw [f3] at P ⊢
    refine yw_shift P hz (by omega) (by omega) (fun tp' OU' TA' R => ?_)
    have el : (sg ++ [z]).length = sg.length + 1 := by rw [List.length_append]; rfl
    have H := h _ (yr_go' (so := so) (rs := rs) (vk := vk) (va := va) hKl R (yn_Nadd (x := t p % 10) (o := s) (k := 3) (a := nI sg.length) (v := .inr (.inr sg.length)) N ⟨rfl, rfl⟩) ⟨rfl, rfl, rfl⟩)
    rw [el] at H
    exact H
  · -- a function
    rw [if_neg (by omega), if_pos (by omega)] at h
    have e1 : (64 * nI s) + nI p = nI (64 * s + p) := by
      rw [show (64 : Int32) = nI 64 from rfl, pk_mul, nI_add]
    unfold wpY_give
    show post _
    rw [e1]
    exact h _ (yr_go' i3 P N ⟨rfl, rfl, rfl⟩)
  · -- a name
    rw [if_pos (by omega)] at h
    have e3 : nI (t p) - 30 = nI (t p % 10) := by
      rw [show t p % 10 = t p - 30 by omega]
      exact pk_sub (b := 30) (by omega)
    rw [e3]
    unfold wpY_find
    refine ⟨_, yw_flp (nm := nm) (b := b) (by omega) (by omega) N (tx_G t p) s hs (fun y hy => tx_grm t p p y hy) (fun w => ?_) (fun v k a w hv => ?_)⟩
    · rw [w] at h
      exact h _ (yr_st (by decide))
    · rw [w] at h
      exact h _ (yr_go' i3 P N ⟨rfl, hv⟩)
  · -- a number
    rw [if_neg (by omega), if_neg (by omega), if_neg (by omega), if_neg (by omega)] at h
    unfold wpY_give
    exact h _ (yr_go' i3 P N ⟨rfl, rfl, rfl⟩)
end
section
/-! the reference's step: two, hand -/
variable {sz st so rs sh ca sf mo fr sp tp de bo pc sc ha vk va : Int32} {T PA PL SE AR KI VA OU TA NA NK NV NO : Nat → Int32}
theorem pm_Chb {nm : pm_N} {b : Nat} : ∀ (l : List Nat) (s : Nat), pm_Ch nm b l s → s ≤ b
  | [], s, h => by have h' : s = 0 := h; omega
  | _ :: _, _, h => h.2.1
theorem yr_first {K : List pm_F} {sg : List (List pm_F)} {p s x : Nat} {v : pm_V} (P : yr_P (some (p, s, none) :: K) sg fr sp (nI x) PL SE AR KI VA OU TA) (hx : x < 200) (hv : yn_V vk va v) :
    yr_P (some (p, s, some v) :: K) sg fr sp (nI x) PL (upd SE x 1) AR (upd KI x vk) (upd VA x va) OU TA := by
  obtain ⟨ys, zs, ss, fn, h1, h2, h3, h4, h5, h6, h7, h8, h9⟩ := P
  rcases ys with _ | ⟨y, ys⟩
  · exact absurd h2 (fun z => z)
  have N := yn_Qn h5
  have e : x = y := by
    have h7' : nI x = nI y := h7
    rw [nI_eq (by omega) (by omega)] at h7'
    exact h7'
  subst e
  refine ⟨x :: ys, zs, ss, fn, h1, ⟨⟨h2.1.1, h2.1.2.1, yn_us, ?_⟩, yn_Sc ys K (fun w hw => ?_) h2.2⟩, h3, yn_Zc (fun w hw => ?_) h4, h5, h6, h7, h8, h9⟩
  · rw [yn_us, yn_us]; exact hv
  · have e : w ≠ x := fun e => N.1 (e ▸ hw)
    exact ⟨rfl, yn_un e, rfl, yn_un e, yn_un e⟩
  · have e : w ≠ x := fun e => N.2.1 (e ▸ hw)
    exact ⟨rfl, rfl, yn_un e, rfl, yn_un e, yn_un e⟩
theorem yw_call {post : SY → Prop} {t : Nat → Nat} {n : Nat} {w v : pm_V} {k a : Int32} {K : List pm_F} {sg : List (List pm_F)} {nm : pm_N} {b oc cc mm : Nat} (hT : tx_T T t n) (hn : n ≤ 32) (hb : b ≤ 8703)
    (hw : pm_v t n nm b sg.length w) (hA : pm_A t n sg nm b) (hK : K.length ≤ 16) (hKm : K.length ≤ mm) (hm : mm ≤ 16) (hc : cc ≤ 40) (P : yr_P K sg fr sp tp PL SE AR KI VA OU TA) (N : yn_N NA NK NV NO nm b) (hk : yn_V k a w) (hv : yn_V vk va v)
    (h : ∀ u, yr_R n T (pm_cal t w v K sg nm b PA oc cc mm) u → post u) :
    wpY_call post (nI n, 0, so, rs, nI oc, nI cc, nI sg.length, nI mm, fr, sp, tp, nI K.length, nI b, pc, sc, 1, vk, va, T, PA, PL, SE, AR, KI, VA, OU, TA, NA, NK, NV, NO) k a := by
  unfold pm_cal at h
  rcases w with a' | ⟨s, p⟩ | j
  · exact br_t hk.1 (h _ (yr_st (by decide)))
  · obtain ⟨hp, hp4, hs⟩ := hw
    obtain ⟨k1, k2⟩ := hk
    subst k1 k2
    have hsb := pm_Chb _ _ hs
    obtain ⟨t1, t2⟩ := hT p hp
    have h' : ∀ u, yr_R n T (if cc = 40 then (.inr v, K, sg, nm, b, PA, oc, cc, mm, 3) else pm_go (.inl (p + 1, b + 1)) K sg (pm_bd nm b (t p % 10) v s) (b + 1) PA oc (cc + 1) mm) u → post u := h
    refine br_f (by decide) (pk_eq cc 40 (fun c => ?_) (fun c => nm_r (nI_1 cc) (br_t rfl ⟨by decide, nm_r (e' := nI p) ?_ ⟨vp_in_nI (by omega) (by decide), by decide, ?_⟩⟩)))
    · rw [if_pos c] at h'
      exact h' _ (yr_st (by decide))
    · rw [show (64 : Int32) = nI 64 from rfl, pk_rem (by omega) (by omega) (by omega)]
      exact congrArg nI (by omega)
    · rw [if_neg c] at h'
      have e1 : T (nI p).toNatClampNeg - 40 = nI (t p % 10) := by
        rw [nI_clamp (by omega), t1, show t p % 10 = t p - 40 by omega]
        exact pk_sub (b := 40) (by omega)
      have e2 : nI (64 * s + p) / 64 = nI s := by
        rw [show (64 : Int32) = nI 64 from rfl, pk_div (by omega) (by omega) (by omega)]
        exact congrArg nI (by omega)
      rw [e1, e2]
      refine yw_bind (by omega) ?_
      show post _
      rw [nI_1]
      exact h' _ (yr_go' hKm P (yn_Nadd N hv) ⟨rfl, rfl, rfl⟩)
  · have hj : j < sg.length := hw
    obtain ⟨k1, k2⟩ := hk
    subst k1 k2
    have h' : ∀ u, yr_R n T (if cc = 40 then (.inr v, K, sg, nm, b, PA, oc, cc, mm, 3) else if 16 < K.length + 1 + (sg.getD j []).length then (.inr v, K, sg, nm, b, PA, oc, cc + 1, mm, 4) else pm_go (.inr v) (sg.getD j [] ++ none :: K) sg nm b PA oc (cc + 1) mm) u → post u := h
    refine br_f (by decide) (pk_eq cc 40 (fun c => ?_) (fun c => nm_r (nI_1 cc) (br_f (by decide) ?_)))
    · rw [if_pos c] at h'
      exact h' _ (yr_st (by decide))
    · rw [if_neg c] at h'
      refine yw_taken P (yr_Bi hA) hj (fun f hf => ((hA.2.1 _ (yn_gm hj)).2 f hf).1) hm hK (fun c2 fr sp tp PL SE AR KI VA OU R => ?_) (fun c2 => ?_)
      · rw [if_neg (by omega)] at h'
        exact h' _ (yr_go R N ⟨rfl, hv⟩)
      · rw [if_pos c2] at h'
        exact h' _ (yr_st (by decide))
theorem yw_calc {post : Int32 → Prop} {x : Nat} {a c : Int32} (hx : 52 < x) (hx2 : x < 57) (h : post (pm_rk x a c)) : wpY_calculated post (sz, st, so, rs, sh, ca, sf, mo, fr, sp, tp, de, bo, pc, sc, ha, vk, va, T, PA, PL, SE, AR, KI, VA, OU, TA, NA, NK, NV, NO) (nI x) a c := by
  unfold pm_rk at h
  refine pk_eq x 53 (fun e => by rw [if_pos e] at h; exact h) (fun e1 => pk_eq x 54 (fun e => by rw [if_neg e1, if_pos e] at h; exact h) (fun e2 => pk_eq x 55 (fun e => by rw [if_neg e1, if_neg e2, if_pos e] at h; exact h) (fun e3 => ?_)))
  rw [if_neg e1, if_neg e2, if_neg e3] at h
  refine br_c (fun z => ?_) (fun z => ?_)
  · rw [if_neg (Int32.not_lt.mpr z)] at h; exact h
  · rw [if_pos (Int32.not_le.mp z)] at h; exact h
end
section
/-! the reference's step: hand -/
variable {sz st so rs sh ca sf mo fr sp tp de bo pc sc ha vk va : Int32} {T PA PL SE AR KI VA OU TA NA NK NV NO : Nat → Int32}
theorem yr_tp0 {K : List pm_F} {sg : List (List pm_F)} (P : yr_P K sg fr sp tp PL SE AR KI VA OU TA) (h : K.length = 0) : tp = 0 := by
  obtain ⟨ys, zs, ss, fn, h1, h2, h3, h4, h5, h6, h7, h8, h9⟩ := P
  have hl := yn_Sl _ _ h2
  have e : ys = [] := List.length_eq_zero_iff.mp (by omega)
  subst e
  exact h7
theorem yw_two {post : SY → Prop} {t : Nat → Nat} {n p s : Nat} {o : Option pm_V} {v : pm_V} {K : List pm_F} {sg : List (List pm_F)} {nm : pm_N} {b oc cc mm : Nat} (W : tx_W t n) (hT : tx_T T t n) (hn : n ≤ 32)
    (I : pm_I t n (.inr v) (some (p, s, o) :: K) sg nm b oc cc mm) (h57 : t p < 57) (P : yr_P (some (p, s, o) :: K) sg fr sp tp PL SE AR KI VA OU TA) (N : yn_N NA NK NV NO nm b) (hv : yn_V vk va v)
    (h : ∀ u, yr_R n T (pm_hnd t v (some (p, s, o) :: K) sg nm b PA oc cc mm) u → post u) :
    wpY_two post (nI n, 0, so, rs, nI oc, nI cc, nI sg.length, nI mm, fr, sp, tp, nI (K.length + 1), nI b, pc, sc, 1, vk, va, T, PA, PL, SE, AR, KI, VA, OU, TA, NA, NK, NV, NO) (nI p) := by
  have hbb := kp_bb t n I
  obtain ⟨hpv, hB, hA, i1, i2, i3, i4, i5⟩ := I
  obtain ⟨hp, h56, h59, hs, ho⟩ := hB.1 _ (List.mem_cons_self ..)
  obtain ⟨t1, t2⟩ := hT p hp
  unfold tx_tok at t2
  have Pp := @kp_pt (t p)
  have T1 := tx_1 W hp (by omega)
  have hBl := hB.2.1
  rw [List.length_cons] at hBl i3
  obtain ⟨x, htp, hx0, hx2, hF⟩ := yr_top P
  subst htp
  have cx : (nI x).toNatClampNeg = x := nI_clamp (by omega)
  have vx : vp_in (nI x) 200 := vp_in_nI hx2 (by decide)
  obtain ⟨F1, F2, F3⟩ := hF
  rcases o with _ | w
  · have h' : ∀ u, yr_R n T (if t p < 57 then pm_go (.inl (tx_e t (p + 1), s)) (some (p, s, some v) :: K) sg nm b PA oc cc mm else _) u → post u := h
    rw [if_pos h57] at h'
    have F3' : SE x = 0 := F3
    refine ⟨vx, ?_⟩
    refine br_t (by rw [cx]; exact F3') ⟨vx, nm_r (e' := upd SE x 1) (by rw [cx]; rfl) ⟨vx, nm_r (e' := upd KI x vk) (by rw [cx]) ⟨vx, nm_r (e' := upd VA x va) (by rw [cx]) ⟨vx, nm_r (e' := nI s) (by rw [cx]; exact F2) ?_⟩⟩⟩⟩
    rw [nI_1]
    refine yt_end W hT hn T1.1 ?_
    exact h' _ (yr_go' (K := some (p, s, some v) :: K) (by rw [List.length_cons]; exact i3) (yr_first P hx2 hv) N ⟨rfl, rfl, rfl⟩)
  · have F3' : SE x = 1 := F3.1
    refine ⟨vx, br_f (by rw [cx, F3']; decide) ⟨vx, nm_r (e' := KI x) (by rw [cx]) ⟨vx, nm_r (e' := VA x) (by rw [cx]) ?_⟩⟩⟩
    refine yw_pop P (fun sp' tp' OU' R => ⟨vp_in_nI (by omega) (by decide), ?_⟩)
    rw [nI_clamp (by omega), t1]
    by_cases c52 : t p = 52
    · have h' : ∀ u, yr_R n T (if t p < 57 then (if t p = 52 then pm_cal t w v K sg nm b PA oc cc mm else _) else _) u → post u := h
      rw [if_pos h57, if_pos c52] at h'
      refine br_t (by rw [c52]; rfl) ?_
      exact yw_call hT hn hbb ho.2 hA (by omega) (by omega) i4 i2 R N F3.2 hv h'
    · refine pk_eq (t p) 52 (fun e => absurd e c52) (fun _ => ?_)
      have h' : ∀ u, yr_R n T (if t p < 57 then (if t p = 52 then pm_cal t w v K sg nm b PA oc cc mm else (match w, v with
          | .inl a, .inl c => pm_go (.inr (.inl (pm_rk (t p) a c))) K sg nm b PA oc cc mm
          | _, _ => (.inr v, K, sg, nm, b, PA, oc, cc, mm, 2))) else _) u → post u := h
      rw [if_pos h57, if_neg c52] at h'
      have bad : yr_R n T (.inr v, K, sg, nm, b, PA, oc, cc, mm, 2) (nI n, 2, so, rs, nI oc, nI cc, nI sg.length, nI mm, fr, sp', tp', nI K.length, nI b, pc, sc, 1, vk, va, T, PA, PL, SE, AR, KI, VA, OU', TA, NA, NK, NV, NO) := yr_st (by decide)
      rcases w with a | ⟨s2, p2⟩ | j
      · refine br_t F3.2.1 ?_
        rcases v with c | ⟨s2, p2⟩ | j
        · refine br_t hv.1 ⟨vp_in_nI (by omega) (by decide), ?_⟩
          rw [F3.2.2, hv.2]
          refine yw_calc (by omega) h57 ?_
          exact h' _ (yr_go' (by omega) R N ⟨rfl, rfl, rfl⟩)
        · exact br_f (by rw [hv.1]; decide) (h' _ bad)
        · exact br_f (by rw [hv.1]; decide) (h' _ bad)
      · exact br_f (by rw [F3.2.1]; decide) (h' _ bad)
      · exact br_f (by rw [F3.2.1]; decide) (h' _ bad)
theorem yw_hand {post : SY → Prop} {t : Nat → Nat} {n : Nat} {v : pm_V} {K : List pm_F} {sg : List (List pm_F)} {nm : pm_N} {b oc cc mm : Nat} (W : tx_W t n) (hT : tx_T T t n) (hn : n ≤ 32)
    (I : pm_I t n (.inr v) K sg nm b oc cc mm) (P : yr_P K sg fr sp tp PL SE AR KI VA OU TA) (N : yn_N NA NK NV NO nm b) (hv : yn_V vk va v)
    (h : ∀ u, yr_R n T (pm_hnd t v K sg nm b PA oc cc mm) u → post u) :
    wpY_hand post (nI n, 0, so, rs, nI oc, nI cc, nI sg.length, nI mm, fr, sp, tp, nI K.length, nI b, pc, sc, 1, vk, va, T, PA, PL, SE, AR, KI, VA, OU, TA, NA, NK, NV, NO) := by
  have hbb := kp_bb t n I
  have I' := I
  obtain ⟨hpv, hB, hA, i1, i2, i3, i4, i5⟩ := I
  rcases K with _ | ⟨f, K⟩
  · obtain ⟨K0, e⟩ := hB.2.2
    exact absurd (congrArg List.length e) (by simp)
  have P' := P
  obtain ⟨x, htp, hx0, hx2, hF⟩ := yr_top P
  subst htp
  have cx : (nI x).toNatClampNeg = x := nI_clamp (by omega)
  have vx : vp_in (nI x) 200 := vp_in_nI hx2 (by decide)
  have nx : ¬ nI x = 0 := nI_ne0 hx0 (by omega)
  have hBl := hB.2.1
  rw [List.length_cons] at hBl i3
  refine br_f nx ⟨vx, ?_⟩
  rw [cx]
  rcases f with _ | ⟨p, s, o⟩
  · have e1 : PL x = -1 := hF
    rw [e1]
    refine br_f (by decide) (br_f nx (br_t (by decide) (br_t rfl ?_)))
    refine yw_pop P (fun sp' tp' OU' R => ?_)
    have h' : ∀ u, yr_R n T (if K.length = 0 then (.inr v, K, sg, nm, b, PA, oc, cc, mm, 1) else pm_go (.inr v) K sg nm b PA oc cc mm) u → post u := h
    by_cases c : K.length = 0
    · rw [if_pos c] at h'
      exact h' _ ⟨rfl, rfl, rfl, rfl, rfl, rfl, rfl, fun z => absurd z (by decide), fun _ => ⟨rfl, yr_tp0 R c, rfl, v, rfl, hv⟩, fun z => absurd z (by decide)⟩
    · rw [if_neg c] at h'
      exact h' _ (yr_go' (by omega) R N ⟨rfl, hv⟩)
  · obtain ⟨hp, h56, h59, hs, ho⟩ := hB.1 _ (List.mem_cons_self ..)
    obtain ⟨t1, t2⟩ := hT p hp
    have t3 := tx_t120 t2
    unfold tx_tok at t2
    have Pp := @kp_pt (t p)
    have T1 := tx_1 W hp (by omega)
    have F2 : AR x = nI s := hF.2.1
    have F1 : PL x = nI p := hF.1
    rw [F1]
    refine br_t (nI_pos' (by omega)) ⟨vp_in_nI (by omega) (by decide), ?_⟩
    rw [nI_clamp (by omega), t1]
    by_cases c57 : t p < 57
    · refine br_f nx (pk_lt 56 (t p) (fun z => by omega) (fun _ => ?_))
      exact yw_two W hT hn I' c57 P' N hv h
    · refine br_f nx (pk_lt 56 (t p) (fun _ => pk_eq (t p) 59 (fun z => absurd z h59) (fun _ => ?_)) (fun z => by omega))
      by_cases c60 : t p < 60
      · refine pk_lt (t p) 60 (fun _ => ?_) (fun z => by omega)
        by_cases c58 : t p < 58
        · have h' : ∀ u, yr_R n T (if t p < 57 then _ else if t p < 58 then (match v with
              | .inl a => pm_go (.inl (if a = 0 then tx_e t (tx_e t (p + 1)) else tx_e t (p + 1), s)) K sg nm b PA oc cc mm
              | .inr _ => (.inr v, K, sg, nm, b, PA, oc, cc, mm, 2)) else _) u → post u := h
          rw [if_neg c57, if_pos c58] at h'
          have bad : yr_R n T (.inr v, K, sg, nm, b, PA, oc, cc, mm, 2) (nI n, 2, so, rs, nI oc, nI cc, nI sg.length, nI mm, fr, sp, nI x, nI (K.length + 1), nI b, pc, sc, 1, vk, va, T, PA, PL, SE, AR, KI, VA, OU, TA, NA, NK, NV, NO) := yr_st (by decide)
          have T2 := tx_2 W hp (by omega)
          rcases v with a | ⟨s2, p2⟩ | j
          · refine br_t hv.1 (pk_eq (t p) 57 (fun _ => ?_) (fun z => by omega))
            rw [nI_1]
            refine yt_end W hT hn T1.1 ⟨vx, nm_r (e' := nI s) (by rw [cx]; exact F2) ?_⟩
            refine yw_pop P (fun sp' tp' OU' R => ?_)
            have ev : va = a := hv.2
            have h2 : ∀ u, yr_R n T (pm_go (.inl (if a = 0 then tx_e t (tx_e t (p + 1)) else tx_e t (p + 1), s)) K sg nm b PA oc cc mm) u → post u := h'
            refine br_c (fun z => ?_) (fun z => ?_)
            · rw [if_pos (ev ▸ z)] at h2
              refine yt_end W hT hn T2.1 ?_
              exact h2 _ (yr_go' (by omega) R N ⟨rfl, rfl, rfl⟩)
            · rw [if_neg (ev ▸ z)] at h2
              exact h2 _ (yr_go' (by omega) R N ⟨rfl, rfl, rfl⟩)
          · exact br_f (by rw [hv.1]; decide) (h' _ bad)
          · exact br_f (by rw [hv.1]; decide) (h' _ bad)
        · have h' : ∀ u, yr_R n T (if t p < 57 then _ else if t p < 58 then _ else if t p < 60 then (match v with
              | .inl a => if oc = 16 then (.inr v, K, sg, nm, b, PA, oc, cc, mm, 5) else pm_go (.inr (.inl a)) K sg nm b (upd PA oc a) (oc + 1) cc mm
              | .inr _ => (.inr v, K, sg, nm, b, PA, oc, cc, mm, 2)) else _) u → post u := h
          rw [if_neg c57, if_neg c58, if_pos c60] at h'
          have bad : ∀ e, 2 ≤ e → yr_R n T (.inr v, K, sg, nm, b, PA, oc, cc, mm, e) (nI n, nI e, so, rs, nI oc, nI cc, nI sg.length, nI mm, fr, sp, nI x, nI (K.length + 1), nI b, pc, sc, 1, vk, va, T, PA, PL, SE, AR, KI, VA, OU, TA, NA, NK, NV, NO) := fun e he => yr_st he
          rcases v with a | ⟨s2, p2⟩ | j
          · refine br_t hv.1 (pk_eq (t p) 57 (fun z => by omega) (fun _ => ?_))
            have h2 : ∀ u, yr_R n T (if oc = 16 then (.inr (.inl a), K, sg, nm, b, PA, oc, cc, mm, 5) else pm_go (.inr (.inl a)) K sg nm b (upd PA oc a) (oc + 1) cc mm) u → post u := h'
            refine pk_eq oc 16 (fun c => ?_) (fun c => ⟨vp_in_nI (by omega) (by decide), nm_r (e' := upd PA oc a) (by rw [nI_clamp (by omega), hv.2]) (nm_r (nI_1 oc) ?_)⟩)
            · rw [if_pos c] at h2
              exact h2 _ (bad 5 (by decide))
            · rw [if_neg c] at h2
              refine yw_pop P (fun sp' tp' OU' R => ?_)
              exact h2 _ (yr_go' (by omega) R N ⟨rfl, hv⟩)
          · exact br_f (by rw [hv.1]; decide) (h' _ (bad 2 (by decide)))
          · exact br_f (by rw [hv.1]; decide) (h' _ (bad 2 (by decide)))
      · have h' : ∀ u, yr_R n T (if t p < 57 then _ else if t p < 58 then _ else if t p < 60 then _ else pm_go (.inl (tx_e t (p + 1), b + 1)) K sg (pm_bd nm b (t p % 10) v s) (b + 1) PA oc cc mm) u → post u := h
        rw [if_neg c57, if_neg (by omega), if_neg c60] at h'
        refine pk_lt (t p) 60 (fun z => by omega) (fun _ => ⟨vx, nm_r (e' := nI s) (by rw [cx]; exact F2) ?_⟩)
        refine yw_pop P (fun sp' tp' OU' R => ?_)
        have e6 : nI (t p) - 60 = nI (t p % 10) := by
          rw [show t p % 10 = t p - 60 by omega]
          exact pk_sub (b := 60) (by omega)
        rw [e6]
        refine yw_bind (by omega) ?_
        rw [nI_1]
        refine yt_end W hT hn T1.1 ?_
        exact h' _ (yr_go' (by omega) R (yn_Nadd N hv) ⟨rfl, rfl, rfl⟩)
end
section
/-! the component's small methods: pushFrame, giveName, copyFrames -/
variable {tc pe lc uc tk rc pc en : Int32} {va : Int64} {oc cc sc dp ed : Int32} {T ES HP FT FE : Nat → Int32} {FF : Nat → Int64} {SZ : Nat → Int32} {CV : Nat → Int64} {CN MK RE OU : Nat → Int32}
theorem xw_push {post : SX → Prop} {k : Nat} {a b : Int32} (hk : k < 144) (h : post (tc, nI (k + 1), lc, uc, tk, rc, pc, en, va, oc, cc, sc, dp, ed, T, ES, HP, upd FT k a, upd FE k b, vp_updL FF k 0, SZ, CV, CN, MK, RE, OU)) : wpX_pushFrame post (tc, nI k, lc, uc, tk, rc, pc, en, va, oc, cc, sc, dp, ed, T, ES, HP, FT, FE, FF, SZ, CV, CN, MK, RE, OU) a b := by
  have c : (nI k).toNatClampNeg = k := nI_clamp (by omega)
  have v : vp_in (nI k) 144 := vp_in_nI hk (by decide)
  exact ⟨v, nm_r (e' := upd FT k a) (by rw [c]) ⟨v, nm_r (e' := upd FE k b) (by rw [c]) ⟨v, nm_r (e' := vp_updL FF k 0) (by rw [c]) (nm_r (nI_1 k) h)⟩⟩⟩
theorem xw_g55 {post : SX → Prop} {x k : Nat} {l : Int64} {r : Int32} (hx : x < 9000) (h : post (tc, pe, lc, uc, nI (k + 1), rc, pc, nI x, va, oc, cc, sc, dp, ed, T, ES, HP, FT, FE, FF, SZ, vp_updL CV x l, upd CN x r, MK, RE, OU)) : wX_giveName_55 post l r (nI x) tc pe lc uc (nI k) rc pc en va oc cc sc dp ed T ES HP FT FE FF SZ CV CN MK RE OU := by
  have c : (nI x).toNatClampNeg = x := nI_clamp (by omega)
  have v : vp_in (nI x) 9000 := vp_in_nI hx (by decide)
  exact ⟨v, nm_r (e' := vp_updL CV x l) (by rw [c]) ⟨v, nm_r (e' := upd CN x r) (by rw [c]) (nm_r (nI_1 k) h)⟩⟩
theorem xw_give {post : SX → Prop} {L : Nat → Prop} {fl : List Nat} {ln k b : Nat} {l : Int64} {r : Int32} (U : xm_U L CN ln fl) (h8 : 8 ≤ ln) (hl : ln ≤ 8 + b) (hb : b ≤ 8703) (hL : ∀ y, L y → y ≤ ln)
    (h : ∀ x fl' ln', ¬ L x → 9 ≤ x → x < 9000 → ln ≤ ln' → x ≤ ln' → ln' ≤ 8 + (b + 1) → xm_U (xm_add L x) (upd CN x r) ln' fl' → post (tc, pe, nI ln', nI (yn_hd fl'), nI (k + 1), rc, pc, nI x, va, oc, cc, sc, dp, ed, T, ES, HP, FT, FE, FF, SZ, vp_updL CV x l, upd CN x r, MK, RE, OU)) :
    wpX_giveName post (tc, pe, nI ln, nI (yn_hd fl), nI k, rc, pc, en, va, oc, cc, sc, dp, ed, T, ES, HP, FT, FE, FF, SZ, CV, CN, MK, RE, OU) l r := by
  rcases fl with _ | ⟨x, fl⟩
  · have H := h (ln + 1) [] (ln + 1) (fun z => by have := hL _ z; omega) (by omega) (by omega) (by omega) (by omega) (by omega) xm_Uadd0
    refine br_t nI_0 (pk_le 8999 ln (fun z => by omega) (fun z => nm_r (nI_1 ln) ?_))
    exact xw_g55 (by omega) H
  · obtain ⟨u1, u2, u3⟩ := U
    obtain ⟨g1, g2, g3⟩ := u3 x (List.mem_cons_self ..)
    have H := h x fl ln g3 g1 (by omega) (Nat.le_refl _) g2 (by omega) (xm_Uadd ⟨u1, u2, u3⟩)
    have e : yn_hd (x :: fl) = x := rfl
    rw [e]
    refine br_f (nI_ne0 (by omega) (by omega)) ⟨vp_in_nI (by omega) (by decide), nm_r (e' := nI (yn_hd fl)) (by rw [nI_clamp (by omega)]; exact u1.1) ?_⟩
    exact xw_g55 (by omega) H
/-- a name gets a cell -/
theorem xw_bind {post : SX → Prop} {L : Nat → Prop} {f : Nat → Nat} {fl : List Nat} {ln k b c o y : Nat} {l : Int64} {v : pm_V} {K : List pm_F} {sg : List (List pm_F)} {nm : pm_N} (hb : b ≤ 8703) (h8 : 8 ≤ ln) (hl : ln ≤ 8 + b) (hR : xm_R L f FT FE FF 0 K) (hG : xm_G L f FT FE FF SZ sg) (hH : xm_H L f CV CN nm b ln) (hU : xm_U L CN ln fl) (hv : xm_V L f l v) (hc : xm_E L f c o)
    (h : ∀ lc uc en CV CN, (∀ p, xr_P (.inl (p, b + 1)) K sg (pm_bd nm b y v o) (b + 1) (nI K.length) lc uc (nI p) en va FT FE FF SZ CV CN) → post (tc, pe, lc, uc, nI (k + 1), rc, pc, en, va, oc, cc, sc, dp, ed, T, ES, HP, FT, FE, FF, SZ, CV, CN, MK, RE, OU)) :
    wpX_giveName post (tc, pe, nI ln, nI (yn_hd fl), nI k, rc, pc, en, va, oc, cc, sc, dp, ed, T, ES, HP, FT, FE, FF, SZ, CV, CN, MK, RE, OU) l (nI c) := by
  refine xw_give hU h8 hl hb (fun y hy => (hH y hy).2.1) (fun x fl' ln' x1 x2 x3 x4 x5 x6 x7 => h _ _ _ _ _ (fun p => ?_))
  have M := xm_Ma (f := f) (k := b + 1) x1
  exact ⟨xm_add L x, xm_put f x (b + 1), fl', ln', rfl, rfl, by omega, x6, rfl, xm_Rm M K hR, xm_Gadd hG x1 x2, xm_Hadd hH x1 x2 x5 x4 hv hc, x7, rfl, x, rfl, Or.inr ⟨x2, x3, Or.inr rfl, by unfold xm_put; rw [if_pos rfl]⟩⟩
theorem xw_cp {post : SX → Prop} {a c w : Nat} (ha : a + w ≤ 144) (hc : c + w ≤ 144) (ho : a + w ≤ c ∨ c + w ≤ a) (h : post (tc, pe, lc, uc, tk, rc, pc, en, va, oc, cc, sc, dp, ed, T, ES, HP, xm_cp FT a c w, xm_cp FE a c w, xm_cp FF a c w, SZ, CV, CN, MK, RE, OU)) :
    ∀ d i, i + d = w → wX_copyFrames_3 post (nI a) (nI c) (nI w) tc pe lc uc tk rc pc en va oc cc sc dp ed (d + 1) (nI i) T ES HP (xm_cp FT a c i) (xm_cp FE a c i) (xm_cp FF a c i) SZ CV CN MK RE OU := by
  intro d
  induction d with
  | zero =>
    intro i hi
    have e : i = w := by omega
    rw [e]
    exact pk_le w w (fun _ => h) (fun z => by omega)
  | succ d ih =>
    intro i hi
    have I := ih (i + 1) (by omega)
    have ea : nI a + nI i = nI (a + i) := nI_add a i
    have ec : nI c + nI i = nI (c + i) := nI_add c i
    have va : vp_in (nI (a + i)) 144 := vp_in_nI (by omega) (by decide)
    have vc : vp_in (nI (c + i)) 144 := vp_in_nI (by omega) (by decide)
    have ca : (nI (a + i)).toNatClampNeg = a + i := nI_clamp (by omega)
    have cc : (nI (c + i)).toNatClampNeg = c + i := nI_clamp (by omega)
    refine pk_le w i (fun z => by omega) (fun _ => ?_)
    rw [ea, ec]
    refine ⟨va, vc, nm_r (e' := xm_cp FT a c (i + 1)) ?_ ⟨va, vc, nm_r (e' := xm_cp FE a c (i + 1)) ?_ ⟨va, vc, nm_r (e' := xm_cp FF a c (i + 1)) ?_ (nm_r (nI_1 i) I)⟩⟩⟩
    · rw [ca, cc, xm_cpr (by omega)]; exact xm_cps
    · rw [ca, cc, xm_cpr (by omega)]; exact xm_cps
    · rw [ca, cc, xm_cpr (by omega)]; exact xm_cpL
theorem xw_copy {post : SX → Prop} {a c w : Nat} (ha : a + w ≤ 144) (hc : c + w ≤ 144) (ho : a + w ≤ c ∨ c + w ≤ a) (h : post (tc, pe, lc, uc, tk, rc, pc, en, va, oc, cc, sc, dp, ed, T, ES, HP, xm_cp FT a c w, xm_cp FE a c w, xm_cp FF a c w, SZ, CV, CN, MK, RE, OU)) : wpX_copyFrames post (tc, pe, lc, uc, tk, rc, pc, en, va, oc, cc, sc, dp, ed, T, ES, HP, FT, FE, FF, SZ, CV, CN, MK, RE, OU) (nI a) (nI c) (nI w) := by
  have H := xw_cp ha hc ho h w 0 (by omega)
  rw [xm_cp0, xm_cp0, xm_cp0] at H
  exact ⟨w + 1, H⟩
theorem xw_hlp {post : SX → Prop} {L : Nat → Prop} {f : Nat → Nat} {nm : pm_N} {b ln s c i : Nat} {x : Nat} {l : List Nat} {v : pm_V} (H : xm_H L f CV CN nm b ln) (hC : pm_Ch nm b l s) (hE : xm_E L f c s) (hi : tx_ix l x = some i) (hv : pm_look nm l x s = some v) (hi2 : i < 32)
    (h : ∀ va, xm_V L f va v → post (tc, pe, lc, uc, tk, rc, -1, en, va, oc, cc, sc, dp, ed, T, ES, HP, FT, FE, FF, SZ, CV, CN, MK, RE, OU)) : ∀ d j, j + d = i → wX_lookUp_28 post (nI i) tc pe lc uc tk rc pc en va oc cc sc dp ed T ES HP FT FE FF SZ CV CN MK RE OU (d + 1) (nI (xm_hop CN j c)) (nI j) := by
  obtain ⟨A, B⟩ := xm_look H x v l s c i hC hE hi hv
  intro d
  induction d with
  | zero =>
    intro j hj
    have e : j = i := by omega
    rw [e]
    have a := A i (Nat.le_refl _)
    refine pk_le i i (fun _ => ⟨vp_in_nI a.1 (by decide), nm_e ?_⟩) (fun z => by omega)
    rw [nI_clamp (by omega)]
    exact h _ B
  | succ d ih =>
    intro j hj
    have a := A j (by omega)
    refine pk_le i j (fun z => by omega) (fun _ => ⟨vp_in_nI a.1 (by decide), nm_r (e' := nI (xm_hop CN (j + 1) c)) ?_ (nm_r (nI_1 j) (ih (j + 1) (by omega)))⟩)
    rw [nI_clamp (by omega)]
    exact a.2
end
section
/-! the component's step: workOut -/
variable {tc pe lc uc tk rc pc en : Int32} {va : Int64} {oc cc sc dp ed : Int32} {T ES HP FT FE : Nat → Int32} {FF : Nat → Int64} {SZ : Nat → Int32} {CV : Nat → Int64} {CN MK RE OU : Nat → Int32}
/-- the component's state in the middle of a step: d0 the depth noted before, k0 the cells taken before -/
def xr_Q (n : Nat) (T ES HP : Nat → Int32) (d0 k0 : Nat) (S : pm_S) (u : SX) : Prop := match S, u with
  | (m, K, sg, nm, b, out, o1, c1, mm, e), (tc, pe, lc, uc, tk, _, pc, en, va, oc, cc, sc, dp, ed, T', ES', HP', FT, FE, FF, SZ, CV, CN, _, _, OU) =>
    tc = nI n ∧ T' = T ∧ ES' = ES ∧ HP' = HP ∧ oc = nI o1 ∧ OU = out ∧ cc = nI c1 ∧ sc = nI sg.length ∧ dp = nI d0 ∧ ed = nI e ∧
    (e = 0 → xr_P m K sg nm b pe lc uc pc en va FT FE FF SZ CV CN ∧ (tk = nI k0 ∨ tk = nI (k0 + 1) ∧ ∃ p s, m = .inl (p, s))) ∧
    (e = 1 → ∃ w L f, m = .inr w ∧ xm_V L f va w) ∧
    (1 ≤ e → tk = nI k0 ∧ ∃ kp, pe = nI kp ∧ kp ≤ mm ∧ (d0 = 0 → 1 ≤ kp))
theorem xr_go {n d0 k0 k : Nat} {m : pm_M} {K : List pm_F} {sg : List (List pm_F)} {nm : pm_N} {b o1 c1 mm : Nat} (P : xr_P m K sg nm b pe lc uc pc en va FT FE FF SZ CV CN) (hk : k = k0 ∨ k = k0 + 1 ∧ ∃ p s, m = .inl (p, s)) :
    xr_Q n T ES HP d0 k0 (pm_go m K sg nm b OU o1 c1 mm) (nI n, pe, lc, uc, nI k, rc, pc, en, va, nI o1, nI c1, nI sg.length, nI d0, 0, T, ES, HP, FT, FE, FF, SZ, CV, CN, MK, RE, OU) :=
  ⟨rfl, rfl, rfl, rfl, rfl, rfl, rfl, rfl, rfl, rfl, fun _ => ⟨P, by rcases hk with h | h; exact Or.inl (by rw [h]); exact Or.inr ⟨by rw [h.1], h.2⟩⟩, fun z => absurd z (by decide), fun z => absurd z (by decide)⟩
theorem xr_st {n d0 k0 kp : Nat} {m : pm_M} {K : List pm_F} {sg : List (List pm_F)} {nm : pm_N} {b o1 c1 mm e : Nat} (he : 2 ≤ e) (h1 : kp ≤ mm) (h2 : d0 = 0 → 1 ≤ kp) :
    xr_Q n T ES HP d0 k0 (m, K, sg, nm, b, OU, o1, c1, mm, e) (nI n, nI kp, lc, uc, nI k0, rc, pc, en, va, nI o1, nI c1, nI sg.length, nI d0, nI e, T, ES, HP, FT, FE, FF, SZ, CV, CN, MK, RE, OU) :=
  ⟨rfl, rfl, rfl, rfl, rfl, rfl, rfl, rfl, rfl, rfl, fun z => by omega, fun z => by omega, fun _ => ⟨rfl, kp, rfl, h1, h2⟩⟩
theorem xw_take {post : SX → Prop} {k : Nat} {a : Int32} (hk : k < 4) (h : post (tc, pe, lc, uc, tk, rc, -1, en, xm_vo k a, oc, cc, sc, dp, ed, T, ES, HP, FT, FE, FF, SZ, CV, CN, MK, RE, OU)) : wpX_takeInHand post (tc, pe, lc, uc, tk, rc, pc, en, va, oc, cc, sc, dp, ed, T, ES, HP, FT, FE, FF, SZ, CV, CN, MK, RE, OU) (nI k) a := by
  unfold wpX_takeInHand wpX_valueOf
  show post _
  rw [xv_vo hk]
  exact h
theorem xw_slp {post : SX → Prop} {L : Nat → Prop} {f : Nat → Nat} {K1 : List pm_F} (hK : K1.length < 100) :
    ∀ (z : List pm_F), z.length < 100 → xm_R L f FT FE FF 0 (z ++ none :: K1) → (∀ g, g ∈ z → ∃ p s o, g = some (p, s, o) ∧ p < 32) → wX_shift_53 post (nI (K1.length + 1)) tc pe lc uc tk rc pc en va oc cc sc dp ed T ES HP FT FE FF SZ CV CN MK RE OU → (z ++ none :: K1).length < 144 → wX_shift_30 post tc pe lc uc tk rc pc en va oc cc sc dp ed T ES HP FT FE FF SZ CV CN MK RE OU (z.length + 1) (nI (z ++ none :: K1).length) := by
  intro z
  induction z with
  | nil =>
    intro _ hR _ h hl
    have e : FT (0 + K1.length) = -1 := hR.1.1
    rw [Nat.zero_add] at e
    show wX_shift_30 post tc pe lc uc tk rc pc en va oc cc sc dp ed T ES HP FT FE FF SZ CV CN MK RE OU 1 (nI (K1.length + 1))
    refine pk_le (K1.length + 1) 1 (fun _ => h) (fun c => ?_)
    rw [nI_pred, nI_clamp (by omega)]
    exact ⟨vp_in_nI (by omega) (by decide), br_t e h⟩
  | cons g z ih =>
    intro hz hR hs h hl
    obtain ⟨p, s, o, e, hp⟩ := hs g (List.mem_cons_self ..)
    subst e
    have e : FT (0 + (z ++ none :: K1).length) = nI p := hR.1.1
    rw [Nat.zero_add] at e
    have el : (some (p, s, o) :: z ++ none :: K1).length = (z ++ none :: K1).length + 1 := rfl
    rw [el] at hl ⊢
    rw [List.length_cons] at hz
    have e1 : (z ++ none :: K1).length = z.length + (K1.length + 1) := by rw [List.length_append, List.length_cons]
    refine pk_le ((z ++ none :: K1).length + 1) 1 (fun c => by omega) (fun c => ?_)
    rw [nI_pred, nI_clamp (by omega), e]
    exact ⟨vp_in_nI (by omega) (by decide), br_f (ys_ne (by omega)) (nm_r (pk_m1 _) (ih (by omega) hR.2 (fun g hg => hs g (List.mem_cons_of_mem _ hg)) h (by omega)))⟩
theorem xw_shift {post : SX → Prop} {L : Nat → Prop} {f : Nat → Nat} {fl : List Nat} {ln k b c s p y : Nat} {z K1 : List pm_F} {sg : List (List pm_F)} {nm : pm_N} (hb : b ≤ 8703) (h8 : 8 ≤ ln) (hl : ln ≤ 8 + b) (hR : xm_R L f FT FE FF 0 (z ++ none :: K1)) (hG : xm_G L f FT FE FF SZ sg) (hH : xm_H L f CV CN nm b ln) (hU : xm_U L CN ln fl) (hc : xm_E L f c s)
    (hz : ∀ g, g ∈ z → ∃ p s o, g = some (p, s, o) ∧ p < 32) (hK : (z ++ none :: K1).length ≤ 16) (hs : sg.length < 8) (h15 : ∀ y, y ∈ sg → y.length ≤ 15) (hp : p < 32)
    (h : ∀ lc uc en FT FE FF SZ CV CN, xr_P (.inl (p + 1, b + 1)) (none :: K1) (sg ++ [z]) (pm_bd nm b y (.inr (.inr sg.length)) s) (b + 1) (nI (K1.length + 1)) lc uc (nI (p + 1)) en va FT FE FF SZ CV CN → post (tc, nI (K1.length + 1), lc, uc, nI (k + 1), rc, nI (p + 1), en, va, oc, cc, nI (sg.length + 1), dp, ed, T, ES, HP, FT, FE, FF, SZ, CV, CN, MK, RE, OU)) :
    wpX_shift post (tc, nI (z ++ none :: K1).length, nI ln, nI (yn_hd fl), nI k, rc, nI p, nI c, va, oc, cc, nI sg.length, dp, ed, T, ES, HP, FT, FE, FF, SZ, CV, CN, MK, RE, OU) := by
  have el : (z ++ none :: K1).length = z.length + (K1.length + 1) := by rw [List.length_append, List.length_cons]
  have hpos : ∀ x, L x → 0 < x := fun x hx => (hH x hx).1
  refine pk_eq sg.length 8 (fun w => by omega) (fun _ => nm_r (nI_1 sg.length) ⟨z.length + 1, xw_slp (by omega) z (by omega) hR hz ?_ (by omega)⟩)
  have Ra := xm_Ra (L := L) (f := f) (te := FT) (en := FE) (fi := FF) (o := 0) z (none :: K1)
  obtain ⟨R1, R2⟩ := Ra.mp hR
  rw [Nat.zero_add, List.length_cons] at R1
  have es : (sg.length + 1) * 16 = (sg.length + 1) * 16 := rfl
  have G2 : xm_G (xm_add L (sg.length + 1)) f (xm_cp FT (K1.length + 1) ((sg.length + 1) * 16) z.length) (xm_cp FE (K1.length + 1) ((sg.length + 1) * 16) z.length) (xm_cp FF (K1.length + 1) ((sg.length + 1) * 16) z.length) (upd SZ (sg.length + 1) (nI z.length)) (sg ++ [z]) :=
    xm_Gshift hG hpos h15 R1 (fun j hj => ⟨xm_cpo (Or.inl hj), xm_cpo (Or.inl hj), xm_cpo (Or.inl hj)⟩) (fun i hi => ⟨xm_cpi hi, xm_cpi hi, xm_cpi hi⟩)
  have M := xm_Ms L f (sg.length + 1)
  have R3 : xm_R (xm_add L (sg.length + 1)) f (xm_cp FT (K1.length + 1) ((sg.length + 1) * 16) z.length) (xm_cp FE (K1.length + 1) ((sg.length + 1) * 16) z.length) (xm_cp FF (K1.length + 1) ((sg.length + 1) * 16) z.length) 0 (none :: K1) := by
    refine xm_Rm M _ (xm_Rc _ (fun i hi => ?_) R2)
    rw [List.length_cons] at hi
    have q : 0 + i < (sg.length + 1) * 16 := by omega
    exact ⟨xm_cpo (Or.inl q), xm_cpo (Or.inl q), xm_cpo (Or.inl q)⟩
  have H2 : xm_H (xm_add L (sg.length + 1)) f CV CN nm b ln := by
    intro x hx
    rcases hx with q | q
    · obtain ⟨a1, a2, a3⟩ := hH x q
      refine ⟨a1, a2, fun h9 => ?_⟩
      obtain ⟨b1, b2, ⟨d, b3, b4⟩, b5⟩ := a3 h9
      exact ⟨b1, b2, ⟨d, b3, xm_Em M b4⟩, xm_Vm M _ b5⟩
    · refine ⟨by omega, by omega, fun h9 => by omega⟩
  have U2 : xm_U (xm_add L (sg.length + 1)) CN ln fl := by
    refine ⟨hU.1, hU.2.1, fun x hx => ?_⟩
    obtain ⟨a1, a2, a3⟩ := hU.2.2 x hx
    refine ⟨a1, a2, fun q => ?_⟩
    rcases q with q | q
    · exact a3 q
    · omega
  have esub : nI (z ++ none :: K1).length - nI (K1.length + 1) = nI z.length := by
    rw [el, pk_sub (by omega)]
    exact congrArg nI (by omega)
  have emul : nI (sg.length + 1) * 16 = nI ((sg.length + 1) * 16) := pk_mul (sg.length + 1) 16
  refine nm_r esub ⟨vp_in_nI (by omega) (by decide), nm_r (e' := upd SZ (sg.length + 1) (nI z.length)) (by rw [nI_clamp (by omega)]) ?_⟩
  rw [emul]
  refine xw_copy (by omega) (by omega) (Or.inl (by omega)) ?_
  have ev : ((3 : Int32).toInt64 <<< ((32 : Int32).toInt64 &&& 63)) ||| ((nI (sg.length + 1)).toInt64 &&& 4294967295) = xm_vo 3 (nI (sg.length + 1)) := xv_vo (k := 3) (by decide) _
  unfold wpX_valueOf
  show wpX_giveName _ _ (((3 : Int32).toInt64 <<< ((32 : Int32).toInt64 &&& 63)) ||| ((nI (sg.length + 1)).toInt64 &&& 4294967295)) _
  rw [ev]
  refine xw_bind (y := y) (v := .inr (.inr sg.length)) (K := none :: K1) hb h8 hl R3 G2 H2 U2 ⟨rfl, Or.inr rfl⟩ (xm_Em M hc) (fun lc' uc' en' CV' CN' Q => nm_r (nI_1 p) ?_)
  exact h _ _ _ _ _ _ _ _ _ (Q (p + 1))
end
section
/-! the component's step: workOut -/
variable {tc pe lc uc tk rc pc en : Int32} {va : Int64} {oc cc sc dp ed : Int32} {T ES HP FT FE : Nat → Int32} {FF : Nat → Int64} {SZ : Nat → Int32} {CV : Nat → Int64} {CN MK RE OU : Nat → Int32}
theorem xw_work {post : SX → Prop} {t : Nat → Nat} {n p s d0 k0 : Nat} {K : List pm_F} {sg : List (List pm_F)} {nm : pm_N} {b o1 c1 mm : Nat} (hT : tx_T T t n) (hn : n ≤ 32) (hHP : xt_H HP t n) (I : pm_I t n (.inl (p, s)) K sg nm b o1 c1 mm)
    (P : xr_P (.inl (p, s)) K sg nm b pe lc uc pc en va FT FE FF SZ CV CN) (h : ∀ u, xr_Q n T ES HP d0 k0 (pm_evl t p s K sg nm b OU o1 c1 mm) u → post u) :
    wpX_workOut post (nI n, pe, lc, uc, nI k0, rc, pc, en, va, nI o1, nI c1, nI sg.length, nI d0, 0, T, ES, HP, FT, FE, FF, SZ, CV, CN, MK, RE, OU) := by
  have hbb := kp_bb t n I
  obtain ⟨⟨hp, hs⟩, hB, hA, i1, i2, i3, i4, i5⟩ := I
  have hKn := kp_Bn hB.2.2
  obtain ⟨t1, t2⟩ := hT p hp
  have t3 := tx_t120 t2
  unfold tx_tok at t2
  have hBl := hB.2.1
  obtain ⟨L, f, fl, ln, e1, e2, h8, hl, e3, hR, hG, hH, hU, e4, c, e5, hc⟩ := P
  subst e1 e2 e3 e4 e5
  have hc9 := xm_E9 hc
  unfold pm_evl at h
  refine ⟨vp_in_nI (by omega) (by decide), nm_r (e' := nI (t p)) (by rw [nI_clamp (by omega)]; exact t1) ⟨by decide, nm_r (xt_d10 (by omega)) ?_⟩⟩
  by_cases c4 : t p < 40
  · -- a name
    rw [if_pos c4] at h
    refine pk_eq (t p / 10) 3 (fun _ => ?_) (fun z => by omega)
    have ehp := hHP p hp
    unfold tx_hp at ehp
    rw [if_pos c4] at ehp
    cases ei : tx_ix (tx_G t p) (t p % 10) with
    | none =>
      rw [ei] at ehp
      have el := (tx_ixl nm (t p % 10) (tx_G t p) s).mpr ei
      rw [el] at h
      refine ⟨vp_in_nI (by omega) (by decide), nm_r (e' := -1) (by rw [nI_clamp (by omega)]; exact ehp) (br_t rfl ?_)⟩
      exact h _ (xr_st (by decide) i3 (fun _ => hKn))
    | some i =>
      rw [ei] at ehp
      cases el : pm_look nm (tx_G t p) (t p % 10) s with
      | none => exact absurd ((tx_ixl nm (t p % 10) (tx_G t p) s).mp el) (by rw [ei]; simp)
      | some v =>
        rw [el] at h
        have b1 := tx_ixb _ _ _ ei
        have b2 := tx_grl t p p
        have b3 : i < p := Nat.lt_of_lt_of_le b1 b2
        refine ⟨vp_in_nI (by omega) (by decide), nm_r (e' := nI i) (by rw [nI_clamp (by omega)]; exact ehp) (br_f (ys_ne (by omega)) ⟨i + 1, ?_⟩)⟩
        refine xw_hlp hH hs hc ei el (by omega) (fun va' hv => ?_) i 0 (by omega)
        exact h _ (xr_go ⟨L, f, fl, ln, rfl, rfl, h8, hl, rfl, hR, hG, hH, hU, rfl, hv⟩ (Or.inl rfl))
  rw [if_neg c4] at h
  refine pk_eq (t p / 10) 3 (fun z => by omega) (fun _ => ?_)
  by_cases c5 : t p < 50
  · -- a function
    rw [if_pos c5] at h
    refine pk_eq (t p / 10) 4 (fun _ => ?_) (fun z => by omega)
    have em : (nI p * 9000) + nI c = nI (p * 9000 + c) := by
      rw [show (9000 : Int32) = nI 9000 from rfl, pk_mul, nI_add]
    rw [em]
    refine xw_take (k := 2) (by decide) ?_
    exact h _ (xr_go ⟨L, f, fl, ln, rfl, rfl, h8, hl, rfl, hR, hG, hH, hU, rfl, c, rfl, hc⟩ (Or.inl rfl))
  rw [if_neg c5] at h
  refine pk_eq (t p / 10) 4 (fun z => by omega) (fun _ => ?_)
  by_cases c7 : t p < 70
  · -- an operation
    rw [if_pos c7] at h
    refine pk_eq (t p / 10) 7 (fun z => by omega) (fun _ => ?_)
    have Q : wX_workOut_77 post (nI (t p)) (nI n) (nI K.length) (nI ln) (nI (yn_hd fl)) (nI k0) rc (nI p) (nI c) va (nI o1) (nI c1) (nI sg.length) (nI d0) 0 T ES HP FT FE FF SZ CV CN MK RE OU := by
      unfold wX_workOut_77
      refine pk_eq K.length 16 (fun cK => ?_) (fun cK => ?_)
      · rw [if_pos cK] at h
        exact h _ (xr_st (by decide) i3 (fun _ => hKn))
      · rw [if_neg cK] at h
        have hpos : ∀ x, L x → 0 < x := fun x hx => (hH x hx).1
        have G2 : ∀ a d, xm_G L f (upd FT K.length a) (upd FE K.length d) (vp_updL FF K.length 0) SZ sg := by
          intro a d
          refine xm_Gc hG hpos (fun j hj => ⟨pk_un (by omega), pk_un (by omega), pk_uLn (by omega)⟩)
        refine pk_eq (t p) 59 (fun c9 => ?_) (fun c9 => ?_)
        · rw [if_pos c9] at h
          refine xw_push (by omega) (nm_r (nI_1 p) ?_)
          exact h _ (xr_go (K := none :: K) ⟨L, f, fl, ln, rfl, rfl, h8, hl, rfl, xm_Rpush hR ⟨rfl, rfl, rfl⟩, G2 _ _, hH, hU, rfl, c, rfl, hc⟩ (Or.inl rfl))
        · rw [if_neg c9] at h
          refine xw_push (by omega) (nm_r (nI_1 p) ?_)
          exact h _ (xr_go (K := some (p, s, none) :: K) ⟨L, f, fl, ln, rfl, rfl, h8, hl, rfl, xm_Rpush hR ⟨rfl, ⟨c, rfl, hc⟩, rfl⟩, G2 _ _, hH, hU, rfl, c, rfl, hc⟩ (Or.inl rfl))
    exact br_c (fun _ => Q) (fun z5 => br_c (fun _ => Q) (fun z6 => absurd (show t p / 10 = 5 ∨ t p / 10 = 6 by omega) (fun w => by
      rcases w with w | w
      · exact z5 (by rw [w]; rfl)
      · exact z6 (by rw [w]; rfl))))
  rw [if_neg c7] at h
  by_cases c8 : t p < 80
  · -- a shift
    rw [if_pos c8] at h
    refine pk_eq (t p / 10) 7 (fun _ => ?_) (fun z => by omega)
    by_cases cS : sg.length = 8
    · rw [if_pos cS] at h
      unfold wpX_shift
      refine br_t (by rw [cS]; rfl) ?_
      exact h _ (xr_st (by decide) i3 (fun _ => hKn))
    rw [if_neg cS] at h
    obtain ⟨z, K1, f1, f2, f3, f4, f5⟩ := kp_cut K hB.2.2
    rw [f1, f2] at h
    have hA1 := hA.1
    have hz : ∀ f, f ∈ z → ∃ p s o, f = some (p, s, o) ∧ p < 32 := by
      intro f hf
      have g1 := f4 f hf
      have g2 := hB.1 f (by rw [f3]; exact List.mem_append_left _ hf)
      rcases f with _ | ⟨p, s, o⟩
      · exact absurd g1 (by decide)
      · exact ⟨p, s, o, rfl, by have := g2.1; omega⟩
    have el : (sg ++ [z]).length = sg.length + 1 := by rw [List.length_append]; rfl
    rw [f3] at hR hBl ⊢
    refine xw_shift (y := t p % 10) hbb h8 hl hR hG hH hU hc hz hBl (by omega) (fun y hy => (hA.2.1 y hy).1) (by omega) (fun lc' uc' en' FT' FE' FF' SZ' CV' CN' Q => ?_)
    have H := h _ (xr_go (n := n) (d0 := d0) (T := T) (ES := ES) (HP := HP) (OU := OU) (o1 := o1) (c1 := c1) (mm := mm) (rc := rc) (MK := MK) (RE := RE) Q (Or.inr ⟨rfl, _, _, rfl⟩))
    rw [el] at H
    exact H
  · -- a number
    rw [if_neg c8] at h
    refine pk_eq (t p / 10) 7 (fun z => by omega) (fun _ => pk_eq (t p / 10) 5 (fun z => by omega) (fun _ => pk_eq (t p / 10) 6 (fun z => by omega) (fun _ => ?_)))
    refine xw_take (k := 1) (by decide) ?_
    exact h _ (xr_go ⟨L, f, fl, ln, rfl, rfl, h8, hl, rfl, hR, hG, hH, hU, rfl, rfl⟩ (Or.inl rfl))
end
section
/-! the component's step: callFunction, resume, reckon -/
variable {tc pe lc uc tk rc pc en : Int32} {va : Int64} {oc cc sc dp ed : Int32} {T ES HP FT FE : Nat → Int32} {FF : Nat → Int64} {SZ : Nat → Int32} {CV : Nat → Int64} {CN MK RE OU : Nat → Int32}
theorem xw_kind {post : Int32 → Prop} {k : Nat} {a : Int32} (hk : k < 4) (h : post (nI k)) : wpX_kindOf post (xm_vo k a) := by
  unfold wpX_kindOf
  show post _
  rw [xv_kd hk]
  exact h
theorem xw_resume {post : SX → Prop} {L : Nat → Prop} {f : Nat → Nat} {j : Nat} {K : List pm_F} {sg : List (List pm_F)} (hj : j < sg.length) (h8 : sg.length ≤ 8) (hL : L (j + 1)) (hK : K.length ≤ 16) (hpos : ∀ x, L x → 0 < x) (h15 : (sg.getD j []).length ≤ 15) (hR : xm_R L f FT FE FF 0 K) (hG : xm_G L f FT FE FF SZ sg)
    (h1 : K.length + 1 + (sg.getD j []).length ≤ 16 → ∀ FT FE FF, xm_R L f FT FE FF 0 (sg.getD j [] ++ none :: K) → xm_G L f FT FE FF SZ sg → post (tc, nI (sg.getD j [] ++ none :: K).length, lc, uc, tk, rc, pc, en, va, oc, cc, sc, dp, ed, T, ES, HP, FT, FE, FF, SZ, CV, CN, MK, RE, OU))
    (h0 : 16 < K.length + 1 + (sg.getD j []).length → post (tc, nI K.length, lc, uc, tk, rc, pc, en, va, oc, cc, sc, dp, 4, T, ES, HP, FT, FE, FF, SZ, CV, CN, MK, RE, OU)) : wpX_resume post (tc, nI K.length, lc, uc, tk, rc, pc, en, va, oc, cc, sc, dp, ed, T, ES, HP, FT, FE, FF, SZ, CV, CN, MK, RE, OU) (nI (j + 1)) := by
  obtain ⟨g1, g2, g3⟩ := hG (j + 1) hL (by omega)
  rw [Nat.add_sub_cancel] at g2 g3
  have el : (sg.getD j [] ++ none :: K).length = (K.length + 1) + (sg.getD j []).length := by rw [List.length_append, List.length_cons]; omega
  rw [el] at h1
  refine ⟨vp_in_nI (by omega) (by decide), nm_r (e' := nI (sg.getD j []).length) (by rw [nI_clamp (by omega)]; exact g2) ?_⟩
  refine pk_le (K.length + 1 + (sg.getD j []).length) 16 (fun c => ?_) (fun c => h0 c) (by rw [nI_1, nI_add])
  refine xw_push (by omega) ?_
  have em : nI (j + 1) * 16 = nI ((j + 1) * 16) := pk_mul (j + 1) 16
  rw [em]
  refine xw_copy (by omega) (by omega) (Or.inr (by omega)) (nm_r (nI_add _ _) ?_)
  refine h1 c _ _ _ ?_ ?_
  · refine (xm_Ra _ _).mpr ⟨xm_Rc _ (fun i hi => ?_) g3, xm_Rc _ (fun i hi => ?_) (xm_Rpush (g := none) hR ⟨rfl, rfl, rfl⟩)⟩
    · have e : 0 + (none :: K).length + i = K.length + 1 + i := by rw [List.length_cons]; omega
      rw [e, xm_cpi hi, xm_cpi hi, xm_cpi hi]
      exact ⟨pk_un (by omega), pk_un (by omega), pk_uLn (by omega)⟩
    · rw [List.length_cons] at hi
      have q : 0 + i < K.length + 1 := by omega
      rw [xm_cpo (Or.inl q), xm_cpo (Or.inl q), xm_cpo (Or.inl q)]
      exact ⟨rfl, rfl, rfl⟩
  · refine xm_Gc hG hpos (fun i hi => ?_)
    have q : K.length + 1 + (sg.getD j []).length ≤ i := by omega
    rw [xm_cpo (Or.inr q), xm_cpo (Or.inr q), xm_cpo (Or.inr q)]
    exact ⟨pk_un (by omega), pk_un (by omega), pk_uLn (by omega)⟩
theorem xw_call {post : SX → Prop} {t : Nat → Nat} {n d0 k0 ln : Nat} {L : Nat → Prop} {f : Nat → Nat} {fl : List Nat} {w v : pm_V} {l : Int64} {K : List pm_F} {sg : List (List pm_F)} {nm : pm_N} {b o1 c1 mm : Nat} (hn : n ≤ 32) (hb : b ≤ 8703) (hd : 1 ≤ d0)
    (hpw : pm_v t n nm b sg.length w) (hA : pm_A t n sg nm b) (hK : K.length ≤ 16) (hKm : K.length ≤ mm) (hc1 : c1 ≤ 40) (h8 : 8 ≤ ln) (hl : ln ≤ 8 + b) (hR : xm_R L f FT FE FF 0 K) (hG : xm_G L f FT FE FF SZ sg) (hH : xm_H L f CV CN nm b ln) (hU : xm_U L CN ln fl) (hw : xm_V L f l w) (hv : xm_V L f va v)
    (h : ∀ u, xr_Q n T ES HP d0 k0 (pm_cal t w v K sg nm b OU o1 c1 mm) u → post u) :
    wpX_callFunction post (nI n, nI K.length, nI ln, nI (yn_hd fl), nI k0, rc, -1, en, va, nI o1, nI c1, nI sg.length, nI d0, 0, T, ES, HP, FT, FE, FF, SZ, CV, CN, MK, RE, OU) l := by
  unfold pm_cal at h
  unfold wpX_callFunction
  rcases w with a | ⟨s, p⟩ | j
  · have e : l = xm_vo 1 a := hw
    subst e
    refine xw_kind (by decide) (br_t rfl ?_)
    exact h _ (xr_st (by decide) hKm (fun z => by omega))
  · obtain ⟨c, e, hc⟩ := hw
    subst e
    obtain ⟨hp, hp4, hs⟩ := hpw
    have hc9 := xm_E9 hc
    have h' : ∀ u, xr_Q n T ES HP d0 k0 (if c1 = 40 then (.inr v, K, sg, nm, b, OU, o1, c1, mm, 3) else pm_go (.inl (p + 1, b + 1)) K sg (pm_bd nm b (t p % 10) v s) (b + 1) OU o1 (c1 + 1) mm) u → post u := h
    refine xw_kind (by decide) (br_f (by decide) (pk_eq c1 40 (fun q => ?_) (fun q => nm_r (nI_1 c1) (br_f (by decide) ⟨by decide, ?_⟩))))
    · rw [if_pos q] at h'
      exact h' _ (xr_st (by decide) hKm (fun z => by omega))
    · rw [if_neg q] at h'
      rw [xv_ct]
      have e1 : nI (p * 9000 + c) - nI (p * 9000 + c) / 9000 * 9000 = nI c := by
        rw [show (9000 : Int32) = nI 9000 from rfl, pk_rem (by omega) (by omega) (by omega)]
        exact congrArg nI (by omega)
      have e2 : nI (p * 9000 + c) / 9000 + 1 = nI (p + 1) := by
        rw [show (9000 : Int32) = nI 9000 from rfl, pk_div (by omega) (by omega) (by omega), nI_1]
        exact congrArg nI (by omega)
      rw [e1]
      refine xw_bind (y := t p % 10) hb h8 hl hR hG hH hU hv hc (fun lc' uc' en' CV' CN' Q => ⟨by decide, nm_r e2 ?_⟩)
      exact h' _ (xr_go (Q (p + 1)) (Or.inr ⟨rfl, _, _, rfl⟩))
  · obtain ⟨e, hL⟩ := hw
    subst e
    have hj : j < sg.length := hpw
    have hA1 := hA.1
    have h' : ∀ u, xr_Q n T ES HP d0 k0 (if c1 = 40 then (.inr v, K, sg, nm, b, OU, o1, c1, mm, 3) else if 16 < K.length + 1 + (sg.getD j []).length then (.inr v, K, sg, nm, b, OU, o1, c1 + 1, mm, 4) else pm_go (.inr v) (sg.getD j [] ++ none :: K) sg nm b OU o1 (c1 + 1) mm) u → post u := h
    refine xw_kind (by decide) (br_f (by decide) (pk_eq c1 40 (fun q => ?_) (fun q => nm_r (nI_1 c1) (br_t rfl ?_))))
    · rw [if_pos q] at h'
      exact h' _ (xr_st (by decide) hKm (fun z => by omega))
    · rw [if_neg q] at h'
      rw [xv_ct]
      refine xw_resume hj hA.1 hL hK (fun x hx => (hH x hx).1) (hA.2.1 _ (yn_gm hj)).1 hR hG (fun q2 FT FE FF R2 G2 => ?_) (fun q2 => ?_)
      · rw [if_neg (by omega)] at h'
        exact h' _ (xr_go ⟨L, f, fl, ln, rfl, rfl, h8, hl, rfl, R2, G2, hH, hU, rfl, hv⟩ (Or.inl rfl))
      · rw [if_pos q2] at h'
        exact h' _ (xr_st (by decide) hKm (fun z => by omega))
theorem xw_rk97 {post : SX → Prop} {a : Int32} (h : post (tc, pe, lc, uc, tk, rc, pc, en, xm_vo 1 a, oc, cc, sc, dp, ed, T, ES, HP, FT, FE, FF, SZ, CV, CN, MK, RE, OU)) : wX_reckon_97 post a tc pe lc uc tk rc pc en va oc cc sc dp ed T ES HP FT FE FF SZ CV CN MK RE OU := by
  unfold wX_reckon_97 wpX_valueOf
  have e : ((1 : Int32).toInt64 <<< ((32 : Int32).toInt64 &&& 63)) ||| (a.toInt64 &&& 4294967295) = xm_vo 1 a := xv_vo (k := 1) (by decide) a
  show post _
  rw [e]
  exact h
theorem xw_reckon {post : SX → Prop} {x : Nat} {a c : Int32} (hx : 52 < x) (hx2 : x < 57) (h : post (tc, pe, lc, uc, tk, rc, pc, en, xm_vo 1 (pm_rk x a c), oc, cc, sc, dp, ed, T, ES, HP, FT, FE, FF, SZ, CV, CN, MK, RE, OU)) : wpX_reckon post (tc, pe, lc, uc, tk, rc, pc, en, xm_vo 1 c, oc, cc, sc, dp, ed, T, ES, HP, FT, FE, FF, SZ, CV, CN, MK, RE, OU) (nI x) (xm_vo 1 a) := by
  unfold wpX_reckon
  unfold pm_rk at h
  refine xw_kind (by decide) (br_t rfl (xw_kind (by decide) (br_t rfl ?_)))
  rw [xv_ct, xv_ct]
  refine pk_eq x 53 (fun e => nm_e (xw_rk97 (by rw [if_pos e] at h; exact h))) (fun e1 => pk_eq x 54 (fun e => nm_e (xw_rk97 (by rw [if_neg e1, if_pos e] at h; exact h))) (fun e2 => pk_eq x 55 (fun e => nm_e (xw_rk97 (by rw [if_neg e1, if_neg e2, if_pos e] at h; exact h))) (fun e3 => ?_)))
  rw [if_neg e1, if_neg e2, if_neg e3] at h
  refine br_c (fun z => xw_rk97 ?_) (fun z => xw_rk97 ?_)
  · rw [if_neg (Int32.not_lt.mpr z)] at h; exact h
  · rw [if_pos (Int32.not_le.mp z)] at h; exact h
end
section
/-! the component's step: handBack -/
variable {tc pe lc uc tk rc pc en : Int32} {va : Int64} {oc cc sc dp ed : Int32} {T ES HP FT FE : Nat → Int32} {FF : Nat → Int64} {SZ : Nat → Int32} {CV : Nat → Int64} {CN MK RE OU : Nat → Int32}
theorem xv_nz {L : Nat → Prop} {f : Nat → Nat} {l : Int64} {v : pm_V} (h : xm_V L f l v) : ¬ l = 0 := by
  rcases v with a | ⟨s, p⟩ | j
  · have e : l = xm_vo 1 a := h
    rw [e]; exact xv_ne (by decide) (by decide) a
  · obtain ⟨c, e, _⟩ := h
    rw [e]; exact xv_ne (by decide) (by decide) _
  · rw [h.1]; exact xv_ne (by decide) (by decide) _
theorem xw_98 {post : SX → Prop} {t : Nat → Nat} {n d0 k0 ln p s c : Nat} {L : Nat → Prop} {f : Nat → Nat} {fl : List Nat} {o : Option pm_V} {v : pm_V} {K : List pm_F} {sg : List (List pm_F)} {nm : pm_N} {b o1 c1 mm : Nat} (W : tx_W t n) (hT : tx_T T t n) (hn : n ≤ 32) (hE : xt_E ES t 0 n) (hd : 1 ≤ d0)
    (I : pm_I t n (.inr v) (some (p, s, o) :: K) sg nm b o1 c1 mm) (ho2 : t p < 57 → ∃ w, o = some w) (h8 : 8 ≤ ln) (hl : ln ≤ 8 + b) (hR : xm_R L f FT FE FF 0 (some (p, s, o) :: K)) (hG : xm_G L f FT FE FF SZ sg) (hH : xm_H L f CV CN nm b ln) (hU : xm_U L CN ln fl) (hv : xm_V L f va v) (hc : xm_E L f c s) (hen : FE K.length = nI c)
    (h : ∀ u, xr_Q n T ES HP d0 k0 (pm_hnd t v (some (p, s, o) :: K) sg nm b OU o1 c1 mm) u → post u) :
    wX_handBack_98 post (nI K.length) (nI p) (nI (t p)) (nI n) (nI (K.length + 1)) (nI ln) (nI (yn_hd fl)) (nI k0) rc (-1) (nI c) va (nI o1) (nI c1) (nI sg.length) (nI d0) 0 T ES HP FT FE FF SZ CV CN MK RE OU := by
  have hbb := kp_bb t n I
  obtain ⟨hpv, hB, hA, i1, i2, i3, i4, i5⟩ := I
  obtain ⟨hp, h56, h59, hs, ho⟩ := hB.1 _ (List.mem_cons_self ..)
  obtain ⟨t1, t2⟩ := hT p hp
  have t3 := tx_t120 t2
  unfold tx_tok at t2
  have Pp := @kp_pt (t p)
  have T1 := tx_1 W hp (by omega)
  have hBl := hB.2.1
  rw [List.length_cons] at hBl i3
  have hR2 : xm_R L f FT FE FF 0 K := hR.2
  obtain ⟨r1, r2, r3⟩ := hR.1
  rw [Nat.zero_add] at r1 r3
  have ck : (nI K.length).toNatClampNeg = K.length := nI_clamp (by omega)
  have vk : vp_in (nI K.length) 144 := vp_in_nI (by omega) (by decide)
  have cp : (nI (p + 1)).toNatClampNeg = p + 1 := nI_clamp (by omega)
  have vp : vp_in (nI (p + 1)) 32 := vp_in_nI (by omega) (by decide)
  have ee : ES (p + 1) = nI (tx_e t (p + 1)) := hE (p + 1) (by omega) T1.1
  by_cases c57 : t p < 57
  · obtain ⟨w, ew⟩ := ho2 c57
    subst ew
    by_cases c52 : t p = 52
    · have h' : ∀ u, xr_Q n T ES HP d0 k0 (if t p < 57 then (if t p = 52 then pm_cal t w v K sg nm b OU o1 c1 mm else _) else _) u → post u := h
      rw [if_pos c57, if_pos c52] at h'
      refine br_t (by rw [c52]; rfl) ⟨vk, ?_⟩
      rw [ck]
      exact xw_call hn hbb hd ho.2 hA (by omega) (by omega) i2 h8 hl hR2 hG hH hU r3 hv h'
    · refine pk_eq (t p) 52 (fun q => absurd q c52) (fun _ => pk_lt 56 (t p) (fun q => by omega) (fun _ => ⟨vk, ?_⟩))
      rw [ck]
      have h' : ∀ u, xr_Q n T ES HP d0 k0 (if t p < 57 then (if t p = 52 then pm_cal t w v K sg nm b OU o1 c1 mm else (match w, v with
          | .inl a, .inl c => pm_go (.inr (.inl (pm_rk (t p) a c))) K sg nm b OU o1 c1 mm
          | _, _ => (.inr v, K, sg, nm, b, OU, o1, c1, mm, 2))) else _) u → post u := h
      rw [if_pos c57, if_neg c52] at h'
      have bad : xr_Q n T ES HP d0 k0 (.inr v, K, sg, nm, b, OU, o1, c1, mm, 2) (nI n, nI K.length, nI ln, nI (yn_hd fl), nI k0, rc, -1, nI c, va, nI o1, nI c1, nI sg.length, nI d0, 2, T, ES, HP, FT, FE, FF, SZ, CV, CN, MK, RE, OU) := xr_st (by decide) (by omega) (fun z => by omega)
      rcases w with a | ⟨s2, p2⟩ | j
      · have e1 : FF K.length = xm_vo 1 a := r3
        rw [e1]
        rcases v with d | ⟨s2, p2⟩ | j
        · have e2 : va = xm_vo 1 d := hv
          subst e2
          refine xw_reckon (by omega) c57 ?_
          exact h' _ (xr_go ⟨L, f, fl, ln, rfl, rfl, h8, hl, rfl, hR2, hG, hH, hU, rfl, rfl⟩ (Or.inl rfl))
        · obtain ⟨c', e2, _⟩ := hv
          subst e2
          unfold wpX_reckon
          exact xw_kind (by decide) (br_t rfl (xw_kind (by decide) (br_f (by decide) (h' _ bad))))
        · obtain ⟨e2, _⟩ := hv
          subst e2
          unfold wpX_reckon
          exact xw_kind (by decide) (br_t rfl (xw_kind (by decide) (br_f (by decide) (h' _ bad))))
      · obtain ⟨c', e1, _⟩ := r3
        rw [e1]
        unfold wpX_reckon
        exact xw_kind (by decide) (br_f (by decide) (h' _ bad))
      · rw [r3.1]
        unfold wpX_reckon
        exact xw_kind (by decide) (br_f (by decide) (h' _ bad))
  · refine pk_eq (t p) 52 (fun q => by omega) (fun _ => pk_lt 56 (t p) (fun _ => ?_) (fun q => by omega))
    by_cases c58 : t p < 58
    · have h' : ∀ u, xr_Q n T ES HP d0 k0 (if t p < 57 then _ else if t p < 58 then (match v with
          | .inl a => pm_go (.inl (if a = 0 then tx_e t (tx_e t (p + 1)) else tx_e t (p + 1), s)) K sg nm b OU o1 c1 mm
          | .inr _ => (.inr v, K, sg, nm, b, OU, o1, c1, mm, 2)) else _) u → post u := h
      rw [if_neg c57, if_pos c58] at h'
      have T2 := tx_2 W hp (by omega)
      have bad : xr_Q n T ES HP d0 k0 (.inr v, K, sg, nm, b, OU, o1, c1, mm, 2) (nI n, nI K.length, nI ln, nI (yn_hd fl), nI k0, rc, -1, nI c, va, nI o1, nI c1, nI sg.length, nI d0, 2, T, ES, HP, FT, FE, FF, SZ, CV, CN, MK, RE, OU) := xr_st (by decide) (by omega) (fun z => by omega)
      refine pk_eq (t p) 57 (fun _ => ?_) (fun q => by omega)
      rw [nI_1]
      refine ⟨vp, ?_⟩
      rw [cp, ee]
      unfold wpX_choose
      rcases v with a | ⟨s2, p2⟩ | j
      · have e2 : va = xm_vo 1 a := hv
        subst e2
        have h2 : ∀ u, xr_Q n T ES HP d0 k0 (pm_go (.inl (if a = 0 then tx_e t (tx_e t (p + 1)) else tx_e t (p + 1), s)) K sg nm b OU o1 c1 mm) u → post u := h'
        refine xw_kind (by decide) (br_t rfl ?_)
        rw [xv_ct]
        refine br_c (fun z => ⟨vp_in_nI (by omega) (by decide), nm_r (e' := nI (tx_e t (tx_e t (p + 1)))) ?_ ?_⟩) (fun z => ?_)
        · rw [nI_clamp (by omega)]; exact hE _ (by omega) T2.1
        · rw [if_pos z] at h2
          exact h2 _ (xr_go ⟨L, f, fl, ln, rfl, rfl, h8, hl, rfl, hR2, hG, hH, hU, rfl, c, rfl, hc⟩ (Or.inl rfl))
        · rw [if_neg z] at h2
          exact h2 _ (xr_go ⟨L, f, fl, ln, rfl, rfl, h8, hl, rfl, hR2, hG, hH, hU, rfl, c, rfl, hc⟩ (Or.inl rfl))
      · obtain ⟨c', e2, _⟩ := hv
        subst e2
        exact xw_kind (by decide) (br_f (by decide) (h' _ bad))
      · obtain ⟨e2, _⟩ := hv
        subst e2
        exact xw_kind (by decide) (br_f (by decide) (h' _ bad))
    refine pk_eq (t p) 57 (fun q => by omega) (fun _ => ?_)
    by_cases c60 : t p < 60
    · have h' : ∀ u, xr_Q n T ES HP d0 k0 (if t p < 57 then _ else if t p < 58 then _ else if t p < 60 then (match v with
          | .inl a => if o1 = 16 then (.inr v, K, sg, nm, b, OU, o1, c1, mm, 5) else pm_go (.inr (.inl a)) K sg nm b (upd OU o1 a) (o1 + 1) c1 mm
          | .inr _ => (.inr v, K, sg, nm, b, OU, o1, c1, mm, 2)) else _) u → post u := h
      rw [if_neg c57, if_neg c58, if_pos c60] at h'
      have bad : ∀ e, 2 ≤ e → xr_Q n T ES HP d0 k0 (.inr v, K, sg, nm, b, OU, o1, c1, mm, e) (nI n, nI K.length, nI ln, nI (yn_hd fl), nI k0, rc, -1, nI c, va, nI o1, nI c1, nI sg.length, nI d0, nI e, T, ES, HP, FT, FE, FF, SZ, CV, CN, MK, RE, OU) := fun e he => xr_st he (by omega) (fun z => by omega)
      refine pk_eq (t p) 58 (fun _ => ?_) (fun q => by omega)
      unfold wpX_putOut
      rcases v with a | ⟨s2, p2⟩ | j
      · have e2 : va = xm_vo 1 a := hv
        subst e2
        have h2 : ∀ u, xr_Q n T ES HP d0 k0 (if o1 = 16 then (.inr (.inl a), K, sg, nm, b, OU, o1, c1, mm, 5) else pm_go (.inr (.inl a)) K sg nm b (upd OU o1 a) (o1 + 1) c1 mm) u → post u := h'
        refine xw_kind (by decide) (br_t rfl ?_)
        rw [xv_ct]
        refine pk_eq o1 16 (fun q => ?_) (fun q => ⟨vp_in_nI (by omega) (by decide), nm_r (e' := upd OU o1 a) (by rw [nI_clamp (by omega)]) (nm_r (nI_1 o1) ?_)⟩)
        · rw [if_pos q] at h2
          exact h2 _ (bad 5 (by decide))
        · rw [if_neg q] at h2
          exact h2 _ (xr_go ⟨L, f, fl, ln, rfl, rfl, h8, hl, rfl, hR2, hG, hH, hU, rfl, rfl⟩ (Or.inl rfl))
      · obtain ⟨c', e2, _⟩ := hv
        subst e2
        exact xw_kind (by decide) (br_f (by decide) (h' _ (bad 2 (by decide))))
      · obtain ⟨e2, _⟩ := hv
        subst e2
        exact xw_kind (by decide) (br_f (by decide) (h' _ (bad 2 (by decide))))
    · have h' : ∀ u, xr_Q n T ES HP d0 k0 (if t p < 57 then _ else if t p < 58 then _ else if t p < 60 then _ else pm_go (.inl (tx_e t (p + 1), b + 1)) K sg (pm_bd nm b (t p % 10) v s) (b + 1) OU o1 c1 mm) u → post u := h
      rw [if_neg c57, if_neg c58, if_neg c60] at h'
      refine pk_eq (t p) 58 (fun q => by omega) (fun _ => ?_)
      refine xw_bind (y := t p % 10) hbb h8 hl hR2 hG hH hU hv hc (fun lc' uc' en' CV' CN' Q => ?_)
      show vp_in (nI p + 1) 32 ∧ _
      rw [nI_1]
      refine ⟨vp, nm_r (e' := nI (tx_e t (p + 1))) (by rw [cp]; exact ee) ?_⟩
      exact h' _ (xr_go (Q _) (Or.inr ⟨rfl, _, _, rfl⟩))
theorem xw_hand {post : SX → Prop} {t : Nat → Nat} {n d0 k0 : Nat} {v : pm_V} {K : List pm_F} {sg : List (List pm_F)} {nm : pm_N} {b o1 c1 mm : Nat} (W : tx_W t n) (hT : tx_T T t n) (hn : n ≤ 32) (hE : xt_E ES t 0 n) (hd : 1 ≤ d0)
    (I : pm_I t n (.inr v) K sg nm b o1 c1 mm) (P : xr_P (.inr v) K sg nm b pe lc uc pc en va FT FE FF SZ CV CN)
    (h : ∀ u, xr_Q n T ES HP d0 k0 (pm_hnd t v K sg nm b OU o1 c1 mm) u → post u) :
    wpX_handBack post (nI n, pe, lc, uc, nI k0, rc, pc, en, va, nI o1, nI c1, nI sg.length, nI d0, 0, T, ES, HP, FT, FE, FF, SZ, CV, CN, MK, RE, OU) := by
  have I' := I
  obtain ⟨hpv, hB, hA, i1, i2, i3, i4, i5⟩ := I
  rcases K with _ | ⟨g, K⟩
  · obtain ⟨K0, e⟩ := hB.2.2
    exact absurd (congrArg List.length e) (by simp)
  obtain ⟨L, f, fl, ln, e1, e2, h8, hl, e3, hR, hG, hH, hU, e4, hv⟩ := P
  subst e2 e3 e4
  have e1' : pe = nI (K.length + 1) := e1
  subst e1'
  have hBl := hB.2.1
  rw [List.length_cons] at hBl i3
  have ck : (nI K.length).toNatClampNeg = K.length := nI_clamp (by omega)
  have vk : vp_in (nI K.length) 144 := vp_in_nI (by omega) (by decide)
  have hR1 := hR.1
  rw [Nat.zero_add] at hR1
  refine nm_r (nI_pred K.length) ⟨vk, ?_⟩
  rw [ck]
  rcases g with _ | ⟨p, s, o⟩
  · refine nm_r hR1.1 (br_t rfl ?_)
    have h' : ∀ u, xr_Q n T ES HP d0 k0 (if K.length = 0 then (.inr v, K, sg, nm, b, OU, o1, c1, mm, 1) else pm_go (.inr v) K sg nm b OU o1 c1 mm) u → post u := h
    refine pk_eq K.length 0 (fun c => ?_) (fun c => ?_)
    · rw [if_pos c] at h'
      exact h' _ ⟨rfl, rfl, rfl, rfl, rfl, rfl, rfl, rfl, rfl, rfl, fun z => absurd z (by decide), fun _ => ⟨v, L, f, rfl, hv⟩, fun _ => ⟨rfl, K.length, rfl, by omega, fun z => by omega⟩⟩
    · rw [if_neg c] at h'
      exact h' _ (xr_go ⟨L, f, fl, ln, rfl, rfl, h8, hl, rfl, hR.2, hG, hH, hU, rfl, hv⟩ (Or.inl rfl))
  · obtain ⟨hp, h56, h59, hs, ho⟩ := hB.1 _ (List.mem_cons_self ..)
    obtain ⟨t1, t2⟩ := hT p hp
    have t3 := tx_t120 t2
    unfold tx_tok at t2
    have Pp := @kp_pt (t p)
    have T1 := tx_1 W hp (by omega)
    obtain ⟨r1, ⟨c, r2, hc⟩, r3⟩ := hR1
    refine nm_r r1 (br_f (ys_ne (by omega)) ⟨vp_in_nI (by omega) (by decide), nm_r (e' := nI (t p)) (by rw [nI_clamp (by omega)]; exact t1) ⟨vk, nm_r (e' := nI c) r2 ?_⟩⟩)
    refine pk_lt 56 (t p) (fun q => ?_) (fun q => ⟨vk, ?_⟩)
    · exact xw_98 W hT hn hE hd I' (fun z => by omega) h8 hl hR hG hH hU hv hc r2 h
    rcases o with _ | w
    · have h' : ∀ u, xr_Q n T ES HP d0 k0 (if t p < 57 then pm_go (.inl (tx_e t (p + 1), s)) (some (p, s, some v) :: K) sg nm b OU o1 c1 mm else _) u → post u := h
      rw [if_pos (by omega)] at h'
      refine br_t r3 ⟨vk, nm_r (e' := vp_updL FF K.length va) rfl ?_⟩
      rw [nI_1]
      refine ⟨vp_in_nI (by omega) (by decide), nm_r (e' := nI (tx_e t (p + 1))) (by rw [nI_clamp (by omega)]; exact hE (p + 1) (by omega) T1.1) ?_⟩
      have R2 : xm_R L f FT FE (vp_updL FF K.length va) 0 (some (p, s, some v) :: K) := by
        refine ⟨?_, xm_Rc K (fun i hi => ⟨rfl, rfl, pk_uLn (by omega)⟩) hR.2⟩
        rw [Nat.zero_add, pk_uLs]
        exact ⟨r1, ⟨c, r2, hc⟩, hv⟩
      have G2 : xm_G L f FT FE (vp_updL FF K.length va) SZ sg := xm_Gc hG (fun x hx => (hH x hx).1) (fun j hj => ⟨rfl, rfl, pk_uLn (by omega)⟩)
      exact h' _ (xr_go (K := some (p, s, some v) :: K) ⟨L, f, fl, ln, rfl, rfl, h8, hl, rfl, R2, G2, hH, hU, rfl, c, rfl, hc⟩ (Or.inl rfl))
    · refine br_f (xv_nz r3) ?_
      exact xw_98 W hT hn hE hd I' (fun _ => ⟨w, rfl⟩) h8 hl hR hG hH hU hv hc r2 h
end
section
/-! the collector: reach, reachValue, reachFrames -/
variable {tc pe lc uc tk rc pc en : Int32} {va : Int64} {oc cc sc dp ed : Int32} {T ES HP FT FE : Nat → Int32} {FF : Nat → Int64} {SZ : Nat → Int32} {CV : Nat → Int64} {CN MK RE OU : Nat → Int32}
/-- the marks have grown -/
def xc_G (L : Nat → Prop) (ln : Nat) (MK RE : Nat → Int32) (r : Nat) (MK' RE' : Nat → Int32) (r' : Nat) : Prop :=
  xm_K L MK' RE' ln r' ∧ (∀ y, xm_mk MK ln y → xm_mk MK' ln y) ∧ (∀ k, k < r → RE' k = RE k) ∧ r ≤ r'
theorem xc_r {L : Nat → Prop} {ln r : Nat} (K : xm_K L MK RE ln r) : xc_G L ln MK RE r MK RE r := ⟨K, fun _ h => h, fun _ _ => rfl, Nat.le_refl _⟩
theorem xc_t {L : Nat → Prop} {ln r r' r'' : Nat} {MK' RE' MK'' RE'' : Nat → Int32} (a : xc_G L ln MK RE r MK' RE' r') (b : xc_G L ln MK' RE' r' MK'' RE'' r'') : xc_G L ln MK RE r MK'' RE'' r'' :=
  ⟨b.1, fun y h => b.2.1 y (a.2.1 y h), fun k h => by rw [b.2.2.1 k (by have := a.2.2.2; omega)]; exact a.2.2.1 k h, by have := a.2.2.2; have := b.2.2.2; omega⟩
theorem xc_M {L : Nat → Prop} {f : Nat → Nat} {ln r r' : Nat} {MK' RE' : Nat → Int32} (a : xc_G L ln MK RE r MK' RE' r') : xm_M (xm_mk MK ln) f (xm_mk MK' ln) f := fun x h => ⟨a.2.1 x h, rfl⟩
theorem xw_reach {post : SX → Prop} {L : Nat → Prop} {ln r x : Nat} (hl : ln < 9000) (K : xm_K L MK RE ln r) (hx : x = 0 ∨ L x ∧ x ≤ ln)
    (h : ∀ MK' RE' r', xc_G L ln MK RE r MK' RE' r' → (x = 0 ∨ xm_mk MK' ln x) → post (tc, pe, lc, uc, tk, nI r', pc, en, va, oc, cc, sc, dp, ed, T, ES, HP, FT, FE, FF, SZ, CV, CN, MK', RE', OU)) : wpX_reach post (tc, pe, lc, uc, tk, nI r, pc, en, va, oc, cc, sc, dp, ed, T, ES, HP, FT, FE, FF, SZ, CV, CN, MK, RE, OU) (nI x) := by
  have hr := xm_Krc K
  rcases hx with e | ⟨hL, hxl⟩
  · rw [e] at h ⊢
    exact br_t nI_0 (h _ _ _ (xc_r K) (Or.inl rfl))
  · have cx : (nI x).toNatClampNeg = x := nI_clamp (by omega)
    have vx : vp_in (nI x) 9000 := vp_in_nI (by omega) (by decide)
    refine br_c (fun z => ?_) (fun z => ⟨vx, ?_⟩)
    · have e : x = 0 := by
        have z' : nI x = nI 0 := z.trans nI_0.symm
        rw [nI_eq (by omega) (by omega)] at z'
        exact z'
      exact h _ _ _ (xc_r K) (Or.inl e)
    · rw [cx]
      refine br_c (fun m0 => ⟨vx, nm_r (e' := upd MK x 1) rfl ?_⟩) (fun m0 => ?_)
      · have hm : ¬ MK x = 1 := by rw [m0]; decide
        obtain ⟨k1, k2⟩ := xm_Kadd K hL hxl hm
        refine ⟨vp_in_nI (by omega) (by decide), nm_r (e' := upd RE r (nI x)) (by rw [nI_clamp (by omega)]) (nm_r (nI_1 r) (h _ _ _ ⟨k2, fun y hy => ⟨hy.1, ?_⟩, fun k hk => pk_un (by omega), by omega⟩ (Or.inr ⟨hxl, pk_us⟩)))⟩
        by_cases c : y = x
        · rw [c, pk_us]
        · rw [pk_un c]; exact hy.2
      · refine h _ _ _ (xc_r K) (Or.inr ⟨hxl, ?_⟩)
        rcases K.1 x hxl with q | q
        · exact absurd q m0
        · exact q
theorem xc_E0 {L : Nat → Prop} {f : Nat → Nat} {ln c s : Nat} (hL : ∀ y, L y → 0 < y ∧ y ≤ ln) (h : xm_E L f c s) : c = 0 ∨ L c ∧ c ≤ ln := by
  rcases h with h | h
  · exact Or.inl h.1
  · exact Or.inr ⟨h.2.2.1, (hL c h.2.2.1).2⟩
theorem xc_E1 {L : Nat → Prop} {f : Nat → Nat} {ln c s : Nat} (h : xm_E L f c s) (m : c = 0 ∨ xm_mk MK ln c) : xm_E (xm_mk MK ln) f c s := by
  rcases h with h | ⟨h1, h2, h3, h4⟩
  · exact Or.inl h
  · rcases m with m | m
    · omega
    · exact Or.inr ⟨h1, h2, m, h4⟩
theorem xw_rval {post : SX → Prop} {L : Nat → Prop} {f : Nat → Nat} {ln r : Nat} {l : Int64} {o : Option pm_V} (hl : ln < 9000) (K : xm_K L MK RE ln r) (hL : ∀ y, L y → 0 < y ∧ y ≤ ln) (hp : ∀ s p, o = some (.inr (.inl (s, p))) → p < 32) (ho : xm_O L f l o)
    (h : ∀ MK' RE' r', xc_G L ln MK RE r MK' RE' r' → xm_O (xm_mk MK' ln) f l o → post (tc, pe, lc, uc, tk, nI r', pc, en, va, oc, cc, sc, dp, ed, T, ES, HP, FT, FE, FF, SZ, CV, CN, MK', RE', OU)) : wpX_reachValue post (tc, pe, lc, uc, tk, nI r, pc, en, va, oc, cc, sc, dp, ed, T, ES, HP, FT, FE, FF, SZ, CV, CN, MK, RE, OU) l := by
  unfold wpX_reachValue
  rcases o with _ | a | ⟨s, p⟩ | j
  · have e : l = 0 := ho
    subst e
    unfold wpX_kindOf
    show ((_ : Int32) = 2 → _) ∧ _
    rw [xv_k0]
    exact br_f (by decide) (br_f (by decide) (h _ _ _ (xc_r K) rfl))
  · have e : l = xm_vo 1 a := ho
    subst e
    exact xw_kind (by decide) (br_f (by decide) (br_f (by decide) (h _ _ _ (xc_r K) rfl)))
  · obtain ⟨c, e, hc⟩ := ho
    subst e
    have hp' := hp s p rfl
    have hc9 := xm_E9 hc
    refine xw_kind (by decide) (br_t rfl ⟨by decide, ?_⟩)
    rw [xv_ct]
    have e1 : nI (p * 9000 + c) - nI (p * 9000 + c) / 9000 * 9000 = nI c := by
      rw [show (9000 : Int32) = nI 9000 from rfl, pk_rem (by omega) (by omega) (by omega)]
      exact congrArg nI (by omega)
    rw [e1]
    exact xw_reach hl K (xc_E0 hL hc) (fun MK' RE' r' g m => h _ _ _ g ⟨c, rfl, xc_E1 hc m⟩)
  · obtain ⟨e, hj⟩ := ho
    subst e
    refine xw_kind (by decide) (br_f (by decide) (br_t rfl ?_))
    rw [xv_ct]
    refine xw_reach hl K (Or.inr ⟨hj, (hL _ hj).2⟩) (fun MK' RE' r' g m => h _ _ _ g ⟨rfl, ?_⟩)
    rcases m with m | m
    · omega
    · exact m
/-- places of functions in frames are small -/
def xc_p : pm_F → Prop
  | some (_, _, some (.inr (.inl (_, p)))) => p < 32
  | _ => True
theorem xc_pp {p0 s0 : Nat} {o : Option pm_V} (h : xc_p (some (p0, s0, o))) : ∀ s p, o = some (.inr (.inl (s, p))) → p < 32 := by
  intro s p e
  subst e
  exact h
theorem xw_rlp {post : SX → Prop} {L : Nat → Prop} {f : Nat → Nat} {ln o w : Nat} (hl : ln < 9000) (hL : ∀ y, L y → 0 < y ∧ y ≤ ln) (ho : o + w ≤ 144) :
    ∀ (K : List pm_F) (N r : Nat) (MK RE : Nat → Int32), K.length ≤ w → xm_R L f FT FE FF o K → (∀ g, g ∈ K → xc_p g) → xm_K L MK RE ln r →
      (∀ MK' RE' r', xc_G L ln MK RE r MK' RE' r' → xm_R (xm_mk MK' ln) f FT FE FF o K → wX_reachFrames_2 post (nI o) (nI w) N (nI (o + K.length)) tc pe lc uc tk (nI r') pc en va oc cc sc dp ed T ES HP FT FE FF SZ CV CN MK' RE' OU) →
      wX_reachFrames_2 post (nI o) (nI w) (N + K.length) (nI o) tc pe lc uc tk (nI r) pc en va oc cc sc dp ed T ES HP FT FE FF SZ CV CN MK RE OU := by
  intro K
  induction K with
  | nil => intro N r MK RE _ _ _ hK h; exact h _ _ _ (xc_r hK) True.intro
  | cons g K ih =>
    intro N r MK RE hw hR hg hK h
    rw [List.length_cons] at hw
    have e : N + (g :: K).length = (N + 1) + K.length := by rw [List.length_cons]; omega
    rw [e]
    refine ih (N + 1) r MK RE (by omega) hR.2 (fun g' hg' => hg g' (List.mem_cons_of_mem _ hg')) hK (fun MK1 RE1 r1 G1 R1 => ?_)
    have v : vp_in (nI (o + K.length)) 144 := vp_in_nI (by omega) (by decide)
    have c : (nI (o + K.length)).toNatClampNeg = o + K.length := nI_clamp (by omega)
    have hF := hR.1
    refine pk_le (o + w) (o + K.length) (fun z => by omega) (fun _ => ⟨v, ?_⟩) (nI_add o w)
    rw [c]
    rcases g with _ | ⟨p, s, q⟩
    · obtain ⟨f1, f2, f3⟩ := hF
      rw [f2]
      refine xw_reach (x := 0) hl G1.1 (Or.inl rfl) (fun MK2 RE2 r2 G2 _ => ⟨v, ?_⟩)
      refine xw_rval (o := none) (f := f) hl G2.1 hL (fun s p e => by simp at e) f3 (fun MK3 RE3 r3 G3 _ => nm_r (nI_1 _) ?_)
      exact h _ _ _ (xc_t G1 (xc_t G2 G3)) ⟨⟨f1, f2, f3⟩, xm_Rm (xc_M (xc_t G2 G3)) K R1⟩
    · obtain ⟨f1, ⟨d, f2, f4⟩, f3⟩ := hF
      rw [f2]
      refine xw_reach hl G1.1 (xc_E0 hL f4) (fun MK2 RE2 r2 G2 m => ⟨v, ?_⟩)
      refine xw_rval (o := q) (f := f) hl G2.1 hL (xc_pp (hg _ (List.mem_cons_self ..))) f3 (fun MK3 RE3 r3 G3 m3 => nm_r (nI_1 _) ?_)
      exact h _ _ _ (xc_t G1 (xc_t G2 G3)) ⟨⟨f1, ⟨d, f2, xm_Em (xc_M G3) (xc_E1 f4 m)⟩, m3⟩, xm_Rm (xc_M (xc_t G2 G3)) K R1⟩
theorem xw_rfr {post : SX → Prop} {L : Nat → Prop} {f : Nat → Nat} {ln o r : Nat} {K : List pm_F} (hl : ln < 9000) (hL : ∀ y, L y → 0 < y ∧ y ≤ ln) (ho : o + K.length ≤ 144) (hR : xm_R L f FT FE FF o K) (hg : ∀ g, g ∈ K → xc_p g) (hK : xm_K L MK RE ln r)
    (h : ∀ MK' RE' r', xc_G L ln MK RE r MK' RE' r' → xm_R (xm_mk MK' ln) f FT FE FF o K → post (tc, pe, lc, uc, tk, nI r', pc, en, va, oc, cc, sc, dp, ed, T, ES, HP, FT, FE, FF, SZ, CV, CN, MK', RE', OU)) : wpX_reachFrames post (tc, pe, lc, uc, tk, nI r, pc, en, va, oc, cc, sc, dp, ed, T, ES, HP, FT, FE, FF, SZ, CV, CN, MK, RE, OU) (nI o) (nI K.length) := by
  refine ⟨1 + K.length, xw_rlp hl hL ho K 1 r MK RE (Nat.le_refl _) hR hg hK (fun MK' RE' r' G R => ?_)⟩
  exact pk_le (o + K.length) (o + K.length) (fun _ => h _ _ _ G R) (fun z => by omega) (nI_add _ _)
end
section
/-! the collector: sweep, collect -/
variable {tc pe lc uc tk rc pc en : Int32} {va : Int64} {oc cc sc dp ed : Int32} {T ES HP FT FE : Nat → Int32} {FF : Nat → Int64} {SZ : Nat → Int32} {CV : Nat → Int64} {CN MK RE OU : Nat → Int32}
theorem xc_pf {t : Nat → Nat} {n : Nat} {nm : pm_N} {b c : Nat} (hn : n ≤ 32) : ∀ g, pm_f t n nm b c g → xc_p g := by
  intro g hg
  rcases g with _ | ⟨p, s, _ | a | ⟨s2, p2⟩ | j⟩
  · exact True.intro
  · exact True.intro
  · exact True.intro
  · have := hg.2.2.2.2.2.1
    show p2 < 32
    omega
  · exact True.intro
theorem xw_slp2 {post : SX → Prop} {ln : Nat} (h8 : 8 ≤ ln) (hl : ln < 9000) (h01 : ∀ x, x ≤ ln → MK x = 0 ∨ MK x = 1)
    (h : ∀ CN', (∀ x, xm_mk MK ln x → CN' x = CN x) → yn_L CN' (xm_fl MK (ln - 8)) → post (tc, pe, nI ln, nI (yn_hd (xm_fl MK (ln - 8))), tk, rc, pc, en, va, oc, cc, sc, dp, ed, T, ES, HP, FT, FE, FF, SZ, CV, CN', MK, RE, OU)) :
    ∀ d i CN', i + d = ln - 8 → (∀ x, xm_mk MK ln x → CN' x = CN x) → yn_L CN' (xm_fl MK i) → wX_sweep_8 post tc pe (nI ln) tk rc pc en va oc cc sc dp ed (d + 1) (nI (9 + i)) (nI (yn_hd (xm_fl MK i))) T ES HP FT FE FF SZ CV CN' MK RE OU := by
  intro d
  induction d with
  | zero =>
    intro i CN' hi hc hL
    have e : i = ln - 8 := by omega
    rw [e] at hL ⊢
    exact pk_lt ln (9 + (ln - 8)) (fun _ => h CN' hc hL) (fun z => by omega)
  | succ d ih =>
    intro i CN' hi hc hL
    have v : vp_in (nI (9 + i)) 9000 := vp_in_nI (by omega) (by decide)
    have c : (nI (9 + i)).toNatClampNeg = 9 + i := nI_clamp (by omega)
    refine pk_lt ln (9 + i) (fun z => by omega) (fun _ => ⟨v, ?_⟩)
    rw [c]
    have en : nI (9 + i) + 1 = nI (9 + (i + 1)) := by rw [nI_1]; rfl
    refine br_c (fun m0 => ⟨v, nm_r (e' := upd CN' (9 + i) (nI (yn_hd (xm_fl MK i)))) rfl (nm_r en ?_)⟩) (fun m0 => nm_r en ?_)
    · have e : xm_fl MK (i + 1) = (9 + i) :: xm_fl MK i := by rw [xm_fl, if_pos m0]
      have I := ih (i + 1) (upd CN' (9 + i) (nI (yn_hd (xm_fl MK i)))) (by omega) (fun x hx => ?_) ?_
      · rw [e] at I
        exact I
      · rw [pk_un (fun q : x = 9 + i => by have := hx.2; rw [q, m0] at this; exact absurd this (by decide))]
        exact hc x hx
      · rw [e]
        refine ⟨pk_us, yn_Lc _ (fun y hy => pk_un ?_) hL⟩
        have := xm_flm MK i y hy
        omega
    · have e : xm_fl MK (i + 1) = xm_fl MK i := by rw [xm_fl, if_neg m0]
      have I := ih (i + 1) CN' (by omega) hc (by rw [e]; exact hL)
      rw [e] at I
      exact I
theorem xw_sweep {post : SX → Prop} {ln : Nat} (h8 : 8 ≤ ln) (hl : ln < 9000) (h01 : ∀ x, x ≤ ln → MK x = 0 ∨ MK x = 1)
    (h : ∀ CN', (∀ x, xm_mk MK ln x → CN' x = CN x) → yn_L CN' (xm_fl MK (ln - 8)) → post (tc, pe, nI ln, nI (yn_hd (xm_fl MK (ln - 8))), tk, rc, pc, en, va, oc, cc, sc, dp, ed, T, ES, HP, FT, FE, FF, SZ, CV, CN', MK, RE, OU)) : wpX_sweep post (tc, pe, nI ln, uc, tk, rc, pc, en, va, oc, cc, sc, dp, ed, T, ES, HP, FT, FE, FF, SZ, CV, CN, MK, RE, OU) :=
  ⟨ln - 8 + 1, xw_slp2 h8 hl h01 h (ln - 8) 0 CN (by omega) (fun _ _ => rfl) True.intro⟩
theorem xw_118 {post : SX → Prop} {t : Nat → Nat} {n ln r p s c : Nat} {L : Nat → Prop} {f : Nat → Nat} {K : List pm_F} {sg : List (List pm_F)} {nm : pm_N} {b : Nat} (h8 : 8 ≤ ln) (hlb : ln ≤ 8 + b) (hl : ln < 9000) (H : xm_H L f CV CN nm b ln) (G : xm_G L f FT FE FF SZ sg) (hK : xm_K L MK RE ln r)
    (hR : xm_R (xm_mk MK ln) f FT FE FF 0 K) (hc : xm_E (xm_mk MK ln) f c s) (C : ∀ k x, k < r → RE k = nI x → x < 9000 → xm_cl (xm_mk MK ln) f CV CN nm FT FE FF sg x)
    (h : ∀ uc CN, xr_P (.inl (p, s)) K sg nm b (nI K.length) (nI ln) uc (nI p) (nI c) va FT FE FF SZ CV CN → post (tc, nI K.length, nI ln, uc, 0, nI r, nI p, nI c, va, oc, cc, sc, dp, ed, T, ES, HP, FT, FE, FF, SZ, CV, CN, MK, RE, OU)) :
    wX_collect_118 post tc (nI K.length) (nI ln) uc tk (nI r) (nI p) (nI c) va oc cc sc dp ed T ES HP FT FE FF SZ CV CN MK RE OU := by
  unfold wX_collect_118
  refine xw_sweep h8 hl hK.1 (fun CN' hcn hL => ?_)
  obtain ⟨H2, G2⟩ := xm_col (cn' := CN') H G hK hl C hcn
  refine h _ _ ⟨xm_mk MK ln, f, xm_fl MK (ln - 8), ln, rfl, rfl, h8, hlb, rfl, hR, G2, H2, ⟨hL, xm_fln MK _, fun x hx => ?_⟩, rfl, c, rfl, hc⟩
  have q := xm_flm MK _ x hx
  refine ⟨q.1, by omega, fun z => ?_⟩
  have z2 := z.2
  rw [q.2.2] at z2
  exact absurd z2 (by decide)
theorem xw_47 {post : SX → Prop} {t : Nat → Nat} {n ln p s c : Nat} {L : Nat → Prop} {f : Nat → Nat} {K : List pm_F} {sg : List (List pm_F)} {nm : pm_N} {b : Nat} (hn : n ≤ 32) (hA : pm_A t n sg nm b) (h8 : 8 ≤ ln) (hlb : ln ≤ 8 + b) (hl : ln < 9000) (H : xm_H L f CV CN nm b ln) (G : xm_G L f FT FE FF SZ sg)
    (h : ∀ uc rc CN MK RE, xr_P (.inl (p, s)) K sg nm b (nI K.length) (nI ln) uc (nI p) (nI c) va FT FE FF SZ CV CN → post (tc, nI K.length, nI ln, uc, 0, rc, nI p, nI c, va, oc, cc, sc, dp, ed, T, ES, HP, FT, FE, FF, SZ, CV, CN, MK, RE, OU)) :
    ∀ d i r MK RE, i + d = ln + 1 → i ≤ r → xm_K L MK RE ln r → xm_R (xm_mk MK ln) f FT FE FF 0 K → xm_E (xm_mk MK ln) f c s → (∀ k x, k < i → RE k = nI x → x < 9000 → xm_cl (xm_mk MK ln) f CV CN nm FT FE FF sg x) →
      wX_collect_47 post (d + 1) (nI i) tc (nI K.length) (nI ln) uc tk (nI r) (nI p) (nI c) va oc cc sc dp ed T ES HP FT FE FF SZ CV CN MK RE OU := by
  have hL : ∀ y, L y → 0 < y ∧ y ≤ ln := fun y hy => ⟨(H y hy).1, (H y hy).2.1⟩
  have hA1 := hA.1
  intro d
  induction d with
  | zero =>
    intro i r MK RE hi hir hK hR hc hC
    have hr := xm_Krc hK
    have e : i = r := by omega
    refine pk_le r i (fun _ => ?_) (fun z => by omega)
    exact xw_118 (t := t) (n := n) h8 hlb hl H G hK hR hc (by rw [← e]; exact hC) (fun uc' CN' P => h _ _ _ _ _ P)
  | succ d ih =>
    intro i r MK RE hi hir hK hR hc hC
    have hr := xm_Krc hK
    refine pk_le r i (fun z => ?_) (fun z => ?_)
    · have e : i = r := by omega
      exact xw_118 (t := t) (n := n) h8 hlb hl H G hK hR hc (by rw [← e]; exact hC) (fun uc' CN' P => h _ _ _ _ _ P)
    refine pk_le 9000 i (fun y => by omega) (fun _ => ⟨vp_in_nI (by omega) (by decide), ?_⟩)
    obtain ⟨x, ex, hx⟩ := hK.2.2.1 i z
    have hxL := (hK.2.1 x hx).1
    have hxl := hL x hxL
    have cx : (nI x).toNatClampNeg = x := nI_clamp (by omega)
    refine nm_r (e' := nI x) (by rw [nI_clamp (by omega)]; exact ex) ?_
    have next : ∀ MK' RE' r', xc_G L ln MK RE r MK' RE' r' → xm_cl (xm_mk MK' ln) f CV CN nm FT FE FF sg x → wX_collect_47 post (d + 1) (nI (i + 1)) tc (nI K.length) (nI ln) uc tk (nI r') (nI p) (nI c) va oc cc sc dp ed T ES HP FT FE FF SZ CV CN MK' RE' OU := by
      intro MK' RE' r' g hcl
      have g4 := g.2.2.2
      refine ih (i + 1) r' MK' RE' (by omega) (by omega) g.1 (xm_Rm (xc_M g) K hR) (xm_Em (xc_M g) hc) (fun k y hk hy hy9 => ?_)
      rcases Nat.lt_or_ge k i with q | q
      · rw [g.2.2.1 k (by omega)] at hy
        exact xm_clm (xc_M g) (hC k y q hy hy9)
      · have e : k = i := by omega
        rw [e, g.2.2.1 i z, ex, nI_eq (by omega) (by omega)] at hy
        rw [← hy]
        exact hcl
    refine pk_le 9 x (fun q9 => ?_) (fun q9 => ?_)
    · obtain ⟨_, _, h9⟩ := H x hxL
      obtain ⟨k4, k5, ⟨c', k6, k7⟩, k8⟩ := h9 q9
      have vx : vp_in (nI x) 9000 := vp_in_nI (by omega) (by decide)
      have hpv := hA.2.2 (f x) k4 k5
      refine ⟨vx, ?_⟩
      rw [cx, k6]
      refine xw_reach hl hK (xc_E0 hL k7) (fun MK1 RE1 r1 g1 m1 => ⟨vx, ?_⟩)
      refine xw_rval (o := some (nm (f x)).2.1) (f := f) hl g1.1 hL (fun s2 p2 e => ?_) k8 (fun MK2 RE2 r2 g2 m2 => nm_r (nI_1 i) (next _ _ _ (xc_t g1 g2) ⟨fun _ => ⟨⟨c', k6, xm_Em (xc_M g2) (xc_E1 k7 m1)⟩, m2⟩, fun q => by omega⟩))
      rw [Option.some.inj e] at hpv
      have := hpv.1
      omega
    · obtain ⟨g1, g2, g3⟩ := G x hxL q9
      have hm : sg.getD (x - 1) [] ∈ sg := yn_gm (zs := sg) (j := x - 1) (by omega)
      have h15 := (hA.2.1 _ hm).1
      refine ⟨vp_in_nI (by omega) (by decide), ?_⟩
      rw [cx, g2]
      have em : nI x * 16 = nI (x * 16) := pk_mul x 16
      rw [em]
      refine xw_rfr hl hL (by omega) g3 (fun g hg => xc_pf hn g ((hA.2.1 _ hm).2 g hg).2) hK (fun MK1 RE1 r1 gg R1 => nm_r (nI_1 i) (next _ _ _ gg ⟨fun q => by omega, fun _ => R1⟩))
theorem xw_clr {post : SX → Prop} {ln : Nat} (hl : ln < 9000) (h : ∀ MK, (∀ x, x ≤ ln → MK x = 0) → wX_collect_2 post tc pe (nI ln) uc tk rc pc en va oc cc sc dp ed 1 (nI (ln + 1)) T ES HP FT FE FF SZ CV CN MK RE OU) :
    ∀ d i MK, i + d = ln + 1 → (∀ x, x < i → MK x = 0) → wX_collect_2 post tc pe (nI ln) uc tk rc pc en va oc cc sc dp ed (d + 1) (nI i) T ES HP FT FE FF SZ CV CN MK RE OU := by
  intro d
  induction d with
  | zero =>
    intro i MK hi hm
    have e : i = ln + 1 := by omega
    rw [e] at hm ⊢
    exact h MK (fun x hx => hm x (by omega))
  | succ d ih =>
    intro i MK hi hm
    refine pk_lt ln i (fun z => by omega) (fun _ => ⟨vp_in_nI (by omega) (by decide), nm_r (e' := upd MK i 0) (by rw [nI_clamp (by omega)]; rfl) (nm_r (nI_1 i) (ih (i + 1) _ (by omega) (fun x hx => ?_)))⟩)
    by_cases c : x = i
    · rw [c, pk_us]
    · rw [pk_un c]; exact hm x (by omega)
theorem xw_collect {post : SX → Prop} {t : Nat → Nat} {n p s : Nat} {K : List pm_F} {sg : List (List pm_F)} {nm : pm_N} {b : Nat} (hn : n ≤ 32) (hb : b ≤ 8704) (hB : pm_B t n K sg.length nm b) (hA : pm_A t n sg nm b) (P : xr_P (.inl (p, s)) K sg nm b pe lc uc pc en va FT FE FF SZ CV CN)
    (h : ∀ uc rc CN MK RE, xr_P (.inl (p, s)) K sg nm b pe lc uc pc en va FT FE FF SZ CV CN → post (tc, pe, lc, uc, 0, rc, pc, en, va, oc, cc, sc, dp, ed, T, ES, HP, FT, FE, FF, SZ, CV, CN, MK, RE, OU)) : wpX_collect post (tc, pe, lc, uc, tk, rc, pc, en, va, oc, cc, sc, dp, ed, T, ES, HP, FT, FE, FF, SZ, CV, CN, MK, RE, OU) := by
  obtain ⟨L, f, fl, ln, e1, e2, h8, hlb, e3, hR, hG, hH, hU, e4, c, e5, hc⟩ := P
  subst e1 e2 e3 e4 e5
  have hl : ln < 9000 := by omega
  have hL : ∀ y, L y → 0 < y ∧ y ≤ ln := fun y hy => ⟨(hH y hy).1, (hH y hy).2.1⟩
  have hBl := hB.2.1
  refine ⟨ln + 2, xw_clr hl (fun MK' hm => ?_) (ln + 1) 0 MK (by omega) (fun x hx => by omega)⟩
  refine pk_lt ln (ln + 1) (fun _ => ?_) (fun z => by omega)
  have K0 : xm_K L MK' RE ln 0 := by
    refine ⟨fun x hx => Or.inl (hm x hx), fun x hx => ?_, fun k hk => by omega, (xm_c0 MK' (ln + 1) (fun x hx => hm x (by omega))).symm⟩
    have q := hx.2
    rw [hm x hx.1] at q
    exact absurd q (by decide)
  have e0 : (0 : Int32) = nI 0 := nI_0.symm
  rw [e0]
  refine xw_reach hl K0 (xc_E0 hL hc) (fun MK1 RE1 r1 g1 m1 => ?_)
  refine xw_rfr (o := 0) hl hL (by omega) hR (fun g hg => xc_pf hn g (hB.1 g hg)) g1.1 (fun MK2 RE2 r2 g2 R2 => ⟨ln + 2, ?_⟩)
  exact xw_47 hn hA h8 hlb hl hH hG (fun uc' rc' CN' MK' RE' P => h _ _ _ _ _ P) (ln + 1) 0 r2 MK2 RE2 (by omega) (by omega) g2.1 R2 (xm_Em (xc_M g2) (xc_E1 hc m1)) (fun k x hk => by omega)
end
section
/-! the pure machine to its end -/
def pm_e : pm_S → Nat
  | (_, _, _, _, _, _, _, _, _, e) => e
noncomputable def pm_stp (t : Nat → Nat) : pm_S → pm_S
  | (m, K, sg, nm, b, out, o1, c1, mm, _) => pm_step t m K sg nm b out o1 c1 mm
noncomputable def pm_fin (t : Nat → Nat) : Nat → pm_S → pm_S
  | 0, S => S
  | w + 1, S => if pm_e S = 0 then pm_fin t w (pm_stp t S) else S
theorem pm_fin0 (t : Nat → Nat) (w : Nat) (m : pm_M) (K : List pm_F) (sg : List (List pm_F)) (nm : pm_N) (b : Nat) (out : Nat → Int32) (o1 c1 mm : Nat) : pm_fin t (w + 1) (m, K, sg, nm, b, out, o1, c1, mm, 0) = pm_fin t w (pm_step t m K sg nm b out o1 c1 mm) := by
  rw [pm_fin, if_pos (show pm_e (m, K, sg, nm, b, out, o1, c1, mm, 0) = 0 from rfl)]
  rfl
theorem pm_fin1 (t : Nat → Nat) (w : Nat) {S : pm_S} (h : ¬ pm_e S = 0) : pm_fin t w S = S := by
  rcases w with _ | w
  · rfl
  · rw [pm_fin, if_neg h]
/-- what is noted of the depth -/
def pm_Mm (o1 mm : Nat) : pm_S → Prop
  | (_, K, _, _, _, _, o', _, m', e) => (e = 0 → m' = max mm K.length) ∧ (¬ e = 0 → m' = mm ∧ o' = o1)
theorem pm_Mg {m : pm_M} {K : List pm_F} {sg : List (List pm_F)} {nm : pm_N} {b : Nat} {out : Nat → Int32} {o0 o1 c1 mm : Nat} : pm_Mm o0 mm (pm_go m K sg nm b out o1 c1 mm) := ⟨fun _ => rfl, fun z => absurd rfl z⟩
theorem pm_Ms {m : pm_M} {K : List pm_F} {sg : List (List pm_F)} {nm : pm_N} {b : Nat} {out : Nat → Int32} {o1 c1 mm e : Nat} : pm_Mm o1 mm (m, K, sg, nm, b, out, o1, c1, mm, e + 1) := ⟨fun z => absurd z (by omega), fun _ => ⟨rfl, rfl⟩⟩
theorem pm_Mc {t : Nat → Nat} {w v : pm_V} {K : List pm_F} {sg : List (List pm_F)} {nm : pm_N} {b : Nat} {out : Nat → Int32} {o1 c1 mm : Nat} : pm_Mm o1 mm (pm_cal t w v K sg nm b out o1 c1 mm) := by
  unfold pm_cal
  rcases w with a | ⟨s, p⟩ | j
  · exact pm_Ms
  · dsimp only
    split
    · exact pm_Ms
    · exact pm_Mg
  · dsimp only
    split
    · exact pm_Ms
    · split
      · exact pm_Ms
      · exact pm_Mg
theorem pm_Mh {t : Nat → Nat} {v : pm_V} {K : List pm_F} {sg : List (List pm_F)} {nm : pm_N} {b : Nat} {out : Nat → Int32} {o1 c1 mm : Nat} : pm_Mm o1 mm (pm_hnd t v K sg nm b out o1 c1 mm) := by
  unfold pm_hnd
  rcases K with _ | ⟨_ | ⟨p, s, o⟩, K⟩
  · exact pm_Ms
  · dsimp only
    split
    · exact pm_Ms
    · exact pm_Mg
  · dsimp only
    split
    · rcases o with _ | w
      · exact pm_Mg
      · dsimp only
        split
        · exact pm_Mc
        · rcases w with a | w
          · rcases v with d | v
            · exact pm_Mg
            · exact pm_Ms
          · exact pm_Ms
    · split
      · rcases v with d | v
        · exact pm_Mg
        · exact pm_Ms
      · split
        · rcases v with d | v
          · dsimp only
            split
            · exact pm_Ms
            · exact pm_Mg
          · exact pm_Ms
        · exact pm_Mg
theorem pm_Me {t : Nat → Nat} {p s : Nat} {K : List pm_F} {sg : List (List pm_F)} {nm : pm_N} {b : Nat} {out : Nat → Int32} {o1 c1 mm : Nat} : pm_Mm o1 mm (pm_evl t p s K sg nm b out o1 c1 mm) := by
  unfold pm_evl
  split
  · split
    · exact pm_Ms
    · exact pm_Mg
  · split
    · exact pm_Mg
    · split
      · split
        · exact pm_Ms
        · exact pm_Mg
      · split
        · split
          · exact pm_Ms
          · exact pm_Mg
        · exact pm_Mg
theorem pm_Mt {t : Nat → Nat} {m : pm_M} {K : List pm_F} {sg : List (List pm_F)} {nm : pm_N} {b : Nat} {out : Nat → Int32} {o1 c1 mm : Nat} : pm_Mm o1 mm (pm_step t m K sg nm b out o1 c1 mm) := by
  rcases m with ⟨p, s⟩ | v
  · exact pm_Me
  · exact pm_Mh
theorem xl_ec {t : Nat → Nat} {w v : pm_V} {K : List pm_F} {sg : List (List pm_F)} {nm : pm_N} {b : Nat} {out : Nat → Int32} {o1 c1 mm : Nat} : pm_e (pm_cal t w v K sg nm b out o1 c1 mm) < 10 := by
  unfold pm_cal
  rcases w with a | ⟨s, p⟩ | j
  · exact (by decide : 2 < 10)
  · dsimp only
    split
    · exact (by decide : 3 < 10)
    · exact (by decide : 0 < 10)
  · dsimp only
    split
    · exact (by decide : 3 < 10)
    · split
      · exact (by decide : 4 < 10)
      · exact (by decide : 0 < 10)
theorem xl_e {t : Nat → Nat} {m : pm_M} {K : List pm_F} {sg : List (List pm_F)} {nm : pm_N} {b : Nat} {out : Nat → Int32} {o1 c1 mm : Nat} : pm_e (pm_step t m K sg nm b out o1 c1 mm) < 10 := by
  rcases m with ⟨p, s⟩ | v
  · show pm_e (pm_evl t p s K sg nm b out o1 c1 mm) < 10
    unfold pm_evl
    split
    · split
      · exact (by decide : 2 < 10)
      · exact (by decide : 0 < 10)
    · split
      · exact (by decide : 0 < 10)
      · split
        · split
          · exact (by decide : 4 < 10)
          · exact (by decide : 0 < 10)
        · split
          · split
            · exact (by decide : 3 < 10)
            · exact (by decide : 0 < 10)
          · exact (by decide : 0 < 10)
  · show pm_e (pm_hnd t v K sg nm b out o1 c1 mm) < 10
    unfold pm_hnd
    rcases K with _ | ⟨_ | ⟨p, s, o⟩, K⟩
    · exact (by decide : 1 < 10)
    · dsimp only
      split
      · exact (by decide : 1 < 10)
      · exact (by decide : 0 < 10)
    · dsimp only
      split
      · rcases o with _ | w
        · exact (by decide : 0 < 10)
        · dsimp only
          split
          · exact xl_ec
          · rcases w with a | w
            · rcases v with d | v
              · exact (by decide : 0 < 10)
              · exact (by decide : 2 < 10)
            · exact (by decide : 2 < 10)
      · split
        · rcases v with d | v
          · exact (by decide : 0 < 10)
          · exact (by decide : 2 < 10)
        · split
          · rcases v with d | v
            · dsimp only
              split
              · exact (by decide : 5 < 10)
              · exact (by decide : 0 < 10)
            · exact (by decide : 2 < 10)
          · exact (by decide : 0 < 10)
end
section
/-! the component's loop -/
variable {tc pe lc uc tk rc pc en : Int32} {va : Int64} {oc cc sc dp ed : Int32} {T ES HP FT FE : Nat → Int32} {FF : Nat → Int64} {SZ : Nat → Int32} {CV : Nat → Int64} {CN MK RE OU : Nat → Int32}
def xr_End (n : Nat) (T : Nat → Int32) (S : pm_S) (u : SX) : Prop := match S, u with
  | (m, _, sg, _, _, out, o1, c1, mm, e), (tc, _, _, _, _, _, _, _, va, oc, cc, sc, dp, ed, T', _, _, _, _, _, _, _, _, _, _, OU) =>
    tc = nI n ∧ T' = T ∧ oc = nI o1 ∧ OU = out ∧ cc = nI c1 ∧ sc = nI sg.length ∧ dp = nI mm ∧ ed = nI e ∧ o1 ≤ 16 ∧ e < 10 ∧ (e = 1 → ∃ w L f, m = .inr w ∧ xm_V L f va w)
theorem xl_note {post : SX → Prop} {d k : Nat} (hd : d < 100) (hk : k < 100) (h : post (tc, nI k, lc, uc, tk, rc, pc, en, va, oc, cc, sc, nI (max d k), ed, T, ES, HP, FT, FE, FF, SZ, CV, CN, MK, RE, OU)) : wpX_noteDepth post (tc, nI k, lc, uc, tk, rc, pc, en, va, oc, cc, sc, nI d, ed, T, ES, HP, FT, FE, FF, SZ, CV, CN, MK, RE, OU) := by
  refine pk_le k d (fun z => ?_) (fun z => ?_)
  · rw [Nat.max_eq_left z] at h; exact h
  · rw [Nat.max_eq_right (by omega)] at h; exact h
theorem xl_a {d0 K mm : Nat} (h : mm = max (max d0 1) K) (hK : 1 ≤ K) (hK2 : K ≤ 16) (hd : d0 ≤ 16) : max d0 K ≤ 16 ∧ max (max d0 K) 1 = mm ∧ 1 ≤ max d0 K := by omega
theorem xl_b {d0 kp mm : Nat} (h : mm = max d0 1) (h1 : kp ≤ mm) (h2 : d0 = 0 → 1 ≤ kp) (hd : d0 ≤ 16) : max d0 kp = mm ∧ kp < 100 := by omega
theorem xl_67 {post : Int32 → SX → Prop} {t : Nat → Nat} {n R N i d0 k0 : Nat} {m : pm_M} {K : List pm_F} {sg : List (List pm_F)} {nm : pm_N} {b : Nat} {out T0 ES0 HP0 : Nat → Int32} {o1 c1 mm e : Nat} (hn : n ≤ 32) (he : e < 10) (hi : i < 1000000) (hR : 1 ≤ R) (hR2 : R ≤ 1000) (hk0 : k0 < R) (hd0 : d0 ≤ 16)
    (Q : xr_Q n T0 ES0 HP0 d0 k0 (m, K, sg, nm, b, out, o1, c1, mm, e) (tc, pe, lc, uc, tk, rc, pc, en, va, oc, cc, sc, dp, ed, T, ES, HP, FT, FE, FF, SZ, CV, CN, MK, RE, OU)) (hI : e = 0 → pm_I t n m K sg nm b o1 c1 mm) (hm0 : e = 0 → mm = max (max d0 1) K.length) (hm1 : ¬ e = 0 → mm = max d0 1) (ho : ¬ e = 0 → o1 ≤ 16)
    (H0 : e = 0 → ∀ (pe lc uc rc pc en : Int32) (va : Int64) (FT FE : Nat → Int32) (FF : Nat → Int64) (SZ : Nat → Int32) (CV : Nat → Int64) (CN MK RE : Nat → Int32) (k d : Nat), xr_P m K sg nm b pe lc uc pc en va FT FE FF SZ CV CN → k < R → d ≤ 16 → max d 1 = mm → 1 ≤ d →
      wX_run_35 post (nI R) (N + 1) (nI (i + 1)) (nI n) pe lc uc (nI k) rc pc en va (nI o1) (nI c1) (nI sg.length) (nI d) 0 T0 ES0 HP0 FT FE FF SZ CV CN MK RE out)
    (H1 : ¬ e = 0 → ∀ u, xr_End n T0 (m, K, sg, nm, b, out, o1, c1, mm, e) u → post (nI e) u) :
    wX_run_67 post (wX_run_35 post (nI R) (N + 1)) (nI R) (nI i) tc pe lc uc tk rc pc en va oc cc sc dp ed T ES HP FT FE FF SZ CV CN MK RE OU := by
  obtain ⟨q1, q2, q3, q4, q5, q6, q7, q8, q9, q10, q11, q12, q13⟩ := Q
  subst q1 q2 q3 q4 q5 q6 q7 q8 q9 q10
  unfold wX_run_67
  by_cases c : e = 0
  · have I := hI c
    have hbb := kp_bb t n I
    obtain ⟨i1, hB, hA, i2, i3, i4, i5, i6⟩ := I
    have hKn := kp_Bn hB.2.2
    have hBl := hB.2.1
    obtain ⟨P, hk⟩ := q11 c
    obtain ⟨m1, m2, m3⟩ := xl_a (hm0 c) hKn hBl hd0
    subst c
    have P' := P
    obtain ⟨L, f, fl, ln, e1, _⟩ := P'
    subst e1
    refine xl_note (by omega) (by omega) ?_
    have go := H0 rfl
    rcases hk with hk | ⟨hk, p, s, hm⟩
    · subst hk
      refine pk_lt k0 R (fun _ => nm_r (nI_1 i) ?_) (fun z => by omega)
      exact go _ _ _ _ _ _ _ _ _ _ _ _ _ _ _ k0 _ P hk0 m1 m2 m3
    · subst hk
      subst hm
      refine pk_lt (k0 + 1) R (fun z => nm_r (nI_1 i) ?_) (fun z => ?_)
      · exact go _ _ _ _ _ _ _ _ _ _ _ _ _ _ _ (k0 + 1) _ P z m1 m2 m3
      · refine xw_collect hn (by omega) hB hA P (fun uc' rc' CN' MK' RE' P2 => nm_r (nI_1 i) ?_)
        exact go _ _ _ _ _ _ _ _ _ _ _ _ _ _ _ 0 _ P2 (by omega) m1 m2 m3
  · obtain ⟨hk, kp, e1, h1, h2⟩ := q13 (by omega)
    obtain ⟨m1, m2⟩ := xl_b (hm1 c) h1 h2 hd0
    subst hk e1
    refine xl_note (by omega) m2 (pk_lt k0 R (fun _ => nm_r (nI_1 i) ?_) (fun z => by omega))
    rw [m1]
    exact br_c (fun _ => H1 c _ ⟨rfl, rfl, rfl, rfl, rfl, rfl, rfl, rfl, ho c, he, q12⟩) (fun _ => br_f (nI_ne0 (by omega) (by omega)) (H1 c _ ⟨rfl, rfl, rfl, rfl, rfl, rfl, rfl, rfl, ho c, he, q12⟩))
theorem xl_run {post : Int32 → SX → Prop} {t : Nat → Nat} {n R : Nat} (W : tx_W t n) (hT : tx_T T t n) (hn : n ≤ 32) (hE : xt_E ES t 0 n) (hHP : xt_H HP t n) (hR : 1 ≤ R) (hR2 : R ≤ 1000) :
    ∀ (w i : Nat) (m : pm_M) (K : List pm_F) (sg : List (List pm_F)) (nm : pm_N) (b o1 c1 mm : Nat) (pe lc uc rc pc en : Int32) (va : Int64) (FT FE : Nat → Int32) (FF : Nat → Int64) (SZ : Nat → Int32) (CV : Nat → Int64) (CN MK RE OU : Nat → Int32) (k d : Nat),
      pm_I t n m K sg nm b o1 c1 mm → pm_w t m K c1 < w → i + w ≤ 1000000 → xr_P m K sg nm b pe lc uc pc en va FT FE FF SZ CV CN → k < R → d ≤ 16 → max d 1 = mm → (d = 0 → ∃ p s, m = .inl (p, s)) →
      (∀ u, xr_End n T (pm_fin t w (m, K, sg, nm, b, OU, o1, c1, mm, 0)) u → post (nI (pm_e (pm_fin t w (m, K, sg, nm, b, OU, o1, c1, mm, 0)))) u) →
      wX_run_35 post (nI R) (w + 1) (nI i) (nI n) pe lc uc (nI k) rc pc en va (nI o1) (nI c1) (nI sg.length) (nI d) 0 T ES HP FT FE FF SZ CV CN MK RE OU := by
  have hk : ∀ i, i < n → tx_tok (t i) := fun i hi => (hT i hi).2
  intro w
  induction w with
  | zero => intro i m K sg nm b o1 c1 mm pe lc uc rc pc en va FT FE FF SZ CV CN MK RE OU k d _ hw; omega
  | succ w ih =>
    intro i m K sg nm b o1 c1 mm pe lc uc rc pc en va FT FE FF SZ CV CN MK RE OU k d I hw hi P hkR hd hmm hm0 h
    have J := kp_step W hn hk (out := OU) I
    have Mm := pm_Mt (t := t) (m := m) (K := K) (sg := sg) (nm := nm) (b := b) (out := OU) (o1 := o1) (c1 := c1) (mm := mm)
    have A : ∀ u, xr_Q n T ES HP d k (pm_step t m K sg nm b OU o1 c1 mm) u → match u with | (tc, pe, lc, uc, tk, rc, pc, en, va, oc, cc, sc, dp, ed, T, ES, HP, FT, FE, FF, SZ, CV, CN, MK, RE, OU) => wX_run_67 post (wX_run_35 post (nI R) (w + 1)) (nI R) (nI i) tc pe lc uc tk rc pc en va oc cc sc dp ed T ES HP FT FE FF SZ CV CN MK RE OU := by
      intro u Q
      rw [pm_fin0] at h
      have he : pm_e (pm_step t m K sg nm b OU o1 c1 mm) < 10 := xl_e
      generalize pm_step t m K sg nm b OU o1 c1 mm = S at J Mm h Q he
      obtain ⟨m', K', sg', nm', b', out', o', c', mm', e'⟩ := S
      obtain ⟨tc, pe, lc, uc, tk, rc, pc, en, va, oc, cc, sc, dp, ed, T2, ES2, HP2, FT, FE, FF, SZ, CV, CN, MK, RE, OU2⟩ := u
      refine xl_67 (t := t) hn he (by omega) hR hR2 hkR hd Q (fun z => (J z).1) (fun z => by rw [hmm]; exact Mm.1 z) (fun z => by rw [hmm]; exact (Mm.2 z).1) (fun z => by have h1 := (Mm.2 z).2; have h2 := I.2.2.2.1; omega) (fun z => ?_) (fun z => ?_)
      · have z' : e' = 0 := z
        subst z'
        intro pe lc uc rc pc en va FT FE FF SZ CV CN MK RE k2 d2 P2 hk2 hd2 hmm2 hd1
        obtain ⟨I2, w2⟩ := J rfl
        exact ih (i + 1) m' K' sg' nm' b' o' c' mm' pe lc uc rc pc en va FT FE FF SZ CV CN MK RE out' k2 d2 I2 (by omega) (by omega) P2 hk2 hd2 hmm2 (fun y => by omega) h
      · have z' : ¬ pm_e (m', K', sg', nm', b', out', o', c', mm', e') = 0 := z
        rw [pm_fin1 t w z'] at h
        exact h
    refine pk_le 1000000 i (fun z => by omega) (fun _ => br_t rfl ?_)
    rcases m with ⟨p, s⟩ | v
    · have hp := I.1.1
      have epc : pc = nI p := by
        obtain ⟨L, f, fl, ln, _, _, _, _, _, _, _, _, _, e4, _⟩ := P
        exact e4
      refine br_f (by rw [epc]; exact ys_ne (by omega)) ?_
      exact xw_work hT hn hHP I P A
    · have epc : pc = -1 := by
        obtain ⟨L, f, fl, ln, _, _, _, _, _, _, _, _, _, e4, _⟩ := P
        exact e4
      refine br_t epc ?_
      have hd1 : 1 ≤ d := by
        rcases Nat.eq_zero_or_pos d with z | z
        · obtain ⟨p, s, e⟩ := hm0 z
          exact absurd e (by simp)
        · exact z
      exact xw_hand W hT hn hE hd1 I P A
end
section
/-! the reference's loop -/
variable {sz st so rs sh ca sf mo fr sp tp de bo pc sc ha vk va : Int32} {T PA PL SE AR KI VA OU TA NA NK NV NO : Nat → Int32}
def yr_W (so rs : Int32) : pm_V → Prop
  | .inl a => so = 1 ∧ rs = a
  | .inr _ => so = 2 ∧ rs = 0
def yr_End (n : Nat) (T : Nat → Int32) (S : pm_S) (v : SY) : Prop := match S, v with
  | (m, _, sg, _, _, out, o1, c1, mm, e), (sz, st, so, rs, sh, ca, sf, mo, _, _, _, _, _, _, _, _, _, _, T', PA, _, _, _, _, _, _, _, _, _, _, _) =>
    sz = nI n ∧ T' = T ∧ sh = nI o1 ∧ PA = out ∧ ca = nI c1 ∧ sf = nI sg.length ∧ mo = nI mm ∧ st = nI e ∧ (e = 1 → ∃ w, m = .inr w ∧ yr_W so rs w) ∧ (¬ e = 1 → so = 0 ∧ rs = 0)
theorem yl_exit {post : Int32 → SY → Prop} {n N : Nat} {m : pm_M} {K : List pm_F} {sg : List (List pm_F)} {nm : pm_N} {b : Nat} {out T0 : Nat → Int32} {o1 c1 mm e : Nat} (he : e < 10) (h0 : ¬ e = 0) (R : yr_R n T0 (m, K, sg, nm, b, out, o1, c1, mm, e) (sz, st, so, rs, sh, ca, sf, mo, fr, sp, tp, de, bo, pc, sc, ha, vk, va, T, PA, PL, SE, AR, KI, VA, OU, TA, NA, NK, NV, NO))
    (h : ∀ v, yr_End n T0 (m, K, sg, nm, b, out, o1, c1, mm, e) v → post (nI e) v) : wY_run_65 post (N + 2) sz st so rs sh ca sf mo fr sp tp de bo pc sc ha vk va T PA PL SE AR KI VA OU TA NA NK NV NO := by
  obtain ⟨q1, q2, q3, q4, q5, q6, q7, q8, q9, q10⟩ := R
  subst q1 q2 q3 q4 q5 q6 q7
  by_cases c : e = 1
  · obtain ⟨r1, r2, r3, w, r4, r5⟩ := q9 c
    subst r1 r2 r3 c
    refine br_t rfl (br_f (by decide) ?_)
    refine br_t rfl (br_f (by decide) (br_t rfl ?_))
    show wY_run_65 post (N + 1) (nI n) 1 so rs (nI o1) (nI c1) (nI sg.length) (nI mm) fr sp 0 de bo pc sc 1 vk va T PA PL SE AR KI VA OU TA NA NK NV NO
    refine br_f (by decide) (br_t rfl ?_)
    rcases w with a | w
    · obtain ⟨w1, w2⟩ := r5
      subst w1 w2
      exact br_t rfl (br_t rfl (h _ ⟨rfl, rfl, rfl, rfl, rfl, rfl, rfl, rfl, fun _ => ⟨_, r4, rfl, rfl⟩, fun z => absurd rfl z⟩))
    · have hvk : ¬ vk = 1 := by
        rcases w with ⟨s, p⟩ | j
        · rw [r5.1]; decide
        · rw [r5.1]; decide
      exact br_f hvk (br_f (by decide) (h _ ⟨rfl, rfl, rfl, rfl, rfl, rfl, rfl, rfl, fun _ => ⟨_, r4, rfl, rfl⟩, fun z => absurd rfl z⟩))
  · have hs := q10 (by omega)
    subst hs
    refine br_f (nI_ne0 (by omega) (by omega)) (br_f (fun z => ?_) (br_f (by decide) (h _ ⟨rfl, rfl, rfl, rfl, rfl, rfl, rfl, rfl, fun z => absurd z c, fun _ => ⟨rfl, rfl⟩⟩)))
    have z' : nI e = nI 1 := z
    rw [nI_eq (by omega) (by omega)] at z'
    exact c z'
theorem yl_run {post : Int32 → SY → Prop} {t : Nat → Nat} {n : Nat} (W : tx_W t n) (hT : tx_T T t n) (hn : n ≤ 32) :
    ∀ (w : Nat) (m : pm_M) (K : List pm_F) (sg : List (List pm_F)) (nm : pm_N) (b o1 c1 mm : Nat) (so rs fr sp tp pc sc ha vk va : Int32) (PA PL SE AR KI VA OU TA NA NK NV NO : Nat → Int32),
      pm_I t n m K sg nm b o1 c1 mm → pm_w t m K c1 < w → yr_P K sg fr sp tp PL SE AR KI VA OU TA → yn_N NA NK NV NO nm b → yr_M sc pc ha vk va m →
      (∀ v, yr_End n T (pm_fin t w (m, K, sg, nm, b, PA, o1, c1, mm, 0)) v → post (nI (pm_e (pm_fin t w (m, K, sg, nm, b, PA, o1, c1, mm, 0)))) v) →
      wY_run_65 post (w + 2) (nI n) 0 so rs (nI o1) (nI c1) (nI sg.length) (nI mm) fr sp tp (nI K.length) (nI b) pc sc ha vk va T PA PL SE AR KI VA OU TA NA NK NV NO := by
  have hk : ∀ i, i < n → tx_tok (t i) := fun i hi => (hT i hi).2
  intro w
  induction w with
  | zero => intro m K sg nm b o1 c1 mm so rs fr sp tp pc sc ha vk va PA PL SE AR KI VA OU TA NA NK NV NO _ hw; omega
  | succ w ih =>
    intro m K sg nm b o1 c1 mm so rs fr sp tp pc sc ha vk va PA PL SE AR KI VA OU TA NA NK NV NO I hw P N M h
    have J := kp_step W hn hk (out := PA) I
    have A : ∀ v, yr_R n T (pm_step t m K sg nm b PA o1 c1 mm) v → match v with | (sz, st, so, rs, sh, ca, sf, mo, fr, sp, tp, de, bo, pc, sc, ha, vk, va, T, PA, PL, SE, AR, KI, VA, OU, TA, NA, NK, NV, NO) => wY_run_65 post (w + 2) sz st so rs sh ca sf mo fr sp tp de bo pc sc ha vk va T PA PL SE AR KI VA OU TA NA NK NV NO := by
      intro v Q
      rw [pm_fin0] at h
      have he : pm_e (pm_step t m K sg nm b PA o1 c1 mm) < 10 := xl_e
      generalize pm_step t m K sg nm b PA o1 c1 mm = S at J h Q he
      obtain ⟨m', K', sg', nm', b', out', o', c', mm', e'⟩ := S
      obtain ⟨sz, st, so, rs, sh, ca, sf, mo, fr, sp, tp, de, bo, pc, sc, ha, vk, va, T2, PA2, PL, SE, AR, KI, VA, OU, TA, NA, NK, NV, NO⟩ := v
      by_cases c : e' = 0
      · subst c
        obtain ⟨I2, w2⟩ := J rfl
        obtain ⟨q1, q2, q3, q4, q5, q6, q7, q8, _, _⟩ := Q
        obtain ⟨r1, r2, r3, r4, r5, r6⟩ := q8 rfl
        subst q1 q2 q3 q4 q5 q6 q7 r1 r2 r3
        exact ih m' K' sg' nm' b' o' c' mm' so rs fr sp tp pc sc ha vk va PA2 PL SE AR KI VA OU TA NA NK NV NO I2 (by omega) r4 r5 r6 h
      · have z' : ¬ pm_e (m', K', sg', nm', b', out', o', c', mm', e') = 0 := c
        rw [pm_fin1 t w z'] at h
        exact yl_exit he c Q h
    rcases m with ⟨p, s⟩ | v
    · obtain ⟨m1, m2, m3⟩ := M
      subst m1 m2 m3
      exact br_t rfl (br_t rfl (yw_enter hT hn I P N A))
    · obtain ⟨m1, m2⟩ := M
      subst m1
      exact br_t rfl (br_f (by decide) (yw_hand W hT hn I P N m2 A))
end
section
/-! run of the component -/
variable {tc pe lc uc tk rc pc en : Int32} {va : Int64} {oc cc sc dp ed : Int32} {T ES HP FT FE : Nat → Int32} {FF : Nat → Int64} {SZ : Nat → Int32} {CV : Nat → Int64} {CN MK RE OU : Nat → Int32}
def rn_nm : pm_N := fun _ => (0, .inl 0, 0)
noncomputable def rn_S (t : Nat → Nat) (out : Nat → Int32) : pm_S := pm_fin t 90001 (.inl (0, 0), [none], [], rn_nm, 0, out, 0, 0, 1, 0)
theorem rx_run {post : Int32 → SX → Prop} {t : Nat → Nat} {n R : Nat} (W : tx_W t n) (hT : tx_T T t n) (hn : n ≤ 32) (hR : 1 ≤ R) (hR2 : R ≤ 1000)
    (h : ∀ u, xr_End n T (rn_S t OU) u → post (nI (pm_e (rn_S t OU))) u) : wpX_run post (nI n, pe, lc, uc, tk, rc, pc, en, va, oc, cc, sc, dp, ed, T, ES, HP, FT, FE, FF, SZ, CV, CN, MK, RE, OU) (nI R) := by
  unfold wpX_run
  refine pk_lt R 1 (fun z => by omega) (fun _ => pk_lt 1000 R (fun z => by omega) (fun _ => ?_))
  refine xt_complete W.2 hT hn (fun _ => br_f (by decide) ?_) (fun z => absurd W z)
  refine xh_compile W hT hn (fun ES' HP' hE hH => ?_)
  unfold wpX_forgetRun
  show wpX_startRun _ _
  unfold wpX_startRun
  refine xw_push (k := 0) (by decide) ⟨90002, ?_⟩
  obtain ⟨I0, w0⟩ := kp_0 W hn rn_nm
  have P : xr_P (.inl (0, 0)) [none] [] rn_nm 0 (nI 1) (nI 8) (nI 0) (nI 0) (nI 0) 0 (upd FT 0 (-1)) (upd FE 0 0) (vp_updL FF 0 0) SZ CV CN := by
    refine ⟨fun _ => False, fun _ => 0, [], 8, rfl, rfl, Nat.le_refl _, Nat.le_refl _, rfl, ⟨⟨?_, ?_, ?_⟩, True.intro⟩, fun x hx => absurd hx (fun z => z), fun x hx => absurd hx (fun z => z), ⟨True.intro, List.nodup_nil, fun x hx => absurd hx (by simp)⟩, rfl, 0, rfl, Or.inl ⟨rfl, rfl⟩⟩
    · exact pk_us
    · exact pk_us
    · exact pk_uLs
  exact xl_run W hT hn hE hH hR hR2 90001 0 (.inl (0, 0)) [none] [] rn_nm 0 0 0 1 (nI 1) (nI 8) (nI 0) rc (nI 0) (nI 0) 0 _ _ _ SZ CV CN MK RE OU 0 0 I0 (by omega) (by omega) P (by omega) (by omega) rfl (fun _ => ⟨0, 0, rfl⟩) h
theorem rx_bad {post : Int32 → SX → Prop} {t : Nat → Nat} {n : Nat} {r : Int32} (B : tx_B t n) (hT : tx_T T t n) (hn : n ≤ 32) (hr : ¬ tx_W t n ∨ r < 1 ∨ 1000 < r) (h : post (-1) (nI n, pe, lc, uc, tk, rc, pc, en, va, oc, cc, sc, dp, ed, T, ES, HP, FT, FE, FF, SZ, CV, CN, MK, RE, OU)) : wpX_run post (nI n, pe, lc, uc, tk, rc, pc, en, va, oc, cc, sc, dp, ed, T, ES, HP, FT, FE, FF, SZ, CV, CN, MK, RE, OU) r := by
  unfold wpX_run
  refine br_c (fun _ => h) (fun z1 => br_c (fun _ => h) (fun z2 => xt_complete B hT hn (fun W => ?_) (fun _ => br_t rfl h)))
  rcases hr with z | z | z
  · exact absurd W z
  · exact absurd z z1
  · exact absurd z z2
end
section
/-! run of the reference -/
variable {sz st so rs sh ca sf mo fr sp tp de bo pc sc ha vk va : Int32} {T PA PL SE AR KI VA OU TA NA NK NV NO : Nat → Int32}
theorem ry_run {post : Int32 → SY → Prop} {t : Nat → Nat} {n R : Nat} (W : tx_W t n) (hT : tx_T T t n) (hn : n ≤ 32) (hR : 1 ≤ R) (hR2 : R ≤ 1000)
    (h : ∀ u, yr_End n T (rn_S t PA) u → post (nI (pm_e (rn_S t PA))) u) : wpY_run post (nI n, st, so, rs, sh, ca, sf, mo, fr, sp, tp, de, bo, pc, sc, ha, vk, va, T, PA, PL, SE, AR, KI, VA, OU, TA, NA, NK, NV, NO) (nI R) := by
  unfold wpY_run
  refine yt_complete W.2 hT hn (fun _ => br_f (by decide) ?_) (fun z => absurd W z)
  refine pk_lt R 1 (fun z => by omega) (fun _ => pk_le R 1000 (fun _ => ?_) (fun z => by omega))
  unfold wpY_forget
  show wpY_push _ _ _
  have P0 : yr_P [] [] 1 0 0 PL SE AR KI VA OU TA := by
    refine ⟨[], [], [], 1, True.intro, True.intro, True.intro, ⟨rfl, fun j hj => absurd hj (by simp)⟩, ⟨List.nodup_nil, fun x hx => absurd hx (by simp), rfl⟩, by decide, rfl, rfl, rfl⟩
  have B0 : yr_B [] := ⟨by decide, fun z hz => absurd hz (by simp)⟩
  refine yw_push (K := []) (f := none) (m := 0) P0 B0 (by decide) (by decide) rfl (fun fr' sp' tp' PL' SE' AR' OU' P => ⟨90003, ?_⟩)
  obtain ⟨I0, w0⟩ := kp_0 W hn rn_nm
  exact yl_run W hT hn 90001 (.inl (0, 0)) [none] [] rn_nm 0 0 0 1 0 0 fr' sp' tp' 0 0 0 vk va PA PL' SE' AR' KI VA OU' TA NA NK NV NO I0 (by omega) P (fun i h1 h2 => by omega) ⟨rfl, rfl, rfl⟩ h
theorem ry_bad {post : Int32 → SY → Prop} {t : Nat → Nat} {n : Nat} {r : Int32} (B : tx_B t n) (hT : tx_T T t n) (hn : n ≤ 32) (hr : ¬ tx_W t n ∨ r < 1 ∨ 1000 < r) (h : post (-1) (nI n, st, so, rs, sh, ca, sf, mo, fr, sp, tp, de, bo, pc, sc, ha, vk, va, T, PA, PL, SE, AR, KI, VA, OU, TA, NA, NK, NV, NO)) : wpY_run post (nI n, st, so, rs, sh, ca, sf, mo, fr, sp, tp, de, bo, pc, sc, ha, vk, va, T, PA, PL, SE, AR, KI, VA, OU, TA, NA, NK, NV, NO) r := by
  unfold wpY_run
  refine yt_complete B hT hn (fun W => br_f (by decide) (br_c (fun _ => h) (fun z1 => br_c (fun z2 => ?_) (fun _ => h)))) (fun _ => br_t rfl h)
  rcases hr with z | z | z
  · exact absurd W z
  · exact absurd z z1
  · exact absurd z2 (Int32.not_le.mpr z)
end
section
/-! isToken, feed, undo -/
def zt_tok (x : Int32) : Prop := ∃ y, x = nI y ∧ tx_tok y
theorem zt_lt {x y : Int32} {A B : Prop} (c : Int) (f : x.toInt < c → A) (g : c ≤ x.toInt → B) (hy : y.toInt = c := by decide) : (x < y → A) ∧ (¬ x < y → B) := by
  subst hy
  rw [Int32.lt_iff_toInt_lt]
  exact ⟨f, fun z => g (by omega)⟩
theorem zt_gt {x y : Int32} {A B : Prop} (c : Int) (f : c < x.toInt → A) (g : x.toInt ≤ c → B) (hy : y.toInt = c := by decide) : (y < x → A) ∧ (¬ y < x → B) := by
  subst hy
  rw [Int32.lt_iff_toInt_lt]
  exact ⟨f, fun z => g (by omega)⟩
theorem zt_le {x y : Int32} {A B : Prop} (c : Int) (f : x.toInt ≤ c → A) (g : c < x.toInt → B) (hy : y.toInt = c := by decide) : (x ≤ y → A) ∧ (¬ x ≤ y → B) := by
  subst hy
  rw [Int32.le_iff_toInt_le]
  exact ⟨f, fun z => g (by omega)⟩
def zt_Z (z : Int) : Prop := (30 ≤ z ∧ z ≤ 35) ∨ (40 ≤ z ∧ z ≤ 45) ∨ (52 ≤ z ∧ z ≤ 65) ∨ (70 ≤ z ∧ z ≤ 75) ∨ (80 ≤ z ∧ z ≤ 120)
theorem zt_iff (x : Int32) : zt_tok x ↔ zt_Z x.toInt := by
  constructor
  · rintro ⟨y, e, h⟩
    have h2 := tx_t120 h
    unfold tx_tok at h
    unfold zt_Z
    rw [e, nI_toInt (by omega)]
    omega
  · intro h
    unfold zt_Z at h
    refine ⟨x.toInt.toNat, Int32.toInt_inj.mp ?_, ?_⟩
    · rw [nI_toInt (by omega)]; omega
    · unfold tx_tok; omega
theorem zx_tok {post : Int32 → Prop} {x : Int32} (h1 : zt_tok x → post 1) (h0 : ¬ zt_tok x → post 0) : wpX_isToken post x := by
  rw [zt_iff] at h1 h0
  generalize hz : x.toInt = z at h1 h0
  have a1 : zt_Z z → post 1 := h1
  have a0 : ¬ zt_Z z → post 0 := h0
  unfold zt_Z at a1 a0
  have B48 : ¬ (z ≤ 75 ∧ (30 ≤ z ∧ z ≤ 35 ∨ 40 ≤ z ∧ z ≤ 45 ∨ 52 ≤ z ∧ z ≤ 65 ∨ 70 ≤ z ∧ z ≤ 75)) → wX_isToken_48 post x := fun q =>
    zt_lt 80 (fun c => a0 (by omega)) (fun c => zt_gt 120 (fun d => a0 (by omega)) (fun d => a1 (by omega)))
  have B36 : ¬ (30 ≤ z ∧ z ≤ 35 ∨ 40 ≤ z ∧ z ≤ 45 ∨ 52 ≤ z ∧ z ≤ 65) → wX_isToken_36 post x := fun q =>
    zt_lt 70 (fun c => B48 (by omega)) (fun c => zt_le 75 (fun d => a1 (by omega)) (fun d => B48 (by omega)))
  have B24 : ¬ (30 ≤ z ∧ z ≤ 35 ∨ 40 ≤ z ∧ z ≤ 45) → wX_isToken_24 post x := fun q =>
    zt_lt 52 (fun c => B36 (by omega)) (fun c => zt_le 65 (fun d => a1 (by omega)) (fun d => B36 (by omega)))
  have B12 : ¬ (30 ≤ z ∧ z ≤ 35) → wX_isToken_12 post x := fun q =>
    zt_lt 40 (fun c => B24 (by omega)) (fun c => zt_le 45 (fun d => a1 (by omega)) (fun d => B24 (by omega)))
  exact zt_lt 30 (fun c => B12 (by omega)) (fun c => zt_le 35 (fun d => a1 (by omega)) (fun d => B12 (by omega)))
section
variable {sz st so rs sh ca sf mo fr sp tp de bo pc sc ha vk va : Int32} {T PA PL SE AR KI VA OU TA NA NK NV NO : Nat → Int32}
theorem zy_tok {post : Int32 → Prop} {x : Int32} (h1 : zt_tok x → post 1) (h0 : ¬ zt_tok x → post 0) : wpY_isToken post (sz, st, so, rs, sh, ca, sf, mo, fr, sp, tp, de, bo, pc, sc, ha, vk, va, T, PA, PL, SE, AR, KI, VA, OU, TA, NA, NK, NV, NO) x := by
  rw [zt_iff] at h1 h0
  generalize hz : x.toInt = z at h1 h0
  have a1 : zt_Z z → post 1 := h1
  have a0 : ¬ zt_Z z → post 0 := h0
  unfold zt_Z at a1 a0
  have B48 : ¬ (30 ≤ z ∧ z ≤ 35 ∨ 40 ≤ z ∧ z ≤ 45 ∨ 52 ≤ z ∧ z ≤ 65 ∨ 80 ≤ z ∧ z ≤ 120) → wY_isToken_48 post x sz st so rs sh ca sf mo fr sp tp de bo pc sc ha vk va T PA PL SE AR KI VA OU TA NA NK NV NO := fun q =>
    zt_lt 70 (fun c => a0 (by omega)) (fun c => zt_gt 75 (fun d => a0 (by omega)) (fun d => a1 (by omega)))
  have B36 : ¬ (30 ≤ z ∧ z ≤ 35 ∨ 40 ≤ z ∧ z ≤ 45 ∨ 80 ≤ z ∧ z ≤ 120) → wY_isToken_36 post x sz st so rs sh ca sf mo fr sp tp de bo pc sc ha vk va T PA PL SE AR KI VA OU TA NA NK NV NO := fun q =>
    zt_lt 52 (fun c => B48 (by omega)) (fun c => zt_le 65 (fun d => a1 (by omega)) (fun d => B48 (by omega)))
  have B24 : ¬ (30 ≤ z ∧ z ≤ 35 ∨ 80 ≤ z ∧ z ≤ 120) → wY_isToken_24 post x sz st so rs sh ca sf mo fr sp tp de bo pc sc ha vk va T PA PL SE AR KI VA OU TA NA NK NV NO := fun q =>
    zt_lt 40 (fun c => B36 (by omega)) (fun c => zt_le 45 (fun d => a1 (by omega)) (fun d => B36 (by omega)))
  have B12 : ¬ (80 ≤ z ∧ z ≤ 120) → wY_isToken_12 post x sz st so rs sh ca sf mo fr sp tp de bo pc sc ha vk va T PA PL SE AR KI VA OU TA NA NK NV NO := fun q =>
    zt_lt 30 (fun c => B24 (by omega)) (fun c => zt_le 35 (fun d => a1 (by omega)) (fun d => B24 (by omega)))
  exact zt_lt 80 (fun c => B12 (by omega)) (fun c => zt_le 120 (fun d => a1 (by omega)) (fun d => B12 (by omega)))
theorem zy_feed {post : Int32 → SY → Prop} {t : Nat → Nat} {n : Nat} {x : Int32} (B : tx_B t n) (hT : tx_T T t n) (hn : n ≤ 32) (h0 : ¬ zt_tok x → post (-1) (nI n, st, so, rs, sh, ca, sf, mo, fr, sp, tp, de, bo, pc, sc, ha, vk, va, T, PA, PL, SE, AR, KI, VA, OU, TA, NA, NK, NV, NO)) (h1 : zt_tok x → n = 32 ∨ tx_W t n → post (-2) (nI n, st, so, rs, sh, ca, sf, mo, fr, sp, tp, de, bo, pc, sc, ha, vk, va, T, PA, PL, SE, AR, KI, VA, OU, TA, NA, NK, NV, NO))
    (h2 : zt_tok x → n < 32 → ¬ tx_W t n → post (nI (n + 1)) (nI (n + 1), 0, 0, 0, 0, 0, 0, 0, fr, sp, tp, de, bo, pc, sc, ha, vk, va, upd T n x, PA, PL, SE, AR, KI, VA, OU, TA, NA, NK, NV, NO)) : wpY_feed post (nI n, st, so, rs, sh, ca, sf, mo, fr, sp, tp, de, bo, pc, sc, ha, vk, va, T, PA, PL, SE, AR, KI, VA, OU, TA, NA, NK, NV, NO) x := by
  unfold wpY_feed
  refine zy_tok (fun k => br_f (by decide) ?_) (fun k => br_t rfl (h0 k))
  refine yt_complete B hT hn (fun W => br_f (by decide) (h1 k (Or.inr W))) (fun W => br_t rfl (pk_lt n 32 (fun c => ⟨vp_in_nI c (by decide), nm_r (e' := upd T n x) (by rw [nI_clamp (by omega)]) (nm_r (nI_1 n) ?_)⟩) (fun c => h1 k (Or.inl (by omega)))))
  exact h2 k c W
theorem zy_undo {post : Int32 → SY → Prop} {n : Nat} (hn : n ≤ 32) (h0 : n = 0 → post (-1) (nI n, st, so, rs, sh, ca, sf, mo, fr, sp, tp, de, bo, pc, sc, ha, vk, va, T, PA, PL, SE, AR, KI, VA, OU, TA, NA, NK, NV, NO)) (h1 : ∀ k, n = k + 1 → post (T k) (nI k, 0, 0, 0, 0, 0, 0, 0, fr, sp, tp, de, bo, pc, sc, ha, vk, va, T, PA, PL, SE, AR, KI, VA, OU, TA, NA, NK, NV, NO)) : wpY_undo post (nI n, st, so, rs, sh, ca, sf, mo, fr, sp, tp, de, bo, pc, sc, ha, vk, va, T, PA, PL, SE, AR, KI, VA, OU, TA, NA, NK, NV, NO) := by
  rcases n with _ | k
  · exact br_t nI_0 (h0 rfl)
  · refine br_f (nI_ne0 (by omega) (by omega)) (nm_r (nI_pred k) ⟨vp_in_nI (by omega) (by decide), ?_⟩)
    rw [nI_clamp (by omega)]
    exact h1 k rfl
end
section
variable {tc pe lc uc tk rc pc en : Int32} {va : Int64} {oc cc sc dp ed : Int32} {T ES HP FT FE : Nat → Int32} {FF : Nat → Int64} {SZ : Nat → Int32} {CV : Nat → Int64} {CN MK RE OU : Nat → Int32}
theorem zx_feed {post : Int32 → SX → Prop} {t : Nat → Nat} {n : Nat} {x : Int32} (B : tx_B t n) (hT : tx_T T t n) (hn : n ≤ 32) (h0 : ¬ zt_tok x → post (-1) (nI n, pe, lc, uc, tk, rc, pc, en, va, oc, cc, sc, dp, ed, T, ES, HP, FT, FE, FF, SZ, CV, CN, MK, RE, OU)) (h1 : zt_tok x → n = 32 ∨ tx_W t n → post (-2) (nI n, pe, lc, uc, tk, rc, pc, en, va, oc, cc, sc, dp, ed, T, ES, HP, FT, FE, FF, SZ, CV, CN, MK, RE, OU))
    (h2 : zt_tok x → n < 32 → ¬ tx_W t n → post (nI (n + 1)) (nI (n + 1), pe, lc, uc, tk, rc, pc, en, 0, 0, 0, 0, 0, 0, upd T n x, ES, HP, FT, FE, FF, SZ, CV, CN, MK, RE, OU)) : wpX_feed post (nI n, pe, lc, uc, tk, rc, pc, en, va, oc, cc, sc, dp, ed, T, ES, HP, FT, FE, FF, SZ, CV, CN, MK, RE, OU) x := by
  unfold wpX_feed
  refine zx_tok (fun k => br_f (by decide) (pk_eq n 32 (fun c => h1 k (Or.inl c)) (fun c => ?_))) (fun k => br_t rfl (h0 k))
  refine xt_complete B hT hn (fun W => br_f (by decide) (h1 k (Or.inr W))) (fun W => br_t rfl ⟨vp_in_nI (by omega) (by decide), nm_r (e' := upd T n x) (by rw [nI_clamp (by omega)]) (nm_r (nI_1 n) ?_)⟩)
  exact h2 k (by omega) W
theorem zx_undo {post : Int32 → SX → Prop} {n : Nat} (hn : n ≤ 32) (h0 : n = 0 → post (-1) (nI n, pe, lc, uc, tk, rc, pc, en, va, oc, cc, sc, dp, ed, T, ES, HP, FT, FE, FF, SZ, CV, CN, MK, RE, OU)) (h1 : ∀ k, n = k + 1 → post (T k) (nI k, pe, lc, uc, tk, rc, pc, en, 0, 0, 0, 0, 0, 0, T, ES, HP, FT, FE, FF, SZ, CV, CN, MK, RE, OU)) : wpX_undo post (nI n, pe, lc, uc, tk, rc, pc, en, va, oc, cc, sc, dp, ed, T, ES, HP, FT, FE, FF, SZ, CV, CN, MK, RE, OU) := by
  rcases n with _ | k
  · exact br_t nI_0 (h0 rfl)
  · refine br_f (nI_ne0 (by omega) (by omega)) (nm_r (nI_pred k) ⟨vp_in_nI (by omega) (by decide), ?_⟩)
    rw [nI_clamp (by omega)]
    exact h1 k rfl
end
/-! tokens read as naturals -/
def zr_t (T : Nat → Int32) : Nat → Nat := fun i => (T i).toNatClampNeg
theorem zr_Dc {t t' : Nat → Nat} : ∀ i, (∀ j, j < i → t' j = t j) → tx_D t' i = tx_D t i := by
  intro i
  induction i with
  | zero => intro _; rfl
  | succ i ih => intro h; rw [tx_D1, tx_D1, ih (fun j hj => h j (by omega)), h i (by omega)]
theorem zr_T {T : Nat → Int32} {n : Nat} {x : Int32} (hT : tx_T T (zr_t T) n) (hx : zt_tok x) : tx_T (upd T n x) (zr_t (upd T n x)) (n + 1) := by
  obtain ⟨y, e, hy⟩ := hx
  have h2 := tx_t120 hy
  intro i hi
  unfold zr_t
  by_cases c : i = n
  · rw [c, pk_us, e, nI_clamp (by omega)]
    exact ⟨rfl, hy⟩
  · rw [pk_un c]
    exact hT i (by omega)
theorem zr_B {T : Nat → Int32} {n : Nat} {x : Int32} (B : tx_B (zr_t T) n) (W : ¬ tx_W (zr_t T) n) : tx_B (zr_t (upd T n x)) (n + 1) := by
  intro i hi
  have e : tx_D (zr_t (upd T n x)) i = tx_D (zr_t T) i := zr_Dc i (fun j hj => by unfold zr_t; rw [pk_un (by omega)])
  rw [e]
  rcases Nat.lt_or_ge i n with c | c
  · exact B i c
  · have e2 : i = n := by omega
    rw [e2]
    have b0 := tx_B0 B
    have : ¬ tx_D (zr_t T) n = 0 := fun z => W ⟨z, B⟩
    omega
end
section
/-! what is owed -/
def zr_R (tc : Int32) (va : Int64) (oc cc sc dp ed : Int32) (T OU : Nat → Int32) (sz st so rs sh ca sf mo : Int32) (T' PA : Nat → Int32) : Prop :=
  ∃ n, n ≤ 32 ∧ tc = nI n ∧ sz = nI n ∧ T' = T ∧ tx_T T (zr_t T) n ∧ tx_B (zr_t T) n ∧ st = ed ∧ sh = oc ∧ PA = OU ∧ (∃ o, o ≤ 16 ∧ oc = nI o) ∧ ca = cc ∧ sf = sc ∧ mo = dp ∧
    (ed = 1 → ∃ w L f, xm_V L f va w ∧ yr_W so rs w) ∧ (¬ ed = 1 → so = 0 ∧ rs = 0)
def i_Rel (_ : Nat) (u : SX) (v : SY) : Prop := match u, v with
  | (tc, _, _, _, _, _, _, _, va, oc, cc, sc, dp, ed, T, _, _, _, _, _, _, _, _, _, _, OU), (sz, st, so, rs, sh, ca, sf, mo, _, _, _, _, _, _, _, _, _, _, T', PA, _, _, _, _, _, _, _, _, _, _, _) =>
    zr_R tc va oc cc sc dp ed T OU sz st so rs sh ca sf mo T' PA
theorem i_up {k : Nat} {u : SX} {v : SY} (h : i_Rel k u v) : i_Rel (k + 2) u v := h
theorem i_vc0 : wpX_init (fun u => wpY_init (fun v => i_Rel 0 u v)) := by
  unfold wpX_init
  show zr_R 0 0 0 0 0 0 0 (fun _ => 0) (fun _ => 0) 0 0 0 0 0 0 0 0 (fun _ => 0) (fun _ => 0)
  exact ⟨0, by omega, rfl, rfl, rfl, fun i hi => by omega, fun i hi => by omega, rfl, rfl, rfl, ⟨0, by omega, rfl⟩, rfl, rfl, rfl, fun z => absurd z (by decide), fun _ => ⟨rfl, rfl⟩⟩
theorem zr_0 {T OU : Nat → Int32} {n : Nat} (hn : n ≤ 32) (hT : tx_T T (zr_t T) n) (hB : tx_B (zr_t T) n) : zr_R (nI n) 0 0 0 0 0 0 T OU (nI n) 0 0 0 0 0 0 0 T OU :=
  ⟨n, hn, rfl, rfl, rfl, hT, hB, rfl, rfl, rfl, ⟨0, by omega, rfl⟩, rfl, rfl, rfl, fun z => absurd z (by decide), fun _ => ⟨rfl, rfl⟩⟩
theorem i_vc_feed {k : Nat} {u : SX} {v : SY} (I : i_Rel k u v) (hk : k + 2 ≤ 1024) (v1 : Int32) : wpX_feed (fun r u' => wpY_feed (fun r' v' => r' = r ∧ i_Rel (k + 2) u' v') v v1) u v1 := by
  obtain ⟨tc, pe, lc, uc, tk, rc, pc, en, va, oc, cc, sc, dp, ed, T, ES, HP, FT, FE, FF, SZ, CV, CN, MK, RE, OU⟩ := u
  obtain ⟨sz, st, so, rs, sh, ca, sf, mo, fr, sp, tp, de, bo, pc2, sc2, ha, vk, va2, T2, PA, PL, SE, AR, KI, VA, OU2, TA, NA, NK, NV, NO⟩ := v
  have I0 := I
  obtain ⟨n, hn, e1, e2, e3, hT, hB, e4, e5, e6, ho, e7, e8, e9, hy, hz⟩ := I
  subst e1 e2 e3 e4 e5 e6 e7 e8 e9
  refine zx_feed hB hT hn (fun h0 => ?_) (fun h0 h1 => ?_) (fun h0 h1 h2 => ?_)
  · exact zy_feed hB hT hn (fun _ => ⟨rfl, I0⟩) (fun q _ => absurd q h0) (fun q _ _ => absurd q h0)
  · refine zy_feed hB hT hn (fun q => absurd h0 q) (fun _ _ => ⟨rfl, I0⟩) (fun _ q1 q2 => ?_)
    rcases h1 with h1 | h1
    · omega
    · exact absurd h1 q2
  · refine zy_feed hB hT hn (fun q => absurd h0 q) (fun _ q => ?_) (fun _ _ _ => ⟨rfl, zr_0 (by omega) (zr_T hT h0) (zr_B hB h2)⟩)
    rcases q with q | q
    · omega
    · exact absurd q h2
theorem i_vc_undo {k : Nat} {u : SX} {v : SY} (I : i_Rel k u v) (hk : k + 2 ≤ 1024) : wpX_undo (fun r u' => wpY_undo (fun r' v' => r' = r ∧ i_Rel (k + 2) u' v') v) u := by
  obtain ⟨tc, pe, lc, uc, tk, rc, pc, en, va, oc, cc, sc, dp, ed, T, ES, HP, FT, FE, FF, SZ, CV, CN, MK, RE, OU⟩ := u
  obtain ⟨sz, st, so, rs, sh, ca, sf, mo, fr, sp, tp, de, bo, pc2, sc2, ha, vk, va2, T2, PA, PL, SE, AR, KI, VA, OU2, TA, NA, NK, NV, NO⟩ := v
  have I0 := I
  obtain ⟨n, hn, e1, e2, e3, hT, hB, e4, e5, e6, ho, e7, e8, e9, hy, hz⟩ := I
  subst e1 e2 e3 e4 e5 e6 e7 e8 e9
  refine zx_undo hn (fun h0 => ?_) (fun j h1 => ?_)
  · exact zy_undo hn (fun _ => ⟨rfl, I0⟩) (fun j q => by omega)
  · refine zy_undo hn (fun q => by omega) (fun i q => ?_)
    have e : i = j := by omega
    subst e
    exact ⟨rfl, zr_0 (by omega) (fun i hi => hT i (by omega)) (fun i hi => hB i (by omega))⟩
theorem i_vc_token {k : Nat} {u : SX} {v : SY} (I : i_Rel k u v) (hk : k + 2 ≤ 1024) (v1 : Int32) : wpX_token (fun r => wpY_token (fun r' => r' = r ∧ i_Rel (k + 2) u v) v v1) u v1 := by
  obtain ⟨tc, pe, lc, uc, tk, rc, pc, en, va, oc, cc, sc, dp, ed, T, ES, HP, FT, FE, FF, SZ, CV, CN, MK, RE, OU⟩ := u
  obtain ⟨sz, st, so, rs, sh, ca, sf, mo, fr, sp, tp, de, bo, pc2, sc2, ha, vk, va2, T2, PA, PL, SE, AR, KI, VA, OU2, TA, NA, NK, NV, NO⟩ := v
  have I0 := I
  obtain ⟨n, hn, e1, e2, e3, hT, hB, e4, e5, e6, ho, e7, e8, e9, hy, hz⟩ := I
  subst e1 e2 e3 e4 e5 e6 e7 e8 e9
  rcases pk_ix v1 (n := n) (by omega) with c | c | ⟨j, hj, rfl⟩
  · exact br_t c (br_t c ⟨rfl, I0⟩)
  · exact br_c (fun d => br_t d ⟨rfl, I0⟩) (fun d => br_t c (br_f d (br_t c ⟨rfl, I0⟩)))
  · have v : vp_in (nI j) 32 := vp_in_nI (by omega) (by decide)
    exact br_f (nI_pos (by omega)) (br_f (nI_ge hj (by omega)) ⟨v, br_f (nI_pos (by omega)) (br_f (nI_ge hj (by omega)) ⟨v, rfl, I0⟩)⟩)
theorem i_vc_complete {k : Nat} {u : SX} {v : SY} (I : i_Rel k u v) (hk : k + 2 ≤ 1024) : wpX_complete (fun r => wpY_complete (fun r' => r' = r ∧ i_Rel (k + 2) u v) v) u := by
  obtain ⟨tc, pe, lc, uc, tk, rc, pc, en, va, oc, cc, sc, dp, ed, T, ES, HP, FT, FE, FF, SZ, CV, CN, MK, RE, OU⟩ := u
  obtain ⟨sz, st, so, rs, sh, ca, sf, mo, fr, sp, tp, de, bo, pc2, sc2, ha, vk, va2, T2, PA, PL, SE, AR, KI, VA, OU2, TA, NA, NK, NV, NO⟩ := v
  have I0 := I
  obtain ⟨n, hn, e1, e2, e3, hT, hB, e4, e5, e6, ho, e7, e8, e9, hy, hz⟩ := I
  subst e1 e2 e3 e4 e5 e6 e7 e8 e9
  exact xt_complete hB hT hn (fun W => yt_complete hB hT hn (fun _ => ⟨rfl, I0⟩) (fun q => absurd W q)) (fun W => yt_complete hB hT hn (fun q => absurd q W) (fun _ => ⟨rfl, I0⟩))
theorem i_vc_free {k : Nat} {u : SX} {v : SY} (I : i_Rel k u v) (hk : k + 2 ≤ 1024) : wpX_free (fun r u' => wpY_free (fun r' => r' = r ∧ i_Rel (k + 2) u' v) v) u := by
  obtain ⟨tc, pe, lc, uc, tk, rc, pc, en, va, oc, cc, sc, dp, ed, T, ES, HP, FT, FE, FF, SZ, CV, CN, MK, RE, OU⟩ := u
  obtain ⟨sz, st, so, rs, sh, ca, sf, mo, fr, sp, tp, de, bo, pc2, sc2, ha, vk, va2, T2, PA, PL, SE, AR, KI, VA, OU2, TA, NA, NK, NV, NO⟩ := v
  have I0 := I
  obtain ⟨n, hn, e1, e2, e3, hT, hB, e4, e5, e6, ho, e7, e8, e9, hy, hz⟩ := I
  subst e1 e2 e3 e4 e5 e6 e7 e8 e9
  exact xh_free hB hT hn (fun W ES' HP' => yf_free hB hT hn (fun _ => ⟨rfl, I0⟩) (fun q => absurd W q)) (fun W => yf_free hB hT hn (fun q => absurd q W) (fun _ => ⟨rfl, I0⟩))
theorem zr_end {n : Nat} {T : Nat → Int32} {S : pm_S} {u : SX} {v : SY} (hn : n ≤ 32) (hT : tx_T T (zr_t T) n) (hB : tx_B (zr_t T) n) (X : xr_End n T S u) (Y : yr_End n T S v) (k : Nat) : i_Rel k u v := by
  obtain ⟨m, K, sg, nm, b, out, o1, c1, mm, e⟩ := S
  obtain ⟨tc, pe, lc, uc, tk, rc, pc, en, va, oc, cc, sc, dp, ed, T1, ES, HP, FT, FE, FF, SZ, CV, CN, MK, RE, OU⟩ := u
  obtain ⟨sz, st, so, rs, sh, ca, sf, mo, fr, sp, tp, de, bo, pc2, sc2, ha, vk, va2, T2, PA, PL, SE, AR, KI, VA, OU2, TA, NA, NK, NV, NO⟩ := v
  obtain ⟨x1, x2, x3, x4, x5, x6, x7, x8, x9, x10, x11⟩ := X
  obtain ⟨y1, y2, y3, y4, y5, y6, y7, y8, y9, y10⟩ := Y
  subst x1 x2 x3 x4 x5 x6 x7 x8 y1 y2 y3 y4 y5 y6 y7 y8
  have he : nI e = 1 ↔ e = 1 := by
    have h := nI_eq (a := e) (b := 1) (by omega) (by omega)
    exact h
  refine ⟨n, hn, rfl, rfl, rfl, hT, hB, rfl, rfl, rfl, ⟨o1, x9, rfl⟩, rfl, rfl, rfl, fun z => ?_, fun z => y10 (fun q => z (he.mpr q))⟩
  obtain ⟨w, L, f, w1, w2⟩ := x11 (he.mp z)
  obtain ⟨w', w3, w4⟩ := y9 (he.mp z)
  have e : w = w' := Sum.inr.inj (w1.symm.trans w3)
  exact ⟨w, L, f, w2, by rw [e]; exact w4⟩
theorem i_vc_run {k : Nat} {u : SX} {v : SY} (I : i_Rel k u v) (hk : k + 2 ≤ 1024) (v1 : Int32) : wpX_run (fun r u' => wpY_run (fun r' v' => r' = r ∧ i_Rel (k + 2) u' v') v v1) u v1 := by
  obtain ⟨tc, pe, lc, uc, tk, rc, pc, en, va, oc, cc, sc, dp, ed, T, ES, HP, FT, FE, FF, SZ, CV, CN, MK, RE, OU⟩ := u
  obtain ⟨sz, st, so, rs, sh, ca, sf, mo, fr, sp, tp, de, bo, pc2, sc2, ha, vk, va2, T2, PA, PL, SE, AR, KI, VA, OU2, TA, NA, NK, NV, NO⟩ := v
  have I0 := I
  obtain ⟨n, hn, e1, e2, e3, hT, hB, e4, e5, e6, ho, e7, e8, e9, hy, hz⟩ := I
  subst e1 e2 e3 e4 e5 e6 e7 e8 e9
  by_cases c : ¬ tx_W (zr_t T2) n ∨ v1 < 1 ∨ 1000 < v1
  · exact rx_bad hB hT hn c (ry_bad hB hT hn c ⟨rfl, I0⟩)
  · have W : tx_W (zr_t T2) n := Classical.byContradiction (fun q => c (Or.inl q))
    have c1 : ¬ v1 < 1 := fun q => c (Or.inr (Or.inl q))
    have c2 : ¬ 1000 < v1 := fun q => c (Or.inr (Or.inr q))
    obtain ⟨R, hR, e⟩ := nI_of2 (x := v1) (M := 1000) (n := 1000) (by decide) (fun q => c1 (Int32.lt_trans q (by decide))) (Int32.not_lt.mp c2)
    subst e
    have hR1 : 1 ≤ R := by
      rcases Nat.eq_zero_or_pos R with q | q
      · rw [q] at c1; exact absurd (by decide) c1
      · exact q
    exact rx_run W hT hn hR1 hR (fun u' X => ry_run W hT hn hR1 hR (fun v' Y => ⟨rfl, zr_end hn hT hB X Y (k + 2)⟩))
theorem i_vc_status {k : Nat} {u : SX} {v : SY} (I : i_Rel k u v) (hk : k + 2 ≤ 1024) : wpX_status (fun r => wpY_status (fun r' => r' = r ∧ i_Rel (k + 2) u v) v) u := by
  obtain ⟨tc, pe, lc, uc, tk, rc, pc, en, va, oc, cc, sc, dp, ed, T, ES, HP, FT, FE, FF, SZ, CV, CN, MK, RE, OU⟩ := u
  obtain ⟨sz, st, so, rs, sh, ca, sf, mo, fr, sp, tp, de, bo, pc2, sc2, ha, vk, va2, T2, PA, PL, SE, AR, KI, VA, OU2, TA, NA, NK, NV, NO⟩ := v
  have I0 := I
  obtain ⟨n, hn, e1, e2, e3, hT, hB, e4, e5, e6, ho, e7, e8, e9, hy, hz⟩ := I
  exact ⟨e4, I0⟩
theorem zk_kind {post : Int32 → Prop} {va : Int64} {so rs ed : Int32} {tc pe lc uc tk rc pc en oc cc sc dp : Int32} {T ES HP FT FE : Nat → Int32} {FF : Nat → Int64} {SZ : Nat → Int32} {CV : Nat → Int64} {CN MK RE OU : Nat → Int32} (hy : ed = 1 → ∃ w L f, xm_V L f va w ∧ yr_W so rs w) (hz : ¬ ed = 1 → so = 0 ∧ rs = 0) (h : (so = 1 → rs = va.toInt32) → (¬ so = 1 → rs = 0) → post so) :
    wpX_kind post (tc, pe, lc, uc, tk, rc, pc, en, va, oc, cc, sc, dp, ed, T, ES, HP, FT, FE, FF, SZ, CV, CN, MK, RE, OU) := by
  refine br_c (fun c => ?_) (fun c => ?_)
  · obtain ⟨w, L, f, w1, w2⟩ := hy c
    rcases w with a | ⟨s, p⟩ | j
    · have e : va = xm_vo 1 a := w1
      obtain ⟨g1, g2⟩ := w2
      subst e g1 g2
      exact xw_kind (by decide) (br_t rfl (h (fun _ => (xv_ct 1 _).symm) (fun z => absurd rfl z)))
    · obtain ⟨c', e, _⟩ := w1
      obtain ⟨g1, g2⟩ := w2
      subst e g1 g2
      exact xw_kind (by decide) (br_f (by decide) (h (fun z => absurd z (by decide)) (fun _ => rfl)))
    · obtain ⟨e, _⟩ := w1
      obtain ⟨g1, g2⟩ := w2
      subst e g1 g2
      exact xw_kind (by decide) (br_f (by decide) (h (fun z => absurd z (by decide)) (fun _ => rfl)))
  · obtain ⟨g1, g2⟩ := hz c
    subst g1 g2
    exact h (fun z => absurd z (by decide)) (fun _ => rfl)
theorem i_vc_kind {k : Nat} {u : SX} {v : SY} (I : i_Rel k u v) (hk : k + 2 ≤ 1024) : wpX_kind (fun r => wpY_kind (fun r' => r' = r ∧ i_Rel (k + 2) u v) v) u := by
  obtain ⟨tc, pe, lc, uc, tk, rc, pc, en, va, oc, cc, sc, dp, ed, T, ES, HP, FT, FE, FF, SZ, CV, CN, MK, RE, OU⟩ := u
  obtain ⟨sz, st, so, rs, sh, ca, sf, mo, fr, sp, tp, de, bo, pc2, sc2, ha, vk, va2, T2, PA, PL, SE, AR, KI, VA, OU2, TA, NA, NK, NV, NO⟩ := v
  have I0 := I
  obtain ⟨n, hn, e1, e2, e3, hT, hB, e4, e5, e6, ho, e7, e8, e9, hy, hz⟩ := I
  exact zk_kind hy hz (fun _ _ => ⟨rfl, I0⟩)
theorem i_vc_number {k : Nat} {u : SX} {v : SY} (I : i_Rel k u v) (hk : k + 2 ≤ 1024) : wpX_number (fun r => wpY_number (fun r' => r' = r ∧ i_Rel (k + 2) u v) v) u := by
  obtain ⟨tc, pe, lc, uc, tk, rc, pc, en, va, oc, cc, sc, dp, ed, T, ES, HP, FT, FE, FF, SZ, CV, CN, MK, RE, OU⟩ := u
  obtain ⟨sz, st, so, rs, sh, ca, sf, mo, fr, sp, tp, de, bo, pc2, sc2, ha, vk, va2, T2, PA, PL, SE, AR, KI, VA, OU2, TA, NA, NK, NV, NO⟩ := v
  have I0 := I
  obtain ⟨n, hn, e1, e2, e3, hT, hB, e4, e5, e6, ho, e7, e8, e9, hy, hz⟩ := I
  unfold wpX_number
  refine zk_kind hy hz (fun h1 h0 => br_c (fun c => ⟨h1 c, I0⟩) (fun c => ⟨h0 c, I0⟩))
theorem i_vc_outs {k : Nat} {u : SX} {v : SY} (I : i_Rel k u v) (hk : k + 2 ≤ 1024) : wpX_outs (fun r => wpY_outs (fun r' => r' = r ∧ i_Rel (k + 2) u v) v) u := by
  obtain ⟨tc, pe, lc, uc, tk, rc, pc, en, va, oc, cc, sc, dp, ed, T, ES, HP, FT, FE, FF, SZ, CV, CN, MK, RE, OU⟩ := u
  obtain ⟨sz, st, so, rs, sh, ca, sf, mo, fr, sp, tp, de, bo, pc2, sc2, ha, vk, va2, T2, PA, PL, SE, AR, KI, VA, OU2, TA, NA, NK, NV, NO⟩ := v
  have I0 := I
  obtain ⟨n, hn, e1, e2, e3, hT, hB, e4, e5, e6, ho, e7, e8, e9, hy, hz⟩ := I
  exact ⟨e5, I0⟩
theorem i_vc_out {k : Nat} {u : SX} {v : SY} (I : i_Rel k u v) (hk : k + 2 ≤ 1024) (v1 : Int32) : wpX_out (fun r => wpY_out (fun r' => r' = r ∧ i_Rel (k + 2) u v) v v1) u v1 := by
  obtain ⟨tc, pe, lc, uc, tk, rc, pc, en, va, oc, cc, sc, dp, ed, T, ES, HP, FT, FE, FF, SZ, CV, CN, MK, RE, OU⟩ := u
  obtain ⟨sz, st, so, rs, sh, ca, sf, mo, fr, sp, tp, de, bo, pc2, sc2, ha, vk, va2, T2, PA, PL, SE, AR, KI, VA, OU2, TA, NA, NK, NV, NO⟩ := v
  have I0 := I
  obtain ⟨n, hn, e1, e2, e3, hT, hB, e4, e5, e6, ⟨o, ho, e0⟩, e7, e8, e9, hy, hz⟩ := I
  subst e1 e2 e3 e4 e5 e6 e7 e8 e9 e0
  rcases pk_ix v1 (n := o) (by omega) with c | c | ⟨j, hj, rfl⟩
  · exact br_t c (br_t c ⟨rfl, I0⟩)
  · exact br_c (fun d => br_t d ⟨rfl, I0⟩) (fun d => br_t c (br_f d (br_t c ⟨rfl, I0⟩)))
  · have v : vp_in (nI j) 16 := vp_in_nI (by omega) (by decide)
    exact br_f (nI_pos (by omega)) (br_f (nI_ge hj (by omega)) ⟨v, br_f (nI_pos (by omega)) (br_f (nI_ge hj (by omega)) ⟨v, rfl, I0⟩)⟩)
theorem i_vc_calls {k : Nat} {u : SX} {v : SY} (I : i_Rel k u v) (hk : k + 2 ≤ 1024) : wpX_calls (fun r => wpY_calls (fun r' => r' = r ∧ i_Rel (k + 2) u v) v) u := by
  obtain ⟨tc, pe, lc, uc, tk, rc, pc, en, va, oc, cc, sc, dp, ed, T, ES, HP, FT, FE, FF, SZ, CV, CN, MK, RE, OU⟩ := u
  obtain ⟨sz, st, so, rs, sh, ca, sf, mo, fr, sp, tp, de, bo, pc2, sc2, ha, vk, va2, T2, PA, PL, SE, AR, KI, VA, OU2, TA, NA, NK, NV, NO⟩ := v
  have I0 := I
  obtain ⟨n, hn, e1, e2, e3, hT, hB, e4, e5, e6, ho, e7, e8, e9, hy, hz⟩ := I
  exact ⟨e7, I0⟩
theorem i_vc_shifts {k : Nat} {u : SX} {v : SY} (I : i_Rel k u v) (hk : k + 2 ≤ 1024) : wpX_shifts (fun r => wpY_shifts (fun r' => r' = r ∧ i_Rel (k + 2) u v) v) u := by
  obtain ⟨tc, pe, lc, uc, tk, rc, pc, en, va, oc, cc, sc, dp, ed, T, ES, HP, FT, FE, FF, SZ, CV, CN, MK, RE, OU⟩ := u
  obtain ⟨sz, st, so, rs, sh, ca, sf, mo, fr, sp, tp, de, bo, pc2, sc2, ha, vk, va2, T2, PA, PL, SE, AR, KI, VA, OU2, TA, NA, NK, NV, NO⟩ := v
  have I0 := I
  obtain ⟨n, hn, e1, e2, e3, hT, hB, e4, e5, e6, ho, e7, e8, e9, hy, hz⟩ := I
  exact ⟨e8, I0⟩
theorem i_vc_deepest {k : Nat} {u : SX} {v : SY} (I : i_Rel k u v) (hk : k + 2 ≤ 1024) : wpX_deepest (fun r => wpY_deepest (fun r' => r' = r ∧ i_Rel (k + 2) u v) v) u := by
  obtain ⟨tc, pe, lc, uc, tk, rc, pc, en, va, oc, cc, sc, dp, ed, T, ES, HP, FT, FE, FF, SZ, CV, CN, MK, RE, OU⟩ := u
  obtain ⟨sz, st, so, rs, sh, ca, sf, mo, fr, sp, tp, de, bo, pc2, sc2, ha, vk, va2, T2, PA, PL, SE, AR, KI, VA, OU2, TA, NA, NK, NV, NO⟩ := v
  have I0 := I
  obtain ⟨n, hn, e1, e2, e3, hT, hB, e4, e5, e6, ho, e7, e8, e9, hy, hz⟩ := I
  exact ⟨e9, I0⟩
end
