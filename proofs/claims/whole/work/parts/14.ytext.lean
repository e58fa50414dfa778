/-! the reference's text: parts, end, complete, gives, free -/
variable {sz st so rs sh ca sf mo fr sp tp de bo pc sc ha vk va : Int32} {T PA PL SE AR KI VA OU TA NA NK NV NO : Nat → Int32}
def tx_T (T : Nat → Int32) (t : Nat → Nat) (n : Nat) : Prop := ∀ i, i < n → T i = nI (t i) ∧ tx_tok (t i)
theorem tx_pt3 (x : Nat) : tx_pt x ≤ 3 := by
  have P := @kp_pt x
  omega
theorem tx_t120 {x : Nat} (h : tx_tok x) : 30 ≤ x ∧ x ≤ 120 := by unfold tx_tok at h; omega
theorem yt_parts {post : Int32 → Prop} {x : Nat} (hx : tx_tok x) (hp : post (nI (tx_pt x))) : wpY_parts post (sz, st, so, rs, sh, ca, sf, mo, fr, sp, tp, de, bo, pc, sc, ha, vk, va, T, PA, PL, SE, AR, KI, VA, OU, TA, NA, NK, NV, NO) (nI x) := by
  have P := @kp_pt x
  unfold tx_tok at hx
  have q0 : tx_pt x = 0 → post 0 := fun e => by rw [e] at hp; exact hp
  have q1 : tx_pt x = 1 → post 1 := fun e => by rw [e] at hp; exact hp
  have q2 : tx_pt x = 2 → post 2 := fun e => by rw [e] at hp; exact hp
  have q3 : tx_pt x = 3 → post 3 := fun e => by rw [e] at hp; exact hp
  exact pk_le 80 x (fun h => q0 (by omega)) (fun h => pk_le 40 x (fun h2 => pk_le 46 x (fun h3 => pk_lt 56 x (fun h4 => pk_eq x 57 (fun h5 => q3 (by omega)) (fun h5 => pk_lt 59 x (fun h6 => pk_le 66 x (fun h7 => q1 (by omega)) (fun h7 => q2 (by omega))) (fun h6 => q1 (by omega)))) (fun h4 => q2 (by omega))) (fun h3 => q1 (by omega))) (fun h2 => q0 (by omega)))
theorem yt_lp {post : Int32 → Prop} {t : Nat → Nat} {n : Nat} (hT : tx_T T t n) (hn : n ≤ 32) {p e : Nat} (he : e ≤ n) (hD : ∀ j, p ≤ j → j < e → tx_D t p ≤ tx_D t j)
    (h1 : tx_D t e = tx_D t p - 1 → post (nI e)) (h2 : tx_D t p ≤ tx_D t e → e = n ∧ post 100) (h3 : tx_D t p - 1 ≤ tx_D t e) :
    ∀ d i (a : Nat), i + d = e → p ≤ i → (a : Int) = tx_D t i - tx_D t p + 1 → a ≤ 2 * i + 1 → wY_end_4 post (nI n) st so rs sh ca sf mo fr sp tp de bo pc sc ha vk va T PA PL SE AR KI VA OU TA NA NK NV NO (d + 1) (nI a) (nI i) := by
  intro d
  induction d with
  | zero =>
    intro i a hi hpi ha hb
    have e1 : i = e := by omega
    rw [e1] at ha hb ⊢
    by_cases c : a = 0
    · rw [c]
      exact pk_le 0 0 (fun _ => pk_le 0 0 (fun _ => h1 (by omega)) (fun h => by omega)) (fun h => by omega)
    · obtain ⟨g1, g2⟩ := h2 (by omega)
      exact pk_le a 0 (fun h => by omega) (fun _ => pk_le n e (fun _ => pk_le a 0 (fun h => by omega) (fun _ => g2)) (fun h => by omega))
  | succ d ih =>
    intro i a hi hpi ha hb
    have g := hD i hpi (by omega)
    obtain ⟨t1, t2⟩ := hT i (by omega)
    have hp3 := tx_pt3 (t i)
    have e1 := tx_D1 t i
    refine pk_le a 0 (fun h => by omega) (fun _ => pk_le n i (fun h => by omega) (fun _ => ⟨vp_in_nI (by omega) (by omega), ?_⟩))
    rw [nI_clamp (by omega), t1]
    refine yt_parts t2 (nm_r (e' := nI (a + tx_pt (t i) - 1)) ?_ (nm_r (nI_1 i) (ih (i + 1) _ (by omega) (by omega) (by omega) (by omega))))
    rw [nI_add]
    exact pk_sub (b := 1) (by omega)
theorem yt_end {post : Int32 → Prop} {t : Nat → Nat} {n : Nat} (W : tx_W t n) (hT : tx_T T t n) (hn : n ≤ 32) {p : Nat} (hp : p < n) (h : post (nI (tx_e t p))) : wpY_end post (nI n, st, so, rs, sh, ca, sf, mo, fr, sp, tp, de, bo, pc, sc, ha, vk, va, T, PA, PL, SE, AR, KI, VA, OU, TA, NA, NK, NV, NO) (nI p) := by
  obtain ⟨S, hle⟩ := tx_spec W hp
  have h0 := S.1
  exact ⟨_, yt_lp hT hn hle S.2.2 (fun _ => h) (fun q => by have := S.2.1; omega) (by have := S.2.1; omega) (tx_e t p - p) p 1 (by omega) (Nat.le_refl _) (by omega) (by omega)⟩
/-- every proper beginning wants something -/
def tx_B (t : Nat → Nat) (n : Nat) : Prop := ∀ i, i < n → 1 ≤ tx_D t i
theorem tx_B0 {t : Nat → Nat} {n : Nat} (B : tx_B t n) : 0 ≤ tx_D t n := by
  rcases Nat.eq_zero_or_pos n with h | h
  · rw [h]; show (0 : Int) ≤ 1; omega
  · have h1 := B (n - 1) (by omega)
    have h2 := tx_Dm t h
    omega
theorem yt_complete {post : Int32 → Prop} {t : Nat → Nat} {n : Nat} (B : tx_B t n) (hT : tx_T T t n) (hn : n ≤ 32) (h1 : tx_W t n → post 1) (h0 : ¬ tx_W t n → post 0) : wpY_complete post (nI n, st, so, rs, sh, ca, sf, mo, fr, sp, tp, de, bo, pc, sc, ha, vk, va, T, PA, PL, SE, AR, KI, VA, OU, TA, NA, NK, NV, NO) := by
  have b0 := tx_B0 B
  have e0 : tx_D t 0 = 1 := rfl
  refine ⟨_, yt_lp (p := 0) hT hn (Nat.le_refl n) (fun j _ hj => by have := B j hj; omega) (fun q => ?_) (fun q => ⟨rfl, ?_⟩) (by omega) n 0 1 (by omega) (Nat.le_refl _) (by omega) (by omega)⟩
  · exact br_t rfl (h1 ⟨by omega, B⟩)
  · refine br_f (fun z => ?_) (h0 (fun W => by have := W.1; omega))
    have z' : nI 100 = nI n := z
    rw [nI_eq (by omega) (by omega)] at z'
    omega
theorem yt_gives {post : Int32 → Prop} {t : Nat → Nat} {n : Nat} (W : tx_W t n) (hT : tx_T T t n) (hn : n ≤ 32) {p q x : Nat} (hp : p < q) (hq : q < n) (hx : x ≤ 5)
    (h1 : tx_gv t p q = true → t p % 10 = x → post 1) (h0 : ¬ (tx_gv t p q = true ∧ t p % 10 = x) → post 0) : wpY_gives post (nI n, st, so, rs, sh, ca, sf, mo, fr, sp, tp, de, bo, pc, sc, ha, vk, va, T, PA, PL, SE, AR, KI, VA, OU, TA, NA, NK, NV, NO) (nI p) (nI x) (nI q) := by
  obtain ⟨t1, t2⟩ := hT p (by omega)
  have P := @kp_pt (t p)
  have G := @tx_gv_iff t p q
  unfold tx_tok at t2
  refine ⟨vp_in_nI (by omega) (by omega), nm_r (e' := nI (t p)) (by rw [nI_clamp (by omega)]; exact t1) ?_⟩
  have L : ∀ (k : Nat), t p = k + x → (k = 40 ∨ k = 70) → wY_gives_61 post (nI p) (nI q) (nI n) st so rs sh ca sf mo fr sp tp de bo pc sc ha vk va T PA PL SE AR KI VA OU TA NA NK NV NO := by
    intro k e hk
    refine pk_le q p (fun h => by omega) (fun _ => yt_end W hT hn (by omega) ?_)
    exact pk_le (tx_e t p) q (fun h => h0 (fun z => by have := G.mp z.1; omega)) (fun h => h1 (G.mpr ⟨Or.inl ⟨by omega, hp⟩, h⟩) (by omega)) rfl rfl (by have := tx_le W (p := p) (by omega); omega)
  refine pk_eq (t p) (60 + x) (fun e => ?_) (fun e => pk_eq (t p) (40 + x) (fun e2 => L 40 e2 (Or.inl rfl)) (fun e2 => pk_eq (t p) (70 + x) (fun e3 => L 70 e3 (Or.inr rfl)) (fun e3 => h0 (fun z => ?_)) rfl (nI_add 70 x)) rfl (nI_add 40 x)) rfl (nI_add 60 x)
  · have T1 := tx_1 W (p := p) (by omega) (by omega)
    have e1 : nI p + 1 = nI (p + 1) := nI_1 p
    have le1 := tx_le W (p := p) (by omega)
    rw [e1]
    refine yt_end W hT hn T1.1 (pk_lt q (tx_e t (p + 1)) (fun h => h0 (fun z => by have := G.mp z.1; omega)) (fun h => yt_end W hT hn (by omega) ?_))
    exact pk_le (tx_e t p) q (fun h => h0 (fun z => by have := G.mp z.1; omega)) (fun h => h1 (G.mpr ⟨Or.inr ⟨by omega, by omega⟩, h⟩) (by omega))
  · have := G.mp z.1
    omega
