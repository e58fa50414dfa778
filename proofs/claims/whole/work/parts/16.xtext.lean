/-! the component's text: partsOf, complete, findEnds -/
variable {tc pe lc uc tk rc pc en : Int32} {va : Int64} {oc cc sc dp ed : Int32} {T ES HP FT FE : Nat → Int32} {FF : Nat → Int64} {SZ : Nat → Int32} {CV : Nat → Int64} {CN MK RE OU : Nat → Int32}
theorem xt_d10 {x : Nat} (h : x < 1000) : nI x / 10 = nI (x / 10) := pk_div (d := 10) (by omega) (by decide) (by decide)
theorem xt_r10 {x : Nat} (h : x < 1000) : nI x - nI x / 10 * 10 = nI (x % 10) := pk_rem (d := 10) (by omega) (by decide) (by decide)
theorem xt_parts {post : Int32 → Prop} {x : Nat} (hx : tx_tok x) (hp : post (nI (tx_pt x))) : wpX_partsOf post (nI x) := by
  have P := @kp_pt x
  unfold tx_tok at hx
  have q0 : tx_pt x = 0 → post 0 := fun e => by rw [e] at hp; exact hp
  have q1 : tx_pt x = 1 → post 1 := fun e => by rw [e] at hp; exact hp
  have q2 : tx_pt x = 2 → post 2 := fun e => by rw [e] at hp; exact hp
  have q3 : tx_pt x = 3 → post 3 := fun e => by rw [e] at hp; exact hp
  exact ⟨by decide, nm_r (xt_d10 (by omega)) (pk_eq (x / 10) 4 (fun h => q1 (by omega)) (fun h => pk_eq (x / 10) 7 (fun h => q1 (by omega)) (fun h => pk_eq x 58 (fun h => q1 (by omega)) (fun h => pk_eq x 59 (fun h => q1 (by omega)) (fun h => pk_eq x 57 (fun h => q3 (by omega)) (fun h => pk_eq (x / 10) 5 (fun h => q2 (by omega)) (fun h => pk_eq (x / 10) 6 (fun h => q2 (by omega)) (fun h => q0 (by omega)))))))))⟩
theorem xt_ap {a k : Nat} (h : 1 ≤ a + k) : nI a + (nI k - 1) = nI (a + k - 1) := by
  have e : nI a + (nI k - 1) = (nI a + nI k) - 1 := by grind
  rw [e, nI_add]
  exact pk_sub (b := 1) h
theorem xt_clp {post : Int32 → Prop} {t : Nat → Nat} {n : Nat} (B : tx_B t n) (hT : tx_T T t n) (hn : n ≤ 32) (h1 : tx_W t n → post 1) (h0 : ¬ tx_W t n → post 0) :
    ∀ d i (a : Nat), i + d = n → (a : Int) = tx_D t i → a ≤ 2 * i + 1 → wX_complete_4 post (nI n) pe lc uc tk rc pc en va oc cc sc dp ed T ES HP FT FE FF SZ CV CN MK RE OU (d + 1) (nI a) (nI i) := by
  intro d
  induction d with
  | zero =>
    intro i a hi ha hb
    have e : i = n := by omega
    rw [e] at ha hb ⊢
    refine pk_le n n (fun _ => pk_eq a 0 (fun z => h1 ⟨by omega, B⟩) (fun z => h0 (fun W => by have := W.1; omega))) (fun z => by omega)
  | succ d ih =>
    intro i a hi ha hb
    obtain ⟨t1, t2⟩ := hT i (by omega)
    have g := B i (by omega)
    have hp3 := tx_pt3 (t i)
    have e1 := tx_D1 t i
    refine pk_le n i (fun z => by omega) (fun _ => ⟨vp_in_nI (by omega) (by omega), ?_⟩)
    rw [nI_clamp (by omega), t1]
    exact xt_parts t2 (nm_r (xt_ap (by omega)) (nm_r (nI_1 i) (ih (i + 1) _ (by omega) (by omega) (by omega))))
theorem xt_complete {post : Int32 → Prop} {t : Nat → Nat} {n : Nat} (B : tx_B t n) (hT : tx_T T t n) (hn : n ≤ 32) (h1 : tx_W t n → post 1) (h0 : ¬ tx_W t n → post 0) : wpX_complete post (nI n, pe, lc, uc, tk, rc, pc, en, va, oc, cc, sc, dp, ed, T, ES, HP, FT, FE, FF, SZ, CV, CN, MK, RE, OU) :=
  ⟨n + 1, xt_clp B hT hn h1 h0 n 0 1 (by omega) rfl (by omega)⟩
def xt_E (ES : Nat → Int32) (t : Nat → Nat) (k n : Nat) : Prop := ∀ q, k ≤ q → q < n → ES q = nI (tx_e t q)
theorem xt_in {post : SX → Prop} {J : Int32 → (Nat → Int32) → (Nat → Int32) → (Nat → Int32) → (Nat → Int32) → (Nat → Int32) → (Nat → Int64) → (Nat → Int32) → (Nat → Int64) → (Nat → Int32) → (Nat → Int32) → (Nat → Int32) → (Nat → Int32) → Prop} {t : Nat → Nat} {n p : Nat} (W : tx_W t n) (hn : n ≤ 32) (hp : p < n) (hE : xt_E ES t (p + 1) n)
    (h : J (nI p + (-1)) T (upd ES p (nI (tx_e t p))) HP FT FE FF SZ CV CN MK RE OU) : ∀ d j c, j + d = tx_pt (t p) → c ≤ n → tx_P t p j c → wX_findEnds_28 post J (nI p) (nI (tx_pt (t p))) tc pe lc uc tk rc pc en va oc cc sc dp ed T ES HP FT FE FF SZ CV CN MK RE OU (d + 1) (nI c) (nI j) := by
  have hp3 := tx_pt3 (t p)
  intro d
  induction d with
  | zero =>
    intro j c hj hc hP
    have e : j = tx_pt (t p) := by omega
    rw [e] at hP ⊢
    have e2 := tx_Pe hP
    refine pk_le (tx_pt (t p)) (tx_pt (t p)) (fun _ => ⟨vp_in_nI (by omega) (by omega), nm_r (e' := upd ES p (nI (tx_e t p))) ?_ (nm_e h)⟩) (fun z => by omega)
    rw [nI_clamp (by omega), e2]
  | succ d ih =>
    intro j c hj hc hP
    have S := tx_Ps W hp (by omega) hc hP
    have h1 := hP.1
    refine pk_le (tx_pt (t p)) j (fun z => by omega) (fun _ => ⟨vp_in_nI (by omega) (by omega), nm_r (e' := nI (tx_e t c)) ?_ (nm_r (nI_1 j) (ih (j + 1) _ (by omega) (tx_le W S.1) S.2.2))⟩)
    rw [nI_clamp (by omega)]
    exact hE c (by omega) S.1
theorem xt_m1 (k : Nat) : nI k + (-1) = nI k - 1 := by grind
theorem xt_elp {post : SX → Prop} {t : Nat → Nat} {n : Nat} (W : tx_W t n) (hT : tx_T T t n) (hn : n ≤ 32) (h : ∀ ES', xt_E ES' t 0 n → post (nI n, pe, lc, uc, tk, rc, pc, en, va, oc, cc, sc, dp, ed, T, ES', HP, FT, FE, FF, SZ, CV, CN, MK, RE, OU)) :
    ∀ k ES, k ≤ n → xt_E ES t k n → wX_findEnds_7 post (nI n) pe lc uc tk rc pc en va oc cc sc dp ed (k + 1) (nI k - 1) T ES HP FT FE FF SZ CV CN MK RE OU := by
  intro k
  induction k with
  | zero => intro ES _ hE; exact br_t (by decide) (h ES hE)
  | succ k ih =>
    intro ES hk hE
    rw [nI_pred]
    obtain ⟨t1, t2⟩ := hT k (by omega)
    have hp3 := tx_pt3 (t k)
    refine br_f (nI_pos (by omega)) (nm_r (nI_1 k) ⟨vp_in_nI (by omega) (by omega), ?_⟩)
    rw [nI_clamp (by omega), t1]
    refine xt_parts t2 ⟨_, xt_in W hn (by omega) hE ?_ (tx_pt (t k)) 0 (k + 1) (by omega) (by omega) (tx_P0 t k)⟩
    rw [xt_m1]
    refine ih _ (by omega) (fun q h1 h2 => ?_)
    by_cases c : q = k
    · rw [c, pk_us]
    · rw [pk_un c]; exact hE q (by omega) h2
theorem xt_ends {post : SX → Prop} {t : Nat → Nat} {n : Nat} (W : tx_W t n) (hT : tx_T T t n) (hn : n ≤ 32) (h : ∀ ES', xt_E ES' t 0 n → post (nI n, pe, lc, uc, tk, rc, pc, en, va, oc, cc, sc, dp, ed, T, ES', HP, FT, FE, FF, SZ, CV, CN, MK, RE, OU)) : wpX_findEnds post (nI n, pe, lc, uc, tk, rc, pc, en, va, oc, cc, sc, dp, ed, T, ES, HP, FT, FE, FF, SZ, CV, CN, MK, RE, OU) :=
  nm_e ⟨n + 1, xt_elp W hT hn h n ES (Nat.le_refl _) (fun q h1 h2 => by omega)⟩
