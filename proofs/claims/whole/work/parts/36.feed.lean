/-! isToken, feed, undo -/
def zt_tok (x : Int32) : Prop := ∃ y, x = nI y ∧ tx_tok y
theorem zt_lt {x y : Int32} {A B : Prop} (c : Int) (f : x.toInt < c → A) (g : c ≤ x.toInt → B) (hy : y.toInt = c := by decide) : (x < y → A) ∧ (¬ x < y → B) := by
  subst hy
  rw [Int32.lt_iff_toInt_lt]
  exact ⟨f, fun z => g (by omega)⟩
theorem zt_gt {x y : Int32} {A B : Prop} (c : Int) (f : c < x.toInt → A) (g : x.toInt ≤ c → B) (hy : y.toInt = c := by decide) : (y < x → A) ∧ (¬ y < x → B) := by
  subst hy
  rw [Int32.lt_iff_toInt_lt]
  exact ⟨f, fun z => g (by omega)⟩
theorem zt_le {x y : Int32} {A B : Prop} (c : Int) (f : x.toInt ≤ c → A) (g : c < x.toInt → B) (hy : y.toInt = c := by decide) : (x ≤ y → A) ∧ (¬ x ≤ y → B) := by
  subst hy
  rw [Int32.le_iff_toInt_le]
  exact ⟨f, fun z => g (by omega)⟩
def zt_Z (z : Int) : Prop := (30 ≤ z ∧ z ≤ 35) ∨ (40 ≤ z ∧ z ≤ 45) ∨ (52 ≤ z ∧ z ≤ 65) ∨ (70 ≤ z ∧ z ≤ 75) ∨ (80 ≤ z ∧ z ≤ 120)
theorem zt_iff (x : Int32) : zt_tok x ↔ zt_Z x.toInt := by
  constructor
  · rintro ⟨y, e, h⟩
    have h2 := tx_t120 h
    unfold tx_tok at h
    unfold zt_Z
    rw [e, nI_toInt (by omega)]
    omega
  · intro h
    unfold zt_Z at h
    refine ⟨x.toInt.toNat, Int32.toInt_inj.mp ?_, ?_⟩
    · rw [nI_toInt (by omega)]; omega
    · unfold tx_tok; omega
theorem zx_tok {post : Int32 → Prop} {x : Int32} (h1 : zt_tok x → post 1) (h0 : ¬ zt_tok x → post 0) : wpX_isToken post x := by
  rw [zt_iff] at h1 h0
  generalize hz : x.toInt = z at h1 h0
  have a1 : zt_Z z → post 1 := h1
  have a0 : ¬ zt_Z z → post 0 := h0
  unfold zt_Z at a1 a0
  have B48 : ¬ (z ≤ 75 ∧ (30 ≤ z ∧ z ≤ 35 ∨ 40 ≤ z ∧ z ≤ 45 ∨ 52 ≤ z ∧ z ≤ 65 ∨ 70 ≤ z ∧ z ≤ 75)) → wX_isToken_48 post x := fun q =>
    zt_lt 80 (fun c => a0 (by omega)) (fun c => zt_gt 120 (fun d => a0 (by omega)) (fun d => a1 (by omega)))
  have B36 : ¬ (30 ≤ z ∧ z ≤ 35 ∨ 40 ≤ z ∧ z ≤ 45 ∨ 52 ≤ z ∧ z ≤ 65) → wX_isToken_36 post x := fun q =>
    zt_lt 70 (fun c => B48 (by omega)) (fun c => zt_le 75 (fun d => a1 (by omega)) (fun d => B48 (by omega)))
  have B24 : ¬ (30 ≤ z ∧ z ≤ 35 ∨ 40 ≤ z ∧ z ≤ 45) → wX_isToken_24 post x := fun q =>
    zt_lt 52 (fun c => B36 (by omega)) (fun c => zt_le 65 (fun d => a1 (by omega)) (fun d => B36 (by omega)))
  have B12 : ¬ (30 ≤ z ∧ z ≤ 35) → wX_isToken_12 post x := fun q =>
    zt_lt 40 (fun c => B24 (by omega)) (fun c => zt_le 45 (fun d => a1 (by omega)) (fun d => B24 (by omega)))
  exact zt_lt 30 (fun c => B12 (by omega)) (fun c => zt_le 35 (fun d => a1 (by omega)) (fun d => B12 (by omega)))
section
variable {sz st so rs sh ca sf mo fr sp tp de bo pc sc ha vk va : Int32} {T PA PL SE AR KI VA OU TA NA NK NV NO : Nat → Int32}
theorem zy_tok {post : Int32 → Prop} {x : Int32} (h1 : zt_tok x → post 1) (h0 : ¬ zt_tok x → post 0) : wpY_isToken post (sz, st, so, rs, sh, ca, sf, mo, fr, sp, tp, de, bo, pc, sc, ha, vk, va, T, PA, PL, SE, AR, KI, VA, OU, TA, NA, NK, NV, NO) x := by
  rw [zt_iff] at h1 h0
  generalize hz : x.toInt = z at h1 h0
  have a1 : zt_Z z → post 1 := h1
  have a0 : ¬ zt_Z z → post 0 := h0
  unfold zt_Z at a1 a0
  have B48 : ¬ (30 ≤ z ∧ z ≤ 35 ∨ 40 ≤ z ∧ z ≤ 45 ∨ 52 ≤ z ∧ z ≤ 65 ∨ 80 ≤ z ∧ z ≤ 120) → wY_isToken_48 post x sz st so rs sh ca sf mo fr sp tp de bo pc sc ha vk va T PA PL SE AR KI VA OU TA NA NK NV NO := fun q =>
    zt_lt 70 (fun c => a0 (by omega)) (fun c => zt_gt 75 (fun d => a0 (by omega)) (fun d => a1 (by omega)))
  have B36 : ¬ (30 ≤ z ∧ z ≤ 35 ∨ 40 ≤ z ∧ z ≤ 45 ∨ 80 ≤ z ∧ z ≤ 120) → wY_isToken_36 post x sz st so rs sh ca sf mo fr sp tp de bo pc sc ha vk va T PA PL SE AR KI VA OU TA NA NK NV NO := fun q =>
    zt_lt 52 (fun c => B48 (by omega)) (fun c => zt_le 65 (fun d => a1 (by omega)) (fun d => B48 (by omega)))
  have B24 : ¬ (30 ≤ z ∧ z ≤ 35 ∨ 80 ≤ z ∧ z ≤ 120) → wY_isToken_24 post x sz st so rs sh ca sf mo fr sp tp de bo pc sc ha vk va T PA PL SE AR KI VA OU TA NA NK NV NO := fun q =>
    zt_lt 40 (fun c => B36 (by omega)) (fun c => zt_le 45 (fun d => a1 (by omega)) (fun d => B36 (by omega)))
  have B12 : ¬ (80 ≤ z ∧ z ≤ 120) → wY_isToken_12 post x sz st so rs sh ca sf mo fr sp tp de bo pc sc ha vk va T PA PL SE AR KI VA OU TA NA NK NV NO := fun q =>
    zt_lt 30 (fun c => B24 (by omega)) (fun c => zt_le 35 (fun d => a1 (by omega)) (fun d => B24 (by omega)))
  exact zt_lt 80 (fun c => B12 (by omega)) (fun c => zt_le 120 (fun d => a1 (by omega)) (fun d => B12 (by omega)))
theorem zy_feed {post : Int32 → SY → Prop} {t : Nat → Nat} {n : Nat} {x : Int32} (B : tx_B t n) (hT : tx_T T t n) (hn : n ≤ 32) (h0 : ¬ zt_tok x → post (-1) (nI n, st, so, rs, sh, ca, sf, mo, fr, sp, tp, de, bo, pc, sc, ha, vk, va, T, PA, PL, SE, AR, KI, VA, OU, TA, NA, NK, NV, NO)) (h1 : zt_tok x → n = 32 ∨ tx_W t n → post (-2) (nI n, st, so, rs, sh, ca, sf, mo, fr, sp, tp, de, bo, pc, sc, ha, vk, va, T, PA, PL, SE, AR, KI, VA, OU, TA, NA, NK, NV, NO))
    (h2 : zt_tok x → n < 32 → ¬ tx_W t n → post (nI (n + 1)) (nI (n + 1), 0, 0, 0, 0, 0, 0, 0, fr, sp, tp, de, bo, pc, sc, ha, vk, va, upd T n x, PA, PL, SE, AR, KI, VA, OU, TA, NA, NK, NV, NO)) : wpY_feed post (nI n, st, so, rs, sh, ca, sf, mo, fr, sp, tp, de, bo, pc, sc, ha, vk, va, T, PA, PL, SE, AR, KI, VA, OU, TA, NA, NK, NV, NO) x := by
  unfold wpY_feed
  refine zy_tok (fun k => br_f (by decide) ?_) (fun k => br_t rfl (h0 k))
  refine yt_complete B hT hn (fun W => br_f (by decide) (h1 k (Or.inr W))) (fun W => br_t rfl (pk_lt n 32 (fun c => ⟨vp_in_nI c (by decide), nm_r (e' := upd T n x) (by rw [nI_clamp (by omega)]) (nm_r (nI_1 n) ?_)⟩) (fun c => h1 k (Or.inl (by omega)))))
  exact h2 k c W
theorem zy_undo {post : Int32 → SY → Prop} {n : Nat} (hn : n ≤ 32) (h0 : n = 0 → post (-1) (nI n, st, so, rs, sh, ca, sf, mo, fr, sp, tp, de, bo, pc, sc, ha, vk, va, T, PA, PL, SE, AR, KI, VA, OU, TA, NA, NK, NV, NO)) (h1 : ∀ k, n = k + 1 → post (T k) (nI k, 0, 0, 0, 0, 0, 0, 0, fr, sp, tp, de, bo, pc, sc, ha, vk, va, T, PA, PL, SE, AR, KI, VA, OU, TA, NA, NK, NV, NO)) : wpY_undo post (nI n, st, so, rs, sh, ca, sf, mo, fr, sp, tp, de, bo, pc, sc, ha, vk, va, T, PA, PL, SE, AR, KI, VA, OU, TA, NA, NK, NV, NO) := by
  rcases n with _ | k
  · exact br_t nI_0 (h0 rfl)
  · refine br_f (nI_ne0 (by omega) (by omega)) (nm_r (nI_pred k) ⟨vp_in_nI (by omega) (by decide), ?_⟩)
    rw [nI_clamp (by omega)]
    exact h1 k rfl
end
section
variable {tc pe lc uc tk rc pc en : Int32} {va : Int64} {oc cc sc dp ed : Int32} {T ES HP FT FE : Nat → Int32} {FF : Nat → Int64} {SZ : Nat → Int32} {CV : Nat → Int64} {CN MK RE OU : Nat → Int32}
theorem zx_feed {post : Int32 → SX → Prop} {t : Nat → Nat} {n : Nat} {x : Int32} (B : tx_B t n) (hT : tx_T T t n) (hn : n ≤ 32) (h0 : ¬ zt_tok x → post (-1) (nI n, pe, lc, uc, tk, rc, pc, en, va, oc, cc, sc, dp, ed, T, ES, HP, FT, FE, FF, SZ, CV, CN, MK, RE, OU)) (h1 : zt_tok x → n = 32 ∨ tx_W t n → post (-2) (nI n, pe, lc, uc, tk, rc, pc, en, va, oc, cc, sc, dp, ed, T, ES, HP, FT, FE, FF, SZ, CV, CN, MK, RE, OU))
    (h2 : zt_tok x → n < 32 → ¬ tx_W t n → post (nI (n + 1)) (nI (n + 1), pe, lc, uc, tk, rc, pc, en, 0, 0, 0, 0, 0, 0, upd T n x, ES, HP, FT, FE, FF, SZ, CV, CN, MK, RE, OU)) : wpX_feed post (nI n, pe, lc, uc, tk, rc, pc, en, va, oc, cc, sc, dp, ed, T, ES, HP, FT, FE, FF, SZ, CV, CN, MK, RE, OU) x := by
  unfold wpX_feed
  refine zx_tok (fun k => br_f (by decide) (pk_eq n 32 (fun c => h1 k (Or.inl c)) (fun c => ?_))) (fun k => br_t rfl (h0 k))
  refine xt_complete B hT hn (fun W => br_f (by decide) (h1 k (Or.inr W))) (fun W => br_t rfl ⟨vp_in_nI (by omega) (by decide), nm_r (e' := upd T n x) (by rw [nI_clamp (by omega)]) (nm_r (nI_1 n) ?_)⟩)
  exact h2 k (by omega) W
theorem zx_undo {post : Int32 → SX → Prop} {n : Nat} (hn : n ≤ 32) (h0 : n = 0 → post (-1) (nI n, pe, lc, uc, tk, rc, pc, en, va, oc, cc, sc, dp, ed, T, ES, HP, FT, FE, FF, SZ, CV, CN, MK, RE, OU)) (h1 : ∀ k, n = k + 1 → post (T k) (nI k, pe, lc, uc, tk, rc, pc, en, 0, 0, 0, 0, 0, 0, T, ES, HP, FT, FE, FF, SZ, CV, CN, MK, RE, OU)) : wpX_undo post (nI n, pe, lc, uc, tk, rc, pc, en, va, oc, cc, sc, dp, ed, T, ES, HP, FT, FE, FF, SZ, CV, CN, MK, RE, OU) := by
  rcases n with _ | k
  · exact br_t nI_0 (h0 rfl)
  · refine br_f (nI_ne0 (by omega) (by omega)) (nm_r (nI_pred k) ⟨vp_in_nI (by omega) (by decide), ?_⟩)
    rw [nI_clamp (by omega)]
    exact h1 k rfl
end
/-! tokens read as naturals -/
def zr_t (T : Nat → Int32) : Nat → Nat := fun i => (T i).toNatClampNeg
theorem zr_Dc {t t' : Nat → Nat} : ∀ i, (∀ j, j < i → t' j = t j) → tx_D t' i = tx_D t i := by
  intro i
  induction i with
  | zero => intro _; rfl
  | succ i ih => intro h; rw [tx_D1, tx_D1, ih (fun j hj => h j (by omega)), h i (by omega)]
theorem zr_T {T : Nat → Int32} {n : Nat} {x : Int32} (hT : tx_T T (zr_t T) n) (hx : zt_tok x) : tx_T (upd T n x) (zr_t (upd T n x)) (n + 1) := by
  obtain ⟨y, e, hy⟩ := hx
  have h2 := tx_t120 hy
  intro i hi
  unfold zr_t
  by_cases c : i = n
  · rw [c, pk_us, e, nI_clamp (by omega)]
    exact ⟨rfl, hy⟩
  · rw [pk_un c]
    exact hT i (by omega)
theorem zr_B {T : Nat → Int32} {n : Nat} {x : Int32} (B : tx_B (zr_t T) n) (W : ¬ tx_W (zr_t T) n) : tx_B (zr_t (upd T n x)) (n + 1) := by
  intro i hi
  have e : tx_D (zr_t (upd T n x)) i = tx_D (zr_t T) i := zr_Dc i (fun j hj => by unfold zr_t; rw [pk_un (by omega)])
  rw [e]
  rcases Nat.lt_or_ge i n with c | c
  · exact B i c
  · have e2 : i = n := by omega
    rw [e2]
    have b0 := tx_B0 B
    have : ¬ tx_D (zr_t T) n = 0 := fun z => W ⟨z, B⟩
    omega
