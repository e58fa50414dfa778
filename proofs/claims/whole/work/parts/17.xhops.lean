/-! the component's text: givesNameAt, hopsFrom, compile, free -/
variable {tc pe lc uc tk rc pc en : Int32} {va : Int64} {oc cc sc dp ed : Int32} {T ES HP FT FE : Nat → Int32} {FF : Nat → Int64} {SZ : Nat → Int32} {CV : Nat → Int64} {CN MK RE OU : Nat → Int32}
theorem xh_49 {post : Int32 → Prop} {t : Nat → Nat} {n : Nat} (W : tx_W t n) (hn : n ≤ 32) (hE : xt_E ES t 0 n) {g q a : Nat} (hg : g < n) (hq : q < n) (ha : a ≤ 32) (h1 : a ≤ q → q < tx_e t g → post 1) (h0 : ¬ (a ≤ q ∧ q < tx_e t g) → post 0) :
    wX_givesNameAt_49 post (nI g) (nI q) (nI a) tc pe lc uc tk rc pc en va oc cc sc dp ed T ES HP FT FE FF SZ CV CN MK RE OU := by
  have hle := tx_le W hg
  refine pk_lt q a (fun z => h0 (fun y => by omega)) (fun z => ⟨vp_in_nI (by omega) (by omega), ?_⟩)
  rw [nI_clamp (by omega), hE g (by omega) hg]
  exact pk_le (tx_e t g) q (fun y => h0 (fun w => by omega)) (fun y => h1 z y)
theorem xh_gives {post : Int32 → Prop} {t : Nat → Nat} {n : Nat} (W : tx_W t n) (hT : tx_T T t n) (hn : n ≤ 32) (hE : xt_E ES t 0 n) {g q : Nat} (hg : g < q) (hq : q < n) (h1 : tx_gv t g q = true → post 1) (h0 : ¬ tx_gv t g q = true → post 0) :
    wpX_givesNameAt post (tc, pe, lc, uc, tk, rc, pc, en, va, oc, cc, sc, dp, ed, T, ES, HP, FT, FE, FF, SZ, CV, CN, MK, RE, OU) (nI g) (nI q) := by
  obtain ⟨t1, t2⟩ := hT g (by omega)
  have t3 := tx_t120 t2
  have P := @kp_pt (t g)
  have G := @tx_gv_iff t g q
  have A : (t g / 10 = 4 ∨ t g / 10 = 7) → wX_givesNameAt_29 post (nI g) (nI q) (nI (t g / 10)) tc pe lc uc tk rc pc en va oc cc sc dp ed T ES HP FT FE FF SZ CV CN MK RE OU := by
    intro hh
    refine pk_eq (t g / 10) 6 (fun z => by omega) (fun z => ?_)
    rw [nI_1]
    exact xh_49 W hn hE (by omega) hq (by omega) (fun y1 y2 => h1 (G.mpr ⟨Or.inl ⟨hh, by omega⟩, y2⟩)) (fun y => h0 (fun w => y ⟨by omega, (G.mp w).2⟩))
  have B : t g / 10 = 6 → wX_givesNameAt_29 post (nI g) (nI q) (nI (t g / 10)) tc pe lc uc tk rc pc en va oc cc sc dp ed T ES HP FT FE FF SZ CV CN MK RE OU := by
    intro hh
    have T1 := tx_1 W (p := g) (by omega) (by omega)
    refine pk_eq (t g / 10) 6 (fun z => ?_) (fun z => by omega)
    rw [nI_1, nI_clamp (by omega), hE (g + 1) (by omega) T1.1]
    refine ⟨vp_in_nI (by omega) (by omega), xh_49 W hn hE (by omega) hq (by omega) (fun y1 y2 => h1 (G.mpr ⟨Or.inr ⟨hh, y1⟩, y2⟩)) (fun y => h0 (fun w => ?_))⟩
    have := G.mp w
    omega
  refine ⟨vp_in_nI (by omega) (by omega), by decide, nm_r (e' := nI (t g / 10)) ?_ ?_⟩
  · rw [nI_clamp (by omega), t1]; exact xt_d10 (by omega)
  · refine pk_eq (t g / 10) 4 (fun z => A (Or.inl z)) (fun z4 => pk_eq (t g / 10) 6 (fun z => B z) (fun z6 => pk_eq (t g / 10) 7 (fun z => A (Or.inr z)) (fun z7 => h0 (fun w => ?_))))
    have := G.mp w
    omega
theorem xh_hlp {post : Int32 → Prop} {t : Nat → Nat} {n q : Nat} (W : tx_W t n) (hT : tx_T T t n) (hn : n ≤ 32) (hE : xt_E ES t 0 n) (hq : q < n) :
    ∀ g k, g ≤ q → (∀ i, tx_ix (tx_gr t q g) (t q % 10) = some i → post (nI (k + i))) → (tx_ix (tx_gr t q g) (t q % 10) = none → post (-1)) → wX_hopsFrom_6 post (nI q) tc pe lc uc tk rc pc en va oc cc sc dp ed T ES HP FT FE FF SZ CV CN MK RE OU (g + 1) (nI k) (nI g - 1) := by
  obtain ⟨q1, q2⟩ := hT q hq
  have q3 := tx_t120 q2
  intro g
  induction g with
  | zero => intro k _ _ h0; exact br_t (by decide) (h0 rfl)
  | succ g ih =>
    intro k hg h1 h0
    obtain ⟨t1, t2⟩ := hT g (by omega)
    have t3 := tx_t120 t2
    rw [nI_pred]
    rw [tx_gr] at h1 h0
    refine br_f (nI_pos (by omega)) (xh_gives W hT hn hE (by omega) hq (fun y => ?_) (fun y => ?_))
    · rw [if_pos y, tx_ix] at h1 h0
      refine br_f (by decide) ⟨vp_in_nI (by omega) (by omega), by decide, vp_in_nI (by omega) (by omega), by decide, ?_⟩
      rw [nI_clamp (by omega), nI_clamp (by omega), t1, q1, xt_r10 (by omega), xt_r10 (by omega)]
      refine pk_eq (t g % 10) (t q % 10) (fun z => ?_) (fun z => ?_)
      · rw [if_pos z] at h1
        exact h1 0 rfl
      · rw [if_neg z] at h1 h0
        refine nm_r (nI_1 k) (nm_r (xt_m1 g) (ih (k + 1) (by omega) (fun i hi => ?_) (fun hi => h0 (by rw [hi]; rfl))))
        have := h1 (i + 1) (by rw [hi]; rfl)
        rw [show k + 1 + i = k + (i + 1) by omega]
        exact this
    · rw [if_neg y] at h1 h0
      exact br_t rfl (nm_r (xt_m1 g) (ih k (by omega) h1 h0))
/-- how far out the value is -/
noncomputable def tx_hp (t : Nat → Nat) (q : Nat) : Int32 :=
  if t q < 40 then
    match tx_ix (tx_G t q) (t q % 10) with
    | none => -1
    | some i => nI i
  else 0
theorem xh_hops {post : Int32 → Prop} {t : Nat → Nat} {n q : Nat} (W : tx_W t n) (hT : tx_T T t n) (hn : n ≤ 32) (hE : xt_E ES t 0 n) (hq : q < n) (h4 : t q < 40) (h : post (tx_hp t q)) : wpX_hopsFrom post (tc, pe, lc, uc, tk, rc, pc, en, va, oc, cc, sc, dp, ed, T, ES, HP, FT, FE, FF, SZ, CV, CN, MK, RE, OU) (nI q) := by
  unfold tx_hp at h
  rw [if_pos h4] at h
  refine nm_e ⟨q + 1, xh_hlp W hT hn hE hq q 0 (Nat.le_refl _) (fun i hi => ?_) (fun hi => ?_)⟩
  · have e : tx_ix (tx_G t q) (t q % 10) = some i := hi
    rw [e] at h
    rw [Nat.zero_add]
    exact h
  · have e : tx_ix (tx_G t q) (t q % 10) = none := hi
    rw [e] at h
    exact h
def xt_H (HP : Nat → Int32) (t : Nat → Nat) (n : Nat) : Prop := ∀ q, q < n → HP q = tx_hp t q
theorem xh_clp {post : SX → Prop} {t : Nat → Nat} {n : Nat} (W : tx_W t n) (hT : tx_T T t n) (hn : n ≤ 32) (hE : xt_E ES t 0 n) (h : ∀ HP', xt_H HP' t n → post (nI n, pe, lc, uc, tk, rc, pc, en, va, oc, cc, sc, dp, ed, T, ES, HP', FT, FE, FF, SZ, CV, CN, MK, RE, OU)) :
    ∀ d q HP, q + d = n → xt_H HP t q → wX_compile_6 post (nI n) pe lc uc tk rc pc en va oc cc sc dp ed (d + 1) (nI q) T ES HP FT FE FF SZ CV CN MK RE OU := by
  intro d
  induction d with
  | zero =>
    intro q HP hq hH
    have e : q = n := by omega
    rw [e] at hH ⊢
    exact pk_le n n (fun _ => h HP hH) (fun z => by omega)
  | succ d ih =>
    intro q HP hq hH
    obtain ⟨t1, t2⟩ := hT q (by omega)
    have t3 := tx_t120 t2
    have U : ∀ r, r = tx_hp t q → xt_H (upd HP q r) t (q + 1) := by
      intro r hr q' hq'
      by_cases c : q' = q
      · rw [c, pk_us, hr]
      · rw [pk_un c]; exact hH q' (by omega)
    refine pk_le n q (fun z => by omega) (fun _ => ⟨vp_in_nI (by omega) (by omega), by decide, ?_⟩)
    rw [nI_clamp (by omega), t1, xt_d10 (by omega)]
    refine pk_eq (t q / 10) 3 (fun z => xh_hops W hT hn hE (by omega) (by omega) ⟨vp_in_nI (by omega) (by omega), nm_e (nm_r (nI_1 q) (ih (q + 1) _ (by omega) (U _ rfl)))⟩) (fun z => ⟨vp_in_nI (by omega) (by omega), nm_e (nm_r (nI_1 q) (ih (q + 1) _ (by omega) (U _ ?_)))⟩)
    unfold tx_hp
    rw [if_neg (by unfold tx_tok at t2; omega)]
theorem xh_compile {post : SX → Prop} {t : Nat → Nat} {n : Nat} (W : tx_W t n) (hT : tx_T T t n) (hn : n ≤ 32) (h : ∀ ES' HP', xt_E ES' t 0 n → xt_H HP' t n → post (nI n, pe, lc, uc, tk, rc, pc, en, va, oc, cc, sc, dp, ed, T, ES', HP', FT, FE, FF, SZ, CV, CN, MK, RE, OU)) : wpX_compile post (nI n, pe, lc, uc, tk, rc, pc, en, va, oc, cc, sc, dp, ed, T, ES, HP, FT, FE, FF, SZ, CV, CN, MK, RE, OU) := by
  unfold wpX_compile
  exact xt_ends W hT hn (fun ES' hE => ⟨n + 1, xh_clp W hT hn hE (fun HP' hH => h ES' HP' hE hH) n 0 HP (by omega) (fun q hq => by omega)⟩)
theorem xh_flp {post : Int32 → SX → Prop} {t : Nat → Nat} {n : Nat} (hT : tx_T T t n) (hn : n ≤ 32) (hH : xt_H HP t n) (h : post (tx_fr t n) (nI n, pe, lc, uc, tk, rc, pc, en, va, oc, cc, sc, dp, ed, T, ES, HP, FT, FE, FF, SZ, CV, CN, MK, RE, OU)) :
    ∀ d q, q + d = n → wX_free_17 post (nI n) pe lc uc tk rc pc en va oc cc sc dp ed T ES HP FT FE FF SZ CV CN MK RE OU (d + 1) (tx_fr t q) (nI q) := by
  intro d
  induction d with
  | zero =>
    intro q hq
    have e : q = n := by omega
    rw [e]
    exact pk_le n n (fun _ => h) (fun z => by omega)
  | succ d ih =>
    intro q hq
    obtain ⟨t1, t2⟩ := hT q (by omega)
    have t3 := tx_t120 t2
    have I := ih (q + 1) (by omega)
    refine pk_le n q (fun z => by omega) (fun _ => ⟨vp_in_nI (by omega) (by omega), ?_⟩)
    rw [nI_clamp (by omega), hH q (by omega)]
    by_cases c : t q < 40 ∧ tx_ix (tx_G t q) (t q % 10) = none
    · have e : tx_fr t (q + 1) = tx_fr t q ||| ((1 : Int32) <<< (nI (t q % 10) &&& 31)) := by
        rw [tx_fr, if_pos c]
      have e2 : tx_hp t q = -1 := by
        unfold tx_hp
        rw [if_pos c.1, c.2]
      rw [e] at I
      rw [e2, t1, xt_r10 (by omega)]
      exact br_t rfl ⟨vp_in_nI (by omega) (by omega), by decide, nm_e (nm_r (nI_1 q) I)⟩
    · have e : tx_fr t (q + 1) = tx_fr t q := by
        rw [tx_fr, if_neg c]
      have e2 : ¬ tx_hp t q = -1 := by
        unfold tx_hp
        by_cases c1 : t q < 40
        · rw [if_pos c1]
          cases e3 : tx_ix (tx_G t q) (t q % 10) with
          | none => exact absurd ⟨c1, e3⟩ c
          | some i =>
            have b1 := tx_ixb _ _ _ e3
            have b2 := tx_grl t q q
            have b3 : i < q := Nat.lt_of_lt_of_le b1 b2
            intro z
            have z' : nI i < 0 := by
              have z2 : nI i = -1 := z
              rw [z2]; decide
            exact nI_pos (by omega) z'
        · rw [if_neg c1]; decide
      rw [e] at I
      exact br_f e2 (nm_r (nI_1 q) I)
theorem xh_free {post : Int32 → SX → Prop} {t : Nat → Nat} {n : Nat} (B : tx_B t n) (hT : tx_T T t n) (hn : n ≤ 32) (h1 : tx_W t n → ∀ ES' HP', post (tx_fr t n) (nI n, pe, lc, uc, tk, rc, pc, en, va, oc, cc, sc, dp, ed, T, ES', HP', FT, FE, FF, SZ, CV, CN, MK, RE, OU)) (h0 : ¬ tx_W t n → post (-1) (nI n, pe, lc, uc, tk, rc, pc, en, va, oc, cc, sc, dp, ed, T, ES, HP, FT, FE, FF, SZ, CV, CN, MK, RE, OU)) : wpX_free post (nI n, pe, lc, uc, tk, rc, pc, en, va, oc, cc, sc, dp, ed, T, ES, HP, FT, FE, FF, SZ, CV, CN, MK, RE, OU) := by
  unfold wpX_free
  refine xt_complete B hT hn (fun W => br_f (by decide) (xh_compile W hT hn (fun ES' HP' hE hH => ⟨n + 1, ?_⟩))) (fun W => br_t rfl (h0 W))
  exact xh_flp hT hn hH (h1 W ES' HP') n 0 (by omega)
