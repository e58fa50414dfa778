/-! the reference's free -/
variable {sz st so rs sh ca sf mo fr sp tp de bo pc sc ha vk va : Int32} {T PA PL SE AR KI VA OU TA NA NK NV NO : Nat → Int32}
theorem yf_0 {post : Int32 → Prop} {J : Int32 → Int32 → Prop} {a x : Int32} {q : Nat} (h : J a (nI (q + 1))) (n : Nat) (i : Int32) : wY_free_50 post J a (nI q) x sz st so rs sh ca sf mo fr sp tp de bo pc sc ha vk va T PA PL SE AR KI VA OU TA NA NK NV NO (n + 1) 0 i :=
  br_c (fun _ => br_t rfl (nm_r (nI_1 q) h)) (fun _ => br_t rfl (br_t rfl (nm_r (nI_1 q) h)))
theorem yf_in {post : Int32 → Prop} {J : Int32 → Int32 → Prop} {a : Int32} {t : Nat → Nat} {n q x : Nat} (W : tx_W t n) (hT : tx_T T t n) (hn : n ≤ 32) (hq : q < n) (hx : x ≤ 5)
    (h1 : tx_ix (tx_G t q) x = none → J (a ||| ((1 : Int32) <<< (nI x &&& 31))) (nI (q + 1))) (h0 : ¬ tx_ix (tx_G t q) x = none → J a (nI (q + 1))) :
    ∀ d p, p + d = q → (∀ g, g < p → tx_gv t g q = true → t g % 10 ≠ x) → wY_free_50 post J a (nI q) (nI x) (nI n) st so rs sh ca sf mo fr sp tp de bo pc sc ha vk va T PA PL SE AR KI VA OU TA NA NK NV NO (d + 2) 1 (nI p) := by
  have E := tx_ixn t q x q
  intro d
  induction d with
  | zero =>
    intro p hp h
    have e : p = q := by omega
    rw [e] at h ⊢
    exact pk_le q q (fun _ => br_f (by decide) (nm_e (nm_r (nI_1 q) (h1 (E.mpr h))))) (fun z => by omega)
  | succ d ih =>
    intro p hp h
    refine pk_le q p (fun z => by omega) (fun _ => br_f (by decide) (yt_gives W hT hn (by omega) hq hx (fun g1 g2 => ?_) (fun g => ?_)))
    · exact br_f (by decide) (nm_r (nI_1 p) (yf_0 (h0 (fun z => E.mp z p (by omega) g1 g2)) _ _))
    · refine br_t rfl (nm_r (nI_1 p) (ih (p + 1) (by omega) (fun g' z1 z2 z3 => ?_)))
      rcases Nat.lt_or_ge g' p with z | z
      · exact h g' z z2 z3
      · have z4 : g' = p := by omega
        rw [z4] at z2 z3
        exact g ⟨z2, z3⟩
theorem yf_lp {post : Int32 → Prop} {t : Nat → Nat} {n : Nat} (W : tx_W t n) (hT : tx_T T t n) (hn : n ≤ 32) (h : post (tx_fr t n)) :
    ∀ d q, q + d = n → wY_free_13 post (nI n) st so rs sh ca sf mo fr sp tp de bo pc sc ha vk va T PA PL SE AR KI VA OU TA NA NK NV NO (d + 1) (tx_fr t q) (nI q) := by
  intro d
  induction d with
  | zero =>
    intro q hq
    have e : q = n := by omega
    rw [e]
    exact pk_le n n (fun _ => h) (fun z => by omega)
  | succ d ih =>
    intro q hq
    obtain ⟨t1, t2⟩ := hT q (by omega)
    have t3 := tx_t120 t2
    refine pk_le n q (fun z => by omega) (fun _ => ⟨vp_in_nI (by omega) (by omega), nm_r (e' := nI (t q - 30)) ?_ ?_⟩)
    · rw [nI_clamp (by omega), t1]; exact pk_sub (b := 30) (by omega)
    have I := ih (q + 1) (by omega)
    refine br_f (nI_pos (by omega)) (pk_lt 5 (t q - 30) (fun z => ?_) (fun z => ?_))
    · have e : tx_fr t (q + 1) = tx_fr t q := by
        rw [tx_fr, if_neg (fun y : t q < 40 ∧ tx_ix (tx_G t q) (t q % 10) = none => by have := y.1; unfold tx_tok at t2; omega)]
      rw [e] at I
      exact ⟨1, yf_0 I 0 0⟩
    · have e9 : t q - 30 = t q % 10 := by unfold tx_tok at t2; omega
      rw [e9]
      refine ⟨q + 2, yf_in W hT hn (by omega) (by omega) (fun y => ?_) (fun y => ?_) q 0 (by omega) (fun g z => by omega)⟩
      · have e : tx_fr t (q + 1) = tx_fr t q ||| ((1 : Int32) <<< (nI (t q % 10) &&& 31)) := by
          rw [tx_fr, if_pos ⟨by omega, y⟩]
        rw [e] at I
        exact I
      · have e : tx_fr t (q + 1) = tx_fr t q := by
          rw [tx_fr, if_neg (fun w => y w.2)]
        rw [e] at I
        exact I
theorem yf_free {post : Int32 → Prop} {t : Nat → Nat} {n : Nat} (B : tx_B t n) (hT : tx_T T t n) (hn : n ≤ 32) (h1 : tx_W t n → post (tx_fr t n)) (h0 : ¬ tx_W t n → post (-1)) : wpY_free post (nI n, st, so, rs, sh, ca, sf, mo, fr, sp, tp, de, bo, pc, sc, ha, vk, va, T, PA, PL, SE, AR, KI, VA, OU, TA, NA, NK, NV, NO) := by
  unfold wpY_free
  refine yt_complete B hT hn (fun W => br_f (by decide) ⟨n + 1, ?_⟩) (fun W => br_t rfl (h0 W))
  exact yf_lp W hT hn (h1 W) n 0 (by omega)
