/-! the component's loop -/
variable {tc pe lc uc tk rc pc en : Int32} {va : Int64} {oc cc sc dp ed : Int32} {T ES HP FT FE : Nat → Int32} {FF : Nat → Int64} {SZ : Nat → Int32} {CV : Nat → Int64} {CN MK RE OU : Nat → Int32}
def xr_End (n : Nat) (T : Nat → Int32) (S : pm_S) (u : SX) : Prop := match S, u with
  | (m, _, sg, _, _, out, o1, c1, mm, e), (tc, _, _, _, _, _, _, _, va, oc, cc, sc, dp, ed, T', _, _, _, _, _, _, _, _, _, _, OU) =>
    tc = nI n ∧ T' = T ∧ oc = nI o1 ∧ OU = out ∧ cc = nI c1 ∧ sc = nI sg.length ∧ dp = nI mm ∧ ed = nI e ∧ o1 ≤ 16 ∧ e < 10 ∧ (e = 1 → ∃ w L f, m = .inr w ∧ xm_V L f va w)
theorem xl_note {post : SX → Prop} {d k : Nat} (hd : d < 100) (hk : k < 100) (h : post (tc, nI k, lc, uc, tk, rc, pc, en, va, oc, cc, sc, nI (max d k), ed, T, ES, HP, FT, FE, FF, SZ, CV, CN, MK, RE, OU)) : wpX_noteDepth post (tc, nI k, lc, uc, tk, rc, pc, en, va, oc, cc, sc, nI d, ed, T, ES, HP, FT, FE, FF, SZ, CV, CN, MK, RE, OU) := by
  refine pk_le k d (fun z => ?_) (fun z => ?_)
  · rw [Nat.max_eq_left z] at h; exact h
  · rw [Nat.max_eq_right (by omega)] at h; exact h
theorem xl_a {d0 K mm : Nat} (h : mm = max (max d0 1) K) (hK : 1 ≤ K) (hK2 : K ≤ 16) (hd : d0 ≤ 16) : max d0 K ≤ 16 ∧ max (max d0 K) 1 = mm ∧ 1 ≤ max d0 K := by omega
theorem xl_b {d0 kp mm : Nat} (h : mm = max d0 1) (h1 : kp ≤ mm) (h2 : d0 = 0 → 1 ≤ kp) (hd : d0 ≤ 16) : max d0 kp = mm ∧ kp < 100 := by omega
theorem xl_67 {post : Int32 → SX → Prop} {t : Nat → Nat} {n R N i d0 k0 : Nat} {m : pm_M} {K : List pm_F} {sg : List (List pm_F)} {nm : pm_N} {b : Nat} {out T0 ES0 HP0 : Nat → Int32} {o1 c1 mm e : Nat} (hn : n ≤ 32) (he : e < 10) (hi : i < 1000000) (hR : 1 ≤ R) (hR2 : R ≤ 1000) (hk0 : k0 < R) (hd0 : d0 ≤ 16)
    (Q : xr_Q n T0 ES0 HP0 d0 k0 (m, K, sg, nm, b, out, o1, c1, mm, e) (tc, pe, lc, uc, tk, rc, pc, en, va, oc, cc, sc, dp, ed, T, ES, HP, FT, FE, FF, SZ, CV, CN, MK, RE, OU)) (hI : e = 0 → pm_I t n m K sg nm b o1 c1 mm) (hm0 : e = 0 → mm = max (max d0 1) K.length) (hm1 : ¬ e = 0 → mm = max d0 1) (ho : ¬ e = 0 → o1 ≤ 16)
    (H0 : e = 0 → ∀ (pe lc uc rc pc en : Int32) (va : Int64) (FT FE : Nat → Int32) (FF : Nat → Int64) (SZ : Nat → Int32) (CV : Nat → Int64) (CN MK RE : Nat → Int32) (k d : Nat), xr_P m K sg nm b pe lc uc pc en va FT FE FF SZ CV CN → k < R → d ≤ 16 → max d 1 = mm → 1 ≤ d →
      wX_run_35 post (nI R) (N + 1) (nI (i + 1)) (nI n) pe lc uc (nI k) rc pc en va (nI o1) (nI c1) (nI sg.length) (nI d) 0 T0 ES0 HP0 FT FE FF SZ CV CN MK RE out)
    (H1 : ¬ e = 0 → ∀ u, xr_End n T0 (m, K, sg, nm, b, out, o1, c1, mm, e) u → post (nI e) u) :
    wX_run_67 post (wX_run_35 post (nI R) (N + 1)) (nI R) (nI i) tc pe lc uc tk rc pc en va oc cc sc dp ed T ES HP FT FE FF SZ CV CN MK RE OU := by
  obtain ⟨q1, q2, q3, q4, q5, q6, q7, q8, q9, q10, q11, q12, q13⟩ := Q
  subst q1 q2 q3 q4 q5 q6 q7 q8 q9 q10
  unfold wX_run_67
  by_cases c : e = 0
  · have I := hI c
    have hbb := kp_bb t n I
    obtain ⟨i1, hB, hA, i2, i3, i4, i5, i6⟩ := I
    have hKn := kp_Bn hB.2.2
    have hBl := hB.2.1
    obtain ⟨P, hk⟩ := q11 c
    obtain ⟨m1, m2, m3⟩ := xl_a (hm0 c) hKn hBl hd0
    subst c
    have P' := P
    obtain ⟨L, f, fl, ln, e1, _⟩ := P'
    subst e1
    refine xl_note (by omega) (by omega) ?_
    have go := H0 rfl
    rcases hk with hk | ⟨hk, p, s, hm⟩
    · subst hk
      refine pk_lt k0 R (fun _ => nm_r (nI_1 i) ?_) (fun z => by omega)
      exact go _ _ _ _ _ _ _ _ _ _ _ _ _ _ _ k0 _ P hk0 m1 m2 m3
    · subst hk
      subst hm
      refine pk_lt (k0 + 1) R (fun z => nm_r (nI_1 i) ?_) (fun z => ?_)
      · exact go _ _ _ _ _ _ _ _ _ _ _ _ _ _ _ (k0 + 1) _ P z m1 m2 m3
      · refine xw_collect hn (by omega) hB hA P (fun uc' rc' CN' MK' RE' P2 => nm_r (nI_1 i) ?_)
        exact go _ _ _ _ _ _ _ _ _ _ _ _ _ _ _ 0 _ P2 (by omega) m1 m2 m3
  · obtain ⟨hk, kp, e1, h1, h2⟩ := q13 (by omega)
    obtain ⟨m1, m2⟩ := xl_b (hm1 c) h1 h2 hd0
    subst hk e1
    refine xl_note (by omega) m2 (pk_lt k0 R (fun _ => nm_r (nI_1 i) ?_) (fun z => by omega))
    rw [m1]
    exact br_c (fun _ => H1 c _ ⟨rfl, rfl, rfl, rfl, rfl, rfl, rfl, rfl, ho c, he, q12⟩) (fun _ => br_f (nI_ne0 (by omega) (by omega)) (H1 c _ ⟨rfl, rfl, rfl, rfl, rfl, rfl, rfl, rfl, ho c, he, q12⟩))
theorem xl_run {post : Int32 → SX → Prop} {t : Nat → Nat} {n R : Nat} (W : tx_W t n) (hT : tx_T T t n) (hn : n ≤ 32) (hE : xt_E ES t 0 n) (hHP : xt_H HP t n) (hR : 1 ≤ R) (hR2 : R ≤ 1000) :
    ∀ (w i : Nat) (m : pm_M) (K : List pm_F) (sg : List (List pm_F)) (nm : pm_N) (b o1 c1 mm : Nat) (pe lc uc rc pc en : Int32) (va : Int64) (FT FE : Nat → Int32) (FF : Nat → Int64) (SZ : Nat → Int32) (CV : Nat → Int64) (CN MK RE OU : Nat → Int32) (k d : Nat),
      pm_I t n m K sg nm b o1 c1 mm → pm_w t m K c1 < w → i + w ≤ 1000000 → xr_P m K sg nm b pe lc uc pc en va FT FE FF SZ CV CN → k < R → d ≤ 16 → max d 1 = mm → (d = 0 → ∃ p s, m = .inl (p, s)) →
      (∀ u, xr_End n T (pm_fin t w (m, K, sg, nm, b, OU, o1, c1, mm, 0)) u → post (nI (pm_e (pm_fin t w (m, K, sg, nm, b, OU, o1, c1, mm, 0)))) u) →
      wX_run_35 post (nI R) (w + 1) (nI i) (nI n) pe lc uc (nI k) rc pc en va (nI o1) (nI c1) (nI sg.length) (nI d) 0 T ES HP FT FE FF SZ CV CN MK RE OU := by
  have hk : ∀ i, i < n → tx_tok (t i) := fun i hi => (hT i hi).2
  intro w
  induction w with
  | zero => intro i m K sg nm b o1 c1 mm pe lc uc rc pc en va FT FE FF SZ CV CN MK RE OU k d _ hw; omega
  | succ w ih =>
    intro i m K sg nm b o1 c1 mm pe lc uc rc pc en va FT FE FF SZ CV CN MK RE OU k d I hw hi P hkR hd hmm hm0 h
    have J := kp_step W hn hk (out := OU) I
    have Mm := pm_Mt (t := t) (m := m) (K := K) (sg := sg) (nm := nm) (b := b) (out := OU) (o1 := o1) (c1 := c1) (mm := mm)
    have A : ∀ u, xr_Q n T ES HP d k (pm_step t m K sg nm b OU o1 c1 mm) u → match u with | (tc, pe, lc, uc, tk, rc, pc, en, va, oc, cc, sc, dp, ed, T, ES, HP, FT, FE, FF, SZ, CV, CN, MK, RE, OU) => wX_run_67 post (wX_run_35 post (nI R) (w + 1)) (nI R) (nI i) tc pe lc uc tk rc pc en va oc cc sc dp ed T ES HP FT FE FF SZ CV CN MK RE OU := by
      intro u Q
      rw [pm_fin0] at h
      have he : pm_e (pm_step t m K sg nm b OU o1 c1 mm) < 10 := xl_e
      generalize pm_step t m K sg nm b OU o1 c1 mm = S at J Mm h Q he
      obtain ⟨m', K', sg', nm', b', out', o', c', mm', e'⟩ := S
      obtain ⟨tc, pe, lc, uc, tk, rc, pc, en, va, oc, cc, sc, dp, ed, T2, ES2, HP2, FT, FE, FF, SZ, CV, CN, MK, RE, OU2⟩ := u
      refine xl_67 (t := t) hn he (by omega) hR hR2 hkR hd Q (fun z => (J z).1) (fun z => by rw [hmm]; exact Mm.1 z) (fun z => by rw [hmm]; exact (Mm.2 z).1) (fun z => by have h1 := (Mm.2 z).2; have h2 := I.2.2.2.1; omega) (fun z => ?_) (fun z => ?_)
      · have z' : e' = 0 := z
        subst z'
        intro pe lc uc rc pc en va FT FE FF SZ CV CN MK RE k2 d2 P2 hk2 hd2 hmm2 hd1
        obtain ⟨I2, w2⟩ := J rfl
        exact ih (i + 1) m' K' sg' nm' b' o' c' mm' pe lc uc rc pc en va FT FE FF SZ CV CN MK RE out' k2 d2 I2 (by omega) (by omega) P2 hk2 hd2 hmm2 (fun y => by omega) h
      · have z' : ¬ pm_e (m', K', sg', nm', b', out', o', c', mm', e') = 0 := z
        rw [pm_fin1 t w z'] at h
        exact h
    refine pk_le 1000000 i (fun z => by omega) (fun _ => br_t rfl ?_)
    rcases m with ⟨p, s⟩ | v
    · have hp := I.1.1
      have epc : pc = nI p := by
        obtain ⟨L, f, fl, ln, _, _, _, _, _, _, _, _, _, e4, _⟩ := P
        exact e4
      refine br_f (by rw [epc]; exact ys_ne (by omega)) ?_
      exact xw_work hT hn hHP I P A
    · have epc : pc = -1 := by
        obtain ⟨L, f, fl, ln, _, _, _, _, _, _, _, _, _, e4, _⟩ := P
        exact e4
      refine br_t epc ?_
      have hd1 : 1 ≤ d := by
        rcases Nat.eq_zero_or_pos d with z | z
        · obtain ⟨p, s, e⟩ := hm0 z
          exact absurd e (by simp)
        · exact z
      exact xw_hand W hT hn hE hd1 I P A
