/-! what is owed -/
def zr_R (tc : Int32) (va : Int64) (oc cc sc dp ed : Int32) (T OU : Nat → Int32) (sz st so rs sh ca sf mo : Int32) (T' PA : Nat → Int32) : Prop :=
  ∃ n, n ≤ 32 ∧ tc = nI n ∧ sz = nI n ∧ T' = T ∧ tx_T T (zr_t T) n ∧ tx_B (zr_t T) n ∧ st = ed ∧ sh = oc ∧ PA = OU ∧ (∃ o, o ≤ 16 ∧ oc = nI o) ∧ ca = cc ∧ sf = sc ∧ mo = dp ∧
    (ed = 1 → ∃ w L f, xm_V L f va w ∧ yr_W so rs w) ∧ (¬ ed = 1 → so = 0 ∧ rs = 0)
def i_Rel (_ : Nat) (u : SX) (v : SY) : Prop := match u, v with
  | (tc, _, _, _, _, _, _, _, va, oc, cc, sc, dp, ed, T, _, _, _, _, _, _, _, _, _, _, OU), (sz, st, so, rs, sh, ca, sf, mo, _, _, _, _, _, _, _, _, _, _, T', PA, _, _, _, _, _, _, _, _, _, _, _) =>
    zr_R tc va oc cc sc dp ed T OU sz st so rs sh ca sf mo T' PA
theorem i_up {k : Nat} {u : SX} {v : SY} (h : i_Rel k u v) : i_Rel (k + 2) u v := h
theorem i_vc0 : wpX_init (fun u => wpY_init (fun v => i_Rel 0 u v)) := by
  unfold wpX_init
  show zr_R 0 0 0 0 0 0 0 (fun _ => 0) (fun _ => 0) 0 0 0 0 0 0 0 0 (fun _ => 0) (fun _ => 0)
  exact ⟨0, by omega, rfl, rfl, rfl, fun i hi => by omega, fun i hi => by omega, rfl, rfl, rfl, ⟨0, by omega, rfl⟩, rfl, rfl, rfl, fun z => absurd z (by decide), fun _ => ⟨rfl, rfl⟩⟩
theorem zr_0 {T OU : Nat → Int32} {n : Nat} (hn : n ≤ 32) (hT : tx_T T (zr_t T) n) (hB : tx_B (zr_t T) n) : zr_R (nI n) 0 0 0 0 0 0 T OU (nI n) 0 0 0 0 0 0 0 T OU :=
  ⟨n, hn, rfl, rfl, rfl, hT, hB, rfl, rfl, rfl, ⟨0, by omega, rfl⟩, rfl, rfl, rfl, fun z => absurd z (by decide), fun _ => ⟨rfl, rfl⟩⟩
theorem i_vc_feed {k : Nat} {u : SX} {v : SY} (I : i_Rel k u v) (hk : k + 2 ≤ 1024) (v1 : Int32) : wpX_feed (fun r u' => wpY_feed (fun r' v' => r' = r ∧ i_Rel (k + 2) u' v') v v1) u v1 := by
  obtain ⟨tc, pe, lc, uc, tk, rc, pc, en, va, oc, cc, sc, dp, ed, T, ES, HP, FT, FE, FF, SZ, CV, CN, MK, RE, OU⟩ := u
  obtain ⟨sz, st, so, rs, sh, ca, sf, mo, fr, sp, tp, de, bo, pc2, sc2, ha, vk, va2, T2, PA, PL, SE, AR, KI, VA, OU2, TA, NA, NK, NV, NO⟩ := v
  have I0 := I
  obtain ⟨n, hn, e1, e2, e3, hT, hB, e4, e5, e6, ho, e7, e8, e9, hy, hz⟩ := I
  subst e1 e2 e3 e4 e5 e6 e7 e8 e9
  refine zx_feed hB hT hn (fun h0 => ?_) (fun h0 h1 => ?_) (fun h0 h1 h2 => ?_)
  · exact zy_feed hB hT hn (fun _ => ⟨rfl, I0⟩) (fun q _ => absurd q h0) (fun q _ _ => absurd q h0)
  · refine zy_feed hB hT hn (fun q => absurd h0 q) (fun _ _ => ⟨rfl, I0⟩) (fun _ q1 q2 => ?_)
    rcases h1 with h1 | h1
    · omega
    · exact absurd h1 q2
  · refine zy_feed hB hT hn (fun q => absurd h0 q) (fun _ q => ?_) (fun _ _ _ => ⟨rfl, zr_0 (by omega) (zr_T hT h0) (zr_B hB h2)⟩)
    rcases q with q | q
    · omega
    · exact absurd q h2
theorem i_vc_undo {k : Nat} {u : SX} {v : SY} (I : i_Rel k u v) (hk : k + 2 ≤ 1024) : wpX_undo (fun r u' => wpY_undo (fun r' v' => r' = r ∧ i_Rel (k + 2) u' v') v) u := by
  obtain ⟨tc, pe, lc, uc, tk, rc, pc, en, va, oc, cc, sc, dp, ed, T, ES, HP, FT, FE, FF, SZ, CV, CN, MK, RE, OU⟩ := u
  obtain ⟨sz, st, so, rs, sh, ca, sf, mo, fr, sp, tp, de, bo, pc2, sc2, ha, vk, va2, T2, PA, PL, SE, AR, KI, VA, OU2, TA, NA, NK, NV, NO⟩ := v
  have I0 := I
  obtain ⟨n, hn, e1, e2, e3, hT, hB, e4, e5, e6, ho, e7, e8, e9, hy, hz⟩ := I
  subst e1 e2 e3 e4 e5 e6 e7 e8 e9
  refine zx_undo hn (fun h0 => ?_) (fun j h1 => ?_)
  · exact zy_undo hn (fun _ => ⟨rfl, I0⟩) (fun j q => by omega)
  · refine zy_undo hn (fun q => by omega) (fun i q => ?_)
    have e : i = j := by omega
    subst e
    exact ⟨rfl, zr_0 (by omega) (fun i hi => hT i (by omega)) (fun i hi => hB i (by omega))⟩
theorem i_vc_token {k : Nat} {u : SX} {v : SY} (I : i_Rel k u v) (hk : k + 2 ≤ 1024) (v1 : Int32) : wpX_token (fun r => wpY_token (fun r' => r' = r ∧ i_Rel (k + 2) u v) v v1) u v1 := by
  obtain ⟨tc, pe, lc, uc, tk, rc, pc, en, va, oc, cc, sc, dp, ed, T, ES, HP, FT, FE, FF, SZ, CV, CN, MK, RE, OU⟩ := u
  obtain ⟨sz, st, so, rs, sh, ca, sf, mo, fr, sp, tp, de, bo, pc2, sc2, ha, vk, va2, T2, PA, PL, SE, AR, KI, VA, OU2, TA, NA, NK, NV, NO⟩ := v
  have I0 := I
  obtain ⟨n, hn, e1, e2, e3, hT, hB, e4, e5, e6, ho, e7, e8, e9, hy, hz⟩ := I
  subst e1 e2 e3 e4 e5 e6 e7 e8 e9
  rcases pk_ix v1 (n := n) (by omega) with c | c | ⟨j, hj, rfl⟩
  · exact br_t c (br_t c ⟨rfl, I0⟩)
  · exact br_c (fun d => br_t d ⟨rfl, I0⟩) (fun d => br_t c (br_f d (br_t c ⟨rfl, I0⟩)))
  · have v : vp_in (nI j) 32 := vp_in_nI (by omega) (by decide)
    exact br_f (nI_pos (by omega)) (br_f (nI_ge hj (by omega)) ⟨v, br_f (nI_pos (by omega)) (br_f (nI_ge hj (by omega)) ⟨v, rfl, I0⟩)⟩)
theorem i_vc_complete {k : Nat} {u : SX} {v : SY} (I : i_Rel k u v) (hk : k + 2 ≤ 1024) : wpX_complete (fun r => wpY_complete (fun r' => r' = r ∧ i_Rel (k + 2) u v) v) u := by
  obtain ⟨tc, pe, lc, uc, tk, rc, pc, en, va, oc, cc, sc, dp, ed, T, ES, HP, FT, FE, FF, SZ, CV, CN, MK, RE, OU⟩ := u
  obtain ⟨sz, st, so, rs, sh, ca, sf, mo, fr, sp, tp, de, bo, pc2, sc2, ha, vk, va2, T2, PA, PL, SE, AR, KI, VA, OU2, TA, NA, NK, NV, NO⟩ := v
  have I0 := I
  obtain ⟨n, hn, e1, e2, e3, hT, hB, e4, e5, e6, ho, e7, e8, e9, hy, hz⟩ := I
  subst e1 e2 e3 e4 e5 e6 e7 e8 e9
  exact xt_complete hB hT hn (fun W => yt_complete hB hT hn (fun _ => ⟨rfl, I0⟩) (fun q => absurd W q)) (fun W => yt_complete hB hT hn (fun q => absurd q W) (fun _ => ⟨rfl, I0⟩))
theorem i_vc_free {k : Nat} {u : SX} {v : SY} (I : i_Rel k u v) (hk : k + 2 ≤ 1024) : wpX_free (fun r u' => wpY_free (fun r' => r' = r ∧ i_Rel (k + 2) u' v) v) u := by
  obtain ⟨tc, pe, lc, uc, tk, rc, pc, en, va, oc, cc, sc, dp, ed, T, ES, HP, FT, FE, FF, SZ, CV, CN, MK, RE, OU⟩ := u
  obtain ⟨sz, st, so, rs, sh, ca, sf, mo, fr, sp, tp, de, bo, pc2, sc2, ha, vk, va2, T2, PA, PL, SE, AR, KI, VA, OU2, TA, NA, NK, NV, NO⟩ := v
  have I0 := I
  obtain ⟨n, hn, e1, e2, e3, hT, hB, e4, e5, e6, ho, e7, e8, e9, hy, hz⟩ := I
  subst e1 e2 e3 e4 e5 e6 e7 e8 e9
  exact xh_free hB hT hn (fun W ES' HP' => yf_free hB hT hn (fun _ => ⟨rfl, I0⟩) (fun q => absurd W q)) (fun W => yf_free hB hT hn (fun q => absurd q W) (fun _ => ⟨rfl, I0⟩))
theorem zr_end {n : Nat} {T : Nat → Int32} {S : pm_S} {u : SX} {v : SY} (hn : n ≤ 32) (hT : tx_T T (zr_t T) n) (hB : tx_B (zr_t T) n) (X : xr_End n T S u) (Y : yr_End n T S v) (k : Nat) : i_Rel k u v := by
  obtain ⟨m, K, sg, nm, b, out, o1, c1, mm, e⟩ := S
  obtain ⟨tc, pe, lc, uc, tk, rc, pc, en, va, oc, cc, sc, dp, ed, T1, ES, HP, FT, FE, FF, SZ, CV, CN, MK, RE, OU⟩ := u
  obtain ⟨sz, st, so, rs, sh, ca, sf, mo, fr, sp, tp, de, bo, pc2, sc2, ha, vk, va2, T2, PA, PL, SE, AR, KI, VA, OU2, TA, NA, NK, NV, NO⟩ := v
  obtain ⟨x1, x2, x3, x4, x5, x6, x7, x8, x9, x10, x11⟩ := X
  obtain ⟨y1, y2, y3, y4, y5, y6, y7, y8, y9, y10⟩ := Y
  subst x1 x2 x3 x4 x5 x6 x7 x8 y1 y2 y3 y4 y5 y6 y7 y8
  have he : nI e = 1 ↔ e = 1 := by
    have h := nI_eq (a := e) (b := 1) (by omega) (by omega)
    exact h
  refine ⟨n, hn, rfl, rfl, rfl, hT, hB, rfl, rfl, rfl, ⟨o1, x9, rfl⟩, rfl, rfl, rfl, fun z => ?_, fun z => y10 (fun q => z (he.mpr q))⟩
  obtain ⟨w, L, f, w1, w2⟩ := x11 (he.mp z)
  obtain ⟨w', w3, w4⟩ := y9 (he.mp z)
  have e : w = w' := Sum.inr.inj (w1.symm.trans w3)
  exact ⟨w, L, f, w2, by rw [e]; exact w4⟩
theorem i_vc_run {k : Nat} {u : SX} {v : SY} (I : i_Rel k u v) (hk : k + 2 ≤ 1024) (v1 : Int32) : wpX_run (fun r u' => wpY_run (fun r' v' => r' = r ∧ i_Rel (k + 2) u' v') v v1) u v1 := by
  obtain ⟨tc, pe, lc, uc, tk, rc, pc, en, va, oc, cc, sc, dp, ed, T, ES, HP, FT, FE, FF, SZ, CV, CN, MK, RE, OU⟩ := u
  obtain ⟨sz, st, so, rs, sh, ca, sf, mo, fr, sp, tp, de, bo, pc2, sc2, ha, vk, va2, T2, PA, PL, SE, AR, KI, VA, OU2, TA, NA, NK, NV, NO⟩ := v
  have I0 := I
  obtain ⟨n, hn, e1, e2, e3, hT, hB, e4, e5, e6, ho, e7, e8, e9, hy, hz⟩ := I
  subst e1 e2 e3 e4 e5 e6 e7 e8 e9
  by_cases c : ¬ tx_W (zr_t T2) n ∨ v1 < 1 ∨ 1000 < v1
  · exact rx_bad hB hT hn c (ry_bad hB hT hn c ⟨rfl, I0⟩)
  · have W : tx_W (zr_t T2) n := Classical.byContradiction (fun q => c (Or.inl q))
    have c1 : ¬ v1 < 1 := fun q => c (Or.inr (Or.inl q))
    have c2 : ¬ 1000 < v1 := fun q => c (Or.inr (Or.inr q))
    obtain ⟨R, hR, e⟩ := nI_of2 (x := v1) (M := 1000) (n := 1000) (by decide) (fun q => c1 (Int32.lt_trans q (by decide))) (Int32.not_lt.mp c2)
    subst e
    have hR1 : 1 ≤ R := by
      rcases Nat.eq_zero_or_pos R with q | q
      · rw [q] at c1; exact absurd (by decide) c1
      · exact q
    exact rx_run W hT hn hR1 hR (fun u' X => ry_run W hT hn hR1 hR (fun v' Y => ⟨rfl, zr_end hn hT hB X Y (k + 2)⟩))
theorem i_vc_status {k : Nat} {u : SX} {v : SY} (I : i_Rel k u v) (hk : k + 2 ≤ 1024) : wpX_status (fun r => wpY_status (fun r' => r' = r ∧ i_Rel (k + 2) u v) v) u := by
  obtain ⟨tc, pe, lc, uc, tk, rc, pc, en, va, oc, cc, sc, dp, ed, T, ES, HP, FT, FE, FF, SZ, CV, CN, MK, RE, OU⟩ := u
  obtain ⟨sz, st, so, rs, sh, ca, sf, mo, fr, sp, tp, de, bo, pc2, sc2, ha, vk, va2, T2, PA, PL, SE, AR, KI, VA, OU2, TA, NA, NK, NV, NO⟩ := v
  have I0 := I
  obtain ⟨n, hn, e1, e2, e3, hT, hB, e4, e5, e6, ho, e7, e8, e9, hy, hz⟩ := I
  exact ⟨e4, I0⟩
theorem zk_kind {post : Int32 → Prop} {va : Int64} {so rs ed : Int32} {tc pe lc uc tk rc pc en oc cc sc dp : Int32} {T ES HP FT FE : Nat → Int32} {FF : Nat → Int64} {SZ : Nat → Int32} {CV : Nat → Int64} {CN MK RE OU : Nat → Int32} (hy : ed = 1 → ∃ w L f, xm_V L f va w ∧ yr_W so rs w) (hz : ¬ ed = 1 → so = 0 ∧ rs = 0) (h : (so = 1 → rs = va.toInt32) → (¬ so = 1 → rs = 0) → post so) :
    wpX_kind post (tc, pe, lc, uc, tk, rc, pc, en, va, oc, cc, sc, dp, ed, T, ES, HP, FT, FE, FF, SZ, CV, CN, MK, RE, OU) := by
  refine br_c (fun c => ?_) (fun c => ?_)
  · obtain ⟨w, L, f, w1, w2⟩ := hy c
    rcases w with a | ⟨s, p⟩ | j
    · have e : va = xm_vo 1 a := w1
      obtain ⟨g1, g2⟩ := w2
      subst e g1 g2
      exact xw_kind (by decide) (br_t rfl (h (fun _ => (xv_ct 1 _).symm) (fun z => absurd rfl z)))
    · obtain ⟨c', e, _⟩ := w1
      obtain ⟨g1, g2⟩ := w2
      subst e g1 g2
      exact xw_kind (by decide) (br_f (by decide) (h (fun z => absurd z (by decide)) (fun _ => rfl)))
    · obtain ⟨e, _⟩ := w1
      obtain ⟨g1, g2⟩ := w2
      subst e g1 g2
      exact xw_kind (by decide) (br_f (by decide) (h (fun z => absurd z (by decide)) (fun _ => rfl)))
  · obtain ⟨g1, g2⟩ := hz c
    subst g1 g2
    exact h (fun z => absurd z (by decide)) (fun _ => rfl)
theorem i_vc_kind {k : Nat} {u : SX} {v : SY} (I : i_Rel k u v) (hk : k + 2 ≤ 1024) : wpX_kind (fun r => wpY_kind (fun r' => r' = r ∧ i_Rel (k + 2) u v) v) u := by
  obtain ⟨tc, pe, lc, uc, tk, rc, pc, en, va, oc, cc, sc, dp, ed, T, ES, HP, FT, FE, FF, SZ, CV, CN, MK, RE, OU⟩ := u
  obtain ⟨sz, st, so, rs, sh, ca, sf, mo, fr, sp, tp, de, bo, pc2, sc2, ha, vk, va2, T2, PA, PL, SE, AR, KI, VA, OU2, TA, NA, NK, NV, NO⟩ := v
  have I0 := I
  obtain ⟨n, hn, e1, e2, e3, hT, hB, e4, e5, e6, ho, e7, e8, e9, hy, hz⟩ := I
  exact zk_kind hy hz (fun _ _ => ⟨rfl, I0⟩)
theorem i_vc_number {k : Nat} {u : SX} {v : SY} (I : i_Rel k u v) (hk : k + 2 ≤ 1024) : wpX_number (fun r => wpY_number (fun r' => r' = r ∧ i_Rel (k + 2) u v) v) u := by
  obtain ⟨tc, pe, lc, uc, tk, rc, pc, en, va, oc, cc, sc, dp, ed, T, ES, HP, FT, FE, FF, SZ, CV, CN, MK, RE, OU⟩ := u
  obtain ⟨sz, st, so, rs, sh, ca, sf, mo, fr, sp, tp, de, bo, pc2, sc2, ha, vk, va2, T2, PA, PL, SE, AR, KI, VA, OU2, TA, NA, NK, NV, NO⟩ := v
  have I0 := I
  obtain ⟨n, hn, e1, e2, e3, hT, hB, e4, e5, e6, ho, e7, e8, e9, hy, hz⟩ := I
  unfold wpX_number
  refine zk_kind hy hz (fun h1 h0 => br_c (fun c => ⟨h1 c, I0⟩) (fun c => ⟨h0 c, I0⟩))
theorem i_vc_outs {k : Nat} {u : SX} {v : SY} (I : i_Rel k u v) (hk : k + 2 ≤ 1024) : wpX_outs (fun r => wpY_outs (fun r' => r' = r ∧ i_Rel (k + 2) u v) v) u := by
  obtain ⟨tc, pe, lc, uc, tk, rc, pc, en, va, oc, cc, sc, dp, ed, T, ES, HP, FT, FE, FF, SZ, CV, CN, MK, RE, OU⟩ := u
  obtain ⟨sz, st, so, rs, sh, ca, sf, mo, fr, sp, tp, de, bo, pc2, sc2, ha, vk, va2, T2, PA, PL, SE, AR, KI, VA, OU2, TA, NA, NK, NV, NO⟩ := v
  have I0 := I
  obtain ⟨n, hn, e1, e2, e3, hT, hB, e4, e5, e6, ho, e7, e8, e9, hy, hz⟩ := I
  exact ⟨e5, I0⟩
theorem i_vc_out {k : Nat} {u : SX} {v : SY} (I : i_Rel k u v) (hk : k + 2 ≤ 1024) (v1 : Int32) : wpX_out (fun r => wpY_out (fun r' => r' = r ∧ i_Rel (k + 2) u v) v v1) u v1 := by
  obtain ⟨tc, pe, lc, uc, tk, rc, pc, en, va, oc, cc, sc, dp, ed, T, ES, HP, FT, FE, FF, SZ, CV, CN, MK, RE, OU⟩ := u
  obtain ⟨sz, st, so, rs, sh, ca, sf, mo, fr, sp, tp, de, bo, pc2, sc2, ha, vk, va2, T2, PA, PL, SE, AR, KI, VA, OU2, TA, NA, NK, NV, NO⟩ := v
  have I0 := I
  obtain ⟨n, hn, e1, e2, e3, hT, hB, e4, e5, e6, ⟨o, ho, e0⟩, e7, e8, e9, hy, hz⟩ := I
  subst e1 e2 e3 e4 e5 e6 e7 e8 e9 e0
  rcases pk_ix v1 (n := o) (by omega) with c | c | ⟨j, hj, rfl⟩
  · exact br_t c (br_t c ⟨rfl, I0⟩)
  · exact br_c (fun d => br_t d ⟨rfl, I0⟩) (fun d => br_t c (br_f d (br_t c ⟨rfl, I0⟩)))
  · have v : vp_in (nI j) 16 := vp_in_nI (by omega) (by decide)
    exact br_f (nI_pos (by omega)) (br_f (nI_ge hj (by omega)) ⟨v, br_f (nI_pos (by omega)) (br_f (nI_ge hj (by omega)) ⟨v, rfl, I0⟩)⟩)
theorem i_vc_calls {k : Nat} {u : SX} {v : SY} (I : i_Rel k u v) (hk : k + 2 ≤ 1024) : wpX_calls (fun r => wpY_calls (fun r' => r' = r ∧ i_Rel (k + 2) u v) v) u := by
  obtain ⟨tc, pe, lc, uc, tk, rc, pc, en, va, oc, cc, sc, dp, ed, T, ES, HP, FT, FE, FF, SZ, CV, CN, MK, RE, OU⟩ := u
  obtain ⟨sz, st, so, rs, sh, ca, sf, mo, fr, sp, tp, de, bo, pc2, sc2, ha, vk, va2, T2, PA, PL, SE, AR, KI, VA, OU2, TA, NA, NK, NV, NO⟩ := v
  have I0 := I
  obtain ⟨n, hn, e1, e2, e3, hT, hB, e4, e5, e6, ho, e7, e8, e9, hy, hz⟩ := I
  exact ⟨e7, I0⟩
theorem i_vc_shifts {k : Nat} {u : SX} {v : SY} (I : i_Rel k u v) (hk : k + 2 ≤ 1024) : wpX_shifts (fun r => wpY_shifts (fun r' => r' = r ∧ i_Rel (k + 2) u v) v) u := by
  obtain ⟨tc, pe, lc, uc, tk, rc, pc, en, va, oc, cc, sc, dp, ed, T, ES, HP, FT, FE, FF, SZ, CV, CN, MK, RE, OU⟩ := u
  obtain ⟨sz, st, so, rs, sh, ca, sf, mo, fr, sp, tp, de, bo, pc2, sc2, ha, vk, va2, T2, PA, PL, SE, AR, KI, VA, OU2, TA, NA, NK, NV, NO⟩ := v
  have I0 := I
  obtain ⟨n, hn, e1, e2, e3, hT, hB, e4, e5, e6, ho, e7, e8, e9, hy, hz⟩ := I
  exact ⟨e8, I0⟩
theorem i_vc_deepest {k : Nat} {u : SX} {v : SY} (I : i_Rel k u v) (hk : k + 2 ≤ 1024) : wpX_deepest (fun r => wpY_deepest (fun r' => r' = r ∧ i_Rel (k + 2) u v) v) u := by
  obtain ⟨tc, pe, lc, uc, tk, rc, pc, en, va, oc, cc, sc, dp, ed, T, ES, HP, FT, FE, FF, SZ, CV, CN, MK, RE, OU⟩ := u
  obtain ⟨sz, st, so, rs, sh, ca, sf, mo, fr, sp, tp, de, bo, pc2, sc2, ha, vk, va2, T2, PA, PL, SE, AR, KI, VA, OU2, TA, NA, NK, NV, NO⟩ := v
  have I0 := I
  obtain ⟨n, hn, e1, e2, e3, hT, hB, e4, e5, e6, ho, e7, e8, e9, hy, hz⟩ := I
  exact ⟨e9, I0⟩
