/-! the collector: sweep, collect -/
variable {tc pe lc uc tk rc pc en : Int32} {va : Int64} {oc cc sc dp ed : Int32} {T ES HP FT FE : Nat → Int32} {FF : Nat → Int64} {SZ : Nat → Int32} {CV : Nat → Int64} {CN MK RE OU : Nat → Int32}
theorem xc_pf {t : Nat → Nat} {n : Nat} {nm : pm_N} {b c : Nat} (hn : n ≤ 32) : ∀ g, pm_f t n nm b c g → xc_p g := by
  intro g hg
  rcases g with _ | ⟨p, s, _ | a | ⟨s2, p2⟩ | j⟩
  · exact True.intro
  · exact True.intro
  · exact True.intro
  · have := hg.2.2.2.2.2.1
    show p2 < 32
    omega
  · exact True.intro
theorem xw_slp2 {post : SX → Prop} {ln : Nat} (h8 : 8 ≤ ln) (hl : ln < 9000) (h01 : ∀ x, x ≤ ln → MK x = 0 ∨ MK x = 1)
    (h : ∀ CN', (∀ x, xm_mk MK ln x → CN' x = CN x) → yn_L CN' (xm_fl MK (ln - 8)) → post (tc, pe, nI ln, nI (yn_hd (xm_fl MK (ln - 8))), tk, rc, pc, en, va, oc, cc, sc, dp, ed, T, ES, HP, FT, FE, FF, SZ, CV, CN', MK, RE, OU)) :
    ∀ d i CN', i + d = ln - 8 → (∀ x, xm_mk MK ln x → CN' x = CN x) → yn_L CN' (xm_fl MK i) → wX_sweep_8 post tc pe (nI ln) tk rc pc en va oc cc sc dp ed (d + 1) (nI (9 + i)) (nI (yn_hd (xm_fl MK i))) T ES HP FT FE FF SZ CV CN' MK RE OU := by
  intro d
  induction d with
  | zero =>
    intro i CN' hi hc hL
    have e : i = ln - 8 := by omega
    rw [e] at hL ⊢
    exact pk_lt ln (9 + (ln - 8)) (fun _ => h CN' hc hL) (fun z => by omega)
  | succ d ih =>
    intro i CN' hi hc hL
    have v : vp_in (nI (9 + i)) 9000 := vp_in_nI (by omega) (by decide)
    have c : (nI (9 + i)).toNatClampNeg = 9 + i := nI_clamp (by omega)
    refine pk_lt ln (9 + i) (fun z => by omega) (fun _ => ⟨v, ?_⟩)
    rw [c]
    have en : nI (9 + i) + 1 = nI (9 + (i + 1)) := by rw [nI_1]; rfl
    refine br_c (fun m0 => ⟨v, nm_r (e' := upd CN' (9 + i) (nI (yn_hd (xm_fl MK i)))) rfl (nm_r en ?_)⟩) (fun m0 => nm_r en ?_)
    · have e : xm_fl MK (i + 1) = (9 + i) :: xm_fl MK i := by rw [xm_fl, if_pos m0]
      have I := ih (i + 1) (upd CN' (9 + i) (nI (yn_hd (xm_fl MK i)))) (by omega) (fun x hx => ?_) ?_
      · rw [e] at I
        exact I
      · rw [pk_un (fun q : x = 9 + i => by have := hx.2; rw [q, m0] at this; exact absurd this (by decide))]
        exact hc x hx
      · rw [e]
        refine ⟨pk_us, yn_Lc _ (fun y hy => pk_un ?_) hL⟩
        have := xm_flm MK i y hy
        omega
    · have e : xm_fl MK (i + 1) = xm_fl MK i := by rw [xm_fl, if_neg m0]
      have I := ih (i + 1) CN' (by omega) hc (by rw [e]; exact hL)
      rw [e] at I
      exact I
theorem xw_sweep {post : SX → Prop} {ln : Nat} (h8 : 8 ≤ ln) (hl : ln < 9000) (h01 : ∀ x, x ≤ ln → MK x = 0 ∨ MK x = 1)
    (h : ∀ CN', (∀ x, xm_mk MK ln x → CN' x = CN x) → yn_L CN' (xm_fl MK (ln - 8)) → post (tc, pe, nI ln, nI (yn_hd (xm_fl MK (ln - 8))), tk, rc, pc, en, va, oc, cc, sc, dp, ed, T, ES, HP, FT, FE, FF, SZ, CV, CN', MK, RE, OU)) : wpX_sweep post (tc, pe, nI ln, uc, tk, rc, pc, en, va, oc, cc, sc, dp, ed, T, ES, HP, FT, FE, FF, SZ, CV, CN, MK, RE, OU) :=
  ⟨ln - 8 + 1, xw_slp2 h8 hl h01 h (ln - 8) 0 CN (by omega) (fun _ _ => rfl) True.intro⟩
theorem xw_118 {post : SX → Prop} {t : Nat → Nat} {n ln r p s c : Nat} {L : Nat → Prop} {f : Nat → Nat} {K : List pm_F} {sg : List (List pm_F)} {nm : pm_N} {b : Nat} (h8 : 8 ≤ ln) (hlb : ln ≤ 8 + b) (hl : ln < 9000) (H : xm_H L f CV CN nm b ln) (G : xm_G L f FT FE FF SZ sg) (hK : xm_K L MK RE ln r)
    (hR : xm_R (xm_mk MK ln) f FT FE FF 0 K) (hc : xm_E (xm_mk MK ln) f c s) (C : ∀ k x, k < r → RE k = nI x → x < 9000 → xm_cl (xm_mk MK ln) f CV CN nm FT FE FF sg x)
    (h : ∀ uc CN, xr_P (.inl (p, s)) K sg nm b (nI K.length) (nI ln) uc (nI p) (nI c) va FT FE FF SZ CV CN → post (tc, nI K.length, nI ln, uc, 0, nI r, nI p, nI c, va, oc, cc, sc, dp, ed, T, ES, HP, FT, FE, FF, SZ, CV, CN, MK, RE, OU)) :
    wX_collect_118 post tc (nI K.length) (nI ln) uc tk (nI r) (nI p) (nI c) va oc cc sc dp ed T ES HP FT FE FF SZ CV CN MK RE OU := by
  unfold wX_collect_118
  refine xw_sweep h8 hl hK.1 (fun CN' hcn hL => ?_)
  obtain ⟨H2, G2⟩ := xm_col (cn' := CN') H G hK hl C hcn
  refine h _ _ ⟨xm_mk MK ln, f, xm_fl MK (ln - 8), ln, rfl, rfl, h8, hlb, rfl, hR, G2, H2, ⟨hL, xm_fln MK _, fun x hx => ?_⟩, rfl, c, rfl, hc⟩
  have q := xm_flm MK _ x hx
  refine ⟨q.1, by omega, fun z => ?_⟩
  have z2 := z.2
  rw [q.2.2] at z2
  exact absurd z2 (by decide)
theorem xw_47 {post : SX → Prop} {t : Nat → Nat} {n ln p s c : Nat} {L : Nat → Prop} {f : Nat → Nat} {K : List pm_F} {sg : List (List pm_F)} {nm : pm_N} {b : Nat} (hn : n ≤ 32) (hA : pm_A t n sg nm b) (h8 : 8 ≤ ln) (hlb : ln ≤ 8 + b) (hl : ln < 9000) (H : xm_H L f CV CN nm b ln) (G : xm_G L f FT FE FF SZ sg)
    (h : ∀ uc rc CN MK RE, xr_P (.inl (p, s)) K sg nm b (nI K.length) (nI ln) uc (nI p) (nI c) va FT FE FF SZ CV CN → post (tc, nI K.length, nI ln, uc, 0, rc, nI p, nI c, va, oc, cc, sc, dp, ed, T, ES, HP, FT, FE, FF, SZ, CV, CN, MK, RE, OU)) :
    ∀ d i r MK RE, i + d = ln + 1 → i ≤ r → xm_K L MK RE ln r → xm_R (xm_mk MK ln) f FT FE FF 0 K → xm_E (xm_mk MK ln) f c s → (∀ k x, k < i → RE k = nI x → x < 9000 → xm_cl (xm_mk MK ln) f CV CN nm FT FE FF sg x) →
      wX_collect_47 post (d + 1) (nI i) tc (nI K.length) (nI ln) uc tk (nI r) (nI p) (nI c) va oc cc sc dp ed T ES HP FT FE FF SZ CV CN MK RE OU := by
  have hL : ∀ y, L y → 0 < y ∧ y ≤ ln := fun y hy => ⟨(H y hy).1, (H y hy).2.1⟩
  have hA1 := hA.1
  intro d
  induction d with
  | zero =>
    intro i r MK RE hi hir hK hR hc hC
    have hr := xm_Krc hK
    have e : i = r := by omega
    refine pk_le r i (fun _ => ?_) (fun z => by omega)
    exact xw_118 (t := t) (n := n) h8 hlb hl H G hK hR hc (by rw [← e]; exact hC) (fun uc' CN' P => h _ _ _ _ _ P)
  | succ d ih =>
    intro i r MK RE hi hir hK hR hc hC
    have hr := xm_Krc hK
    refine pk_le r i (fun z => ?_) (fun z => ?_)
    · have e : i = r := by omega
      exact xw_118 (t := t) (n := n) h8 hlb hl H G hK hR hc (by rw [← e]; exact hC) (fun uc' CN' P => h _ _ _ _ _ P)
    refine pk_le 9000 i (fun y => by omega) (fun _ => ⟨vp_in_nI (by omega) (by decide), ?_⟩)
    obtain ⟨x, ex, hx⟩ := hK.2.2.1 i z
    have hxL := (hK.2.1 x hx).1
    have hxl := hL x hxL
    have cx : (nI x).toNatClampNeg = x := nI_clamp (by omega)
    refine nm_r (e' := nI x) (by rw [nI_clamp (by omega)]; exact ex) ?_
    have next : ∀ MK' RE' r', xc_G L ln MK RE r MK' RE' r' → xm_cl (xm_mk MK' ln) f CV CN nm FT FE FF sg x → wX_collect_47 post (d + 1) (nI (i + 1)) tc (nI K.length) (nI ln) uc tk (nI r') (nI p) (nI c) va oc cc sc dp ed T ES HP FT FE FF SZ CV CN MK' RE' OU := by
      intro MK' RE' r' g hcl
      have g4 := g.2.2.2
      refine ih (i + 1) r' MK' RE' (by omega) (by omega) g.1 (xm_Rm (xc_M g) K hR) (xm_Em (xc_M g) hc) (fun k y hk hy hy9 => ?_)
      rcases Nat.lt_or_ge k i with q | q
      · rw [g.2.2.1 k (by omega)] at hy
        exact xm_clm (xc_M g) (hC k y q hy hy9)
      · have e : k = i := by omega
        rw [e, g.2.2.1 i z, ex, nI_eq (by omega) (by omega)] at hy
        rw [← hy]
        exact hcl
    refine pk_le 9 x (fun q9 => ?_) (fun q9 => ?_)
    · obtain ⟨_, _, h9⟩ := H x hxL
      obtain ⟨k4, k5, ⟨c', k6, k7⟩, k8⟩ := h9 q9
      have vx : vp_in (nI x) 9000 := vp_in_nI (by omega) (by decide)
      have hpv := hA.2.2 (f x) k4 k5
      refine ⟨vx, ?_⟩
      rw [cx, k6]
      refine xw_reach hl hK (xc_E0 hL k7) (fun MK1 RE1 r1 g1 m1 => ⟨vx, ?_⟩)
      refine xw_rval (o := some (nm (f x)).2.1) (f := f) hl g1.1 hL (fun s2 p2 e => ?_) k8 (fun MK2 RE2 r2 g2 m2 => nm_r (nI_1 i) (next _ _ _ (xc_t g1 g2) ⟨fun _ => ⟨⟨c', k6, xm_Em (xc_M g2) (xc_E1 k7 m1)⟩, m2⟩, fun q => by omega⟩))
      rw [Option.some.inj e] at hpv
      have := hpv.1
      omega
    · obtain ⟨g1, g2, g3⟩ := G x hxL q9
      have hm : sg.getD (x - 1) [] ∈ sg := yn_gm (zs := sg) (j := x - 1) (by omega)
      have h15 := (hA.2.1 _ hm).1
      refine ⟨vp_in_nI (by omega) (by decide), ?_⟩
      rw [cx, g2]
      have em : nI x * 16 = nI (x * 16) := pk_mul x 16
      rw [em]
      refine xw_rfr hl hL (by omega) g3 (fun g hg => xc_pf hn g ((hA.2.1 _ hm).2 g hg).2) hK (fun MK1 RE1 r1 gg R1 => nm_r (nI_1 i) (next _ _ _ gg ⟨fun q => by omega, fun _ => R1⟩))
theorem xw_clr {post : SX → Prop} {ln : Nat} (hl : ln < 9000) (h : ∀ MK, (∀ x, x ≤ ln → MK x = 0) → wX_collect_2 post tc pe (nI ln) uc tk rc pc en va oc cc sc dp ed 1 (nI (ln + 1)) T ES HP FT FE FF SZ CV CN MK RE OU) :
    ∀ d i MK, i + d = ln + 1 → (∀ x, x < i → MK x = 0) → wX_collect_2 post tc pe (nI ln) uc tk rc pc en va oc cc sc dp ed (d + 1) (nI i) T ES HP FT FE FF SZ CV CN MK RE OU := by
  intro d
  induction d with
  | zero =>
    intro i MK hi hm
    have e : i = ln + 1 := by omega
    rw [e] at hm ⊢
    exact h MK (fun x hx => hm x (by omega))
  | succ d ih =>
    intro i MK hi hm
    refine pk_lt ln i (fun z => by omega) (fun _ => ⟨vp_in_nI (by omega) (by decide), nm_r (e' := upd MK i 0) (by rw [nI_clamp (by omega)]; rfl) (nm_r (nI_1 i) (ih (i + 1) _ (by omega) (fun x hx => ?_)))⟩)
    by_cases c : x = i
    · rw [c, pk_us]
    · rw [pk_un c]; exact hm x (by omega)
theorem xw_collect {post : SX → Prop} {t : Nat → Nat} {n p s : Nat} {K : List pm_F} {sg : List (List pm_F)} {nm : pm_N} {b : Nat} (hn : n ≤ 32) (hb : b ≤ 8704) (hB : pm_B t n K sg.length nm b) (hA : pm_A t n sg nm b) (P : xr_P (.inl (p, s)) K sg nm b pe lc uc pc en va FT FE FF SZ CV CN)
    (h : ∀ uc rc CN MK RE, xr_P (.inl (p, s)) K sg nm b pe lc uc pc en va FT FE FF SZ CV CN → post (tc, pe, lc, uc, 0, rc, pc, en, va, oc, cc, sc, dp, ed, T, ES, HP, FT, FE, FF, SZ, CV, CN, MK, RE, OU)) : wpX_collect post (tc, pe, lc, uc, tk, rc, pc, en, va, oc, cc, sc, dp, ed, T, ES, HP, FT, FE, FF, SZ, CV, CN, MK, RE, OU) := by
  obtain ⟨L, f, fl, ln, e1, e2, h8, hlb, e3, hR, hG, hH, hU, e4, c, e5, hc⟩ := P
  subst e1 e2 e3 e4 e5
  have hl : ln < 9000 := by omega
  have hL : ∀ y, L y → 0 < y ∧ y ≤ ln := fun y hy => ⟨(hH y hy).1, (hH y hy).2.1⟩
  have hBl := hB.2.1
  refine ⟨ln + 2, xw_clr hl (fun MK' hm => ?_) (ln + 1) 0 MK (by omega) (fun x hx => by omega)⟩
  refine pk_lt ln (ln + 1) (fun _ => ?_) (fun z => by omega)
  have K0 : xm_K L MK' RE ln 0 := by
    refine ⟨fun x hx => Or.inl (hm x hx), fun x hx => ?_, fun k hk => by omega, (xm_c0 MK' (ln + 1) (fun x hx => hm x (by omega))).symm⟩
    have q := hx.2
    rw [hm x hx.1] at q
    exact absurd q (by decide)
  have e0 : (0 : Int32) = nI 0 := nI_0.symm
  rw [e0]
  refine xw_reach hl K0 (xc_E0 hL hc) (fun MK1 RE1 r1 g1 m1 => ?_)
  refine xw_rfr (o := 0) hl hL (by omega) hR (fun g hg => xc_pf hn g (hB.1 g hg)) g1.1 (fun MK2 RE2 r2 g2 R2 => ⟨ln + 2, ?_⟩)
  exact xw_47 hn hA h8 hlb hl hH hG (fun uc' rc' CN' MK' RE' P => h _ _ _ _ _ P) (ln + 1) 0 r2 MK2 RE2 (by omega) (by omega) g2.1 R2 (xm_Em (xc_M g2) (xc_E1 hc m1)) (fun k x hk => by omega)
