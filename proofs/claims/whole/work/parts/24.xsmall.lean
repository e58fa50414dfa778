/-! the component's small methods: pushFrame, giveName, copyFrames -/
variable {tc pe lc uc tk rc pc en : Int32} {va : Int64} {oc cc sc dp ed : Int32} {T ES HP FT FE : Nat → Int32} {FF : Nat → Int64} {SZ : Nat → Int32} {CV : Nat → Int64} {CN MK RE OU : Nat → Int32}
theorem xw_push {post : SX → Prop} {k : Nat} {a b : Int32} (hk : k < 144) (h : post (tc, nI (k + 1), lc, uc, tk, rc, pc, en, va, oc, cc, sc, dp, ed, T, ES, HP, upd FT k a, upd FE k b, vp_updL FF k 0, SZ, CV, CN, MK, RE, OU)) : wpX_pushFrame post (tc, nI k, lc, uc, tk, rc, pc, en, va, oc, cc, sc, dp, ed, T, ES, HP, FT, FE, FF, SZ, CV, CN, MK, RE, OU) a b := by
  have c : (nI k).toNatClampNeg = k := nI_clamp (by omega)
  have v : vp_in (nI k) 144 := vp_in_nI hk (by decide)
  exact ⟨v, nm_r (e' := upd FT k a) (by rw [c]) ⟨v, nm_r (e' := upd FE k b) (by rw [c]) ⟨v, nm_r (e' := vp_updL FF k 0) (by rw [c]) (nm_r (nI_1 k) h)⟩⟩⟩
theorem xw_g55 {post : SX → Prop} {x k : Nat} {l : Int64} {r : Int32} (hx : x < 9000) (h : post (tc, pe, lc, uc, nI (k + 1), rc, pc, nI x, va, oc, cc, sc, dp, ed, T, ES, HP, FT, FE, FF, SZ, vp_updL CV x l, upd CN x r, MK, RE, OU)) : wX_giveName_55 post l r (nI x) tc pe lc uc (nI k) rc pc en va oc cc sc dp ed T ES HP FT FE FF SZ CV CN MK RE OU := by
  have c : (nI x).toNatClampNeg = x := nI_clamp (by omega)
  have v : vp_in (nI x) 9000 := vp_in_nI hx (by decide)
  exact ⟨v, nm_r (e' := vp_updL CV x l) (by rw [c]) ⟨v, nm_r (e' := upd CN x r) (by rw [c]) (nm_r (nI_1 k) h)⟩⟩
theorem xw_give {post : SX → Prop} {L : Nat → Prop} {fl : List Nat} {ln k b : Nat} {l : Int64} {r : Int32} (U : xm_U L CN ln fl) (h8 : 8 ≤ ln) (hl : ln ≤ 8 + b) (hb : b ≤ 8703) (hL : ∀ y, L y → y ≤ ln)
    (h : ∀ x fl' ln', ¬ L x → 9 ≤ x → x < 9000 → ln ≤ ln' → x ≤ ln' → ln' ≤ 8 + (b + 1) → xm_U (xm_add L x) (upd CN x r) ln' fl' → post (tc, pe, nI ln', nI (yn_hd fl'), nI (k + 1), rc, pc, nI x, va, oc, cc, sc, dp, ed, T, ES, HP, FT, FE, FF, SZ, vp_updL CV x l, upd CN x r, MK, RE, OU)) :
    wpX_giveName post (tc, pe, nI ln, nI (yn_hd fl), nI k, rc, pc, en, va, oc, cc, sc, dp, ed, T, ES, HP, FT, FE, FF, SZ, CV, CN, MK, RE, OU) l r := by
  rcases fl with _ | ⟨x, fl⟩
  · have H := h (ln + 1) [] (ln + 1) (fun z => by have := hL _ z; omega) (by omega) (by omega) (by omega) (by omega) (by omega) xm_Uadd0
    refine br_t nI_0 (pk_le 8999 ln (fun z => by omega) (fun z => nm_r (nI_1 ln) ?_))
    exact xw_g55 (by omega) H
  · obtain ⟨u1, u2, u3⟩ := U
    obtain ⟨g1, g2, g3⟩ := u3 x (List.mem_cons_self ..)
    have H := h x fl ln g3 g1 (by omega) (Nat.le_refl _) g2 (by omega) (xm_Uadd ⟨u1, u2, u3⟩)
    have e : yn_hd (x :: fl) = x := rfl
    rw [e]
    refine br_f (nI_ne0 (by omega) (by omega)) ⟨vp_in_nI (by omega) (by decide), nm_r (e' := nI (yn_hd fl)) (by rw [nI_clamp (by omega)]; exact u1.1) ?_⟩
    exact xw_g55 (by omega) H
/-- a name gets a cell -/
theorem xw_bind {post : SX → Prop} {L : Nat → Prop} {f : Nat → Nat} {fl : List Nat} {ln k b c o y : Nat} {l : Int64} {v : pm_V} {K : List pm_F} {sg : List (List pm_F)} {nm : pm_N} (hb : b ≤ 8703) (h8 : 8 ≤ ln) (hl : ln ≤ 8 + b) (hR : xm_R L f FT FE FF 0 K) (hG : xm_G L f FT FE FF SZ sg) (hH : xm_H L f CV CN nm b ln) (hU : xm_U L CN ln fl) (hv : xm_V L f l v) (hc : xm_E L f c o)
    (h : ∀ lc uc en CV CN, (∀ p, xr_P (.inl (p, b + 1)) K sg (pm_bd nm b y v o) (b + 1) (nI K.length) lc uc (nI p) en va FT FE FF SZ CV CN) → post (tc, pe, lc, uc, nI (k + 1), rc, pc, en, va, oc, cc, sc, dp, ed, T, ES, HP, FT, FE, FF, SZ, CV, CN, MK, RE, OU)) :
    wpX_giveName post (tc, pe, nI ln, nI (yn_hd fl), nI k, rc, pc, en, va, oc, cc, sc, dp, ed, T, ES, HP, FT, FE, FF, SZ, CV, CN, MK, RE, OU) l (nI c) := by
  refine xw_give hU h8 hl hb (fun y hy => (hH y hy).2.1) (fun x fl' ln' x1 x2 x3 x4 x5 x6 x7 => h _ _ _ _ _ (fun p => ?_))
  have M := xm_Ma (f := f) (k := b + 1) x1
  exact ⟨xm_add L x, xm_put f x (b + 1), fl', ln', rfl, rfl, by omega, x6, rfl, xm_Rm M K hR, xm_Gadd hG x1 x2, xm_Hadd hH x1 x2 x5 x4 hv hc, x7, rfl, x, rfl, Or.inr ⟨x2, x3, Or.inr rfl, by unfold xm_put; rw [if_pos rfl]⟩⟩
theorem xw_cp {post : SX → Prop} {a c w : Nat} (ha : a + w ≤ 144) (hc : c + w ≤ 144) (ho : a + w ≤ c ∨ c + w ≤ a) (h : post (tc, pe, lc, uc, tk, rc, pc, en, va, oc, cc, sc, dp, ed, T, ES, HP, xm_cp FT a c w, xm_cp FE a c w, xm_cp FF a c w, SZ, CV, CN, MK, RE, OU)) :
    ∀ d i, i + d = w → wX_copyFrames_3 post (nI a) (nI c) (nI w) tc pe lc uc tk rc pc en va oc cc sc dp ed (d + 1) (nI i) T ES HP (xm_cp FT a c i) (xm_cp FE a c i) (xm_cp FF a c i) SZ CV CN MK RE OU := by
  intro d
  induction d with
  | zero =>
    intro i hi
    have e : i = w := by omega
    rw [e]
    exact pk_le w w (fun _ => h) (fun z => by omega)
  | succ d ih =>
    intro i hi
    have I := ih (i + 1) (by omega)
    have ea : nI a + nI i = nI (a + i) := nI_add a i
    have ec : nI c + nI i = nI (c + i) := nI_add c i
    have va : vp_in (nI (a + i)) 144 := vp_in_nI (by omega) (by decide)
    have vc : vp_in (nI (c + i)) 144 := vp_in_nI (by omega) (by decide)
    have ca : (nI (a + i)).toNatClampNeg = a + i := nI_clamp (by omega)
    have cc : (nI (c + i)).toNatClampNeg = c + i := nI_clamp (by omega)
    refine pk_le w i (fun z => by omega) (fun _ => ?_)
    rw [ea, ec]
    refine ⟨va, vc, nm_r (e' := xm_cp FT a c (i + 1)) ?_ ⟨va, vc, nm_r (e' := xm_cp FE a c (i + 1)) ?_ ⟨va, vc, nm_r (e' := xm_cp FF a c (i + 1)) ?_ (nm_r (nI_1 i) I)⟩⟩⟩
    · rw [ca, cc, xm_cpr (by omega)]; exact xm_cps
    · rw [ca, cc, xm_cpr (by omega)]; exact xm_cps
    · rw [ca, cc, xm_cpr (by omega)]; exact xm_cpL
theorem xw_copy {post : SX → Prop} {a c w : Nat} (ha : a + w ≤ 144) (hc : c + w ≤ 144) (ho : a + w ≤ c ∨ c + w ≤ a) (h : post (tc, pe, lc, uc, tk, rc, pc, en, va, oc, cc, sc, dp, ed, T, ES, HP, xm_cp FT a c w, xm_cp FE a c w, xm_cp FF a c w, SZ, CV, CN, MK, RE, OU)) : wpX_copyFrames post (tc, pe, lc, uc, tk, rc, pc, en, va, oc, cc, sc, dp, ed, T, ES, HP, FT, FE, FF, SZ, CV, CN, MK, RE, OU) (nI a) (nI c) (nI w) := by
  have H := xw_cp ha hc ho h w 0 (by omega)
  rw [xm_cp0, xm_cp0, xm_cp0] at H
  exact ⟨w + 1, H⟩
theorem xw_hlp {post : SX → Prop} {L : Nat → Prop} {f : Nat → Nat} {nm : pm_N} {b ln s c i : Nat} {x : Nat} {l : List Nat} {v : pm_V} (H : xm_H L f CV CN nm b ln) (hC : pm_Ch nm b l s) (hE : xm_E L f c s) (hi : tx_ix l x = some i) (hv : pm_look nm l x s = some v) (hi2 : i < 32)
    (h : ∀ va, xm_V L f va v → post (tc, pe, lc, uc, tk, rc, -1, en, va, oc, cc, sc, dp, ed, T, ES, HP, FT, FE, FF, SZ, CV, CN, MK, RE, OU)) : ∀ d j, j + d = i → wX_lookUp_28 post (nI i) tc pe lc uc tk rc pc en va oc cc sc dp ed T ES HP FT FE FF SZ CV CN MK RE OU (d + 1) (nI (xm_hop CN j c)) (nI j) := by
  obtain ⟨A, B⟩ := xm_look H x v l s c i hC hE hi hv
  intro d
  induction d with
  | zero =>
    intro j hj
    have e : j = i := by omega
    rw [e]
    have a := A i (Nat.le_refl _)
    refine pk_le i i (fun _ => ⟨vp_in_nI a.1 (by decide), nm_e ?_⟩) (fun z => by omega)
    rw [nI_clamp (by omega)]
    exact h _ B
  | succ d ih =>
    intro j hj
    have a := A j (by omega)
    refine pk_le i j (fun z => by omega) (fun _ => ⟨vp_in_nI a.1 (by decide), nm_r (e' := nI (xm_hop CN (j + 1) c)) ?_ (nm_r (nI_1 j) (ih (j + 1) (by omega)))⟩)
    rw [nI_clamp (by omega)]
    exact a.2
