/-! the component's step: workOut -/
variable {tc pe lc uc tk rc pc en : Int32} {va : Int64} {oc cc sc dp ed : Int32} {T ES HP FT FE : Nat → Int32} {FF : Nat → Int64} {SZ : Nat → Int32} {CV : Nat → Int64} {CN MK RE OU : Nat → Int32}
/-- the component's state in the middle of a step: d0 the depth noted before, k0 the cells taken before -/
def xr_Q (n : Nat) (T ES HP : Nat → Int32) (d0 k0 : Nat) (S : pm_S) (u : SX) : Prop := match S, u with
  | (m, K, sg, nm, b, out, o1, c1, mm, e), (tc, pe, lc, uc, tk, _, pc, en, va, oc, cc, sc, dp, ed, T', ES', HP', FT, FE, FF, SZ, CV, CN, _, _, OU) =>
    tc = nI n ∧ T' = T ∧ ES' = ES ∧ HP' = HP ∧ oc = nI o1 ∧ OU = out ∧ cc = nI c1 ∧ sc = nI sg.length ∧ dp = nI d0 ∧ ed = nI e ∧
    (e = 0 → xr_P m K sg nm b pe lc uc pc en va FT FE FF SZ CV CN ∧ (tk = nI k0 ∨ tk = nI (k0 + 1) ∧ ∃ p s, m = .inl (p, s))) ∧
    (e = 1 → ∃ w L f, m = .inr w ∧ xm_V L f va w) ∧
    (1 ≤ e → tk = nI k0 ∧ ∃ kp, pe = nI kp ∧ kp ≤ mm ∧ (d0 = 0 → 1 ≤ kp))
theorem xr_go {n d0 k0 k : Nat} {m : pm_M} {K : List pm_F} {sg : List (List pm_F)} {nm : pm_N} {b o1 c1 mm : Nat} (P : xr_P m K sg nm b pe lc uc pc en va FT FE FF SZ CV CN) (hk : k = k0 ∨ k = k0 + 1 ∧ ∃ p s, m = .inl (p, s)) :
    xr_Q n T ES HP d0 k0 (pm_go m K sg nm b OU o1 c1 mm) (nI n, pe, lc, uc, nI k, rc, pc, en, va, nI o1, nI c1, nI sg.length, nI d0, 0, T, ES, HP, FT, FE, FF, SZ, CV, CN, MK, RE, OU) :=
  ⟨rfl, rfl, rfl, rfl, rfl, rfl, rfl, rfl, rfl, rfl, fun _ => ⟨P, by rcases hk with h | h; exact Or.inl (by rw [h]); exact Or.inr ⟨by rw [h.1], h.2⟩⟩, fun z => absurd z (by decide), fun z => absurd z (by decide)⟩
theorem xr_st {n d0 k0 kp : Nat} {m : pm_M} {K : List pm_F} {sg : List (List pm_F)} {nm : pm_N} {b o1 c1 mm e : Nat} (he : 2 ≤ e) (h1 : kp ≤ mm) (h2 : d0 = 0 → 1 ≤ kp) :
    xr_Q n T ES HP d0 k0 (m, K, sg, nm, b, OU, o1, c1, mm, e) (nI n, nI kp, lc, uc, nI k0, rc, pc, en, va, nI o1, nI c1, nI sg.length, nI d0, nI e, T, ES, HP, FT, FE, FF, SZ, CV, CN, MK, RE, OU) :=
  ⟨rfl, rfl, rfl, rfl, rfl, rfl, rfl, rfl, rfl, rfl, fun z => by omega, fun z => by omega, fun _ => ⟨rfl, kp, rfl, h1, h2⟩⟩
theorem xw_take {post : SX → Prop} {k : Nat} {a : Int32} (hk : k < 4) (h : post (tc, pe, lc, uc, tk, rc, -1, en, xm_vo k a, oc, cc, sc, dp, ed, T, ES, HP, FT, FE, FF, SZ, CV, CN, MK, RE, OU)) : wpX_takeInHand post (tc, pe, lc, uc, tk, rc, pc, en, va, oc, cc, sc, dp, ed, T, ES, HP, FT, FE, FF, SZ, CV, CN, MK, RE, OU) (nI k) a := by
  unfold wpX_takeInHand wpX_valueOf
  show post _
  rw [xv_vo hk]
  exact h
theorem xw_slp {post : SX → Prop} {L : Nat → Prop} {f : Nat → Nat} {K1 : List pm_F} (hK : K1.length < 100) :
    ∀ (z : List pm_F), z.length < 100 → xm_R L f FT FE FF 0 (z ++ none :: K1) → (∀ g, g ∈ z → ∃ p s o, g = some (p, s, o) ∧ p < 32) → wX_shift_53 post (nI (K1.length + 1)) tc pe lc uc tk rc pc en va oc cc sc dp ed T ES HP FT FE FF SZ CV CN MK RE OU → (z ++ none :: K1).length < 144 → wX_shift_30 post tc pe lc uc tk rc pc en va oc cc sc dp ed T ES HP FT FE FF SZ CV CN MK RE OU (z.length + 1) (nI (z ++ none :: K1).length) := by
  intro z
  induction z with
  | nil =>
    intro _ hR _ h hl
    have e : FT (0 + K1.length) = -1 := hR.1.1
    rw [Nat.zero_add] at e
    show wX_shift_30 post tc pe lc uc tk rc pc en va oc cc sc dp ed T ES HP FT FE FF SZ CV CN MK RE OU 1 (nI (K1.length + 1))
    refine pk_le (K1.length + 1) 1 (fun _ => h) (fun c => ?_)
    rw [nI_pred, nI_clamp (by omega)]
    exact ⟨vp_in_nI (by omega) (by decide), br_t e h⟩
  | cons g z ih =>
    intro hz hR hs h hl
    obtain ⟨p, s, o, e, hp⟩ := hs g (List.mem_cons_self ..)
    subst e
    have e : FT (0 + (z ++ none :: K1).length) = nI p := hR.1.1
    rw [Nat.zero_add] at e
    have el : (some (p, s, o) :: z ++ none :: K1).length = (z ++ none :: K1).length + 1 := rfl
    rw [el] at hl ⊢
    rw [List.length_cons] at hz
    have e1 : (z ++ none :: K1).length = z.length + (K1.length + 1) := by rw [List.length_append, List.length_cons]
    refine pk_le ((z ++ none :: K1).length + 1) 1 (fun c => by omega) (fun c => ?_)
    rw [nI_pred, nI_clamp (by omega), e]
    exact ⟨vp_in_nI (by omega) (by decide), br_f (ys_ne (by omega)) (nm_r (pk_m1 _) (ih (by omega) hR.2 (fun g hg => hs g (List.mem_cons_of_mem _ hg)) h (by omega)))⟩
theorem xw_shift {post : SX → Prop} {L : Nat → Prop} {f : Nat → Nat} {fl : List Nat} {ln k b c s p y : Nat} {z K1 : List pm_F} {sg : List (List pm_F)} {nm : pm_N} (hb : b ≤ 8703) (h8 : 8 ≤ ln) (hl : ln ≤ 8 + b) (hR : xm_R L f FT FE FF 0 (z ++ none :: K1)) (hG : xm_G L f FT FE FF SZ sg) (hH : xm_H L f CV CN nm b ln) (hU : xm_U L CN ln fl) (hc : xm_E L f c s)
    (hz : ∀ g, g ∈ z → ∃ p s o, g = some (p, s, o) ∧ p < 32) (hK : (z ++ none :: K1).length ≤ 16) (hs : sg.length < 8) (h15 : ∀ y, y ∈ sg → y.length ≤ 15) (hp : p < 32)
    (h : ∀ lc uc en FT FE FF SZ CV CN, xr_P (.inl (p + 1, b + 1)) (none :: K1) (sg ++ [z]) (pm_bd nm b y (.inr (.inr sg.length)) s) (b + 1) (nI (K1.length + 1)) lc uc (nI (p + 1)) en va FT FE FF SZ CV CN → post (tc, nI (K1.length + 1), lc, uc, nI (k + 1), rc, nI (p + 1), en, va, oc, cc, nI (sg.length + 1), dp, ed, T, ES, HP, FT, FE, FF, SZ, CV, CN, MK, RE, OU)) :
    wpX_shift post (tc, nI (z ++ none :: K1).length, nI ln, nI (yn_hd fl), nI k, rc, nI p, nI c, va, oc, cc, nI sg.length, dp, ed, T, ES, HP, FT, FE, FF, SZ, CV, CN, MK, RE, OU) := by
  have el : (z ++ none :: K1).length = z.length + (K1.length + 1) := by rw [List.length_append, List.length_cons]
  have hpos : ∀ x, L x → 0 < x := fun x hx => (hH x hx).1
  refine pk_eq sg.length 8 (fun w => by omega) (fun _ => nm_r (nI_1 sg.length) ⟨z.length + 1, xw_slp (by omega) z (by omega) hR hz ?_ (by omega)⟩)
  have Ra := xm_Ra (L := L) (f := f) (te := FT) (en := FE) (fi := FF) (o := 0) z (none :: K1)
  obtain ⟨R1, R2⟩ := Ra.mp hR
  rw [Nat.zero_add, List.length_cons] at R1
  have es : (sg.length + 1) * 16 = (sg.length + 1) * 16 := rfl
  have G2 : xm_G (xm_add L (sg.length + 1)) f (xm_cp FT (K1.length + 1) ((sg.length + 1) * 16) z.length) (xm_cp FE (K1.length + 1) ((sg.length + 1) * 16) z.length) (xm_cp FF (K1.length + 1) ((sg.length + 1) * 16) z.length) (upd SZ (sg.length + 1) (nI z.length)) (sg ++ [z]) :=
    xm_Gshift hG hpos h15 R1 (fun j hj => ⟨xm_cpo (Or.inl hj), xm_cpo (Or.inl hj), xm_cpo (Or.inl hj)⟩) (fun i hi => ⟨xm_cpi hi, xm_cpi hi, xm_cpi hi⟩)
  have M := xm_Ms L f (sg.length + 1)
  have R3 : xm_R (xm_add L (sg.length + 1)) f (xm_cp FT (K1.length + 1) ((sg.length + 1) * 16) z.length) (xm_cp FE (K1.length + 1) ((sg.length + 1) * 16) z.length) (xm_cp FF (K1.length + 1) ((sg.length + 1) * 16) z.length) 0 (none :: K1) := by
    refine xm_Rm M _ (xm_Rc _ (fun i hi => ?_) R2)
    rw [List.length_cons] at hi
    have q : 0 + i < (sg.length + 1) * 16 := by omega
    exact ⟨xm_cpo (Or.inl q), xm_cpo (Or.inl q), xm_cpo (Or.inl q)⟩
  have H2 : xm_H (xm_add L (sg.length + 1)) f CV CN nm b ln := by
    intro x hx
    rcases hx with q | q
    · obtain ⟨a1, a2, a3⟩ := hH x q
      refine ⟨a1, a2, fun h9 => ?_⟩
      obtain ⟨b1, b2, ⟨d, b3, b4⟩, b5⟩ := a3 h9
      exact ⟨b1, b2, ⟨d, b3, xm_Em M b4⟩, xm_Vm M _ b5⟩
    · refine ⟨by omega, by omega, fun h9 => by omega⟩
  have U2 : xm_U (xm_add L (sg.length + 1)) CN ln fl := by
    refine ⟨hU.1, hU.2.1, fun x hx => ?_⟩
    obtain ⟨a1, a2, a3⟩ := hU.2.2 x hx
    refine ⟨a1, a2, fun q => ?_⟩
    rcases q with q | q
    · exact a3 q
    · omega
  have esub : nI (z ++ none :: K1).length - nI (K1.length + 1) = nI z.length := by
    rw [el, pk_sub (by omega)]
    exact congrArg nI (by omega)
  have emul : nI (sg.length + 1) * 16 = nI ((sg.length + 1) * 16) := pk_mul (sg.length + 1) 16
  refine nm_r esub ⟨vp_in_nI (by omega) (by decide), nm_r (e' := upd SZ (sg.length + 1) (nI z.length)) (by rw [nI_clamp (by omega)]) ?_⟩
  rw [emul]
  refine xw_copy (by omega) (by omega) (Or.inl (by omega)) ?_
  have ev : ((3 : Int32).toInt64 <<< ((32 : Int32).toInt64 &&& 63)) ||| ((nI (sg.length + 1)).toInt64 &&& 4294967295) = xm_vo 3 (nI (sg.length + 1)) := xv_vo (k := 3) (by decide) _
  unfold wpX_valueOf
  show wpX_giveName _ _ (((3 : Int32).toInt64 <<< ((32 : Int32).toInt64 &&& 63)) ||| ((nI (sg.length + 1)).toInt64 &&& 4294967295)) _
  rw [ev]
  refine xw_bind (y := y) (v := .inr (.inr sg.length)) (K := none :: K1) hb h8 hl R3 G2 H2 U2 ⟨rfl, Or.inr rfl⟩ (xm_Em M hc) (fun lc' uc' en' CV' CN' Q => nm_r (nI_1 p) ?_)
  exact h _ _ _ _ _ _ _ _ _ (Q (p + 1))
