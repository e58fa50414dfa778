/-! the collector: reach, reachValue, reachFrames -/
variable {tc pe lc uc tk rc pc en : Int32} {va : Int64} {oc cc sc dp ed : Int32} {T ES HP FT FE : Nat → Int32} {FF : Nat → Int64} {SZ : Nat → Int32} {CV : Nat → Int64} {CN MK RE OU : Nat → Int32}
/-- the marks have grown -/
def xc_G (L : Nat → Prop) (ln : Nat) (MK RE : Nat → Int32) (r : Nat) (MK' RE' : Nat → Int32) (r' : Nat) : Prop :=
  xm_K L MK' RE' ln r' ∧ (∀ y, xm_mk MK ln y → xm_mk MK' ln y) ∧ (∀ k, k < r → RE' k = RE k) ∧ r ≤ r'
theorem xc_r {L : Nat → Prop} {ln r : Nat} (K : xm_K L MK RE ln r) : xc_G L ln MK RE r MK RE r := ⟨K, fun _ h => h, fun _ _ => rfl, Nat.le_refl _⟩
theorem xc_t {L : Nat → Prop} {ln r r' r'' : Nat} {MK' RE' MK'' RE'' : Nat → Int32} (a : xc_G L ln MK RE r MK' RE' r') (b : xc_G L ln MK' RE' r' MK'' RE'' r'') : xc_G L ln MK RE r MK'' RE'' r'' :=
  ⟨b.1, fun y h => b.2.1 y (a.2.1 y h), fun k h => by rw [b.2.2.1 k (by have := a.2.2.2; omega)]; exact a.2.2.1 k h, by have := a.2.2.2; have := b.2.2.2; omega⟩
theorem xc_M {L : Nat → Prop} {f : Nat → Nat} {ln r r' : Nat} {MK' RE' : Nat → Int32} (a : xc_G L ln MK RE r MK' RE' r') : xm_M (xm_mk MK ln) f (xm_mk MK' ln) f := fun x h => ⟨a.2.1 x h, rfl⟩
theorem xw_reach {post : SX → Prop} {L : Nat → Prop} {ln r x : Nat} (hl : ln < 9000) (K : xm_K L MK RE ln r) (hx : x = 0 ∨ L x ∧ x ≤ ln)
    (h : ∀ MK' RE' r', xc_G L ln MK RE r MK' RE' r' → (x = 0 ∨ xm_mk MK' ln x) → post (tc, pe, lc, uc, tk, nI r', pc, en, va, oc, cc, sc, dp, ed, T, ES, HP, FT, FE, FF, SZ, CV, CN, MK', RE', OU)) : wpX_reach post (tc, pe, lc, uc, tk, nI r, pc, en, va, oc, cc, sc, dp, ed, T, ES, HP, FT, FE, FF, SZ, CV, CN, MK, RE, OU) (nI x) := by
  have hr := xm_Krc K
  rcases hx with e | ⟨hL, hxl⟩
  · rw [e] at h ⊢
    exact br_t nI_0 (h _ _ _ (xc_r K) (Or.inl rfl))
  · have cx : (nI x).toNatClampNeg = x := nI_clamp (by omega)
    have vx : vp_in (nI x) 9000 := vp_in_nI (by omega) (by decide)
    refine br_c (fun z => ?_) (fun z => ⟨vx, ?_⟩)
    · have e : x = 0 := by
        have z' : nI x = nI 0 := z.trans nI_0.symm
        rw [nI_eq (by omega) (by omega)] at z'
        exact z'
      exact h _ _ _ (xc_r K) (Or.inl e)
    · rw [cx]
      refine br_c (fun m0 => ⟨vx, nm_r (e' := upd MK x 1) rfl ?_⟩) (fun m0 => ?_)
      · have hm : ¬ MK x = 1 := by rw [m0]; decide
        obtain ⟨k1, k2⟩ := xm_Kadd K hL hxl hm
        refine ⟨vp_in_nI (by omega) (by decide), nm_r (e' := upd RE r (nI x)) (by rw [nI_clamp (by omega)]) (nm_r (nI_1 r) (h _ _ _ ⟨k2, fun y hy => ⟨hy.1, ?_⟩, fun k hk => pk_un (by omega), by omega⟩ (Or.inr ⟨hxl, pk_us⟩)))⟩
        by_cases c : y = x
        · rw [c, pk_us]
        · rw [pk_un c]; exact hy.2
      · refine h _ _ _ (xc_r K) (Or.inr ⟨hxl, ?_⟩)
        rcases K.1 x hxl with q | q
        · exact absurd q m0
        · exact q
theorem xc_E0 {L : Nat → Prop} {f : Nat → Nat} {ln c s : Nat} (hL : ∀ y, L y → 0 < y ∧ y ≤ ln) (h : xm_E L f c s) : c = 0 ∨ L c ∧ c ≤ ln := by
  rcases h with h | h
  · exact Or.inl h.1
  · exact Or.inr ⟨h.2.2.1, (hL c h.2.2.1).2⟩
theorem xc_E1 {L : Nat → Prop} {f : Nat → Nat} {ln c s : Nat} (h : xm_E L f c s) (m : c = 0 ∨ xm_mk MK ln c) : xm_E (xm_mk MK ln) f c s := by
  rcases h with h | ⟨h1, h2, h3, h4⟩
  · exact Or.inl h
  · rcases m with m | m
    · omega
    · exact Or.inr ⟨h1, h2, m, h4⟩
theorem xw_rval {post : SX → Prop} {L : Nat → Prop} {f : Nat → Nat} {ln r : Nat} {l : Int64} {o : Option pm_V} (hl : ln < 9000) (K : xm_K L MK RE ln r) (hL : ∀ y, L y → 0 < y ∧ y ≤ ln) (hp : ∀ s p, o = some (.inr (.inl (s, p))) → p < 32) (ho : xm_O L f l o)
    (h : ∀ MK' RE' r', xc_G L ln MK RE r MK' RE' r' → xm_O (xm_mk MK' ln) f l o → post (tc, pe, lc, uc, tk, nI r', pc, en, va, oc, cc, sc, dp, ed, T, ES, HP, FT, FE, FF, SZ, CV, CN, MK', RE', OU)) : wpX_reachValue post (tc, pe, lc, uc, tk, nI r, pc, en, va, oc, cc, sc, dp, ed, T, ES, HP, FT, FE, FF, SZ, CV, CN, MK, RE, OU) l := by
  unfold wpX_reachValue
  rcases o with _ | a | ⟨s, p⟩ | j
  · have e : l = 0 := ho
    subst e
    unfold wpX_kindOf
    show ((_ : Int32) = 2 → _) ∧ _
    rw [xv_k0]
    exact br_f (by decide) (br_f (by decide) (h _ _ _ (xc_r K) rfl))
  · have e : l = xm_vo 1 a := ho
    subst e
    exact xw_kind (by decide) (br_f (by decide) (br_f (by decide) (h _ _ _ (xc_r K) rfl)))
  · obtain ⟨c, e, hc⟩ := ho
    subst e
    have hp' := hp s p rfl
    have hc9 := xm_E9 hc
    refine xw_kind (by decide) (br_t rfl ⟨by decide, ?_⟩)
    rw [xv_ct]
    have e1 : nI (p * 9000 + c) - nI (p * 9000 + c) / 9000 * 9000 = nI c := by
      rw [show (9000 : Int32) = nI 9000 from rfl, pk_rem (by omega) (by omega) (by omega)]
      exact congrArg nI (by omega)
    rw [e1]
    exact xw_reach hl K (xc_E0 hL hc) (fun MK' RE' r' g m => h _ _ _ g ⟨c, rfl, xc_E1 hc m⟩)
  · obtain ⟨e, hj⟩ := ho
    subst e
    refine xw_kind (by decide) (br_f (by decide) (br_t rfl ?_))
    rw [xv_ct]
    refine xw_reach hl K (Or.inr ⟨hj, (hL _ hj).2⟩) (fun MK' RE' r' g m => h _ _ _ g ⟨rfl, ?_⟩)
    rcases m with m | m
    · omega
    · exact m
/-- places of functions in frames are small -/
def xc_p : pm_F → Prop
  | some (_, _, some (.inr (.inl (_, p)))) => p < 32
  | _ => True
theorem xc_pp {p0 s0 : Nat} {o : Option pm_V} (h : xc_p (some (p0, s0, o))) : ∀ s p, o = some (.inr (.inl (s, p))) → p < 32 := by
  intro s p e
  subst e
  exact h
theorem xw_rlp {post : SX → Prop} {L : Nat → Prop} {f : Nat → Nat} {ln o w : Nat} (hl : ln < 9000) (hL : ∀ y, L y → 0 < y ∧ y ≤ ln) (ho : o + w ≤ 144) :
    ∀ (K : List pm_F) (N r : Nat) (MK RE : Nat → Int32), K.length ≤ w → xm_R L f FT FE FF o K → (∀ g, g ∈ K → xc_p g) → xm_K L MK RE ln r →
      (∀ MK' RE' r', xc_G L ln MK RE r MK' RE' r' → xm_R (xm_mk MK' ln) f FT FE FF o K → wX_reachFrames_2 post (nI o) (nI w) N (nI (o + K.length)) tc pe lc uc tk (nI r') pc en va oc cc sc dp ed T ES HP FT FE FF SZ CV CN MK' RE' OU) →
      wX_reachFrames_2 post (nI o) (nI w) (N + K.length) (nI o) tc pe lc uc tk (nI r) pc en va oc cc sc dp ed T ES HP FT FE FF SZ CV CN MK RE OU := by
  intro K
  induction K with
  | nil => intro N r MK RE _ _ _ hK h; exact h _ _ _ (xc_r hK) True.intro
  | cons g K ih =>
    intro N r MK RE hw hR hg hK h
    rw [List.length_cons] at hw
    have e : N + (g :: K).length = (N + 1) + K.length := by rw [List.length_cons]; omega
    rw [e]
    refine ih (N + 1) r MK RE (by omega) hR.2 (fun g' hg' => hg g' (List.mem_cons_of_mem _ hg')) hK (fun MK1 RE1 r1 G1 R1 => ?_)
    have v : vp_in (nI (o + K.length)) 144 := vp_in_nI (by omega) (by decide)
    have c : (nI (o + K.length)).toNatClampNeg = o + K.length := nI_clamp (by omega)
    have hF := hR.1
    refine pk_le (o + w) (o + K.length) (fun z => by omega) (fun _ => ⟨v, ?_⟩) (nI_add o w)
    rw [c]
    rcases g with _ | ⟨p, s, q⟩
    · obtain ⟨f1, f2, f3⟩ := hF
      rw [f2]
      refine xw_reach (x := 0) hl G1.1 (Or.inl rfl) (fun MK2 RE2 r2 G2 _ => ⟨v, ?_⟩)
      refine xw_rval (o := none) (f := f) hl G2.1 hL (fun s p e => by simp at e) f3 (fun MK3 RE3 r3 G3 _ => nm_r (nI_1 _) ?_)
      exact h _ _ _ (xc_t G1 (xc_t G2 G3)) ⟨⟨f1, f2, f3⟩, xm_Rm (xc_M (xc_t G2 G3)) K R1⟩
    · obtain ⟨f1, ⟨d, f2, f4⟩, f3⟩ := hF
      rw [f2]
      refine xw_reach hl G1.1 (xc_E0 hL f4) (fun MK2 RE2 r2 G2 m => ⟨v, ?_⟩)
      refine xw_rval (o := q) (f := f) hl G2.1 hL (xc_pp (hg _ (List.mem_cons_self ..))) f3 (fun MK3 RE3 r3 G3 m3 => nm_r (nI_1 _) ?_)
      exact h _ _ _ (xc_t G1 (xc_t G2 G3)) ⟨⟨f1, ⟨d, f2, xm_Em (xc_M G3) (xc_E1 f4 m)⟩, m3⟩, xm_Rm (xc_M (xc_t G2 G3)) K R1⟩
theorem xw_rfr {post : SX → Prop} {L : Nat → Prop} {f : Nat → Nat} {ln o r : Nat} {K : List pm_F} (hl : ln < 9000) (hL : ∀ y, L y → 0 < y ∧ y ≤ ln) (ho : o + K.length ≤ 144) (hR : xm_R L f FT FE FF o K) (hg : ∀ g, g ∈ K → xc_p g) (hK : xm_K L MK RE ln r)
    (h : ∀ MK' RE' r', xc_G L ln MK RE r MK' RE' r' → xm_R (xm_mk MK' ln) f FT FE FF o K → post (tc, pe, lc, uc, tk, nI r', pc, en, va, oc, cc, sc, dp, ed, T, ES, HP, FT, FE, FF, SZ, CV, CN, MK', RE', OU)) : wpX_reachFrames post (tc, pe, lc, uc, tk, nI r, pc, en, va, oc, cc, sc, dp, ed, T, ES, HP, FT, FE, FF, SZ, CV, CN, MK, RE, OU) (nI o) (nI K.length) := by
  refine ⟨1 + K.length, xw_rlp hl hL ho K 1 r MK RE (Nat.le_refl _) hR hg hK (fun MK' RE' r' G R => ?_)⟩
  exact pk_le (o + K.length) (o + K.length) (fun _ => h _ _ _ G R) (fun z => by omega) (nI_add _ _)
