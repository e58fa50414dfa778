/-! the reference's small methods: node, push, pop, bind, find -/
variable {sz st so rs sh ca sf mo fr sp tp de bo pc sc ha vk va : Int32} {T PA PL SE AR KI VA OU TA NA NK NV NO : Nat → Int32}
theorem yw_node {post : Int32 → SY → Prop} {ys zl ss : List Nat} {fn : Nat} {p0 p1 : Int32} (q : yn_Q ys zl ss fn) (hL : yn_L OU ss) (h200 : fn ≤ 200) (hz : ss = [] → fn < 200)
    (h : ∀ x ss' fn', yn_Q (x :: ys) zl ss' fn' → yn_L OU ss' → fn' ≤ 200 → x < 200 → post (nI x) (sz, st, so, rs, sh, ca, sf, mo, nI fn', nI (yn_hd ss'), tp, de, bo, pc, sc, ha, vk, va, T, PA, upd PL x p0, upd SE x 0, upd AR x p1, KI, VA, OU, TA, NA, NK, NV, NO)) : wpY_node post (sz, st, so, rs, sh, ca, sf, mo, nI fn, nI (yn_hd ss), tp, de, bo, pc, sc, ha, vk, va, T, PA, PL, SE, AR, KI, VA, OU, TA, NA, NK, NV, NO) p0 p1 := by
  rcases ss with _ | ⟨x, ss⟩
  · have q' := yn_Q2 q
    have hf := hz rfl
    have H := h fn [] (fn + 1) q' True.intro (by omega) hf
    refine br_t nI_0 (nm_r (nI_1 fn) ⟨vp_in_nI hf (by decide), nm_r (e' := upd PL fn p0) (by rw [nI_clamp (by omega)]) ⟨vp_in_nI hf (by decide), nm_r (e' := upd SE fn 0) (by rw [nI_clamp (by omega)]; rfl) ⟨vp_in_nI hf (by decide), nm_r (e' := upd AR fn p1) (by rw [nI_clamp (by omega)]) H⟩⟩⟩)
  · have q' := yn_Q1 q
    have n := yn_Qn q'
    have hf : x < 200 := by omega
    have H := h x ss fn q' hL.2 h200 hf
    have e : yn_hd (x :: ss) = x := rfl
    rw [e]
    refine br_f (nI_ne0 (by omega) (by omega)) ⟨vp_in_nI hf (by decide), nm_r (e' := nI (yn_hd ss)) (by rw [nI_clamp (by omega)]; exact hL.1) ⟨vp_in_nI hf (by decide), nm_r (e' := upd PL x p0) (by rw [nI_clamp (by omega)]) ⟨vp_in_nI hf (by decide), nm_r (e' := upd SE x 0) (by rw [nI_clamp (by omega)]; rfl) ⟨vp_in_nI hf (by decide), nm_r (e' := upd AR x p1) (by rw [nI_clamp (by omega)]) H⟩⟩⟩⟩
/-- the lengths that bound the pool -/
def yr_B (sg : List (List pm_F)) : Prop := sg.length ≤ 8 ∧ ∀ z, z ∈ sg → z.length ≤ 15
theorem yr_Bf {ys zl ss : List Nat} {fn : Nat} (q : yn_Q ys zl ss fn) (h1 : ys.length ≤ 16) (h2 : zl.length ≤ 120) : ss = [] → fn < 200 := by
  intro e
  have := q.2.2
  rw [e] at this
  simp only [List.length_nil] at this
  omega
def yr_Fr (p0 s0 : Int32) : pm_F → Prop
  | none => p0 = -1
  | some (p, s, o) => p0 = nI p ∧ s0 = nI s ∧ o = none
theorem yw_push {post : SY → Prop} {K : List pm_F} {sg : List (List pm_F)} {f : pm_F} {p0 : Int32} {m : Nat} (P : yr_P K sg fr sp tp PL SE AR KI VA OU TA) (B : yr_B sg) (hK : K.length < 16) (hm : m ≤ 16) (hf : yr_Fr p0 sc f)
    (h : ∀ fr' sp' tp' PL' SE' AR' OU', yr_P (f :: K) sg fr' sp' tp' PL' SE' AR' KI VA OU' TA → post (sz, st, so, rs, sh, ca, sf, nI (max m (K.length + 1)), fr', sp', tp', nI (K.length + 1), bo, pc, sc, ha, vk, va, T, PA, PL', SE', AR', KI, VA, OU', TA, NA, NK, NV, NO)) :
    wpY_push post (sz, st, so, rs, sh, ca, sf, nI m, fr, sp, tp, nI K.length, bo, pc, sc, ha, vk, va, T, PA, PL, SE, AR, KI, VA, OU, TA, NA, NK, NV, NO) p0 := by
  obtain ⟨ys, zs, ss, fn, h1, h2, h3, h4, h5, h6, h7, h8, h9⟩ := P
  subst h7 h8 h9
  have hl := yn_Sl _ _ h2
  refine pk_lt K.length 16 (fun _ => ?_) (fun z => by omega)
  refine yw_node h5 h3 h6 (yr_Bf h5 (by omega) (yn_Zl h4 B.2 B.1)) (fun x ss' fn' q' hL' h200 hx => ?_)
  have N := yn_Qn q'
  have H := h (nI fn') (nI (yn_hd ss')) (nI x) (upd PL x p0) (upd SE x 0) (upd AR x sc) (upd OU x (nI (yn_hd ys))) ⟨x :: ys, zs, ss', fn', ?_, ?_, ?_, ?_, q', h200, rfl, rfl, rfl⟩
  · refine ⟨vp_in_nI hx (by decide), nm_r (e' := upd OU x (nI (yn_hd ys))) (by rw [nI_clamp (by omega)]) (nm_r (nI_1 K.length) (pk_le (K.length + 1) m (fun z => ?_) (fun z => ?_)))⟩
    · rw [Nat.max_eq_left z] at H; exact H
    · rw [Nat.max_eq_right (by omega)] at H; exact H
  · exact ⟨yn_us, yn_Lc ys (fun y hy => yn_un (fun e : y = x => N.1 (e ▸ hy))) h1⟩
  · refine ⟨?_, yn_Sc ys K (fun y hy => ?_) h2⟩
    · rcases f with _ | ⟨p, s, o⟩
      · exact (yn_us).trans hf
      · obtain ⟨g1, g2, g3⟩ := hf
        rw [g3]
        exact ⟨(yn_us).trans g1, (yn_us).trans g2, yn_us⟩
    · have e : y ≠ x := fun e => N.1 (e ▸ hy)
      exact ⟨yn_un e, yn_un e, yn_un e, rfl, rfl⟩
  · exact yn_Lc ss' (fun y hy => yn_un (fun e : y = x => N.2.2.1 (e ▸ hy))) hL'
  · refine yn_Zc (fun y hy => ?_) h4
    have e : y ≠ x := fun e => N.2.1 (e ▸ hy)
    exact ⟨yn_un e, yn_un e, yn_un e, yn_un e, rfl, rfl⟩
theorem yr_top {K : List pm_F} {sg : List (List pm_F)} {f : pm_F} (P : yr_P (f :: K) sg fr sp tp PL SE AR KI VA OU TA) : ∃ x, tp = nI x ∧ 0 < x ∧ x < 200 ∧ yn_F PL SE AR KI VA x f := by
  obtain ⟨ys, zs, ss, fn, h1, h2, h3, h4, h5, h6, h7, h8, h9⟩ := P
  rcases ys with _ | ⟨x, ys⟩
  · exact absurd h2 (fun z => z)
  · have N := yn_Qn h5
    exact ⟨x, h7, N.2.2.2.1, by omega, h2.1⟩
theorem yw_pop {post : SY → Prop} {K : List pm_F} {sg : List (List pm_F)} {f : pm_F} (P : yr_P (f :: K) sg fr sp tp PL SE AR KI VA OU TA)
    (h : ∀ sp' tp' OU', yr_P K sg fr sp' tp' PL SE AR KI VA OU' TA → post (sz, st, so, rs, sh, ca, sf, mo, fr, sp', tp', nI K.length, bo, pc, sc, ha, vk, va, T, PA, PL, SE, AR, KI, VA, OU', TA, NA, NK, NV, NO)) : wpY_pop post (sz, st, so, rs, sh, ca, sf, mo, fr, sp, tp, nI (K.length + 1), bo, pc, sc, ha, vk, va, T, PA, PL, SE, AR, KI, VA, OU, TA, NA, NK, NV, NO) := by
  obtain ⟨ys, zs, ss, fn, h1, h2, h3, h4, h5, h6, h7, h8, h9⟩ := P
  rcases ys with _ | ⟨x, ys⟩
  · exact absurd h2 (fun z => z)
  subst h8 h9
  have h7' : tp = nI x := h7
  subst h7'
  have N := yn_Qn h5
  have hx : x < 200 := by omega
  refine ⟨vp_in_nI hx (by decide), nm_r (e' := nI (yn_hd ys)) (by rw [nI_clamp (by omega)]; exact h1.1) (nm_r (nI_pred K.length) ⟨vp_in_nI hx (by decide), nm_r (e' := upd OU x (nI (yn_hd ss))) (by rw [nI_clamp (by omega)]) (h _ _ _ ?_)⟩)⟩
  refine ⟨ys, zs, x :: ss, fn, ?_, h2.2, ?_, ?_, yn_Q3 h5, h6, rfl, rfl, rfl⟩
  · exact yn_Lc ys (fun y hy => yn_un (fun e : y = x => N.1 (e ▸ hy))) h1.2
  · exact ⟨yn_us, yn_Lc ss (fun y hy => yn_un (fun e : y = x => N.2.2.1 (e ▸ hy))) h3⟩
  · refine yn_Zc (fun y hy => ?_) h4
    have e : y ≠ x := fun e => N.2.1 (e ▸ hy)
    exact ⟨yn_un e, rfl, rfl, rfl, rfl, rfl⟩
theorem yw_bind {post : SY → Prop} {b : Nat} {p0 p1 p2 p3 : Int32} (hb : b < 11000) (h : post (sz, st, so, rs, sh, ca, sf, mo, fr, sp, tp, de, nI (b + 1), pc, nI (b + 1), ha, vk, va, T, PA, PL, SE, AR, KI, VA, OU, TA, upd NA (b + 1) p0, upd NK (b + 1) p2, upd NV (b + 1) p3, upd NO (b + 1) p1)) : wpY_bind post (sz, st, so, rs, sh, ca, sf, mo, fr, sp, tp, de, nI b, pc, sc, ha, vk, va, T, PA, PL, SE, AR, KI, VA, OU, TA, NA, NK, NV, NO) p0 p1 p2 p3 := by
  have e : (nI (b + 1)).toNatClampNeg = b + 1 := nI_clamp (by omega)
  have v : vp_in (nI (b + 1)) 12000 := vp_in_nI (by omega) (by decide)
  exact nm_r (nI_1 b) ⟨v, nm_r (e' := upd NA (b + 1) p0) (by rw [e]) ⟨v, nm_r (e' := upd NK (b + 1) p2) (by rw [e]) ⟨v, nm_r (e' := upd NV (b + 1) p3) (by rw [e]) ⟨v, nm_r (e' := upd NO (b + 1) p1) (by rw [e]) h⟩⟩⟩⟩
theorem yw_flp {post : SY → Prop} {nm : pm_N} {b x : Nat} (hb : b < 11000) (hx : x < 10) (hN : yn_N NA NK NV NO nm b) :
    ∀ (l : List Nat) (s : Nat), pm_Ch nm b l s → (∀ y, y ∈ l → y < 10) → (pm_look nm l x s = none → post (sz, 2, so, rs, sh, ca, sf, mo, fr, sp, tp, de, bo, pc, sc, ha, vk, va, T, PA, PL, SE, AR, KI, VA, OU, TA, NA, NK, NV, NO)) → (∀ v k a, pm_look nm l x s = some v → yn_V k a v → post (sz, st, so, rs, sh, ca, sf, mo, fr, sp, tp, de, bo, pc, sc, 1, k, a, T, PA, PL, SE, AR, KI, VA, OU, TA, NA, NK, NV, NO)) → wY_find_5 post (nI x) sz st so rs sh ca sf mo fr sp tp de bo pc sc ha vk va T PA PL SE AR KI VA OU TA NA NK NV NO (l.length + 1) (nI s) := by
  intro l
  induction l with
  | nil =>
    intro s hs _ h0 _
    have e : s = 0 := hs
    rw [e]
    exact br_t nI_0 (br_t nI_0 (h0 rfl))
  | cons y l ih =>
    intro s hs hl h0 h1
    obtain ⟨g1, g2, g3, g4⟩ := hs
    obtain ⟨n1, n2, n3⟩ := hN s g1 g2
    have hy := hl y (List.mem_cons_self ..)
    have v : vp_in (nI s) 12000 := vp_in_nI (by omega) (by decide)
    rw [pm_look] at h0 h1
    have hne : ¬ nI s = 0 := nI_ne0 g1 (by omega)
    refine br_f hne ⟨v, ?_⟩
    rw [nI_clamp (by omega), n1, g3]
    refine pk_eq y x (fun c => ?_) (fun c => ⟨v, nm_r n3 (ih _ g4 (fun z hz => hl z (List.mem_cons_of_mem _ hz)) ?_ ?_)⟩)
    · rw [if_pos c] at h1
      refine br_f hne ⟨v, v, ?_⟩
      rw [nI_clamp (by omega)]
      exact h1 _ _ _ rfl n2
    · rw [if_neg c] at h0; exact h0
    · rw [if_neg c] at h1; exact h1
