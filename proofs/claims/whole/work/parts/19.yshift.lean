/-! the reference's shift and callTaken -/
variable {sz st so rs sh ca sf mo fr sp tp de bo pc sc ha vk va : Int32} {T PA PL SE AR KI VA OU TA NA NK NV NO : Nat → Int32}
theorem ys_ne {p : Nat} (h : p < 2 ^ 31) : ¬ nI p = -1 := by
  intro z
  have z' : nI p < 0 := by rw [z]; decide
  exact nI_pos h z'
theorem ys_lp {post : SY → Prop} {x1 : Int32} {r D : Nat} {k : List Nat} (hr : PL r = -1) (hr2 : r < 200) :
    ∀ (l : List Nat) (z : List pm_F) (lst : Nat), yn_S PL SE AR KI VA l z → (∀ f, f ∈ z → ∃ p s o, f = some (p, s, o) ∧ p < 32) → yn_L OU (l ++ r :: k) → (∀ x, x ∈ l → x < 200) →
      ((nI (yn_la lst l) = 0 → wY_shift_74 post x1 (nI (yn_la lst l)) (nI r) 0 sf sz st so rs sh ca sf mo fr sp tp (nI D) bo pc sc ha vk va T PA PL SE AR KI VA OU TA NA NK NV NO) ∧ (¬ nI (yn_la lst l) = 0 → wY_shift_74 post x1 (nI (yn_la lst l)) (nI r) tp sf sz st so rs sh ca sf mo fr sp tp (nI D) bo pc sc ha vk va T PA PL SE AR KI VA OU TA NA NK NV NO)) →
      wY_shift_22 post x1 sz st so rs sh ca sf mo fr sp tp bo pc sc ha vk va T PA PL SE AR KI VA OU TA NA NK NV NO (l.length + 1) (nI lst) (nI (yn_hd (l ++ r :: k))) (nI (D + l.length)) := by
  intro l
  induction l with
  | nil =>
    intro z lst _ _ _ _ h
    have E : PL (nI (yn_hd ([] ++ r :: k))).toNatClampNeg = -1 := by
      show PL (nI r).toNatClampNeg = -1
      rw [nI_clamp (by omega)]
      exact hr
    exact ⟨vp_in_nI hr2 (by decide), br_t E h⟩
  | cons x l ih =>
    intro z lst hS hz hL hb h
    rcases z with _ | ⟨f, z⟩
    · exact absurd hS (fun w => w)
    obtain ⟨p, s, o, e, hp⟩ := hz f (List.mem_cons_self ..)
    subst e
    have hx := hb x (List.mem_cons_self ..)
    have e1 : PL x = nI p := hS.1.1
    have E : ¬ PL (nI (yn_hd (x :: l ++ r :: k))).toNatClampNeg = -1 := by
      show ¬ PL (nI x).toNatClampNeg = -1
      rw [nI_clamp (by omega), e1]
      exact ys_ne (by omega)
    refine ⟨vp_in_nI hx (by decide), br_f E ⟨vp_in_nI hx (by decide), nm_r (e' := nI (yn_hd (l ++ r :: k))) ?_ (nm_r (e' := nI (D + l.length)) ?_ (ih z x hS.2 (fun g hg => hz g (List.mem_cons_of_mem _ hg)) hL.2 (fun y hy => hb y (List.mem_cons_of_mem _ hy)) h))⟩⟩
    · show OU (nI x).toNatClampNeg = _
      rw [nI_clamp (by omega)]; exact hL.1
    · rw [List.length_cons, ← Nat.add_assoc]; exact nI_pred _
theorem ys_fin {post : SY → Prop} {b p s x c : Nat} {x2 x3 z0 : Int32} (hb : b < 11000) (hc : c < 8) (hs : sc = nI s) (hp : pc = nI p) (hsf : sf = nI c) (hbo : bo = nI b)
    (h : ∀ OU', ((x2 = 0 ∧ OU' = OU) ∨ (¬ x2 = 0 ∧ vp_in x2 200 ∧ OU' = upd OU x2.toNatClampNeg 0)) → post (sz, st, so, rs, sh, ca, nI (c + 1), mo, fr, sp, x3, de, nI (b + 1), nI (p + 1), nI (b + 1), 0, vk, va, T, PA, PL, SE, AR, KI, VA, OU', upd TA c z0, upd NA (b + 1) (nI x), upd NK (b + 1) 3, upd NV (b + 1) (nI c), upd NO (b + 1) (nI s)))
    (hx : ¬ x2 = 0 → vp_in x2 200) : wY_shift_74 post (nI x) x2 x3 z0 sf sz st so rs sh ca sf mo fr sp tp de bo pc sc ha vk va T PA PL SE AR KI VA OU TA NA NK NV NO := by
  subst hs hp hsf hbo
  have F : ∀ OU', post (sz, st, so, rs, sh, ca, nI (c + 1), mo, fr, sp, x3, de, nI (b + 1), nI (p + 1), nI (b + 1), 0, vk, va, T, PA, PL, SE, AR, KI, VA, OU', upd TA c z0, upd NA (b + 1) (nI x), upd NK (b + 1) 3, upd NV (b + 1) (nI c), upd NO (b + 1) (nI s)) → wY_shift_86 post (nI x) x3 sz st so rs sh ca (nI c) mo fr sp tp de (nI b) (nI p) (nI s) ha vk va T PA PL SE AR KI VA OU' (upd TA c z0) NA NK NV NO := by
    intro OU' H
    unfold wY_shift_86
    refine yw_bind hb (nm_r (nI_1 c) ?_)
    show post _
    rw [nI_1]
    exact H
  refine ⟨vp_in_nI hc (by decide), nm_r (e' := upd TA c z0) (by rw [nI_clamp (by omega)]) (br_c (fun z => F OU (h OU (Or.inl ⟨z, rfl⟩))) (fun z => ⟨hx z, nm_e (F _ (h _ (Or.inr ⟨z, hx z, rfl⟩)))⟩))⟩
theorem yn_Qd {yz ys zl sp : List Nat} {fr x : Nat} (q : yn_Q (yz ++ ys) zl sp fr) (hx : x ∈ yz) : x ∉ ys ∧ x ∉ zl ∧ x ∉ sp ∧ 0 < x ∧ x < fr := by
  have h := q.1
  rw [List.append_assoc] at h
  have d := (List.nodup_append.mp h).2.2
  refine ⟨fun z => d x hx x (List.mem_append_left _ z) rfl, fun z => d x hx x (List.mem_append_right _ (List.mem_append_left _ z)) rfl, fun z => d x hx x (List.mem_append_right _ (List.mem_append_right _ z)) rfl, ?_⟩
  exact q.2.1 x (List.mem_append_left _ (List.mem_append_left _ hx))
theorem yw_shift {post : SY → Prop} {z K1 : List pm_F} {sg : List (List pm_F)} {b p s x : Nat} (P : yr_P (z ++ none :: K1) sg fr sp tp PL SE AR KI VA OU TA) (hz : ∀ f, f ∈ z → ∃ p s o, f = some (p, s, o) ∧ p < 32) (hc : sg.length < 8) (hb : b < 11000)
    (h : ∀ tp' OU' TA', yr_P (none :: K1) (sg ++ [z]) fr sp tp' PL SE AR KI VA OU' TA' → post (sz, st, so, rs, sh, ca, nI (sg.length + 1), mo, fr, sp, tp', nI (K1.length + 1), nI (b + 1), nI (p + 1), nI (b + 1), 0, vk, va, T, PA, PL, SE, AR, KI, VA, OU', TA', upd NA (b + 1) (nI x), upd NK (b + 1) 3, upd NV (b + 1) (nI sg.length), upd NO (b + 1) (nI s))) :
    wpY_shift post (sz, st, so, rs, sh, ca, nI sg.length, mo, fr, sp, tp, nI (z ++ none :: K1).length, nI b, nI p, nI s, ha, vk, va, T, PA, PL, SE, AR, KI, VA, OU, TA, NA, NK, NV, NO) (nI x) := by
  obtain ⟨ys, zs, ss, fn, h1, h2, h3, h4, h5, h6, h7, h8, h9⟩ := P
  obtain ⟨yz, l2, e, S1, S2⟩ := yn_Sx z ys _ h2
  rcases l2 with _ | ⟨r, k⟩
  · exact absurd S2 (fun w => w)
  subst e h7 h8 h9
  have hl := yn_Sl _ _ S1
  have hr : PL r = -1 := S2.1
  have hb2 : ∀ y, y ∈ yz ++ r :: k → 0 < y ∧ y < 200 := by
    intro y hy
    have := h5.2.1 y (List.mem_append_left _ hy)
    omega
  have hr2 := hb2 r (List.mem_append_right _ (List.mem_cons_self ..))
  have q4 := yn_Q4 h5
  have ef : (zs ++ [yz]).flatten = zs.flatten ++ yz := by simp
  rw [← ef] at q4
  refine pk_eq sg.length 8 (fun w => by omega) (fun _ => ⟨yz.length + 1, ?_⟩)
  have ed : (z ++ none :: K1).length = (K1.length + 1) + yz.length := by rw [List.length_append, List.length_cons]; omega
  rw [ed]
  have e0 : (0 : Int32) = nI 0 := nI_0.symm
  rw [e0]
  refine ys_lp hr hr2.2 yz z 0 S1 hz h1 (fun y hy => (hb2 y (List.mem_append_left _ hy)).2) ?_
  rcases yz with _ | ⟨y, yl⟩
  · refine br_t nI_0 (ys_fin hb hc rfl rfl rfl rfl (fun OU' ho => h _ _ _ ?_) (fun w => absurd nI_0 w))
    rcases ho with ⟨_, ho⟩ | ⟨ho, _⟩
    · subst ho
      exact ⟨r :: k, zs ++ [[]], ss, fn, h1, S2, h3, yn_Zadd (l := []) h4 True.intro S1, q4, h6, rfl, rfl, rfl⟩
    · exact absurd nI_0 ho
  · have hm := yn_lam yl y
    have hla : yn_la 0 (y :: yl) = yn_la y yl := rfl
    rw [hla]
    have D := yn_Qd h5 hm
    have hlt := hb2 _ (List.mem_append_left (r :: k) hm)
    have hne : ¬ nI (yn_la y yl) = 0 := nI_ne0 hlt.1 (by omega)
    have hyn : (y :: yl).Nodup := (List.nodup_append.mp (yn_Qy h5)).1
    have L1 := yn_Lcut (r :: k) yl y hyn h1
    have L2 : yn_L (upd OU (yn_la y yl) 0) (r :: k) := yn_Lc _ (fun w hw => yn_un (fun e : w = yn_la y yl => D.1 (e ▸ hw))) (yn_La (y :: yl) _ h1)
    have L3 : yn_L (upd OU (yn_la y yl) 0) ss := yn_Lc _ (fun w hw => yn_un (fun e : w = yn_la y yl => D.2.2.1 (e ▸ hw))) h3
    have Z3 : yn_Z (upd OU (yn_la y yl) 0) PL SE AR KI VA TA zs sg := yn_Zc (fun w hw => ⟨yn_un (fun e : w = yn_la y yl => D.2.1 (e ▸ hw)), rfl, rfl, rfl, rfl, rfl⟩) h4
    refine br_f hne (ys_fin hb hc rfl rfl rfl rfl (fun OU' ho => h _ _ _ ?_) (fun w => vp_in_nI hlt.2 (by decide)))
    rcases ho with ⟨ho, _⟩ | ⟨_, _, ho⟩
    · exact absurd ho hne
    · rw [nI_clamp (by omega)] at ho
      subst ho
      exact ⟨r :: k, zs ++ [y :: yl], ss, fn, L2, S2, L3, yn_Zadd Z3 L1 S1, q4, h6, rfl, rfl, rfl⟩
