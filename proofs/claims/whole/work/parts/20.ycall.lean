/-! the reference's callTaken -/
variable {sz st so rs sh ca sf mo fr sp tp de bo pc sc ha vk va : Int32} {T PA PL SE AR KI VA OU TA NA NK NV NO : Nat → Int32}
theorem yc_cnt {post : SY → Prop} {x1 : Int32} :
    ∀ (l : List Nat) (a : Nat), yn_L OU l → (∀ x, x ∈ l → 0 < x ∧ x < 200) →
      (((((de + 1) + nI (a + l.length)) ≤ 16 → (wpY_push (fun u => match u with | (sz, st, so, rs, sh, ca, sf, mo, fr, sp, tp, de, bo, pc, sc, ha, vk, va, T, PA, PL, SE, AR, KI, VA, OU, TA, NA, NK, NV, NO) => (vp_in x1 8 ∧ (∀ x5 : Int32, x5 = TA x1.toNatClampNeg → (∃ n66 : Nat, wY_callTaken_66 post (nI (a + l.length)) tp n66 0 x5 sz st so rs sh ca sf mo fr sp tp de bo pc sc ha vk va T PA PL SE AR KI VA OU TA NA NK NV NO)))) (sz, st, so, rs, sh, ca, sf, mo, fr, sp, tp, de, bo, pc, sc, ha, vk, va, T, PA, PL, SE, AR, KI, VA, OU, TA, NA, NK, NV, NO) (-1))) ∧ (¬ ((de + 1) + nI (a + l.length)) ≤ 16 → (post (sz, 4, so, rs, sh, ca, sf, mo, fr, sp, tp, de, bo, pc, sc, ha, vk, va, T, PA, PL, SE, AR, KI, VA, OU, TA, NA, NK, NV, NO))))) →
      wY_callTaken_9 post x1 sz st so rs sh ca sf mo fr sp tp de bo pc sc ha vk va T PA PL SE AR KI VA OU TA NA NK NV NO (l.length + 1) (nI a) (nI (yn_hd l)) := by
  intro l
  induction l with
  | nil => intro a _ _ h; exact br_t nI_0 h
  | cons x l ih =>
    intro a hL hb h
    have hx := hb x (List.mem_cons_self ..)
    have E : ¬ nI (yn_hd (x :: l)) = 0 := nI_ne0 hx.1 (by show x < _; omega)
    refine br_f E (nm_r (nI_1 a) ⟨vp_in_nI hx.2 (by decide), nm_r (e' := nI (yn_hd l)) ?_ (ih (a + 1) hL.2 (fun y hy => hb y (List.mem_cons_of_mem _ hy)) ?_)⟩)
    · show OU (nI x).toNatClampNeg = _
      rw [nI_clamp (by omega)]; exact hL.1
    · rw [List.length_cons, show a + (l.length + 1) = a + 1 + l.length by omega] at h
      exact h
theorem yc_bo {se : Int32} (h : se = 0 ∨ se = 1) : vp_nar .boolean se = se := by
  rcases h with h | h <;> rw [h] <;> rfl
/-- one node is copied -/
theorem yc_one {ys1 cs ss : List Nat} {zs : List (List Nat)} {sg : List (List pm_F)} {K1 zc : List pm_F} {fn x y : Nat} {f : pm_F} {l : List Nat} {z : List pm_F}
    (q : yn_Q (y :: (cs ++ ys1)) zs.flatten ss fn) (hL : yn_L OU (cs ++ ys1)) (hS : yn_S PL SE AR KI VA (cs ++ ys1) (zc ++ K1)) (hss : yn_L OU ss) (hZ : yn_Z OU PL SE AR KI VA TA zs sg)
    (hx : ∀ w, w ∈ x :: l → w ∈ zs.flatten) (hl : yn_L OU (x :: l)) (hf : yn_S PL SE AR KI VA (x :: l) (f :: z)) (hfs : f.isSome = true) (hlen : cs.length = zc.length) :
    ∀ OU', ((cs = [] ∧ OU' = upd OU y (nI (yn_hd ys1))) ∨ (cs ≠ [] ∧ OU' = upd (upd OU y (nI (yn_hd ys1))) (yn_la 0 cs) (nI y))) →
      yn_Q ((cs ++ [y]) ++ ys1) zs.flatten ss fn ∧ yn_L OU' ((cs ++ [y]) ++ ys1) ∧ yn_S (upd PL y (PL x)) (upd SE y (SE x)) (upd AR y (AR x)) (upd KI y (KI x)) (upd VA y (VA x)) ((cs ++ [y]) ++ ys1) ((zc ++ [f]) ++ K1) ∧ yn_L OU' ss ∧
      yn_Z OU' (upd PL y (PL x)) (upd SE y (SE x)) (upd AR y (AR x)) (upd KI y (KI x)) (upd VA y (VA x)) TA zs sg ∧ yn_L OU' l ∧ yn_S (upd PL y (PL x)) (upd SE y (SE x)) (upd AR y (AR x)) (upd KI y (KI x)) (upd VA y (VA x)) l z := by
  intro OU' ho
  have N := yn_Qn q
  have q5 := yn_Q5 q
  have hn : (cs ++ ys1).Nodup := (List.nodup_cons.mp (yn_Qy q)).2
  have ea : (cs ++ [y]) ++ ys1 = cs ++ y :: ys1 := by rw [List.append_assoc]; rfl
  have ek : (zc ++ [f]) ++ K1 = zc ++ f :: K1 := by rw [List.append_assoc]; rfl
  rw [ea, ek]
  have hla : cs ≠ [] → yn_la 0 cs ∈ cs := by
    intro h
    rcases cs with _ | ⟨c, cs⟩
    · exact absurd rfl h
    · exact yn_lam cs c
  have hout : ∀ w, w ∉ cs → w ≠ y → OU' w = OU w := by
    intro w hw hwy
    rcases ho with ⟨_, e⟩ | ⟨hc, e⟩
    · rw [e, yn_un hwy]
    · rw [e, yn_un (fun e2 : w = yn_la 0 cs => hw (e2 ▸ hla hc)), yn_un hwy]
  have hzl : ∀ w, w ∈ zs.flatten → w ∉ cs ∧ w ≠ y := by
    intro w hw
    refine ⟨fun hc => ?_, fun e => N.2.1 (e ▸ hw)⟩
    have h2 : w ∈ y :: (cs ++ ys1) := List.mem_cons_of_mem _ (List.mem_append_left _ hc)
    exact (List.nodup_append.mp q.1).2.2 w h2 w (List.mem_append_left _ hw) rfl
  have hsl : ∀ w, w ∈ ss → w ∉ cs ∧ w ≠ y := by
    intro w hw
    refine ⟨fun hc => ?_, fun e => N.2.2.1 (e ▸ hw)⟩
    have h2 : w ∈ y :: (cs ++ ys1) := List.mem_cons_of_mem _ (List.mem_append_left _ hc)
    exact (List.nodup_append.mp q.1).2.2 w h2 w (List.mem_append_right _ hw) rfl
  have hco : ∀ w, w ≠ y → upd PL y (PL x) w = PL w ∧ upd SE y (SE x) w = SE w ∧ upd AR y (AR x) w = AR w ∧ upd KI y (KI x) w = KI w ∧ upd VA y (VA x) w = VA w :=
    fun w hw => ⟨yn_un hw, yn_un hw, yn_un hw, yn_un hw, yn_un hw⟩
  have hys : ∀ w, w ∈ cs ++ ys1 → w ≠ y := fun w hw e => N.1 (e ▸ hw)
  have hS1 : ∃ l1 l2, cs ++ ys1 = l1 ++ l2 ∧ yn_S PL SE AR KI VA l1 zc ∧ yn_S PL SE AR KI VA l2 K1 := yn_Sx zc _ K1 hS
  obtain ⟨l1, l2, e1, S1, S2⟩ := hS1
  have e2 := yn_Sl _ _ S1
  obtain ⟨e3, e4⟩ := List.append_inj e1 (by omega)
  rw [← e3] at S1
  rw [← e4] at S2
  have hfy : yn_F (upd PL y (PL x)) (upd SE y (SE x)) (upd AR y (AR x)) (upd KI y (KI x)) (upd VA y (VA x)) y f := by
    have h := hf.1
    rcases f with _ | ⟨p, s, o⟩
    · exact absurd hfs (by decide)
    · obtain ⟨f1, f2, f3⟩ := h
      refine ⟨(yn_us).trans f1, (yn_us).trans f2, ?_⟩
      rcases o with _ | v
      · exact (yn_us).trans f3
      · refine ⟨(yn_us).trans f3.1, ?_⟩
        rw [yn_us, yn_us]; exact f3.2
  refine ⟨q5, ?_, ?_, ?_, ?_, ?_, ?_⟩
  · rcases ho with ⟨hc, e⟩ | ⟨hc, e⟩
    · rw [hc] at hL ⊢
      rw [e]
      exact ⟨yn_us, yn_Lc ys1 (fun w hw => yn_un (hys w (List.mem_append_right _ hw))) hL⟩
    · rw [e]
      rcases cs with _ | ⟨c, cs⟩
      · exact absurd rfl hc
      · exact yn_Lins ys1 cs c N.1 hn hL
  · refine yn_Sa cs zc (y :: ys1) (f :: K1) (yn_Sc cs zc (fun w hw => hco w (hys w (List.mem_append_left _ hw))) S1) ⟨hfy, yn_Sc ys1 K1 (fun w hw => hco w (hys w (List.mem_append_right _ hw))) S2⟩
  · exact yn_Lc ss (fun w hw => hout w (hsl w hw).1 (hsl w hw).2) hss
  · exact yn_Zc (fun w hw => ⟨hout w (hzl w hw).1 (hzl w hw).2, hco w (hzl w hw).2⟩) hZ
  · exact yn_Lc l (fun w hw => hout w (hzl w (hx w (List.mem_cons_of_mem _ hw))).1 (hzl w (hx w (List.mem_cons_of_mem _ hw))).2) hl.2
  · exact yn_Sc l z (fun w hw => hco w (hzl w (hx w (List.mem_cons_of_mem _ hw))).2) hf.2
theorem yc_lp {post : SY → Prop} {ys1 : List Nat} {zs : List (List Nat)} {sg : List (List pm_F)} {K1 zt : List pm_F} {d m cnt : Nat} (hz : zs.flatten.length ≤ 120) (hd : d + cnt ≤ 16) (hm : m ≤ 16)
    (h : ∀ fr sp tp PL SE AR KI VA OU, yr_P (zt ++ K1) sg fr sp tp PL SE AR KI VA OU TA → post (sz, st, so, rs, sh, ca, sf, nI (max m (d + cnt)), fr, sp, tp, nI (d + cnt), bo, pc, sc, ha, vk, va, T, PA, PL, SE, AR, KI, VA, OU, TA, NA, NK, NV, NO)) :
    ∀ (l : List Nat) (z : List pm_F) (cs ss : List Nat) (zc : List pm_F) (fn : Nat) (PL SE AR KI VA OU : Nat → Int32),
      zt = zc ++ z → yn_Q (cs ++ ys1) zs.flatten ss fn → fn ≤ 200 → yn_L OU (cs ++ ys1) → yn_S PL SE AR KI VA (cs ++ ys1) (zc ++ K1) → yn_L OU ss → yn_Z OU PL SE AR KI VA TA zs sg → (∀ w, w ∈ l → w ∈ zs.flatten) → yn_L OU l → yn_S PL SE AR KI VA l z → (∀ f, f ∈ z → f.isSome = true) → cs.length = zc.length → zc.length + z.length + ys1.length ≤ 16 →
      wY_callTaken_66 post (nI cnt) (nI (yn_hd ys1)) (l.length + 1) (nI (yn_la 0 cs)) (nI (yn_hd l)) sz st so rs sh ca sf (nI m) (nI fn) (nI (yn_hd ss)) (nI (yn_hd (cs ++ ys1))) (nI d) bo pc sc ha vk va T PA PL SE AR KI VA OU TA NA NK NV NO := by
  intro l
  induction l with
  | nil =>
    intro z cs ss zc fn PL SE AR KI VA OU ht q hfn hL hS hss hZ hx hl hf hfs hlen hlt
    rcases z with _ | ⟨f, z⟩
    · rw [List.append_nil] at ht
      rw [← ht] at hS
      have H := h _ _ _ PL SE AR KI VA OU ⟨cs ++ ys1, zs, ss, fn, hL, hS, hss, hZ, q, hfn, rfl, rfl, rfl⟩
      refine br_t nI_0 (nm_r (nI_add d cnt) (pk_le (d + cnt) m (fun w => ?_) (fun w => ?_)))
      · rw [Nat.max_eq_left w] at H; exact H
      · rw [Nat.max_eq_right (by omega)] at H; exact H
    · exact absurd hf (fun w => w)
  | cons x l ih =>
    intro z cs ss zc fn PL SE AR KI VA OU ht q hfn hL hS hss hZ hx hl hf hfs hlen hlt
    rcases z with _ | ⟨f, z⟩
    · exact absurd hf (fun w => w)
    have hxz := hx x (List.mem_cons_self ..)
    have hxb := q.2.1 x (List.mem_append_right _ (List.mem_append_left _ hxz))
    have vx : vp_in (nI x) 200 := vp_in_nI (by omega) (by decide)
    have cx : (nI x).toNatClampNeg = x := nI_clamp (by omega)
    have E : ¬ nI (yn_hd (x :: l)) = 0 := nI_ne0 hxb.1 (by show x < _; omega)
    rw [List.length_cons] at hlt
    have hcl : (cs ++ ys1).length ≤ 16 := by rw [List.length_append]; omega
    refine br_f E ⟨vx, vx, ?_⟩
    refine yw_node q hss hfn (yr_Bf q hcl hz) (fun y ss' fn' q' hss' hfn' hy => ?_)
    have N := yn_Qn q'
    have vy : vp_in (nI y) 200 := vp_in_nI hy (by decide)
    have cy : (nI y).toNatClampNeg = y := nI_clamp (by omega)
    have hxy : x ≠ y := fun e => N.2.1 (e ▸ hxz)
    have hse : SE x = 0 ∨ SE x = 1 := by
      have h1 := hf.1
      have h2 := hfs f (List.mem_cons_self ..)
      rcases f with _ | ⟨p, s, o⟩
      · exact absurd h2 (by decide)
      · rcases o with _ | v
        · exact Or.inl h1.2.2
        · exact Or.inr h1.2.2.1
    have O := yc_one (TA := TA) q' hL hS hss' hZ hx hl hf (hfs f (List.mem_cons_self ..)) hlen
    have ese : upd (upd SE y 0) y (vp_nar .boolean (upd SE y 0 x)) = upd SE y (SE x) := by
      rw [yn_un hxy, yc_bo hse]
      funext j
      unfold upd
      by_cases c : j = y
      · rw [if_pos c, if_pos c]
      · rw [if_neg c, if_neg c, if_neg c]
    have hap : (cs ++ [y]).length = (zc ++ [f]).length := by rw [List.length_append, List.length_append, hlen]; rfl
    have hap2 : (zc ++ [f]).length = zc.length + 1 := by rw [List.length_append]; rfl
    show vp_in (nI x) 200 ∧ _
    refine ⟨vx, vy, nm_r (e' := upd SE y (SE x)) ?_ ⟨vx, vy, nm_r (e' := upd KI y (KI x)) ?_ ⟨vx, vy, nm_r (e' := upd VA y (VA x)) ?_ ⟨vy, nm_r (e' := upd OU y (nI (yn_hd ys1))) ?_ ?_⟩⟩⟩⟩
    · rw [show (nI (yn_hd (x :: l))).toNatClampNeg = x from cx, cy]; exact ese
    · rw [show (nI (yn_hd (x :: l))).toNatClampNeg = x from cx, cy]
    · rw [show (nI (yn_hd (x :: l))).toNatClampNeg = x from cx, cy]
    · rw [cy]
    rcases cs with _ | ⟨c, cs⟩
    · obtain ⟨o1, o2, o3, o4, o5, o6, o7⟩ := O _ (Or.inl ⟨rfl, rfl⟩)
      refine br_t nI_0 ⟨vx, nm_r (e' := nI (yn_hd l)) ?_ ?_⟩
      · rw [show (nI (yn_hd (x :: l))).toNatClampNeg = x from cx, yn_un hxy]; exact hl.1
      · have I := ih z ([] ++ [y]) ss' (zc ++ [f]) fn' (upd PL y (PL x)) (upd SE y (SE x)) (upd AR y (AR x)) (upd KI y (KI x)) (upd VA y (VA x)) _ (by rw [ht, List.append_assoc]; rfl) o1 hfn' o2 o3 o4 o5 (fun w hw => hx w (List.mem_cons_of_mem _ hw)) o6 o7 (fun g hg => hfs g (List.mem_cons_of_mem _ hg)) hap (by omega)
        rw [show (nI (yn_hd (x :: l))).toNatClampNeg = x from cx]
        exact I
    · obtain ⟨o1, o2, o3, o4, o5, o6, o7⟩ := O _ (Or.inr ⟨by simp, rfl⟩)
      have hm := yn_lam cs c
      have hlb := q.2.1 (yn_la c cs) (List.mem_append_left _ (List.mem_append_left _ hm))
      have cl : (nI (yn_la c cs)).toNatClampNeg = yn_la c cs := nI_clamp (by omega)
      have hxl : x ≠ yn_la c cs := fun e => by
        have d2 := (List.nodup_append.mp q.1).2.2
        exact d2 x (by rw [e]; exact List.mem_append_left _ hm) x (List.mem_append_left _ hxz) rfl
      refine br_f (nI_ne0 hlb.1 (by show yn_la c cs < _; omega)) ⟨vp_in_nI (by show yn_la c cs < _; omega) (by decide), nm_r (e' := upd (upd OU y (nI (yn_hd ys1))) (yn_la c cs) (nI y)) ?_ ⟨vx, nm_r (e' := nI (yn_hd l)) ?_ ?_⟩⟩
      · show upd (upd OU y (nI (yn_hd ys1))) (nI (yn_la c cs)).toNatClampNeg (nI y) = _
        rw [cl]
      · rw [show (nI (yn_hd (x :: l))).toNatClampNeg = x from cx, yn_un hxl, yn_un hxy]; exact hl.1
      · have I := ih z ((c :: cs) ++ [y]) ss' (zc ++ [f]) fn' (upd PL y (PL x)) (upd SE y (SE x)) (upd AR y (AR x)) (upd KI y (KI x)) (upd VA y (VA x)) _ (by rw [ht, List.append_assoc]; rfl) o1 hfn' o2 o3 o4 o5 (fun w hw => hx w (List.mem_cons_of_mem _ hw)) o6 o7 (fun g hg => hfs g (List.mem_cons_of_mem _ hg)) hap (by omega)
        rw [yn_laa] at I
        rw [show (nI (yn_hd (x :: l))).toNatClampNeg = x from cx]
        exact I
