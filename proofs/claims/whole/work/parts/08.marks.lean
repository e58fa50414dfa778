/-! rows of frames that are written, and the marks of the collector -/
theorem xm_Gc {L : Nat → Prop} {f : Nat → Nat} {te en te' en' : Nat → Int32} {fi fi' : Nat → Int64} {sz : Nat → Int32} {sg : List (List pm_F)}
    (h : xm_G L f te en fi sz sg) (hp : ∀ x, L x → 0 < x) (ha : ∀ j, 16 ≤ j → te' j = te j ∧ en' j = en j ∧ fi' j = fi j) : xm_G L f te' en' fi' sz sg := by
  intro x hx h9
  obtain ⟨h1, h2, h3⟩ := h x hx h9
  have := hp x hx
  exact ⟨h1, h2, xm_Rc _ (fun i _ => ha (x * 16 + i) (by omega)) h3⟩
theorem xm_gd {α : Type} (sg : List (List α)) (z : List α) (j : Nat) : (sg ++ [z]).getD j [] = if j < sg.length then sg.getD j [] else if j = sg.length then z else [] := by
  rw [List.getD_eq_getElem?_getD, List.getD_eq_getElem?_getD]
  by_cases c1 : j < sg.length
  · rw [if_pos c1, List.getElem?_append_left c1]
  · rw [if_neg c1, List.getElem?_append_right (by omega)]
    by_cases c2 : j = sg.length
    · rw [if_pos c2, c2, Nat.sub_self]; rfl
    · rw [if_neg c2, List.getElem?_eq_none (by rw [List.length_singleton]; omega)]; rfl
theorem xm_Gshift {L : Nat → Prop} {f : Nat → Nat} {te en te' en' : Nat → Int32} {fi fi' : Nat → Int64} {sz : Nat → Int32} {sg : List (List pm_F)} {z : List pm_F} {o : Nat}
    (h : xm_G L f te en fi sz sg) (hp : ∀ x, L x → 0 < x) (h15 : ∀ y, y ∈ sg → y.length ≤ 15) (hz : xm_R L f te en fi o z)
    (ha : ∀ j, j < (sg.length + 1) * 16 → te' j = te j ∧ en' j = en j ∧ fi' j = fi j)
    (hb : ∀ i, i < z.length → te' ((sg.length + 1) * 16 + i) = te (o + i) ∧ en' ((sg.length + 1) * 16 + i) = en (o + i) ∧ fi' ((sg.length + 1) * 16 + i) = fi (o + i)) :
    xm_G (xm_add L (sg.length + 1)) f te' en' fi' (upd sz (sg.length + 1) (nI z.length)) (sg ++ [z]) := by
  have M := xm_Ms L f (sg.length + 1)
  have el : (sg ++ [z]).length = sg.length + 1 := by rw [List.length_append]; rfl
  intro x hx h9
  by_cases c : x = sg.length + 1
  · have e : (sg ++ [z]).getD (x - 1) [] = z := by rw [xm_gd, if_neg (by omega), if_pos (by omega)]
    rw [e, c]
    exact ⟨by omega, by unfold upd; rw [if_pos rfl], xm_Rm M _ (xm_Rc z hb hz)⟩
  · have hx' : L x := by
      rcases hx with q | q
      · exact q
      · exact absurd q c
    obtain ⟨h1, h2, h3⟩ := h x hx' h9
    have h0 := hp x hx'
    have e : (sg ++ [z]).getD (x - 1) [] = sg.getD (x - 1) [] := by rw [xm_gd, if_pos (by omega)]
    have hl := h15 _ (yn_gm (zs := sg) (j := x - 1) (by omega))
    rw [e]
    refine ⟨by omega, by unfold upd; rw [if_neg c]; exact h2, xm_Rm M _ (xm_Rc _ (fun i hi => ha (x * 16 + i) (by omega)) h3)⟩
/-- a frame is pushed -/
theorem xm_Rpush {L : Nat → Prop} {f : Nat → Nat} {te en : Nat → Int32} {fi : Nat → Int64} {K : List pm_F} {g : pm_F} {a b : Int32} {l : Int64}
    (h : xm_R L f te en fi 0 K) (hg : xm_F L f a b l g) : xm_R L f (upd te K.length a) (upd en K.length b) (vp_updL fi K.length l) 0 (g :: K) := by
  refine ⟨?_, xm_Rc K (fun i hi => ?_) h⟩
  · rw [Nat.zero_add]
    unfold upd vp_updL
    rw [if_pos rfl, if_pos rfl, if_pos rfl]
    exact hg
  · unfold upd vp_updL
    rw [if_neg (by omega), if_neg (by omega), if_neg (by omega)]
    exact ⟨rfl, rfl, rfl⟩
def xm_mk (mk : Nat → Int32) (lc : Nat) : Nat → Prop := fun x => x ≤ lc ∧ mk x = 1
def xm_cnt (mk : Nat → Int32) : Nat → Nat
  | 0 => 0
  | i + 1 => xm_cnt mk i + (if mk i = 1 then 1 else 0)
theorem xm_cnt1 (mk : Nat → Int32) (i : Nat) : xm_cnt mk (i + 1) = xm_cnt mk i + (if mk i = 1 then 1 else 0) := rfl
theorem xm_cle (mk : Nat → Int32) : ∀ i, xm_cnt mk i ≤ i := by
  intro i
  induction i with
  | zero => exact Nat.le_refl _
  | succ i ih => rw [xm_cnt1]; split <;> omega
theorem xm_clt (mk : Nat → Int32) {x : Nat} (hx : ¬ mk x = 1) : ∀ i, x < i → xm_cnt mk i < i := by
  intro i
  induction i with
  | zero => intro h; omega
  | succ i ih =>
    intro h
    rw [xm_cnt1]
    by_cases c : x = i
    · rw [← c, if_neg hx]
      have := xm_cle mk x
      omega
    · have := ih (by omega)
      split <;> omega
theorem xm_cup (mk : Nat → Int32) {x : Nat} (hx : ¬ mk x = 1) : ∀ i, xm_cnt (upd mk x 1) i = xm_cnt mk i + (if x < i then 1 else 0) := by
  intro i
  induction i with
  | zero => rw [if_neg (by omega)]; rfl
  | succ i ih =>
    rw [xm_cnt1, xm_cnt1, ih]
    by_cases c : x = i
    · have e : upd mk x 1 i = 1 := by unfold upd; rw [if_pos c.symm]
      have h1 : (if x < i then 1 else 0) = (0 : Nat) := if_neg (by omega)
      have h2 : (if x < i + 1 then 1 else 0) = (1 : Nat) := if_pos (by omega)
      have h3 : ¬ mk i = 1 := c ▸ hx
      rw [h1, h2, if_pos e, if_neg h3]
    · have e : upd mk x 1 i = mk i := by unfold upd; rw [if_neg (fun q => c q.symm)]
      rw [e]
      by_cases c2 : x < i
      · have h1 : (if x < i then 1 else 0) = (1 : Nat) := if_pos c2
        have h2 : (if x < i + 1 then 1 else 0) = (1 : Nat) := if_pos (by omega)
        rw [h1, h2]; omega
      · have h1 : (if x < i then 1 else 0) = (0 : Nat) := if_neg c2
        have h2 : (if x < i + 1 then 1 else 0) = (0 : Nat) := if_neg (by omega)
        rw [h1, h2]; omega
theorem xm_c0 (mk : Nat → Int32) : ∀ i, (∀ x, x < i → mk x = 0) → xm_cnt mk i = 0 := by
  intro i
  induction i with
  | zero => intro _; rfl
  | succ i ih =>
    intro h
    rw [xm_cnt1, ih (fun x hx => h x (by omega)), h i (by omega)]
    rfl
/-- the marks and the list of what is marked -/
def xm_K (L : Nat → Prop) (mk re : Nat → Int32) (lc rc : Nat) : Prop :=
  (∀ x, x ≤ lc → mk x = 0 ∨ mk x = 1) ∧ (∀ x, xm_mk mk lc x → L x ∧ ∃ k, k < rc ∧ re k = nI x) ∧ (∀ k, k < rc → ∃ x, re k = nI x ∧ xm_mk mk lc x) ∧ rc = xm_cnt mk (lc + 1)
theorem xm_Krc {L : Nat → Prop} {mk re : Nat → Int32} {lc rc : Nat} (h : xm_K L mk re lc rc) : rc ≤ lc + 1 := by
  have := xm_cle mk (lc + 1)
  have := h.2.2.2
  omega
theorem xm_Kadd {L : Nat → Prop} {mk re : Nat → Int32} {lc rc x : Nat} (h : xm_K L mk re lc rc) (hL : L x) (hx : x ≤ lc) (hm : ¬ mk x = 1) : rc ≤ lc ∧ xm_K L (upd mk x 1) (upd re rc (nI x)) lc (rc + 1) := by
  obtain ⟨h1, h2, h3, h4⟩ := h
  have c1 := xm_clt mk hm (lc + 1) (by omega)
  have c2 := xm_cup mk hm (lc + 1)
  rw [if_pos (by omega)] at c2
  have eu : ∀ y, upd mk x 1 y = if y = x then 1 else mk y := fun y => rfl
  have er : ∀ k, upd re rc (nI x) k = if k = rc then nI x else re k := fun k => rfl
  refine ⟨by omega, fun y hy => ?_, fun y hy => ?_, fun k hk => ?_, by omega⟩
  · rw [eu]
    by_cases c : y = x
    · rw [if_pos c]; exact Or.inr rfl
    · rw [if_neg c]; exact h1 y hy
  · by_cases c : y = x
    · exact ⟨c ▸ hL, rc, by omega, by rw [er, if_pos rfl, c]⟩
    · have hy' : xm_mk mk lc y := ⟨hy.1, by have := hy.2; rw [eu, if_neg c] at this; exact this⟩
      obtain ⟨g1, k, g2, g3⟩ := h2 y hy'
      exact ⟨g1, k, by omega, by rw [er, if_neg (by omega)]; exact g3⟩
  · by_cases c : k = rc
    · exact ⟨x, by rw [er, if_pos c], hx, by rw [eu, if_pos rfl]⟩
    · obtain ⟨y, g1, g2⟩ := h3 k (by omega)
      refine ⟨y, by rw [er, if_neg c]; exact g1, g2.1, ?_⟩
      rw [eu]
      by_cases d : y = x
      · rw [if_pos d]
      · rw [if_neg d]; exact g2.2
