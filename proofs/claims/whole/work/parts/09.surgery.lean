/-! lists of nodes that are cut and copied -/
def yn_la : Nat → List Nat → Nat
  | d, [] => d
  | _, x :: l => yn_la x l
theorem yn_lam : ∀ (l : List Nat) (d : Nat), yn_la d l ∈ d :: l := by
  intro l
  induction l with
  | nil => intro d; exact List.mem_cons_self ..
  | cons x l ih => intro d; exact List.mem_cons_of_mem _ (ih x)
theorem yn_laa : ∀ (l : List Nat) (d x : Nat), yn_la d (l ++ [x]) = x := by
  intro l
  induction l with
  | nil => intro d x; rfl
  | cons y l ih => intro d x; exact ih y x
theorem yn_hda (l : List Nat) (r : Nat) (k m : List Nat) : yn_hd (l ++ r :: k) = yn_hd (l ++ r :: m) := by
  rcases l with _ | ⟨x, l⟩ <;> rfl
theorem yn_La {ou : Nat → Int32} : ∀ (l k : List Nat), yn_L ou (l ++ k) → yn_L ou k := by
  intro l
  induction l with
  | nil => intro k h; exact h
  | cons x l ih => intro k h; exact ih k h.2
theorem yn_us {f : Nat → Int32} {k : Nat} {x : Int32} : upd f k x k = x := by unfold upd; rw [if_pos rfl]
theorem yn_un {f : Nat → Int32} {k j : Nat} {x : Int32} (h : j ≠ k) : upd f k x j = f j := by unfold upd; rw [if_neg h]
/-- the list is cut behind l -/
theorem yn_Lcut {ou : Nat → Int32} (k : List Nat) : ∀ (l : List Nat) (c : Nat), (c :: l).Nodup → yn_L ou ((c :: l) ++ k) → yn_L (upd ou (yn_la c l) 0) (c :: l) := by
  intro l
  induction l with
  | nil => intro c _ _; exact ⟨yn_us, True.intro⟩
  | cons d l ih =>
    intro c hn h
    have hn' := List.nodup_cons.mp hn
    have hm := yn_lam l d
    refine ⟨?_, ih d hn'.2 h.2⟩
    show upd ou (yn_la d l) 0 c = nI d
    rw [yn_un (fun e : c = yn_la d l => hn'.1 (by rw [e]; exact hm))]
    exact h.1
/-- a node goes in behind l -/
theorem yn_Lins {ou : Nat → Int32} {x : Nat} (k : List Nat) : ∀ (l : List Nat) (c : Nat), x ∉ (c :: l) ++ k → ((c :: l) ++ k).Nodup → yn_L ou ((c :: l) ++ k) → yn_L (upd (upd ou x (nI (yn_hd k))) (yn_la c l) (nI x)) ((c :: l) ++ x :: k) := by
  intro l
  induction l with
  | nil =>
    intro c hx hn h
    have hn' := List.nodup_cons.mp hn
    have hxc : x ≠ c := fun e => hx (e ▸ List.mem_cons_self ..)
    have hxk : x ∉ k := fun e => hx (List.mem_cons_of_mem _ e)
    refine ⟨yn_us, ?_, yn_Lc k (fun y hy => ?_) h.2⟩
    · show upd (upd ou x (nI (yn_hd k))) c (nI x) x = nI (yn_hd k)
      rw [yn_un hxc, yn_us]
    · show upd (upd ou x (nI (yn_hd k))) c (nI x) y = ou y
      have h1 : y ≠ c := fun e => hn'.1 (by rw [← e]; exact hy)
      have h2 : y ≠ x := fun e => hxk (by rw [← e]; exact hy)
      rw [yn_un h1, yn_un h2]
  | cons d l ih =>
    intro c hx hn h
    have hn' := List.nodup_cons.mp hn
    have hm : yn_la d l ∈ (d :: l) ++ k := List.mem_append_left _ (yn_lam l d)
    have hxc : c ≠ x := fun e => hx (e ▸ List.mem_cons_self ..)
    refine ⟨?_, ih d (fun e => hx (List.mem_cons_of_mem _ e)) hn'.2 h.2⟩
    show upd (upd ou x (nI (yn_hd k))) (yn_la d l) (nI x) c = nI d
    rw [yn_un (fun e : c = yn_la d l => hn'.1 (by rw [e]; exact hm)), yn_un hxc]
    exact h.1
theorem yn_Sa {pl se ar ki va : Nat → Int32} : ∀ (l : List Nat) (z : List pm_F) (l' : List Nat) (z' : List pm_F), yn_S pl se ar ki va l z → yn_S pl se ar ki va l' z' → yn_S pl se ar ki va (l ++ l') (z ++ z') := by
  intro l
  induction l with
  | nil =>
    intro z l' z' h h'
    rcases z with _ | ⟨f, z⟩
    · exact h'
    · exact absurd h (fun q => q)
  | cons x l ih =>
    intro z l' z' h h'
    rcases z with _ | ⟨f, z⟩
    · exact absurd h (fun q => q)
    · exact ⟨h.1, ih z l' z' h.2 h'⟩
/-- nodes of frames z ++ K, cut where K begins -/
theorem yn_Sx {pl se ar ki va : Nat → Int32} : ∀ (z : List pm_F) (l : List Nat) (K : List pm_F), yn_S pl se ar ki va l (z ++ K) → ∃ l1 l2, l = l1 ++ l2 ∧ yn_S pl se ar ki va l1 z ∧ yn_S pl se ar ki va l2 K := by
  intro z
  induction z with
  | nil => intro l K h; exact ⟨[], l, rfl, True.intro, h⟩
  | cons f z ih =>
    intro l K h
    rcases l with _ | ⟨x, l⟩
    · exact absurd h (fun q => q)
    · obtain ⟨l1, l2, e, h1, h2⟩ := ih l K h.2
      exact ⟨x :: l1, l2, by rw [e]; rfl, ⟨h.1, h1⟩, h2⟩
theorem yn_Q5 {cs ys zl sp : List Nat} {fr x : Nat} (q : yn_Q (x :: (cs ++ ys)) zl sp fr) : yn_Q (cs ++ x :: ys) zl sp fr := by
  refine yn_Qp ?_ q
  have h : List.Perm (cs ++ x :: ys) (x :: (cs ++ ys)) := List.perm_middle
  exact (h.append_right (zl ++ sp)).symm
theorem yn_Qy {ys zl sp : List Nat} {fr : Nat} (q : yn_Q ys zl sp fr) : ys.Nodup := (List.nodup_append.mp q.1).1
theorem yn_Zadd {ou pl se ar ki va ta : Nat → Int32} {zs : List (List Nat)} {sg : List (List pm_F)} {l : List Nat} {z : List pm_F} (h : yn_Z ou pl se ar ki va ta zs sg) (hL : yn_L ou l) (hS : yn_S pl se ar ki va l z) :
    yn_Z ou pl se ar ki va (upd ta sg.length (nI (yn_hd l))) (zs ++ [l]) (sg ++ [z]) := by
  have e1 : (zs ++ [l]).length = zs.length + 1 := by rw [List.length_append]; rfl
  have e2 : (sg ++ [z]).length = sg.length + 1 := by rw [List.length_append]; rfl
  have h1 := h.1
  refine ⟨by omega, fun j hj => ?_⟩
  rw [xm_gd, xm_gd]
  by_cases c : j < zs.length
  · rw [if_pos c, if_pos (by omega), yn_un (by omega)]
    exact h.2 j c
  · rw [if_neg c, if_pos (by omega), if_neg (by omega), if_pos (by omega), show j = sg.length by omega, yn_us]
    exact ⟨rfl, hL, hS⟩
