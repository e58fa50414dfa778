/-! the reference's frames: lists of nodes in one pool -/
def yn_hd : List Nat → Nat
  | [] => 0
  | x :: _ => x
def yn_V (k a : Int32) : pm_V → Prop
  | .inl z => k = 1 ∧ a = z
  | .inr (.inl (s, p)) => k = 2 ∧ a = nI (64 * s + p)
  | .inr (.inr j) => k = 3 ∧ a = nI j
def yn_O (se ki va : Nat → Int32) (x : Nat) : Option pm_V → Prop
  | none => se x = 0
  | some v => se x = 1 ∧ yn_V (ki x) (va x) v
def yn_F (pl se ar ki va : Nat → Int32) (x : Nat) : pm_F → Prop
  | none => pl x = -1
  | some (p, s, o) => pl x = nI p ∧ ar x = nI s ∧ yn_O se ki va x o
def yn_L (ou : Nat → Int32) : List Nat → Prop
  | [] => True
  | x :: l => ou x = nI (yn_hd l) ∧ yn_L ou l
def yn_S (pl se ar ki va : Nat → Int32) : List Nat → List pm_F → Prop
  | [], [] => True
  | x :: l, f :: K => yn_F pl se ar ki va x f ∧ yn_S pl se ar ki va l K
  | _, _ => False
theorem yn_Lc {ou ou' : Nat → Int32} : ∀ (l : List Nat), (∀ x, x ∈ l → ou' x = ou x) → yn_L ou l → yn_L ou' l := by
  intro l
  induction l with
  | nil => intro _ _; exact True.intro
  | cons x l ih =>
    intro h hl
    exact ⟨by rw [h x (List.mem_cons_self ..)]; exact hl.1, ih (fun y hy => h y (List.mem_cons_of_mem _ hy)) hl.2⟩
theorem yn_Fc {pl se ar ki va pl' se' ar' ki' va' : Nat → Int32} {x : Nat} (h : pl' x = pl x ∧ se' x = se x ∧ ar' x = ar x ∧ ki' x = ki x ∧ va' x = va x) : ∀ f, yn_F pl se ar ki va x f → yn_F pl' se' ar' ki' va' x f := by
  obtain ⟨h1, h2, h3, h4, h5⟩ := h
  intro f hf
  rcases f with _ | ⟨p, s, o⟩
  · show pl' x = -1
    rw [h1]; exact hf
  · obtain ⟨f1, f2, f3⟩ := hf
    refine ⟨by rw [h1]; exact f1, by rw [h3]; exact f2, ?_⟩
    rcases o with _ | v
    · show se' x = 0
      rw [h2]; exact f3
    · refine ⟨by rw [h2]; exact f3.1, ?_⟩
      rw [h4, h5]; exact f3.2
theorem yn_Sc {pl se ar ki va pl' se' ar' ki' va' : Nat → Int32} : ∀ (l : List Nat) (K : List pm_F), (∀ x, x ∈ l → pl' x = pl x ∧ se' x = se x ∧ ar' x = ar x ∧ ki' x = ki x ∧ va' x = va x) → yn_S pl se ar ki va l K → yn_S pl' se' ar' ki' va' l K := by
  intro l
  induction l with
  | nil => intro K _ hS; rcases K with _ | ⟨f, K⟩; exact True.intro; exact hS
  | cons x l ih =>
    intro K h hS
    rcases K with _ | ⟨f, K⟩
    · exact hS
    · exact ⟨yn_Fc (h x (List.mem_cons_self ..)) f hS.1, ih K (fun y hy => h y (List.mem_cons_of_mem _ hy)) hS.2⟩
theorem yn_Sl {pl se ar ki va : Nat → Int32} : ∀ (l : List Nat) (K : List pm_F), yn_S pl se ar ki va l K → l.length = K.length := by
  intro l
  induction l with
  | nil => intro K hS; rcases K with _ | ⟨f, K⟩; rfl; exact absurd hS (fun z => z)
  | cons x l ih =>
    intro K hS
    rcases K with _ | ⟨f, K⟩
    · exact absurd hS (fun z => z)
    · rw [List.length_cons, List.length_cons, ih K hS.2]
/-- the pool: stack, segments, spare -/
def yn_Q (ys zl sp : List Nat) (fr : Nat) : Prop :=
  (ys ++ (zl ++ sp)).Nodup ∧ (∀ x, x ∈ ys ++ (zl ++ sp) → 0 < x ∧ x < fr) ∧ fr = 1 + (ys.length + (zl.length + sp.length))
theorem yn_Qp {ys zl sp ys' zl' sp' : List Nat} {fr : Nat} (h : List.Perm (ys ++ (zl ++ sp)) (ys' ++ (zl' ++ sp'))) (q : yn_Q ys zl sp fr) : yn_Q ys' zl' sp' fr := by
  refine ⟨h.nodup_iff.mp q.1, fun x hx => q.2.1 x (h.mem_iff.mpr hx), ?_⟩
  have e := h.length_eq
  have e2 := q.2.2
  rw [List.length_append, List.length_append, List.length_append, List.length_append] at e
  omega
theorem yn_Q1 {ys zl sp : List Nat} {fr x : Nat} (q : yn_Q ys zl (x :: sp) fr) : yn_Q (x :: ys) zl sp fr := by
  refine yn_Qp ?_ q
  have h : List.Perm ((ys ++ zl) ++ x :: sp) (x :: ((ys ++ zl) ++ sp)) := List.perm_middle
  rw [List.append_assoc, List.append_assoc] at h
  exact h
theorem yn_Q3 {ys zl sp : List Nat} {fr x : Nat} (q : yn_Q (x :: ys) zl sp fr) : yn_Q ys zl (x :: sp) fr := by
  refine yn_Qp ?_ q
  have h : List.Perm ((ys ++ zl) ++ x :: sp) (x :: ((ys ++ zl) ++ sp)) := List.perm_middle
  rw [List.append_assoc, List.append_assoc] at h
  exact h.symm
theorem yn_Q2 {ys zl : List Nat} {fr : Nat} (q : yn_Q ys zl [] fr) : yn_Q (fr :: ys) zl [] (fr + 1) := by
  refine ⟨?_, ?_, ?_⟩
  · show (fr :: (ys ++ (zl ++ []))).Nodup
    refine List.nodup_cons.mpr ⟨fun z => ?_, q.1⟩
    have := q.2.1 fr z
    omega
  · intro x hx
    rcases List.mem_cons.mp hx with z | z
    · have := q.2.2
      omega
    · have := q.2.1 x z
      omega
  · have := q.2.2
    rw [List.length_cons]
    omega
theorem yn_Q4 {yz ys zl sp : List Nat} {fr : Nat} (q : yn_Q (yz ++ ys) zl sp fr) : yn_Q ys (zl ++ yz) sp fr := by
  refine yn_Qp ?_ q
  have h : List.Perm (yz ++ (ys ++ zl)) ((ys ++ zl) ++ yz) := List.perm_append_comm
  have h2 := h.append_right sp
  simp only [List.append_assoc] at h2 ⊢
  exact h2
theorem yn_Qn {ys zl sp : List Nat} {fr x : Nat} (q : yn_Q (x :: ys) zl sp fr) : x ∉ ys ∧ x ∉ zl ∧ x ∉ sp ∧ 0 < x ∧ x < fr := by
  have h : x ∉ ys ++ (zl ++ sp) := (List.nodup_cons.mp q.1).1
  refine ⟨fun z => h (List.mem_append_left _ z), fun z => h (List.mem_append_right _ (List.mem_append_left _ z)), fun z => h (List.mem_append_right _ (List.mem_append_right _ z)), q.2.1 x (List.mem_cons_self ..)⟩
theorem yn_fl : ∀ (zs : List (List Nat)), (∀ z, z ∈ zs → z.length ≤ 15) → zs.flatten.length ≤ zs.length * 15 := by
  intro zs
  induction zs with
  | nil => intro _; exact Nat.le_refl _
  | cons z zs ih =>
    intro h
    have h1 := h z (List.mem_cons_self ..)
    have h2 := ih (fun y hy => h y (List.mem_cons_of_mem _ hy))
    have e : (z :: zs).flatten.length = z.length + zs.flatten.length := by rw [List.flatten_cons, List.length_append]
    rw [e, List.length_cons]
    omega
/-- the segments -/
def yn_Z (ou pl se ar ki va ta : Nat → Int32) (zs : List (List Nat)) (sg : List (List pm_F)) : Prop :=
  zs.length = sg.length ∧ ∀ j, j < zs.length → ta j = nI (yn_hd (zs.getD j [])) ∧ yn_L ou (zs.getD j []) ∧ yn_S pl se ar ki va (zs.getD j []) (sg.getD j [])
theorem yn_gm {α : Type} {zs : List (List α)} {j : Nat} (hj : j < zs.length) : zs.getD j [] ∈ zs := by
  rw [List.getD_eq_getElem?_getD, List.getElem?_eq_getElem hj]
  exact List.getElem_mem hj
theorem yn_gf {α : Type} {zs : List (List α)} {j : Nat} (hj : j < zs.length) {x : α} (hx : x ∈ zs.getD j []) : x ∈ zs.flatten :=
  List.mem_flatten.mpr ⟨_, yn_gm hj, hx⟩
theorem yn_Zc {ou pl se ar ki va ta ou' pl' se' ar' ki' va' : Nat → Int32} {zs : List (List Nat)} {sg : List (List pm_F)} (h : ∀ x, x ∈ zs.flatten → ou' x = ou x ∧ pl' x = pl x ∧ se' x = se x ∧ ar' x = ar x ∧ ki' x = ki x ∧ va' x = va x) (hz : yn_Z ou pl se ar ki va ta zs sg) : yn_Z ou' pl' se' ar' ki' va' ta zs sg := by
  refine ⟨hz.1, fun j hj => ⟨(hz.2 j hj).1, yn_Lc _ (fun x hx => (h x (yn_gf hj hx)).1) (hz.2 j hj).2.1, yn_Sc _ _ (fun x hx => (h x (yn_gf hj hx)).2) (hz.2 j hj).2.2⟩⟩
theorem yn_Zl {ou pl se ar ki va ta : Nat → Int32} {zs : List (List Nat)} {sg : List (List pm_F)} (hz : yn_Z ou pl se ar ki va ta zs sg) (h : ∀ z, z ∈ sg → z.length ≤ 15) (h8 : sg.length ≤ 8) : zs.flatten.length ≤ 120 := by
  have h1 : ∀ z, z ∈ zs → z.length ≤ 15 := by
    intro z hm
    obtain ⟨j, hj, e⟩ := List.mem_iff_getElem.mp hm
    have e2 : zs.getD j [] = z := by rw [List.getD_eq_getElem?_getD, List.getElem?_eq_getElem hj]; exact e
    have h3 := yn_Sl _ _ (hz.2 j hj).2.2
    rw [e2] at h3
    have h4 := h _ (yn_gm (zs := sg) (j := j) (by rw [← hz.1]; exact hj))
    omega
  have h2 := yn_fl zs h1
  have h3 := hz.1
  omega
