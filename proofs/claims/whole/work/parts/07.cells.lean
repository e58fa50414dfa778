/-! the component's frames and cells: L what may still be used, f the name that a cell stands for -/
def xm_vo (k : Nat) (a : Int32) : Int64 := lN (k * 4294967296 + a.toBitVec.toNat)
def xm_E (L : Nat → Prop) (f : Nat → Nat) (c s : Nat) : Prop := (c = 0 ∧ s = 0) ∨ (9 ≤ c ∧ c < 9000 ∧ L c ∧ f c = s)
def xm_V (L : Nat → Prop) (f : Nat → Nat) (l : Int64) : pm_V → Prop
  | .inl a => l = xm_vo 1 a
  | .inr (.inl (s, p)) => ∃ c, l = xm_vo 2 (nI (p * 9000 + c)) ∧ xm_E L f c s
  | .inr (.inr j) => l = xm_vo 3 (nI (j + 1)) ∧ L (j + 1)
def xm_O (L : Nat → Prop) (f : Nat → Nat) (l : Int64) : Option pm_V → Prop
  | none => l = 0
  | some v => xm_V L f l v
def xm_F (L : Nat → Prop) (f : Nat → Nat) (te en : Int32) (fi : Int64) : pm_F → Prop
  | none => te = -1 ∧ en = 0 ∧ fi = 0
  | some (p, s, o) => te = nI p ∧ (∃ c, en = nI c ∧ xm_E L f c s) ∧ xm_O L f fi o
def xm_R (L : Nat → Prop) (f : Nat → Nat) (te en : Nat → Int32) (fi : Nat → Int64) (o : Nat) : List pm_F → Prop
  | [] => True
  | g :: K => xm_F L f (te (o + K.length)) (en (o + K.length)) (fi (o + K.length)) g ∧ xm_R L f te en fi o K
theorem xm_E9 {L : Nat → Prop} {f : Nat → Nat} {c s : Nat} (h : xm_E L f c s) : c < 9000 := by
  rcases h with h | h <;> omega
/-- what holds of more holds: L grows, f stays on L -/
def xm_M (L : Nat → Prop) (f : Nat → Nat) (L' : Nat → Prop) (f' : Nat → Nat) : Prop := ∀ x, L x → L' x ∧ f' x = f x
theorem xm_Em {L L' : Nat → Prop} {f f' : Nat → Nat} (M : xm_M L f L' f') {c s : Nat} (h : xm_E L f c s) : xm_E L' f' c s := by
  rcases h with h | ⟨h1, h2, h3, h4⟩
  · exact Or.inl h
  · exact Or.inr ⟨h1, h2, (M c h3).1, by rw [(M c h3).2]; exact h4⟩
theorem xm_Vm {L L' : Nat → Prop} {f f' : Nat → Nat} (M : xm_M L f L' f') {l : Int64} : ∀ v, xm_V L f l v → xm_V L' f' l v
  | .inl _, h => h
  | .inr (.inl (_, _)), ⟨c, h1, h2⟩ => ⟨c, h1, xm_Em M h2⟩
  | .inr (.inr j), h => ⟨h.1, (M (j + 1) h.2).1⟩
theorem xm_Om {L L' : Nat → Prop} {f f' : Nat → Nat} (M : xm_M L f L' f') {l : Int64} : ∀ o, xm_O L f l o → xm_O L' f' l o
  | none, h => h
  | some v, h => xm_Vm M v h
theorem xm_Fm {L L' : Nat → Prop} {f f' : Nat → Nat} (M : xm_M L f L' f') {te en : Int32} {fi : Int64} : ∀ g, xm_F L f te en fi g → xm_F L' f' te en fi g
  | none, h => h
  | some (_, _, o), ⟨h1, ⟨c, h2, h3⟩, h4⟩ => ⟨h1, ⟨c, h2, xm_Em M h3⟩, xm_Om M o h4⟩
theorem xm_Rm {L L' : Nat → Prop} {f f' : Nat → Nat} (M : xm_M L f L' f') {te en : Nat → Int32} {fi : Nat → Int64} {o : Nat} : ∀ K, xm_R L f te en fi o K → xm_R L' f' te en fi o K
  | [], _ => True.intro
  | g :: K, h => ⟨xm_Fm M g h.1, xm_Rm M K h.2⟩
/-- the same frames at another place -/
theorem xm_Rc {L : Nat → Prop} {f : Nat → Nat} {te en te' en' : Nat → Int32} {fi fi' : Nat → Int64} {o o' : Nat} : ∀ (K : List pm_F), (∀ i, i < K.length → te' (o' + i) = te (o + i) ∧ en' (o' + i) = en (o + i) ∧ fi' (o' + i) = fi (o + i)) → xm_R L f te en fi o K → xm_R L f te' en' fi' o' K := by
  intro K
  induction K with
  | nil => intro _ _; exact True.intro
  | cons g K ih =>
    intro h hR
    have h0 := h K.length (by rw [List.length_cons]; omega)
    refine ⟨?_, ih (fun i hi => h i (by rw [List.length_cons]; omega)) hR.2⟩
    rw [h0.1, h0.2.1, h0.2.2]
    exact hR.1
theorem xm_Ra {L : Nat → Prop} {f : Nat → Nat} {te en : Nat → Int32} {fi : Nat → Int64} {o : Nat} : ∀ (z K : List pm_F), xm_R L f te en fi o (z ++ K) ↔ xm_R L f te en fi (o + K.length) z ∧ xm_R L f te en fi o K := by
  intro z K
  induction z with
  | nil => exact ⟨fun h => ⟨True.intro, h⟩, fun h => h.2⟩
  | cons g z ih =>
    have e : o + (z ++ K).length = o + K.length + z.length := by rw [List.length_append]; omega
    have e1 : xm_R L f te en fi o ((g :: z) ++ K) = (xm_F L f (te (o + (z ++ K).length)) (en (o + (z ++ K).length)) (fi (o + (z ++ K).length)) g ∧ xm_R L f te en fi o (z ++ K)) := rfl
    have e2 : xm_R L f te en fi (o + K.length) (g :: z) = (xm_F L f (te (o + K.length + z.length)) (en (o + K.length + z.length)) (fi (o + K.length + z.length)) g ∧ xm_R L f te en fi (o + K.length) z) := rfl
    rw [e1, e2, e, ih]
    exact ⟨fun h => ⟨⟨h.1, h.2.1⟩, h.2.2⟩, fun h => ⟨h.1.1, h.1.2, h.2⟩⟩
/-- the cells -/
def xm_H (L : Nat → Prop) (f : Nat → Nat) (cv : Nat → Int64) (cn : Nat → Int32) (nm : pm_N) (b lc : Nat) : Prop :=
  ∀ x, L x → 0 < x ∧ x ≤ lc ∧ (9 ≤ x → 1 ≤ f x ∧ f x ≤ b ∧ (∃ c, cn x = nI c ∧ xm_E L f c (nm (f x)).2.2) ∧ xm_V L f (cv x) (nm (f x)).2.1)
/-- the segments that may still be used -/
def xm_G (L : Nat → Prop) (f : Nat → Nat) (te en : Nat → Int32) (fi : Nat → Int64) (sz : Nat → Int32) (sg : List (List pm_F)) : Prop :=
  ∀ x, L x → x < 9 → x ≤ sg.length ∧ sz x = nI (sg.getD (x - 1) []).length ∧ xm_R L f te en fi (x * 16) (sg.getD (x - 1) [])
/-- the unused cells -/
def xm_U (L : Nat → Prop) (cn : Nat → Int32) (lc : Nat) (fl : List Nat) : Prop :=
  yn_L cn fl ∧ fl.Nodup ∧ ∀ x, x ∈ fl → 9 ≤ x ∧ x ≤ lc ∧ ¬ L x
def xm_add (L : Nat → Prop) (x : Nat) : Nat → Prop := fun y => L y ∨ y = x
def xm_put (f : Nat → Nat) (x k : Nat) : Nat → Nat := fun y => if y = x then k else f y
theorem xm_Ma {L : Nat → Prop} {f : Nat → Nat} {x k : Nat} (hx : ¬ L x) : xm_M L f (xm_add L x) (xm_put f x k) := by
  intro y hy
  refine ⟨Or.inl hy, ?_⟩
  unfold xm_put
  rw [if_neg (fun e : y = x => hx (e ▸ hy))]
theorem xm_Ms (L : Nat → Prop) (f : Nat → Nat) (x : Nat) : xm_M L f (xm_add L x) f := fun y hy => ⟨Or.inl hy, rfl⟩
/-- a cell joins: the value l with the cell c around it -/
theorem xm_Hadd {L : Nat → Prop} {f : Nat → Nat} {cv : Nat → Int64} {cn : Nat → Int32} {nm : pm_N} {b lc lc' x c o y : Nat} {l : Int64} {v : pm_V}
    (h : xm_H L f cv cn nm b lc) (hx : ¬ L x) (h9 : 9 ≤ x) (hl : x ≤ lc') (hlc : lc ≤ lc') (hv : xm_V L f l v) (hc : xm_E L f c o) :
    xm_H (xm_add L x) (xm_put f x (b + 1)) (vp_updL cv x l) (upd cn x (nI c)) (pm_bd nm b y v o) (b + 1) lc' := by
  have M := xm_Ma (f := f) (k := b + 1) hx
  intro z hz
  by_cases e : z = x
  · rw [e]
    have e1 : xm_put f x (b + 1) x = b + 1 := by unfold xm_put; rw [if_pos rfl]
    refine ⟨by omega, hl, fun _ => ?_⟩
    rw [e1, pm_bd_s]
    refine ⟨by omega, Nat.le_refl _, ⟨c, by unfold upd; rw [if_pos rfl], xm_Em M hc⟩, ?_⟩
    have e2 : vp_updL cv x l x = l := by unfold vp_updL; rw [if_pos rfl]
    rw [e2]; exact xm_Vm M v hv
  · have hz' : L z := by
      rcases hz with q | q
      · exact q
      · exact absurd q e
    obtain ⟨h1, h2, h3⟩ := h z hz'
    refine ⟨h1, by omega, fun q => ?_⟩
    obtain ⟨g1, g2, ⟨d, g3, g4⟩, g5⟩ := h3 q
    have e1 : xm_put f x (b + 1) z = f z := (M z hz').2
    have e2 : pm_bd nm b y v o (f z) = nm (f z) := by unfold pm_bd; rw [if_neg (by omega)]
    have e3 : vp_updL cv x l z = cv z := by unfold vp_updL; rw [if_neg e]
    have e4 : upd cn x (nI c) z = cn z := by unfold upd; rw [if_neg e]
    rw [e1, e2, e3, e4]
    exact ⟨g1, by omega, ⟨d, g3, xm_Em M g4⟩, xm_Vm M _ g5⟩
theorem xm_Gadd {L : Nat → Prop} {f : Nat → Nat} {te en : Nat → Int32} {fi : Nat → Int64} {sz : Nat → Int32} {sg : List (List pm_F)} {x k : Nat}
    (h : xm_G L f te en fi sz sg) (hx : ¬ L x) (h9 : 9 ≤ x) : xm_G (xm_add L x) (xm_put f x k) te en fi sz sg := by
  have M := xm_Ma (f := f) (k := k) hx
  intro z hz h8
  have hz' : L z := by
    rcases hz with q | q
    · exact q
    · omega
  obtain ⟨h1, h2, h3⟩ := h z hz' h8
  exact ⟨h1, h2, xm_Rm M _ h3⟩
theorem xm_Uadd {L : Nat → Prop} {cn : Nat → Int32} {lc x : Nat} {c : Int32} {fl : List Nat} (h : xm_U L cn lc (x :: fl)) : xm_U (xm_add L x) (upd cn x c) lc fl := by
  obtain ⟨h1, h2, h3⟩ := h
  have hn := List.nodup_cons.mp h2
  refine ⟨yn_Lc fl (fun y hy => ?_) h1.2, hn.2, fun y hy => ?_⟩
  · unfold upd
    rw [if_neg (fun e : y = x => hn.1 (e ▸ hy))]
  · obtain ⟨g1, g2, g3⟩ := h3 y (List.mem_cons_of_mem _ hy)
    refine ⟨g1, g2, fun q => ?_⟩
    rcases q with q | q
    · exact g3 q
    · exact hn.1 (q ▸ hy)
theorem xm_Uadd0 {L : Nat → Prop} {cn : Nat → Int32} {lc x : Nat} {c : Int32} : xm_U (xm_add L x) (upd cn x c) lc [] := ⟨True.intro, List.nodup_nil, fun y hy => absurd hy (by simp)⟩
