/-! copied frames, and what the collector leaves -/
def xm_cp {α : Type} (F : Nat → α) (a c i : Nat) : Nat → α := fun j => if c ≤ j ∧ j < c + i then F (a + (j - c)) else F j
theorem xm_cp0 {α : Type} (F : Nat → α) (a c : Nat) : xm_cp F a c 0 = F := by
  funext j
  unfold xm_cp
  rw [if_neg (by omega)]
theorem xm_cpr {α : Type} {F : Nat → α} {a c i : Nat} (h : a + i < c ∨ c + i ≤ a) : xm_cp F a c i (a + i) = F (a + i) := by
  unfold xm_cp
  rw [if_neg (by omega)]
theorem xm_cps {F : Nat → Int32} {a c i : Nat} : upd (xm_cp F a c i) (c + i) (F (a + i)) = xm_cp F a c (i + 1) := by
  funext j
  unfold upd xm_cp
  by_cases e : j = c + i
  · rw [if_pos e, if_pos (by omega), show a + (j - c) = a + i by omega]
  · rw [if_neg e]
    by_cases e2 : c ≤ j ∧ j < c + i
    · rw [if_pos e2, if_pos (by omega)]
    · rw [if_neg e2, if_neg (by omega)]
theorem xm_cpL {F : Nat → Int64} {a c i : Nat} : vp_updL (xm_cp F a c i) (c + i) (F (a + i)) = xm_cp F a c (i + 1) := by
  funext j
  unfold vp_updL xm_cp
  by_cases e : j = c + i
  · rw [if_pos e, if_pos (by omega), show a + (j - c) = a + i by omega]
  · rw [if_neg e]
    by_cases e2 : c ≤ j ∧ j < c + i
    · rw [if_pos e2, if_pos (by omega)]
    · rw [if_neg e2, if_neg (by omega)]
theorem xm_cpi {α : Type} {F : Nat → α} {a c n i : Nat} (h : i < n) : xm_cp F a c n (c + i) = F (a + i) := by
  unfold xm_cp
  rw [if_pos (by omega), show a + (c + i - c) = a + i by omega]
theorem xm_cpo {α : Type} {F : Nat → α} {a c n j : Nat} (h : j < c ∨ c + n ≤ j) : xm_cp F a c n j = F j := by
  unfold xm_cp
  rw [if_neg (by omega)]
/-- what is marked with all that it leads to -/
def xm_cl (L : Nat → Prop) (f : Nat → Nat) (cv : Nat → Int64) (cn : Nat → Int32) (nm : pm_N) (te en : Nat → Int32) (fi : Nat → Int64) (sg : List (List pm_F)) (x : Nat) : Prop :=
  (9 ≤ x → (∃ c, cn x = nI c ∧ xm_E L f c (nm (f x)).2.2) ∧ xm_V L f (cv x) (nm (f x)).2.1) ∧ (x < 9 → xm_R L f te en fi (x * 16) (sg.getD (x - 1) []))
theorem xm_clm {L L' : Nat → Prop} {f : Nat → Nat} (M : xm_M L f L' f) {cv : Nat → Int64} {cn : Nat → Int32} {nm : pm_N} {te en : Nat → Int32} {fi : Nat → Int64} {sg : List (List pm_F)} {x : Nat} (h : xm_cl L f cv cn nm te en fi sg x) : xm_cl L' f cv cn nm te en fi sg x := by
  refine ⟨fun h9 => ?_, fun h9 => xm_Rm M _ (h.2 h9)⟩
  obtain ⟨⟨c, h1, h2⟩, h3⟩ := h.1 h9
  exact ⟨⟨c, h1, xm_Em M h2⟩, xm_Vm M _ h3⟩
theorem xm_col {L : Nat → Prop} {f : Nat → Nat} {cv : Nat → Int64} {cn cn' : Nat → Int32} {nm : pm_N} {b lc rc : Nat} {te en : Nat → Int32} {fi : Nat → Int64} {sz mk re : Nat → Int32} {sg : List (List pm_F)}
    (H : xm_H L f cv cn nm b lc) (G : xm_G L f te en fi sz sg) (K : xm_K L mk re lc rc) (hl : lc < 9000) (C : ∀ k x, k < rc → re k = nI x → x < 9000 → xm_cl (xm_mk mk lc) f cv cn nm te en fi sg x)
    (hc : ∀ x, xm_mk mk lc x → cn' x = cn x) : xm_H (xm_mk mk lc) f cv cn' nm b lc ∧ xm_G (xm_mk mk lc) f te en fi sz sg := by
  have C' : ∀ x, xm_mk mk lc x → xm_cl (xm_mk mk lc) f cv cn nm te en fi sg x := by
    intro x hx
    obtain ⟨_, k, h1, h2⟩ := K.2.1 x hx
    exact C k x h1 h2 (by have := hx.1; omega)
  refine ⟨fun x hx => ?_, fun x hx h9 => ?_⟩
  · have hL := (K.2.1 x hx).1
    obtain ⟨h1, h2, h3⟩ := H x hL
    refine ⟨h1, h2, fun h9 => ?_⟩
    obtain ⟨h4, h5, _, _⟩ := h3 h9
    obtain ⟨h6, h7⟩ := (C' x hx).1 h9
    rw [hc x hx]
    exact ⟨h4, h5, h6, h7⟩
  · have hL := (K.2.1 x hx).1
    obtain ⟨h1, h2, _⟩ := G x hL h9
    exact ⟨h1, h2, (C' x hx).2 h9⟩
/-- the list of what is not marked, from 9 up to i -/
def xm_fl (mk : Nat → Int32) : Nat → List Nat
  | 0 => []
  | i + 1 => if mk (9 + i) = 0 then (9 + i) :: xm_fl mk i else xm_fl mk i
theorem xm_flm (mk : Nat → Int32) : ∀ i x, x ∈ xm_fl mk i → 9 ≤ x ∧ x < 9 + i ∧ mk x = 0 := by
  intro i
  induction i with
  | zero => intro x h; exact absurd h (by simp [xm_fl])
  | succ i ih =>
    intro x h
    rw [xm_fl] at h
    split at h
    · rcases List.mem_cons.mp h with e | e
      · rw [e]; exact ⟨by omega, by omega, by assumption⟩
      · have := ih x e
        exact ⟨this.1, by omega, this.2.2⟩
    · have := ih x h
      exact ⟨this.1, by omega, this.2.2⟩
theorem xm_fln (mk : Nat → Int32) : ∀ i, (xm_fl mk i).Nodup := by
  intro i
  induction i with
  | zero => exact List.nodup_nil
  | succ i ih =>
    rw [xm_fl]
    split
    · refine List.nodup_cons.mpr ⟨fun h => ?_, ih⟩
      have := xm_flm mk i _ h
      omega
    · exact ih
