/-! the pure machine: frames in lists, names in one growing table -/
abbrev pm_V : Type := Int32 ⊕ ((Nat × Nat) ⊕ Nat)
abbrev pm_F : Type := Option (Nat × Nat × Option pm_V)
abbrev pm_N : Type := Nat → Nat × pm_V × Nat
abbrev pm_M : Type := (Nat × Nat) ⊕ pm_V
/-- mode, pending (innermost first), segments, names, their number, numbers put out, their number, calls, deepest, ending -/
abbrev pm_S : Type := pm_M × List pm_F × List (List pm_F) × pm_N × Nat × (Nat → Int32) × Nat × Nat × Nat × Nat
def pm_bd (nm : pm_N) (b x : Nat) (v : pm_V) (o : Nat) : pm_N := fun i => if i = b + 1 then (x, v, o) else nm i
def pm_look (nm : pm_N) : List Nat → Nat → Nat → Option pm_V
  | [], _, _ => none
  | y :: l, x, s => if y = x then some (nm s).2.1 else pm_look nm l x (nm s).2.2
def pm_rk (k : Nat) (a c : Int32) : Int32 := if k = 53 then a + c else if k = 54 then a - c else if k = 55 then a * c else if a < c then 1 else 0
def pm_go (m : pm_M) (K : List pm_F) (sg : List (List pm_F)) (nm : pm_N) (b : Nat) (out : Nat → Int32) (oc cc mo : Nat) : pm_S := (m, K, sg, nm, b, out, oc, cc, max mo K.length, 0)
noncomputable def pm_evl (t : Nat → Nat) (p s : Nat) (K : List pm_F) (sg : List (List pm_F)) (nm : pm_N) (b : Nat) (out : Nat → Int32) (oc cc mo : Nat) : pm_S :=
  if t p < 40 then
    match pm_look nm (tx_G t p) (t p % 10) s with
    | none => (.inl (p, s), K, sg, nm, b, out, oc, cc, mo, 2)
    | some v => pm_go (.inr v) K sg nm b out oc cc mo
  else if t p < 50 then pm_go (.inr (.inr (.inl (s, p)))) K sg nm b out oc cc mo
  else if t p < 70 then
    if K.length = 16 then (.inl (p, s), K, sg, nm, b, out, oc, cc, mo, 4)
    else pm_go (.inl (p + 1, s)) ((if t p = 59 then none else some (p, s, none)) :: K) sg nm b out oc cc mo
  else if t p < 80 then
    if sg.length = 8 then (.inl (p, s), K, sg, nm, b, out, oc, cc, mo, 3)
    else pm_go (.inl (p + 1, b + 1)) (K.dropWhile Option.isSome) (sg ++ [K.takeWhile Option.isSome]) (pm_bd nm b (t p % 10) (.inr (.inr sg.length)) s) (b + 1) out oc cc mo
  else pm_go (.inr (.inl (nI (t p) - 100))) K sg nm b out oc cc mo
noncomputable def pm_cal (t : Nat → Nat) (w v : pm_V) (K : List pm_F) (sg : List (List pm_F)) (nm : pm_N) (b : Nat) (out : Nat → Int32) (oc cc mo : Nat) : pm_S :=
  match w with
  | .inl _ => (.inr v, K, sg, nm, b, out, oc, cc, mo, 2)
  | .inr (.inl (s, p)) =>
    if cc = 40 then (.inr v, K, sg, nm, b, out, oc, cc, mo, 3)
    else pm_go (.inl (p + 1, b + 1)) K sg (pm_bd nm b (t p % 10) v s) (b + 1) out oc (cc + 1) mo
  | .inr (.inr j) =>
    if cc = 40 then (.inr v, K, sg, nm, b, out, oc, cc, mo, 3)
    else if 16 < K.length + 1 + (sg.getD j []).length then (.inr v, K, sg, nm, b, out, oc, cc + 1, mo, 4)
    else pm_go (.inr v) (sg.getD j [] ++ none :: K) sg nm b out oc (cc + 1) mo
noncomputable def pm_hnd (t : Nat → Nat) (v : pm_V) (K : List pm_F) (sg : List (List pm_F)) (nm : pm_N) (b : Nat) (out : Nat → Int32) (oc cc mo : Nat) : pm_S :=
  match K with
  | [] => (.inr v, [], sg, nm, b, out, oc, cc, mo, 1)
  | none :: K => if K.length = 0 then (.inr v, K, sg, nm, b, out, oc, cc, mo, 1) else pm_go (.inr v) K sg nm b out oc cc mo
  | some (p, s, o) :: K =>
    if t p < 57 then
      match o with
      | none => pm_go (.inl (tx_e t (p + 1), s)) (some (p, s, some v) :: K) sg nm b out oc cc mo
      | some w =>
        if t p = 52 then pm_cal t w v K sg nm b out oc cc mo
        else match w, v with
          | .inl a, .inl c => pm_go (.inr (.inl (pm_rk (t p) a c))) K sg nm b out oc cc mo
          | _, _ => (.inr v, K, sg, nm, b, out, oc, cc, mo, 2)
    else if t p < 58 then
      match v with
      | .inl a => pm_go (.inl (if a = 0 then tx_e t (tx_e t (p + 1)) else tx_e t (p + 1), s)) K sg nm b out oc cc mo
      | .inr _ => (.inr v, K, sg, nm, b, out, oc, cc, mo, 2)
    else if t p < 60 then
      match v with
      | .inl a => if oc = 16 then (.inr v, K, sg, nm, b, out, oc, cc, mo, 5) else pm_go (.inr (.inl a)) K sg nm b (upd out oc a) (oc + 1) cc mo
      | .inr _ => (.inr v, K, sg, nm, b, out, oc, cc, mo, 2)
    else pm_go (.inl (tx_e t (p + 1), b + 1)) K sg (pm_bd nm b (t p % 10) v s) (b + 1) out oc cc mo
noncomputable def pm_step (t : Nat → Nat) (m : pm_M) (K : List pm_F) (sg : List (List pm_F)) (nm : pm_N) (b : Nat) (out : Nat → Int32) (oc cc mo : Nat) : pm_S :=
  match m with
  | .inl (p, s) => pm_evl t p s K sg nm b out oc cc mo
  | .inr v => pm_hnd t v K sg nm b out oc cc mo
/-! what is well formed -/
def pm_Ch (nm : pm_N) (b : Nat) : List Nat → Nat → Prop
  | [], s => s = 0
  | x :: l, s => 0 < s ∧ s ≤ b ∧ (nm s).1 = x ∧ pm_Ch nm b l (nm s).2.2
def pm_v (t : Nat → Nat) (n : Nat) (nm : pm_N) (b c : Nat) : pm_V → Prop
  | .inl _ => True
  | .inr (.inl (s, p)) => p < n ∧ t p / 10 = 4 ∧ pm_Ch nm b (tx_G t p) s
  | .inr (.inr j) => j < c
def pm_o (t : Nat → Nat) (n : Nat) (nm : pm_N) (b c p : Nat) : Option pm_V → Prop
  | none => True
  | some v => t p < 57 ∧ pm_v t n nm b c v
def pm_f (t : Nat → Nat) (n : Nat) (nm : pm_N) (b c : Nat) : pm_F → Prop
  | none => True
  | some (p, s, o) => p < n ∧ (t p / 10 = 5 ∨ t p / 10 = 6) ∧ t p ≠ 59 ∧ pm_Ch nm b (tx_G t p) s ∧ pm_o t n nm b c p o
def pm_m (t : Nat → Nat) (n : Nat) (nm : pm_N) (b c : Nat) : pm_M → Prop
  | .inl (p, s) => p < n ∧ pm_Ch nm b (tx_G t p) s
  | .inr v => pm_v t n nm b c v
def pm_X (nm : pm_N) (b c : Nat) (nm' : pm_N) (b' c' : Nat) : Prop := b ≤ b' ∧ c ≤ c' ∧ ∀ i, i ≤ b → nm' i = nm i
theorem pm_Ch_x {nm nm' : pm_N} {b b' c c' : Nat} (h : pm_X nm b c nm' b' c') : ∀ (l : List Nat) (s : Nat), pm_Ch nm b l s → pm_Ch nm' b' l s := by
  intro l
  induction l with
  | nil => intro s hs; exact hs
  | cons x l ih =>
    intro s hs
    obtain ⟨h1, h2, h3, h4⟩ := hs
    have e := h.2.2 s h2
    refine ⟨h1, Nat.le_trans h2 h.1, by rw [e]; exact h3, ?_⟩
    rw [e]; exact ih _ h4
theorem pm_v_x {t : Nat → Nat} {n : Nat} {nm nm' : pm_N} {b b' c c' : Nat} (h : pm_X nm b c nm' b' c') : ∀ v, pm_v t n nm b c v → pm_v t n nm' b' c' v
  | .inl _, _ => trivial
  | .inr (.inl (_, _)), hv => ⟨hv.1, hv.2.1, pm_Ch_x h _ _ hv.2.2⟩
  | .inr (.inr _), hv => Nat.lt_of_lt_of_le hv h.2.1
theorem pm_o_x {t : Nat → Nat} {n p : Nat} {nm nm' : pm_N} {b b' c c' : Nat} (h : pm_X nm b c nm' b' c') : ∀ o, pm_o t n nm b c p o → pm_o t n nm' b' c' p o
  | none, _ => trivial
  | some v, hv => ⟨hv.1, pm_v_x h v hv.2⟩
theorem pm_f_x {t : Nat → Nat} {n : Nat} {nm nm' : pm_N} {b b' c c' : Nat} (h : pm_X nm b c nm' b' c') : ∀ f, pm_f t n nm b c f → pm_f t n nm' b' c' f
  | none, _ => trivial
  | some (_, _, o), hf => ⟨hf.1, hf.2.1, hf.2.2.1, pm_Ch_x h _ _ hf.2.2.2.1, pm_o_x h o hf.2.2.2.2⟩
theorem pm_X_bd (nm : pm_N) (b c c' x : Nat) (v : pm_V) (o : Nat) (h : c ≤ c') : pm_X nm b c (pm_bd nm b x v o) (b + 1) c' :=
  ⟨by omega, h, fun i hi => by unfold pm_bd; rw [if_neg (by omega)]⟩
theorem pm_bd_s (nm : pm_N) (b x : Nat) (v : pm_V) (o : Nat) : pm_bd nm b x v o (b + 1) = (x, v, o) := by unfold pm_bd; rw [if_pos rfl]
theorem pm_Ch_bd {nm : pm_N} {b x o : Nat} {v : pm_V} {l : List Nat} (h : pm_Ch nm b l o) : pm_Ch (pm_bd nm b x v o) (b + 1) (x :: l) (b + 1) := by
  refine ⟨by omega, Nat.le_refl _, by rw [pm_bd_s], ?_⟩
  rw [pm_bd_s]
  exact pm_Ch_x (pm_X_bd nm b 0 0 x v o (Nat.le_refl _)) l o h
/-- the heap: segments and names -/
def pm_A (t : Nat → Nat) (n : Nat) (sg : List (List pm_F)) (nm : pm_N) (b : Nat) : Prop :=
  sg.length ≤ 8 ∧ (∀ z, z ∈ sg → z.length ≤ 15 ∧ ∀ f, f ∈ z → f.isSome = true ∧ pm_f t n nm b sg.length f) ∧ ∀ i, 1 ≤ i → i ≤ b → pm_v t n nm b sg.length (nm i).2.1
def pm_B (t : Nat → Nat) (n : Nat) (K : List pm_F) (c : Nat) (nm : pm_N) (b : Nat) : Prop :=
  (∀ f, f ∈ K → pm_f t n nm b c f) ∧ K.length ≤ 16 ∧ ∃ K0, K = K0 ++ [none]
noncomputable def pm_cf (t : Nat → Nat) : pm_F → Nat
  | some (p, _, none) => tx_e t p - tx_e t (p + 1) + 1
  | _ => 0
noncomputable def pm_cm (t : Nat → Nat) : pm_M → Nat
  | .inl (p, _) => tx_e t p - p - 1
  | .inr _ => 0
noncomputable def pm_wf (t : Nat → Nat) : pm_F → Nat
  | none => 2
  | some (p, _, none) => 3 * (tx_e t p - tx_e t (p + 1)) + 2
  | some (_, _, some _) => 1
noncomputable def pm_wm (t : Nat → Nat) : pm_M → Nat
  | .inl (p, _) => 3 * (tx_e t p - p)
  | .inr _ => 0
noncomputable def pm_cs (t : Nat → Nat) : List pm_F → Nat
  | [] => 0
  | f :: K => pm_cf t f + pm_cs t K
noncomputable def pm_ws (t : Nat → Nat) : List pm_F → Nat
  | [] => 0
  | f :: K => pm_wf t f + pm_ws t K
noncomputable def pm_w (t : Nat → Nat) (m : pm_M) (K : List pm_F) (cc : Nat) : Nat := pm_wm t m + pm_ws t K + (40 - cc) * 2000
def pm_C (t : Nat → Nat) (m : pm_M) (K : List pm_F) (c b oc cc mo : Nat) : Prop :=
  oc ≤ 16 ∧ cc ≤ 40 ∧ K.length ≤ mo ∧ mo ≤ 16 ∧ 2 * b + pm_cm t m + pm_cs t K + (40 - cc) * 434 + (8 - c) * 2 ≤ 17407
def pm_I (t : Nat → Nat) (n : Nat) (m : pm_M) (K : List pm_F) (sg : List (List pm_F)) (nm : pm_N) (b oc cc mo : Nat) : Prop :=
  pm_m t n nm b sg.length m ∧ pm_B t n K sg.length nm b ∧ pm_A t n sg nm b ∧ pm_C t m K sg.length b oc cc mo
/-- if it goes on: well formed again, and less is left to do -/
def pm_J (t : Nat → Nat) (n w : Nat) : pm_S → Prop
  | (m, K, sg, nm, b, _, oc, cc, mo, st) => st = 0 → pm_I t n m K sg nm b oc cc mo ∧ pm_w t m K cc < w
