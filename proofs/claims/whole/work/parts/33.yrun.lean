/-! the reference's loop -/
variable {sz st so rs sh ca sf mo fr sp tp de bo pc sc ha vk va : Int32} {T PA PL SE AR KI VA OU TA NA NK NV NO : Nat → Int32}
def yr_W (so rs : Int32) : pm_V → Prop
  | .inl a => so = 1 ∧ rs = a
  | .inr _ => so = 2 ∧ rs = 0
def yr_End (n : Nat) (T : Nat → Int32) (S : pm_S) (v : SY) : Prop := match S, v with
  | (m, _, sg, _, _, out, o1, c1, mm, e), (sz, st, so, rs, sh, ca, sf, mo, _, _, _, _, _, _, _, _, _, _, T', PA, _, _, _, _, _, _, _, _, _, _, _) =>
    sz = nI n ∧ T' = T ∧ sh = nI o1 ∧ PA = out ∧ ca = nI c1 ∧ sf = nI sg.length ∧ mo = nI mm ∧ st = nI e ∧ (e = 1 → ∃ w, m = .inr w ∧ yr_W so rs w) ∧ (¬ e = 1 → so = 0 ∧ rs = 0)
theorem yl_exit {post : Int32 → SY → Prop} {n N : Nat} {m : pm_M} {K : List pm_F} {sg : List (List pm_F)} {nm : pm_N} {b : Nat} {out T0 : Nat → Int32} {o1 c1 mm e : Nat} (he : e < 10) (h0 : ¬ e = 0) (R : yr_R n T0 (m, K, sg, nm, b, out, o1, c1, mm, e) (sz, st, so, rs, sh, ca, sf, mo, fr, sp, tp, de, bo, pc, sc, ha, vk, va, T, PA, PL, SE, AR, KI, VA, OU, TA, NA, NK, NV, NO))
    (h : ∀ v, yr_End n T0 (m, K, sg, nm, b, out, o1, c1, mm, e) v → post (nI e) v) : wY_run_65 post (N + 2) sz st so rs sh ca sf mo fr sp tp de bo pc sc ha vk va T PA PL SE AR KI VA OU TA NA NK NV NO := by
  obtain ⟨q1, q2, q3, q4, q5, q6, q7, q8, q9, q10⟩ := R
  subst q1 q2 q3 q4 q5 q6 q7
  by_cases c : e = 1
  · obtain ⟨r1, r2, r3, w, r4, r5⟩ := q9 c
    subst r1 r2 r3 c
    refine br_t rfl (br_f (by decide) ?_)
    refine br_t rfl (br_f (by decide) (br_t rfl ?_))
    show wY_run_65 post (N + 1) (nI n) 1 so rs (nI o1) (nI c1) (nI sg.length) (nI mm) fr sp 0 de bo pc sc 1 vk va T PA PL SE AR KI VA OU TA NA NK NV NO
    refine br_f (by decide) (br_t rfl ?_)
    rcases w with a | w
    · obtain ⟨w1, w2⟩ := r5
      subst w1 w2
      exact br_t rfl (br_t rfl (h _ ⟨rfl, rfl, rfl, rfl, rfl, rfl, rfl, rfl, fun _ => ⟨_, r4, rfl, rfl⟩, fun z => absurd rfl z⟩))
    · have hvk : ¬ vk = 1 := by
        rcases w with ⟨s, p⟩ | j
        · rw [r5.1]; decide
        · rw [r5.1]; decide
      exact br_f hvk (br_f (by decide) (h _ ⟨rfl, rfl, rfl, rfl, rfl, rfl, rfl, rfl, fun _ => ⟨_, r4, rfl, rfl⟩, fun z => absurd rfl z⟩))
  · have hs := q10 (by omega)
    subst hs
    refine br_f (nI_ne0 (by omega) (by omega)) (br_f (fun z => ?_) (br_f (by decide) (h _ ⟨rfl, rfl, rfl, rfl, rfl, rfl, rfl, rfl, fun z => absurd z c, fun _ => ⟨rfl, rfl⟩⟩)))
    have z' : nI e = nI 1 := z
    rw [nI_eq (by omega) (by omega)] at z'
    exact c z'
theorem yl_run {post : Int32 → SY → Prop} {t : Nat → Nat} {n : Nat} (W : tx_W t n) (hT : tx_T T t n) (hn : n ≤ 32) :
    ∀ (w : Nat) (m : pm_M) (K : List pm_F) (sg : List (List pm_F)) (nm : pm_N) (b o1 c1 mm : Nat) (so rs fr sp tp pc sc ha vk va : Int32) (PA PL SE AR KI VA OU TA NA NK NV NO : Nat → Int32),
      pm_I t n m K sg nm b o1 c1 mm → pm_w t m K c1 < w → yr_P K sg fr sp tp PL SE AR KI VA OU TA → yn_N NA NK NV NO nm b → yr_M sc pc ha vk va m →
      (∀ v, yr_End n T (pm_fin t w (m, K, sg, nm, b, PA, o1, c1, mm, 0)) v → post (nI (pm_e (pm_fin t w (m, K, sg, nm, b, PA, o1, c1, mm, 0)))) v) →
      wY_run_65 post (w + 2) (nI n) 0 so rs (nI o1) (nI c1) (nI sg.length) (nI mm) fr sp tp (nI K.length) (nI b) pc sc ha vk va T PA PL SE AR KI VA OU TA NA NK NV NO := by
  have hk : ∀ i, i < n → tx_tok (t i) := fun i hi => (hT i hi).2
  intro w
  induction w with
  | zero => intro m K sg nm b o1 c1 mm so rs fr sp tp pc sc ha vk va PA PL SE AR KI VA OU TA NA NK NV NO _ hw; omega
  | succ w ih =>
    intro m K sg nm b o1 c1 mm so rs fr sp tp pc sc ha vk va PA PL SE AR KI VA OU TA NA NK NV NO I hw P N M h
    have J := kp_step W hn hk (out := PA) I
    have A : ∀ v, yr_R n T (pm_step t m K sg nm b PA o1 c1 mm) v → match v with | (sz, st, so, rs, sh, ca, sf, mo, fr, sp, tp, de, bo, pc, sc, ha, vk, va, T, PA, PL, SE, AR, KI, VA, OU, TA, NA, NK, NV, NO) => wY_run_65 post (w + 2) sz st so rs sh ca sf mo fr sp tp de bo pc sc ha vk va T PA PL SE AR KI VA OU TA NA NK NV NO := by
      intro v Q
      rw [pm_fin0] at h
      have he : pm_e (pm_step t m K sg nm b PA o1 c1 mm) < 10 := xl_e
      generalize pm_step t m K sg nm b PA o1 c1 mm = S at J h Q he
      obtain ⟨m', K', sg', nm', b', out', o', c', mm', e'⟩ := S
      obtain ⟨sz, st, so, rs, sh, ca, sf, mo, fr, sp, tp, de, bo, pc, sc, ha, vk, va, T2, PA2, PL, SE, AR, KI, VA, OU, TA, NA, NK, NV, NO⟩ := v
      by_cases c : e' = 0
      · subst c
        obtain ⟨I2, w2⟩ := J rfl
        obtain ⟨q1, q2, q3, q4, q5, q6, q7, q8, _, _⟩ := Q
        obtain ⟨r1, r2, r3, r4, r5, r6⟩ := q8 rfl
        subst q1 q2 q3 q4 q5 q6 q7 r1 r2 r3
        exact ih m' K' sg' nm' b' o' c' mm' so rs fr sp tp pc sc ha vk va PA2 PL SE AR KI VA OU TA NA NK NV NO I2 (by omega) r4 r5 r6 h
      · have z' : ¬ pm_e (m', K', sg', nm', b', out', o', c', mm', e') = 0 := c
        rw [pm_fin1 t w z'] at h
        exact yl_exit he c Q h
    rcases m with ⟨p, s⟩ | v
    · obtain ⟨m1, m2, m3⟩ := M
      subst m1 m2 m3
      exact br_t rfl (br_t rfl (yw_enter hT hn I P N A))
    · obtain ⟨m1, m2⟩ := M
      subst m1
      exact br_t rfl (br_f (by decide) (yw_hand W hT hn I P N m2 A))
