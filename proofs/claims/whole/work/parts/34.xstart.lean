/-! run of the component -/
variable {tc pe lc uc tk rc pc en : Int32} {va : Int64} {oc cc sc dp ed : Int32} {T ES HP FT FE : Nat → Int32} {FF : Nat → Int64} {SZ : Nat → Int32} {CV : Nat → Int64} {CN MK RE OU : Nat → Int32}
def rn_nm : pm_N := fun _ => (0, .inl 0, 0)
noncomputable def rn_S (t : Nat → Nat) (out : Nat → Int32) : pm_S := pm_fin t 90001 (.inl (0, 0), [none], [], rn_nm, 0, out, 0, 0, 1, 0)
theorem rx_run {post : Int32 → SX → Prop} {t : Nat → Nat} {n R : Nat} (W : tx_W t n) (hT : tx_T T t n) (hn : n ≤ 32) (hR : 1 ≤ R) (hR2 : R ≤ 1000)
    (h : ∀ u, xr_End n T (rn_S t OU) u → post (nI (pm_e (rn_S t OU))) u) : wpX_run post (nI n, pe, lc, uc, tk, rc, pc, en, va, oc, cc, sc, dp, ed, T, ES, HP, FT, FE, FF, SZ, CV, CN, MK, RE, OU) (nI R) := by
  unfold wpX_run
  refine pk_lt R 1 (fun z => by omega) (fun _ => pk_lt 1000 R (fun z => by omega) (fun _ => ?_))
  refine xt_complete W.2 hT hn (fun _ => br_f (by decide) ?_) (fun z => absurd W z)
  refine xh_compile W hT hn (fun ES' HP' hE hH => ?_)
  unfold wpX_forgetRun
  show wpX_startRun _ _
  unfold wpX_startRun
  refine xw_push (k := 0) (by decide) ⟨90002, ?_⟩
  obtain ⟨I0, w0⟩ := kp_0 W hn rn_nm
  have P : xr_P (.inl (0, 0)) [none] [] rn_nm 0 (nI 1) (nI 8) (nI 0) (nI 0) (nI 0) 0 (upd FT 0 (-1)) (upd FE 0 0) (vp_updL FF 0 0) SZ CV CN := by
    refine ⟨fun _ => False, fun _ => 0, [], 8, rfl, rfl, Nat.le_refl _, Nat.le_refl _, rfl, ⟨⟨?_, ?_, ?_⟩, True.intro⟩, fun x hx => absurd hx (fun z => z), fun x hx => absurd hx (fun z => z), ⟨True.intro, List.nodup_nil, fun x hx => absurd hx (by simp)⟩, rfl, 0, rfl, Or.inl ⟨rfl, rfl⟩⟩
    · exact pk_us
    · exact pk_us
    · exact pk_uLs
  exact xl_run W hT hn hE hH hR hR2 90001 0 (.inl (0, 0)) [none] [] rn_nm 0 0 0 1 (nI 1) (nI 8) (nI 0) rc (nI 0) (nI 0) 0 _ _ _ SZ CV CN MK RE OU 0 0 I0 (by omega) (by omega) P (by omega) (by omega) rfl (fun _ => ⟨0, 0, rfl⟩) h
theorem rx_bad {post : Int32 → SX → Prop} {t : Nat → Nat} {n : Nat} {r : Int32} (B : tx_B t n) (hT : tx_T T t n) (hn : n ≤ 32) (hr : ¬ tx_W t n ∨ r < 1 ∨ 1000 < r) (h : post (-1) (nI n, pe, lc, uc, tk, rc, pc, en, va, oc, cc, sc, dp, ed, T, ES, HP, FT, FE, FF, SZ, CV, CN, MK, RE, OU)) : wpX_run post (nI n, pe, lc, uc, tk, rc, pc, en, va, oc, cc, sc, dp, ed, T, ES, HP, FT, FE, FF, SZ, CV, CN, MK, RE, OU) r := by
  unfold wpX_run
  refine br_c (fun _ => h) (fun z1 => br_c (fun _ => h) (fun z2 => xt_complete B hT hn (fun W => ?_) (fun _ => br_t rfl h)))
  rcases hr with z | z | z
  · exact absurd W z
  · exact absurd z z1
  · exact absurd z z2
