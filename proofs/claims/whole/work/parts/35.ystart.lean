/-! run of the reference -/
variable {sz st so rs sh ca sf mo fr sp tp de bo pc sc ha vk va : Int32} {T PA PL SE AR KI VA OU TA NA NK NV NO : Nat → Int32}
theorem ry_run {post : Int32 → SY → Prop} {t : Nat → Nat} {n R : Nat} (W : tx_W t n) (hT : tx_T T t n) (hn : n ≤ 32) (hR : 1 ≤ R) (hR2 : R ≤ 1000)
    (h : ∀ u, yr_End n T (rn_S t PA) u → post (nI (pm_e (rn_S t PA))) u) : wpY_run post (nI n, st, so, rs, sh, ca, sf, mo, fr, sp, tp, de, bo, pc, sc, ha, vk, va, T, PA, PL, SE, AR, KI, VA, OU, TA, NA, NK, NV, NO) (nI R) := by
  unfold wpY_run
  refine yt_complete W.2 hT hn (fun _ => br_f (by decide) ?_) (fun z => absurd W z)
  refine pk_lt R 1 (fun z => by omega) (fun _ => pk_le R 1000 (fun _ => ?_) (fun z => by omega))
  unfold wpY_forget
  show wpY_push _ _ _
  have P0 : yr_P [] [] 1 0 0 PL SE AR KI VA OU TA := by
    refine ⟨[], [], [], 1, True.intro, True.intro, True.intro, ⟨rfl, fun j hj => absurd hj (by simp)⟩, ⟨List.nodup_nil, fun x hx => absurd hx (by simp), rfl⟩, by decide, rfl, rfl, rfl⟩
  have B0 : yr_B [] := ⟨by decide, fun z hz => absurd hz (by simp)⟩
  refine yw_push (K := []) (f := none) (m := 0) P0 B0 (by decide) (by decide) rfl (fun fr' sp' tp' PL' SE' AR' OU' P => ⟨90003, ?_⟩)
  obtain ⟨I0, w0⟩ := kp_0 W hn rn_nm
  exact yl_run W hT hn 90001 (.inl (0, 0)) [none] [] rn_nm 0 0 0 1 0 0 fr' sp' tp' 0 0 0 vk va PA PL' SE' AR' KI VA OU' TA NA NK NV NO I0 (by omega) P (fun i h1 h2 => by omega) ⟨rfl, rfl, rfl⟩ h
theorem ry_bad {post : Int32 → SY → Prop} {t : Nat → Nat} {n : Nat} {r : Int32} (B : tx_B t n) (hT : tx_T T t n) (hn : n ≤ 32) (hr : ¬ tx_W t n ∨ r < 1 ∨ 1000 < r) (h : post (-1) (nI n, st, so, rs, sh, ca, sf, mo, fr, sp, tp, de, bo, pc, sc, ha, vk, va, T, PA, PL, SE, AR, KI, VA, OU, TA, NA, NK, NV, NO)) : wpY_run post (nI n, st, so, rs, sh, ca, sf, mo, fr, sp, tp, de, bo, pc, sc, ha, vk, va, T, PA, PL, SE, AR, KI, VA, OU, TA, NA, NK, NV, NO) r := by
  unfold wpY_run
  refine yt_complete B hT hn (fun W => br_f (by decide) (br_c (fun _ => h) (fun z1 => br_c (fun z2 => ?_) (fun _ => h)))) (fun _ => br_t rfl h)
  rcases hr with z | z | z
  · exact absurd W z
  · exact absurd z z1
  · exact absurd z2 (Int32.not_le.mpr z)
