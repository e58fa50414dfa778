/-! the pure machine to its end -/
def pm_e : pm_S → Nat
  | (_, _, _, _, _, _, _, _, _, e) => e
noncomputable def pm_stp (t : Nat → Nat) : pm_S → pm_S
  | (m, K, sg, nm, b, out, o1, c1, mm, _) => pm_step t m K sg nm b out o1 c1 mm
noncomputable def pm_fin (t : Nat → Nat) : Nat → pm_S → pm_S
  | 0, S => S
  | w + 1, S => if pm_e S = 0 then pm_fin t w (pm_stp t S) else S
theorem pm_fin0 (t : Nat → Nat) (w : Nat) (m : pm_M) (K : List pm_F) (sg : List (List pm_F)) (nm : pm_N) (b : Nat) (out : Nat → Int32) (o1 c1 mm : Nat) : pm_fin t (w + 1) (m, K, sg, nm, b, out, o1, c1, mm, 0) = pm_fin t w (pm_step t m K sg nm b out o1 c1 mm) := by
  rw [pm_fin, if_pos (show pm_e (m, K, sg, nm, b, out, o1, c1, mm, 0) = 0 from rfl)]
  rfl
theorem pm_fin1 (t : Nat → Nat) (w : Nat) {S : pm_S} (h : ¬ pm_e S = 0) : pm_fin t w S = S := by
  rcases w with _ | w
  · rfl
  · rw [pm_fin, if_neg h]
/-- what is noted of the depth -/
def pm_Mm (o1 mm : Nat) : pm_S → Prop
  | (_, K, _, _, _, _, o', _, m', e) => (e = 0 → m' = max mm K.length) ∧ (¬ e = 0 → m' = mm ∧ o' = o1)
theorem pm_Mg {m : pm_M} {K : List pm_F} {sg : List (List pm_F)} {nm : pm_N} {b : Nat} {out : Nat → Int32} {o0 o1 c1 mm : Nat} : pm_Mm o0 mm (pm_go m K sg nm b out o1 c1 mm) := ⟨fun _ => rfl, fun z => absurd rfl z⟩
theorem pm_Ms {m : pm_M} {K : List pm_F} {sg : List (List pm_F)} {nm : pm_N} {b : Nat} {out : Nat → Int32} {o1 c1 mm e : Nat} : pm_Mm o1 mm (m, K, sg, nm, b, out, o1, c1, mm, e + 1) := ⟨fun z => absurd z (by omega), fun _ => ⟨rfl, rfl⟩⟩
theorem pm_Mc {t : Nat → Nat} {w v : pm_V} {K : List pm_F} {sg : List (List pm_F)} {nm : pm_N} {b : Nat} {out : Nat → Int32} {o1 c1 mm : Nat} : pm_Mm o1 mm (pm_cal t w v K sg nm b out o1 c1 mm) := by
  unfold pm_cal
  rcases w with a | ⟨s, p⟩ | j
  · exact pm_Ms
  · dsimp only
    split
    · exact pm_Ms
    · exact pm_Mg
  · dsimp only
    split
    · exact pm_Ms
    · split
      · exact pm_Ms
      · exact pm_Mg
theorem pm_Mh {t : Nat → Nat} {v : pm_V} {K : List pm_F} {sg : List (List pm_F)} {nm : pm_N} {b : Nat} {out : Nat → Int32} {o1 c1 mm : Nat} : pm_Mm o1 mm (pm_hnd t v K sg nm b out o1 c1 mm) := by
  unfold pm_hnd
  rcases K with _ | ⟨_ | ⟨p, s, o⟩, K⟩
  · exact pm_Ms
  · dsimp only
    split
    · exact pm_Ms
    · exact pm_Mg
  · dsimp only
    split
    · rcases o with _ | w
      · exact pm_Mg
      · dsimp only
        split
        · exact pm_Mc
        · rcases w with a | w
          · rcases v with d | v
            · exact pm_Mg
            · exact pm_Ms
          · exact pm_Ms
    · split
      · rcases v with d | v
        · exact pm_Mg
        · exact pm_Ms
      · split
        · rcases v with d | v
          · dsimp only
            split
            · exact pm_Ms
            · exact pm_Mg
          · exact pm_Ms
        · exact pm_Mg
theorem pm_Me {t : Nat → Nat} {p s : Nat} {K : List pm_F} {sg : List (List pm_F)} {nm : pm_N} {b : Nat} {out : Nat → Int32} {o1 c1 mm : Nat} : pm_Mm o1 mm (pm_evl t p s K sg nm b out o1 c1 mm) := by
  unfold pm_evl
  split
  · split
    · exact pm_Ms
    · exact pm_Mg
  · split
    · exact pm_Mg
    · split
      · split
        · exact pm_Ms
        · exact pm_Mg
      · split
        · split
          · exact pm_Ms
          · exact pm_Mg
        · exact pm_Mg
theorem pm_Mt {t : Nat → Nat} {m : pm_M} {K : List pm_F} {sg : List (List pm_F)} {nm : pm_N} {b : Nat} {out : Nat → Int32} {o1 c1 mm : Nat} : pm_Mm o1 mm (pm_step t m K sg nm b out o1 c1 mm) := by
  rcases m with ⟨p, s⟩ | v
  · exact pm_Me
  · exact pm_Mh
theorem xl_ec {t : Nat → Nat} {w v : pm_V} {K : List pm_F} {sg : List (List pm_F)} {nm : pm_N} {b : Nat} {out : Nat → Int32} {o1 c1 mm : Nat} : pm_e (pm_cal t w v K sg nm b out o1 c1 mm) < 10 := by
  unfold pm_cal
  rcases w with a | ⟨s, p⟩ | j
  · exact (by decide : 2 < 10)
  · dsimp only
    split
    · exact (by decide : 3 < 10)
    · exact (by decide : 0 < 10)
  · dsimp only
    split
    · exact (by decide : 3 < 10)
    · split
      · exact (by decide : 4 < 10)
      · exact (by decide : 0 < 10)
theorem xl_e {t : Nat → Nat} {m : pm_M} {K : List pm_F} {sg : List (List pm_F)} {nm : pm_N} {b : Nat} {out : Nat → Int32} {o1 c1 mm : Nat} : pm_e (pm_step t m K sg nm b out o1 c1 mm) < 10 := by
  rcases m with ⟨p, s⟩ | v
  · show pm_e (pm_evl t p s K sg nm b out o1 c1 mm) < 10
    unfold pm_evl
    split
    · split
      · exact (by decide : 2 < 10)
      · exact (by decide : 0 < 10)
    · split
      · exact (by decide : 0 < 10)
      · split
        · split
          · exact (by decide : 4 < 10)
          · exact (by decide : 0 < 10)
        · split
          · split
            · exact (by decide : 3 < 10)
            · exact (by decide : 0 < 10)
          · exact (by decide : 0 < 10)
  · show pm_e (pm_hnd t v K sg nm b out o1 c1 mm) < 10
    unfold pm_hnd
    rcases K with _ | ⟨_ | ⟨p, s, o⟩, K⟩
    · exact (by decide : 1 < 10)
    · dsimp only
      split
      · exact (by decide : 1 < 10)
      · exact (by decide : 0 < 10)
    · dsimp only
      split
      · rcases o with _ | w
        · exact (by decide : 0 < 10)
        · dsimp only
          split
          · exact xl_ec
          · rcases w with a | w
            · rcases v with d | v
              · exact (by decide : 0 < 10)
              · exact (by decide : 2 < 10)
            · exact (by decide : 2 < 10)
      · split
        · rcases v with d | v
          · exact (by decide : 0 < 10)
          · exact (by decide : 2 < 10)
        · split
          · rcases v with d | v
            · dsimp only
              split
              · exact (by decide : 5 < 10)
              · exact (by decide : 0 < 10)
            · exact (by decide : 2 < 10)
          · exact (by decide : 0 < 10)
