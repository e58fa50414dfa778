/-! the two machines against the pure one -/
def yr_M (sc pc ha vk va : Int32) : pm_M → Prop
  | .inl (p, s) => ha = 0 ∧ pc = nI p ∧ sc = nI s
  | .inr v => ha = 1 ∧ yn_V vk va v
/-- the reference's nodes -/
def yr_P (K : List pm_F) (sg : List (List pm_F)) (fr sp tp : Int32) (PL SE AR KI VA OU TA : Nat → Int32) : Prop :=
  ∃ (ys : List Nat) (zs : List (List Nat)) (ss : List Nat) (fn : Nat), yn_L OU ys ∧ yn_S PL SE AR KI VA ys K ∧ yn_L OU ss ∧ yn_Z OU PL SE AR KI VA TA zs sg ∧ yn_Q ys zs.flatten ss fn ∧ fn ≤ 200 ∧ tp = nI (yn_hd ys) ∧ sp = nI (yn_hd ss) ∧ fr = nI fn
/-- the component's frames and cells -/
def xr_P (m : pm_M) (K : List pm_F) (sg : List (List pm_F)) (nm : pm_N) (b : Nat) (pe lc uc pc en : Int32) (va : Int64) (FT FE : Nat → Int32) (FF : Nat → Int64) (SZ : Nat → Int32) (CV : Nat → Int64) (CN : Nat → Int32) : Prop :=
  ∃ (L : Nat → Prop) (f : Nat → Nat) (fl : List Nat) (ln : Nat), pe = nI K.length ∧ lc = nI ln ∧ 8 ≤ ln ∧ ln ≤ 8 + b ∧ uc = nI (yn_hd fl) ∧ xm_R L f FT FE FF 0 K ∧ xm_G L f FT FE FF SZ sg ∧ xm_H L f CV CN nm b ln ∧ xm_U L CN ln fl ∧
    (match m with
      | .inl (p, s) => pc = nI p ∧ ∃ c, en = nI c ∧ xm_E L f c s
      | .inr v => pc = -1 ∧ xm_V L f va v)
