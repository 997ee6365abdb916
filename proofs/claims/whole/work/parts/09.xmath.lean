/-! Math.max, Math.min -/
def gt_mx : gt_G := fun as σ => match as with
  | [.int x, .int y] => some (some (.int (if x < y then y else x)), σ)
  | _ => none
def gt_mn : gt_G := fun as σ => match as with
  | [.int x, .int y] => some (some (.int (if y < x then y else x)), σ)
  | _ => none
def gt_mxl : gt_G := fun as σ => match as with
  | [.long x, .long y] => some (some (.long (if y < x then x else y)), σ)
  | _ => none
def gt_mnl : gt_G := fun as σ => match as with
  | [.long x, .long y] => some (some (.long (if y < x then y else x)), σ)
  | _ => none
theorem gt_aMx {l : Launch} {ks : List gt_K} {cc : ByteArray} {nL : Nat} {own : String} {R : Room} {idx : Nat} (hl : Cond.methodLink own idx Lib.Math.max.name ∈ gt_T) (hst : Cond.static Lib.Math.max.name ∈ gt_T) (hini : Cond.initialized "java/lang/Math" ∈ gt_T) (hc : Cond.code Lib.Math.max.name Lib.Math.max.code 2 (some .int) ∈ gt_T) (hf : 1 ≤ R.frames) (hlo : 21 ≤ R.locals) : gt_ckA l ks cc nL own R (idx, 1, 2, gt_mx) := by
  intro p e s m args below meth c Q D cA ad A H0 tx X
  obtain ⟨hx, hb, hml, hown, hts, hK, hDD, hA, hN⟩ := X
  intro pc lv as rest σ σ' r hdg hlen hfs hsum hJ
  dsimp only at hfs
  unfold gt_mx at hfs
  split at hfs
  · cases hfs
    intro ht ls H locs hlv hP hS
    exact va_mmax (rest := rest.map (gt_v ad)) hx hb (by rw [hml]; exact hlv.1.symm) hown (hts _ hl) (hts _ hst) (hts _ hini) (hts _ hc) hf (by rw [gt_sum_map]; omega) (Nat.zero_le _) (Nat.zero_le _) hdg (hJ ht ls H locs hlv hP hS)
  · cases hfs
theorem gt_aMn {l : Launch} {ks : List gt_K} {cc : ByteArray} {nL : Nat} {own : String} {R : Room} {idx : Nat} (hl : Cond.methodLink own idx Lib.Math.min.name ∈ gt_T) (hst : Cond.static Lib.Math.min.name ∈ gt_T) (hini : Cond.initialized "java/lang/Math" ∈ gt_T) (hc : Cond.code Lib.Math.min.name Lib.Math.min.code 2 (some .int) ∈ gt_T) (hf : 1 ≤ R.frames) (hlo : 21 ≤ R.locals) : gt_ckA l ks cc nL own R (idx, 1, 2, gt_mn) := by
  intro p e s m args below meth c Q D cA ad A H0 tx X
  obtain ⟨hx, hb, hml, hown, hts, hK, hDD, hA, hN⟩ := X
  intro pc lv as rest σ σ' r hdg hlen hfs hsum hJ
  dsimp only at hfs
  unfold gt_mn at hfs
  split at hfs
  · cases hfs
    intro ht ls H locs hlv hP hS
    exact va_mmin (rest := rest.map (gt_v ad)) hx hb (by rw [hml]; exact hlv.1.symm) hown (hts _ hl) (hts _ hst) (hts _ hini) (hts _ hc) hf (by rw [gt_sum_map]; omega) (Nat.zero_le _) (Nat.zero_le _) hdg (hJ ht ls H locs hlv hP hS)
  · cases hfs
theorem gt_aMxl {l : Launch} {ks : List gt_K} {cc : ByteArray} {nL : Nat} {own : String} {R : Room} {idx : Nat} (hl : Cond.methodLink own idx Lib.MathLoose.max_long.x ∈ gt_T) (hst : Cond.static Lib.MathLoose.max_long.x ∈ gt_T) (hini : Cond.initialized "java/lang/Math" ∈ gt_T) (hc : Cond.code Lib.MathLoose.max_long.x Lib.MathLoose.max_long.code 4 (some .long) ∈ gt_T) (hf : 1 ≤ R.frames) (hlo : 23 ≤ R.locals) : gt_ckA l ks cc nL own R (idx, 1, 2, gt_mxl) := by
  intro p e s m args below meth c Q D cA ad A H0 tx X
  obtain ⟨hx, hb, hml, hown, hts, hK, hDD, hA, hN⟩ := X
  intro pc lv as rest σ σ' r hdg hlen hfs hsum hJ
  dsimp only at hfs
  unfold gt_mxl at hfs
  split at hfs
  · cases hfs
    intro ht ls H locs hlv hP hS
    exact va_mmax_long (rest := rest.map (gt_v ad)) hx hb (by rw [hml]; exact hlv.1.symm) hown (hts _ hl) (hts _ hst) (hts _ hini) (hts _ hc) hf (by rw [gt_sum_map]; omega) (Nat.zero_le _) (Nat.zero_le _) hdg (hJ ht ls H locs hlv hP hS)
  · cases hfs
theorem gt_aMnl {l : Launch} {ks : List gt_K} {cc : ByteArray} {nL : Nat} {own : String} {R : Room} {idx : Nat} (hl : Cond.methodLink own idx Lib.MathLoose.min_long.x ∈ gt_T) (hst : Cond.static Lib.MathLoose.min_long.x ∈ gt_T) (hini : Cond.initialized "java/lang/Math" ∈ gt_T) (hc : Cond.code Lib.MathLoose.min_long.x Lib.MathLoose.min_long.code 4 (some .long) ∈ gt_T) (hf : 1 ≤ R.frames) (hlo : 23 ≤ R.locals) : gt_ckA l ks cc nL own R (idx, 1, 2, gt_mnl) := by
  intro p e s m args below meth c Q D cA ad A H0 tx X
  obtain ⟨hx, hb, hml, hown, hts, hK, hDD, hA, hN⟩ := X
  intro pc lv as rest σ σ' r hdg hlen hfs hsum hJ
  dsimp only at hfs
  unfold gt_mnl at hfs
  split at hfs
  · cases hfs
    intro ht ls H locs hlv hP hS
    exact va_mmin_long (rest := rest.map (gt_v ad)) hx hb (by rw [hml]; exact hlv.1.symm) hown (hts _ hl) (hts _ hst) (hts _ hini) (hts _ hc) hf (by rw [gt_sum_map]; omega) (Nat.zero_le _) (Nat.zero_le _) hdg (hJ ht ls H locs hlv hP hS)
  · cases hfs
