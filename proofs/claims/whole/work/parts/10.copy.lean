/-! System.arraycopy -/
def gt_cpy {α : Type} (f : Nat → Nat → α) (a sp b dp n : Nat) : Nat → Nat → α := fun j k => if j = b then va_cpy (f a) (f b) sp dp n k else f j k
def gt_acp (ks : gt_KS) : gt_G := fun as σ => match as with
  | [.ref a, .int sp, .ref b, .int dp, .int n] => (match gt_kd ks σ.2.2.2 a, gt_kd ks σ.2.2.2 b with
    | some (.inl (.int, n0, _)), some (.inl (.int, n1, _)) => if sp < 0 ∨ dp < 0 ∨ n < 0 ∨ n0 < sp.toNatClampNeg + n.toNatClampNeg ∨ n1 < dp.toNatClampNeg + n.toNatClampNeg then none else some (none, (gt_cpy σ.1 a sp.toNatClampNeg b dp.toNatClampNeg n.toNatClampNeg, σ.2))
    | some (.inl (.long, n0, _)), some (.inl (.long, n1, _)) => if sp < 0 ∨ dp < 0 ∨ n < 0 ∨ n0 < sp.toNatClampNeg + n.toNatClampNeg ∨ n1 < dp.toNatClampNeg + n.toNatClampNeg then none else some (none, (σ.1, gt_cpy σ.2.1 a sp.toNatClampNeg b dp.toNatClampNeg n.toNatClampNeg, σ.2.2))
    | _, _ => none)
  | _ => none
theorem gt_cpy_ne {α : Type} {f : Nat → Nat → α} {a sp b dp n i : Nat} (h : i ≠ b) : gt_cpy f a sp b dp n i = f i := by
  funext k
  simp [gt_cpy, h]
theorem gt_cpy_self {α : Type} {f : Nat → Nat → α} {a sp b dp n : Nat} : gt_cpy f a sp b dp n b = va_cpy (f a) (f b) sp dp n := by
  funext k
  simp [gt_cpy]
theorem gt_aCp {l : Launch} {ks : gt_KS} {cc : ByteArray} {nL : Nat} {own : String} {R : Room} {idx : Nat} (hl : Cond.methodLink own idx arraycopyName ∈ gt_T) (hnat : Cond.native arraycopyName ∈ gt_T) (hst : Cond.static arraycopyName ∈ gt_T) (hini : Cond.initialized "java/lang/System" ∈ gt_T) (hf : 1 ≤ R.frames) (hlo : 8 + (nativeFrameWords "java/lang/System" "arraycopy" 5 + 11) ≤ R.locals) : gt_ckA l ks cc nL own R (idx, 1, 0, 5, gt_acp ks) := by
  intro p e s m args below meth c Q D cA ad A H0 tx X
  obtain ⟨hx, hb, hml, hown, hts, hK, hDD, hA, hN⟩ := X
  intro pc lv as rest σ σ' r hdg hlen hfs hsum hJ
  dsimp only at hfs
  unfold gt_acp at hfs
  split at hfs
  · rename_i a sp b dp n
    split at hfs
    · rename_i n0 rs0 n1 rs1 ha hb2
      split at hfs
      · cases hfs
      · rename_i hno
        cases hfs
        intro ht ls H locs hlv hP hS
        refine va_copyi (rest := rest.map (gt_v ad)) hx hb (by rw [hml]; exact hlv.1.symm) hown (hts _ hl) (hts _ hnat) (hts _ hst) (hts _ hini) hK hP (hDD σ ht) hS a b 0 0 (gt_w_at (cA := cA) (ad := ad) ha) (gt_w_at (cA := cA) (ad := ad) hb2) rfl rfl rfl (fun q => hno (Or.inl q)) (fun q => hno (Or.inr (Or.inl q))) (fun q => hno (Or.inr (Or.inr (Or.inl q)))) (Nat.not_lt.mp fun q => hno (Or.inr (Or.inr (Or.inr (Or.inl q))))) (Nat.not_lt.mp fun q => hno (Or.inr (Or.inr (Or.inr (Or.inr q))))) (fun _ _ => rfl) hf (by rw [gt_sum_map]; omega) hdg (fun H1 locs1 hP1 _ hS1 => ?_)
        refine hJ ht ls H1 locs1 hlv ?_ hS1
        rw [← gt_w_set (cA := cA) (ad := ad) (σ := σ) (σ' := (gt_cpy σ.1 a sp.toNatClampNeg b dp.toNatClampNeg n.toNatClampNeg, σ.2)) rfl (fun i hi => ⟨gt_cpy_ne hi, rfl, rfl⟩) hb2]
        unfold gt_c gt_ct
        dsimp only
        rw [gt_cpy_self]
        exact hP1
    · rename_i n0 rs0 n1 rs1 ha hb2
      split at hfs
      · cases hfs
      · rename_i hno
        cases hfs
        intro ht ls H locs hlv hP hS
        refine va_copyl (rest := rest.map (gt_v ad)) hx hb (by rw [hml]; exact hlv.1.symm) hown (hts _ hl) (hts _ hnat) (hts _ hst) (hts _ hini) hK hP (hDD σ ht) hS a b 1 1 (gt_w_at (cA := cA) (ad := ad) ha) (gt_w_at (cA := cA) (ad := ad) hb2) rfl rfl rfl (fun q => hno (Or.inl q)) (fun q => hno (Or.inr (Or.inl q))) (fun q => hno (Or.inr (Or.inr (Or.inl q)))) (Nat.not_lt.mp fun q => hno (Or.inr (Or.inr (Or.inr (Or.inl q))))) (Nat.not_lt.mp fun q => hno (Or.inr (Or.inr (Or.inr (Or.inr q))))) (fun _ _ => rfl) hf (by rw [gt_sum_map]; omega) hdg (fun H1 locs1 hP1 _ hS1 => ?_)
        refine hJ ht ls H1 locs1 hlv ?_ hS1
        rw [← gt_w_set (cA := cA) (ad := ad) (σ := σ) (σ' := (σ.1, gt_cpy σ.2.1 a sp.toNatClampNeg b dp.toNatClampNeg n.toNatClampNeg, σ.2.2)) rfl (fun i hi => ⟨rfl, gt_cpy_ne hi, rfl⟩) hb2]
        unfold gt_c gt_ct
        dsimp only
        rw [gt_cpy_self]
        exact hP1
    · cases hfs
  · cases hfs
/-! Math.max, Math.min -/
def gt_mx : gt_G := fun as σ => match as with
  | [.int x, .int y] => some (some (.int (if x < y then y else x)), σ)
  | _ => none
def gt_mn : gt_G := fun as σ => match as with
  | [.int x, .int y] => some (some (.int (if y < x then y else x)), σ)
  | _ => none
def gt_mxl : gt_G := fun as σ => match as with
  | [.long x, .long y] => some (some (.long (if y < x then x else y)), σ)
  | _ => none
def gt_mnl : gt_G := fun as σ => match as with
  | [.long x, .long y] => some (some (.long (if y < x then y else x)), σ)
  | _ => none
theorem gt_aMx {l : Launch} {ks : gt_KS} {cc : ByteArray} {nL : Nat} {own : String} {R : Room} {idx : Nat} (hl : Cond.methodLink own idx Lib.Math.max.name ∈ gt_T) (hst : Cond.static Lib.Math.max.name ∈ gt_T) (hini : Cond.initialized "java/lang/Math" ∈ gt_T) (hc : Cond.code Lib.Math.max.name Lib.Math.max.code 2 (some .int) ∈ gt_T) (hf : 1 ≤ R.frames) (hlo : 21 ≤ R.locals) : gt_ckA l ks cc nL own R (idx, 1, 1, 2, gt_mx) := by
  intro p e s m args below meth c Q D cA ad A H0 tx X
  obtain ⟨hx, hb, hml, hown, hts, hK, hDD, hA, hN⟩ := X
  intro pc lv as rest σ σ' r hdg hlen hfs hsum hJ
  dsimp only at hfs
  unfold gt_mx at hfs
  split at hfs
  · cases hfs
    intro ht ls H locs hlv hP hS
    exact va_mmax (rest := rest.map (gt_v ad)) hx hb (by rw [hml]; exact hlv.1.symm) hown (hts _ hl) (hts _ hst) (hts _ hini) (hts _ hc) hf (by rw [gt_sum_map]; omega) (Nat.zero_le _) (Nat.zero_le _) hdg (hJ ht ls H locs hlv hP hS)
  · cases hfs
theorem gt_aMn {l : Launch} {ks : gt_KS} {cc : ByteArray} {nL : Nat} {own : String} {R : Room} {idx : Nat} (hl : Cond.methodLink own idx Lib.Math.min.name ∈ gt_T) (hst : Cond.static Lib.Math.min.name ∈ gt_T) (hini : Cond.initialized "java/lang/Math" ∈ gt_T) (hc : Cond.code Lib.Math.min.name Lib.Math.min.code 2 (some .int) ∈ gt_T) (hf : 1 ≤ R.frames) (hlo : 21 ≤ R.locals) : gt_ckA l ks cc nL own R (idx, 1, 1, 2, gt_mn) := by
  intro p e s m args below meth c Q D cA ad A H0 tx X
  obtain ⟨hx, hb, hml, hown, hts, hK, hDD, hA, hN⟩ := X
  intro pc lv as rest σ σ' r hdg hlen hfs hsum hJ
  dsimp only at hfs
  unfold gt_mn at hfs
  split at hfs
  · cases hfs
    intro ht ls H locs hlv hP hS
    exact va_mmin (rest := rest.map (gt_v ad)) hx hb (by rw [hml]; exact hlv.1.symm) hown (hts _ hl) (hts _ hst) (hts _ hini) (hts _ hc) hf (by rw [gt_sum_map]; omega) (Nat.zero_le _) (Nat.zero_le _) hdg (hJ ht ls H locs hlv hP hS)
  · cases hfs
theorem gt_aMxl {l : Launch} {ks : gt_KS} {cc : ByteArray} {nL : Nat} {own : String} {R : Room} {idx : Nat} (hl : Cond.methodLink own idx Lib.MathLoose.max_long.x ∈ gt_T) (hst : Cond.static Lib.MathLoose.max_long.x ∈ gt_T) (hini : Cond.initialized "java/lang/Math" ∈ gt_T) (hc : Cond.code Lib.MathLoose.max_long.x Lib.MathLoose.max_long.code 4 (some .long) ∈ gt_T) (hf : 1 ≤ R.frames) (hlo : 23 ≤ R.locals) : gt_ckA l ks cc nL own R (idx, 1, 2, 2, gt_mxl) := by
  intro p e s m args below meth c Q D cA ad A H0 tx X
  obtain ⟨hx, hb, hml, hown, hts, hK, hDD, hA, hN⟩ := X
  intro pc lv as rest σ σ' r hdg hlen hfs hsum hJ
  dsimp only at hfs
  unfold gt_mxl at hfs
  split at hfs
  · cases hfs
    intro ht ls H locs hlv hP hS
    exact va_mmax_long (rest := rest.map (gt_v ad)) hx hb (by rw [hml]; exact hlv.1.symm) hown (hts _ hl) (hts _ hst) (hts _ hini) (hts _ hc) hf (by rw [gt_sum_map]; omega) (Nat.zero_le _) (Nat.zero_le _) hdg (hJ ht ls H locs hlv hP hS)
  · cases hfs
theorem gt_aMnl {l : Launch} {ks : gt_KS} {cc : ByteArray} {nL : Nat} {own : String} {R : Room} {idx : Nat} (hl : Cond.methodLink own idx Lib.MathLoose.min_long.x ∈ gt_T) (hst : Cond.static Lib.MathLoose.min_long.x ∈ gt_T) (hini : Cond.initialized "java/lang/Math" ∈ gt_T) (hc : Cond.code Lib.MathLoose.min_long.x Lib.MathLoose.min_long.code 4 (some .long) ∈ gt_T) (hf : 1 ≤ R.frames) (hlo : 23 ≤ R.locals) : gt_ckA l ks cc nL own R (idx, 1, 2, 2, gt_mnl) := by
  intro p e s m args below meth c Q D cA ad A H0 tx X
  obtain ⟨hx, hb, hml, hown, hts, hK, hDD, hA, hN⟩ := X
  intro pc lv as rest σ σ' r hdg hlen hfs hsum hJ
  dsimp only at hfs
  unfold gt_mnl at hfs
  split at hfs
  · cases hfs
    intro ht ls H locs hlv hP hS
    exact va_mmin_long (rest := rest.map (gt_v ad)) hx hb (by rw [hml]; exact hlv.1.symm) hown (hts _ hl) (hts _ hst) (hts _ hini) (hts _ hc) hf (by rw [gt_sum_map]; omega) (Nat.zero_le _) (Nat.zero_le _) hdg (hJ ht ls H locs hlv hP hS)
  · cases hfs
