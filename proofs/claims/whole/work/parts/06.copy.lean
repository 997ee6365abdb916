/-! System.arraycopy -/
def gt_cpy {α : Type} (f : Nat → Nat → α) (a sp b dp n : Nat) : Nat → Nat → α := fun j k => if j = b then va_cpy (f a) (f b) sp dp n k else f j k
def gt_acp (ks : List gt_K) : gt_G := fun as σ => match as with
  | [.ref a, .int sp, .ref b, .int dp, .int n] => (match gt_kd ks σ.2.2.2 a, gt_kd ks σ.2.2.2 b with
    | some (.inl (.int, n0, _)), some (.inl (.int, n1, _)) => if sp < 0 ∨ dp < 0 ∨ n < 0 ∨ n0 < sp.toNatClampNeg + n.toNatClampNeg ∨ n1 < dp.toNatClampNeg + n.toNatClampNeg then none else some (none, (gt_cpy σ.1 a sp.toNatClampNeg b dp.toNatClampNeg n.toNatClampNeg, σ.2))
    | some (.inl (.long, n0, _)), some (.inl (.long, n1, _)) => if sp < 0 ∨ dp < 0 ∨ n < 0 ∨ n0 < sp.toNatClampNeg + n.toNatClampNeg ∨ n1 < dp.toNatClampNeg + n.toNatClampNeg then none else some (none, (σ.1, gt_cpy σ.2.1 a sp.toNatClampNeg b dp.toNatClampNeg n.toNatClampNeg, σ.2.2))
    | _, _ => none)
  | _ => none
theorem gt_cpy_ne {α : Type} {f : Nat → Nat → α} {a sp b dp n i : Nat} (h : i ≠ b) : gt_cpy f a sp b dp n i = f i := by
  funext k
  simp [gt_cpy, h]
theorem gt_cpy_self {α : Type} {f : Nat → Nat → α} {a sp b dp n : Nat} : gt_cpy f a sp b dp n b = va_cpy (f a) (f b) sp dp n := by
  funext k
  simp [gt_cpy]
theorem gt_aCp {l : Launch} {ks : List gt_K} {cc : ByteArray} {nL : Nat} {own : String} {R : Room} {idx : Nat} (hl : Cond.methodLink own idx arraycopyName ∈ gt_T) (hnat : Cond.native arraycopyName ∈ gt_T) (hst : Cond.static arraycopyName ∈ gt_T) (hini : Cond.initialized "java/lang/System" ∈ gt_T) (hf : 1 ≤ R.frames) (hlo : 8 + (nativeFrameWords "java/lang/System" "arraycopy" 5 + 11) ≤ R.locals) : gt_ckA l ks cc nL own R (idx, 1, 5, gt_acp ks) := by
  intro p e s m args below meth c Q D cA ad A H0 tx X
  obtain ⟨hx, hb, hml, hown, hts, hK, hDD, hA, hN⟩ := X
  intro pc lv as rest σ σ' r hdg hlen hfs hsum hJ
  dsimp only at hfs
  unfold gt_acp at hfs
  split at hfs
  · rename_i a sp b dp n
    split at hfs
    · rename_i n0 rs0 n1 rs1 ha hb2
      split at hfs
      · cases hfs
      · rename_i hno
        cases hfs
        intro ht ls H locs hlv hP hS
        refine va_copyi (rest := rest.map (gt_v ad)) hx hb (by rw [hml]; exact hlv.1.symm) hown (hts _ hl) (hts _ hnat) (hts _ hst) (hts _ hini) hK hP (hDD σ ht) hS a b 0 0 (gt_w_at (cA := cA) (ad := ad) ha) (gt_w_at (cA := cA) (ad := ad) hb2) rfl rfl rfl (fun q => hno (Or.inl q)) (fun q => hno (Or.inr (Or.inl q))) (fun q => hno (Or.inr (Or.inr (Or.inl q)))) (Nat.not_lt.mp fun q => hno (Or.inr (Or.inr (Or.inr (Or.inl q))))) (Nat.not_lt.mp fun q => hno (Or.inr (Or.inr (Or.inr (Or.inr q))))) (fun _ _ => rfl) hf (by rw [gt_sum_map]; omega) hdg (fun H1 locs1 hP1 _ hS1 => ?_)
        refine hJ ht ls H1 locs1 hlv ?_ hS1
        rw [← gt_w_set (cA := cA) (ad := ad) (σ := σ) (σ' := (gt_cpy σ.1 a sp.toNatClampNeg b dp.toNatClampNeg n.toNatClampNeg, σ.2)) rfl (fun i hi => ⟨gt_cpy_ne hi, rfl, rfl⟩) hb2]
        unfold gt_c gt_ct
        dsimp only
        rw [gt_cpy_self]
        exact hP1
    · rename_i n0 rs0 n1 rs1 ha hb2
      split at hfs
      · cases hfs
      · rename_i hno
        cases hfs
        intro ht ls H locs hlv hP hS
        refine va_copyl (rest := rest.map (gt_v ad)) hx hb (by rw [hml]; exact hlv.1.symm) hown (hts _ hl) (hts _ hnat) (hts _ hst) (hts _ hini) hK hP (hDD σ ht) hS a b 1 1 (gt_w_at (cA := cA) (ad := ad) ha) (gt_w_at (cA := cA) (ad := ad) hb2) rfl rfl rfl (fun q => hno (Or.inl q)) (fun q => hno (Or.inr (Or.inl q))) (fun q => hno (Or.inr (Or.inr (Or.inl q)))) (Nat.not_lt.mp fun q => hno (Or.inr (Or.inr (Or.inr (Or.inl q))))) (Nat.not_lt.mp fun q => hno (Or.inr (Or.inr (Or.inr (Or.inr q))))) (fun _ _ => rfl) hf (by rw [gt_sum_map]; omega) hdg (fun H1 locs1 hP1 _ hS1 => ?_)
        refine hJ ht ls H1 locs1 hlv ?_ hS1
        rw [← gt_w_set (cA := cA) (ad := ad) (σ := σ) (σ' := (σ.1, gt_cpy σ.2.1 a sp.toNatClampNeg b dp.toNatClampNeg n.toNatClampNeg, σ.2.2)) rfl (fun i hi => ⟨rfl, gt_cpy_ne hi, rfl⟩) hb2]
        unfold gt_c gt_ct
        dsimp only
        rw [gt_cpy_self]
        exact hP1
    · cases hfs
  · cases hfs
/-! a word of one of the nine tables, by its place there -/
def gt_nth : List Cond → Nat → Option Cond
  | [], _ => none
  | a :: _, 0 => some a
  | _ :: t, n + 1 => gt_nth t n
theorem gt_nth_mem : ∀ {l : List Cond} {n : Nat} {w : Cond}, gt_nth l n = some w → w ∈ l
  | [], _, _, h => by cases h
  | a :: t, 0, w, h => by cases h; exact List.mem_cons_self
  | a :: t, n + 1, w, h => List.mem_cons_of_mem _ (gt_nth_mem h)
theorem gt_T9 {w : Cond} (h : w ∈ tables_1) (g : goodWord w = true) : w ∈ gt_T := gt_T_in (List.mem_append_right _ h) g
theorem gt_t1 (i : Nat) {w : Cond} (h : gt_nth tables_1_1 i = some w) (g : goodWord w = true) : w ∈ gt_T := gt_T9 (List.mem_append_left _ (gt_nth_mem h)) g
theorem gt_t2 (i : Nat) {w : Cond} (h : gt_nth tables_1_2 i = some w) (g : goodWord w = true) : w ∈ gt_T := gt_T9 (List.mem_append_right _ (List.mem_append_left _ (gt_nth_mem h))) g
theorem gt_t3 (i : Nat) {w : Cond} (h : gt_nth tables_1_3 i = some w) (g : goodWord w = true) : w ∈ gt_T := gt_T9 (List.mem_append_right _ (List.mem_append_right _ (List.mem_append_left _ (gt_nth_mem h)))) g
theorem gt_t4 (i : Nat) {w : Cond} (h : gt_nth tables_1_4 i = some w) (g : goodWord w = true) : w ∈ gt_T := gt_T9 (List.mem_append_right _ (List.mem_append_right _ (List.mem_append_right _ (List.mem_append_left _ (gt_nth_mem h))))) g
theorem gt_t5 (i : Nat) {w : Cond} (h : gt_nth tables_1_5 i = some w) (g : goodWord w = true) : w ∈ gt_T := gt_T9 (List.mem_append_right _ (List.mem_append_right _ (List.mem_append_right _ (List.mem_append_right _ (List.mem_append_left _ (gt_nth_mem h)))))) g
theorem gt_t6 (i : Nat) {w : Cond} (h : gt_nth tables_1_6 i = some w) (g : goodWord w = true) : w ∈ gt_T := gt_T9 (List.mem_append_right _ (List.mem_append_right _ (List.mem_append_right _ (List.mem_append_right _ (List.mem_append_right _ (List.mem_append_left _ (gt_nth_mem h))))))) g
theorem gt_t7 (i : Nat) {w : Cond} (h : gt_nth tables_1_7 i = some w) (g : goodWord w = true) : w ∈ gt_T := gt_T9 (List.mem_append_right _ (List.mem_append_right _ (List.mem_append_right _ (List.mem_append_right _ (List.mem_append_right _ (List.mem_append_right _ (List.mem_append_left _ (gt_nth_mem h)))))))) g
theorem gt_t8 (i : Nat) {w : Cond} (h : gt_nth tables_1_8 i = some w) (g : goodWord w = true) : w ∈ gt_T := gt_T9 (List.mem_append_right _ (List.mem_append_right _ (List.mem_append_right _ (List.mem_append_right _ (List.mem_append_right _ (List.mem_append_right _ (List.mem_append_right _ (List.mem_append_left _ (gt_nth_mem h))))))))) g
theorem gt_t9 (i : Nat) {w : Cond} (h : gt_nth tables_1_9 i = some w) (g : goodWord w = true) : w ∈ gt_T := gt_T9 (List.mem_append_right _ (List.mem_append_right _ (List.mem_append_right _ (List.mem_append_right _ (List.mem_append_right _ (List.mem_append_right _ (List.mem_append_right _ (List.mem_append_right _ (gt_nth_mem h))))))))) g
def gt_nthp : List (MethodName × Nat) → Nat → Option (MethodName × Nat)
  | [], _ => none
  | a :: _, 0 => some a
  | _ :: t, n + 1 => gt_nthp t n
theorem gt_nthp_mem : ∀ {l : List (MethodName × Nat)} {n : Nat} {w : MethodName × Nat}, gt_nthp l n = some w → w ∈ l
  | [], _, _, h => by cases h
  | a :: t, 0, w, h => by cases h; exact List.mem_cons_self
  | a :: t, n + 1, w, h => List.mem_cons_of_mem _ (gt_nthp_mem h)
theorem gt_ps {q : MethodName × Nat} (h : q ∈ lw_privs) : Cond.selects q.1.cls q.1 q.1 ∈ gt_T := gt_T_in (List.mem_append_left _ (List.mem_map.mpr ⟨q, h, rfl⟩)) rfl
theorem gt_p1 (i : Nat) {y : MethodName} {n : Nat} (h : gt_nthp lw_privs_1 i = some (y, n)) : Cond.selects y.cls y y ∈ gt_T := gt_ps (q := (y, n)) (List.mem_append_left _ (gt_nthp_mem h))
theorem gt_p2 (i : Nat) {y : MethodName} {n : Nat} (h : gt_nthp lw_privs_2 i = some (y, n)) : Cond.selects y.cls y y ∈ gt_T := gt_ps (q := (y, n)) (List.mem_append_right _ (List.mem_append_left _ (gt_nthp_mem h)))
theorem gt_p3 (i : Nat) {y : MethodName} {n : Nat} (h : gt_nthp lw_privs_3 i = some (y, n)) : Cond.selects y.cls y y ∈ gt_T := gt_ps (q := (y, n)) (List.mem_append_right _ (List.mem_append_right _ (List.mem_append_left _ (gt_nthp_mem h))))
theorem gt_p4 (i : Nat) {y : MethodName} {n : Nat} (h : gt_nthp lw_privs_4 i = some (y, n)) : Cond.selects y.cls y y ∈ gt_T := gt_ps (q := (y, n)) (List.mem_append_right _ (List.mem_append_right _ (List.mem_append_right _ (List.mem_append_left _ (gt_nthp_mem h)))))
theorem gt_p5 (i : Nat) {y : MethodName} {n : Nat} (h : gt_nthp lw_privs_5 i = some (y, n)) : Cond.selects y.cls y y ∈ gt_T := gt_ps (q := (y, n)) (List.mem_append_right _ (List.mem_append_right _ (List.mem_append_right _ (List.mem_append_right _ (List.mem_append_left _ (gt_nthp_mem h))))))
theorem gt_p6 (i : Nat) {y : MethodName} {n : Nat} (h : gt_nthp lw_privs_6 i = some (y, n)) : Cond.selects y.cls y y ∈ gt_T := gt_ps (q := (y, n)) (List.mem_append_right _ (List.mem_append_right _ (List.mem_append_right _ (List.mem_append_right _ (List.mem_append_right _ (List.mem_append_left _ (gt_nthp_mem h)))))))
theorem gt_p7 (i : Nat) {y : MethodName} {n : Nat} (h : gt_nthp lw_privs_7 i = some (y, n)) : Cond.selects y.cls y y ∈ gt_T := gt_ps (q := (y, n)) (List.mem_append_right _ (List.mem_append_right _ (List.mem_append_right _ (List.mem_append_right _ (List.mem_append_right _ (List.mem_append_right _ (List.mem_append_left _ (gt_nthp_mem h))))))))
theorem gt_p8 (i : Nat) {y : MethodName} {n : Nat} (h : gt_nthp lw_privs_8 i = some (y, n)) : Cond.selects y.cls y y ∈ gt_T := gt_ps (q := (y, n)) (List.mem_append_right _ (List.mem_append_right _ (List.mem_append_right _ (List.mem_append_right _ (List.mem_append_right _ (List.mem_append_right _ (List.mem_append_right _ (gt_nthp_mem h))))))))
