def gt_u {α : Type} (f : Nat → Nat → α) (j k : Nat) (v : α) : Nat → Nat → α := fun a b => if a = j then (if b = k then v else f a b) else f a b
def gt_lk {α : Type} : List (Nat × α) → Nat → Option α
  | [], _ => none
  | q :: t, n => bif Nat.beq q.1 n then some q.2 else gt_lk t n
/-- what a cell is: the fixed ones by the list, behind them three for each text -/
def gt_kd (ks : gt_KS) (tx : List (Nat × Nat)) (j : Nat) : Option gt_K :=
  if j < ks.2 then ks.1 j else
    match tx[(j - ks.2) / 3]? with
    | none => none
    | some ab => if (j - ks.2) % 3 = 0 then some (.inr (7, [some (some (j + 1)), some (some (j + 2))])) else if (j - ks.2) % 3 = 1 then some (.inl (.int, ab.1, [])) else some (.inl (.int, ab.2, []))
def gt_rf (rs : List Nat) (σ : gt_S) (j k : Nat) : Option Nat := match rs with
  | [] => σ.2.2.1 j k
  | r => r[k]?
def gt_sv (ad : Nat → Nat) (σ : gt_S) (j k : Nat) : Option (Option Nat) → Value
  | none => .int (σ.1 j k)
  | some none => .long (σ.2.1 j k)
  | some (some r) => if r = 999999 then .null else .ref (ad r)
def gt_fv (ad : Nat → Nat) (σ : gt_S) (j : Nat) : Nat → List (Option (Option Nat)) → List Value
  | _, [] => []
  | k, s :: t => gt_sv ad σ j k s :: gt_fv ad σ j (k + 1) t
def gt_ct (ad : Nat → Nat) (σ : gt_S) (j : Nat) (ty : FieldType) (rs : List Nat) : (Nat → Int32) ⊕ (Nat → Int64) ⊕ (Nat → UInt32) ⊕ (Nat → UInt64) ⊕ (Nat → Option Nat) := match ty with
  | .long => .inr (.inl (σ.2.1 j))
  | .object _ => .inr (.inr (.inr (.inr (fun k => (gt_rf rs σ j k).map ad))))
  | .array _ => .inr (.inr (.inr (.inr (fun k => (gt_rf rs σ j k).map ad))))
  | _ => .inl (σ.1 j)
def gt_c (cA : FieldType → Nat) (ad : Nat → Nat) (σ : gt_S) (j : Nat) : gt_K → va_E
  | .inl q => .inl (cA q.1, q.2.1, gt_ct ad σ j q.1 q.2.2)
  | .inr q => .inr (q.1, gt_fv ad σ j 0 q.2)
def gt_n (ks : gt_KS) (tx : List (Nat × Nat)) : Nat := ks.2 + 3 * tx.length
def gt_w (ks : gt_KS) (cA : FieldType → Nat) (ad : Nat → Nat) (σ : gt_S) : va_W := (List.range (gt_n ks σ.2.2.2)).map fun j => (ad j, match gt_kd ks σ.2.2.2 j with
  | some k => gt_c cA ad σ j k
  | none => .inr (0, []))
theorem gt_kd_lt {ks : gt_KS} {tx : List (Nat × Nat)} {j : Nat} {k : gt_K} (h : gt_kd ks tx j = some k) : j < gt_n ks tx := by
  unfold gt_kd at h
  unfold gt_n
  split at h
  · omega
  · split at h
    · cases h
    · rename_i q
      have := (List.getElem?_eq_some_iff.mp q).1
      omega
theorem gt_w_at {ks : gt_KS} {cA : FieldType → Nat} {ad : Nat → Nat} {σ : gt_S} {j : Nat} {k : gt_K} (h : gt_kd ks σ.2.2.2 j = some k) : (gt_w ks cA ad σ)[j]? = some (ad j, gt_c cA ad σ j k) := by
  have hl := gt_kd_lt h
  unfold gt_w
  rw [List.getElem?_map, List.getElem?_range hl]
  simp [h]
theorem gt_fv_congr {ad : Nat → Nat} {σ σ' : gt_S} {j : Nat} (h1 : σ'.1 j = σ.1 j) (h2 : σ'.2.1 j = σ.2.1 j) : ∀ (sl : List (Option (Option Nat))) (k : Nat), gt_fv ad σ' j k sl = gt_fv ad σ j k sl
  | [], _ => rfl
  | s :: t, k => by
    unfold gt_fv
    rw [gt_fv_congr h1 h2 t (k + 1)]
    congr 1
    rcases s with _ | _ | r
    · simp [gt_sv, h1]
    · simp [gt_sv, h2]
    · simp [gt_sv]
theorem gt_c_congr {cA : FieldType → Nat} {ad : Nat → Nat} {σ σ' : gt_S} {j : Nat} (h1 : σ'.1 j = σ.1 j) (h2 : σ'.2.1 j = σ.2.1 j) (h3 : σ'.2.2.1 j = σ.2.2.1 j) (k : gt_K) : gt_c cA ad σ' j k = gt_c cA ad σ j k := by
  rcases k with ⟨ty, n, rs⟩ | ⟨ci, sl⟩
  · have hr : gt_rf rs σ' j = gt_rf rs σ j := by
      funext k
      unfold gt_rf
      split
      · rw [h3]
      · rfl
    unfold gt_c gt_ct
    dsimp only
    rw [h1, h2, hr]
  · unfold gt_c
    dsimp only
    rw [gt_fv_congr h1 h2]
theorem gt_w_set {ks : gt_KS} {cA : FieldType → Nat} {ad : Nat → Nat} {σ σ' : gt_S} {j : Nat} {k : gt_K} (ht : σ'.2.2.2 = σ.2.2.2) (hne : ∀ i, i ≠ j → σ'.1 i = σ.1 i ∧ σ'.2.1 i = σ.2.1 i ∧ σ'.2.2.1 i = σ.2.2.1 i) (h : gt_kd ks σ.2.2.2 j = some k) : (gt_w ks cA ad σ).set j (ad j, gt_c cA ad σ' j k) = gt_w ks cA ad σ' := by
  have hl := gt_kd_lt h
  have hlen : (gt_w ks cA ad σ).length = gt_n ks σ.2.2.2 := by simp [gt_w]
  apply List.ext_getElem?
  intro i
  by_cases hij : i = j
  · subst hij
    rw [List.getElem?_set_self (by rw [hlen]; exact hl), gt_w_at (by rw [ht]; exact h)]
  · rw [List.getElem?_set_ne (Ne.symm hij)]
    unfold gt_w
    rw [ht, List.getElem?_map, List.getElem?_map]
    obtain ⟨a1, a2, a3⟩ := hne i hij
    cases hr : (List.range (gt_n ks σ.2.2.2))[i]? with
    | none => rfl
    | some x =>
      have hx : x = i := by
        obtain ⟨q1, q2⟩ := List.getElem?_eq_some_iff.mp hr
        rw [List.getElem_range] at q2
        exact q2.symm
      subst hx
      cases hk : gt_kd ks σ.2.2.2 x with
      | none => simp [hk]
      | some kk => simp [hk, gt_c_congr a1 a2 a3]
def gt_v (ad : Nat → Nat) : Value → Value
  | .ref j => .ref (ad j)
  | .retAddr k => .ref (ad (1000000 + k))
  | v => v
theorem gt_v_cat (ad : Nat → Nat) (v : Value) : (gt_v ad v).category = v.category := by cases v <;> rfl
def gt_lm (ad : Nat → Nat) (q : Nat × Value) : Nat × Value := (q.1, gt_v ad q.2)
def gt_tys (cA : FieldType → Nat) : List (ClassId × FieldType) := [(cA .int, .int), (cA .long, .long), (cA .boolean, .boolean), (cA (.object "GiftTable$State"), .object "GiftTable$State"), (cA (.object "GiftTable$Text"), .object "GiftTable$Text"), (cA (.array .long), .array .long), (cA (.array .int), .array .int)]
/-! reads and writes -/
def gt_ldI (ks : gt_KS) (σ : gt_S) (j : Nat) (i : Int32) : Option Int32 := match gt_kd ks σ.2.2.2 j with
  | some (.inl (.int, n, _)) => if i < 0 ∨ n ≤ i.toNatClampNeg then none else some (σ.1 j i.toNatClampNeg)
  | _ => none
def gt_ldZ (ks : gt_KS) (σ : gt_S) (j : Nat) (i : Int32) : Option Int32 := match gt_kd ks σ.2.2.2 j with
  | some (.inl (.boolean, n, _)) => if i < 0 ∨ n ≤ i.toNatClampNeg then none else some (σ.1 j i.toNatClampNeg)
  | _ => none
def gt_ldL (ks : gt_KS) (σ : gt_S) (j : Nat) (i : Int32) : Option Int64 := match gt_kd ks σ.2.2.2 j with
  | some (.inl (.long, n, _)) => if i < 0 ∨ n ≤ i.toNatClampNeg then none else some (σ.2.1 j i.toNatClampNeg)
  | _ => none
def gt_isT (ty : FieldType) : Bool := ty == .object "GiftTable$State" || (ty == .object "GiftTable$Text" || (ty == .array .long || ty == .array .int))
def gt_ldR (ks : gt_KS) (σ : gt_S) (j : Nat) (i : Int32) : Option (Option Nat) := match gt_kd ks σ.2.2.2 j with
  | some (.inl (ty, n, rs)) => if gt_isT ty = true then (if i < 0 ∨ n ≤ i.toNatClampNeg then none else some (gt_rf rs σ j i.toNatClampNeg)) else none
  | _ => none
def gt_stI (ks : gt_KS) (σ : gt_S) (j : Nat) (i v : Int32) : Option gt_S := match gt_kd ks σ.2.2.2 j with
  | some (.inl (.int, n, _)) => if i < 0 ∨ n ≤ i.toNatClampNeg then none else some (gt_u σ.1 j i.toNatClampNeg v, σ.2)
  | _ => none
def gt_stZ (ks : gt_KS) (σ : gt_S) (j : Nat) (i v : Int32) : Option gt_S := match gt_kd ks σ.2.2.2 j with
  | some (.inl (.boolean, n, _)) => if i < 0 ∨ n ≤ i.toNatClampNeg then none else some (gt_u σ.1 j i.toNatClampNeg (vp_nar .boolean v), σ.2)
  | _ => none
def gt_stL (ks : gt_KS) (σ : gt_S) (j : Nat) (i : Int32) (v : Int64) : Option gt_S := match gt_kd ks σ.2.2.2 j with
  | some (.inl (.long, n, _)) => if i < 0 ∨ n ≤ i.toNatClampNeg then none else some (σ.1, gt_u σ.2.1 j i.toNatClampNeg v, σ.2.2)
  | _ => none
/-- a text, or none, into a row of texts -/
def gt_stR (ks : gt_KS) (σ : gt_S) (j : Nat) (i : Int32) (v : Option Nat) : Option gt_S := match gt_kd ks σ.2.2.2 j with
  | some (.inl (.object C, n, [])) => if C = "GiftTable$Text" then (if i < 0 ∨ n ≤ i.toNatClampNeg then none else match v with
    | none => some (σ.1, σ.2.1, gt_u σ.2.2.1 j i.toNatClampNeg none, σ.2.2.2)
    | some t => (match gt_kd ks σ.2.2.2 t with
      | some (.inr (ci, _)) => if ci = 7 then some (σ.1, σ.2.1, gt_u σ.2.2.1 j i.toNatClampNeg (some t), σ.2.2.2) else none
      | _ => none)) else none
  | _ => none
def gt_ln (ks : gt_KS) (σ : gt_S) (j : Nat) : Option Nat := match gt_kd ks σ.2.2.2 j with
  | some (.inl (ty, n, _)) => if ty = .int ∨ ty = .long ∨ ty = .boolean then some n else none
  | _ => none
def gt_gf (ks : gt_KS) (σ : gt_S) (j ci k : Nat) : Option Value := match gt_kd ks σ.2.2.2 j with
  | some (.inr q) => if q.1 = ci then (match q.2[k]? with
    | some s => some (gt_sv id σ j k s)
    | none => none) else none
  | _ => none
/-- t: 1 an int field, 2 a boolean one, 3 a long one, 0 none that is written -/
def gt_pfI (ks : gt_KS) (σ : gt_S) (j ci k t : Nat) (x : Int32) : Option gt_S := match gt_kd ks σ.2.2.2 j with
  | some (.inr q) => if q.1 = ci then (match q.2[k]? with
    | some none => if t = 1 ∨ (t = 2 ∧ (x = 0 ∨ x = 1)) then some (gt_u σ.1 j k x, σ.2) else none
    | _ => none) else none
  | _ => none
def gt_pfL (ks : gt_KS) (σ : gt_S) (j ci k t : Nat) (x : Int64) : Option gt_S := match gt_kd ks σ.2.2.2 j with
  | some (.inr q) => if q.1 = ci then (match q.2[k]? with
    | some (some none) => if t = 3 then some (σ.1, gt_u σ.2.1 j k x, σ.2.2) else none
    | _ => none) else none
  | _ => none
/-! the step -/
def gt_i1 {α : Type} (st : List Value) (k : Int32 → List Value → Option α) : Option α := match st with
  | .int x :: r => k x r
  | _ => none
def gt_i2 {α : Type} (st : List Value) (k : Int32 → Int32 → List Value → Option α) : Option α := match st with
  | .int y :: .int x :: r => k x y r
  | _ => none
def gt_l1 {α : Type} (st : List Value) (k : Int64 → List Value → Option α) : Option α := match st with
  | .long x :: r => k x r
  | _ => none
def gt_l2 {α : Type} (st : List Value) (k : Int64 → Int64 → List Value → Option α) : Option α := match st with
  | .long y :: .long x :: r => k x y r
  | _ => none
def gt_li {α : Type} (st : List Value) (k : Int64 → Int32 → List Value → Option α) : Option α := match st with
  | .int y :: .long x :: r => k x y r
  | _ => none
def gt_a1 {α : Type} (st : List Value) (k : Nat → List Value → Option α) : Option α := match st with
  | .ref a :: r => k a r
  | _ => none
def gt_ai {α : Type} (st : List Value) (k : Nat → Int32 → List Value → Option α) : Option α := match st with
  | .int i :: .ref a :: r => k a i r
  | _ => none
def gt_aii {α : Type} (st : List Value) (k : Nat → Int32 → Int32 → List Value → Option α) : Option α := match st with
  | .int x :: .int i :: .ref a :: r => k a i x r
  | _ => none
def gt_ail {α : Type} (st : List Value) (k : Nat → Int32 → Int64 → List Value → Option α) : Option α := match st with
  | .long x :: .int i :: .ref a :: r => k a i x r
  | _ => none
def gt_aiq {α : Type} (st : List Value) (k : Nat → Int32 → Option Nat → List Value → Option α) : Option α := match st with
  | .ref v :: .int i :: .ref a :: r => k a i (some v) r
  | .null :: .int i :: .ref a :: r => k a i none r
  | _ => none
theorem gt_i1_s {α : Type} {st : List Value} {k : Int32 → List Value → Option α} {o : α} (h : gt_i1 st k = some o) : ∃ x r, st = .int x :: r ∧ k x r = some o := by
  unfold gt_i1 at h; split at h
  · exact ⟨_, _, rfl, h⟩
  · cases h
theorem gt_i2_s {α : Type} {st : List Value} {k : Int32 → Int32 → List Value → Option α} {o : α} (h : gt_i2 st k = some o) : ∃ x y r, st = .int y :: .int x :: r ∧ k x y r = some o := by
  unfold gt_i2 at h; split at h
  · exact ⟨_, _, _, rfl, h⟩
  · cases h
theorem gt_l1_s {α : Type} {st : List Value} {k : Int64 → List Value → Option α} {o : α} (h : gt_l1 st k = some o) : ∃ x r, st = .long x :: r ∧ k x r = some o := by
  unfold gt_l1 at h; split at h
  · exact ⟨_, _, rfl, h⟩
  · cases h
theorem gt_l2_s {α : Type} {st : List Value} {k : Int64 → Int64 → List Value → Option α} {o : α} (h : gt_l2 st k = some o) : ∃ x y r, st = .long y :: .long x :: r ∧ k x y r = some o := by
  unfold gt_l2 at h; split at h
  · exact ⟨_, _, _, rfl, h⟩
  · cases h
theorem gt_li_s {α : Type} {st : List Value} {k : Int64 → Int32 → List Value → Option α} {o : α} (h : gt_li st k = some o) : ∃ x y r, st = .int y :: .long x :: r ∧ k x y r = some o := by
  unfold gt_li at h; split at h
  · exact ⟨_, _, _, rfl, h⟩
  · cases h
theorem gt_a1_s {α : Type} {st : List Value} {k : Nat → List Value → Option α} {o : α} (h : gt_a1 st k = some o) : ∃ x r, st = .ref x :: r ∧ k x r = some o := by
  unfold gt_a1 at h; split at h
  · exact ⟨_, _, rfl, h⟩
  · cases h
theorem gt_ai_s {α : Type} {st : List Value} {k : Nat → Int32 → List Value → Option α} {o : α} (h : gt_ai st k = some o) : ∃ a i r, st = .int i :: .ref a :: r ∧ k a i r = some o := by
  unfold gt_ai at h; split at h
  · exact ⟨_, _, _, rfl, h⟩
  · cases h
theorem gt_aii_s {α : Type} {st : List Value} {k : Nat → Int32 → Int32 → List Value → Option α} {o : α} (h : gt_aii st k = some o) : ∃ a i x r, st = .int x :: .int i :: .ref a :: r ∧ k a i x r = some o := by
  unfold gt_aii at h; split at h
  · exact ⟨_, _, _, _, rfl, h⟩
  · cases h
theorem gt_ail_s {α : Type} {st : List Value} {k : Nat → Int32 → Int64 → List Value → Option α} {o : α} (h : gt_ail st k = some o) : ∃ a i x r, st = .long x :: .int i :: .ref a :: r ∧ k a i x r = some o := by
  unfold gt_ail at h; split at h
  · exact ⟨_, _, _, _, rfl, h⟩
  · cases h
theorem gt_aiq_s {α : Type} {st : List Value} {k : Nat → Int32 → Option Nat → List Value → Option α} {o : α} (h : gt_aiq st k = some o) : ∃ a i x r, st = va_rf x :: .int i :: .ref a :: r ∧ k a i x r = some o := by
  unfold gt_aiq at h; split at h
  · exact ⟨_, _, some _, _, rfl, h⟩
  · exact ⟨_, _, none, _, rfl, h⟩
  · cases h
def gt_jp {α : Type} (pc : Nat) (off : Int) (k : Nat → Option α) : Option α := match (pc : Int) + off with
  | .ofNat n => k n
  | .negSucc _ => none
theorem gt_jp_s {α : Type} {pc : Nat} {off : Int} {k : Nat → Option α} {o : α} (h : gt_jp pc off k = some o) : ∃ n : Nat, (pc : Int) + off = (n : Int) ∧ k n = some o := by
  unfold gt_jp at h; split at h
  · rename_i q; exact ⟨_, q, h⟩
  · cases h
/-- one after another: x against lo, lo + 1 .. -/
def gt_ts {α : Type} (x : Int32) (d : Int) (k : Int → Option α) : Int → List Int → Option α
  | _, [] => k d
  | lo, o :: t => if x = Int32.ofInt lo then k o else gt_ts x d k (lo + 1) t
def gt_lsw {α : Type} (x : Int32) (d : Int) (k : Int → Option α) : List (Int × Int) → Option α
  | [] => k d
  | q :: t => if x = Int32.ofInt q.1 then k q.2 else gt_lsw x d k t
def gt_f1 (i : Nat) : gt_L → gt_L
  | [] => []
  | q :: t => bif (Nat.beq q.1 i || (Nat.beq (q.1 + 1) i && Nat.beq q.2.category 2)) then gt_f1 i t else q :: gt_f1 i t
def gt_f2 (i : Nat) : gt_L → gt_L
  | [] => []
  | q :: t => bif (Nat.beq q.1 i || (Nat.beq q.1 (i + 1) || (Nat.beq (q.1 + 1) i && Nat.beq q.2.category 2))) then gt_f2 i t else q :: gt_f2 i t
theorem gt_beq (a b : Nat) : Nat.beq a b = (a == b) := by
  rw [Bool.eq_iff_iff, beq_iff_eq]
  exact ⟨Nat.eq_of_beq_eq_true, fun h => by subst h; exact Nat.beq_refl a⟩
theorem gt_f1_eq (i : Nat) : ∀ lv : gt_L, gt_f1 i lv = lv.filter (fun q => !(q.1 == i) && !(q.1 + 1 == i && q.2.category == 2))
  | [] => rfl
  | q :: t => by
    unfold gt_f1
    rw [gt_f1_eq i t, List.filter_cons, gt_beq, gt_beq, gt_beq]
    cases (q.1 == i) <;> cases (q.1 + 1 == i) <;> cases (q.2.category == 2) <;> rfl
theorem gt_f2_eq (i : Nat) : ∀ lv : gt_L, gt_f2 i lv = lv.filter (fun q => !(q.1 == i) && (!(q.1 == i + 1) && !(q.1 + 1 == i && q.2.category == 2)))
  | [] => rfl
  | q :: t => by
    unfold gt_f2
    rw [gt_f2_eq i t, List.filter_cons, gt_beq, gt_beq, gt_beq, gt_beq]
    cases (q.1 == i) <;> cases (q.1 == i + 1) <;> cases (q.1 + 1 == i) <;> cases (q.2.category == 2) <;> rfl
def gt_set1 (i : Nat) (v : Value) (lv : gt_L) : gt_L := (i, v) :: gt_f1 i lv
def gt_set2 (i : Nat) (v : Value) (lv : gt_L) : gt_L := (i, v) :: gt_f2 i lv
def gt_ldi {α : Type} (lv : gt_L) (i : Nat) (k : Int32 → Option α) : Option α := match gt_lk lv i with
  | some (.int x) => k x
  | _ => none
def gt_ldl {α : Type} (lv : gt_L) (i : Nat) (k : Int64 → Option α) : Option α := match gt_lk lv i with
  | some (.long x) => k x
  | _ => none
def gt_lda {α : Type} (lv : gt_L) (i : Nat) (k : Value → Option α) : Option α := match gt_lk lv i with
  | some (.ref x) => k (.ref x)
  | some .null => k .null
  | _ => none
theorem gt_ldi_s {α : Type} {lv : gt_L} {i : Nat} {k : Int32 → Option α} {o : α} (h : gt_ldi lv i k = some o) : ∃ x, gt_lk lv i = some (.int x) ∧ k x = some o := by
  unfold gt_ldi at h; split at h
  · rename_i q; exact ⟨_, q, h⟩
  · cases h
theorem gt_ldl_s {α : Type} {lv : gt_L} {i : Nat} {k : Int64 → Option α} {o : α} (h : gt_ldl lv i k = some o) : ∃ x, gt_lk lv i = some (.long x) ∧ k x = some o := by
  unfold gt_ldl at h; split at h
  · rename_i q; exact ⟨_, q, h⟩
  · cases h
theorem gt_lda_s {α : Type} {lv : gt_L} {i : Nat} {k : Value → Option α} {o : α} (h : gt_lda lv i k = some o) : ∃ x, gt_lk lv i = some (va_rf x) ∧ k (va_rf x) = some o := by
  unfold gt_lda at h; split at h
  · rename_i q; exact ⟨some _, q, h⟩
  · rename_i q; exact ⟨none, q, h⟩
  · cases h
/-- a branch -/
def gt_br {α : Type} (c : Jvm.ClassFile.Cond) (x y : Int32) (t f : Option α) : Option α := match c with
  | .eq => if x = y then t else f
  | .ne => if x = y then f else t
  | .lt => if x < y then t else f
  | .ge => if x < y then f else t
  | .gt => if y < x then t else f
  | .le => if y < x then f else t
abbrev gt_C : Type := Nat → gt_L → List Value → gt_S → Option gt_F
def gt_cv {α : Type} (o : Option (Option Value × gt_S)) (k : gt_S → Option α) : Option α := match o with
  | some (none, σ) => k σ
  | _ => none
def gt_ci {α : Type} (o : Option (Option Value × gt_S)) (k : Int32 → gt_S → Option α) : Option α := match o with
  | some (some (.int v), σ) => k v σ
  | _ => none
def gt_cl {α : Type} (o : Option (Option Value × gt_S)) (k : Int64 → gt_S → Option α) : Option α := match o with
  | some (some (.long v), σ) => k v σ
  | _ => none
def gt_ca {α : Type} (o : Option (Option Value × gt_S)) (k : Value → gt_S → Option α) : Option α := match o with
  | some (some (.ref v), σ) => k (.ref v) σ
  | some (some .null, σ) => k .null σ
  | _ => none
/-- a call: by what it gives back -/
def gt_cr (rk : Nat) (o : Option (Option Value × gt_S)) (rest : List Value) (k : List Value → gt_S → Option gt_F) : Option gt_F := match rk with
  | 0 => gt_cv o fun σ => k rest σ
  | 1 => gt_ci o fun v σ => k (.int v :: rest) σ
  | 2 => gt_cl o fun v σ => k (.long v :: rest) σ
  | _ => gt_ca o fun v σ => k (v :: rest) σ
theorem gt_cr_s {rk : Nat} {o : Option (Option Value × gt_S)} {rest : List Value} {k : List Value → gt_S → Option gt_F} {z : gt_F} (h : gt_cr rk o rest k = some z) : ∃ r σ, o = some (r, σ) ∧ k (r.toList ++ rest) σ = some z := by
  unfold gt_cr at h
  split at h
  · unfold gt_cv at h; split at h
    · exact ⟨_, _, rfl, h⟩
    · cases h
  · unfold gt_ci at h; split at h
    · exact ⟨_, _, rfl, h⟩
    · cases h
  · unfold gt_cl at h; split at h
    · exact ⟨_, _, rfl, h⟩
    · cases h
  · unfold gt_ca at h; split at h
    · exact ⟨_, _, rfl, h⟩
    · exact ⟨_, _, rfl, h⟩
    · cases h
def gt_inv (E : gt_E) (kd idx pc : Nat) (lv : gt_L) (st : List Value) (σ : gt_S) (κ : gt_C) : Option gt_F := match gt_lk E.2.2.2.1 idx with
  | some q => if q.1 = kd ∧ q.2.2.1 ≤ st.length ∧ ((st.drop q.2.2.1).map fun v => v.category).sum ≤ 8 then gt_cr q.2.1 (q.2.2.2 (st.take q.2.2.1).reverse σ) (st.drop q.2.2.1) (fun st σ => κ (pc + 3) lv st σ) else none
  | none => none
/-- by the instruction alone: so the arms stay closed terms -/
def gt_op : Instr → gt_KS → Nat → gt_E → Nat → gt_L → List Value → gt_S → gt_C → Option gt_F := fun i => match i with
  | .iconst n => fun ks nL E pc lv st σ κ => κ (pc + 1) lv (.int (Int32.ofInt n) :: st) σ
  | .bipush n => fun ks nL E pc lv st σ κ => κ (pc + 2) lv (.int (Int8.ofInt n).toInt32 :: st) σ
  | .sipush n => fun ks nL E pc lv st σ κ => κ (pc + 3) lv (.int (Int16.ofInt n).toInt32 :: st) σ
  | .lconst n => fun ks nL E pc lv st σ κ => κ (pc + 1) lv (.long (Int64.ofNat (n : Nat)) :: st) σ
  | .aconst_null => fun ks nL E pc lv st σ κ => κ (pc + 1) lv (.null :: st) σ
  | .ldc_w i => fun ks nL E pc lv st σ κ => (gt_lk E.2.1 i).bind fun v => κ (pc + 3) lv (.int v :: st) σ
  | .ldc i => fun ks nL E pc lv st σ κ => (gt_lk E.2.1 i).bind fun v => κ (pc + 2) lv (.int v :: st) σ
  | .ldc2_w i => fun ks nL E pc lv st σ κ => (gt_lk E.2.2.1 i).bind fun v => κ (pc + 3) lv (.long v :: st) σ
  | .iload_n k => fun ks nL E pc lv st σ κ => gt_ldi lv k.1 fun x => κ (pc + 1) lv (.int x :: st) σ
  | .iload i => fun ks nL E pc lv st σ κ => gt_ldi lv i fun x => κ (pc + 2) lv (.int x :: st) σ
  | .lload_n k => fun ks nL E pc lv st σ κ => gt_ldl lv k.1 fun x => κ (pc + 1) lv (.long x :: st) σ
  | .lload i => fun ks nL E pc lv st σ κ => gt_ldl lv i fun x => κ (pc + 2) lv (.long x :: st) σ
  | .aload_n k => fun ks nL E pc lv st σ κ => gt_lda lv k.1 fun x => κ (pc + 1) lv (x :: st) σ
  | .aload i => fun ks nL E pc lv st σ κ => gt_lda lv i fun x => κ (pc + 2) lv (x :: st) σ
  | .istore_n k => fun ks nL E pc lv st σ κ => gt_i1 st fun x r => if k.1 < nL then κ (pc + 1) (gt_set1 k.1 (.int x) lv) r σ else none
  | .istore i => fun ks nL E pc lv st σ κ => gt_i1 st fun x r => if i < nL then κ (pc + 2) (gt_set1 i (.int x) lv) r σ else none
  | .lstore_n k => fun ks nL E pc lv st σ κ => gt_l1 st fun x r => if k.1 + 1 < nL then κ (pc + 1) (gt_set2 k.1 (.long x) lv) r σ else none
  | .lstore i => fun ks nL E pc lv st σ κ => gt_l1 st fun x r => if i + 1 < nL then κ (pc + 2) (gt_set2 i (.long x) lv) r σ else none
  | .astore_n k => fun ks nL E pc lv st σ κ => gt_a1 st fun x r => if k.1 < nL then κ (pc + 1) (gt_set1 k.1 (.ref x) lv) r σ else none
  | .astore i => fun ks nL E pc lv st σ κ => gt_a1 st fun x r => if i < nL then κ (pc + 2) (gt_set1 i (.ref x) lv) r σ else none
  | .iinc i n => fun ks nL E pc lv st σ κ => gt_ldi lv i fun x => if i < nL then κ (pc + 3) (gt_set1 i (.int (x + Int32.ofInt n)) lv) st σ else none
  | .iadd => fun ks nL E pc lv st σ κ => gt_i2 st fun x y r => κ (pc + 1) lv (.int (x + y) :: r) σ
  | .isub => fun ks nL E pc lv st σ κ => gt_i2 st fun x y r => κ (pc + 1) lv (.int (x - y) :: r) σ
  | .imul => fun ks nL E pc lv st σ κ => gt_i2 st fun x y r => κ (pc + 1) lv (.int (x * y) :: r) σ
  | .iand => fun ks nL E pc lv st σ κ => gt_i2 st fun x y r => κ (pc + 1) lv (.int (x &&& y) :: r) σ
  | .ior => fun ks nL E pc lv st σ κ => gt_i2 st fun x y r => κ (pc + 1) lv (.int (x ||| y) :: r) σ
  | .idiv => fun ks nL E pc lv st σ κ => gt_i2 st fun x y r => if y = 0 then none else κ (pc + 1) lv (.int (x / y) :: r) σ
  | .irem => fun ks nL E pc lv st σ κ => gt_i2 st fun x y r => if y = 0 then none else κ (pc + 1) lv (.int (x - x / y * y) :: r) σ
  | .ineg => fun ks nL E pc lv st σ κ => gt_i1 st fun x r => κ (pc + 1) lv (.int (-x) :: r) σ
  | .ishl => fun ks nL E pc lv st σ κ => gt_i2 st fun x y r => κ (pc + 1) lv (.int (x <<< (y &&& 31)) :: r) σ
  | .ishr => fun ks nL E pc lv st σ κ => gt_i2 st fun x y r => κ (pc + 1) lv (.int (x >>> (y &&& 31)) :: r) σ
  | .ladd => fun ks nL E pc lv st σ κ => gt_l2 st fun x y r => κ (pc + 1) lv (.long (x + y) :: r) σ
  | .lsub => fun ks nL E pc lv st σ κ => gt_l2 st fun x y r => κ (pc + 1) lv (.long (x - y) :: r) σ
  | .lmul => fun ks nL E pc lv st σ κ => gt_l2 st fun x y r => κ (pc + 1) lv (.long (x * y) :: r) σ
  | .land => fun ks nL E pc lv st σ κ => gt_l2 st fun x y r => κ (pc + 1) lv (.long (x &&& y) :: r) σ
  | .lor => fun ks nL E pc lv st σ κ => gt_l2 st fun x y r => κ (pc + 1) lv (.long (x ||| y) :: r) σ
  | .ldiv => fun ks nL E pc lv st σ κ => gt_l2 st fun x y r => if y = 0 then none else κ (pc + 1) lv (.long (x / y) :: r) σ
  | .lrem => fun ks nL E pc lv st σ κ => gt_l2 st fun x y r => if y = 0 then none else κ (pc + 1) lv (.long (x - x / y * y) :: r) σ
  | .lshl => fun ks nL E pc lv st σ κ => gt_li st fun x y r => κ (pc + 1) lv (.long (x <<< (y.toInt64 &&& 63)) :: r) σ
  | .lshr => fun ks nL E pc lv st σ κ => gt_li st fun x y r => κ (pc + 1) lv (.long (x >>> (y.toInt64 &&& 63)) :: r) σ
  | .i2l => fun ks nL E pc lv st σ κ => gt_i1 st fun x r => κ (pc + 1) lv (.long x.toInt64 :: r) σ
  | .l2i => fun ks nL E pc lv st σ κ => gt_l1 st fun x r => κ (pc + 1) lv (.int x.toInt32 :: r) σ
  | .lcmp => fun ks nL E pc lv st σ κ => gt_l2 st fun x y r => κ (pc + 1) lv (.int (lg_cmp x y) :: r) σ
  | .dup => fun ks nL E pc lv st σ κ => (match st with
    | v :: r => if v.category = 1 then κ (pc + 1) lv (v :: v :: r) σ else none
    | _ => none)
  | .dup2 => fun ks nL E pc lv st σ κ => (match st with
    | v :: w :: r => if v.category = 1 ∧ w.category = 1 then κ (pc + 1) lv (v :: w :: v :: w :: r) σ else none
    | _ => none)
  | .pop => fun ks nL E pc lv st σ κ => (match st with
    | v :: r => if v.category = 1 then κ (pc + 1) lv r σ else none
    | _ => none)
  | .goto off => fun ks nL E pc lv st σ κ => gt_jp pc off fun t => κ t lv st σ
  | .ifCond c off => fun ks nL E pc lv st σ κ => gt_i1 st fun x r => gt_jp pc off fun t => gt_br c x 0 (κ t lv r σ) (κ (pc + 3) lv r σ)
  | .if_icmp c off => fun ks nL E pc lv st σ κ => gt_i2 st fun x y r => gt_jp pc off fun t => gt_br c x y (κ t lv r σ) (κ (pc + 3) lv r σ)
  | .ifnull off => fun ks nL E pc lv st σ κ => (match st with
    | .null :: r => gt_jp pc off fun t => κ t lv r σ
    | .ref _ :: r => κ (pc + 3) lv r σ
    | _ => none)
  | .ifnonnull off => fun ks nL E pc lv st σ κ => (match st with
    | .null :: r => κ (pc + 3) lv r σ
    | .ref _ :: r => gt_jp pc off fun t => κ t lv r σ
    | _ => none)
  | .tableswitch d lo hi offs => fun ks nL E pc lv st σ κ => gt_i1 st fun x r => if 0 ≤ lo ∧ hi = lo + offs.size - 1 ∧ hi < 1000 ∧ 0 < offs.size then gt_ts x d (fun o => gt_jp pc o fun t => κ t lv r σ) lo offs.toList else none
  | .lookupswitch d ps => fun ks nL E pc lv st σ κ => gt_i1 st fun x r => if (ps.toList.zip (ps.toList.drop 1)).all (fun (a, next) => a.1 < next.1) = true ∧ ps.toList.all (fun w => decide (-2147483648 ≤ w.1) && decide (w.1 < 2147483648)) = true then gt_lsw x d (fun o => gt_jp pc o fun t => κ t lv r σ) ps.toList else none
  | .getfield i => fun ks nL E pc lv st σ κ => gt_a1 st fun a r => (gt_lk E.1 i).bind fun f => (gt_gf ks σ a f.1 f.2.1).bind fun v => κ (pc + 3) lv (v :: r) σ
  | .putfield i => fun ks nL E pc lv st σ κ => (match st with
    | .int x :: .ref a :: r => (gt_lk E.1 i).bind fun f => (gt_pfI ks σ a f.1 f.2.1 f.2.2 x).bind fun σ' => κ (pc + 3) lv r σ'
    | .long x :: .ref a :: r => (gt_lk E.1 i).bind fun f => (gt_pfL ks σ a f.1 f.2.1 f.2.2 x).bind fun σ' => κ (pc + 3) lv r σ'
    | _ => none)
  | .iaload => fun ks nL E pc lv st σ κ => gt_ai st fun a i r => (gt_ldI ks σ a i).bind fun v => κ (pc + 1) lv (.int v :: r) σ
  | .baload => fun ks nL E pc lv st σ κ => gt_ai st fun a i r => (gt_ldZ ks σ a i).bind fun v => κ (pc + 1) lv (.int v :: r) σ
  | .laload => fun ks nL E pc lv st σ κ => gt_ai st fun a i r => (gt_ldL ks σ a i).bind fun v => κ (pc + 1) lv (.long v :: r) σ
  | .aaload => fun ks nL E pc lv st σ κ => gt_ai st fun a i r => (match gt_ldR ks σ a i with
    | some (some v) => κ (pc + 1) lv (.ref v :: r) σ
    | some none => κ (pc + 1) lv (.null :: r) σ
    | none => none)
  | .iastore => fun ks nL E pc lv st σ κ => gt_aii st fun a i x r => (gt_stI ks σ a i x).bind fun σ' => κ (pc + 1) lv r σ'
  | .bastore => fun ks nL E pc lv st σ κ => gt_aii st fun a i x r => (gt_stZ ks σ a i x).bind fun σ' => κ (pc + 1) lv r σ'
  | .lastore => fun ks nL E pc lv st σ κ => gt_ail st fun a i x r => (gt_stL ks σ a i x).bind fun σ' => κ (pc + 1) lv r σ'
  | .aastore => fun ks nL E pc lv st σ κ => gt_aiq st fun a i x r => (gt_stR ks σ a i x).bind fun σ' => κ (pc + 1) lv r σ'
  | .arraylength => fun ks nL E pc lv st σ κ => gt_a1 st fun a r => (gt_ln ks σ a).bind fun n => κ (pc + 1) lv (.int (Int32.ofNat n) :: r) σ
  | .invokevirtual i => fun ks nL E pc lv st σ κ => gt_inv E 0 i pc lv st σ κ
  | .invokestatic i => fun ks nL E pc lv st σ κ => gt_inv E 1 i pc lv st σ κ
  | .invokespecial i => fun ks nL E pc lv st σ κ => gt_inv E 2 i pc lv st σ κ
  | _ => fun _ _ _ _ _ _ _ _ => none
def gt_stp (ks : gt_KS) (nL : Nat) (E : gt_E) (q : gt_I) (lv : gt_L) (st : List Value) (σ : gt_S) (κ : gt_C) : Option gt_F := gt_op q.2.1 ks nL E q.1 lv st σ κ
/-! the step is what the machine does -/
theorem gt_lk_mem {α : Type} : ∀ {t : List (Nat × α)} {n : Nat} {v : α}, gt_lk t n = some v → (n, v) ∈ t
  | [], _, _, h => by cases h
  | q :: t, n, v, h => by
    unfold gt_lk at h
    cases hq : Nat.beq q.1 n with
    | true =>
      rw [hq] at h
      cases h
      have := Nat.eq_of_beq_eq_true hq
      subst this
      exact List.mem_cons_self
    | false =>
      rw [hq] at h
      exact List.mem_cons_of_mem _ (gt_lk_mem h)
theorem gt_fv_get (ad : Nat → Nat) (σ : gt_S) (j : Nat) : ∀ (sl : List (Option (Option Nat))) (k0 k : Nat) {x : Option (Option Nat)}, sl[k]? = some x → (gt_fv ad σ j k0 sl)[k]? = some (gt_sv ad σ j (k0 + k) x)
  | [], _, _, _, h => by simp at h
  | y :: t, k0, 0, x, h => by
    simp at h
    subst h
    rfl
  | y :: t, k0, k + 1, x, h => by
    rw [List.getElem?_cons_succ] at h
    unfold gt_fv
    rw [List.getElem?_cons_succ, gt_fv_get ad σ j t (k0 + 1) k h, show k0 + 1 + k = k0 + (k + 1) by omega]
theorem gt_fv_len (ad : Nat → Nat) (σ : gt_S) (j : Nat) : ∀ (sl : List (Option (Option Nat))) (k0 : Nat), (gt_fv ad σ j k0 sl).length = sl.length
  | [], _ => rfl
  | y :: t, k0 => by
    unfold gt_fv
    rw [List.length_cons, gt_fv_len ad σ j t (k0 + 1), List.length_cons]
theorem gt_fv_setI (ad : Nat → Nat) (σ : gt_S) (j : Nat) (v : Int32) : ∀ (sl : List (Option (Option Nat))) (k0 k : Nat), sl[k]? = some none → (gt_fv ad σ j k0 sl).set k (.int v) = gt_fv ad (gt_u σ.1 j (k0 + k) v, σ.2) j k0 sl := by
  intro sl k0 k h
  have hk : k < sl.length := (List.getElem?_eq_some_iff.mp h).1
  apply List.ext_getElem?
  intro i
  by_cases hi : i = k
  · subst hi
    rw [List.getElem?_set_self (by rw [gt_fv_len]; exact hk), gt_fv_get ad _ j sl k0 i h]
    simp [gt_sv, gt_u]
  · rw [List.getElem?_set_ne (Ne.symm hi)]
    cases hs : sl[i]? with
    | none =>
      have : sl.length ≤ i := List.getElem?_eq_none_iff.mp hs
      rw [List.getElem?_eq_none (by rw [gt_fv_len]; exact this), List.getElem?_eq_none (by rw [gt_fv_len]; exact this)]
    | some x =>
      rw [gt_fv_get ad _ j sl k0 i hs, gt_fv_get ad _ j sl k0 i hs]
      rcases x with _ | _ | r
      · simp [gt_sv, gt_u, hi]
      · rfl
      · rfl
theorem gt_fv_setL (ad : Nat → Nat) (σ : gt_S) (j : Nat) (v : Int64) : ∀ (sl : List (Option (Option Nat))) (k0 k : Nat), sl[k]? = some (some none) → (gt_fv ad σ j k0 sl).set k (.long v) = gt_fv ad (σ.1, gt_u σ.2.1 j (k0 + k) v, σ.2.2) j k0 sl := by
  intro sl k0 k h
  have hk : k < sl.length := (List.getElem?_eq_some_iff.mp h).1
  apply List.ext_getElem?
  intro i
  by_cases hi : i = k
  · subst hi
    rw [List.getElem?_set_self (by rw [gt_fv_len]; exact hk), gt_fv_get ad _ j sl k0 i h]
    simp [gt_sv, gt_u]
  · rw [List.getElem?_set_ne (Ne.symm hi)]
    cases hs : sl[i]? with
    | none =>
      have : sl.length ≤ i := List.getElem?_eq_none_iff.mp hs
      rw [List.getElem?_eq_none (by rw [gt_fv_len]; exact this), List.getElem?_eq_none (by rw [gt_fv_len]; exact this)]
    | some x =>
      rw [gt_fv_get ad _ j sl k0 i hs, gt_fv_get ad _ j sl k0 i hs]
      rcases x with _ | _ | r
      · rfl
      · simp [gt_sv, gt_u, hi]
      · rfl
theorem gt_v_sv (ad : Nat → Nat) (σ : gt_S) (j k : Nat) (x : Option (Option Nat)) : gt_v ad (gt_sv id σ j k x) = gt_sv ad σ j k x := by
  rcases x with _ | _ | r
  · rfl
  · rfl
  · unfold gt_sv
    dsimp only
    split <;> rfl
theorem gt_v_rf (ad : Nat → Nat) (x : Option Nat) : gt_v ad (va_rf x) = va_rf (x.map ad) := by
  cases x <;> rfl
theorem gt_set1_m (ad : Nat → Nat) (i : Nat) (v : Value) (lv : gt_L) : (i, gt_v ad v) :: (lv.map (gt_lm ad)).filter (fun q => !(q.1 == i) && !(q.1 + 1 == i && q.2.category == 2)) = (gt_set1 i v lv).map (gt_lm ad) := by
  unfold gt_set1
  rw [gt_f1_eq, List.map_cons, List.filter_map]
  congr 2
  apply List.filter_congr
  intro q _
  simp only [Function.comp, gt_lm, gt_v_cat]
theorem gt_set2_m (ad : Nat → Nat) (i : Nat) (v : Value) (lv : gt_L) : (i, gt_v ad v) :: (lv.map (gt_lm ad)).filter (fun q => !(q.1 == i) && (!(q.1 == i + 1) && !(q.1 + 1 == i && q.2.category == 2))) = (gt_set2 i v lv).map (gt_lm ad) := by
  unfold gt_set2
  rw [gt_f2_eq, List.map_cons, List.filter_map]
  congr 2
  apply List.filter_congr
  intro q _
  simp only [Function.comp, gt_lm, gt_v_cat]
theorem gt_ofInt {a : Int} (h0 : 0 ≤ a) (h1 : a < 2147483648) : (Int32.ofInt a).toInt = a := Int32.toInt_ofInt_of_le (by omega) (by omega)
theorem gt_ts_s {α : Type} {x : Int32} {d : Int} {k : Int → Option α} {o : α} : ∀ (offs : List Int) (lo : Int), 0 ≤ lo → lo + offs.length < 2147483648 → gt_ts x d k lo offs = some o →
    (∃ (n : Nat) (w : Int), offs[n]? = some w ∧ x.toInt = lo + n ∧ k w = some o) ∨ ((∀ n : Nat, n < offs.length → x.toInt ≠ lo + n) ∧ k d = some o)
  | [], lo, _, _, h => Or.inr ⟨fun n hn => absurd hn (Nat.not_lt_zero n), h⟩
  | w :: t, lo, h0, h1, h => by
    unfold gt_ts at h
    rw [List.length_cons] at h1
    by_cases hx : x = Int32.ofInt lo
    · rw [if_pos hx] at h
      refine Or.inl ⟨0, w, rfl, ?_, h⟩
      rw [hx, gt_ofInt h0 (by omega)]
      omega
    · rw [if_neg hx] at h
      rcases gt_ts_s t (lo + 1) (by omega) (by omega) h with ⟨n, w', a1, a2, a3⟩ | ⟨a1, a2⟩
      · exact Or.inl ⟨n + 1, w', by rw [List.getElem?_cons_succ]; exact a1, by omega, a3⟩
      · refine Or.inr ⟨fun n hn => ?_, a2⟩
        cases n with
        | zero =>
          intro q
          apply hx
          apply Int32.toInt_inj.mp
          rw [gt_ofInt h0 (by omega)]
          omega
        | succ n =>
          have := a1 n (by rw [List.length_cons] at hn; omega)
          omega
theorem gt_lsw_s {α : Type} {x : Int32} {d : Int} {k : Int → Option α} {o : α} : ∀ (ps : List (Int × Int)), ps.all (fun w => decide (-2147483648 ≤ w.1) && decide (w.1 < 2147483648)) = true → gt_lsw x d k ps = some o → ∃ off, Op.lookupswitch.offset ps d x.toInt = off ∧ k off = some o
  | [], _, h => ⟨d, rfl, h⟩
  | w :: t, hp, h => by
    rw [List.all_cons, Bool.and_eq_true, Bool.and_eq_true, decide_eq_true_eq, decide_eq_true_eq] at hp
    unfold gt_lsw at h
    rw [Op.lookupswitch.offset_cons]
    have e1 : (Int32.ofInt w.1).toInt = w.1 := Int32.toInt_ofInt_of_le (by omega) (by omega)
    by_cases hx : x = Int32.ofInt w.1
    · rw [if_pos hx] at h
      refine ⟨w.2, ?_, h⟩
      rw [if_pos]
      rw [hx, e1]
    · rw [if_neg hx] at h
      obtain ⟨off, h1, h2⟩ := gt_lsw_s t hp.2 h
      refine ⟨off, ?_, h2⟩
      rw [if_neg]
      · exact h1
      · intro q
        apply hx
        apply Int32.toInt_inj.mp
        rw [e1]
        exact q.symm
def gt_eok (Ts : List Cond) (own : String) (cl : List vw_C) (E : gt_E) : Prop := (∀ q ∈ E.1, gt_fok Ts own cl q) ∧ (∀ q ∈ E.2.1, Cond.constant own q.1 q.2 ∈ Ts) ∧ ∀ q ∈ E.2.2.1, Cond.constantLong own q.1 q.2 ∈ Ts
/-- the judgement: wherever the machine stands there, with these locals, stack and store, it comes to its end -/
def gt_J (Wm : Heap → List Loc → Nat → Array Slot → List Value → Prop) (D : va_G) (cl : List vw_C) (ks : gt_KS) (cA : FieldType → Nat) (ad : Nat → Nat) (A : Nat → Prop) (H0 : Heap) (tx : List (Nat × Nat)) (nL : Nat) (pc : Nat) (lv : gt_L) (st : List Value) (σ : gt_S) : Prop :=
  σ.2.2.2 = tx → ∀ (ls : Array Slot) (H : Heap) (locs : List Loc), lv_has ls nL (lv.map (gt_lm ad)) → va_P D cl (gt_w ks cA ad σ) H → va_S A H0 H locs → Wm H locs pc ls (st.map (gt_v ad))
def gt_inst (cc : ByteArray) (pc idx : Nat) : Nat → Prop
  | 0 => decode cc pc = .ok (.invokevirtual idx, 3)
  | 1 => decode cc pc = .ok (.invokestatic idx, 3)
  | _ => decode cc pc = .ok (.invokespecial idx, 3)
/-- a call is what its row of the table says -/
def gt_ck (J : Nat → gt_L → List Value → gt_S → Prop) (cc : ByteArray) (q : Nat × Nat × Nat × Nat × gt_G) : Prop := ∀ (pc : Nat) (lv : gt_L) (as rest : List Value) (σ σ' : gt_S) (r : Option Value), gt_inst cc pc q.1 q.2.1 → as.length = q.2.2.2.1 → q.2.2.2.2 as σ = some (r, σ') → (rest.map fun v => v.category).sum ≤ 8 → J (pc + 3) lv (r.toList ++ rest) σ' → J pc lv (as.reverse ++ rest) σ
def gt_cok (J : Nat → gt_L → List Value → gt_S → Prop) (cc : ByteArray) (E : gt_E) : Prop := ∀ q ∈ E.2.2.2.1, gt_ck J cc q
section GTJ
variable {p : Program} {l : Launch} {e : Env} {R : Room} {s : State} {m : MethodId} {args : Array Value} {below : List Frame} {meth : Method} {c : Code} {cells slots : Nat} {Q : State → Prop}
variable {cc : ByteArray} {D : va_G} {cl : List vw_C} {ks : gt_KS} {cA : FieldType → Nat} {ad : Nat → Nat} {A : Nat → Prop} {H0 : Heap} {tx : List (Nat × Nat)} {nL : Nat} {own : String} {Ts : List Cond}
/-- what a field's row gives: its value stands above -/
theorem gt_getf {idx ci k t a : Nat} {σ : gt_S} {v : Value} {pc : Nat} {ls : Array Slot} {H : Heap} {locs : List Loc} {rest : List Value} (hx : p.tables.exec = Jvm.exec) (hb : c.code = cc) (hown : s.vm.findClass own = some m.cls) (hts : ∀ w ∈ Ts, w.before args s = true) (hK : va_K D cl (gt_tys cA) s) (hf : gt_fok Ts own cl (idx, ci, k, t)) (hP : va_P D cl (gt_w ks cA ad σ) H) (hg : gt_gf ks σ a ci k = some v) (hdg : decode cc pc = .ok (.getfield idx, 3))
    (kk : W p l e R s m args below meth c H locs cells slots Q (F0 m (pc + 3) ls (gt_v ad v :: rest))) : W p l e R s m args below meth c H locs cells slots Q (F0 m pc ls (.ref (ad a) :: rest)) := by
  obtain ⟨C, T, N, ty, h1, h2, h3, -, -, h6, -⟩ := hf
  unfold gt_gf at hg
  split at hg
  · rename_i q hq
    split at hg
    · rename_i hci
      split at hg
      · rename_i x hx2
        cases hg
        rw [gt_v_sv] at kk
        have he := gt_w_at (cA := cA) (ad := ad) hq
        obtain ⟨q1, q2⟩ := q
        dsimp only at hci hx2
        subst hci
        have hv : (gt_fv ad σ a 0 q2)[k]? = some (gt_sv ad σ a k x) := by
          have := gt_fv_get ad σ a q2 0 k hx2
          rwa [Nat.zero_add] at this
        rcases h6 with h6 | ⟨host, h6⟩
        · exact va_get (D := D) hx hb hts h3 hown hK hP a he h1 k h2 (hts _ h6) (fun _ h9 => h9) hv hdg kk
        · exact va_getN (D := D) hx hb hts h3 hown hK hP a he h1 k h2 (hts _ h6) (fun _ h9 => h9) hv hdg kk
      · cases hg
    · cases hg
  · cases hg
theorem gt_ne_u {α : Type} {f : Nat → Nat → α} {j k : Nat} {v : α} {i : Nat} (h : i ≠ j) : gt_u f j k v i = f i := by
  funext b
  simp [gt_u, h]
theorem gt_putI {idx ci k t a : Nat} {σ σ' : gt_S} {x : Int32} {pc : Nat} {ls : Array Slot} {H : Heap} {locs : List Loc} {rest : List Value} (hx : p.tables.exec = Jvm.exec) (hb : c.code = cc) (hown : s.vm.findClass own = some m.cls) (hts : ∀ w ∈ Ts, w.before args s = true) (hK : va_K D cl (gt_tys cA) s) (hf : gt_fok Ts own cl (idx, ci, k, t)) (hP : va_P D cl (gt_w ks cA ad σ) H) (hD : va_D A (gt_w ks cA ad σ)) (hS : va_S A H0 H locs) (hg : gt_pfI ks σ a ci k t x = some σ') (hdg : decode cc pc = .ok (.putfield idx, 3))
    (kk : σ'.2.2.2 = σ.2.2.2 → ∀ (H : Heap) (locs : List Loc), va_P D cl (gt_w ks cA ad σ') H → va_S A H0 H locs → W p l e R s m args below meth c H locs cells slots Q (F0 m (pc + 3) ls rest)) : W p l e R s m args below meth c H locs cells slots Q (F0 m pc ls (.int x :: .ref (ad a) :: rest)) := by
  obtain ⟨C, T, N, ty, h1, h2, h3, h4, h5, h6, h7⟩ := hf
  dsimp only at h1 h2 h4 h6 h7
  unfold gt_pfI at hg
  split at hg
  · rename_i q hq
    split at hg
    · rename_i hci
      split at hg
      · rename_i hx2
        split at hg
        · rename_i ht
          cases hg
          obtain ⟨q1, q2⟩ := q
          dsimp only at hci hx2
          subst hci
          have he := gt_w_at (cA := cA) (ad := ad) hq
          have hset := gt_w_set (cA := cA) (ad := ad) (σ := σ) (σ' := (gt_u σ.1 a k x, σ.2)) rfl (fun i hi => ⟨gt_ne_u hi, rfl, rfl⟩) hq
          have hfv := gt_fv_setI ad σ a x q2 0 k hx2
          rw [Nat.zero_add] at hfv
          have hl : k < (gt_fv ad σ a 0 q2).length := by rw [gt_fv_len]; exact (List.getElem?_eq_some_iff.mp hx2).1
          have hkk : ∀ (H1 : Heap) (locs1 : List Loc), va_P D cl ((gt_w ks cA ad σ).set a (ad a, .inr (q1, (gt_fv ad σ a 0 q2).set k (.int x)))) H1 → va_D A ((gt_w ks cA ad σ).set a (ad a, .inr (q1, (gt_fv ad σ a 0 q2).set k (.int x)))) → va_S A H0 H1 locs1 → W p l e R s m args below meth c H1 locs1 cells slots Q (F0 m (pc + 3) ls rest) := by
            intro H1 locs1 hP1 _ hS1
            rw [hfv] at hP1
            have hP2 : va_P D cl (gt_w ks cA ad (gt_u σ.1 a k x, σ.2)) H1 := by rw [← hset]; exact hP1
            exact kk rfl H1 locs1 hP2 hS1
          have hfin : (T k).2.2.2 = false ∧ (ty k = .int ∨ (ty k = .boolean ∧ (x = 0 ∨ x = 1))) := by
            rcases h7 with h7 | ⟨a1, a2⟩
            · omega
            · refine ⟨a1, ?_⟩
              rcases a2 with ⟨b1, b2⟩ | ⟨b1, b2⟩ | ⟨b1, b2⟩
              · exact Or.inl b2
              · rcases ht with ht | ht
                · omega
                · exact Or.inr ⟨b2, ht.2⟩
              · omega
          obtain ⟨hfin, hty⟩ := hfin
          have hnar : narrow (ty k) (.int x) = .int x := by
            rcases hty with hty | ⟨hty, rfl | rfl⟩ <;> rw [hty] <;> rfl
          have hfit : fits (ty k) (.int x) = true := by
            rcases hty with hty | ⟨hty, rfl | rfl⟩ <;> rw [hty] <;> rfl
          rcases h6 with h6 | ⟨host, h6⟩
          · exact va_put (D := D) (v := .int x) (ty := ty k) hx hb hts h3 ty h4 h5 hown hK hP hD hS a he h1 k h2 (hts _ h6) (fun _ h9 => h9) hfin (h4 k h2) hnar hfit hl hdg hkk
          · exact va_putN (D := D) (v := .int x) (ty := ty k) hx hb hts h3 ty h4 h5 hown hK hP hD hS a he h1 k h2 (hts _ h6) (fun _ h9 => h9) hfin (h4 k h2) hnar hfit hl hdg hkk
        · cases hg
      · cases hg
    · cases hg
  · cases hg
theorem gt_putL {idx ci k t a : Nat} {σ σ' : gt_S} {x : Int64} {pc : Nat} {ls : Array Slot} {H : Heap} {locs : List Loc} {rest : List Value} (hx : p.tables.exec = Jvm.exec) (hb : c.code = cc) (hown : s.vm.findClass own = some m.cls) (hts : ∀ w ∈ Ts, w.before args s = true) (hK : va_K D cl (gt_tys cA) s) (hf : gt_fok Ts own cl (idx, ci, k, t)) (hP : va_P D cl (gt_w ks cA ad σ) H) (hD : va_D A (gt_w ks cA ad σ)) (hS : va_S A H0 H locs) (hg : gt_pfL ks σ a ci k t x = some σ') (hdg : decode cc pc = .ok (.putfield idx, 3))
    (kk : σ'.2.2.2 = σ.2.2.2 → ∀ (H : Heap) (locs : List Loc), va_P D cl (gt_w ks cA ad σ') H → va_S A H0 H locs → W p l e R s m args below meth c H locs cells slots Q (F0 m (pc + 3) ls rest)) : W p l e R s m args below meth c H locs cells slots Q (F0 m pc ls (.long x :: .ref (ad a) :: rest)) := by
  obtain ⟨C, T, N, ty, h1, h2, h3, h4, h5, h6, h7⟩ := hf
  dsimp only at h1 h2 h4 h6 h7
  unfold gt_pfL at hg
  split at hg
  · rename_i q hq
    split at hg
    · rename_i hci
      split at hg
      · rename_i hx2
        split at hg
        · rename_i ht
          cases hg
          obtain ⟨q1, q2⟩ := q
          dsimp only at hci hx2
          subst hci
          have he := gt_w_at (cA := cA) (ad := ad) hq
          have hset := gt_w_set (cA := cA) (ad := ad) (σ := σ) (σ' := (σ.1, gt_u σ.2.1 a k x, σ.2.2)) rfl (fun i hi => ⟨rfl, gt_ne_u hi, rfl⟩) hq
          have hfv := gt_fv_setL ad σ a x q2 0 k hx2
          rw [Nat.zero_add] at hfv
          have hl : k < (gt_fv ad σ a 0 q2).length := by rw [gt_fv_len]; exact (List.getElem?_eq_some_iff.mp hx2).1
          have hkk : ∀ (H1 : Heap) (locs1 : List Loc), va_P D cl ((gt_w ks cA ad σ).set a (ad a, .inr (q1, (gt_fv ad σ a 0 q2).set k (.long x)))) H1 → va_D A ((gt_w ks cA ad σ).set a (ad a, .inr (q1, (gt_fv ad σ a 0 q2).set k (.long x)))) → va_S A H0 H1 locs1 → W p l e R s m args below meth c H1 locs1 cells slots Q (F0 m (pc + 3) ls rest) := by
            intro H1 locs1 hP1 _ hS1
            rw [hfv] at hP1
            have hP2 : va_P D cl (gt_w ks cA ad (σ.1, gt_u σ.2.1 a k x, σ.2.2)) H1 := by rw [← hset]; exact hP1
            exact kk rfl H1 locs1 hP2 hS1
          have hfin : (T k).2.2.2 = false ∧ ty k = .long := by
            rcases h7 with h7 | ⟨a1, a2⟩
            · omega
            · refine ⟨a1, ?_⟩
              rcases a2 with ⟨b1, b2⟩ | ⟨b1, b2⟩ | ⟨b1, b2⟩
              · omega
              · omega
              · exact b2
          obtain ⟨hfin, hty⟩ := hfin
          have hnar : narrow (ty k) (.long x) = .long x := by rw [hty]; rfl
          have hfit : fits (ty k) (.long x) = true := by rw [hty]; rfl
          rcases h6 with h6 | ⟨host, h6⟩
          · exact va_put (D := D) (v := .long x) (ty := ty k) hx hb hts h3 ty h4 h5 hown hK hP hD hS a he h1 k h2 (hts _ h6) (fun _ h9 => h9) hfin (h4 k h2) hnar hfit hl hdg hkk
          · exact va_putN (D := D) (v := .long x) (ty := ty k) hx hb hts h3 ty h4 h5 hown hK hP hD hS a he h1 k h2 (hts _ h6) (fun _ h9 => h9) hfin (h4 k h2) hnar hfit hl hdg hkk
        · cases hg
      · cases hg
    · cases hg
  · cases hg
theorem gt_ldI_w {a : Nat} {σ : gt_S} {i v : Int32} {pc : Nat} {ls : Array Slot} {H : Heap} {locs : List Loc} {rest : List Value} (hx : p.tables.exec = Jvm.exec) (hb : c.code = cc) (hK : va_K D cl (gt_tys cA) s) (hP : va_P D cl (gt_w ks cA ad σ) H) (hg : gt_ldI ks σ a i = some v) (hdg : decode cc pc = .ok (.iaload, 1))
    (kk : W p l e R s m args below meth c H locs cells slots Q (F0 m (pc + 1) ls (.int v :: rest))) : W p l e R s m args below meth c H locs cells slots Q (F0 m pc ls (.int i :: .ref (ad a) :: rest)) := by
  unfold gt_ldI at hg
  split at hg
  · rename_i n rs hq
    split at hg
    · cases hg
    · rename_i hin
      cases hg
      exact va_iald hx hb hK hP a 0 (gt_w_at (cA := cA) (ad := ad) hq) rfl hin hdg kk
  · cases hg
theorem gt_ldZ_w {a : Nat} {σ : gt_S} {i v : Int32} {pc : Nat} {ls : Array Slot} {H : Heap} {locs : List Loc} {rest : List Value} (hx : p.tables.exec = Jvm.exec) (hb : c.code = cc) (hK : va_K D cl (gt_tys cA) s) (hP : va_P D cl (gt_w ks cA ad σ) H) (hg : gt_ldZ ks σ a i = some v) (hdg : decode cc pc = .ok (.baload, 1))
    (kk : W p l e R s m args below meth c H locs cells slots Q (F0 m (pc + 1) ls (.int v :: rest))) : W p l e R s m args below meth c H locs cells slots Q (F0 m pc ls (.int i :: .ref (ad a) :: rest)) := by
  unfold gt_ldZ at hg
  split at hg
  · rename_i n rs hq
    split at hg
    · cases hg
    · rename_i hin
      cases hg
      exact va_zald hx hb hK hP a 2 (gt_w_at (cA := cA) (ad := ad) hq) rfl hin hdg kk
  · cases hg
theorem gt_ldL_w {a : Nat} {σ : gt_S} {i : Int32} {v : Int64} {pc : Nat} {ls : Array Slot} {H : Heap} {locs : List Loc} {rest : List Value} (hx : p.tables.exec = Jvm.exec) (hb : c.code = cc) (hK : va_K D cl (gt_tys cA) s) (hP : va_P D cl (gt_w ks cA ad σ) H) (hg : gt_ldL ks σ a i = some v) (hdg : decode cc pc = .ok (.laload, 1))
    (kk : W p l e R s m args below meth c H locs cells slots Q (F0 m (pc + 1) ls (.long v :: rest))) : W p l e R s m args below meth c H locs cells slots Q (F0 m pc ls (.int i :: .ref (ad a) :: rest)) := by
  unfold gt_ldL at hg
  split at hg
  · rename_i n rs hq
    split at hg
    · cases hg
    · rename_i hin
      cases hg
      exact va_lald hx hb hK hP a 1 (gt_w_at (cA := cA) (ad := ad) hq) rfl hin hdg kk
  · cases hg
theorem gt_isT_at {cA : FieldType → Nat} {ty : FieldType} (h : gt_isT ty = true) : ∃ t0 : Nat, (gt_tys cA)[t0]? = some (cA ty, ty) ∧ ty.isReference = true ∧ ∀ (ad : Nat → Nat) (σ : gt_S) (j : Nat) (rs : List Nat), gt_ct ad σ j ty rs = .inr (.inr (.inr (.inr (fun k => (gt_rf rs σ j k).map ad)))) := by
  unfold gt_isT at h
  simp only [Bool.or_eq_true, beq_iff_eq] at h
  rcases h with rfl | rfl | rfl | rfl
  · exact ⟨3, rfl, rfl, fun _ _ _ _ => rfl⟩
  · exact ⟨4, rfl, rfl, fun _ _ _ _ => rfl⟩
  · exact ⟨5, rfl, rfl, fun _ _ _ _ => rfl⟩
  · exact ⟨6, rfl, rfl, fun _ _ _ _ => rfl⟩
theorem gt_ldR_w {a : Nat} {σ : gt_S} {i : Int32} {v : Option Nat} {pc : Nat} {ls : Array Slot} {H : Heap} {locs : List Loc} {rest : List Value} (hx : p.tables.exec = Jvm.exec) (hb : c.code = cc) (hK : va_K D cl (gt_tys cA) s) (hP : va_P D cl (gt_w ks cA ad σ) H) (hg : gt_ldR ks σ a i = some v) (hdg : decode cc pc = .ok (.aaload, 1))
    (kk : W p l e R s m args below meth c H locs cells slots Q (F0 m (pc + 1) ls (va_rf (v.map ad) :: rest))) : W p l e R s m args below meth c H locs cells slots Q (F0 m pc ls (.int i :: .ref (ad a) :: rest)) := by
  unfold gt_ldR at hg
  split at hg
  · rename_i ty n rs hq
    split at hg
    · rename_i hT
      split at hg
      · cases hg
      · rename_i hin
        cases hg
        obtain ⟨t0, ht, hr, hct⟩ := gt_isT_at (cA := cA) hT
        have ha := gt_w_at (cA := cA) (ad := ad) hq
        have ha2 : (gt_w ks cA ad σ)[a]? = some (ad a, .inl (cA ty, n, .inr (.inr (.inr (.inr (fun k => (gt_rf rs σ a k).map ad)))))) := by
          rw [ha]
          unfold gt_c
          dsimp only
          rw [hct]
        have hlt : i.toNatClampNeg < n := Nat.not_le.mp fun q => hin (Or.inr q)
        exact W.aald (v := va_rf ((gt_rf rs σ a i.toNatClampNeg).map ad)) (ty := ty) hx hb (hP a _ ha2) ((hK.2 t0 _ ht).1 n (fun j => va_rf ((gt_rf rs σ a j).map ad))) hr (fun q => by cases q) (by show ¬ (i < 0 ∨ (arrV _ _ _).slots.size ≤ _); rw [arrV_size]; exact hin) (by show (arrV _ _ _).slots[_]? = _; rw [arrV_read _ _ hlt]) rfl rfl hdg kk
    · cases hg
  · cases hg
theorem gt_u_self {α : Type} (f : Nat → Nat → α) (j k : Nat) (v : α) : gt_u f j k v j = fun b => if b = k then v else f j b := by
  funext b
  simp [gt_u]
theorem gt_stI_w {a : Nat} {σ σ' : gt_S} {i x : Int32} {pc : Nat} {ls : Array Slot} {H : Heap} {locs : List Loc} {rest : List Value} (hx : p.tables.exec = Jvm.exec) (hb : c.code = cc) (hK : va_K D cl (gt_tys cA) s) (hP : va_P D cl (gt_w ks cA ad σ) H) (hD : va_D A (gt_w ks cA ad σ)) (hS : va_S A H0 H locs) (hg : gt_stI ks σ a i x = some σ') (hdg : decode cc pc = .ok (.iastore, 1))
    (kk : σ'.2.2.2 = σ.2.2.2 → ∀ (H : Heap) (locs : List Loc), va_P D cl (gt_w ks cA ad σ') H → va_S A H0 H locs → W p l e R s m args below meth c H locs cells slots Q (F0 m (pc + 1) ls rest)) : W p l e R s m args below meth c H locs cells slots Q (F0 m pc ls (.int x :: .int i :: .ref (ad a) :: rest)) := by
  unfold gt_stI at hg
  split at hg
  · rename_i n rs hq
    split at hg
    · cases hg
    · rename_i hin
      cases hg
      refine va_iast hx hb hK hP hD hS a 0 (gt_w_at (cA := cA) (ad := ad) hq) rfl hin hdg (fun H1 locs1 hP1 _ hS1 => kk rfl H1 locs1 ?_ hS1)
      rw [← gt_w_set (cA := cA) (ad := ad) (σ := σ) (σ' := (gt_u σ.1 a i.toNatClampNeg x, σ.2)) rfl (fun i hi => ⟨gt_ne_u hi, rfl, rfl⟩) hq]
      unfold gt_c gt_ct
      dsimp only
      rw [gt_u_self]
      exact hP1
  · cases hg
theorem gt_stZ_w {a : Nat} {σ σ' : gt_S} {i x : Int32} {pc : Nat} {ls : Array Slot} {H : Heap} {locs : List Loc} {rest : List Value} (hx : p.tables.exec = Jvm.exec) (hb : c.code = cc) (hK : va_K D cl (gt_tys cA) s) (hP : va_P D cl (gt_w ks cA ad σ) H) (hD : va_D A (gt_w ks cA ad σ)) (hS : va_S A H0 H locs) (hg : gt_stZ ks σ a i x = some σ') (hdg : decode cc pc = .ok (.bastore, 1))
    (kk : σ'.2.2.2 = σ.2.2.2 → ∀ (H : Heap) (locs : List Loc), va_P D cl (gt_w ks cA ad σ') H → va_S A H0 H locs → W p l e R s m args below meth c H locs cells slots Q (F0 m (pc + 1) ls rest)) : W p l e R s m args below meth c H locs cells slots Q (F0 m pc ls (.int x :: .int i :: .ref (ad a) :: rest)) := by
  unfold gt_stZ at hg
  split at hg
  · rename_i n rs hq
    split at hg
    · cases hg
    · rename_i hin
      cases hg
      refine va_zast hx hb hK hP hD hS a 2 (gt_w_at (cA := cA) (ad := ad) hq) rfl hin hdg (fun H1 locs1 hP1 _ hS1 => kk rfl H1 locs1 ?_ hS1)
      rw [← gt_w_set (cA := cA) (ad := ad) (σ := σ) (σ' := (gt_u σ.1 a i.toNatClampNeg (vp_nar .boolean x), σ.2)) rfl (fun i hi => ⟨gt_ne_u hi, rfl, rfl⟩) hq]
      unfold gt_c gt_ct
      dsimp only
      rw [gt_u_self]
      exact hP1
  · cases hg
theorem gt_stL_w {a : Nat} {σ σ' : gt_S} {i : Int32} {x : Int64} {pc : Nat} {ls : Array Slot} {H : Heap} {locs : List Loc} {rest : List Value} (hx : p.tables.exec = Jvm.exec) (hb : c.code = cc) (hK : va_K D cl (gt_tys cA) s) (hP : va_P D cl (gt_w ks cA ad σ) H) (hD : va_D A (gt_w ks cA ad σ)) (hS : va_S A H0 H locs) (hg : gt_stL ks σ a i x = some σ') (hdg : decode cc pc = .ok (.lastore, 1))
    (kk : σ'.2.2.2 = σ.2.2.2 → ∀ (H : Heap) (locs : List Loc), va_P D cl (gt_w ks cA ad σ') H → va_S A H0 H locs → W p l e R s m args below meth c H locs cells slots Q (F0 m (pc + 1) ls rest)) : W p l e R s m args below meth c H locs cells slots Q (F0 m pc ls (.long x :: .int i :: .ref (ad a) :: rest)) := by
  unfold gt_stL at hg
  split at hg
  · rename_i n rs hq
    split at hg
    · cases hg
    · rename_i hin
      cases hg
      refine va_last hx hb hK hP hD hS a 1 (gt_w_at (cA := cA) (ad := ad) hq) rfl hin hdg (fun H1 locs1 hP1 _ hS1 => kk rfl H1 locs1 ?_ hS1)
      rw [← gt_w_set (cA := cA) (ad := ad) (σ := σ) (σ' := (σ.1, gt_u σ.2.1 a i.toNatClampNeg x, σ.2.2)) rfl (fun i hi => ⟨rfl, gt_ne_u hi, rfl⟩) hq]
      unfold gt_c gt_ct
      dsimp only
      rw [gt_u_self]
      exact hP1
  · cases hg
theorem gt_rf_up (ad : Nat → Nat) (f : Nat → Nat → Option Nat) (j k : Nat) (v : Option Nat) : (fun b => (gt_u f j k v j b).map ad) = va_up (fun b => (f j b).map ad) k (v.map ad) := by
  funext b
  by_cases h : b = k
  · simp [gt_u, va_up, h]
  · simp [gt_u, va_up, h]
theorem gt_stR_w {a : Nat} {σ σ' : gt_S} {i : Int32} {x : Option Nat} {pc : Nat} {ls : Array Slot} {H : Heap} {locs : List Loc} {rest : List Value} (hcl : cl[7]? = some (RX7, TX7, 2)) (hx : p.tables.exec = Jvm.exec) (hb : c.code = cc) (hK : va_K D cl (gt_tys cA) s) (hP : va_P D cl (gt_w ks cA ad σ) H) (hD : va_D A (gt_w ks cA ad σ)) (hS : va_S A H0 H locs) (hg : gt_stR ks σ a i x = some σ') (hdg : decode cc pc = .ok (.aastore, 1))
    (kk : σ'.2.2.2 = σ.2.2.2 → ∀ (H : Heap) (locs : List Loc), va_P D cl (gt_w ks cA ad σ') H → va_S A H0 H locs → W p l e R s m args below meth c H locs cells slots Q (F0 m (pc + 1) ls rest)) : W p l e R s m args below meth c H locs cells slots Q (F0 m pc ls (va_rf (x.map ad) :: .int i :: .ref (ad a) :: rest)) := by
  unfold gt_stR at hg
  split at hg
  · rename_i C n hq
    split at hg
    · rename_i hC
      subst hC
      split at hg
      · cases hg
      · rename_i hin
        split at hg
        · cases hg
          refine va_astqN (C := "GiftTable$Text") hx hb hK hP hD hS a 4 (gt_w_at (cA := cA) (ad := ad) hq) rfl hin hdg (fun H1 locs1 hP1 _ hS1 => kk rfl H1 locs1 ?_ hS1)
          rw [← gt_w_set (cA := cA) (ad := ad) (σ := σ) (σ' := (σ.1, σ.2.1, gt_u σ.2.2.1 a i.toNatClampNeg none, σ.2.2.2)) rfl (fun i hi => ⟨rfl, rfl, gt_ne_u hi⟩) hq]
          unfold gt_c gt_ct gt_rf
          dsimp only
          rw [gt_rf_up]
          exact hP1
        · rename_i t
          split at hg
          · rename_i ci sl hq2
            split at hg
            · rename_i hci
              subst hci
              cases hg
              refine va_astq (r := (RX7, TX7, 2)) hx hb hK hP hD hS a 4 t 7 (gt_w_at (cA := cA) (ad := ad) hq) rfl (gt_w_at (cA := cA) (ad := ad) hq2) hcl hin hdg (fun H1 locs1 hP1 _ hS1 => kk rfl H1 locs1 ?_ hS1)
              rw [← gt_w_set (cA := cA) (ad := ad) (σ := σ) (σ' := (σ.1, σ.2.1, gt_u σ.2.2.1 a i.toNatClampNeg (some t), σ.2.2.2)) rfl (fun i hi => ⟨rfl, rfl, gt_ne_u hi⟩) hq]
              unfold gt_c gt_ct gt_rf
              dsimp only
              rw [gt_rf_up]
              exact hP1
            · cases hg
          · cases hg
    · cases hg
  · cases hg
theorem gt_ln_w {a n : Nat} {σ : gt_S} {pc : Nat} {ls : Array Slot} {H : Heap} {locs : List Loc} {rest : List Value} (hx : p.tables.exec = Jvm.exec) (hb : c.code = cc) (hK : va_K D cl (gt_tys cA) s) (hP : va_P D cl (gt_w ks cA ad σ) H) (hg : gt_ln ks σ a = some n) (hdg : decode cc pc = .ok (.arraylength, 1))
    (kk : W p l e R s m args below meth c H locs cells slots Q (F0 m (pc + 1) ls (.int (Int32.ofNat n) :: rest))) : W p l e R s m args below meth c H locs cells slots Q (F0 m pc ls (.ref (ad a) :: rest)) := by
  unfold gt_ln at hg
  split at hg
  · rename_i ty n' rs hq
    split at hg
    · rename_i hty
      cases hg
      rcases hty with rfl | rfl | rfl
      · exact va_alen hx hb hK hP a 0 (gt_w_at (cA := cA) (ad := ad) hq) rfl rfl hdg kk
      · exact va_alen hx hb hK hP a 1 (gt_w_at (cA := cA) (ad := ad) hq) rfl rfl hdg kk
      · exact va_alen hx hb hK hP a 2 (gt_w_at (cA := cA) (ad := ad) hq) rfl rfl hdg kk
    · cases hg
  · cases hg
theorem gt_br_w {cd : Jvm.ClassFile.Cond} {x y : Int32} {t f : Option gt_F} {o : gt_F} (h : gt_br cd x y t f = some o) : (t = some o ∧ (match cd with
  | .eq => x = y
  | .ne => ¬ x = y
  | .lt => x < y
  | .ge => y ≤ x
  | .gt => y < x
  | .le => x ≤ y)) ∨ (f = some o ∧ (match cd with
  | .eq => ¬ x = y
  | .ne => x = y
  | .lt => ¬ x < y
  | .ge => ¬ y ≤ x
  | .gt => ¬ y < x
  | .le => ¬ x ≤ y)) := by
  unfold gt_br at h
  cases cd <;> dsimp only at h ⊢ <;> split at h
  · rename_i q; exact Or.inl ⟨h, q⟩
  · rename_i q; exact Or.inr ⟨h, q⟩
  · rename_i q; exact Or.inr ⟨h, q⟩
  · rename_i q; exact Or.inl ⟨h, q⟩
  · rename_i q; exact Or.inl ⟨h, q⟩
  · rename_i q; exact Or.inr ⟨h, q⟩
  · rename_i q; exact Or.inr ⟨h, Int32.not_le.mpr q⟩
  · rename_i q; exact Or.inl ⟨h, Int32.not_lt.mp q⟩
  · rename_i q; exact Or.inl ⟨h, q⟩
  · rename_i q; exact Or.inr ⟨h, q⟩
  · rename_i q; exact Or.inr ⟨h, Int32.not_le.mpr q⟩
  · rename_i q; exact Or.inl ⟨h, Int32.not_lt.mp q⟩
theorem gt_lv {ad : Nat → Nat} {ls : Array Slot} {nL : Nat} {lv : gt_L} {i : Nat} {v : Value} (h : lv_has ls nL (lv.map (gt_lm ad))) (hv : gt_lk lv i = some v) : ls[i]? = some (.val (gt_v ad v)) := h.2.2 (i, gt_v ad v) (List.mem_map.mpr ⟨(i, v), gt_lk_mem hv, rfl⟩)
set_option maxHeartbeats 4000000 in
set_option maxRecDepth 100000 in
theorem gt_stp_w (hcl : cl[7]? = some (RX7, TX7, 2)) (hx : p.tables.exec = Jvm.exec) (hb : c.code = cc) (hown : s.vm.findClass own = some m.cls) (hts : ∀ w ∈ Ts, w.before args s = true) (hK : va_K D cl (gt_tys cA) s) (hDD : ∀ σ : gt_S, σ.2.2.2 = tx → va_D A (gt_w ks cA ad σ)) {E : gt_E} (hE : gt_eok Ts own cl E)
    (hC : gt_cok (gt_J (fun H locs pc ls st => W p l e R s m args below meth c H locs cells slots Q (F0 m pc ls st)) D cl ks cA ad A H0 tx nL) cc E)
    {q : gt_I} (hq : decode cc q.1 = .ok (q.2.1, q.2.2)) (hlen : gt_lok q = true) {lv : gt_L} {st : List Value} {σ : gt_S} {κ : gt_C} {o : gt_F} (h : gt_stp ks nL E q lv st σ κ = some o)
    (hκ : ∀ pc lv st σ, κ pc lv st σ = some o → gt_J (fun H locs pc ls st => W p l e R s m args below meth c H locs cells slots Q (F0 m pc ls st)) D cl ks cA ad A H0 tx nL pc lv st σ) :
    gt_J (fun H locs pc ls st => W p l e R s m args below meth c H locs cells slots Q (F0 m pc ls st)) D cl ks cA ad A H0 tx nL q.1 lv st σ := by
  obtain ⟨pc, i, len⟩ := q
  dsimp only at hq h ⊢
  have hle : ∀ n : Nat, Nat.beq len n = true → len = n := fun n hn => Nat.eq_of_beq_eq_true hn
  cases i with
  | iconst n =>
    have hl := hle 1 hlen; subst hl
    dsimp only [gt_stp, gt_op] at h
    intro ht ls H locs hlv hP hS
    exact lv_iconst hx hb hq rfl (hκ _ _ _ _ h ht ls H locs hlv hP hS)
  | bipush n =>
    have hl := hle 2 hlen; subst hl
    dsimp only [gt_stp, gt_op] at h
    intro ht ls H locs hlv hP hS
    exact lv_bipush hx hb hq rfl (hκ _ _ _ _ h ht ls H locs hlv hP hS)
  | sipush n =>
    have hl := hle 3 hlen; subst hl
    dsimp only [gt_stp, gt_op] at h
    intro ht ls H locs hlv hP hS
    exact lv_sipush hx hb hq rfl (hκ _ _ _ _ h ht ls H locs hlv hP hS)
  | lconst n =>
    have hl := hle 1 hlen; subst hl
    dsimp only [gt_stp, gt_op] at h
    intro ht ls H locs hlv hP hS
    exact lv_lconst hx hb hq rfl (hκ _ _ _ _ h ht ls H locs hlv hP hS)
  | aconst_null =>
    have hl := hle 1 hlen; subst hl
    dsimp only [gt_stp, gt_op] at h
    intro ht ls H locs hlv hP hS
    exact lv_null hx hb hq (hκ _ _ _ _ h ht ls H locs hlv hP hS)
  | ldc k =>
    have hl := hle 2 hlen; subst hl
    dsimp only [gt_stp, gt_op] at h
    obtain ⟨v, hv, h⟩ := Option.bind_eq_some_iff.mp h
    intro ht ls H locs hlv hP hS
    exact lv_ldc hx hb hown (hts _ (hE.2.1 _ (gt_lk_mem hv))) hq (hκ _ _ _ _ h ht ls H locs hlv hP hS)
  | ldc_w k =>
    have hl := hle 3 hlen; subst hl
    dsimp only [gt_stp, gt_op] at h
    obtain ⟨v, hv, h⟩ := Option.bind_eq_some_iff.mp h
    intro ht ls H locs hlv hP hS
    exact lv_ldcw hx hb hown (hts _ (hE.2.1 _ (gt_lk_mem hv))) hq (hκ _ _ _ _ h ht ls H locs hlv hP hS)
  | ldc2_w k =>
    have hl := hle 3 hlen; subst hl
    dsimp only [gt_stp, gt_op] at h
    obtain ⟨v, hv, h⟩ := Option.bind_eq_some_iff.mp h
    intro ht ls H locs hlv hP hS
    exact lv_ldc2 hx hb hown (hts _ (hE.2.2 _ (gt_lk_mem hv))) hq (hκ _ _ _ _ h ht ls H locs hlv hP hS)
  | iload_n k =>
    have hl := hle 1 hlen; subst hl
    dsimp only [gt_stp, gt_op] at h
    replace h := gt_ldi_s h
    obtain ⟨x, hv, h⟩ := h
    intro ht ls H locs hlv hP hS
    exact lv_iload_n hx hb hq rfl (gt_lv hlv hv) (hκ _ _ _ _ h ht ls H locs hlv hP hS)
  | iload k =>
    have hl := hle 2 hlen; subst hl
    dsimp only [gt_stp, gt_op] at h
    replace h := gt_ldi_s h
    obtain ⟨x, hv, h⟩ := h
    intro ht ls H locs hlv hP hS
    exact lv_iload hx hb hq (gt_lv hlv hv) (hκ _ _ _ _ h ht ls H locs hlv hP hS)
  | lload_n k =>
    have hl := hle 1 hlen; subst hl
    dsimp only [gt_stp, gt_op] at h
    replace h := gt_ldl_s h
    obtain ⟨x, hv, h⟩ := h
    intro ht ls H locs hlv hP hS
    exact lv_lload_n hx hb hq rfl (gt_lv hlv hv) (hκ _ _ _ _ h ht ls H locs hlv hP hS)
  | lload k =>
    have hl := hle 2 hlen; subst hl
    dsimp only [gt_stp, gt_op] at h
    replace h := gt_ldl_s h
    obtain ⟨x, hv, h⟩ := h
    intro ht ls H locs hlv hP hS
    exact lv_lload hx hb hq (gt_lv hlv hv) (hκ _ _ _ _ h ht ls H locs hlv hP hS)
  | aload_n k =>
    have hl := hle 1 hlen; subst hl
    dsimp only [gt_stp, gt_op] at h
    replace h := gt_lda_s h
    obtain ⟨x, hv, h⟩ := h
    intro ht ls H locs hlv hP hS
    have h1 := gt_lv hlv hv
    have h2 := hκ _ _ _ _ h ht ls H locs hlv hP hS
    cases x with
    | none => exact lv_aload_nN hx hb hq rfl h1 h2
    | some x => exact lv_aload_n hx hb hq rfl h1 h2
  | aload k =>
    have hl := hle 2 hlen; subst hl
    dsimp only [gt_stp, gt_op] at h
    replace h := gt_lda_s h
    obtain ⟨x, hv, h⟩ := h
    intro ht ls H locs hlv hP hS
    have h1 := gt_lv hlv hv
    have h2 := hκ _ _ _ _ h ht ls H locs hlv hP hS
    cases x with
    | none => exact lv_aloadN hx hb hq h1 h2
    | some x => exact lv_aload hx hb hq h1 h2
  | istore_n k =>
    have hl := hle 1 hlen; subst hl
    dsimp only [gt_stp, gt_op] at h
    replace h := gt_i1_s h
    obtain ⟨x, r, rfl, h⟩ := h
    split at h
    · rename_i hn
      intro ht ls H locs hlv hP hS
      exact lv_istore_n hx hb hq rfl hlv hn (gt_set1_m ad k.1 (.int x) lv) (fun ls' hlv' => hκ _ _ _ _ h ht ls' H locs hlv' hP hS)
    · cases h
  | istore k =>
    have hl := hle 2 hlen; subst hl
    dsimp only [gt_stp, gt_op] at h
    replace h := gt_i1_s h
    obtain ⟨x, r, rfl, h⟩ := h
    split at h
    · rename_i hn
      intro ht ls H locs hlv hP hS
      exact lv_istore hx hb hq hlv hn (gt_set1_m ad k (.int x) lv) (fun ls' hlv' => hκ _ _ _ _ h ht ls' H locs hlv' hP hS)
    · cases h
  | lstore_n k =>
    have hl := hle 1 hlen; subst hl
    dsimp only [gt_stp, gt_op] at h
    replace h := gt_l1_s h
    obtain ⟨x, r, rfl, h⟩ := h
    split at h
    · rename_i hn
      intro ht ls H locs hlv hP hS
      exact lv_lstore_n hx hb hq rfl hlv hn (gt_set2_m ad k.1 (.long x) lv) (fun ls' hlv' => hκ _ _ _ _ h ht ls' H locs hlv' hP hS)
    · cases h
  | lstore k =>
    have hl := hle 2 hlen; subst hl
    dsimp only [gt_stp, gt_op] at h
    replace h := gt_l1_s h
    obtain ⟨x, r, rfl, h⟩ := h
    split at h
    · rename_i hn
      intro ht ls H locs hlv hP hS
      exact lv_lstore hx hb hq hlv hn (gt_set2_m ad k (.long x) lv) (fun ls' hlv' => hκ _ _ _ _ h ht ls' H locs hlv' hP hS)
    · cases h
  | astore_n k =>
    have hl := hle 1 hlen; subst hl
    dsimp only [gt_stp, gt_op] at h
    replace h := gt_a1_s h
    obtain ⟨x, r, rfl, h⟩ := h
    split at h
    · rename_i hn
      intro ht ls H locs hlv hP hS
      exact lv_astore_n hx hb hq rfl hlv hn (gt_set1_m ad k.1 (.ref x) lv) (fun ls' hlv' => hκ _ _ _ _ h ht ls' H locs hlv' hP hS)
    · cases h
  | astore k =>
    have hl := hle 2 hlen; subst hl
    dsimp only [gt_stp, gt_op] at h
    replace h := gt_a1_s h
    obtain ⟨x, r, rfl, h⟩ := h
    split at h
    · rename_i hn
      intro ht ls H locs hlv hP hS
      exact lv_astore hx hb hq hlv hn (gt_set1_m ad k (.ref x) lv) (fun ls' hlv' => hκ _ _ _ _ h ht ls' H locs hlv' hP hS)
    · cases h
  | iinc k n =>
    have hl := hle 3 hlen; subst hl
    dsimp only [gt_stp, gt_op] at h
    replace h := gt_ldi_s h
    obtain ⟨x, hv, h⟩ := h
    split at h
    · rename_i hn
      intro ht ls H locs hlv hP hS
      obtain ⟨j, hj⟩ := List.getElem?_of_mem (List.mem_map.mpr ⟨(k, .int x), gt_lk_mem hv, rfl⟩ : (k, .int x) ∈ lv.map (gt_lm ad))
      exact lv_iinc hx hb hq hlv hj rfl hn (gt_set1_m ad k (.int (x + Int32.ofInt n)) lv) (fun ls' hlv' => hκ _ _ _ _ h ht ls' H locs hlv' hP hS)
    · cases h
  | iadd =>
    have hl := hle 1 hlen; subst hl
    dsimp only [gt_stp, gt_op] at h
    replace h := gt_i2_s h
    obtain ⟨x, y, r, rfl, h⟩ := h
    intro ht ls H locs hlv hP hS
    exact lv_iadd hx hb hq (hκ _ _ _ _ h ht ls H locs hlv hP hS)
  | isub =>
    have hl := hle 1 hlen; subst hl
    dsimp only [gt_stp, gt_op] at h
    replace h := gt_i2_s h
    obtain ⟨x, y, r, rfl, h⟩ := h
    intro ht ls H locs hlv hP hS
    exact lv_isub hx hb hq (hκ _ _ _ _ h ht ls H locs hlv hP hS)
  | imul =>
    have hl := hle 1 hlen; subst hl
    dsimp only [gt_stp, gt_op] at h
    replace h := gt_i2_s h
    obtain ⟨x, y, r, rfl, h⟩ := h
    intro ht ls H locs hlv hP hS
    exact lv_imul hx hb hq (hκ _ _ _ _ h ht ls H locs hlv hP hS)
  | iand =>
    have hl := hle 1 hlen; subst hl
    dsimp only [gt_stp, gt_op] at h
    replace h := gt_i2_s h
    obtain ⟨x, y, r, rfl, h⟩ := h
    intro ht ls H locs hlv hP hS
    exact lv_iand hx hb hq (hκ _ _ _ _ h ht ls H locs hlv hP hS)
  | ior =>
    have hl := hle 1 hlen; subst hl
    dsimp only [gt_stp, gt_op] at h
    replace h := gt_i2_s h
    obtain ⟨x, y, r, rfl, h⟩ := h
    intro ht ls H locs hlv hP hS
    exact lv_ior hx hb hq (hκ _ _ _ _ h ht ls H locs hlv hP hS)
  | idiv =>
    have hl := hle 1 hlen; subst hl
    dsimp only [gt_stp, gt_op] at h
    replace h := gt_i2_s h
    obtain ⟨x, y, r, rfl, h⟩ := h
    split at h
    · cases h
    · rename_i hn
      intro ht ls H locs hlv hP hS
      exact lv_idiv hx hb hq hn (hκ _ _ _ _ h ht ls H locs hlv hP hS)
  | irem =>
    have hl := hle 1 hlen; subst hl
    dsimp only [gt_stp, gt_op] at h
    replace h := gt_i2_s h
    obtain ⟨x, y, r, rfl, h⟩ := h
    split at h
    · cases h
    · rename_i hn
      intro ht ls H locs hlv hP hS
      exact lv_irem hx hb hq hn (hκ _ _ _ _ h ht ls H locs hlv hP hS)
  | ineg =>
    have hl := hle 1 hlen; subst hl
    dsimp only [gt_stp, gt_op] at h
    replace h := gt_i1_s h
    obtain ⟨x, r, rfl, h⟩ := h
    intro ht ls H locs hlv hP hS
    exact lv_ineg hx hb hq (hκ _ _ _ _ h ht ls H locs hlv hP hS)
  | ishl =>
    have hl := hle 1 hlen; subst hl
    dsimp only [gt_stp, gt_op] at h
    replace h := gt_i2_s h
    obtain ⟨x, y, r, rfl, h⟩ := h
    intro ht ls H locs hlv hP hS
    exact lv_ishl hx hb hq (hκ _ _ _ _ h ht ls H locs hlv hP hS)
  | ishr =>
    have hl := hle 1 hlen; subst hl
    dsimp only [gt_stp, gt_op] at h
    replace h := gt_i2_s h
    obtain ⟨x, y, r, rfl, h⟩ := h
    intro ht ls H locs hlv hP hS
    exact lv_ishr hx hb hq (hκ _ _ _ _ h ht ls H locs hlv hP hS)
  | ladd =>
    have hl := hle 1 hlen; subst hl
    dsimp only [gt_stp, gt_op] at h
    replace h := gt_l2_s h
    obtain ⟨x, y, r, rfl, h⟩ := h
    intro ht ls H locs hlv hP hS
    exact lv_ladd hx hb hq (hκ _ _ _ _ h ht ls H locs hlv hP hS)
  | lsub =>
    have hl := hle 1 hlen; subst hl
    dsimp only [gt_stp, gt_op] at h
    replace h := gt_l2_s h
    obtain ⟨x, y, r, rfl, h⟩ := h
    intro ht ls H locs hlv hP hS
    exact lv_lsub hx hb hq (hκ _ _ _ _ h ht ls H locs hlv hP hS)
  | lmul =>
    have hl := hle 1 hlen; subst hl
    dsimp only [gt_stp, gt_op] at h
    replace h := gt_l2_s h
    obtain ⟨x, y, r, rfl, h⟩ := h
    intro ht ls H locs hlv hP hS
    exact lv_lmul hx hb hq (hκ _ _ _ _ h ht ls H locs hlv hP hS)
  | land =>
    have hl := hle 1 hlen; subst hl
    dsimp only [gt_stp, gt_op] at h
    replace h := gt_l2_s h
    obtain ⟨x, y, r, rfl, h⟩ := h
    intro ht ls H locs hlv hP hS
    exact lv_land hx hb hq (hκ _ _ _ _ h ht ls H locs hlv hP hS)
  | lor =>
    have hl := hle 1 hlen; subst hl
    dsimp only [gt_stp, gt_op] at h
    replace h := gt_l2_s h
    obtain ⟨x, y, r, rfl, h⟩ := h
    intro ht ls H locs hlv hP hS
    exact lv_lor hx hb hq (hκ _ _ _ _ h ht ls H locs hlv hP hS)
  | ldiv =>
    have hl := hle 1 hlen; subst hl
    dsimp only [gt_stp, gt_op] at h
    replace h := gt_l2_s h
    obtain ⟨x, y, r, rfl, h⟩ := h
    split at h
    · cases h
    · rename_i hn
      intro ht ls H locs hlv hP hS
      exact lv_ldiv hx hb hq hn (hκ _ _ _ _ h ht ls H locs hlv hP hS)
  | lrem =>
    have hl := hle 1 hlen; subst hl
    dsimp only [gt_stp, gt_op] at h
    replace h := gt_l2_s h
    obtain ⟨x, y, r, rfl, h⟩ := h
    split at h
    · cases h
    · rename_i hn
      intro ht ls H locs hlv hP hS
      exact lv_lrem hx hb hq hn (hκ _ _ _ _ h ht ls H locs hlv hP hS)
  | lshl =>
    have hl := hle 1 hlen; subst hl
    dsimp only [gt_stp, gt_op] at h
    replace h := gt_li_s h
    obtain ⟨x, y, r, rfl, h⟩ := h
    intro ht ls H locs hlv hP hS
    exact lv_lshl hx hb hq rfl (hκ _ _ _ _ h ht ls H locs hlv hP hS)
  | lshr =>
    have hl := hle 1 hlen; subst hl
    dsimp only [gt_stp, gt_op] at h
    replace h := gt_li_s h
    obtain ⟨x, y, r, rfl, h⟩ := h
    intro ht ls H locs hlv hP hS
    exact lv_lshr hx hb hq rfl (hκ _ _ _ _ h ht ls H locs hlv hP hS)
  | i2l =>
    have hl := hle 1 hlen; subst hl
    dsimp only [gt_stp, gt_op] at h
    replace h := gt_i1_s h
    obtain ⟨x, r, rfl, h⟩ := h
    intro ht ls H locs hlv hP hS
    exact lv_i2l hx hb hq rfl (hκ _ _ _ _ h ht ls H locs hlv hP hS)
  | l2i =>
    have hl := hle 1 hlen; subst hl
    dsimp only [gt_stp, gt_op] at h
    replace h := gt_l1_s h
    obtain ⟨x, r, rfl, h⟩ := h
    intro ht ls H locs hlv hP hS
    exact lv_l2i hx hb hq rfl (hκ _ _ _ _ h ht ls H locs hlv hP hS)
  | lcmp =>
    have hl := hle 1 hlen; subst hl
    dsimp only [gt_stp, gt_op] at h
    replace h := gt_l2_s h
    obtain ⟨x, y, r, rfl, h⟩ := h
    intro ht ls H locs hlv hP hS
    exact W.lcmp hx hb hq (hκ _ _ _ _ h ht ls H locs hlv hP hS)
  | dup =>
    have hl := hle 1 hlen; subst hl
    dsimp only [gt_stp, gt_op] at h
    split at h
    · split at h
      · rename_i v r hv
        intro ht ls H locs hlv hP hS
        exact lv_dup hx hb hq (by rw [gt_v_cat]; exact hv) (hκ _ _ _ _ h ht ls H locs hlv hP hS)
      · cases h
    · cases h
  | dup2 =>
    have hl := hle 1 hlen; subst hl
    dsimp only [gt_stp, gt_op] at h
    split at h
    · split at h
      · rename_i v w r hv
        intro ht ls H locs hlv hP hS
        exact lv_dup2_11 hx hb hq (by rw [gt_v_cat]; exact hv.1) (by rw [gt_v_cat]; exact hv.2) (hκ _ _ _ _ h ht ls H locs hlv hP hS)
      · cases h
    · cases h
  | pop =>
    have hl := hle 1 hlen; subst hl
    dsimp only [gt_stp, gt_op] at h
    split at h
    · split at h
      · rename_i v r hv
        intro ht ls H locs hlv hP hS
        exact lv_pop hx hb hq (by rw [gt_v_cat]; exact hv) (hκ _ _ _ _ h ht ls H locs hlv hP hS)
      · cases h
    · cases h
  | goto off =>
    have hl := hle 3 hlen; subst hl
    dsimp only [gt_stp, gt_op] at h
    replace h := gt_jp_s h
    obtain ⟨t, htg, h⟩ := h
    intro ht ls H locs hlv hP hS
    exact lv_goto hx hb hq htg (hκ _ _ _ _ h ht ls H locs hlv hP hS)
  | ifCond cd off =>
    have hl := hle 3 hlen; subst hl
    dsimp only [gt_stp, gt_op] at h
    replace h := gt_i1_s h
    obtain ⟨x, r, rfl, h⟩ := h
    replace h := gt_jp_s h
    obtain ⟨t, htg, h⟩ := h
    intro ht ls H locs hlv hP hS
    rcases gt_br_w h with ⟨h, hc⟩ | ⟨h, hc⟩
    · have k := hκ _ _ _ _ h ht ls H locs hlv hP hS
      cases cd
      · exact lv_if_eq hx hb hq htg (fun _ => k) (fun q => absurd hc q)
      · exact lv_if_ne hx hb hq htg (fun _ => k) (fun q => absurd q hc)
      · exact lv_if_lt hx hb hq htg (fun _ => k) (fun q => absurd hc q)
      · exact lv_if_ge hx hb hq htg (fun _ => k) (fun q => absurd hc q)
      · exact lv_if_gt hx hb hq htg (fun _ => k) (fun q => absurd hc q)
      · exact lv_if_le hx hb hq htg (fun _ => k) (fun q => absurd hc q)
    · have k := hκ _ _ _ _ h ht ls H locs hlv hP hS
      cases cd
      · exact lv_if_eq hx hb hq htg (fun q => absurd q hc) (fun _ => k)
      · exact lv_if_ne hx hb hq htg (fun q => absurd hc q) (fun _ => k)
      · exact lv_if_lt hx hb hq htg (fun q => absurd q hc) (fun _ => k)
      · exact lv_if_ge hx hb hq htg (fun q => absurd q hc) (fun _ => k)
      · exact lv_if_gt hx hb hq htg (fun q => absurd q hc) (fun _ => k)
      · exact lv_if_le hx hb hq htg (fun q => absurd q hc) (fun _ => k)
  | if_icmp cd off =>
    have hl := hle 3 hlen; subst hl
    dsimp only [gt_stp, gt_op] at h
    replace h := gt_i2_s h
    obtain ⟨x, y, r, rfl, h⟩ := h
    replace h := gt_jp_s h
    obtain ⟨t, htg, h⟩ := h
    intro ht ls H locs hlv hP hS
    rcases gt_br_w h with ⟨h, hc⟩ | ⟨h, hc⟩
    · have k := hκ _ _ _ _ h ht ls H locs hlv hP hS
      cases cd
      · exact lv_icmp_eq hx hb hq htg (fun _ => k) (fun q => absurd hc q)
      · exact lv_icmp_ne hx hb hq htg (fun _ => k) (fun q => absurd q hc)
      · exact lv_icmp_lt hx hb hq htg (fun _ => k) (fun q => absurd hc q)
      · exact lv_icmp_ge hx hb hq htg (fun _ => k) (fun q => absurd hc q)
      · exact lv_icmp_gt hx hb hq htg (fun _ => k) (fun q => absurd hc q)
      · exact lv_icmp_le hx hb hq htg (fun _ => k) (fun q => absurd hc q)
    · have k := hκ _ _ _ _ h ht ls H locs hlv hP hS
      cases cd
      · exact lv_icmp_eq hx hb hq htg (fun q => absurd q hc) (fun _ => k)
      · exact lv_icmp_ne hx hb hq htg (fun q => absurd hc q) (fun _ => k)
      · exact lv_icmp_lt hx hb hq htg (fun q => absurd q hc) (fun _ => k)
      · exact lv_icmp_ge hx hb hq htg (fun q => absurd q hc) (fun _ => k)
      · exact lv_icmp_gt hx hb hq htg (fun q => absurd q hc) (fun _ => k)
      · exact lv_icmp_le hx hb hq htg (fun q => absurd q hc) (fun _ => k)
  | ifnull off =>
    have hl := hle 3 hlen; subst hl
    dsimp only [gt_stp, gt_op] at h
    split at h
    · replace h := gt_jp_s h
      obtain ⟨t, htg, h⟩ := h
      intro ht ls H locs hlv hP hS
      exact lv_ifnullN hx hb hq htg (hκ _ _ _ _ h ht ls H locs hlv hP hS)
    · intro ht ls H locs hlv hP hS
      exact lv_ifnull hx hb hq (hκ _ _ _ _ h ht ls H locs hlv hP hS)
    · cases h
  | ifnonnull off =>
    have hl := hle 3 hlen; subst hl
    dsimp only [gt_stp, gt_op] at h
    split at h
    · intro ht ls H locs hlv hP hS
      exact lv_ifnonnullN hx hb hq (hκ _ _ _ _ h ht ls H locs hlv hP hS)
    · replace h := gt_jp_s h
      obtain ⟨t, htg, h⟩ := h
      intro ht ls H locs hlv hP hS
      exact lv_ifnonnull hx hb hq htg (hκ _ _ _ _ h ht ls H locs hlv hP hS)
    · cases h
  | tableswitch d lo hi offs =>
    dsimp only [gt_stp, gt_op] at h
    replace h := gt_i1_s h
    obtain ⟨x, r, rfl, h⟩ := h
    split at h
    · rename_i hlo
      obtain ⟨hlo, hhi, hsm, hps⟩ := hlo
      intro ht ls H locs hlv hP hS
      rcases gt_ts_s offs.toList lo hlo (by rw [Array.length_toList]; omega) h with ⟨n, w, a1, a2, a3⟩ | ⟨a1, a2⟩
      · obtain ⟨t, htg, h⟩ := gt_jp_s a3
        have hn : n < offs.size := by
          have := (List.getElem?_eq_some_iff.mp a1).1
          rwa [Array.length_toList] at this
        exact lv_tableIn hx hb hq (by omega) (by omega) (by rw [show (x.toInt - lo).toNat = n by omega, ← Array.getElem?_toList]; exact a1) htg (hκ _ _ _ _ h ht ls H locs hlv hP hS)
      · obtain ⟨t, htg, h⟩ := gt_jp_s a2
        refine lv_tableOut hx hb hq ?_ htg (hκ _ _ _ _ h ht ls H locs hlv hP hS)
        rw [Array.length_toList] at a1
        by_cases h1 : x.toInt < lo
        · exact Or.inl h1
        · refine Or.inr ?_
          by_cases h2 : hi < x.toInt
          · exact h2
          · have := a1 (x.toInt - lo).toNat (by omega)
            omega
    · cases h
  | lookupswitch d ps =>
    dsimp only [gt_stp, gt_op] at h
    replace h := gt_i1_s h
    obtain ⟨x, r, rfl, h⟩ := h
    split at h
    · rename_i hps
      obtain ⟨off, ho, h⟩ := gt_lsw_s _ hps.2 h
      replace h := gt_jp_s h
      obtain ⟨t, htg, h⟩ := h
      intro ht ls H locs hlv hP hS
      exact lv_lookup hx hb hq hps.1 ho htg (hκ _ _ _ _ h ht ls H locs hlv hP hS)
    · cases h
  | getfield k =>
    have hl := hle 3 hlen; subst hl
    dsimp only [gt_stp, gt_op] at h
    replace h := gt_a1_s h
    obtain ⟨a, r, rfl, h⟩ := h
    obtain ⟨f, hf, h⟩ := Option.bind_eq_some_iff.mp h
    obtain ⟨v, hv, h⟩ := Option.bind_eq_some_iff.mp h
    intro ht ls H locs hlv hP hS
    exact gt_getf (t := f.2.2) hx hb hown hts hK (hE.1 _ (gt_lk_mem hf)) hP hv hq (hκ _ _ _ _ h ht ls H locs hlv hP hS)
  | putfield k =>
    have hl := hle 3 hlen; subst hl
    dsimp only [gt_stp, gt_op] at h
    split at h
    · obtain ⟨f, hf, h⟩ := Option.bind_eq_some_iff.mp h
      obtain ⟨v, hv, h⟩ := Option.bind_eq_some_iff.mp h
      intro ht ls H locs hlv hP hS
      exact gt_putI (t := f.2.2) hx hb hown hts hK (hE.1 _ (gt_lk_mem hf)) hP (hDD _ ht) hS hv hq (fun e1 H locs hP hS => hκ _ _ _ _ h (e1.trans ht) ls H locs hlv hP hS)
    · obtain ⟨f, hf, h⟩ := Option.bind_eq_some_iff.mp h
      obtain ⟨v, hv, h⟩ := Option.bind_eq_some_iff.mp h
      intro ht ls H locs hlv hP hS
      exact gt_putL (t := f.2.2) hx hb hown hts hK (hE.1 _ (gt_lk_mem hf)) hP (hDD _ ht) hS hv hq (fun e1 H locs hP hS => hκ _ _ _ _ h (e1.trans ht) ls H locs hlv hP hS)
    · cases h
  | iaload =>
    have hl := hle 1 hlen; subst hl
    dsimp only [gt_stp, gt_op] at h
    replace h := gt_ai_s h
    obtain ⟨a, j, r, rfl, h⟩ := h
    obtain ⟨v, hv, h⟩ := Option.bind_eq_some_iff.mp h
    intro ht ls H locs hlv hP hS
    exact gt_ldI_w hx hb hK hP hv hq (hκ _ _ _ _ h ht ls H locs hlv hP hS)
  | baload =>
    have hl := hle 1 hlen; subst hl
    dsimp only [gt_stp, gt_op] at h
    replace h := gt_ai_s h
    obtain ⟨a, j, r, rfl, h⟩ := h
    obtain ⟨v, hv, h⟩ := Option.bind_eq_some_iff.mp h
    intro ht ls H locs hlv hP hS
    exact gt_ldZ_w hx hb hK hP hv hq (hκ _ _ _ _ h ht ls H locs hlv hP hS)
  | laload =>
    have hl := hle 1 hlen; subst hl
    dsimp only [gt_stp, gt_op] at h
    replace h := gt_ai_s h
    obtain ⟨a, j, r, rfl, h⟩ := h
    obtain ⟨v, hv, h⟩ := Option.bind_eq_some_iff.mp h
    intro ht ls H locs hlv hP hS
    exact gt_ldL_w hx hb hK hP hv hq (hκ _ _ _ _ h ht ls H locs hlv hP hS)
  | aaload =>
    have hl := hle 1 hlen; subst hl
    dsimp only [gt_stp, gt_op] at h
    replace h := gt_ai_s h
    obtain ⟨a, j, r, rfl, h⟩ := h
    split at h
    · rename_i v hv
      intro ht ls H locs hlv hP hS
      exact gt_ldR_w hx hb hK hP hv hq (hκ _ _ _ _ h ht ls H locs hlv hP hS)
    · rename_i hv
      intro ht ls H locs hlv hP hS
      exact gt_ldR_w hx hb hK hP hv hq (hκ _ _ _ _ h ht ls H locs hlv hP hS)
    · cases h
  | iastore =>
    have hl := hle 1 hlen; subst hl
    dsimp only [gt_stp, gt_op] at h
    replace h := gt_aii_s h
    obtain ⟨a, j, x, r, rfl, h⟩ := h
    obtain ⟨v, hv, h⟩ := Option.bind_eq_some_iff.mp h
    intro ht ls H locs hlv hP hS
    exact gt_stI_w hx hb hK hP (hDD _ ht) hS hv hq (fun e1 H locs hP hS => hκ _ _ _ _ h (e1.trans ht) ls H locs hlv hP hS)
  | bastore =>
    have hl := hle 1 hlen; subst hl
    dsimp only [gt_stp, gt_op] at h
    replace h := gt_aii_s h
    obtain ⟨a, j, x, r, rfl, h⟩ := h
    obtain ⟨v, hv, h⟩ := Option.bind_eq_some_iff.mp h
    intro ht ls H locs hlv hP hS
    exact gt_stZ_w hx hb hK hP (hDD _ ht) hS hv hq (fun e1 H locs hP hS => hκ _ _ _ _ h (e1.trans ht) ls H locs hlv hP hS)
  | lastore =>
    have hl := hle 1 hlen; subst hl
    dsimp only [gt_stp, gt_op] at h
    replace h := gt_ail_s h
    obtain ⟨a, j, x, r, rfl, h⟩ := h
    obtain ⟨v, hv, h⟩ := Option.bind_eq_some_iff.mp h
    intro ht ls H locs hlv hP hS
    exact gt_stL_w hx hb hK hP (hDD _ ht) hS hv hq (fun e1 H locs hP hS => hκ _ _ _ _ h (e1.trans ht) ls H locs hlv hP hS)
  | aastore =>
    have hl := hle 1 hlen; subst hl
    dsimp only [gt_stp, gt_op] at h
    replace h := gt_aiq_s h
    obtain ⟨a, j, x, r, rfl, h⟩ := h
    obtain ⟨v, hv, h⟩ := Option.bind_eq_some_iff.mp h
    intro ht ls H locs hlv hP hS
    have k := gt_stR_w (rest := r.map (gt_v ad)) (ls := ls) hcl hx hb hK hP (hDD _ ht) hS hv hq (fun e1 H locs hP hS => hκ _ _ _ _ h (e1.trans ht) ls H locs hlv hP hS)
    rw [← gt_v_rf] at k
    exact k
  | arraylength =>
    have hl := hle 1 hlen; subst hl
    dsimp only [gt_stp, gt_op] at h
    replace h := gt_a1_s h
    obtain ⟨a, r, rfl, h⟩ := h
    obtain ⟨v, hv, h⟩ := Option.bind_eq_some_iff.mp h
    intro ht ls H locs hlv hP hS
    exact gt_ln_w hx hb hK hP hv hq (hκ _ _ _ _ h ht ls H locs hlv hP hS)
  | invokevirtual k =>
    have hl := hle 3 hlen; subst hl
    dsimp only [gt_stp, gt_op] at h
    unfold gt_inv at h
    split at h
    · rename_i w hw
      split at h
      · rename_i hn
        obtain ⟨r1, σ1, hv, h⟩ := gt_cr_s h
        have k2 := hC (k, w.1, w.2.1, w.2.2.1, w.2.2.2) (gt_lk_mem hw) pc lv _ (st.drop w.2.2.1) σ σ1 r1 (by dsimp only; rw [hn.1]; exact hq) (by rw [List.length_reverse, List.length_take]; exact Nat.min_eq_left hn.2.1) hv hn.2.2 (hκ _ _ _ _ h)
        rwa [List.reverse_reverse, List.take_append_drop] at k2
      · cases h
    · cases h
  | invokestatic k =>
    have hl := hle 3 hlen; subst hl
    dsimp only [gt_stp, gt_op] at h
    unfold gt_inv at h
    split at h
    · rename_i w hw
      split at h
      · rename_i hn
        obtain ⟨r1, σ1, hv, h⟩ := gt_cr_s h
        have k2 := hC (k, w.1, w.2.1, w.2.2.1, w.2.2.2) (gt_lk_mem hw) pc lv _ (st.drop w.2.2.1) σ σ1 r1 (by dsimp only; rw [hn.1]; exact hq) (by rw [List.length_reverse, List.length_take]; exact Nat.min_eq_left hn.2.1) hv hn.2.2 (hκ _ _ _ _ h)
        rwa [List.reverse_reverse, List.take_append_drop] at k2
      · cases h
    · cases h
  | invokespecial k =>
    have hl := hle 3 hlen; subst hl
    dsimp only [gt_stp, gt_op] at h
    unfold gt_inv at h
    split at h
    · rename_i w hw
      split at h
      · rename_i hn
        obtain ⟨r1, σ1, hv, h⟩ := gt_cr_s h
        have k2 := hC (k, w.1, w.2.1, w.2.2.1, w.2.2.2) (gt_lk_mem hw) pc lv _ (st.drop w.2.2.1) σ σ1 r1 (by dsimp only; rw [hn.1]; exact hq) (by rw [List.length_reverse, List.length_take]; exact Nat.min_eq_left hn.2.1) hv hn.2.2 (hκ _ _ _ _ h)
        rwa [List.reverse_reverse, List.take_append_drop] at k2
      · cases h
    · cases h
  | _ => exact absurd (show (none : Option gt_F) = some o from h) (by simp)
end GTJ
/-! from stop to stop -/
def gt_sk (pc : Nat) : List gt_I → List gt_I
  | [] => []
  | q :: t => bif Nat.beq q.1 pc then q :: t else gt_sk pc t
def gt_nr : List Nat → gt_L → gt_L
  | [], _ => []
  | i :: t, lv => match gt_lk lv i with
    | some v => (i, v) :: gt_nr t lv
    | none => gt_nr t lv
def gt_st1 (ks : gt_KS) (nL : Nat) (E : gt_E) (q : gt_I) (lv : gt_L) (st : List Value) (σ : gt_S) (κ : gt_C) : Option gt_F := match gt_lk E.2.2.2.2 q.1 with
  | some g => (g lv st σ).bind fun o => κ o.1 o.2.1 o.2.2.1 o.2.2.2
  | none => gt_stp ks nL E q lv st σ κ
def gt_bx (ks : gt_KS) (nL : Nat) (E : gt_E) (sp : List (Nat × List Nat)) : Nat → List gt_I → gt_L → List Value → gt_S → Option gt_F
  | 0, _, _, _, _ => none
  | n + 1, cs, lv, st, σ => match cs with
    | [] => none
    | q :: t => gt_st1 ks nL E q lv st σ (fun pc lv st σ => match gt_lk sp pc with
      | some ix => some (pc, gt_nr ix lv, st, σ)
      | none => gt_bx ks nL E sp n (gt_sk pc t) lv st σ)
def gt_it (ks : gt_KS) (nL : Nat) (E : gt_E) (sp : List (Nat × List Nat)) (cs : List gt_I) : Nat → gt_F → Option gt_F
  | 0, a => some a
  | n + 1, a => (gt_bx ks nL E sp 1000 (gt_sk a.1 cs) a.2.1 a.2.2.1 a.2.2.2).bind (gt_it ks nL E sp cs n)
/-- from here the machine comes there -/
def gt_R (ks : gt_KS) (nL : Nat) (E : gt_E) (sp : List (Nat × List Nat)) (cs : List gt_I) (a b : gt_F) : Prop := ∃ n, gt_it ks nL E sp cs n a = some b
theorem gt_R_rf {ks : gt_KS} {nL : Nat} {E : gt_E} {sp : List (Nat × List Nat)} {cs : List gt_I} (a : gt_F) : gt_R ks nL E sp cs a a := ⟨0, rfl⟩
theorem gt_it_add {ks : gt_KS} {nL : Nat} {E : gt_E} {sp : List (Nat × List Nat)} {cs : List gt_I} : ∀ (n k : Nat) {a b d : gt_F}, gt_it ks nL E sp cs n a = some b → gt_it ks nL E sp cs k b = some d → gt_it ks nL E sp cs (n + k) a = some d
  | 0, k, a, b, d, h1, h2 => by
    cases h1
    rw [Nat.zero_add]
    exact h2
  | n + 1, k, a, b, d, h1, h2 => by
    unfold gt_it at h1
    obtain ⟨x, hx, h1⟩ := Option.bind_eq_some_iff.mp h1
    rw [show n + 1 + k = (n + k) + 1 by omega]
    unfold gt_it
    rw [hx]
    exact gt_it_add n k h1 h2
theorem gt_R.tr {ks : gt_KS} {nL : Nat} {E : gt_E} {sp : List (Nat × List Nat)} {cs : List gt_I} {a b d : gt_F} (h1 : gt_R ks nL E sp cs a b) (h2 : gt_R ks nL E sp cs b d) : gt_R ks nL E sp cs a d := by
  obtain ⟨n, h1⟩ := h1
  obtain ⟨k, h2⟩ := h2
  exact ⟨n + k, gt_it_add n k h1 h2⟩
theorem gt_R.st {ks : gt_KS} {nL : Nat} {E : gt_E} {sp : List (Nat × List Nat)} {cs : List gt_I} {pc : Nat} {lv : gt_L} {st : List Value} {σ : gt_S} {b d : gt_F} (h : gt_bx ks nL E sp 1000 (gt_sk pc cs) lv st σ = some b) (h2 : gt_R ks nL E sp cs b d) : gt_R ks nL E sp cs (pc, lv, st, σ) d := by
  obtain ⟨k, h2⟩ := h2
  refine ⟨k + 1, ?_⟩
  unfold gt_it
  dsimp only
  rw [h]
  exact h2
theorem gt_nr_mem {lv : gt_L} : ∀ {ix : List Nat} {q : Nat × Value}, q ∈ gt_nr ix lv → q ∈ lv
  | [], q, h => by cases h
  | i :: t, q, h => by
    unfold gt_nr at h
    split at h
    · rename_i v hv
      rcases List.mem_cons.mp h with rfl | h
      · exact gt_lk_mem hv
      · exact gt_nr_mem h
    · exact gt_nr_mem h
theorem gt_sk_sub {pc : Nat} : ∀ {cs : List gt_I} {q : gt_I}, q ∈ gt_sk pc cs → q ∈ cs
  | [], q, h => by cases h
  | x :: t, q, h => by
    unfold gt_sk at h
    cases hb : Nat.beq x.1 pc with
    | true =>
      rw [hb] at h
      exact h
    | false =>
      rw [hb] at h
      exact List.mem_cons_of_mem _ (gt_sk_sub h)
theorem gt_sk_hd {pc : Nat} : ∀ {cs : List gt_I} {q : gt_I} {t : List gt_I}, gt_sk pc cs = q :: t → q.1 = pc
  | [], q, t, h => by cases h
  | x :: r, q, t, h => by
    unfold gt_sk at h
    cases hb : Nat.beq x.1 pc with
    | true =>
      rw [hb] at h
      cases h
      exact Nat.eq_of_beq_eq_true hb
    | false =>
      rw [hb] at h
      exact gt_sk_hd h
theorem gt_bx_w {J : Nat → gt_L → List Value → gt_S → Prop} {cc : ByteArray} {ks : gt_KS} {nL : Nat} {E : gt_E} {sp : List (Nat × List Nat)} (hsub : ∀ pc lv lv' st σ, (∀ q ∈ lv', q ∈ lv) → J pc lv' st σ → J pc lv st σ)
    (hst : ∀ (q : gt_I), decode cc q.1 = .ok (q.2.1, q.2.2) → gt_lok q = true → ∀ (lv : gt_L) (st : List Value) (σ : gt_S) (κ : gt_C) (o : gt_F), gt_st1 ks nL E q lv st σ κ = some o → (∀ pc lv st σ, κ pc lv st σ = some o → J pc lv st σ) → J q.1 lv st σ) :
    ∀ (n : Nat) (cs : List gt_I) (lv : gt_L) (st : List Value) (σ : gt_S) (o : gt_F), gt_dok cc cs → gt_bx ks nL E sp n cs lv st σ = some o → J o.1 o.2.1 o.2.2.1 o.2.2.2 → ∀ q t, cs = q :: t → J q.1 lv st σ
  | 0, _, _, _, _, _, _, h, _, _, _, _ => by cases h
  | n + 1, cs, lv, st, σ, o, hd, h, hJ, q, t, hcs => by
    subst hcs
    unfold gt_bx at h
    dsimp only at h
    refine hst q (hd q List.mem_cons_self).1 (hd q List.mem_cons_self).2 lv st σ _ o h ?_
    intro pc lv1 st1 σ1 h1
    split at h1
    · cases h1
      exact hsub _ _ _ _ _ (fun q hq => gt_nr_mem hq) hJ
    · cases hs : gt_sk pc t with
      | nil =>
        rw [hs] at h1
        cases n <;> cases h1
      | cons x r =>
        have e1 := gt_sk_hd hs
        subst e1
        exact gt_bx_w hsub hst n (gt_sk x.1 t) lv1 st1 σ1 o (fun q hq => hd q (List.mem_cons_of_mem _ (gt_sk_sub hq))) h1 hJ x r hs
theorem gt_R_w {J : Nat → gt_L → List Value → gt_S → Prop} {cc : ByteArray} {ks : gt_KS} {nL : Nat} {E : gt_E} {sp : List (Nat × List Nat)} {cs : List gt_I} (hd : gt_dok cc cs) (hsub : ∀ pc lv lv' st σ, (∀ q ∈ lv', q ∈ lv) → J pc lv' st σ → J pc lv st σ)
    (hst : ∀ (q : gt_I), decode cc q.1 = .ok (q.2.1, q.2.2) → gt_lok q = true → ∀ (lv : gt_L) (st : List Value) (σ : gt_S) (κ : gt_C) (o : gt_F), gt_st1 ks nL E q lv st σ κ = some o → (∀ pc lv st σ, κ pc lv st σ = some o → J pc lv st σ) → J q.1 lv st σ) :
    ∀ (n : Nat) (a b : gt_F), gt_it ks nL E sp cs n a = some b → J b.1 b.2.1 b.2.2.1 b.2.2.2 → J a.1 a.2.1 a.2.2.1 a.2.2.2
  | 0, a, b, h, hJ => by cases h; exact hJ
  | n + 1, a, b, h, hJ => by
    unfold gt_it at h
    obtain ⟨x, hx, h⟩ := Option.bind_eq_some_iff.mp h
    have h2 := gt_R_w hd hsub hst n x b h hJ
    cases hs : gt_sk a.1 cs with
    | nil =>
      rw [hs] at hx
      cases hx
    | cons q t =>
      have e1 := gt_sk_hd hs
      rw [← e1]
      exact gt_bx_w hsub hst 1000 _ _ _ _ _ (fun q hq => hd q (gt_sk_sub hq)) hx h2 q t hs
/-! contracts -/
def gt_NN (U : State) : Prop := ∀ w ∈ gt_N, va_Nw w U
theorem gt_NN.warm {s U : State} (hW : s.WarmedH U.vm) (h : gt_NN s) : gt_NN U := by
  intro w hw
  have h1 := h w hw
  have h2 := (List.mem_filter.mp hw).2
  cases w <;> first | exact va_Nw.warmF hW h1 | exact va_Nw.warmM hW h1 | cases h2
theorem gt_NN.same {u U : State} (hv : u.vm = U.vm) (h : gt_NN u) : gt_NN U := by
  intro w hw
  have h1 := h w hw
  have h2 := (List.mem_filter.mp hw).2
  cases w <;> first | cases h2; done | exact va_Nw.same rfl hv h1
theorem gt_NN.use {s : State} (h : gt_NN s) {args : Array Value} : ∀ w ∈ gt_N, w.before args s = true := by
  intro w hw
  have h1 := h w hw
  have h2 := (List.mem_filter.mp hw).2
  cases w <;> first | cases h2; done | exact va_Nw.use rfl h1
def gt_Pc (D : va_G) (ks : gt_KS) (cA : FieldType → Nat) (ad : Nat → Nat) (σ : gt_S) (as : List Value) (sz : Nat) : Array Value → State → Prop := va_Pc (as.map (gt_v ad)) (fun U => U.heap.size = sz ∧ va_P D vwCl (gt_w ks cA ad σ) U.heap ∧ va_K D vwCl (gt_tys cA) U ∧ va_D (fun _ => True) (gt_w ks cA ad σ) ∧ gt_NN U)
def gt_Qc (D : va_G) (ks : gt_KS) (cA : FieldType → Nat) (ad : Nat → Nat) (σ σ' : gt_S) (r : Option Value) (sz : Nat) : Array Value → State → Outcome → State → Prop := fun _ st oc t => oc = .returned (r.map (gt_v ad)) ∧ σ'.2.2.2 = σ.2.2.2 ∧ va_P D vwCl (gt_w ks cA ad σ') t.heap ∧ va_F (va_A (gt_w ks cA ad σ) sz) st t
/-- a method does to the store what f does -/
def gt_M (l : Launch) (ks : gt_KS) (y : MethodName) (ws : List Cond) (rm : Room) (f : gt_G) : Prop := ∀ (D : va_G) (cA : FieldType → Nat) (ad : Nat → Nat) (σ σ' : gt_S) (as : List Value) (r : Option Value) (sz : Nat), f as σ = some (r, σ') → Met l y ws rm (gt_Pc D ks cA ad σ as sz) (gt_Qc D ks cA ad σ σ' r sz) 0 0 (va_A (gt_w ks cA ad σ) sz)
theorem gt_Pc_bl {D : va_G} {ks : gt_KS} {cA : FieldType → Nat} {ad : Nat → Nat} {σ : gt_S} {as : List Value} {sz : Nat} : FrameBlind (gt_Pc D ks cA ad σ as sz) := by
  intro a U g mk q
  obtain ⟨q0, q1, qP, qK, qD, qN⟩ := q
  exact ⟨q0, q1, qP, va_K.moved (u := U) (U := U.calling g mk a) (Vm.Alike.refl U.vm) qK, qD, gt_NN.same (u := U) (U := U.calling g mk a) rfl qN⟩
def gt_W (y : MethodName) (cc : ByteArray) (maxL : Nat) (ret : Option FieldType) : List Cond := Cond.code y cc maxL ret :: gt_T
theorem gt_good {y : MethodName} {cc : ByteArray} {maxL : Nat} {ret : Option FieldType} (h : Cond.code y cc maxL ret ∈ gt_T) : GoodIn gt_T (gt_W y cc maxL ret) := by
  intro w hw
  have hm : w ∈ gt_T := by
    rcases List.mem_cons.mp hw with rfl | hw
    · exact h
    · exact hw
  exact ⟨hm, good_of_word (List.mem_filter.mp hm).2⟩
section GTC
variable {p : Program} {l : Launch} {e : Env} {R : Room} {s : State} {m : MethodId} {args : Array Value} {below : List Frame} {meth : Method} {c : Code} {cells slots : Nat} {Q : State → Prop}
variable {cc : ByteArray} {D : va_G} {ks : gt_KS} {cA : FieldType → Nat} {ad : Nat → Nat} {A : Nat → Prop} {H0 : Heap} {tx : List (Nat × Nat)} {nL : Nat} {own : String}
theorem gt_callg {σ σ' : gt_S} {r : Option Value} {pc : Nat} {ls : Array Slot} {H : Heap} {locs : List Loc} {st0 rest : List Value} {aa : Array Value} (hr : va_Run p l e R s m args below meth c H locs cells slots 0 0 (F0 m pc ls st0) rest (gt_Qc D ks cA ad σ σ' r H.size aa) (va_A (gt_w ks cA ad σ) H.size)) (hS : va_S A H0 H locs) (hF : ∀ q, va_A (gt_w ks cA ad σ) H.size q → A q)
    (kk : σ'.2.2.2 = σ.2.2.2 → ∀ (H1 : Heap) (locs1 : List Loc), va_P D vwCl (gt_w ks cA ad σ') H1 → va_S A H0 H1 locs1 → W p l e R s m args below meth c H1 locs1 cells slots Q (F0 m (pc + 3) ls ((r.map (gt_v ad)).toList ++ rest))) : W p l e R s m args below meth c H locs cells slots Q (F0 m pc ls st0) := by
  intro T hT X
  obtain ⟨v, st₀, t, T', L, h0, X', hL, e1, e2, ⟨hv, htx, hP1, hz, hk⟩, st⟩ := hr T hT X
  cases hv
  rw [h0] at hz hk
  obtain ⟨t2, a1, b1⟩ := kk htx T'.heap (locs ++ L) (by rw [e1]; exact hP1)
    ⟨Nat.le_trans hS.1 (by rw [e1]; exact hz), fun q h1 h2 => by rw [e1, hk q (Nat.lt_of_lt_of_le h1 hS.1) (fun z => h2 (hF q z))]; exact hS.2.1 q h1 h2, fun q hq => by
      rcases List.mem_append.mp hq with h | h
      · exact hS.2.2 q h
      · exact hF _ (hL q h)⟩ T' rfl X'
  exact ⟨t2, st t2 a1, b1⟩
theorem gt_free {σ : gt_S} {H : Heap} {locs : List Loc} (hD : va_D A (gt_w ks cA ad σ)) (hS : va_S A H0 H locs) (hA : ∀ q, H0.size ≤ q → A q) : ∀ q, va_A (gt_w ks cA ad σ) H.size q → A q := by
  intro q h
  rcases h with ⟨k, e, h⟩ | h
  · exact hD.2 k (q, e) h
  · exact hA q (Nat.le_trans hS.1 h)
theorem gt_sum_map (ad : Nat → Nat) (rest : List Value) : ((rest.map (gt_v ad)).map fun v => v.category).sum = (rest.map fun v => v.category).sum := by
  rw [List.map_map]
  congr 1
  apply List.map_congr_left
  intro v _
  exact gt_v_cat ad v
/-- what a caller is -/
def gt_Ctx (p : Program) (s : State) (m : MethodId) (args : Array Value) (c : Code) (cc : ByteArray) (nL : Nat) (own : String) (D : va_G) (ks : gt_KS) (cA : FieldType → Nat) (ad : Nat → Nat) (A : Nat → Prop) (H0 : Heap) (tx : List (Nat × Nat)) : Prop :=
  p.tables.exec = Jvm.exec ∧ c.code = cc ∧ c.maxLocals = nL ∧ s.vm.findClass own = some m.cls ∧ (∀ w ∈ gt_T, w.before args s = true) ∧ va_K D vwCl (gt_tys cA) s ∧ (∀ σ : gt_S, σ.2.2.2 = tx → va_D A (gt_w ks cA ad σ)) ∧ (∀ q, H0.size ≤ q → A q) ∧ gt_NN s
theorem gt_ckV (X : gt_Ctx p s m args c cc nL own D ks cA ad A H0 tx) (hf : cells ≤ R.cells ∧ slots ≤ R.slots) {y : MethodName} {cy : ByteArray} {maxL : Nat} {ret : Option FieldType} {rm : Room} {f : gt_G} {idx n rk : Nat} (hM : gt_M l ks y (gt_W y cy maxL ret) rm f) (hrm : rm.cells = 0 ∧ rm.slots = 0) (hR : rm.frames + 1 ≤ R.frames ∧ 8 + (maxL + 11) + rm.locals ≤ R.locals)
    (hcode : Cond.code y cy maxL ret ∈ gt_T) (hw : ∀ w ∈ ([.methodLink own idx y, .instanceMethod y, .selects y.cls y y, .initialized y.cls] : List Cond), w ∈ gt_T) (hd : y.cls ≠ "java/lang/invoke/MethodHandle" ∧ y.cls ≠ "java/lang/invoke/VarHandle" ∧ (parseMethodDescriptor y.desc).map (fun d => d.parameters.length) = some n)
    (hrc : ∀ (as : List Value) (σ : gt_S) (o : Option Value × gt_S), f as σ = some o → ∃ (b : Nat) (as' : List Value) (ci : Nat) (sl : List (Option (Option Nat))) (T : u_T) (N : Nat), as = .ref b :: as' ∧ gt_kd ks σ.2.2.2 b = some (.inr (ci, sl)) ∧ vwCl[ci]? = some (y.cls, T, N)) :
    gt_ck (gt_J (fun H locs pc ls st => W p l e R s m args below meth c H locs cells slots Q (F0 m pc ls st)) D vwCl ks cA ad A H0 tx nL) cc (idx, 0, rk, n + 1, f) := by
  obtain ⟨hx, hb, hml, hown, hts, hK, hDD, hA, hN⟩ := X
  intro pc lv as rest σ σ' r hdg hlen hfs hsum hJ
  dsimp only at hlen hfs
  obtain ⟨b, as', ci, sl, Tc, N, rfl, hkb, hcb⟩ := hrc as σ _ hfs
  intro ht ls H locs hlv hP hS
  have hD := hDD σ ht
  have hF := gt_free hD hS hA
  have hG : GoodIn gt_T (wsV own idx y.cls y (gt_W y cy maxL ret)) := by
    intro w h
    rcases List.mem_append.mp h with h | h
    · exact ⟨hw w h, good_of_word (List.mem_filter.mp (hw w h)).2⟩
    · exact gt_good hcode w h
  have hcw := cwV (R := R) (s := s) (args := args) (ws := gt_W y cy maxL ret) (rm := rm) (mc := 0) (ms := 0) n hts hG rfl hrm.1 hrm.2 ⟨rfl, hd.1, hd.2.1, hd.2.2⟩ hR
  have hl2 : as'.length = n := by rw [List.length_cons] at hlen; omega
  have hrun := va_runV (As := as'.map (gt_v ad)) (b := ad b) (rest := rest.map (gt_v ad)) (g := F0 m pc ls (((.ref b :: as').reverse ++ rest).map (gt_v ad))) (locs := locs) (below := below) (meth := meth) (e := e) (cells := cells) (slots := slots) (H := H) ⟨hx, hb, hml, hown, hts⟩ (hM D cA ad σ σ' (.ref b :: as') r H.size hfs) hcw
    ⟨gt_Pc_bl, va_recv hK hP (ci := ci) (q0 := b) hcb (gt_w_at hkb), fun U hU hW => ⟨rfl, by rw [hU], by rw [hU]; exact hP, va_K.moved hW.alike hK, hD.weaken (fun _ _ _ _ => trivial), hN.warm hW⟩⟩ rfl (by rw [List.length_map]; exact hl2) hlv.1 (by simp [gt_v]) (lv_room (by rw [gt_sum_map]; exact hsum)) hdg ⟨hf.1, hf.2⟩
  refine gt_callg hrun hS hF (fun htx H1 locs1 hP1 hS1 => ?_)
  have := hJ (htx.trans ht) ls H1 locs1 hlv hP1 hS1
  rw [List.map_append] at this
  cases r <;> exact this
theorem gt_ckS (X : gt_Ctx p s m args c cc nL own D ks cA ad A H0 tx) (hf : cells ≤ R.cells ∧ slots ≤ R.slots) {y : MethodName} {cy : ByteArray} {maxL : Nat} {ret : Option FieldType} {rm : Room} {f : gt_G} {idx n rk : Nat} (hM : gt_M l ks y (gt_W y cy maxL ret) rm f) (hrm : rm.cells = 0 ∧ rm.slots = 0) (hR : rm.frames + 1 ≤ R.frames ∧ 8 + (maxL + 11) + rm.locals ≤ R.locals)
    (hcode : Cond.code y cy maxL ret ∈ gt_T) (hl : Cond.methodLink own idx y ∈ gt_T ∨ ∃ host, Cond.methodLinkNest own idx y host ∈ gt_N) (hst : Cond.static y ∈ gt_T) (hini : Cond.initialized y.cls ∈ gt_T) (hd : y.cls ≠ "java/lang/invoke/MethodHandle" ∧ y.cls ≠ "java/lang/invoke/VarHandle" ∧ (parseMethodDescriptor y.desc).map (fun d => d.parameters.length) = some n) :
    gt_ck (gt_J (fun H locs pc ls st => W p l e R s m args below meth c H locs cells slots Q (F0 m pc ls st)) D vwCl ks cA ad A H0 tx nL) cc (idx, 1, rk, n, f) := by
  obtain ⟨hx, hb, hml, hown, hts, hK, hDD, hA, hN⟩ := X
  intro pc lv as rest σ σ' r hdg hlen hfs hsum hJ
  dsimp only at hlen hfs
  intro ht ls H locs hlv hP hS
  have hD := hDD σ ht
  have hF := gt_free hD hS hA
  have hpre : PreS s H (gt_Pc D ks cA ad σ as H.size) (as.map (gt_v ad)) := ⟨gt_Pc_bl, fun U hU hW => ⟨rfl, by rw [hU], by rw [hU]; exact hP, va_K.moved hW.alike hK, hD.weaken (fun _ _ _ _ => trivial), hN.warm hW⟩⟩
  have hstk : ((as.reverse ++ rest).map (gt_v ad)) = (as.map (gt_v ad)).reverse ++ rest.map (gt_v ad) := by simp
  have hrun : va_Run p l e R s m args below meth c H locs cells slots 0 0 (F0 m pc ls ((as.reverse ++ rest).map (gt_v ad))) (rest.map (gt_v ad)) (gt_Qc D ks cA ad σ σ' r H.size (as.map (gt_v ad)).toArray) (va_A (gt_w ks cA ad σ) H.size) := by
    rcases hl with hl | ⟨host, hl⟩
    · exact va_runS (As := as.map (gt_v ad)) ⟨hx, hb, hml, hown, hts⟩ (hM D cA ad σ σ' as r H.size hfs) ⟨callB_of n hts (gt_good hcode) rfl hrm.1 hrm.2 (hts _ hini) (hts _ hl) hd hR, hts _ hst⟩ hpre rfl (by rw [List.length_map]; exact hlen) hlv.1 hstk (lv_room (by rw [gt_sum_map]; exact hsum)) hdg ⟨hf.1, hf.2⟩
    · exact va_runSN (As := as.map (gt_v ad)) ⟨hx, hb, hml, hown, hts⟩ (hM D cA ad σ σ' as r H.size hfs) ⟨va_cnB n hts (gt_good hcode) rfl hrm.1 hrm.2 (hN _ hl) (hts _ hini) hd hR, hts _ hst, trivial⟩ hpre rfl (by rw [List.length_map]; exact hlen) hlv.1 hstk (lv_room (by rw [gt_sum_map]; exact hsum)) hdg ⟨hf.1, hf.2⟩
  refine gt_callg hrun hS hF (fun htx H1 locs1 hP1 hS1 => ?_)
  have := hJ (htx.trans ht) ls H1 locs1 hlv hP1 hS1
  rw [List.map_append] at this
  cases r <;> exact this
end GTC
