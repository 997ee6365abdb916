/-! THE SMALL MACHINE: a store of numbered cells, a step of one instruction over it, as a function. No word of the claim's own stands here. -/
abbrev gt_S : Type := (Nat → Nat → Int32) × (Nat → Nat → Int64) × (Nat → Nat → Option Nat) × List (Nat × Nat)
abbrev gt_K : Type := (FieldType × Nat × List Nat) ⊕ (Nat × List (Option (Option Nat)))
/-- the fixed cells: what each is, and how many -/
abbrev gt_KS : Type := (Nat → Option gt_K) × Nat
abbrev gt_L : Type := List (Nat × Value)
abbrev gt_F : Type := Nat × gt_L × List Value × gt_S
abbrev gt_I : Type := Nat × Instr × Nat
abbrev gt_G : Type := List Value → gt_S → Option (Option Value × gt_S)
/-- fields, int constants, long constants, calls (0 virtual, 1 static, 2 special; 0 nothing, 1 an int, 2 a long, 3 a reference comes back; how many words it takes; what it does), each by its pool number; special steps, by their place -/
abbrev gt_E : Type := List (Nat × Nat × Nat × Nat) × List (Nat × Int32) × List (Nat × Int64) × List (Nat × Nat × Nat × Nat × gt_G) × List (Nat × (gt_L → List Value → gt_S → Option gt_F))
def gt_len : Instr → Nat
  | .bipush _ | .ldc _ | .iload _ | .lload _ | .aload _ | .istore _ | .lstore _ | .astore _ => 2
  | .sipush _ | .ldc_w _ | .ldc2_w _ | .iinc _ _ | .goto _ | .ifCond _ _ | .if_icmp _ _ | .ifnull _ | .ifnonnull _ | .getfield _ | .putfield _ | .invokevirtual _ | .invokestatic _ | .invokespecial _ => 3
  | _ => 1
def gt_lok (q : gt_I) : Bool := match q.2.1 with
  | .tableswitch _ _ _ _ => true
  | .lookupswitch _ _ => true
  | i => Nat.beq q.2.2 (gt_len i)
def gt_dok (cc : ByteArray) (cs : List gt_I) : Prop := ∀ q ∈ cs, decode cc q.1 = .ok (q.2.1, q.2.2) ∧ gt_lok q = true
theorem gt_dok_of {cc : ByteArray} {cs : List gt_I} (h : cs.all (fun q => decide (decode cc q.1 = .ok (q.2.1, q.2.2)) && gt_lok q) = true) : gt_dok cc cs := by
  intro q hq
  have := List.all_eq_true.mp h q hq
  simp only [Bool.and_eq_true, decide_eq_true_eq] at this
  exact this
def gt_isN : Cond → Bool
  | .fieldLinkNest .. => true
  | .methodLinkNest .. => true
  | _ => false
/-- the tables' words of nest mates -/
def gt_N : List Cond := lw_tbl.filter gt_isN
/-- the words that every method has: those of the tables that last -/
def gt_T : List Cond := lw_tbl.filter goodWord
theorem gt_T_in {w : Cond} (h : w ∈ lw_tbl) (g : goodWord w = true) : w ∈ gt_T := List.mem_filter.mpr ⟨h, g⟩
/-! a word of the tables, by its place -/
theorem gt_Ti (i : Nat) {w : Cond} (h : tables_1[i]? = some w) (g : goodWord w = true) : w ∈ gt_T := gt_T_in (List.mem_append_right _ (List.mem_of_getElem? h)) g
theorem gt_Ni (i : Nat) {w : Cond} (h : tables_1[i]? = some w) (g : gt_isN w = true) : w ∈ gt_N := List.mem_filter.mpr ⟨List.mem_append_right _ (List.mem_of_getElem? h), g⟩
theorem gt_Pi (i : Nat) {w : Cond} (h : (k2_sels lw_privs)[i]? = some w) (g : goodWord w = true) : w ∈ gt_T := gt_T_in (List.mem_append_left _ (List.mem_of_getElem? h)) g
/-! a word of one of the nine tables, by its place there -/
def gt_nth : List Cond → Nat → Option Cond
  | [], _ => none
  | a :: _, 0 => some a
  | _ :: t, n + 1 => gt_nth t n
theorem gt_nth_mem : ∀ {l : List Cond} {n : Nat} {w : Cond}, gt_nth l n = some w → w ∈ l
  | [], _, _, h => by cases h
  | a :: t, 0, w, h => by cases h; exact List.mem_cons_self
  | a :: t, n + 1, w, h => List.mem_cons_of_mem _ (gt_nth_mem h)
theorem gt_T9 {w : Cond} (h : w ∈ tables_1) (g : goodWord w = true) : w ∈ gt_T := gt_T_in (List.mem_append_right _ h) g
theorem gt_t1 (i : Nat) {w : Cond} (h : gt_nth tables_1_1 i = some w) (g : goodWord w = true) : w ∈ gt_T := gt_T9 (List.mem_append_left _ (gt_nth_mem h)) g
theorem gt_t2 (i : Nat) {w : Cond} (h : gt_nth tables_1_2 i = some w) (g : goodWord w = true) : w ∈ gt_T := gt_T9 (List.mem_append_right _ (List.mem_append_left _ (gt_nth_mem h))) g
theorem gt_t3 (i : Nat) {w : Cond} (h : gt_nth tables_1_3 i = some w) (g : goodWord w = true) : w ∈ gt_T := gt_T9 (List.mem_append_right _ (List.mem_append_right _ (List.mem_append_left _ (gt_nth_mem h)))) g
theorem gt_t4 (i : Nat) {w : Cond} (h : gt_nth tables_1_4 i = some w) (g : goodWord w = true) : w ∈ gt_T := gt_T9 (List.mem_append_right _ (List.mem_append_right _ (List.mem_append_right _ (List.mem_append_left _ (gt_nth_mem h))))) g
theorem gt_t5 (i : Nat) {w : Cond} (h : gt_nth tables_1_5 i = some w) (g : goodWord w = true) : w ∈ gt_T := gt_T9 (List.mem_append_right _ (List.mem_append_right _ (List.mem_append_right _ (List.mem_append_right _ (List.mem_append_left _ (gt_nth_mem h)))))) g
theorem gt_t6 (i : Nat) {w : Cond} (h : gt_nth tables_1_6 i = some w) (g : goodWord w = true) : w ∈ gt_T := gt_T9 (List.mem_append_right _ (List.mem_append_right _ (List.mem_append_right _ (List.mem_append_right _ (List.mem_append_right _ (List.mem_append_left _ (gt_nth_mem h))))))) g
theorem gt_t7 (i : Nat) {w : Cond} (h : gt_nth tables_1_7 i = some w) (g : goodWord w = true) : w ∈ gt_T := gt_T9 (List.mem_append_right _ (List.mem_append_right _ (List.mem_append_right _ (List.mem_append_right _ (List.mem_append_right _ (List.mem_append_right _ (List.mem_append_left _ (gt_nth_mem h)))))))) g
theorem gt_t8 (i : Nat) {w : Cond} (h : gt_nth tables_1_8 i = some w) (g : goodWord w = true) : w ∈ gt_T := gt_T9 (List.mem_append_right _ (List.mem_append_right _ (List.mem_append_right _ (List.mem_append_right _ (List.mem_append_right _ (List.mem_append_right _ (List.mem_append_right _ (List.mem_append_left _ (gt_nth_mem h))))))))) g
theorem gt_t9 (i : Nat) {w : Cond} (h : gt_nth tables_1_9 i = some w) (g : goodWord w = true) : w ∈ gt_T := gt_T9 (List.mem_append_right _ (List.mem_append_right _ (List.mem_append_right _ (List.mem_append_right _ (List.mem_append_right _ (List.mem_append_right _ (List.mem_append_right _ (List.mem_append_right _ (gt_nth_mem h))))))))) g
def gt_nthp : List (MethodName × Nat) → Nat → Option (MethodName × Nat)
  | [], _ => none
  | a :: _, 0 => some a
  | _ :: t, n + 1 => gt_nthp t n
theorem gt_nthp_mem : ∀ {l : List (MethodName × Nat)} {n : Nat} {w : MethodName × Nat}, gt_nthp l n = some w → w ∈ l
  | [], _, _, h => by cases h
  | a :: t, 0, w, h => by cases h; exact List.mem_cons_self
  | a :: t, n + 1, w, h => List.mem_cons_of_mem _ (gt_nthp_mem h)
theorem gt_ps {q : MethodName × Nat} (h : q ∈ lw_privs) : Cond.selects q.1.cls q.1 q.1 ∈ gt_T := gt_T_in (List.mem_append_left _ (List.mem_map.mpr ⟨q, h, rfl⟩)) rfl
theorem gt_p1 (i : Nat) {y : MethodName} {n : Nat} (h : gt_nthp lw_privs_1 i = some (y, n)) : Cond.selects y.cls y y ∈ gt_T := gt_ps (q := (y, n)) (List.mem_append_left _ (gt_nthp_mem h))
theorem gt_p2 (i : Nat) {y : MethodName} {n : Nat} (h : gt_nthp lw_privs_2 i = some (y, n)) : Cond.selects y.cls y y ∈ gt_T := gt_ps (q := (y, n)) (List.mem_append_right _ (List.mem_append_left _ (gt_nthp_mem h)))
theorem gt_p3 (i : Nat) {y : MethodName} {n : Nat} (h : gt_nthp lw_privs_3 i = some (y, n)) : Cond.selects y.cls y y ∈ gt_T := gt_ps (q := (y, n)) (List.mem_append_right _ (List.mem_append_right _ (List.mem_append_left _ (gt_nthp_mem h))))
theorem gt_p4 (i : Nat) {y : MethodName} {n : Nat} (h : gt_nthp lw_privs_4 i = some (y, n)) : Cond.selects y.cls y y ∈ gt_T := gt_ps (q := (y, n)) (List.mem_append_right _ (List.mem_append_right _ (List.mem_append_right _ (List.mem_append_left _ (gt_nthp_mem h)))))
theorem gt_p5 (i : Nat) {y : MethodName} {n : Nat} (h : gt_nthp lw_privs_5 i = some (y, n)) : Cond.selects y.cls y y ∈ gt_T := gt_ps (q := (y, n)) (List.mem_append_right _ (List.mem_append_right _ (List.mem_append_right _ (List.mem_append_right _ (List.mem_append_left _ (gt_nthp_mem h))))))
theorem gt_p6 (i : Nat) {y : MethodName} {n : Nat} (h : gt_nthp lw_privs_6 i = some (y, n)) : Cond.selects y.cls y y ∈ gt_T := gt_ps (q := (y, n)) (List.mem_append_right _ (List.mem_append_right _ (List.mem_append_right _ (List.mem_append_right _ (List.mem_append_right _ (List.mem_append_left _ (gt_nthp_mem h)))))))
theorem gt_p7 (i : Nat) {y : MethodName} {n : Nat} (h : gt_nthp lw_privs_7 i = some (y, n)) : Cond.selects y.cls y y ∈ gt_T := gt_ps (q := (y, n)) (List.mem_append_right _ (List.mem_append_right _ (List.mem_append_right _ (List.mem_append_right _ (List.mem_append_right _ (List.mem_append_right _ (List.mem_append_left _ (gt_nthp_mem h))))))))
theorem gt_p8 (i : Nat) {y : MethodName} {n : Nat} (h : gt_nthp lw_privs_8 i = some (y, n)) : Cond.selects y.cls y y ∈ gt_T := gt_ps (q := (y, n)) (List.mem_append_right _ (List.mem_append_right _ (List.mem_append_right _ (List.mem_append_right _ (List.mem_append_right _ (List.mem_append_right _ (List.mem_append_right _ (gt_nthp_mem h))))))))
def gt_fok (Ts : List Cond) (own : String) (cl : List vw_C) (q : Nat × Nat × Nat × Nat) : Prop := ∃ (C : String) (T : u_T) (N : Nat) (ty : Nat → FieldType), cl[q.2.1]? = some (C, T, N) ∧ q.2.2.1 < N ∧ (∀ w ∈ u_ws C T N, w ∈ Ts) ∧ (∀ k, k < N → parseFieldDescriptor (T k).2.2.1 = some (ty k)) ∧ (∀ a, a < N → ∀ b, b < N → a ≠ b → (T a).2.1 ≠ (T b).2.1) ∧
  (Cond.fieldLink own q.1 (T q.2.2.1).1 (T q.2.2.1).2.1 (T q.2.2.1).2.2.1 ∈ Ts ∨ ∃ host, Cond.fieldLinkNest own q.1 (T q.2.2.1).1 (T q.2.2.1).2.1 (T q.2.2.1).2.2.1 host ∈ Ts) ∧
  (q.2.2.2 = 0 ∨ ((T q.2.2.1).2.2.2 = false ∧ ((q.2.2.2 = 1 ∧ ty q.2.2.1 = .int) ∨ (q.2.2.2 = 2 ∧ ty q.2.2.1 = .boolean) ∨ (q.2.2.2 = 3 ∧ ty q.2.2.1 = .long))))
theorem gt_fall {Ts : List Cond} {own : String} {cl : List vw_C} {q : Nat × Nat × Nat × Nat} {t : List (Nat × Nat × Nat × Nat)} (h : gt_fok Ts own cl q) (ht : ∀ q ∈ t, gt_fok Ts own cl q) : ∀ x ∈ q :: t, gt_fok Ts own cl x := List.forall_mem_cons.mpr ⟨h, ht⟩
theorem gt_4 {a b c d : Cond} (ha : a ∈ gt_T) (hb : b ∈ gt_T) (hc : c ∈ gt_T) (hd : d ∈ gt_T) : ∀ w ∈ ([a, b, c, d] : List Cond), w ∈ gt_T := List.forall_mem_cons.mpr ⟨ha, List.forall_mem_cons.mpr ⟨hb, List.forall_mem_cons.mpr ⟨hc, List.forall_mem_cons.mpr ⟨hd, fun _ h => absurd h List.not_mem_nil⟩⟩⟩⟩
