/-! THE WHOLE NUMBERS: the small machine once more, its values whole numbers (Int), in passing style; only compares, divisions and indices look at them modulo 2^32 -/
def nZ (x : Int) : Int32 := Int32.ofInt x
def nJ (x : Int) : Int64 := Int64.ofInt x
def w32 (x : Int) : Int := x.bmod 4294967296
def w64 (x : Int) : Int := x.bmod 18446744073709551616
abbrev zV : Type := Int ⊕ Int ⊕ Option Nat
abbrev zL : Type := List (Nat × zV)
abbrev zR : Type := Option (Option Value × gt_S)
abbrev zC : Type := Nat → zL → List zV → gt_S → zR
def zv : zV → Value
  | .inl x => .int (nZ x)
  | .inr (.inl x) => .long (nJ x)
  | .inr (.inr (some a)) => .ref a
  | .inr (.inr none) => .null
def zm (q : Nat × zV) : Nat × Value := (q.1, zv q.2)
def zcat : zV → Nat
  | .inr (.inl _) => 2
  | _ => 1
theorem zcat_eq (v : zV) : (zv v).category = zcat v := by
  rcases v with x | x | _ | a <;> rfl
theorem nZ_toInt (x : Int) : (nZ x).toInt = w32 x := Int32.toInt_ofInt
theorem nJ_toInt (x : Int) : (nJ x).toInt = w64 x := Int64.toInt_ofInt
theorem nZ_of (x : Int32) : nZ x.toInt = x := Int32.ofInt_toInt x
theorem nJ_of (x : Int64) : nJ x.toInt = x := Int64.ofInt_toInt x
theorem w32_of {x : Int} (h0 : -2147483648 ≤ x) (h1 : x < 2147483648) : w32 x = x := by
  unfold w32
  rw [Int.bmod_eq_iff (by decide)]
  omega
theorem w64_of {x : Int} (h0 : -9223372036854775808 ≤ x) (h1 : x < 9223372036854775808) : w64 x = x := by
  unfold w64
  rw [Int.bmod_eq_iff (by decide)]
  omega
theorem w32_lo (x : Int) : -2147483648 ≤ w32 x := by
  have := Int.le_bmod (x := x) (m := 4294967296) (by decide)
  unfold w32
  omega
theorem w32_hi (x : Int) : w32 x < 2147483648 := by
  have := Int.bmod_lt (x := x) (m := 4294967296) (by decide)
  unfold w32
  omega
theorem w64_lo (x : Int) : -9223372036854775808 ≤ w64 x := by
  have := Int.le_bmod (x := x) (m := 18446744073709551616) (by decide)
  unfold w64
  omega
theorem w64_hi (x : Int) : w64 x < 9223372036854775808 := by
  have := Int.bmod_lt (x := x) (m := 18446744073709551616) (by decide)
  unfold w64
  omega
theorem w32_toInt (x : Int32) : w32 x.toInt = x.toInt := w32_of (by have := x.le_toInt; omega) (by have := x.toInt_lt; omega)
theorem w64_toInt (x : Int64) : w64 x.toInt = x.toInt := w64_of (by have := x.le_toInt; omega) (by have := x.toInt_lt; omega)
theorem nZ_w (x : Int) : nZ (w32 x) = nZ x := by rw [← nZ_toInt, nZ_of]
theorem nJ_w (x : Int) : nJ (w64 x) = nJ x := by rw [← nJ_toInt, nJ_of]
theorem nZ_eq {x y : Int} : nZ x = nZ y ↔ w32 x = w32 y := by rw [← Int32.toInt_inj, nZ_toInt, nZ_toInt]
theorem nJ_eq {x y : Int} : nJ x = nJ y ↔ w64 x = w64 y := by rw [← Int64.toInt_inj, nJ_toInt, nJ_toInt]
theorem nZ_lt {x y : Int} : nZ x < nZ y ↔ w32 x < w32 y := by rw [Int32.lt_iff_toInt_lt, nZ_toInt, nZ_toInt]
theorem nJ_lt {x y : Int} : nJ x < nJ y ↔ w64 x < w64 y := by rw [Int64.lt_iff_toInt_lt, nJ_toInt, nJ_toInt]
theorem nZ_0 : (0 : Int32) = nZ 0 := rfl
theorem nJ_0 : (0 : Int64) = nJ 0 := rfl
theorem nZ_eq0 {y : Int} : nZ y = 0 ↔ w32 y = 0 := by
  rw [nZ_0, nZ_eq, w32_of (x := 0) (by decide) (by decide)]
theorem nJ_eq0 {y : Int} : nJ y = 0 ↔ w64 y = 0 := by
  rw [nJ_0, nJ_eq, w64_of (x := 0) (by decide) (by decide)]
theorem nZ_eq1 {y : Int} : nZ y = 1 ↔ w32 y = 1 := by
  rw [show (1 : Int32) = nZ 1 from rfl, nZ_eq, w32_of (x := 1) (by decide) (by decide)]
theorem nZ_lt0 {y : Int} : nZ y < 0 ↔ w32 y < 0 := by
  rw [nZ_0, nZ_lt, w32_of (x := 0) (by decide) (by decide)]
theorem nZ_0lt {y : Int} : 0 < nZ y ↔ 0 < w32 y := by
  rw [nZ_0, nZ_lt, w32_of (x := 0) (by decide) (by decide)]
theorem nZ_add (x y : Int) : nZ (x + y) = nZ x + nZ y := Int32.ofInt_add x y
theorem nZ_sub (x y : Int) : nZ (x - y) = nZ x - nZ y := Int32.ofInt_sub x y
theorem nZ_mul (x y : Int) : nZ (x * y) = nZ x * nZ y := Int32.ofInt_mul x y
theorem nZ_neg (x : Int) : nZ (-x) = -nZ x := Int32.ofInt_neg x
theorem nJ_add (x y : Int) : nJ (x + y) = nJ x + nJ y := Int64.ofInt_add x y
theorem nJ_sub (x y : Int) : nJ (x - y) = nJ x - nJ y := Int64.ofInt_sub x y
theorem nJ_mul (x y : Int) : nJ (x * y) = nJ x * nJ y := Int64.ofInt_mul x y
theorem nZ_div (x y : Int) : nZ ((w32 x).tdiv (w32 y)) = nZ x / nZ y := by
  rw [← Int32.toInt_inj, Int32.toInt_div, nZ_toInt, nZ_toInt, nZ_toInt]
  rfl
theorem nJ_div (x y : Int) : nJ ((w64 x).tdiv (w64 y)) = nJ x / nJ y := by
  rw [← Int64.toInt_inj, Int64.toInt_div, nJ_toInt, nJ_toInt, nJ_toInt]
  rfl
theorem nZ_rem (x y : Int) : nZ ((w32 x).tmod (w32 y)) = nZ x - nZ x / nZ y * nZ y := by
  rw [Int.tmod_def, nZ_sub, nZ_mul, nZ_div, nZ_w, nZ_w, Int32.mul_comm]
theorem nJ_rem (x y : Int) : nJ ((w64 x).tmod (w64 y)) = nJ x - nJ x / nJ y * nJ y := by
  rw [Int.tmod_def, nJ_sub, nJ_mul, nJ_div, nJ_w, nJ_w, Int64.mul_comm]
def zand (x y : Int) : Int := (nZ x &&& nZ y).toInt
def zor (x y : Int) : Int := (nZ x ||| nZ y).toInt
def zshl (x y : Int) : Int := (nZ x <<< (nZ y &&& 31)).toInt
def zshr (x y : Int) : Int := (nZ x >>> (nZ y &&& 31)).toInt
def zjand (x y : Int) : Int := (nJ x &&& nJ y).toInt
def zjor (x y : Int) : Int := (nJ x ||| nJ y).toInt
def zjshl (x y : Int) : Int := (nJ x <<< ((nZ y).toInt64 &&& 63)).toInt
def zjshr (x y : Int) : Int := (nJ x >>> ((nZ y).toInt64 &&& 63)).toInt
def zcmp (x y : Int) : Int := if w64 y < w64 x then 1 else if w64 x = w64 y then 0 else -1
theorem zcmp_eq (x y : Int) : nZ (zcmp x y) = lg_cmp (nJ x) (nJ y) := by
  unfold zcmp lg_cmp
  by_cases h : w64 y < w64 x
  · rw [if_pos h, if_pos (nJ_lt.mpr h)]
    rfl
  · rw [if_neg h, if_neg (fun q => h (nJ_lt.mp q))]
    by_cases h2 : w64 x = w64 y
    · rw [if_pos h2, if_pos (nJ_eq.mpr h2)]
      rfl
    · rw [if_neg h2, if_neg (fun q => h2 (nJ_eq.mp q))]
      rfl
/-! the store, read and written by whole numbers -/
def zi (σ : gt_S) (j : Nat) (k : Int) : Int := (σ.1 j k.toNat).toInt
def zj (σ : gt_S) (j : Nat) (k : Int) : Int := (σ.2.1 j k.toNat).toInt
def zu (σ : gt_S) (j : Nat) (k v : Int) : gt_S := (gt_u σ.1 j k.toNat (nZ v), σ.2)
def zw (σ : gt_S) (j : Nat) (k v : Int) : gt_S := (σ.1, gt_u σ.2.1 j k.toNat (nJ v), σ.2.2)
def zb (σ : gt_S) (j : Nat) (k v : Int) : gt_S := (gt_u σ.1 j k.toNat (vp_nar .boolean (nZ v)), σ.2)
def zt (σ : gt_S) (j : Nat) (k : Int) (v : Option Nat) : gt_S := (σ.1, σ.2.1, gt_u σ.2.2.1 j k.toNat v, σ.2.2.2)
/-- an index in a row -/
def zx (n : Nat) (i : Int) (r : zR) : zR := if 0 ≤ w32 i ∧ w32 i < n then r else none
def zldI (ks : gt_KS) (σ : gt_S) (j : Nat) (i : Int) (k : Int → zR) : zR := match gt_kd ks σ.2.2.2 j with
  | some (.inl (.int, n, _)) => zx n i (k (zi σ j (w32 i)))
  | _ => none
def zldZ (ks : gt_KS) (σ : gt_S) (j : Nat) (i : Int) (k : Int → zR) : zR := match gt_kd ks σ.2.2.2 j with
  | some (.inl (.boolean, n, _)) => zx n i (k (zi σ j (w32 i)))
  | _ => none
def zldL (ks : gt_KS) (σ : gt_S) (j : Nat) (i : Int) (k : Int → zR) : zR := match gt_kd ks σ.2.2.2 j with
  | some (.inl (.long, n, _)) => zx n i (k (zj σ j (w32 i)))
  | _ => none
def zrn (o : Option Nat) (kr : Nat → zR) (kn : zR) : zR := match o with
  | some a => kr a
  | none => kn
def zldR (ks : gt_KS) (σ : gt_S) (j : Nat) (i : Int) (kr : Nat → zR) (kn : zR) : zR := match gt_kd ks σ.2.2.2 j with
  | some (.inl (ty, n, rs)) => if gt_isT ty = true then zx n i (zrn (gt_rf rs σ j (w32 i).toNat) kr kn) else none
  | _ => none
def zstI (ks : gt_KS) (σ : gt_S) (j : Nat) (i v : Int) (k : gt_S → zR) : zR := match gt_kd ks σ.2.2.2 j with
  | some (.inl (.int, n, _)) => zx n i (k (zu σ j (w32 i) v))
  | _ => none
def zstZ (ks : gt_KS) (σ : gt_S) (j : Nat) (i v : Int) (k : gt_S → zR) : zR := match gt_kd ks σ.2.2.2 j with
  | some (.inl (.boolean, n, _)) => zx n i (k (zb σ j (w32 i) v))
  | _ => none
def zstL (ks : gt_KS) (σ : gt_S) (j : Nat) (i v : Int) (k : gt_S → zR) : zR := match gt_kd ks σ.2.2.2 j with
  | some (.inl (.long, n, _)) => zx n i (k (zw σ j (w32 i) v))
  | _ => none
def zstR (ks : gt_KS) (σ : gt_S) (j : Nat) (i : Int) (v : Option Nat) (k : gt_S → zR) : zR := match gt_kd ks σ.2.2.2 j with
  | some (.inl (.object C, n, [])) => if C = "GiftTable$Text" then zx n i (match v with
    | none => k (zt σ j (w32 i) none)
    | some t => (match gt_kd ks σ.2.2.2 t with
      | some (.inr (ci, _)) => if ci = 7 then k (zt σ j (w32 i) (some t)) else none
      | _ => none)) else none
  | _ => none
def zln (ks : gt_KS) (σ : gt_S) (j : Nat) (k : Nat → zR) : zR := match gt_kd ks σ.2.2.2 j with
  | some (.inl (ty, n, _)) => if ty = .int ∨ ty = .long ∨ ty = .boolean then k n else none
  | _ => none
def zsv (σ : gt_S) (j k : Nat) (κ : zV → zR) : Option (Option Nat) → zR
  | none => κ (.inl (zi σ j k))
  | some none => κ (.inr (.inl (zj σ j k)))
  | some (some r) => if r = 999999 then κ (.inr (.inr none)) else κ (.inr (.inr (some r)))
def zgf (ks : gt_KS) (σ : gt_S) (j ci k : Nat) (κ : zV → zR) : zR := match gt_kd ks σ.2.2.2 j with
  | some (.inr q) => if q.1 = ci then (match q.2[k]? with
    | some s => zsv σ j k κ s
    | none => none) else none
  | _ => none
def zpI (ks : gt_KS) (σ : gt_S) (j ci k t : Nat) (x : Int) (κ : gt_S → zR) : zR := match gt_kd ks σ.2.2.2 j with
  | some (.inr q) => if q.1 = ci then (match q.2[k]? with
    | some none => if t = 1 ∨ (t = 2 ∧ (w32 x = 0 ∨ w32 x = 1)) then κ (zu σ j k x) else none
    | _ => none) else none
  | _ => none
def zpL (ks : gt_KS) (σ : gt_S) (j ci k t : Nat) (x : Int) (κ : gt_S → zR) : zR := match gt_kd ks σ.2.2.2 j with
  | some (.inr q) => if q.1 = ci then (match q.2[k]? with
    | some (some none) => if t = 3 then κ (zw σ j k x) else none
    | _ => none) else none
  | _ => none
/-! the stack -/
def zi1 (st : List zV) (k : Int → List zV → zR) : zR := match st with
  | .inl x :: r => k x r
  | _ => none
def zi2 (st : List zV) (k : Int → Int → List zV → zR) : zR := match st with
  | .inl y :: .inl x :: r => k x y r
  | _ => none
def zl1 (st : List zV) (k : Int → List zV → zR) : zR := match st with
  | .inr (.inl x) :: r => k x r
  | _ => none
def zl2 (st : List zV) (k : Int → Int → List zV → zR) : zR := match st with
  | .inr (.inl y) :: .inr (.inl x) :: r => k x y r
  | _ => none
def zli (st : List zV) (k : Int → Int → List zV → zR) : zR := match st with
  | .inl y :: .inr (.inl x) :: r => k x y r
  | _ => none
def za1 (st : List zV) (k : Nat → List zV → zR) : zR := match st with
  | .inr (.inr (some a)) :: r => k a r
  | _ => none
def zai (st : List zV) (k : Nat → Int → List zV → zR) : zR := match st with
  | .inl i :: .inr (.inr (some a)) :: r => k a i r
  | _ => none
def zaii (st : List zV) (k : Nat → Int → Int → List zV → zR) : zR := match st with
  | .inl x :: .inl i :: .inr (.inr (some a)) :: r => k a i x r
  | _ => none
def zail (st : List zV) (k : Nat → Int → Int → List zV → zR) : zR := match st with
  | .inr (.inl x) :: .inl i :: .inr (.inr (some a)) :: r => k a i x r
  | _ => none
def zaiq (st : List zV) (k : Nat → Int → Option Nat → List zV → zR) : zR := match st with
  | .inr (.inr v) :: .inl i :: .inr (.inr (some a)) :: r => k a i v r
  | _ => none
def zjp (pc : Nat) (off : Int) (k : Nat → zR) : zR := match (pc : Int) + off with
  | .ofNat n => k n
  | .negSucc _ => none
def zbr (c : Jvm.ClassFile.Cond) (x y : Int) (t f : zR) : zR := match c with
  | .eq => if x = y then t else f
  | .ne => if x = y then f else t
  | .lt => if x < y then t else f
  | .ge => if x < y then f else t
  | .gt => if y < x then t else f
  | .le => if y < x then f else t
def zts (x : Int) (d : Int) (k : Int → zR) : Int → List Int → zR
  | _, [] => k d
  | lo, o :: t => if w32 x = w32 lo then k o else zts x d k (lo + 1) t
def zlsw (x : Int) (d : Int) (k : Int → zR) : List (Int × Int) → zR
  | [] => k d
  | q :: t => if w32 x = w32 q.1 then k q.2 else zlsw x d k t
def zf1 (i : Nat) : zL → zL
  | [] => []
  | q :: t => bif (Nat.beq q.1 i || (Nat.beq (q.1 + 1) i && Nat.beq (zcat q.2) 2)) then zf1 i t else q :: zf1 i t
def zf2 (i : Nat) : zL → zL
  | [] => []
  | q :: t => bif (Nat.beq q.1 i || (Nat.beq q.1 (i + 1) || (Nat.beq (q.1 + 1) i && Nat.beq (zcat q.2) 2))) then zf2 i t else q :: zf2 i t
def zs1 (i : Nat) (v : zV) (lv : zL) : zL := (i, v) :: zf1 i lv
def zs2 (i : Nat) (v : zV) (lv : zL) : zL := (i, v) :: zf2 i lv
def zldi (lv : zL) (i : Nat) (k : Int → zR) : zR := match gt_lk lv i with
  | some (.inl x) => k x
  | _ => none
def zldl (lv : zL) (i : Nat) (k : Int → zR) : zR := match gt_lk lv i with
  | some (.inr (.inl x)) => k x
  | _ => none
def zlda (lv : zL) (i : Nat) (k : zV → zR) : zR := match gt_lk lv i with
  | some (.inr (.inr x)) => k (.inr (.inr x))
  | _ => none
def zcv (o : zR) (k : gt_S → zR) : zR := match o with
  | some (none, σ) => k σ
  | _ => none
def zci (o : zR) (k : Int → gt_S → zR) : zR := match o with
  | some (some (.int v), σ) => k v.toInt σ
  | _ => none
def zcl (o : zR) (k : Int → gt_S → zR) : zR := match o with
  | some (some (.long v), σ) => k v.toInt σ
  | _ => none
def zca (o : zR) (kr : Nat → gt_S → zR) (kn : gt_S → zR) : zR := match o with
  | some (some (.ref v), σ) => kr v σ
  | some (some .null, σ) => kn σ
  | _ => none
def zcr (rk : Nat) (o : zR) (rest : List zV) (k : List zV → gt_S → zR) : zR := match rk with
  | 0 => zcv o fun σ => k rest σ
  | 1 => zci o fun v σ => k (.inl v :: rest) σ
  | 2 => zcl o fun v σ => k (.inr (.inl v) :: rest) σ
  | _ => zca o (fun v σ => k (.inr (.inr (some v)) :: rest) σ) (fun σ => k (.inr (.inr none) :: rest) σ)
def zinv (E : gt_E) (kd idx pc : Nat) (lv : zL) (st : List zV) (σ : gt_S) (κ : zC) : zR := match gt_lk E.2.2.2.1 idx with
  | some q => if q.1 = kd ∧ q.2.2.1 ≤ st.length ∧ ((st.drop q.2.2.1).map zcat).sum ≤ 8 then zcr q.2.1 (q.2.2.2 ((st.take q.2.2.1).reverse.map zv) σ) (st.drop q.2.2.1) (fun st σ => κ (pc + 3) lv st σ) else none
  | none => none
def zop : Instr → gt_KS → Nat → gt_E → Nat → zL → List zV → gt_S → zC → zR := fun i => match i with
  | .iconst n => fun ks nL E pc lv st σ κ => κ (pc + 1) lv (.inl n :: st) σ
  | .bipush n => fun ks nL E pc lv st σ κ => κ (pc + 2) lv (.inl (n.bmod 256) :: st) σ
  | .sipush n => fun ks nL E pc lv st σ κ => κ (pc + 3) lv (.inl (n.bmod 65536) :: st) σ
  | .lconst n => fun ks nL E pc lv st σ κ => κ (pc + 1) lv (.inr (.inl ((n : Nat) : Int)) :: st) σ
  | .aconst_null => fun ks nL E pc lv st σ κ => κ (pc + 1) lv (.inr (.inr none) :: st) σ
  | .ldc_w i => fun ks nL E pc lv st σ κ => (gt_lk E.2.1 i).bind fun v => κ (pc + 3) lv (.inl v.toInt :: st) σ
  | .ldc i => fun ks nL E pc lv st σ κ => (gt_lk E.2.1 i).bind fun v => κ (pc + 2) lv (.inl v.toInt :: st) σ
  | .ldc2_w i => fun ks nL E pc lv st σ κ => (gt_lk E.2.2.1 i).bind fun v => κ (pc + 3) lv (.inr (.inl v.toInt) :: st) σ
  | .iload_n k => fun ks nL E pc lv st σ κ => zldi lv k.1 fun x => κ (pc + 1) lv (.inl x :: st) σ
  | .iload i => fun ks nL E pc lv st σ κ => zldi lv i fun x => κ (pc + 2) lv (.inl x :: st) σ
  | .lload_n k => fun ks nL E pc lv st σ κ => zldl lv k.1 fun x => κ (pc + 1) lv (.inr (.inl x) :: st) σ
  | .lload i => fun ks nL E pc lv st σ κ => zldl lv i fun x => κ (pc + 2) lv (.inr (.inl x) :: st) σ
  | .aload_n k => fun ks nL E pc lv st σ κ => zlda lv k.1 fun x => κ (pc + 1) lv (x :: st) σ
  | .aload i => fun ks nL E pc lv st σ κ => zlda lv i fun x => κ (pc + 2) lv (x :: st) σ
  | .istore_n k => fun ks nL E pc lv st σ κ => zi1 st fun x r => if k.1 < nL then κ (pc + 1) (zs1 k.1 (.inl x) lv) r σ else none
  | .istore i => fun ks nL E pc lv st σ κ => zi1 st fun x r => if i < nL then κ (pc + 2) (zs1 i (.inl x) lv) r σ else none
  | .lstore_n k => fun ks nL E pc lv st σ κ => zl1 st fun x r => if k.1 + 1 < nL then κ (pc + 1) (zs2 k.1 (.inr (.inl x)) lv) r σ else none
  | .lstore i => fun ks nL E pc lv st σ κ => zl1 st fun x r => if i + 1 < nL then κ (pc + 2) (zs2 i (.inr (.inl x)) lv) r σ else none
  | .astore_n k => fun ks nL E pc lv st σ κ => za1 st fun x r => if k.1 < nL then κ (pc + 1) (zs1 k.1 (.inr (.inr (some x))) lv) r σ else none
  | .astore i => fun ks nL E pc lv st σ κ => za1 st fun x r => if i < nL then κ (pc + 2) (zs1 i (.inr (.inr (some x))) lv) r σ else none
  | .iinc i n => fun ks nL E pc lv st σ κ => zldi lv i fun x => if i < nL then κ (pc + 3) (zs1 i (.inl (x + n)) lv) st σ else none
  | .iadd => fun ks nL E pc lv st σ κ => zi2 st fun x y r => κ (pc + 1) lv (.inl (x + y) :: r) σ
  | .isub => fun ks nL E pc lv st σ κ => zi2 st fun x y r => κ (pc + 1) lv (.inl (x - y) :: r) σ
  | .imul => fun ks nL E pc lv st σ κ => zi2 st fun x y r => κ (pc + 1) lv (.inl (x * y) :: r) σ
  | .iand => fun ks nL E pc lv st σ κ => zi2 st fun x y r => κ (pc + 1) lv (.inl (zand x y) :: r) σ
  | .ior => fun ks nL E pc lv st σ κ => zi2 st fun x y r => κ (pc + 1) lv (.inl (zor x y) :: r) σ
  | .idiv => fun ks nL E pc lv st σ κ => zi2 st fun x y r => if w32 y = 0 then none else κ (pc + 1) lv (.inl ((w32 x).tdiv (w32 y)) :: r) σ
  | .irem => fun ks nL E pc lv st σ κ => zi2 st fun x y r => if w32 y = 0 then none else κ (pc + 1) lv (.inl ((w32 x).tmod (w32 y)) :: r) σ
  | .ineg => fun ks nL E pc lv st σ κ => zi1 st fun x r => κ (pc + 1) lv (.inl (-x) :: r) σ
  | .ishl => fun ks nL E pc lv st σ κ => zi2 st fun x y r => κ (pc + 1) lv (.inl (zshl x y) :: r) σ
  | .ishr => fun ks nL E pc lv st σ κ => zi2 st fun x y r => κ (pc + 1) lv (.inl (zshr x y) :: r) σ
  | .ladd => fun ks nL E pc lv st σ κ => zl2 st fun x y r => κ (pc + 1) lv (.inr (.inl (x + y)) :: r) σ
  | .lsub => fun ks nL E pc lv st σ κ => zl2 st fun x y r => κ (pc + 1) lv (.inr (.inl (x - y)) :: r) σ
  | .lmul => fun ks nL E pc lv st σ κ => zl2 st fun x y r => κ (pc + 1) lv (.inr (.inl (x * y)) :: r) σ
  | .land => fun ks nL E pc lv st σ κ => zl2 st fun x y r => κ (pc + 1) lv (.inr (.inl (zjand x y)) :: r) σ
  | .lor => fun ks nL E pc lv st σ κ => zl2 st fun x y r => κ (pc + 1) lv (.inr (.inl (zjor x y)) :: r) σ
  | .ldiv => fun ks nL E pc lv st σ κ => zl2 st fun x y r => if w64 y = 0 then none else κ (pc + 1) lv (.inr (.inl ((w64 x).tdiv (w64 y))) :: r) σ
  | .lrem => fun ks nL E pc lv st σ κ => zl2 st fun x y r => if w64 y = 0 then none else κ (pc + 1) lv (.inr (.inl ((w64 x).tmod (w64 y))) :: r) σ
  | .lshl => fun ks nL E pc lv st σ κ => zli st fun x y r => κ (pc + 1) lv (.inr (.inl (zjshl x y)) :: r) σ
  | .lshr => fun ks nL E pc lv st σ κ => zli st fun x y r => κ (pc + 1) lv (.inr (.inl (zjshr x y)) :: r) σ
  | .i2l => fun ks nL E pc lv st σ κ => zi1 st fun x r => κ (pc + 1) lv (.inr (.inl (w32 x)) :: r) σ
  | .l2i => fun ks nL E pc lv st σ κ => zl1 st fun x r => κ (pc + 1) lv (.inl x :: r) σ
  | .lcmp => fun ks nL E pc lv st σ κ => zl2 st fun x y r => κ (pc + 1) lv (.inl (zcmp x y) :: r) σ
  | .dup => fun ks nL E pc lv st σ κ => (match st with
    | v :: r => if zcat v = 1 then κ (pc + 1) lv (v :: v :: r) σ else none
    | _ => none)
  | .dup2 => fun ks nL E pc lv st σ κ => (match st with
    | v :: w :: r => if zcat v = 1 ∧ zcat w = 1 then κ (pc + 1) lv (v :: w :: v :: w :: r) σ else none
    | _ => none)
  | .pop => fun ks nL E pc lv st σ κ => (match st with
    | v :: r => if zcat v = 1 then κ (pc + 1) lv r σ else none
    | _ => none)
  | .goto off => fun ks nL E pc lv st σ κ => zjp pc off fun t => κ t lv st σ
  | .ifCond c off => fun ks nL E pc lv st σ κ => zi1 st fun x r => zjp pc off fun t => zbr c (w32 x) 0 (κ t lv r σ) (κ (pc + 3) lv r σ)
  | .if_icmp c off => fun ks nL E pc lv st σ κ => zi2 st fun x y r => zjp pc off fun t => zbr c (w32 x) (w32 y) (κ t lv r σ) (κ (pc + 3) lv r σ)
  | .ifnull off => fun ks nL E pc lv st σ κ => (match st with
    | .inr (.inr none) :: r => zjp pc off fun t => κ t lv r σ
    | .inr (.inr (some _)) :: r => κ (pc + 3) lv r σ
    | _ => none)
  | .ifnonnull off => fun ks nL E pc lv st σ κ => (match st with
    | .inr (.inr none) :: r => κ (pc + 3) lv r σ
    | .inr (.inr (some _)) :: r => zjp pc off fun t => κ t lv r σ
    | _ => none)
  | .tableswitch d lo hi offs => fun ks nL E pc lv st σ κ => zi1 st fun x r => if 0 ≤ lo ∧ hi = lo + offs.size - 1 ∧ hi < 1000 ∧ 0 < offs.size then zts x d (fun o => zjp pc o fun t => κ t lv r σ) lo offs.toList else none
  | .lookupswitch d ps => fun ks nL E pc lv st σ κ => zi1 st fun x r => if (ps.toList.zip (ps.toList.drop 1)).all (fun (a, next) => a.1 < next.1) = true ∧ ps.toList.all (fun w => decide (-2147483648 ≤ w.1) && decide (w.1 < 2147483648)) = true then zlsw x d (fun o => zjp pc o fun t => κ t lv r σ) ps.toList else none
  | .getfield i => fun ks nL E pc lv st σ κ => za1 st fun a r => (gt_lk E.1 i).bind fun f => zgf ks σ a f.1 f.2.1 fun v => κ (pc + 3) lv (v :: r) σ
  | .putfield i => fun ks nL E pc lv st σ κ => (match st with
    | .inl x :: .inr (.inr (some a)) :: r => (gt_lk E.1 i).bind fun f => zpI ks σ a f.1 f.2.1 f.2.2 x fun σ' => κ (pc + 3) lv r σ'
    | .inr (.inl x) :: .inr (.inr (some a)) :: r => (gt_lk E.1 i).bind fun f => zpL ks σ a f.1 f.2.1 f.2.2 x fun σ' => κ (pc + 3) lv r σ'
    | _ => none)
  | .iaload => fun ks nL E pc lv st σ κ => zai st fun a i r => zldI ks σ a i fun v => κ (pc + 1) lv (.inl v :: r) σ
  | .baload => fun ks nL E pc lv st σ κ => zai st fun a i r => zldZ ks σ a i fun v => κ (pc + 1) lv (.inl v :: r) σ
  | .laload => fun ks nL E pc lv st σ κ => zai st fun a i r => zldL ks σ a i fun v => κ (pc + 1) lv (.inr (.inl v) :: r) σ
  | .aaload => fun ks nL E pc lv st σ κ => zai st fun a i r => zldR ks σ a i (fun v => κ (pc + 1) lv (.inr (.inr (some v)) :: r) σ) (κ (pc + 1) lv (.inr (.inr none) :: r) σ)
  | .iastore => fun ks nL E pc lv st σ κ => zaii st fun a i x r => zstI ks σ a i x fun σ' => κ (pc + 1) lv r σ'
  | .bastore => fun ks nL E pc lv st σ κ => zaii st fun a i x r => zstZ ks σ a i x fun σ' => κ (pc + 1) lv r σ'
  | .lastore => fun ks nL E pc lv st σ κ => zail st fun a i x r => zstL ks σ a i x fun σ' => κ (pc + 1) lv r σ'
  | .aastore => fun ks nL E pc lv st σ κ => zaiq st fun a i x r => zstR ks σ a i x fun σ' => κ (pc + 1) lv r σ'
  | .arraylength => fun ks nL E pc lv st σ κ => za1 st fun a r => zln ks σ a fun n => κ (pc + 1) lv (.inl (n : Int) :: r) σ
  | .invokevirtual i => fun ks nL E pc lv st σ κ => zinv E 0 i pc lv st σ κ
  | .invokestatic i => fun ks nL E pc lv st σ κ => zinv E 1 i pc lv st σ κ
  | .invokespecial i => fun ks nL E pc lv st σ κ => zinv E 2 i pc lv st σ κ
  | _ => fun _ _ _ _ _ _ _ _ => none
