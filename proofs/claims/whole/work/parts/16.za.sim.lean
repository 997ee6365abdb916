/-! the two machines do the same -/
theorem zi1_eq (st : List zV) (k : Int32 → List Value → Option gt_F) (g : gt_F → zR) : (gt_i1 (st.map zv) k).bind g = zi1 st (fun x r => (k (nZ x) (r.map zv)).bind g) := by
  rcases st with _ | ⟨x | x | _ | a, r⟩ <;> rfl
theorem zi2_eq (st : List zV) (k : Int32 → Int32 → List Value → Option gt_F) (g : gt_F → zR) : (gt_i2 (st.map zv) k).bind g = zi2 st (fun x y r => (k (nZ x) (nZ y) (r.map zv)).bind g) := by
  rcases st with _ | ⟨x | x | _ | a, _ | ⟨y | y | _ | b, r⟩⟩ <;> rfl
theorem zl1_eq (st : List zV) (k : Int64 → List Value → Option gt_F) (g : gt_F → zR) : (gt_l1 (st.map zv) k).bind g = zl1 st (fun x r => (k (nJ x) (r.map zv)).bind g) := by
  rcases st with _ | ⟨x | x | _ | a, r⟩ <;> rfl
theorem zl2_eq (st : List zV) (k : Int64 → Int64 → List Value → Option gt_F) (g : gt_F → zR) : (gt_l2 (st.map zv) k).bind g = zl2 st (fun x y r => (k (nJ x) (nJ y) (r.map zv)).bind g) := by
  rcases st with _ | ⟨x | x | _ | a, _ | ⟨y | y | _ | b, r⟩⟩ <;> rfl
theorem zli_eq (st : List zV) (k : Int64 → Int32 → List Value → Option gt_F) (g : gt_F → zR) : (gt_li (st.map zv) k).bind g = zli st (fun x y r => (k (nJ x) (nZ y) (r.map zv)).bind g) := by
  rcases st with _ | ⟨x | x | _ | a, _ | ⟨y | y | _ | b, r⟩⟩ <;> rfl
theorem za1_eq (st : List zV) (k : Nat → List Value → Option gt_F) (g : gt_F → zR) : (gt_a1 (st.map zv) k).bind g = za1 st (fun x r => (k x (r.map zv)).bind g) := by
  rcases st with _ | ⟨x | x | _ | a, r⟩ <;> rfl
theorem zai_eq (st : List zV) (k : Nat → Int32 → List Value → Option gt_F) (g : gt_F → zR) : (gt_ai (st.map zv) k).bind g = zai st (fun a i r => (k a (nZ i) (r.map zv)).bind g) := by
  rcases st with _ | ⟨x | x | _ | a, _ | ⟨y | y | _ | b, r⟩⟩ <;> rfl
theorem zaii_eq (st : List zV) (k : Nat → Int32 → Int32 → List Value → Option gt_F) (g : gt_F → zR) : (gt_aii (st.map zv) k).bind g = zaii st (fun a i x r => (k a (nZ i) (nZ x) (r.map zv)).bind g) := by
  rcases st with _ | ⟨x | x | _ | a, _ | ⟨y | y | _ | b, _ | ⟨z | z | _ | c, r⟩⟩⟩ <;> rfl
theorem zail_eq (st : List zV) (k : Nat → Int32 → Int64 → List Value → Option gt_F) (g : gt_F → zR) : (gt_ail (st.map zv) k).bind g = zail st (fun a i x r => (k a (nZ i) (nJ x) (r.map zv)).bind g) := by
  rcases st with _ | ⟨x | x | _ | a, _ | ⟨y | y | _ | b, _ | ⟨z | z | _ | c, r⟩⟩⟩ <;> rfl
theorem zaiq_eq (st : List zV) (k : Nat → Int32 → Option Nat → List Value → Option gt_F) (g : gt_F → zR) : (gt_aiq (st.map zv) k).bind g = zaiq st (fun a i x r => (k a (nZ i) x (r.map zv)).bind g) := by
  rcases st with _ | ⟨x | x | _ | a, _ | ⟨y | y | _ | b, _ | ⟨z | z | _ | c, r⟩⟩⟩ <;> rfl
theorem zjp_eq (pc : Nat) (off : Int) (k : Nat → Option gt_F) (g : gt_F → zR) : (gt_jp pc off k).bind g = zjp pc off (fun t => (k t).bind g) := by
  unfold gt_jp zjp
  cases ((pc : Int) + off) <;> rfl
theorem zite {c d : Prop} {ic : Decidable c} {id : Decidable d} (h : c ↔ d) {α : Type} (a b : α) : (if c then a else b) = (if d then a else b) := by
  by_cases hc : c
  · rw [if_pos hc, if_pos (h.mp hc)]
  · rw [if_neg hc, if_neg (fun q => hc (h.mpr q))]
theorem zbind_ite {c : Prop} {ic : Decidable c} {α β : Type} (a b : Option α) (g : α → Option β) : (if c then a else b).bind g = if c then a.bind g else b.bind g := by
  by_cases h : c
  · rw [if_pos h, if_pos h]
  · rw [if_neg h, if_neg h]
theorem zbr_eq (c : Jvm.ClassFile.Cond) (x y : Int) (t f : Option gt_F) (g : gt_F → zR) : (gt_br c (nZ x) (nZ y) t f).bind g = zbr c (w32 x) (w32 y) (t.bind g) (f.bind g) := by
  unfold gt_br zbr
  cases c <;> dsimp only <;> rw [zbind_ite] <;> first | exact zite nZ_eq _ _ | exact zite nZ_lt _ _
theorem zbr_eq0 (c : Jvm.ClassFile.Cond) (x : Int) (t f : Option gt_F) (g : gt_F → zR) : (gt_br c (nZ x) 0 t f).bind g = zbr c (w32 x) 0 (t.bind g) (f.bind g) := by
  rw [nZ_0, zbr_eq, w32_of (x := 0) (by decide) (by decide)]
theorem zts_eq (x d : Int) (k : Int → Option gt_F) (g : gt_F → zR) : ∀ (offs : List Int) (lo : Int), (gt_ts (nZ x) d k lo offs).bind g = zts x d (fun o => (k o).bind g) lo offs
  | [], _ => rfl
  | o :: t, lo => by
    unfold gt_ts zts
    rw [zbind_ite, zts_eq x d k g t (lo + 1)]
    exact zite (nZ_eq (y := lo)) _ _
theorem zlsw_eq (x d : Int) (k : Int → Option gt_F) (g : gt_F → zR) : ∀ (ps : List (Int × Int)), (gt_lsw (nZ x) d k ps).bind g = zlsw x d (fun o => (k o).bind g) ps
  | [] => rfl
  | q :: t => by
    unfold gt_lsw zlsw
    rw [zbind_ite, zlsw_eq x d k g t]
    exact zite (nZ_eq (y := q.1)) _ _
theorem zlk_eq : ∀ (lv : zL) (i : Nat), gt_lk (lv.map zm) i = (gt_lk lv i).map zv
  | [], _ => rfl
  | q :: t, i => by
    rw [List.map_cons]
    unfold gt_lk
    rw [zlk_eq t i]
    show (bif Nat.beq q.1 i then some (zv q.2) else _) = _
    cases Nat.beq q.1 i <;> rfl
theorem zldi_eq (lv : zL) (i : Nat) (k : Int32 → Option gt_F) (g : gt_F → zR) : (gt_ldi (lv.map zm) i k).bind g = zldi lv i (fun x => (k (nZ x)).bind g) := by
  unfold gt_ldi zldi
  rw [zlk_eq]
  rcases gt_lk lv i with _ | x | x | _ | a <;> rfl
theorem zldl_eq (lv : zL) (i : Nat) (k : Int64 → Option gt_F) (g : gt_F → zR) : (gt_ldl (lv.map zm) i k).bind g = zldl lv i (fun x => (k (nJ x)).bind g) := by
  unfold gt_ldl zldl
  rw [zlk_eq]
  rcases gt_lk lv i with _ | x | x | _ | a <;> rfl
theorem zlda_eq (lv : zL) (i : Nat) (k : Value → Option gt_F) (g : gt_F → zR) : (gt_lda (lv.map zm) i k).bind g = zlda lv i (fun x => (k (zv x)).bind g) := by
  unfold gt_lda zlda
  rw [zlk_eq]
  rcases gt_lk lv i with _ | x | x | _ | a <;> rfl
theorem zf1_eq (i : Nat) : ∀ lv : zL, gt_f1 i (lv.map zm) = (zf1 i lv).map zm
  | [] => rfl
  | q :: t => by
    rw [List.map_cons]
    unfold gt_f1 zf1
    rw [zf1_eq i t]
    show (bif (Nat.beq q.1 i || (Nat.beq (q.1 + 1) i && Nat.beq (zv q.2).category 2)) then _ else _) = _
    rw [zcat_eq]
    cases (Nat.beq q.1 i || (Nat.beq (q.1 + 1) i && Nat.beq (zcat q.2) 2)) <;> rfl
theorem zf2_eq (i : Nat) : ∀ lv : zL, gt_f2 i (lv.map zm) = (zf2 i lv).map zm
  | [] => rfl
  | q :: t => by
    rw [List.map_cons]
    unfold gt_f2 zf2
    rw [zf2_eq i t]
    show (bif (Nat.beq q.1 i || (Nat.beq q.1 (i + 1) || (Nat.beq (q.1 + 1) i && Nat.beq (zv q.2).category 2))) then _ else _) = _
    rw [zcat_eq]
    cases (Nat.beq q.1 i || (Nat.beq q.1 (i + 1) || (Nat.beq (q.1 + 1) i && Nat.beq (zcat q.2) 2))) <;> rfl
theorem zs1_eq (i : Nat) (v : zV) (lv : zL) : gt_set1 i (zv v) (lv.map zm) = (zs1 i v lv).map zm := by
  unfold gt_set1 zs1
  rw [zf1_eq, List.map_cons]
  rfl
theorem zs2_eq (i : Nat) (v : zV) (lv : zL) : gt_set2 i (zv v) (lv.map zm) = (zs2 i v lv).map zm := by
  unfold gt_set2 zs2
  rw [zf2_eq, List.map_cons]
  rfl
theorem zclamp (i : Int) : (nZ i).toNatClampNeg = (w32 i).toNat := by rw [← nZ_toInt]; rfl
theorem zx_iff (n : Nat) (i : Int) : (nZ i < 0 ∨ n ≤ (nZ i).toNatClampNeg) ↔ ¬ (0 ≤ w32 i ∧ w32 i < n) := by
  rw [nZ_lt0, zclamp]
  omega
theorem zx_eq {α : Type} (n : Nat) (i : Int) (o : Option α) (h : α → zR) : (if nZ i < 0 ∨ n ≤ (nZ i).toNatClampNeg then none else o).bind h = zx n i (o.bind h) := by
  unfold zx
  by_cases hc : 0 ≤ w32 i ∧ w32 i < n
  · rw [if_pos hc, if_neg (fun q => (zx_iff n i).mp q hc)]
  · rw [if_neg hc, if_pos ((zx_iff n i).mpr hc)]
    rfl
theorem zldI_eq (ks : gt_KS) (σ : gt_S) (a : Nat) (i : Int) (k : Int32 → Option gt_F) (g : gt_F → zR) : ((gt_ldI ks σ a (nZ i)).bind k).bind g = zldI ks σ a i (fun v => (k (nZ v)).bind g) := by
  unfold gt_ldI zldI
  rw [Option.bind_assoc]
  generalize gt_kd ks σ.2.2.2 a = o
  rcases o with _ | ⟨⟨ty, n, rs⟩ | q⟩
  · rfl
  · cases ty <;> first | rfl | (dsimp only; rw [zx_eq, zclamp]; simp only [zi, nZ_of, Option.bind_some])
  · rfl
theorem zldZ_eq (ks : gt_KS) (σ : gt_S) (a : Nat) (i : Int) (k : Int32 → Option gt_F) (g : gt_F → zR) : ((gt_ldZ ks σ a (nZ i)).bind k).bind g = zldZ ks σ a i (fun v => (k (nZ v)).bind g) := by
  unfold gt_ldZ zldZ
  rw [Option.bind_assoc]
  generalize gt_kd ks σ.2.2.2 a = o
  rcases o with _ | ⟨⟨ty, n, rs⟩ | q⟩
  · rfl
  · cases ty <;> first | rfl | (dsimp only; rw [zx_eq, zclamp]; simp only [zi, nZ_of, Option.bind_some])
  · rfl
theorem zldL_eq (ks : gt_KS) (σ : gt_S) (a : Nat) (i : Int) (k : Int64 → Option gt_F) (g : gt_F → zR) : ((gt_ldL ks σ a (nZ i)).bind k).bind g = zldL ks σ a i (fun v => (k (nJ v)).bind g) := by
  unfold gt_ldL zldL
  rw [Option.bind_assoc]
  generalize gt_kd ks σ.2.2.2 a = o
  rcases o with _ | ⟨⟨ty, n, rs⟩ | q⟩
  · rfl
  · cases ty <;> first | rfl | (dsimp only; rw [zx_eq, zclamp]; simp only [zj, nJ_of, Option.bind_some])
  · rfl
theorem zldR_eq (ks : gt_KS) (σ : gt_S) (a : Nat) (i : Int) (kr : Nat → Option gt_F) (kn : Option gt_F) (g : gt_F → zR) : (match gt_ldR ks σ a (nZ i) with
    | some (some v) => kr v
    | some none => kn
    | none => none).bind g = zldR ks σ a i (fun v => (kr v).bind g) (kn.bind g) := by
  unfold gt_ldR zldR
  generalize gt_kd ks σ.2.2.2 a = o
  rcases o with _ | ⟨⟨ty, n, rs⟩ | q⟩
  · rfl
  · dsimp only
    by_cases hT : gt_isT ty = true
    · rw [if_pos hT, if_pos hT]
      unfold zx
      rw [← zclamp]
      by_cases hc : 0 ≤ w32 i ∧ w32 i < n
      · rw [if_pos hc, if_neg (fun q => (zx_iff n i).mp q hc)]
        cases gt_rf rs σ a (nZ i).toNatClampNeg <;> rfl
      · rw [if_neg hc, if_pos ((zx_iff n i).mpr hc)]
        rfl
    · rw [if_neg hT, if_neg hT]
      rfl
  · rfl
theorem zstI_eq (ks : gt_KS) (σ : gt_S) (a : Nat) (i v : Int) (k : gt_S → Option gt_F) (g : gt_F → zR) : ((gt_stI ks σ a (nZ i) (nZ v)).bind k).bind g = zstI ks σ a i v (fun σ' => (k σ').bind g) := by
  unfold gt_stI zstI
  rw [Option.bind_assoc]
  generalize gt_kd ks σ.2.2.2 a = o
  rcases o with _ | ⟨⟨ty, n, rs⟩ | q⟩
  · rfl
  · cases ty <;> first | rfl | (dsimp only; rw [zx_eq, zclamp]; simp only [zu, Option.bind_some])
  · rfl
theorem zstZ_eq (ks : gt_KS) (σ : gt_S) (a : Nat) (i v : Int) (k : gt_S → Option gt_F) (g : gt_F → zR) : ((gt_stZ ks σ a (nZ i) (nZ v)).bind k).bind g = zstZ ks σ a i v (fun σ' => (k σ').bind g) := by
  unfold gt_stZ zstZ
  rw [Option.bind_assoc]
  generalize gt_kd ks σ.2.2.2 a = o
  rcases o with _ | ⟨⟨ty, n, rs⟩ | q⟩
  · rfl
  · cases ty <;> first | rfl | (dsimp only; rw [zx_eq, zclamp]; simp only [zb, Option.bind_some])
  · rfl
theorem zstL_eq (ks : gt_KS) (σ : gt_S) (a : Nat) (i v : Int) (k : gt_S → Option gt_F) (g : gt_F → zR) : ((gt_stL ks σ a (nZ i) (nJ v)).bind k).bind g = zstL ks σ a i v (fun σ' => (k σ').bind g) := by
  unfold gt_stL zstL
  rw [Option.bind_assoc]
  generalize gt_kd ks σ.2.2.2 a = o
  rcases o with _ | ⟨⟨ty, n, rs⟩ | q⟩
  · rfl
  · cases ty <;> first | rfl | (dsimp only; rw [zx_eq, zclamp]; simp only [zw, Option.bind_some])
  · rfl
theorem zstR_eq (ks : gt_KS) (σ : gt_S) (a : Nat) (i : Int) (v : Option Nat) (k : gt_S → Option gt_F) (g : gt_F → zR) : ((gt_stR ks σ a (nZ i) v).bind k).bind g = zstR ks σ a i v (fun σ' => (k σ').bind g) := by
  unfold gt_stR zstR
  rw [Option.bind_assoc]
  generalize gt_kd ks σ.2.2.2 a = o
  rcases o with _ | ⟨⟨ty, n, rs⟩ | q⟩
  · rfl
  · cases ty with
    | object C =>
      cases rs with
      | nil =>
        dsimp only
        by_cases hC : C = "GiftTable$Text"
        · rw [if_pos hC, if_pos hC, zx_eq, zclamp]
          congr 1
          cases v with
          | none => rfl
          | some t =>
            dsimp only
            generalize gt_kd ks σ.2.2.2 t = o2
            rcases o2 with _ | ⟨q2 | ⟨ci, sl⟩⟩
            · rfl
            · rfl
            · dsimp only
              rw [zbind_ite]
              rfl
        · rw [if_neg hC, if_neg hC]
          rfl
      | cons r rs => rfl
    | _ => rfl
  · rfl
theorem zln_eq (ks : gt_KS) (σ : gt_S) (a : Nat) (k : Nat → Option gt_F) (g : gt_F → zR) : ((gt_ln ks σ a).bind k).bind g = zln ks σ a (fun n => (k n).bind g) := by
  unfold gt_ln zln
  generalize gt_kd ks σ.2.2.2 a = o
  rcases o with _ | ⟨⟨ty, n, rs⟩ | q⟩
  · rfl
  · dsimp only
    rw [zbind_ite, zbind_ite]
    rfl
  · rfl
theorem zgf_eq (ks : gt_KS) (σ : gt_S) (a ci k : Nat) (κ : Value → Option gt_F) (g : gt_F → zR) : ((gt_gf ks σ a ci k).bind κ).bind g = zgf ks σ a ci k (fun v => (κ (zv v)).bind g) := by
  unfold gt_gf zgf
  generalize gt_kd ks σ.2.2.2 a = o
  rcases o with _ | ⟨q | ⟨c, sl⟩⟩
  · rfl
  · rfl
  · dsimp only
    rw [zbind_ite, zbind_ite]
    by_cases hc : c = ci
    · rw [if_pos hc, if_pos hc]
      rcases sl[k]? with _ | _ | _ | r
      · rfl
      · show (κ (.int (σ.1 a k))).bind g = (κ (.int (nZ (σ.1 a ((k : Int)).toNat).toInt))).bind g
        rw [nZ_of, Int.toNat_natCast]
      · show (κ (.long (σ.2.1 a k))).bind g = (κ (.long (nJ (σ.2.1 a ((k : Int)).toNat).toInt))).bind g
        rw [nJ_of, Int.toNat_natCast]
      · unfold gt_sv zsv
        dsimp only
        by_cases h : r = 999999
        · rw [if_pos h, if_pos h]
          rfl
        · rw [if_neg h, if_neg h]
          rfl
    · rw [if_neg hc, if_neg hc]
      rfl
theorem zpI_eq (ks : gt_KS) (σ : gt_S) (a ci k t : Nat) (x : Int) (κ : gt_S → Option gt_F) (g : gt_F → zR) : ((gt_pfI ks σ a ci k t (nZ x)).bind κ).bind g = zpI ks σ a ci k t x (fun σ' => (κ σ').bind g) := by
  unfold gt_pfI zpI
  generalize gt_kd ks σ.2.2.2 a = o
  rcases o with _ | ⟨q | ⟨c, sl⟩⟩
  · rfl
  · rfl
  · dsimp only
    rw [zbind_ite, zbind_ite]
    by_cases hc : c = ci
    · rw [if_pos hc, if_pos hc]
      rcases sl[k]? with _ | _ | r
      · rfl
      · dsimp only
        have hi : (t = 1 ∨ (t = 2 ∧ (nZ x = 0 ∨ nZ x = 1))) ↔ (t = 1 ∨ (t = 2 ∧ (w32 x = 0 ∨ w32 x = 1))) := by
          rw [nZ_eq0, nZ_eq1]
        rw [zbind_ite, zbind_ite]
        unfold zu
        rw [Int.toNat_natCast]
        exact zite hi _ _
      · rfl
    · rw [if_neg hc, if_neg hc]
      rfl
theorem zpL_eq (ks : gt_KS) (σ : gt_S) (a ci k t : Nat) (x : Int) (κ : gt_S → Option gt_F) (g : gt_F → zR) : ((gt_pfL ks σ a ci k t (nJ x)).bind κ).bind g = zpL ks σ a ci k t x (fun σ' => (κ σ').bind g) := by
  unfold gt_pfL zpL
  generalize gt_kd ks σ.2.2.2 a = o
  rcases o with _ | ⟨q | ⟨c, sl⟩⟩
  · rfl
  · rfl
  · dsimp only
    rw [zbind_ite, zbind_ite]
    by_cases hc : c = ci
    · rw [if_pos hc, if_pos hc]
      rcases sl[k]? with _ | _ | _ | r
      · rfl
      · rfl
      · dsimp only
        rw [zbind_ite, zbind_ite]
        unfold zw
        rw [Int.toNat_natCast]
        rfl
      · rfl
    · rw [if_neg hc, if_neg hc]
      rfl
theorem zcr_eq (rk : Nat) (o : zR) (rest : List zV) (k : List Value → gt_S → Option gt_F) (g : gt_F → zR) : (gt_cr rk o (rest.map zv) k).bind g = zcr rk o rest (fun st σ => (k (st.map zv) σ).bind g) := by
  unfold gt_cr zcr
  rcases rk with _ | _ | _ | rk
  · rcases o with _ | ⟨_ | v, σ⟩ <;> rfl
  · rcases o with _ | ⟨_ | v, σ⟩
    · rfl
    · rfl
    · cases v with
      | int v => show (k (.int v :: rest.map zv) σ).bind g = (k (.int (nZ v.toInt) :: rest.map zv) σ).bind g; rw [nZ_of]
      | _ => rfl
  · rcases o with _ | ⟨_ | v, σ⟩
    · rfl
    · rfl
    · cases v with
      | long v => show (k (.long v :: rest.map zv) σ).bind g = (k (.long (nJ v.toInt) :: rest.map zv) σ).bind g; rw [nJ_of]
      | _ => rfl
  · rcases o with _ | ⟨_ | v, σ⟩
    · rfl
    · rfl
    · cases v <;> rfl
theorem zinv_eq (E : gt_E) (kd idx pc : Nat) (lv : zL) (st : List zV) (σ : gt_S) (κ : gt_C) (g : gt_F → zR) : (gt_inv E kd idx pc (lv.map zm) (st.map zv) σ κ).bind g = zinv E kd idx pc lv st σ (fun pc lv st σ => (κ pc (lv.map zm) (st.map zv) σ).bind g) := by
  unfold gt_inv zinv
  generalize gt_lk E.2.2.2.1 idx = o
  cases o with
  | none => rfl
  | some q =>
    dsimp only
    have hc : ((List.drop q.2.2.1 (st.map zv)).map fun v => v.category) = (st.drop q.2.2.1).map zcat := by
      rw [← List.map_drop, List.map_map]
      apply List.map_congr_left
      intro v _
      exact zcat_eq v
    rw [zbind_ite, hc, List.length_map, ← List.map_take, ← List.map_reverse, ← List.map_drop, zcr_eq]
    rfl