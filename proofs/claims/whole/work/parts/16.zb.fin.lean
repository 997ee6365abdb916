theorem zop_eq (i : Instr) (ks : gt_KS) (nL : Nat) (E : gt_E) (pc : Nat) (lv : zL) (st : List zV) (σ : gt_S) (κ : gt_C) (g : gt_F → zR) : (gt_op i ks nL E pc (lv.map zm) (st.map zv) σ κ).bind g = zop i ks nL E pc lv st σ (fun pc lv st σ => (κ pc (lv.map zm) (st.map zv) σ).bind g) := by
  cases i with
  | iconst n => rfl
  | bipush n =>
    show (κ (pc + 2) (lv.map zm) (.int (Int8.ofInt n).toInt32 :: st.map zv) σ).bind g = (κ (pc + 2) (lv.map zm) (.int (nZ (n.bmod 256)) :: st.map zv) σ).bind g
    rw [show (Int8.ofInt n).toInt32 = nZ (n.bmod 256) by
      rw [← nZ_of (Int8.ofInt n).toInt32, Int8.toInt_toInt32, Int8.toInt_ofInt]]
  | sipush n =>
    show (κ (pc + 3) (lv.map zm) (.int (Int16.ofInt n).toInt32 :: st.map zv) σ).bind g = (κ (pc + 3) (lv.map zm) (.int (nZ (n.bmod 65536)) :: st.map zv) σ).bind g
    rw [show (Int16.ofInt n).toInt32 = nZ (n.bmod 65536) by
      rw [← nZ_of (Int16.ofInt n).toInt32, Int16.toInt_toInt32, Int16.toInt_ofInt]]
  | lconst n => rfl
  | aconst_null => rfl
  | ldc_w i =>
    show ((gt_lk E.2.1 i).bind _).bind g = (gt_lk E.2.1 i).bind _
    rw [Option.bind_assoc]
    congr 1
    funext v
    show (κ (pc + 3) (lv.map zm) (.int v :: st.map zv) σ).bind g = (κ (pc + 3) (lv.map zm) (.int (nZ v.toInt) :: st.map zv) σ).bind g
    rw [nZ_of]
  | ldc i =>
    show ((gt_lk E.2.1 i).bind _).bind g = (gt_lk E.2.1 i).bind _
    rw [Option.bind_assoc]
    congr 1
    funext v
    show (κ (pc + 2) (lv.map zm) (.int v :: st.map zv) σ).bind g = (κ (pc + 2) (lv.map zm) (.int (nZ v.toInt) :: st.map zv) σ).bind g
    rw [nZ_of]
  | ldc2_w i =>
    show ((gt_lk E.2.2.1 i).bind _).bind g = (gt_lk E.2.2.1 i).bind _
    rw [Option.bind_assoc]
    congr 1
    funext v
    show (κ (pc + 3) (lv.map zm) (.long v :: st.map zv) σ).bind g = (κ (pc + 3) (lv.map zm) (.long (nJ v.toInt) :: st.map zv) σ).bind g
    rw [nJ_of]
  | iload_n k => exact zldi_eq _ _ _ _
  | iload k => exact zldi_eq _ _ _ _
  | lload_n k => exact zldl_eq _ _ _ _
  | lload k => exact zldl_eq _ _ _ _
  | aload_n k => exact zlda_eq lv k.1 (fun x => κ (pc + 1) (lv.map zm) (x :: st.map zv) σ) g
  | aload k => exact zlda_eq lv k (fun x => κ (pc + 2) (lv.map zm) (x :: st.map zv) σ) g
  | istore_n k =>
    refine (zi1_eq _ _ _).trans ?_
    show zi1 st _ = zi1 st _
    congr 1
    funext x r
    rw [zbind_ite, show (Value.int (nZ x)) = zv (.inl x) from rfl, zs1_eq]
    rfl
  | istore k =>
    refine (zi1_eq _ _ _).trans ?_
    show zi1 st _ = zi1 st _
    congr 1
    funext x r
    rw [zbind_ite, show (Value.int (nZ x)) = zv (.inl x) from rfl, zs1_eq]
    rfl
  | lstore_n k =>
    refine (zl1_eq _ _ _).trans ?_
    show zl1 st _ = zl1 st _
    congr 1
    funext x r
    rw [zbind_ite, show (Value.long (nJ x)) = zv (.inr (.inl x)) from rfl, zs2_eq]
    rfl
  | lstore k =>
    refine (zl1_eq _ _ _).trans ?_
    show zl1 st _ = zl1 st _
    congr 1
    funext x r
    rw [zbind_ite, show (Value.long (nJ x)) = zv (.inr (.inl x)) from rfl, zs2_eq]
    rfl
  | astore_n k =>
    refine (za1_eq _ _ _).trans ?_
    show za1 st _ = za1 st _
    congr 1
    funext x r
    rw [zbind_ite, show (Value.ref x) = zv (.inr (.inr (some x))) from rfl, zs1_eq]
    rfl
  | astore k =>
    refine (za1_eq _ _ _).trans ?_
    show za1 st _ = za1 st _
    congr 1
    funext x r
    rw [zbind_ite, show (Value.ref x) = zv (.inr (.inr (some x))) from rfl, zs1_eq]
    rfl
  | iinc i n =>
    refine (zldi_eq _ _ _ _).trans ?_
    show zldi lv i _ = zldi lv i _
    congr 1
    funext x
    rw [zbind_ite, show (Value.int (nZ x + Int32.ofInt n)) = zv (.inl (x + n)) from congrArg Value.int (nZ_add x n).symm, zs1_eq]
    rfl
  | iadd => refine (zi2_eq _ _ _).trans ?_; show zi2 st _ = zi2 st _; congr 1; funext x y r; rw [← nZ_add]; rfl
  | isub => refine (zi2_eq _ _ _).trans ?_; show zi2 st _ = zi2 st _; congr 1; funext x y r; rw [← nZ_sub]; rfl
  | imul => refine (zi2_eq _ _ _).trans ?_; show zi2 st _ = zi2 st _; congr 1; funext x y r; rw [← nZ_mul]; rfl
  | iand => refine (zi2_eq _ _ _).trans ?_; show zi2 st _ = zi2 st _; congr 1; funext x y r; rw [← nZ_of (nZ x &&& nZ y)]; rfl
  | ior => refine (zi2_eq _ _ _).trans ?_; show zi2 st _ = zi2 st _; congr 1; funext x y r; rw [← nZ_of (nZ x ||| nZ y)]; rfl
  | idiv => refine (zi2_eq _ _ _).trans ?_; show zi2 st _ = zi2 st _; congr 1; funext x y r; rw [zbind_ite, ← nZ_div, zite nZ_eq0]; rfl
  | irem => refine (zi2_eq _ _ _).trans ?_; show zi2 st _ = zi2 st _; congr 1; funext x y r; rw [zbind_ite, ← nZ_rem, zite nZ_eq0]; rfl
  | ineg => refine (zi1_eq _ _ _).trans ?_; show zi1 st _ = zi1 st _; congr 1; funext x r; rw [← nZ_neg]; rfl
  | ishl => refine (zi2_eq _ _ _).trans ?_; show zi2 st _ = zi2 st _; congr 1; funext x y r; rw [← nZ_of (nZ x <<< (nZ y &&& 31))]; rfl
  | ishr => refine (zi2_eq _ _ _).trans ?_; show zi2 st _ = zi2 st _; congr 1; funext x y r; rw [← nZ_of (nZ x >>> (nZ y &&& 31))]; rfl
  | ladd => refine (zl2_eq _ _ _).trans ?_; show zl2 st _ = zl2 st _; congr 1; funext x y r; rw [← nJ_add]; rfl
  | lsub => refine (zl2_eq _ _ _).trans ?_; show zl2 st _ = zl2 st _; congr 1; funext x y r; rw [← nJ_sub]; rfl
  | lmul => refine (zl2_eq _ _ _).trans ?_; show zl2 st _ = zl2 st _; congr 1; funext x y r; rw [← nJ_mul]; rfl
  | land => refine (zl2_eq _ _ _).trans ?_; show zl2 st _ = zl2 st _; congr 1; funext x y r; rw [← nJ_of (nJ x &&& nJ y)]; rfl
  | lor => refine (zl2_eq _ _ _).trans ?_; show zl2 st _ = zl2 st _; congr 1; funext x y r; rw [← nJ_of (nJ x ||| nJ y)]; rfl
  | ldiv => refine (zl2_eq _ _ _).trans ?_; show zl2 st _ = zl2 st _; congr 1; funext x y r; rw [zbind_ite, ← nJ_div, zite nJ_eq0]; rfl
  | lrem => refine (zl2_eq _ _ _).trans ?_; show zl2 st _ = zl2 st _; congr 1; funext x y r; rw [zbind_ite, ← nJ_rem, zite nJ_eq0]; rfl
  | lshl => refine (zli_eq _ _ _).trans ?_; show zli st _ = zli st _; congr 1; funext x y r; rw [← nJ_of (nJ x <<< ((nZ y).toInt64 &&& 63))]; rfl
  | lshr => refine (zli_eq _ _ _).trans ?_; show zli st _ = zli st _; congr 1; funext x y r; rw [← nJ_of (nJ x >>> ((nZ y).toInt64 &&& 63))]; rfl
  | i2l => refine (zi1_eq _ _ _).trans ?_; show zi1 st _ = zi1 st _; congr 1; funext x r; rw [← nJ_of (nZ x).toInt64, Int32.toInt_toInt64, nZ_toInt]; rfl
  | l2i => refine (zl1_eq _ _ _).trans ?_; show zl1 st _ = zl1 st _; congr 1; funext x r; rw [show (nJ x).toInt32 = nZ x from Int64.toInt32_ofInt]; rfl
  | lcmp => refine (zl2_eq _ _ _).trans ?_; show zl2 st _ = zl2 st _; congr 1; funext x y r; rw [← zcmp_eq]; rfl
  | dup =>
    rcases st with _ | ⟨v, r⟩
    · rfl
    · show (if (zv v).category = 1 then _ else none).bind g = if zcat v = 1 then _ else none
      rw [zbind_ite, zcat_eq]
      rfl
  | dup2 =>
    rcases st with _ | ⟨v, _ | ⟨w, r⟩⟩
    · rfl
    · rfl
    · show (if (zv v).category = 1 ∧ (zv w).category = 1 then _ else none).bind g = if zcat v = 1 ∧ zcat w = 1 then _ else none
      rw [zbind_ite, zcat_eq, zcat_eq]
      rfl
  | pop =>
    rcases st with _ | ⟨v, r⟩
    · rfl
    · show (if (zv v).category = 1 then _ else none).bind g = if zcat v = 1 then _ else none
      rw [zbind_ite, zcat_eq]
      rfl
  | goto off => exact zjp_eq _ _ _ _
  | ifCond c off => refine (zi1_eq _ _ _).trans ?_; show zi1 st _ = zi1 st _; congr 1; funext x r; rw [zjp_eq]; congr 1; funext t; exact zbr_eq0 _ _ _ _ _
  | if_icmp c off => refine (zi2_eq _ _ _).trans ?_; show zi2 st _ = zi2 st _; congr 1; funext x y r; rw [zjp_eq]; congr 1; funext t; exact zbr_eq _ _ _ _ _ _
  | ifnull off => rcases st with _ | ⟨x | x | _ | a, r⟩ <;> first | rfl | exact zjp_eq _ _ _ _
  | ifnonnull off => rcases st with _ | ⟨x | x | _ | a, r⟩ <;> first | rfl | exact zjp_eq _ _ _ _
  | tableswitch d lo hi offs =>
    refine (zi1_eq _ _ _).trans ?_
    show zi1 st _ = zi1 st _
    congr 1
    funext x r
    rw [zbind_ite, zts_eq]
    simp only [zjp_eq, Option.bind_none]
  | lookupswitch d ps =>
    refine (zi1_eq _ _ _).trans ?_
    show zi1 st _ = zi1 st _
    congr 1
    funext x r
    rw [zbind_ite, zlsw_eq]
    simp only [zjp_eq, Option.bind_none]
  | getfield i =>
    refine (za1_eq _ _ _).trans ?_
    show za1 st _ = za1 st _
    congr 1
    funext a r
    rw [Option.bind_assoc]
    congr 1
    funext f
    exact zgf_eq _ _ _ _ _ _ _
  | putfield i =>
    rcases st with _ | ⟨x | x | _ | a, _ | ⟨y | y | _ | b, r⟩⟩ <;> first | rfl | (show ((gt_lk E.1 i).bind _).bind g = (gt_lk E.1 i).bind _; rw [Option.bind_assoc]; congr 1; funext f; first | exact zpI_eq _ _ _ _ _ _ _ _ _ | exact zpL_eq _ _ _ _ _ _ _ _ _)
  | iaload => refine (zai_eq _ _ _).trans ?_; show zai st _ = zai st _; congr 1; funext a i r; exact zldI_eq _ _ _ _ _ _
  | baload => refine (zai_eq _ _ _).trans ?_; show zai st _ = zai st _; congr 1; funext a i r; exact zldZ_eq _ _ _ _ _ _
  | laload => refine (zai_eq _ _ _).trans ?_; show zai st _ = zai st _; congr 1; funext a i r; exact zldL_eq _ _ _ _ _ _
  | aaload => refine (zai_eq _ _ _).trans ?_; show zai st _ = zai st _; congr 1; funext a i r; exact zldR_eq _ _ _ _ _ _ _
  | iastore => refine (zaii_eq _ _ _).trans ?_; show zaii st _ = zaii st _; congr 1; funext a i x r; exact zstI_eq _ _ _ _ _ _ _
  | bastore => refine (zaii_eq _ _ _).trans ?_; show zaii st _ = zaii st _; congr 1; funext a i x r; exact zstZ_eq _ _ _ _ _ _ _
  | lastore => refine (zail_eq _ _ _).trans ?_; show zail st _ = zail st _; congr 1; funext a i x r; exact zstL_eq _ _ _ _ _ _ _
  | aastore => refine (zaiq_eq st (fun a i x r => (gt_stR ks σ a i x).bind fun σ' => κ (pc + 1) (lv.map zm) r σ') g).trans ?_; show zaiq st _ = zaiq st _; congr 1; funext a i x r; exact zstR_eq _ _ _ _ _ _ _
  | arraylength => refine (za1_eq _ _ _).trans ?_; show za1 st _ = za1 st _; congr 1; funext a r; exact zln_eq _ _ _ _ _
  | invokevirtual i => exact zinv_eq _ _ _ _ _ _ _ _ _
  | invokestatic i => exact zinv_eq _ _ _ _ _ _ _ _ _
  | invokespecial i => exact zinv_eq _ _ _ _ _ _ _ _ _
  | _ => rfl
def znr : List Nat → zL → zL
  | [], _ => []
  | i :: t, lv => match gt_lk lv i with
    | some v => (i, v) :: znr t lv
    | none => znr t lv
theorem znr_eq : ∀ (ix : List Nat) (lv : zL), gt_nr ix (lv.map zm) = (znr ix lv).map zm
  | [], _ => rfl
  | i :: t, lv => by
    unfold gt_nr znr
    rw [zlk_eq, znr_eq t lv]
    cases gt_lk lv i <;> rfl
def zbx (ks : gt_KS) (nL : Nat) (E : gt_E) (sp : List (Nat × List Nat)) : Nat → List gt_I → zL → List zV → gt_S → zC → zR
  | 0, _, _, _, _, _ => none
  | n + 1, cs, lv, st, σ, κ => match cs with
    | [] => none
    | q :: t => zop q.2.1 ks nL E q.1 lv st σ (fun pc lv st σ => match gt_lk sp pc with
      | some ix => κ pc (znr ix lv) st σ
      | none => zbx ks nL E sp n (gt_sk pc t) lv st σ κ)
theorem zbx_eq {ks : gt_KS} {nL : Nat} {E : gt_E} {sp : List (Nat × List Nat)} (hE : E.2.2.2.2 = []) (g : gt_F → zR) : ∀ (n : Nat) (cs : List gt_I) (lv : zL) (st : List zV) (σ : gt_S), (gt_bx ks nL E sp n cs (lv.map zm) (st.map zv) σ).bind g = zbx ks nL E sp n cs lv st σ (fun pc lv st σ => g (pc, lv.map zm, st.map zv, σ))
  | 0, _, _, _, _ => rfl
  | n + 1, [], _, _, _ => rfl
  | n + 1, q :: t, lv, st, σ => by
    unfold gt_bx zbx
    dsimp only
    unfold gt_st1
    rw [hE]
    dsimp only [gt_lk]
    unfold gt_stp
    rw [zop_eq]
    congr 1
    funext pc lv st σ
    cases gt_lk sp pc with
    | none => exact zbx_eq hE g n (gt_sk pc t) lv st σ
    | some ix =>
      show g (pc, gt_nr ix (lv.map zm), st.map zv, σ) = g (pc, (znr ix lv).map zm, st.map zv, σ)
      rw [znr_eq]
/-! where a run ends, as a function of where it stands -/
def gt_rfin (ks : gt_KS) (Y : gt_Y) (a : gt_F) (o : Option Value × gt_S) : Prop := ∃ b : gt_F, gt_R ks Y.1 Y.2.1 Y.2.2.1 Y.2.2.2.1 a b ∧ b.2.2.2 = o.2 ∧ gt_ro Y.2.2.2.2.1 Y.2.2.2.2.2.1 b o.1
noncomputable def gt_fin (ks : gt_KS) (Y : gt_Y) (a : gt_F) : zR := @dite zR (∃ o, gt_rfin ks Y a o) (Classical.propDecidable _) (fun h => some h.choose) (fun _ => none)
theorem gt_fin_s {ks : gt_KS} {Y : gt_Y} {a : gt_F} {o : Option Value × gt_S} (h : gt_fin ks Y a = some o) : gt_rfin ks Y a o := by
  unfold gt_fin at h
  split at h
  · rename_i hx
    cases h
    exact hx.choose_spec
  · cases h
theorem gt_fin_i {ks : gt_KS} {Y : gt_Y} (hd : gt_dok Y.2.2.2.2.1 Y.2.2.2.1) (hE : Y.2.1.2.2.2.2 = []) {a : gt_F} {o : Option Value × gt_S} (h : gt_rfin ks Y a o) : gt_fin ks Y a = some o := by
  unfold gt_fin
  split
  · rename_i hx
    have h2 := hx.choose_spec
    obtain ⟨b, ⟨n, hb⟩, h3, h4⟩ := h
    obtain ⟨b', ⟨n', hb'⟩, h3', h4'⟩ := h2
    have e := gt_uni (a := b) hd (gt_nsp0 hE) h4 h4' n n' _ hb hb'
    subst e
    congr 1
    have e1 : hx.choose.1 = o.1 := by
      have := h4.1.symm.trans h4'.1
      cases h9 : o.1 <;> cases h8 : hx.choose.1 <;> rw [h9, h8] at this <;> simp at this
      rw [this]
    exact Prod.ext e1 (h3'.symm.trans h3)
  · rename_i hx
    exact absurd ⟨o, h⟩ hx
theorem gt_fin_ext {ks : gt_KS} {Y : gt_Y} (hd : gt_dok Y.2.2.2.2.1 Y.2.2.2.1) (hE : Y.2.1.2.2.2.2 = []) {a : gt_F} {r : zR} (h : ∀ o, gt_rfin ks Y a o ↔ r = some o) : gt_fin ks Y a = r := by
  cases r with
  | none =>
    cases hf : gt_fin ks Y a with
    | none => rfl
    | some o => exact absurd ((h o).mp (gt_fin_s hf)) (by simp)
  | some o => exact gt_fin_i hd hE ((h o).mpr rfl)
/-- a step, where no return stands -/
theorem gt_fin_st {ks : gt_KS} {Y : gt_Y} (hd : gt_dok Y.2.2.2.2.1 Y.2.2.2.1) (hE : Y.2.1.2.2.2.2 = []) {a : gt_F} {q : gt_I} {t : List gt_I} (hq : gt_sk a.1 Y.2.2.2.1 = q :: t) (hn : gt_isR q.2.1 = false) : gt_fin ks Y a = (gt_bx ks Y.1 Y.2.1 Y.2.2.1 1000 (gt_sk a.1 Y.2.2.2.1) a.2.1 a.2.2.1 a.2.2.2).bind (gt_fin ks Y) := by
  apply gt_fin_ext hd hE
  intro o
  constructor
  · rintro ⟨b, ⟨n, hb⟩, h3, h4⟩
    cases n with
    | zero =>
      exfalso
      cases hb
      obtain ⟨i, h1, h2⟩ := gt_ro_r h4
      have e1 := gt_sk_hd hq
      have e2 := (hd q (gt_sk_sub (pc := a.1) (by rw [hq]; exact List.mem_cons_self))).1
      rw [e1, h1] at e2
      obtain ⟨q1, q2, q3⟩ := q
      dsimp only at e2 hn
      cases e2
      rw [h2] at hn
      cases hn
    | succ n =>
      unfold gt_it at hb
      obtain ⟨x, hx, hb⟩ := Option.bind_eq_some_iff.mp hb
      rw [hx]
      exact gt_fin_i hd hE ⟨b, ⟨n, hb⟩, h3, h4⟩
  · intro h
    obtain ⟨x, hx, h⟩ := Option.bind_eq_some_iff.mp h
    obtain ⟨b, ⟨n, hb⟩, h3, h4⟩ := gt_fin_s h
    refine ⟨b, ⟨n + 1, ?_⟩, h3, h4⟩
    unfold gt_it
    rw [hx]
    exact hb
/-- a return -/
theorem gt_fin_r {ks : gt_KS} {Y : gt_Y} (hd : gt_dok Y.2.2.2.2.1 Y.2.2.2.1) (hE : Y.2.1.2.2.2.2 = []) {a : gt_F} {o : Option Value × gt_S} (h3 : a.2.2.2 = o.2) (h4 : gt_ro Y.2.2.2.2.1 Y.2.2.2.2.2.1 a o.1) : gt_fin ks Y a = some o :=
  gt_fin_i hd hE ⟨a, gt_R_rf a, h3, h4⟩
def zrz (x : Int) (σ : gt_S) : zR := if w32 x = 0 ∨ w32 x = 1 then some (some (.int (nZ x)), σ) else none
/-- what a return gives, by its instruction -/
def zret (i : Instr) (ret : Option FieldType) (st : List zV) (σ : gt_S) : zR := match i, ret, st with
  | .ireturn, some .int, [.inl x] => some (some (.int (nZ x)), σ)
  | .ireturn, some .boolean, [.inl x] => zrz x σ
  | .lreturn, some .long, [.inr (.inl x)] => some (some (.long (nJ x)), σ)
  | .areturn, some (.object _), [.inr (.inr (some a))] => some (some (.ref a), σ)
  | .areturn, some (.object _), [.inr (.inr none)] => some (some .null, σ)
  | .return_, none, [] => some (none, σ)
  | _, _, _ => none
def zend (cs : List gt_I) (ret : Option FieldType) (κ : zC) : zC := fun pc lv st σ => match gt_sk pc cs with
  | [] => κ pc lv st σ
  | q :: _ => bif gt_isR q.2.1 then zret q.2.1 ret st σ else κ pc lv st σ
theorem zret_i {cc : ByteArray} {ret : Option FieldType} {pc : Nat} {lv : gt_L} {st : List zV} {σ : gt_S} {i : Instr} {o : Option Value × gt_S} (hdc : decode cc pc = .ok (i, 1)) (h : zret i ret st σ = some o) : σ = o.2 ∧ gt_ro cc ret (pc, lv, st.map zv, σ) o.1 := by
  unfold zret at h
  split at h
  · cases h; exact ⟨rfl, rfl, hdc, Or.inl rfl⟩
  · unfold zrz at h
    split at h
    · rename_i hx
      cases h
      exact ⟨rfl, rfl, hdc, Or.inr ⟨rfl, by rw [nZ_eq0, nZ_eq1]; exact hx⟩⟩
    · cases h
  · cases h; exact ⟨rfl, rfl, hdc, rfl⟩
  · cases h; exact ⟨rfl, rfl, hdc, _, rfl⟩
  · cases h; exact ⟨rfl, rfl, hdc, _, rfl⟩
  · cases h; exact ⟨rfl, rfl, hdc, rfl⟩
  · cases h
theorem zret_s {cc : ByteArray} {ret : Option FieldType} {pc : Nat} {lv : gt_L} {st : List zV} {σ : gt_S} {i : Instr} {r : Option Value} (hdc : decode cc pc = .ok (i, 1)) (h : gt_ro cc ret (pc, lv, st.map zv, σ) r) : zret i ret st σ = some (r, σ) := by
  obtain ⟨h1, h2⟩ := h
  dsimp only at h1 h2
  cases r with
  | none =>
    obtain ⟨h3, rfl⟩ := h2
    rw [hdc] at h3
    cases h3
    have : st = [] := List.map_eq_nil_iff.mp h1
    subst this
    rfl
  | some v =>
    rcases st with _ | ⟨w, _ | ⟨w2, r2⟩⟩
    · cases h1
    · have h1 : zv w = v := by
        have := h1
        simp only [List.map_cons, List.map_nil, Option.toList_some, List.cons.injEq, and_true] at this
        exact this
      subst h1
      rcases w with x | x | _ | a
      · obtain ⟨h3, h4⟩ := h2
        rw [hdc] at h3
        cases h3
        rcases h4 with rfl | ⟨rfl, h4⟩
        · rfl
        · show zrz x σ = _
          unfold zrz
          rw [nZ_eq0, nZ_eq1] at h4
          rw [if_pos h4]
          rfl
      · obtain ⟨h3, rfl⟩ := h2
        rw [hdc] at h3
        cases h3
        rfl
      · obtain ⟨h3, n, rfl⟩ := h2
        rw [hdc] at h3
        cases h3
        rfl
      · obtain ⟨h3, n, rfl⟩ := h2
        rw [hdc] at h3
        cases h3
        rfl
    · simp at h1
theorem zend_eq {ks : gt_KS} {Y : gt_Y} (hd : gt_dok Y.2.2.2.2.1 Y.2.2.2.1) (hE : Y.2.1.2.2.2.2 = []) (pc : Nat) (lv : zL) (st : List zV) (σ : gt_S) : gt_fin ks Y (pc, lv.map zm, st.map zv, σ) = zend Y.2.2.2.1 Y.2.2.2.2.2.1 (fun pc lv st σ => gt_fin ks Y (pc, lv.map zm, st.map zv, σ)) pc lv st σ := by
  unfold zend
  cases hs : gt_sk pc Y.2.2.2.1 with
  | nil => rfl
  | cons q t =>
    dsimp only
    cases hr : gt_isR q.2.1 with
    | false => rfl
    | true =>
      show _ = zret q.2.1 Y.2.2.2.2.2.1 st σ
      obtain ⟨e2, e3⟩ := hd q (gt_sk_sub (pc := pc) (by rw [hs]; exact List.mem_cons_self))
      have e1 := gt_sk_hd hs
      have e4 : q.2.2 = 1 := by
        obtain ⟨q1, q2, q3⟩ := q
        unfold gt_lok at e3
        dsimp only at e3 hr ⊢
        cases q2 <;> first | (exact Nat.eq_of_beq_eq_true e3) | (cases hr)
      rw [e1, e4] at e2
      apply gt_fin_ext hd hE
      intro o
      constructor
      · rintro ⟨b, ⟨n, hb⟩, h3, h4⟩
        cases n with
        | zero =>
          cases hb
          have := zret_s e2 h4
          rw [this]
          dsimp only at h3
          rw [h3]
        | succ n =>
          exfalso
          unfold gt_it at hb
          obtain ⟨x, hx, hb⟩ := Option.bind_eq_some_iff.mp hb
          rw [hs] at hx
          unfold gt_bx at hx
          dsimp only at hx
          unfold gt_st1 at hx
          rw [hE] at hx
          dsimp only [gt_lk] at hx
          rw [gt_stp_r hr] at hx
          cases hx
      · intro h
        obtain ⟨h1, h2⟩ := zret_i (lv := lv.map zm) e2 h
        exact ⟨_, gt_R_rf _, h1, h2⟩
/-- THE EQUATION of a stop -/
theorem zfin {ks : gt_KS} {Y : gt_Y} (hd : gt_dok Y.2.2.2.2.1 Y.2.2.2.1) (hE : Y.2.1.2.2.2.2 = []) (pc : Nat) (lv : zL) (st : List zV) (σ : gt_S) {q : gt_I} {t : List gt_I} (hq : gt_sk pc Y.2.2.2.1 = q :: t) (hn : gt_isR q.2.1 = false) : gt_fin ks Y (pc, lv.map zm, st.map zv, σ) = zbx ks Y.1 Y.2.1 Y.2.2.1 1000 (q :: t) lv st σ (zend Y.2.2.2.1 Y.2.2.2.2.2.1 (fun pc lv st σ => gt_fin ks Y (pc, lv.map zm, st.map zv, σ))) := by
  rw [gt_fin_st hd hE hq hn]
  dsimp only
  rw [hq, zbx_eq hE]
  congr 1
  funext pc lv st σ
  exact zend_eq hd hE pc lv st σ
theorem zsem {ks : gt_KS} {Y : gt_Y} (hd : gt_dok Y.2.2.2.2.1 Y.2.2.2.1) (hE : Y.2.1.2.2.2.2 = []) {as : List Value} {σ : gt_S} (h1 : gt_rv ks Y.2.2.2.2.2.2 as σ) (h2 : (lg_sl as).length ≤ Y.1) : gt_sem ks Y as σ = gt_fin ks Y (0, lv_args 0 as, [], σ) := by
  cases hf : gt_fin ks Y (0, lv_args 0 as, [], σ) with
  | some o => exact gt_sem_i hd (gt_nsp0 hE) ⟨h1, h2, gt_fin_s hf⟩
  | none =>
    cases hs : gt_sem ks Y as σ with
    | none => rfl
    | some o =>
      have := gt_fin_i hd hE (gt_sem_s hs).2.2
      rw [hf] at this
      cases this
