/-! a method's contract out of a run of the small machine -/
def gt_ckA (l : Launch) (ks : gt_KS) (cc : ByteArray) (nL : Nat) (own : String) (R : Room) (q : Nat × Nat × Nat × Nat × gt_G) : Prop := ∀ (p : Program) (e : Env) (s : State) (m : MethodId) (args : Array Value) (below : List Frame) (meth : Method) (c : Code) (Q : State → Prop) (D : va_G) (cA : FieldType → Nat) (ad : Nat → Nat) (A : Nat → Prop) (H0 : Heap) (tx : List (Nat × Nat)), gt_Ctx p s m args c cc nL own D ks cA ad A H0 tx →
  gt_ck (gt_J (fun H locs pc ls st => W p l e R s m args below meth c H locs 0 0 Q (F0 m pc ls st)) D vwCl ks cA ad A H0 tx nL) cc q
/-- a special step is what it says -/
def gt_spA (l : Launch) (ks : gt_KS) (cc : ByteArray) (nL : Nat) (own : String) (R : Room) (q : Nat × (gt_L → List Value → gt_S → Option gt_F)) : Prop := ∀ (p : Program) (e : Env) (s : State) (m : MethodId) (args : Array Value) (below : List Frame) (meth : Method) (c : Code) (Q : State → Prop) (D : va_G) (cA : FieldType → Nat) (ad : Nat → Nat) (A : Nat → Prop) (H0 : Heap) (tx : List (Nat × Nat)), gt_Ctx p s m args c cc nL own D ks cA ad A H0 tx →
  ∀ (lv : gt_L) (st : List Value) (σ : gt_S) (o : gt_F), q.2 lv st σ = some o → gt_J (fun H locs pc ls st => W p l e R s m args below meth c H locs 0 0 Q (F0 m pc ls st)) D vwCl ks cA ad A H0 tx nL o.1 o.2.1 o.2.2.1 o.2.2.2 → gt_J (fun H locs pc ls st => W p l e R s m args below meth c H locs 0 0 Q (F0 m pc ls st)) D vwCl ks cA ad A H0 tx nL q.1 lv st σ
theorem gt_aV {l : Launch} {ks : gt_KS} {cc : ByteArray} {nL : Nat} {own : String} {R : Room} {y : MethodName} {cy : ByteArray} {maxL : Nat} {ret : Option FieldType} {rm : Room} {f : gt_G} {idx n rk : Nat} (hM : gt_M l ks y (gt_W y cy maxL ret) rm f) (hrm : rm.cells = 0 ∧ rm.slots = 0) (hR : rm.frames + 1 ≤ R.frames ∧ 8 + (maxL + 11) + rm.locals ≤ R.locals)
    (hcode : Cond.code y cy maxL ret ∈ gt_T) (hw : ∀ w ∈ ([.methodLink own idx y, .instanceMethod y, .selects y.cls y y, .initialized y.cls] : List Cond), w ∈ gt_T) (hd : y.cls ≠ "java/lang/invoke/MethodHandle" ∧ y.cls ≠ "java/lang/invoke/VarHandle" ∧ (parseMethodDescriptor y.desc).map (fun d => d.parameters.length) = some n)
    (hrc : ∀ (as : List Value) (σ : gt_S) (o : Option Value × gt_S), f as σ = some o → ∃ (b : Nat) (as' : List Value) (ci : Nat) (sl : List (Option (Option Nat))) (T : u_T) (N : Nat), as = .ref b :: as' ∧ gt_kd ks σ.2.2.2 b = some (.inr (ci, sl)) ∧ vwCl[ci]? = some (y.cls, T, N)) : gt_ckA l ks cc nL own R (idx, 0, rk, n + 1, f) :=
  fun _ _ _ _ _ _ _ _ _ _ _ _ _ _ _ X => gt_ckV X ⟨Nat.zero_le _, Nat.zero_le _⟩ hM hrm hR hcode hw hd hrc
theorem gt_aS {l : Launch} {ks : gt_KS} {cc : ByteArray} {nL : Nat} {own : String} {R : Room} {y : MethodName} {cy : ByteArray} {maxL : Nat} {ret : Option FieldType} {rm : Room} {f : gt_G} {idx n rk : Nat} (hM : gt_M l ks y (gt_W y cy maxL ret) rm f) (hrm : rm.cells = 0 ∧ rm.slots = 0) (hR : rm.frames + 1 ≤ R.frames ∧ 8 + (maxL + 11) + rm.locals ≤ R.locals)
    (hcode : Cond.code y cy maxL ret ∈ gt_T) (hl : Cond.methodLink own idx y ∈ gt_T ∨ ∃ host, Cond.methodLinkNest own idx y host ∈ gt_N) (hst : Cond.static y ∈ gt_T) (hini : Cond.initialized y.cls ∈ gt_T) (hd : y.cls ≠ "java/lang/invoke/MethodHandle" ∧ y.cls ≠ "java/lang/invoke/VarHandle" ∧ (parseMethodDescriptor y.desc).map (fun d => d.parameters.length) = some n) : gt_ckA l ks cc nL own R (idx, 1, rk, n, f) :=
  fun _ _ _ _ _ _ _ _ _ _ _ _ _ _ _ X => gt_ckS X ⟨Nat.zero_le _, Nat.zero_le _⟩ hM hrm hR hcode hl hst hini hd
def gt_ro (cc : ByteArray) (ret : Option FieldType) (b : gt_F) (r : Option Value) : Prop := b.2.2.1 = r.toList ∧ match r with
  | none => decode cc b.1 = .ok (.return_, 1) ∧ ret = none
  | some (.int v) => decode cc b.1 = .ok (.ireturn, 1) ∧ (ret = some .int ∨ (ret = some .boolean ∧ (v = 0 ∨ v = 1)))
  | some (.long _) => decode cc b.1 = .ok (.lreturn, 1) ∧ ret = some .long
  | some .null => decode cc b.1 = .ok (.areturn, 1) ∧ ∃ n, ret = some (.object n)
  | some (.ref _) => decode cc b.1 = .ok (.areturn, 1) ∧ ∃ n, ret = some (.object n)
  | _ => False
theorem gt_args_m (ad : Nat → Nat) : ∀ (as : List Value) (k : Nat), lv_args k (as.map (gt_v ad)) = (lv_args k as).map (gt_lm ad)
  | [], _ => rfl
  | v :: t, k => by
    rw [List.map_cons]
    unfold lv_args
    rw [List.map_cons, gt_v_cat, gt_args_m ad t]
    rfl
theorem gt_sl_len (ad : Nat → Nat) : ∀ (as : List Value), (lg_sl (as.map (gt_v ad))).length = (lg_sl as).length
  | [] => rfl
  | v :: t => by
    have ih := gt_sl_len ad t
    unfold lg_sl at ih ⊢
    rw [List.map_cons, List.flatMap_cons, List.flatMap_cons, List.length_append, List.length_append, ih, gt_v_cat]
    congr 1
    split <;> rfl
theorem gt_w_D {B : Nat → Prop} {ks : gt_KS} {cA : FieldType → Nat} {ad : Nat → Nat} {σ σ2 : gt_S} {sz : Nat} (hD : va_D B (gt_w ks cA ad σ)) (ht : σ2.2.2.2 = σ.2.2.2) : va_D (va_A (gt_w ks cA ad σ) sz) (gt_w ks cA ad σ2) := by
  have key : ∀ (k : Nat) (q : Nat × va_E), (gt_w ks cA ad σ2)[k]? = some q → ∃ e, (gt_w ks cA ad σ)[k]? = some (q.1, e) := by
    intro k q hk
    unfold gt_w at hk ⊢
    rw [List.getElem?_map] at hk ⊢
    rw [ht] at hk
    cases hr : (List.range (gt_n ks σ.2.2.2))[k]? with
    | none => rw [hr] at hk; cases hk
    | some x =>
      rw [hr] at hk
      cases hk
      exact ⟨_, rfl⟩
  refine ⟨fun i j x y hi hj hxy => ?_, fun k q hk => ?_⟩
  · obtain ⟨e1, h1⟩ := key i x hi
    obtain ⟨e2, h2⟩ := key j y hj
    exact hD.1 i j _ _ h1 h2 hxy
  · obtain ⟨e1, h1⟩ := key k q hk
    exact Or.inl ⟨k, e1, h1⟩
set_option maxHeartbeats 4000000 in
theorem gt_met {l : Launch} {ks : gt_KS} {y : MethodName} {cc : ByteArray} {maxL : Nat} {ret : Option FieldType} {rm : Room} {f : gt_G} {E : gt_E} {sp : List (Nat × List Nat)} {cs : List gt_I} (hy : plainName y.cls = true) (hd : gt_dok cc cs) (hE : gt_eok (gt_T ++ gt_N) y.cls vwCl E) (hC : ∀ q ∈ E.2.2.2.1, gt_ckA l ks cc maxL y.cls rm q) (hSp : ∀ q ∈ E.2.2.2.2, gt_spA l ks cc maxL y.cls rm q)
    (hf : ∀ (as : List Value) (σ : gt_S) (r : Option Value) (σ' : gt_S), f as σ = some (r, σ') → (lg_sl as).length ≤ maxL ∧ ∃ b : gt_F, gt_R ks maxL E sp cs (0, lv_args 0 as, [], σ) b ∧ b.2.2.2 = σ' ∧ gt_ro cc ret b r) : gt_M l ks y (gt_W y cc maxL ret) rm f := by
  intro D cA ad σ σ' as r sz hfs
  obtain ⟨hla, b, ⟨n, hR⟩, hσ, hro⟩ := hf as σ r σ' hfs
  refine Met.ofW (cc := cc) (maxL := maxL) (ret := ret) hy rfl ?_
  intro p e s m args below meth c s₁ B hml hv
  obtain ⟨rfl, hsz, hP, hK, hD0, hN⟩ := hv
  have hx := B.exec
  have hb := B.bytes
  have hr := B.returns
  have hts0 := atoms_spec (ws := gt_W y cc maxL ret) B.pre
  have hts : ∀ w ∈ gt_T, w.before (as.map (gt_v ad)).toArray s = true := fun w hw => hts0 w (List.mem_cons_of_mem _ hw)
  have hown : s.vm.findClass y.cls = some m.cls := findClass_of_methodNamed B.named
  have hlocks := B.notSynchronized
  subst hsz
  have hDD : ∀ σ2 : gt_S, σ2.2.2.2 = σ.2.2.2 → va_D (va_A (gt_w ks cA ad σ) s.heap.size) (gt_w ks cA ad σ2) := fun σ2 h2 => gt_w_D hD0 h2
  have hA : ∀ q : Nat, s.heap.size ≤ q → va_A (gt_w ks cA ad σ) s.heap.size q := fun q h => Or.inr h
  have X : gt_Ctx p s m (as.map (gt_v ad)).toArray c cc maxL y.cls D ks cA ad (va_A (gt_w ks cA ad σ) s.heap.size) s.heap σ.2.2.2 := ⟨hx, hb, hml, hown, hts, hK, hDD, hA, hN⟩
  have hts2 : ∀ w ∈ gt_T ++ gt_N, w.before (as.map (gt_v ad)).toArray s = true := fun w hw => (List.mem_append.mp hw).elim (hts w) (hN.use w)
  have key := gt_R_w (J := gt_J (fun H locs pc ls st => W p l e rm s m (as.map (gt_v ad)).toArray below meth c H locs 0 0 (MQ below (gt_Qc D ks cA ad σ σ' r s.heap.size) (as.map (gt_v ad)).toArray s 0 0 (va_A (gt_w ks cA ad σ) s.heap.size)) (F0 m pc ls st)) D vwCl ks cA ad (va_A (gt_w ks cA ad σ) s.heap.size) s.heap σ.2.2.2 maxL) (E := E) (sp := sp) hd
    (fun pc lv lv' st σ2 hsub hJ ht ls H locs hlv hP hS => hJ ht ls H locs ⟨hlv.1, hlv.2.1, fun q hq => by
      obtain ⟨x, hx1, rfl⟩ := List.mem_map.mp hq
      exact hlv.2.2 _ (List.mem_map.mpr ⟨x, hsub x hx1, rfl⟩)⟩ hP hS)
    (fun q hq hl lv st σ2 κ o h hκ => by
      unfold gt_st1 at h
      split at h
      · rename_i g hg
        obtain ⟨o2, ho, h⟩ := Option.bind_eq_some_iff.mp h
        exact hSp (q.1, g) (gt_lk_mem hg) p e s m _ below meth c _ D cA ad _ _ _ X lv st σ2 o2 ho (hκ _ _ _ _ h)
      · exact gt_stp_w rfl hx hb hown hts2 hK hDD hE (fun q hq => hC q hq p e s m _ below meth c _ D cA ad _ _ _ X) hq hl h hκ) n _ b hR
  have hl := lv_entry (as.map (gt_v ad)) (n := maxL) (by rw [gt_sl_len]; exact hla)
  rw [lg_entry_eq]
  rw [gt_args_m] at hl
  refine key ?_ rfl _ s.heap [] hl hP va_S.rf
  intro ht ls H locs hlv hPb hS
  rw [hσ] at hPb ht
  obtain ⟨hst, hro⟩ := hro
  rw [hst]
  rcases r with _ | ⟨v | v | v | v | _ | a | v⟩
  · obtain ⟨hdg, hret⟩ := hro
    exact W.vret hx hb (hr.trans hret) (fun t h9 hW => ⟨rfl, ht, by rw [h9]; exact hPb, hS.F h9⟩) hS.2.2 hdg
  · obtain ⟨hdg, hret⟩ := hro
    rcases hret with hret | ⟨hret, hv⟩
    · exact W.iret (v := v) hx hb (hr.trans hret) (fun t h9 hW => ⟨rfl, ht, by rw [h9]; exact hPb, hS.F h9⟩) hS.2.2 hdg
    · exact W.zret (v := v) (ty := .boolean) hx hb (hr.trans hret) (by rcases hv with rfl | rfl <;> rfl) (fun t h9 hW => ⟨rfl, ht, by rw [h9]; exact hPb, hS.F h9⟩) hS.2.2 hdg
  · obtain ⟨hdg, hret⟩ := hro
    exact W.lret (v := v) hx hb (hr.trans hret) (fun t h9 hW => ⟨rfl, ht, by rw [h9]; exact hPb, hS.F h9⟩) hS.2.2 hdg
  · exact hro.elim
  · exact hro.elim
  · obtain ⟨hdg, nm, hret⟩ := hro
    exact W.aret (v := .null) hx hb (hr.trans hret) (Or.inl ⟨_, rfl⟩) (Or.inl rfl) (fun t h9 hW => ⟨rfl, ht, by rw [h9]; exact hPb, hS.F h9⟩) hS.2.2 hdg
  · obtain ⟨hdg, nm, hret⟩ := hro
    exact W.aret (v := .ref (ad a)) hx hb (hr.trans hret) (Or.inl ⟨_, rfl⟩) (Or.inr ⟨_, rfl⟩) (fun t h9 hW => ⟨rfl, ht, by rw [h9]; exact hPb, hS.F h9⟩) hS.2.2 hdg
  · exact hro.elim
