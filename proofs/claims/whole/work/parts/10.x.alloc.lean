/-! cells that come: a layout that grows at its end -/
def gt_ksc (n : Nat) : gt_K → Prop
  | .inl q => ∀ r ∈ q.2.2, r < n
  | .inr q => ∀ x ∈ q.2, ∀ r, x = some (some r) → r = 999999 ∨ r < n
def gt_vsc (n : Nat) : Value → Prop
  | .ref r => r < n
  | .retAddr _ => n < 1000000
  | _ => True
def gt_ssc (n : Nat) (σ : gt_S) : Prop := ∀ j k r, σ.2.2.1 j k = some r → r < n
/-- a layout's references stay within it -/
def gt_wf (ks : gt_KS) : Prop := ∀ j k, j < ks.2 → ks.1 j = some k → gt_ksc ks.2 k
def gt_up (ad : Nat → Nat) (n q : Nat) : Nat → Nat := fun j => if j = n then q else ad j
def gt_add (ks : gt_KS) (k : gt_K) : gt_KS := (fun j => if j = ks.2 then some k else ks.1 j, ks.2 + 1)
theorem gt_up_lt {ad : Nat → Nat} {n q r : Nat} (h : r < n) : gt_up ad n q r = ad r := if_neg (Nat.ne_of_lt h)
theorem gt_up_self {ad : Nat → Nat} {n q : Nat} : gt_up ad n q n = q := if_pos rfl
theorem gt_v_up {ad : Nat → Nat} {n q : Nat} {v : Value} (h : gt_vsc n v) : gt_v (gt_up ad n q) v = gt_v ad v := by
  cases v <;> try rfl
  · exact congrArg Value.ref (gt_up_lt h)
  · rename_i k
    have h1 : n < 1000000 := h
    exact congrArg Value.ref (if_neg (by omega))
theorem gt_lm_up {ad : Nat → Nat} {n q : Nat} {lv : gt_L} (h : ∀ x ∈ lv, gt_vsc n x.2) : lv.map (gt_lm (gt_up ad n q)) = lv.map (gt_lm ad) := by
  apply List.map_congr_left
  intro x hx
  unfold gt_lm
  rw [gt_v_up (h x hx)]
theorem gt_st_up {ad : Nat → Nat} {n q : Nat} {st : List Value} (h : ∀ x ∈ st, gt_vsc n x) : st.map (gt_v (gt_up ad n q)) = st.map (gt_v ad) := by
  apply List.map_congr_left
  intro x hx
  exact gt_v_up (h x hx)
theorem gt_sv_up {ad : Nat → Nat} {n q : Nat} {σ : gt_S} {j k : Nat} {x : Option (Option Nat)} (h : ∀ r, x = some (some r) → r = 999999 ∨ r < n) : gt_sv (gt_up ad n q) σ j k x = gt_sv ad σ j k x := by
  rcases x with _ | _ | r
  · rfl
  · rfl
  · unfold gt_sv
    dsimp only
    rcases h r rfl with h | h
    · rw [if_pos h, if_pos h]
    · rw [gt_up_lt h]
theorem gt_fv_up {ad : Nat → Nat} {n q : Nat} {σ : gt_S} {j : Nat} : ∀ (sl : List (Option (Option Nat))) (k : Nat), (∀ x ∈ sl, ∀ r, x = some (some r) → r = 999999 ∨ r < n) → gt_fv (gt_up ad n q) σ j k sl = gt_fv ad σ j k sl
  | [], _, _ => rfl
  | x :: t, k, h => by
    unfold gt_fv
    rw [gt_sv_up (h x List.mem_cons_self), gt_fv_up t (k + 1) (fun y hy => h y (List.mem_cons_of_mem _ hy))]
theorem gt_c_up {cA : FieldType → Nat} {ad : Nat → Nat} {n q : Nat} {σ : gt_S} {j : Nat} {k : gt_K} (hk : gt_ksc n k) (hs : gt_ssc n σ) : gt_c cA (gt_up ad n q) σ j k = gt_c cA ad σ j k := by
  rcases k with ⟨ty, n0, rs⟩ | ⟨ci, sl⟩
  · have hr : (fun k => (gt_rf rs σ j k).map (gt_up ad n q)) = fun k => (gt_rf rs σ j k).map ad := by
      funext k
      cases hx : gt_rf rs σ j k with
      | none => rfl
      | some r =>
        have hlt : r < n := by
          unfold gt_rf at hx
          split at hx
          · exact hs j k r hx
          · exact hk r (List.mem_of_getElem? hx)
        simp only [Option.map_some]
        rw [gt_up_lt hlt]
    unfold gt_c gt_ct
    dsimp only
    rw [hr]
  · unfold gt_c
    dsimp only
    rw [gt_fv_up sl 0 hk]
theorem gt_w_add {ks : gt_KS} {cA : FieldType → Nat} {ad : Nat → Nat} {q : Nat} {σ : gt_S} {k0 : gt_K} (ht : σ.2.2.2 = []) (hw : gt_wf ks) (hs : gt_ssc ks.2 σ) : gt_w (gt_add ks k0) cA (gt_up ad ks.2 q) σ = gt_w ks cA ad σ ++ [(q, gt_c cA (gt_up ad ks.2 q) σ ks.2 k0)] := by
  unfold gt_w gt_n gt_add
  rw [ht]
  simp only [List.length_nil, Nat.mul_zero, Nat.add_zero]
  rw [List.range_succ, List.map_append, List.map_cons, List.map_nil]
  congr 1
  · apply List.map_congr_left
    intro j hj
    have hj := List.mem_range.mp hj
    have e1 : gt_kd (fun j => if j = ks.2 then some k0 else ks.1 j, ks.2 + 1) [] j = gt_kd ks [] j := by
      unfold gt_kd
      dsimp only
      rw [if_pos (by omega), if_pos hj, if_neg (by omega)]
    rw [gt_up_lt hj, e1]
    congr 1
    cases hk : gt_kd ks [] j with
    | none => rfl
    | some k =>
      dsimp only
      apply gt_c_up _ hs
      refine hw j k hj ?_
      unfold gt_kd at hk
      rwa [if_pos hj] at hk
  · have e2 : gt_kd (fun j => if j = ks.2 then some k0 else ks.1 j, ks.2 + 1) [] ks.2 = some k0 := by
      unfold gt_kd
      dsimp only
      rw [if_pos (by omega), if_pos rfl]
    rw [e2, gt_up_self]
theorem gt_add_wf {ks : gt_KS} {k0 : gt_K} (hw : gt_wf ks) (h0 : gt_ksc (ks.2 + 1) k0) : gt_wf (gt_add ks k0) := by
  intro j k hj hk
  unfold gt_add at hj hk
  dsimp only at hj hk
  split at hk
  · cases hk
    exact h0
  · have h1 := hw j k (by omega) hk
    rcases k with q | q
    · exact fun r hr => Nat.lt_succ_of_lt (h1 r hr)
    · exact fun x hx r hr => (h1 x hx r hr).imp id Nat.lt_succ_of_lt
/-- the judgement over a growing layout: k cells of n slots have come -/
def gt_JK (Wm : Heap → List Loc → Nat → Nat → Nat → Array Slot → List Value → Prop) (D : va_G) (cl : List vw_C) (cA : FieldType → Nat) (A : Nat → Prop) (H0 : Heap) (nL : Nat) (Pa : (Nat → Nat) → Prop) (pc : Nat) (lv : gt_L) (st : List Value) (ks : gt_KS) (σ : gt_S) (k n : Nat) : Prop :=
  ∀ (ad : Nat → Nat) (ls : Array Slot) (H : Heap) (locs : List Loc), Pa ad → lv_has ls nL (lv.map (gt_lm ad)) → va_P D cl (gt_w ks cA ad σ) H → va_D A (gt_w ks cA ad σ) → va_S A H0 H locs → Wm H locs k n pc ls (st.map (gt_v ad))
/-- what stands when a layout grows: well-formed, all within -/
def gt_ok (ks : gt_KS) (σ : gt_S) (lv : gt_L) (st : List Value) : Prop := σ.2.2.2 = [] ∧ gt_wf ks ∧ gt_ssc ks.2 σ ∧ (∀ x ∈ lv, gt_vsc ks.2 x.2) ∧ ∀ x ∈ st, gt_vsc ks.2 x
section GTK
variable {p : Program} {l : Launch} {e : Env} {R : Room} {s : State} {m : MethodId} {args : Array Value} {below : List Frame} {meth : Method} {c : Code} {Q : State → Prop}
variable {cc : ByteArray} {D : va_G} {cA : FieldType → Nat} {A : Nat → Prop} {H0 : Heap} {nL : Nat} {own : String} {Pa : (Nat → Nat) → Prop}
theorem gt_k_newa (hx : p.tables.exec = Jvm.exec) (hb : c.code = cc) (hts : ∀ w ∈ gt_T, w.before args s = true) (hK : va_K D vwCl (gt_tys cA) s) (hA : ∀ q, H0.size ≤ q → A q) {ks : gt_KS} {σ : gt_S} {lv : gt_L} {st : List Value} (hok : gt_ok ks σ lv st) (hPa : ∀ ad q, Pa ad → Pa (gt_up ad ks.2 q)) {atype : ArrayType} {ty : FieldType} (hty : newarray.typeOf atype = ty) {t0 : Nat} (ht : (gt_tys cA)[t0]? = some (cA ty, ty)) (hz : (ty = .int ∨ ty = .boolean) ∧ σ.1 ks.2 = (fun _ => 0) ∨ ty = .long ∧ σ.2.1 ks.2 = fun _ => 0)
    (harr : Cond.arrayClass ty ∈ gt_T) {x : Int32} {N k n pc : Nat} (hn : ¬ x < 0) (hN : x.toNatClampNeg = N) (hbytes : N * componentBytes ty ≤ 536870912) (hcells : k + 1 ≤ R.cells) (hslots : n + N ≤ R.slots) (hdg : decode cc pc = .ok (.newarray atype, 2))
    (h : gt_JK (fun H locs k n pc ls st => W p l e R s m args below meth c H locs k n Q (F0 m pc ls st)) D vwCl cA A H0 nL Pa (pc + 2) lv (.ref ks.2 :: st) (gt_add ks (.inl (ty, N, []))) σ (k + 1) (n + N)) :
    gt_JK (fun H locs k n pc ls st => W p l e R s m args below meth c H locs k n Q (F0 m pc ls st)) D vwCl cA A H0 nL Pa pc lv (.int x :: st) ks σ k n := by
  intro ad ls H locs hpa hlv hP hD hS
  obtain ⟨htx, hw, hs, hlvs, hsts⟩ := hok
  have ha : ∀ cB : ClassId, vp_cell cB (N, gt_ct (fun j => j) σ ks.2 ty []) = arrV cB N (fun _ => defaultValue ty) := by
    intro cB
    rcases hz with ⟨rfl | rfl, hz⟩ | ⟨rfl, hz⟩
    · unfold gt_ct; dsimp only; rw [hz]; rfl
    · unfold gt_ct; dsimp only; rw [hz]; rfl
    · unfold gt_ct; dsimp only; rw [hz]; rfl
  refine va_newa hx hb (by rw [hty]; exact hts _ harr) hty hK hP hD hS hA ha hn hN hbytes hcells hslots hdg (fun q cB H1 hK1 hP1 hD1 hS1 => ?_)
  have hcB : cB = cA ty := by
    have e1 := (hK1.2 (gt_tys cA).length (cB, ty) (by rw [List.getElem?_append_right (Nat.le_refl _), Nat.sub_self]; rfl)).2
    have e2 := (hK.2 t0 _ ht).2
    rcases hz with ⟨rfl | rfl, -⟩ | ⟨rfl, -⟩ <;> exact Option.some.inj (e1.symm.trans e2)
  subst hcB
  have hct : ∀ ad' : Nat → Nat, gt_ct ad' σ ks.2 ty [] = gt_ct (fun j => j) σ ks.2 ty [] := by
    intro ad'
    rcases hz with ⟨rfl | rfl, -⟩ | ⟨rfl, -⟩ <;> rfl
  have hwe := gt_w_add (cA := cA) (ad := ad) (q := q) (k0 := .inl (ty, N, [])) htx hw hs
  have hce : gt_c cA (gt_up ad ks.2 q) σ ks.2 (.inl (ty, N, [])) = .inl (cA ty, N, gt_ct (fun j => j) σ ks.2 ty []) := by
    unfold gt_c
    dsimp only
    rw [hct]
  rw [hce] at hwe
  have := h (gt_up ad ks.2 q) ls H1 locs (hPa ad q hpa) (by rw [gt_lm_up hlvs]; exact hlv) (by rw [hwe]; exact hP1) (by rw [hwe]; exact hD1) hS1
  rw [List.map_cons, gt_st_up hsts] at this
  rw [show gt_v (gt_up ad ks.2 q) (.ref ks.2) = .ref q from congrArg Value.ref gt_up_self] at this
  exact this
end GTK
/-- the slots of a new object: numbers 0, references null -/
def gt_dfl (ty : FieldType) : Option (Option Nat) := match ty with
  | .long => some none
  | .object _ => some (some 999999)
  | .array _ => some (some 999999)
  | _ => none
def gt_dsl (ty : Nat → FieldType) (N : Nat) : List (Option (Option Nat)) := (List.range N).map fun j => gt_dfl (ty j)
def gt_okt (ty : FieldType) : Bool := match ty with
  | .int => true
  | .long => true
  | .boolean => true
  | .object _ => true
  | .array _ => true
  | _ => false
theorem gt_dfl_v {ad : Nat → Nat} {σ : gt_S} {j k : Nat} {ty : FieldType} (h1 : σ.1 j = fun _ => 0) (h2 : σ.2.1 j = fun _ => 0) (hty : gt_okt ty = true) : gt_sv ad σ j k (gt_dfl ty) = defaultValue ty := by
  cases ty <;> first | (cases hty; done) | (simp [gt_dfl, gt_sv, defaultValue, h1, h2]; done)
theorem gt_dsl_v {ad : Nat → Nat} {σ : gt_S} {j : Nat} {ty : Nat → FieldType} {N : Nat} (h1 : σ.1 j = fun _ => 0) (h2 : σ.2.1 j = fun _ => 0) (hty : ∀ k, k < N → gt_okt (ty k) = true) : ∀ k, k < N → defaultValue (ty k) = vp_V (gt_fv ad σ j 0 (gt_dsl ty N)) k := by
  intro k hk
  have e1 : (gt_dsl ty N)[k]? = some (gt_dfl (ty k)) := by
    unfold gt_dsl
    rw [List.getElem?_map, List.getElem?_range hk]
    rfl
  have e2 := gt_fv_get ad σ j _ 0 k e1
  unfold vp_V
  rw [List.getD_eq_getElem?_getD, e2]
  exact (gt_dfl_v h1 h2 (hty k hk)).symm
theorem gt_dsl_sc (ty : Nat → FieldType) (N n ci : Nat) : gt_ksc n (.inr (ci, gt_dsl ty N)) := by
  intro x hx r hr
  unfold gt_dsl at hx
  obtain ⟨j, -, rfl⟩ := List.mem_map.mp hx
  refine Or.inl ?_
  unfold gt_dfl at hr
  split at hr <;> first | (cases hr; rfl) | cases hr
/-- slot k of cell j now names cell r -/
def gt_sl (ks : gt_KS) (j k r : Nat) : gt_KS := (fun i => if i = j then (match ks.1 i with
  | some (.inr q) => some (.inr (q.1, q.2.set k (some (some r))))
  | o => o) else ks.1 i, ks.2)
section GTK
variable {p : Program} {l : Launch} {e : Env} {R : Room} {s : State} {m : MethodId} {args : Array Value} {below : List Frame} {meth : Method} {c : Code} {Q : State → Prop}
variable {cc : ByteArray} {D : va_G} {cA : FieldType → Nat} {A : Nat → Prop} {H0 : Heap} {nL : Nat} {own : String} {Pa : (Nat → Nat) → Prop}
theorem gt_k_new (hx : p.tables.exec = Jvm.exec) (hb : c.code = cc) (hown : s.vm.findClass own = some m.cls) (hts : ∀ w ∈ gt_T, w.before args s = true) (hK : va_K D vwCl (gt_tys cA) s) (hA : ∀ q, H0.size ≤ q → A q) {ks : gt_KS} {σ : gt_S} {lv : gt_L} {st : List Value} (hok : gt_ok ks σ lv st) (hPa : ∀ ad q, Pa ad → Pa (gt_up ad ks.2 q)) {C : String} {T : u_T} {N ci index : Nat} {ty : Nat → FieldType} (hws : ∀ w ∈ u_ws C T N, w ∈ gt_T) (hty : ∀ k, k < N → parseFieldDescriptor (T k).2.2.1 = some (ty k)) (hot : ∀ k, k < N → gt_okt (ty k) = true) (hc : vwCl[ci]? = some (C, T, N))
    (hcl : Cond.classLink own index C ∈ gt_T) (hinst : Cond.instantiable C N ∈ gt_T) (hini : Cond.initialized C ∈ gt_T) (h1 : σ.1 ks.2 = fun _ => 0) (h2 : σ.2.1 ks.2 = fun _ => 0) {k n pc : Nat} (hcells : k + 1 ≤ R.cells) (hslots : n + N ≤ R.slots) (hdg : decode cc pc = .ok (.new index, 3))
    (h : gt_JK (fun H locs k n pc ls st => W p l e R s m args below meth c H locs k n Q (F0 m pc ls st)) D vwCl cA A H0 nL Pa (pc + 3) lv (.ref ks.2 :: st) (gt_add ks (.inr (ci, gt_dsl ty N))) σ (k + 1) (n + N)) :
    gt_JK (fun H locs k n pc ls st => W p l e R s m args below meth c H locs k n Q (F0 m pc ls st)) D vwCl cA A H0 nL Pa pc lv st ks σ k n := by
  intro ad ls H locs hpa hlv hP hD hS
  obtain ⟨htx, hw, hs, hlvs, hsts⟩ := hok
  refine va_new (ci := ci) (fs := gt_fv ad σ ks.2 0 (gt_dsl ty N)) (C := C) (T := T) (N := N) hx hb hts hws ty hty hown (hts _ hcl) (hts _ hinst) (hts _ hini) hK hP hD hS hA hc (gt_dsl_v h1 h2 hot) hcells hslots hdg (fun q H1 hP1 hD1 hS1 => ?_)
  have hwe := gt_w_add (cA := cA) (ad := ad) (q := q) (k0 := .inr (ci, gt_dsl ty N)) htx hw hs
  have hce : gt_c cA (gt_up ad ks.2 q) σ ks.2 (.inr (ci, gt_dsl ty N)) = .inr (ci, gt_fv ad σ ks.2 0 (gt_dsl ty N)) := by
    unfold gt_c
    dsimp only
    rw [gt_fv_up _ 0 (gt_dsl_sc ty N ks.2 ci)]
  rw [hce] at hwe
  have := h (gt_up ad ks.2 q) ls H1 locs (hPa ad q hpa) (by rw [gt_lm_up hlvs]; exact hlv) (by rw [hwe]; exact hP1) (by rw [hwe]; exact hD1) hS1
  rw [List.map_cons, gt_st_up hsts] at this
  rw [show gt_v (gt_up ad ks.2 q) (.ref ks.2) = .ref q from congrArg Value.ref gt_up_self] at this
  exact this
theorem gt_k_putr (hx : p.tables.exec = Jvm.exec) (hb : c.code = cc) (hown : s.vm.findClass own = some m.cls) (hts : ∀ w ∈ gt_T, w.before args s = true) (hK : va_K D vwCl (gt_tys cA) s) (hin : meth.name = "<init>") {ks : gt_KS} {σ : gt_S} {lv : gt_L} {st : List Value} (htx : σ.2.2.2 = []) {T : u_T} {N ci index j fk r : Nat} {ty : Nat → FieldType} {sl : List (Option (Option Nat))} (hws : ∀ w ∈ u_ws own T N, w ∈ gt_T) (hty : ∀ k, k < N → parseFieldDescriptor (T k).2.2.1 = some (ty k)) (hnm : ∀ a, a < N → ∀ b, b < N → a ≠ b → (T a).2.1 ≠ (T b).2.1) (hc : vwCl[ci]? = some (own, T, N))
    (hj : ks.1 j = some (.inr (ci, sl))) (hjn : j < ks.2) (hfk : fk < N) (hsl : sl.length = N) (hlink : Cond.fieldLink own index (T fk).1 (T fk).2.1 (T fk).2.2.1 ∈ gt_T) (hfin : (T fk).2.2.2 = true) (hdecl : (T fk).1 = own) (hrt : (∃ C, ty fk = .object C) ∨ ∃ t, ty fk = .array t) (hr : r ≠ 999999) {k n pc : Nat} (hdg : decode cc pc = .ok (.putfield index, 3))
    (h : gt_JK (fun H locs k n pc ls st => W p l e R s m args below meth c H locs k n Q (F0 m pc ls st)) D vwCl cA A H0 nL Pa (pc + 3) lv st (gt_sl ks j fk r) σ k n) :
    gt_JK (fun H locs k n pc ls st => W p l e R s m args below meth c H locs k n Q (F0 m pc ls st)) D vwCl cA A H0 nL Pa pc lv (.ref r :: .ref j :: st) ks σ k n := by
  intro ad ls H locs hpa hlv hP hD hS
  have hkd : gt_kd ks σ.2.2.2 j = some (.inr (ci, sl)) := by
    unfold gt_kd
    rw [if_pos hjn]
    exact hj
  have he := gt_w_at (cA := cA) (ad := ad) hkd
  have hl : fk < (gt_fv ad σ j 0 sl).length := by rw [gt_fv_len, hsl]; exact hfk
  have hnar : narrow (ty fk) (.ref (ad r)) = .ref (ad r) := by rcases hrt with ⟨C, q⟩ | ⟨t, q⟩ <;> rw [q] <;> rfl
  have hfit : fits (ty fk) (.ref (ad r)) = true := by rcases hrt with ⟨C, q⟩ | ⟨t, q⟩ <;> rw [q] <;> rfl
  have hfs : (gt_fv ad σ j 0 sl).set fk (.ref (ad r)) = gt_fv ad σ j 0 (sl.set fk (some (some r))) := by
    apply List.ext_getElem?
    intro i
    have hfl : fk < sl.length := by rw [hsl]; exact hfk
    by_cases hi : i = fk
    · subst hi
      rw [List.getElem?_set_self hl, gt_fv_get ad σ j _ 0 i (List.getElem?_set_self hfl)]
      unfold gt_sv
      dsimp only
      rw [if_neg hr]
    · rw [List.getElem?_set_ne (Ne.symm hi)]
      cases hx2 : sl[i]? with
      | none =>
        have hlen : sl.length ≤ i := List.getElem?_eq_none_iff.mp hx2
        rw [List.getElem?_eq_none (by rw [gt_fv_len]; exact hlen), List.getElem?_eq_none (by rw [gt_fv_len, List.length_set]; exact hlen)]
      | some y =>
        rw [gt_fv_get ad σ j sl 0 i hx2, gt_fv_get ad σ j _ 0 i (by rw [List.getElem?_set_ne (Ne.symm hi)]; exact hx2)]
  have hset : (gt_w ks cA ad σ).set j (ad j, .inr (ci, gt_fv ad σ j 0 (sl.set fk (some (some r))))) = gt_w (gt_sl ks j fk r) cA ad σ := by
    apply List.ext_getElem?
    intro i
    have hlen : (gt_w ks cA ad σ).length = gt_n ks σ.2.2.2 := by simp [gt_w]
    by_cases hi : i = j
    · subst hi
      have hk2 : gt_kd (gt_sl ks i fk r) σ.2.2.2 i = some (.inr (ci, sl.set fk (some (some r)))) := by
        unfold gt_kd gt_sl
        dsimp only
        rw [if_pos hjn, if_pos rfl, hj]
      rw [List.getElem?_set_self (by rw [hlen]; exact gt_kd_lt hkd), gt_w_at hk2]
      rfl
    · rw [List.getElem?_set_ne (Ne.symm hi)]
      unfold gt_w
      rw [List.getElem?_map, List.getElem?_map]
      have hn2 : gt_n (gt_sl ks j fk r) σ.2.2.2 = gt_n ks σ.2.2.2 := rfl
      rw [hn2]
      cases hr2 : (List.range (gt_n ks σ.2.2.2))[i]? with
      | none => rfl
      | some x =>
        have hxi : x = i := by
          obtain ⟨q1, q2⟩ := List.getElem?_eq_some_iff.mp hr2
          rw [List.getElem_range] at q2
          exact q2.symm
        subst hxi
        have hk3 : gt_kd (gt_sl ks j fk r) σ.2.2.2 x = gt_kd ks σ.2.2.2 x := by
          unfold gt_kd gt_sl
          dsimp only
          rw [if_neg hi]
        simp only [Option.map_some, hk3]
  refine va_putF (D := D) (ci := ci) (v := .ref (ad r)) (ty := ty fk) (C := own) (T := T) (N := N) hx hb hts hws ty hty hnm hown hK hP hD hS j he hc fk hfk (hts _ hlink) (fun _ h9 => h9) hfin hin hdecl (hty fk hfk) hnar hfit hl hdg (fun H1 locs1 hP1 hD1 hS1 => ?_)
  rw [hfs, hset] at hP1 hD1
  exact h ad ls H1 locs1 hpa hlv hP1 hD1 hS1
/-- the super constructor -/
theorem gt_k_obj (hx : p.tables.exec = Jvm.exec) (hb : c.code = cc) (hml : c.maxLocals = nL) (hown : s.vm.findClass own = some m.cls) (hts : ∀ w ∈ gt_T, w.before args s = true) {ks : gt_KS} {σ : gt_S} {lv : gt_L} {st : List Value} {idx a k n pc : Nat} (hl : Cond.methodLink own idx objectInit ∈ gt_T) (hi : Cond.instanceMethod objectInit ∈ gt_T) (hc : Cond.code objectInit ⟨#[0xb1]⟩ 1 none ∈ gt_T) (hdg : decode cc pc = .ok (.invokespecial idx, 3)) (hf : 1 ≤ R.frames) (hlo : (st.map fun v => v.category).sum + 12 ≤ R.locals)
    (h : gt_JK (fun H locs k n pc ls st => W p l e R s m args below meth c H locs k n Q (F0 m pc ls st)) D vwCl cA A H0 nL Pa (pc + 3) lv st ks σ k n) :
    gt_JK (fun H locs k n pc ls st => W p l e R s m args below meth c H locs k n Q (F0 m pc ls st)) D vwCl cA A H0 nL Pa pc lv (.ref a :: st) ks σ k n := by
  intro ad ls H locs hpa hlv hP hD hS
  refine W.objInit hx hb hown (hts _ hl) (hts _ hi) (hts _ hc) rfl (by rw [hml]; exact hlv.1) rfl hdg hf (by show 2 * 0 + _ + 12 ≤ _; rw [gt_sum_map]; omega) ?_
  exact h ad ls H locs hpa hlv hP hD hS
end GTK
