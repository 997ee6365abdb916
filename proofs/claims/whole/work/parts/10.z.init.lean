/-! constructors: from an object of zeros to a layout of its own -/
def gt_z : gt_S := (fun _ _ => 0, fun _ _ => 0, fun _ _ => none, [])
def gt_k1 (ci : Nat) (sl : List (Option (Option Nat))) : gt_KS := (fun j => if j = 0 then some (.inr (ci, sl)) else none, 1)
def gt_AO (U : State) : Prop := va_AO "GiftTable$Text" U ∧ va_AO "GiftTable$State" U ∧ (Cond.arrayOver (.array .long)).before #[] U = true ∧ (Cond.arrayOver (.array .int)).before #[] U = true
theorem gt_AO.moved {u U : State} (hvm : u.vm.Alike U.vm) (h : gt_AO u) : gt_AO U := ⟨h.1.moved hvm, h.2.1.moved hvm, over_moved hvm h.2.2.1, over_moved hvm h.2.2.2⟩
def gt_w1 (cA : FieldType → Nat) (ci : Nat) (sl : List (Option (Option Nat))) (h0 : Nat) : va_W := gt_w (gt_k1 ci sl) cA (fun _ => h0) gt_z
def gt_PI (D : va_G) (cA : FieldType → Nat) (ci : Nat) (sl : List (Option (Option Nat))) (h0 sz : Nat) : Array Value → State → Prop := va_Pc [.ref h0] (fun U => U.heap.size = sz ∧ va_P D vwCl (gt_w1 cA ci sl h0) U.heap ∧ va_K D vwCl (gt_tys cA) U ∧ va_D (fun _ => True) (gt_w1 cA ci sl h0) ∧ gt_NN U ∧ gt_AO U)
def gt_QI (D : va_G) (cA : FieldType → Nat) (ci : Nat) (sl : List (Option (Option Nat))) (kX : gt_KS) (σX : gt_S) (h0 sz : Nat) : Array Value → State → Outcome → State → Prop := fun _ st oc t => oc = .returned none ∧ (∃ ad : Nat → Nat, ad 0 = h0 ∧ va_P D vwCl (gt_w kX cA ad σX) t.heap ∧ va_D (va_A (gt_w1 cA ci sl h0) sz) (gt_w kX cA ad σX)) ∧ va_F (va_A (gt_w1 cA ci sl h0) sz) st t
/-- a constructor makes this layout, with this in it -/
def gt_MI (l : Launch) (y : MethodName) (ws : List Cond) (rm : Room) (ci : Nat) (sl : List (Option (Option Nat))) (kX : gt_KS) (σX : gt_S) (mc ms : Nat) : Prop := ∀ (D : va_G) (cA : FieldType → Nat) (h0 sz : Nat), Met l y ws rm (gt_PI D cA ci sl h0 sz) (gt_QI D cA ci sl kX σX h0 sz) mc ms (va_A (gt_w1 cA ci sl h0) sz)
theorem gt_PI_bl {D : va_G} {cA : FieldType → Nat} {ci : Nat} {sl : List (Option (Option Nat))} {h0 sz : Nat} : FrameBlind (gt_PI D cA ci sl h0 sz) := by
  intro a U g mk q
  obtain ⟨q0, q1, qP, qK, qD, qN, qA⟩ := q
  exact ⟨q0, q1, qP, va_K.moved (u := U) (U := U.calling g mk a) (Vm.Alike.refl U.vm) qK, qD, gt_NN.same (u := U) (U := U.calling g mk a) rfl qN, gt_AO.moved (u := U) (U := U.calling g mk a) (Vm.Alike.refl U.vm) qA⟩
/-- what a constructor's walk is given -/
def gt_CI (p : Program) (s : State) (m : MethodId) (args : Array Value) (meth : Method) (c : Code) (cc : ByteArray) (nL : Nat) (own : String) (D : va_G) (cA : FieldType → Nat) (A : Nat → Prop) (H0 : Heap) : Prop :=
  p.tables.exec = Jvm.exec ∧ c.code = cc ∧ c.maxLocals = nL ∧ s.vm.findClass own = some m.cls ∧ (∀ w ∈ gt_T, w.before args s = true) ∧ va_K D vwCl (gt_tys cA) s ∧ (∀ q, H0.size ≤ q → A q) ∧ gt_NN s ∧ gt_AO s ∧ meth.name = "<init>"
set_option maxHeartbeats 4000000 in
theorem gt_metI {l : Launch} {y : MethodName} {cc : ByteArray} {maxL : Nat} {rm : Room} {ci : Nat} {sl : List (Option (Option Nat))} {kX : gt_KS} {σX : gt_S} {mc ms rpc : Nat} (hy : plainName y.cls = true) (hyn : y.name = "<init>") (hl1 : 1 ≤ maxL) (htx : σX.2.2.2 = []) (hdg : decode cc rpc = .ok (.return_, 1))
    (walk : ∀ (p : Program) (e : Env) (s : State) (m : MethodId) (args : Array Value) (below : List Frame) (meth : Method) (c : Code) (Q : State → Prop) (D : va_G) (cA : FieldType → Nat) (A : Nat → Prop) (H0 : Heap) (Pa : (Nat → Nat) → Prop), gt_CI p s m args meth c cc maxL y.cls D cA A H0 → (∀ (n : Nat), 1 ≤ n → ∀ ad q, Pa ad → Pa (gt_up ad n q)) → (∀ (n : Nat), 1 ≤ n → ∀ ad adX, Pa ad → Pa (gt_acat n ad adX)) →
      gt_JK (fun H locs k n pc ls st => W p l e rm s m args below meth c H locs k n Q (F0 m pc ls st)) D vwCl cA A H0 maxL Pa rpc [(0, .ref 0)] [] kX σX mc ms →
      gt_JK (fun H locs k n pc ls st => W p l e rm s m args below meth c H locs k n Q (F0 m pc ls st)) D vwCl cA A H0 maxL Pa 0 [(0, .ref 0)] [] (gt_k1 ci sl) gt_z 0 0) :
    gt_MI l y (gt_W y cc maxL none) rm ci sl kX σX mc ms := by
  intro D cA h0 sz
  refine Met.ofW (cc := cc) (maxL := maxL) (ret := none) hy rfl ?_
  intro p e s m args below meth c s₁ B hml hv
  obtain ⟨rfl, hsz, hP, hK, hD0, hN, hAO⟩ := hv
  have hx := B.exec
  have hb := B.bytes
  have hr := B.returns
  have hts0 := atoms_spec (ws := gt_W y cc maxL none) B.pre
  have hts : ∀ w ∈ gt_T, w.before ([Value.ref h0] : List Value).toArray s = true := fun w hw => hts0 w (List.mem_cons_of_mem _ hw)
  have hown : s.vm.findClass y.cls = some m.cls := findClass_of_methodNamed B.named
  have hlocks := B.notSynchronized
  have hin : meth.name = "<init>" := by rw [← hyn]; exact (name_of_methodNamed B.named B.method).1
  subst hsz
  have hA : ∀ q : Nat, s.heap.size ≤ q → va_A (gt_w1 cA ci sl h0) s.heap.size q := fun q h => Or.inr h
  have hD := hD0.self (sz := s.heap.size)
  have hl := lv_entry ([.ref h0]) (n := maxL) hl1
  rw [lg_entry_eq]
  refine walk p e s m _ below meth c _ D cA (va_A (gt_w1 cA ci sl h0) s.heap.size) s.heap (fun ad => ad 0 = h0) ⟨hx, hb, hml, hown, hts, hK, hA, hN, hAO, hin⟩ (fun n hn ad q h => (gt_up_lt hn).trans h) (fun n hn ad adX h => (if_pos (Or.inl hn)).trans h) ?_ (fun _ => h0) _ s.heap [] rfl hl hP hD va_S.rf
  intro ad ls H locs hpa hlv hPb hDb hS
  exact W.vret hx hb hr (fun t h9 hW => ⟨rfl, ⟨ad, hpa, by rw [h9]; exact hPb, hDb⟩, hS.F h9⟩) hS.2.2 hdg
