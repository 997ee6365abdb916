/-! what a method does, as a function: where its run ends. (nL, tables, stops, code list, bytes, return type, class of the receiver) -/
abbrev gt_Y : Type := Nat × gt_E × List (Nat × List Nat) × List gt_I × ByteArray × Option FieldType × Option Nat
def gt_rv (ks : gt_KS) (ci : Option Nat) (as : List Value) (σ : gt_S) : Prop := match ci with
  | none => True
  | some ci => ∃ (b : Nat) (as' : List Value) (sl : List (Option (Option Nat))), as = .ref b :: as' ∧ gt_kd ks σ.2.2.2 b = some (.inr (ci, sl))
def gt_run (ks : gt_KS) (Y : gt_Y) (as : List Value) (σ : gt_S) (o : Option Value × gt_S) : Prop := gt_rv ks Y.2.2.2.2.2.2 as σ ∧ (lg_sl as).length ≤ Y.1 ∧ ∃ b : gt_F, gt_R ks Y.1 Y.2.1 Y.2.2.1 Y.2.2.2.1 (0, lv_args 0 as, [], σ) b ∧ b.2.2.2 = o.2 ∧ gt_ro Y.2.2.2.2.1 Y.2.2.2.2.2.1 b o.1
noncomputable def gt_sem (ks : gt_KS) (Y : gt_Y) : gt_G := fun as σ => @dite (Option (Option Value × gt_S)) (∃ o, gt_run ks Y as σ o) (Classical.propDecidable _) (fun h => some h.choose) (fun _ => none)
theorem gt_sem_s {ks : gt_KS} {Y : gt_Y} {as : List Value} {σ : gt_S} {o : Option Value × gt_S} (h : gt_sem ks Y as σ = some o) : gt_run ks Y as σ o := by
  unfold gt_sem at h
  split at h
  · rename_i hx
    cases h
    exact hx.choose_spec
  · cases h
def gt_isR : Instr → Bool
  | .ireturn => true
  | .lreturn => true
  | .areturn => true
  | .return_ => true
  | _ => false
theorem gt_ro_r {cc : ByteArray} {ret : Option FieldType} {b : gt_F} {r : Option Value} (h : gt_ro cc ret b r) : ∃ i, decode cc b.1 = .ok (i, 1) ∧ gt_isR i = true := by
  obtain ⟨-, h⟩ := h
  split at h
  · exact ⟨_, h.1, rfl⟩
  · exact ⟨_, h.1, rfl⟩
  · exact ⟨_, h.1, rfl⟩
  · exact ⟨_, h.1, rfl⟩
  · exact ⟨_, h.1, rfl⟩
  · exact h.elim
/-- no special step stands at a return -/
def gt_nsp (E : gt_E) (cs : List gt_I) : Bool := cs.all fun q => !(gt_isR q.2.1) || (gt_lk E.2.2.2.2 q.1).isNone
theorem gt_stp_r {ks : gt_KS} {nL : Nat} {E : gt_E} {q : gt_I} {lv : gt_L} {st : List Value} {σ : gt_S} {κ : gt_C} (h : gt_isR q.2.1 = true) : gt_stp ks nL E q lv st σ κ = none := by
  obtain ⟨pc, i, len⟩ := q
  cases i <;> first | rfl | cases h
theorem gt_end {ks : gt_KS} {nL : Nat} {E : gt_E} {sp : List (Nat × List Nat)} {cs : List gt_I} {cc : ByteArray} (hd : gt_dok cc cs) (hn0 : gt_nsp E cs = true) {ret : Option FieldType} {b : gt_F} {r : Option Value} (h : gt_ro cc ret b r) : ∀ (n : Nat) (d : gt_F), gt_it ks nL E sp cs n b = some d → n = 0
  | 0, _, _ => rfl
  | n + 1, d, hn => by
    exfalso
    unfold gt_it at hn
    obtain ⟨x, hx, -⟩ := Option.bind_eq_some_iff.mp hn
    obtain ⟨i, h1, h2⟩ := gt_ro_r h
    cases hs : gt_sk b.1 cs with
    | nil =>
      rw [hs] at hx
      cases hx
    | cons q t =>
      rw [hs] at hx
      have e1 := gt_sk_hd hs
      have hqm := gt_sk_sub (q := q) (by rw [hs]; exact List.mem_cons_self)
      have e2 := (hd q hqm).1
      have e3 := List.all_eq_true.mp hn0 q hqm
      rw [e1, h1] at e2
      obtain ⟨qp, qi, ql⟩ := q
      dsimp only at e2 e3
      cases e2
      rw [h2] at e3
      have e4 : gt_lk E.2.2.2.2 qp = none := by simpa using e3
      unfold gt_bx at hx
      dsimp only at hx
      unfold gt_st1 at hx
      dsimp only at hx
      rw [e4] at hx
      dsimp only at hx
      rw [gt_stp_r h2] at hx
      cases hx
theorem gt_uni {ks : gt_KS} {nL : Nat} {E : gt_E} {sp : List (Nat × List Nat)} {cs : List gt_I} {cc : ByteArray} (hd : gt_dok cc cs) (hn0 : gt_nsp E cs = true) {ret : Option FieldType} {a b b' : gt_F} {r r' : Option Value} (h : gt_ro cc ret b r) (h' : gt_ro cc ret b' r') : ∀ (n k : Nat) (a : gt_F), gt_it ks nL E sp cs n a = some b → gt_it ks nL E sp cs k a = some b' → b = b'
  | 0, k, a, h1, h2 => by
    cases h1
    have := gt_end hd hn0 h k b' h2
    subst this
    cases h2
    rfl
  | n + 1, 0, a, h1, h2 => by
    cases h2
    have := gt_end hd hn0 h' (n + 1) b h1
    omega
  | n + 1, k + 1, a, h1, h2 => by
    unfold gt_it at h1 h2
    obtain ⟨x, hx, h1⟩ := Option.bind_eq_some_iff.mp h1
    obtain ⟨z, hz, h2⟩ := Option.bind_eq_some_iff.mp h2
    rw [hx] at hz
    cases hz
    exact gt_uni (a := a) hd hn0 h h' n k x h1 h2
theorem gt_sem_i {ks : gt_KS} {Y : gt_Y} (hd : gt_dok Y.2.2.2.2.1 Y.2.2.2.1) (hn0 : gt_nsp Y.2.1 Y.2.2.2.1 = true) {as : List Value} {σ : gt_S} {o : Option Value × gt_S} (h : gt_run ks Y as σ o) : gt_sem ks Y as σ = some o := by
  unfold gt_sem
  split
  · rename_i hx
    have h2 := hx.choose_spec
    obtain ⟨-, -, b, ⟨n, hb⟩, h3, h4⟩ := h
    obtain ⟨-, -, b', ⟨n', hb'⟩, h3', h4'⟩ := h2
    have e := gt_uni (a := b) hd hn0 h4 h4' n n' _ hb hb'
    subst e
    congr 1
    have e1 : hx.choose.1 = o.1 := by
      have := h4.1.symm.trans h4'.1
      cases h9 : o.1 <;> cases h8 : hx.choose.1 <;> rw [h9, h8] at this <;> simp at this
      rw [this]
    exact Prod.ext e1 (h3'.symm.trans h3)
  · rename_i hx
    exact absurd ⟨o, h⟩ hx
theorem gt_noS {l : Launch} {ks : gt_KS} {cc : ByteArray} {nL : Nat} {own : String} {R : Room} : ∀ q ∈ ([] : List (Nat × (gt_L → List Value → gt_S → Option gt_F))), gt_spA l ks cc nL own R q := fun _ h => absurd h List.not_mem_nil
theorem gt_metS {l : Launch} {ks : gt_KS} {y : MethodName} {Y : gt_Y} {rm : Room} (hy : plainName y.cls = true) (hd : gt_dok Y.2.2.2.2.1 Y.2.2.2.1) (hE : gt_eok (gt_T ++ gt_N) y.cls vwCl Y.2.1) (hC : ∀ q ∈ Y.2.1.2.2.2.1, gt_ckA l ks Y.2.2.2.2.1 Y.1 y.cls rm q) (hSp : ∀ q ∈ Y.2.1.2.2.2.2, gt_spA l ks Y.2.2.2.2.1 Y.1 y.cls rm q) : gt_M l ks y (gt_W y Y.2.2.2.2.1 Y.1 Y.2.2.2.2.2.1) rm (gt_sem ks Y) :=
  gt_met (E := Y.2.1) (sp := Y.2.2.1) (cs := Y.2.2.2.1) hy hd hE hC hSp (fun _ _ _ _ h => (gt_sem_s h).2)
theorem gt_semrc {ks : gt_KS} {Y : gt_Y} {ci : Nat} {cls : String} {T : u_T} {N : Nat} (hY : Y.2.2.2.2.2.2 = some ci) (hc : vwCl[ci]? = some (cls, T, N)) (as : List Value) (σ : gt_S) (o : Option Value × gt_S) (h : gt_sem ks Y as σ = some o) : ∃ (b : Nat) (as' : List Value) (ci : Nat) (sl : List (Option (Option Nat))) (T : u_T) (N : Nat), as = .ref b :: as' ∧ gt_kd ks σ.2.2.2 b = some (.inr (ci, sl)) ∧ vwCl[ci]? = some (cls, T, N) := by
  have h1 := (gt_sem_s h).1
  unfold gt_rv at h1
  rw [hY] at h1
  obtain ⟨b, as', sl, e1, e2⟩ := h1
  exact ⟨b, as', ci, sl, T, N, e1, e2, hc⟩
theorem gt_nsp0 {E : gt_E} {cs : List gt_I} (h : E.2.2.2.2 = []) : gt_nsp E cs = true := by
  unfold gt_nsp
  rw [List.all_eq_true]
  intro q _
  rw [h]
  simp [gt_lk]
