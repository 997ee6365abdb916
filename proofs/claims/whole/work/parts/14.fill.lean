/-! PURE: Arrays.fill(int[], int), over any layout -/
def gt_fi {α : Type} (f : Nat → Nat → α) (a i n : Nat) (v : α) : Nat → Nat → α := fun j k => if j = a ∧ i ≤ k ∧ k < n then v else f j k
theorem gt_fi_0 {α : Type} {f : Nat → Nat → α} {a i : Nat} {v : α} : gt_fi f a i i v = f := by
  funext j k
  unfold gt_fi
  rw [if_neg (by omega)]
theorem gt_fi_s {α : Type} {f : Nat → Nat → α} {a i0 i : Nat} {v : α} (h : i0 ≤ i) : gt_u (gt_fi f a i0 i v) a i v = gt_fi f a i0 (i + 1) v := by
  funext j k
  unfold gt_u gt_fi
  by_cases hj : j = a
  · subst hj
    by_cases hk : k = i
    · subst hk
      rw [if_pos rfl, if_pos rfl, if_pos ⟨rfl, h, by omega⟩]
    · rw [if_pos rfl, if_neg hk]
      by_cases h2 : i0 ≤ k ∧ k < i
      · rw [if_pos ⟨rfl, h2.1, h2.2⟩, if_pos ⟨rfl, h2.1, by omega⟩]
      · rw [if_neg (by omega), if_neg (by omega)]
  · rw [if_neg hj, if_neg (fun q => hj q.1), if_neg (fun q => hj q.1)]
theorem gt_stI_n {ks : gt_KS} {σ : gt_S} {a n i : Nat} {rs : List Nat} {v : Int32} (hk : gt_kd ks σ.2.2.2 a = some (.inl (.int, n, rs))) (hi : i < n) (hn : n < 2 ^ 31) : gt_stI ks σ a (nI i) v = some (gt_u σ.1 a i v, σ.2) := by
  unfold gt_stI
  rw [hk]
  dsimp only
  rw [if_neg (nI_in hi hn), nI_clamp (by omega)]
set_option maxRecDepth 100000 in
theorem b_J5_0 (ks : gt_KS) (a : Nat) (v : Int32) (σ : gt_S) : gt_bx ks 4 Y_J5.2.1 Y_J5.2.2.1 1000 (gt_sk 0 cs_J5) [(0, .ref a), (1, .int v)] [] σ = (gt_ln ks σ a).bind fun n => some (5, [(0, .ref a), (1, .int v), (2, .int (Int32.ofInt 0)), (3, .int (Int32.ofNat n))], [], σ) := rfl
set_option maxRecDepth 100000 in
theorem b_J5_5 (ks : gt_KS) (a : Nat) (v x2 x3 : Int32) (σ : gt_S) : gt_bx ks 4 Y_J5.2.1 Y_J5.2.2.1 1000 (gt_sk 5 cs_J5) [(0, .ref a), (1, .int v), (2, .int x2), (3, .int x3)] [] σ = gt_br .ge x2 x3 (some (20, [], [], σ)) ((gt_stI ks σ a x2 v).bind fun σ1 => some (5, [(0, .ref a), (1, .int v), (2, .int (x2 + Int32.ofInt 1)), (3, .int x3)], [], σ1)) := rfl
theorem gt_I0 : Int32.ofInt 0 = nI 0 := by decide
theorem gt_I1 : Int32.ofInt 1 = nI 1 := by decide
theorem pf_fill {ks : gt_KS} {a n : Nat} {rs : List Nat} {v : Int32} {σ : gt_S} (hk : gt_kd ks σ.2.2.2 a = some (.inl (.int, n, rs))) (hn : n < 2 ^ 31) : gt_sem ks Y_J5 [.ref a, .int v] σ = some (none, (gt_fi σ.1 a 0 n v, σ.2)) := by
  have hret : decode cJ5 20 = .ok (.return_, 1) := by decide +kernel
  refine gt_sem_i (Y := Y_J5) d_J5 (gt_nsp0 rfl) ⟨trivial, Nat.le_of_ble_eq_true rfl, (20, [], [], (gt_fi σ.1 a 0 n v, σ.2)), ?_, rfl, rfl, hret, rfl⟩
  have hl : gt_ln ks σ a = some n := by
    unfold gt_ln
    rw [hk]
    simp
  have loop : ∀ (k i : Nat), i + k = n → gt_R ks 4 Y_J5.2.1 Y_J5.2.2.1 cs_J5 (5, [(0, .ref a), (1, .int v), (2, .int (nI i)), (3, .int (nI n))], [], (gt_fi σ.1 a 0 i v, σ.2)) (20, [], [], (gt_fi σ.1 a 0 n v, σ.2)) := by
    intro k
    induction k with
    | zero =>
      intro i hi
      have hi : i = n := by omega
      subst hi
      refine gt_R.st (b := (20, [], [], (gt_fi σ.1 a 0 i v, σ.2))) ?_ (gt_R_rf _)
      rw [b_J5_5]
      unfold gt_br
      dsimp only
      rw [if_neg (nI_nlt (Nat.le_refl i) hn)]
    | succ k ih =>
      intro i hi
      refine gt_R.st (b := (5, [(0, .ref a), (1, .int v), (2, .int (nI (i + 1))), (3, .int (nI n))], [], (gt_fi σ.1 a 0 (i + 1) v, σ.2))) ?_ (ih (i + 1) (by omega))
      rw [b_J5_5]
      unfold gt_br
      dsimp only
      rw [if_pos (nI_lt (by omega) hn), gt_stI_n (σ := (gt_fi σ.1 a 0 i v, σ.2)) hk (by omega) hn, gt_I1, nI_add]
      dsimp only [Option.bind]
      rw [gt_fi_s (Nat.zero_le _)]
  refine gt_R.st (b := (5, [(0, .ref a), (1, .int v), (2, .int (nI 0)), (3, .int (nI n))], [], (gt_fi σ.1 a 0 0 v, σ.2))) ?_ (loop n 0 (by omega))
  show gt_bx ks 4 Y_J5.2.1 Y_J5.2.2.1 1000 (gt_sk 0 cs_J5) [(0, .ref a), (1, .int v)] [] σ = _
  rw [b_J5_0, hl, gt_I0, gt_fi_0]
  rfl
theorem mg_J5 (l : Launch) (ks : gt_KS) : gt_M l ks yJ5 (gt_W yJ5 cJ5 4 none) { frames := 0, cells := 0, slots := 0, locals := 0 } (gt_sem ks Y_J5) := gt_metS (Y := Y_J5) (by decide) d_J5 ⟨fun _ h => absurd h List.not_mem_nil, fun _ h => absurd h List.not_mem_nil, fun _ h => absurd h List.not_mem_nil⟩ (fun _ h => absurd h List.not_mem_nil) gt_noS
