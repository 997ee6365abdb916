/-! a sub-object's constructor: its layout behind the caller's -/
def gt_sh (b : Nat) : gt_K → gt_K
  | .inl q => .inl (q.1, q.2.1, q.2.2.map (· + b))
  | .inr q => .inr (q.1, q.2.map fun x => match x with
    | some (some r) => if r = 999999 then some (some 999999) else some (some (r + b))
    | x => x)
def gt_kcat (ks kX : gt_KS) : gt_KS := (fun i => if i < ks.2 then ks.1 i else (kX.1 (i - ks.2)).map (gt_sh ks.2), ks.2 + kX.2)
def gt_scat (n : Nat) (σ σX : gt_S) : gt_S := (fun i => if i < n then σ.1 i else σX.1 (i - n), fun i => if i < n then σ.2.1 i else σX.2.1 (i - n), fun i => if i < n then σ.2.2.1 i else fun k => (σX.2.2.1 (i - n) k).map (· + n), [])
def gt_acat (n : Nat) (ad adX : Nat → Nat) : Nat → Nat := fun i => if i < n ∨ 1000000 ≤ i then ad i else adX (i - n)
theorem gt_fv_ad {ad ad' : Nat → Nat} {n : Nat} (h : ∀ r, r < n → ad' r = ad r) {σ : gt_S} {j : Nat} : ∀ (sl : List (Option (Option Nat))) (k : Nat), (∀ x ∈ sl, ∀ r, x = some (some r) → r = 999999 ∨ r < n) → gt_fv ad' σ j k sl = gt_fv ad σ j k sl
  | [], _, _ => rfl
  | x :: t, k, hs => by
    unfold gt_fv
    rw [gt_fv_ad h t (k + 1) (fun y hy => hs y (List.mem_cons_of_mem _ hy))]
    congr 1
    rcases x with _ | _ | r
    · rfl
    · rfl
    · unfold gt_sv
      dsimp only
      rcases hs _ List.mem_cons_self r rfl with q | q
      · rw [if_pos q, if_pos q]
      · rw [h r q]
theorem gt_c_ad {cA : FieldType → Nat} {ad ad' : Nat → Nat} {n : Nat} (h : ∀ r, r < n → ad' r = ad r) {σ : gt_S} {j : Nat} {k : gt_K} (hk : gt_ksc n k) (hs : gt_ssc n σ) : gt_c cA ad' σ j k = gt_c cA ad σ j k := by
  rcases k with ⟨ty, n0, rs⟩ | ⟨ci, sl⟩
  · have hr : (fun k => (gt_rf rs σ j k).map ad') = fun k => (gt_rf rs σ j k).map ad := by
      funext k
      cases hx : gt_rf rs σ j k with
      | none => rfl
      | some r =>
        have hlt : r < n := by
          unfold gt_rf at hx
          split at hx
          · exact hs j k r hx
          · exact hk r (List.mem_of_getElem? hx)
        simp only [Option.map_some]
        rw [h r hlt]
    unfold gt_c gt_ct
    dsimp only
    rw [hr]
  · unfold gt_c
    dsimp only
    rw [gt_fv_ad h sl 0 hk]
theorem gt_c_shift {cA : FieldType → Nat} {ad adX : Nat → Nat} {n m0 : Nat} (hm : n + m0 ≤ 999999) {σ σX : gt_S} {j : Nat} {k : gt_K} (hk : gt_ksc m0 k) (hs : gt_ssc m0 σX) : gt_c cA (gt_acat n ad adX) (gt_scat n σ σX) (n + j) (gt_sh n k) = gt_c cA adX σX j k := by
  have ha : ∀ r, r < m0 → gt_acat n ad adX (r + n) = adX r := by
    intro r hr
    unfold gt_acat
    rw [if_neg (by omega), Nat.add_sub_cancel]
  have e1 : (gt_scat n σ σX).1 (n + j) = σX.1 j := by
    show (if n + j < n then σ.1 (n + j) else σX.1 (n + j - n)) = _
    rw [if_neg (by omega), Nat.add_sub_cancel_left]
  have e2 : (gt_scat n σ σX).2.1 (n + j) = σX.2.1 j := by
    show (if n + j < n then σ.2.1 (n + j) else σX.2.1 (n + j - n)) = _
    rw [if_neg (by omega), Nat.add_sub_cancel_left]
  have e3 : (gt_scat n σ σX).2.2.1 (n + j) = fun k => (σX.2.2.1 j k).map (· + n) := by
    show (if n + j < n then σ.2.2.1 (n + j) else fun k => (σX.2.2.1 (n + j - n) k).map (· + n)) = _
    rw [if_neg (by omega), Nat.add_sub_cancel_left]
  rcases k with ⟨ty, n0, rs⟩ | ⟨ci, sl⟩
  · have hr : (fun k => (gt_rf (rs.map (· + n)) (gt_scat n σ σX) (n + j) k).map (gt_acat n ad adX)) = fun k => (gt_rf rs σX j k).map adX := by
      funext k
      cases rs with
      | nil =>
        show ((gt_scat n σ σX).2.2.1 (n + j) k).map _ = (σX.2.2.1 j k).map _
        rw [e3]
        dsimp only
        cases hx : σX.2.2.1 j k with
        | none => rfl
        | some r =>
          simp only [Option.map_some]
          rw [ha r (hs j k r hx)]
      | cons r0 rt =>
        show (((r0 :: rt).map (· + n))[k]?).map _ = ((r0 :: rt)[k]?).map _
        rw [List.getElem?_map]
        cases hx : (r0 :: rt)[k]? with
        | none => rfl
        | some r =>
          simp only [Option.map_some]
          rw [ha r (hk r (List.mem_of_getElem? hx))]
    unfold gt_sh gt_c gt_ct
    dsimp only
    rw [hr, e1, e2]
  · unfold gt_sh gt_c
    dsimp only
    congr 2
    have key : ∀ (sl : List (Option (Option Nat))) (k : Nat), (∀ x ∈ sl, ∀ r, x = some (some r) → r = 999999 ∨ r < m0) → gt_fv (gt_acat n ad adX) (gt_scat n σ σX) (n + j) k (sl.map fun x => match x with
        | some (some r) => if r = 999999 then some (some 999999) else some (some (r + n))
        | x => x) = gt_fv adX σX j k sl := by
      intro sl
      induction sl with
      | nil => intro k _; rfl
      | cons x t ih =>
        intro k hsl
        rw [List.map_cons]
        unfold gt_fv
        rw [ih (k + 1) (fun y hy => hsl y (List.mem_cons_of_mem _ hy))]
        congr 1
        rcases x with _ | _ | r
        · unfold gt_sv; dsimp only; rw [e1]
        · unfold gt_sv; dsimp only; rw [e2]
        · unfold gt_sv
          dsimp only
          rcases hsl _ List.mem_cons_self r rfl with q | q
          · rw [if_pos q]
            dsimp only
            rw [if_pos rfl, if_pos q]
          · rw [if_neg (by omega)]
            dsimp only
            rw [if_neg (by omega), if_neg (by omega), ha r q]
    exact key sl 0 hk
theorem gt_w_cat {ks kX : gt_KS} {cA : FieldType → Nat} {ad adX : Nat → Nat} {σ σX : gt_S} (ht : σ.2.2.2 = []) (htX : σX.2.2.2 = []) (hw : gt_wf ks) (hs : gt_ssc ks.2 σ) (hwX : gt_wf kX) (hsX : gt_ssc kX.2 σX) (hm : ks.2 + kX.2 ≤ 999999) : gt_w (gt_kcat ks kX) cA (gt_acat ks.2 ad adX) (gt_scat ks.2 σ σX) = gt_w ks cA ad σ ++ gt_w kX cA adX σX := by
  have e0 : (gt_scat ks.2 σ σX).2.2.2 = [] := rfl
  unfold gt_w gt_n
  rw [ht, htX, e0]
  simp only [List.length_nil, Nat.mul_zero, Nat.add_zero]
  show (List.range (ks.2 + kX.2)).map _ = _
  rw [List.range_add, List.map_append, List.map_map]
  congr 1
  · apply List.map_congr_left
    intro j hj
    have hj := List.mem_range.mp hj
    have e1 : gt_kd (gt_kcat ks kX) [] j = gt_kd ks [] j := by
      unfold gt_kd gt_kcat
      dsimp only
      rw [if_pos (by omega), if_pos hj, if_pos hj]
    have e2 : gt_acat ks.2 ad adX j = ad j := if_pos (Or.inl hj)
    rw [e1, e2]
    congr 1
    cases hk : gt_kd ks [] j with
    | none => rfl
    | some k =>
      dsimp only
      have hkk : gt_ksc ks.2 k := by
        refine hw j k hj ?_
        unfold gt_kd at hk
        rwa [if_pos hj] at hk
      have h1 : (gt_scat ks.2 σ σX).1 j = σ.1 j := if_pos hj
      have h2 : (gt_scat ks.2 σ σX).2.1 j = σ.2.1 j := if_pos hj
      have h3 : (gt_scat ks.2 σ σX).2.2.1 j = σ.2.2.1 j := if_pos hj
      rw [gt_c_congr h1 h2 h3]
      exact gt_c_ad (ad' := gt_acat ks.2 ad adX) (n := ks.2) (fun r hr => if_pos (Or.inl hr)) hkk hs
  · apply List.map_congr_left
    intro j hj
    have hj := List.mem_range.mp hj
    have e1 : gt_kd (gt_kcat ks kX) [] (ks.2 + j) = (gt_kd kX [] j).map (gt_sh ks.2) := by
      unfold gt_kd gt_kcat
      dsimp only
      rw [if_pos (by omega), if_neg (by omega), if_pos hj, Nat.add_sub_cancel_left]
    have e2 : gt_acat ks.2 ad adX (ks.2 + j) = adX j := by
      unfold gt_acat
      rw [if_neg (by omega), Nat.add_sub_cancel_left]
    simp only [Function.comp]
    rw [e1, e2]
    congr 1
    cases hk : gt_kd kX [] j with
    | none => rfl
    | some k =>
      dsimp only [Option.map]
      refine gt_c_shift hm ?_ hsX
      refine hwX j k hj ?_
      unfold gt_kd at hk
      rwa [if_pos hj] at hk
