def va_AOA (t : FieldType) (U : State) : Prop := (Cond.arrayOver (.array t)).before #[] U = true
theorem va_AOA.use {t : FieldType} {A : Array Value} {U : State} (h : va_AOA t U) : (Cond.arrayOver (.array t)).before A U = true := h
/-! ===== BEGIN new T[n][m]: the outer array a place, the inner ones among the pooled ===== -/
/-- f, but v at every address of l -/
def vr_up {α : Type} (f : Nat → α) (l : List Nat) (v : α) : Nat → α := fun a => if a ∈ l then v else f a
theorem vr_up_in {α : Type} {f : Nat → α} {l : List Nat} {v : α} {a : Nat} (h : a ∈ l) : vr_up f l v a = v := if_pos h
theorem vr_up_ne {α : Type} {f : Nat → α} {l : List Nat} {v : α} {a : Nat} (h : a ∉ l) : vr_up f l v a = f a := if_neg h
theorem vr_rows {L l : List Nat} {f : Nat → va_E} {e : va_E} (h : ∀ a, a ∈ l → a ∉ L) : va_pl L f ++ l.map (fun a => (a, e)) = va_pl (L ++ l) (vr_up f l e) := by
  unfold va_pl
  rw [List.map_append]
  congr 1
  · apply List.map_congr_left
    intro a ha
    rw [vr_up_ne (fun q => h a q ha)]
  · apply List.map_congr_left
    intro a ha
    rw [vr_up_in ha]
theorem vr_lay {X rows : va_W} {x : Nat × va_E} {pl : va_W} {D : va_G} {cl : List vw_C} {H : Heap} (hP : va_P D cl (((X ++ pl) ++ [x]) ++ rows) H) : va_P D cl ((X ++ [x]) ++ (pl ++ rows)) H := by
  rw [List.append_assoc (X ++ pl)] at hP
  have h := va_P.swap hP
  rw [← List.append_assoc X] at h
  have h2 := va_P.swap h
  rw [List.append_assoc (X ++ [x])] at h2
  exact h2
theorem vr_layD {X rows : va_W} {x : Nat × va_E} {pl : va_W} {A : Nat → Prop} (hD : va_D A (((X ++ pl) ++ [x]) ++ rows)) : va_D A ((X ++ [x]) ++ (pl ++ rows)) := by
  rw [List.append_assoc (X ++ pl)] at hD
  have h := va_D.swap hD
  rw [← List.append_assoc X] at h
  have h2 := va_D.swap h
  rw [List.append_assoc (X ++ [x])] at h2
  exact h2
theorem vr_outer (c : ClassId) (N h0 : Nat) : ∀ i : Nat, Jvm.Free.Multi.outerC c N h0 i = arrV c N (fun j => va_rf (if j < i then some (h0 + 1 + j) else none))
  | 0 => by
    show ({ cls := c, slots := Array.replicate N .null, vm := .none } : Cell) = _
    rw [arrV_new]
    refine congrArg (arrV c N) (funext fun j => ?_)
    simp [va_rf]
  | i + 1 => by
    show (Jvm.Free.Multi.outerC c N h0 i).setSlot i (.ref (h0 + 1 + i)) = _
    rw [vr_outer c N h0 i, arrV_store]
    refine congrArg (arrV c N) (funext fun j => ?_)
    by_cases e : j = i
    · subst e
      simp [updV, va_rf]
    · by_cases h : j < i
      · simp [updV, e, h, Nat.lt_succ_of_lt h]
      · simp [updV, e, h, show ¬ j < i + 1 by omega]
section VGM
variable {p : Program} {l : Launch} {e : Env} {R : Room} {s : State} {m : MethodId} {args : Array Value} {below : List Frame} {meth : Method} {c : Code} {H : Heap} {locs : List Loc} {cells slots : Nat} {Q : State → Prop}
variable {cc : ByteArray} {pc : Nat} {ls : Array Slot} {rest : List Value} {D : va_G} {cl : List vw_C} {A : Nat → Prop} {a : Nat} {tys : List (ClassId × FieldType)} {ws : va_W} {H0 : Heap}
theorem va_mna {X : va_W} {L : List Nat} {f : Nat → va_E} {cc : ByteArray} (hexec : p.tables.exec = Jvm.exec) (hb : c.code = cc) {own : String} {index : Nat} {ty : FieldType} {cy : ClassId} (hown : s.vm.findClass own = some m.cls) (hclink : (Cond.classLink own index ("[" ++ (FieldType.array ty).toString)).before args s = true) (hover : va_AOA ty s) (harr : (Cond.arrayClass ty).before args s = true) (hcy : s.vm.findClass (FieldType.array ty).toString = some cy)
    (hK : va_K D cl tys s) (hP : va_P D cl (X ++ va_pl L f) H) (hD : va_D A (X ++ va_pl L f)) (hS : va_S A H0 H locs) (hA : ∀ q, H0.size ≤ q → A q) {n k : Int32} {N' K' : Nat} {z : vp_A} (hn : ¬ n < 0) (hk : ¬ k < 0) (hN : n.toNatClampNeg = N') (hM : k.toNatClampNeg = K')
    (hb1 : N' * 4 ≤ 536870912) (hb2 : K' * componentBytes ty ≤ 536870912) (hb3 : K' ≤ 536870912) (hdf : fits ty (defaultValue ty) = true) (hdd : (defaultValue ty).isDefault = true) (hcells : cells + (1 + N') ≤ R.cells) (hslots : slots + (N' + N' * K') ≤ R.slots) (hz : ∀ c : ClassId, Jvm.Free.Multi.innerC c K' (defaultValue ty) = vp_cell c z) (hdg : decode cc pc = .ok (.multianewarray index 2, 4))
    (kk : ∀ (q : Nat) (r : Nat → Nat) (cA : ClassId) (H1 : Heap), (∀ i j : Nat, i < N' → j < N' → r i = r j → i = j) → (∀ i : Nat, i < N' → r i ∉ L) → va_K D cl (tys ++ [(cA, .array ty)]) s →
      va_P D cl ((X ++ [(q, .inl (cA, N', .inr (.inr (.inr (.inr (fun i => if i < N' then some (r i) else none))))))]) ++ va_pl (L ++ (List.range N').map r) (vr_up f ((List.range N').map r) (.inl (cy, z)))) H1 → va_D A ((X ++ [(q, .inl (cA, N', .inr (.inr (.inr (.inr (fun i => if i < N' then some (r i) else none))))))]) ++ va_pl (L ++ (List.range N').map r) (vr_up f ((List.range N').map r) (.inl (cy, z)))) → va_S A H0 H1 locs →
      W p l e R s m args below meth c H1 locs (cells + 1 + N') (slots + N' + N' * K') Q (F0 m (pc + 4) ls (.ref q :: rest))) : W p l e R s m args below meth c H locs cells slots Q (F0 m pc ls (.int k :: .int n :: rest)) := by
  subst hN
  subst hM
  intro T hT Xs
  obtain ⟨vm₁, cA, comp, -, fA, fC, hO, -, X', step⟩ := Xs.multianewarray2F hexec hown hclink (va_AOA.use hover) harr (g := F0 m pc ls (.int k :: .int n :: rest)) rfl (by rw [hb]; exact hdg) rfl hn hk hb1 hb2 hb3 hdf hdd hcells hslots
  have ec : some cy = some comp := hcy.symm.trans fC
  cases ec
  generalize hF : Jvm.Free.Multi.fill (T.setVm vm₁) cA cy n.toNatClampNeg k.toNatClampNeg (defaultValue ty) n.toNatClampNeg = F at X' step
  have hTh : (T.setVm vm₁).heap = H := hT
  obtain ⟨f1, f2, -, -⟩ := Jvm.Free.Multi.fill_facts (T.setVm vm₁) cA cy n.toNatClampNeg k.toNatClampNeg (defaultValue ty) n.toNatClampNeg
  rw [hF, hTh] at f1 f2
  have hold : ∀ x : Nat, x < H.size → F.heap[x]? = H[x]? := fun x hx => by
    have := Jvm.Free.Multi.fill_old (T.setVm vm₁) cA cy n.toNatClampNeg k.toNatClampNeg (defaultValue ty) (a := x) (by rw [hTh]; exact hx) n.toNatClampNeg
    rw [hF, hTh] at this
    exact this
  have hrow : ∀ j : Nat, j < n.toNatClampNeg → F.heap[H.size + 1 + j]? = some (vp_cell cy z) := fun j hj => by
    have := Jvm.Free.Multi.fill_inner (T.setVm vm₁) cA cy n.toNatClampNeg k.toNatClampNeg (defaultValue ty) n.toNatClampNeg j hj
    rw [hF, hTh, hz] at this
    exact this
  have hout : Jvm.Free.Multi.outerC cA n.toNatClampNeg H.size n.toNatClampNeg = vp_cell cA (n.toNatClampNeg, .inr (.inr (.inr (.inr (fun i => if i < n.toNatClampNeg then some (H.size + 1 + i) else none))))) := by
    rw [vp_cell_q]
    exact vr_outer cA n.toNatClampNeg H.size n.toNatClampNeg
  rw [hout] at f2
  have hlt : ∀ a, a ∈ L → a < H.size := fun a ha => by
    obtain ⟨k9, hk9⟩ := va_pl_get (X := X) (f := f) ha
    exact (hP k9 _ hk9).lt
  have hnl : ∀ i : Nat, i < n.toNatClampNeg → H.size + 1 + i ∉ L := fun i _ h => by
    have := hlt _ h
    omega
  have hnm : ∀ a, a ∈ (List.range n.toNatClampNeg).map (fun i => H.size + 1 + i) → a ∉ L := fun a ha h => by
    obtain ⟨i, -, rfl⟩ := List.mem_map.mp ha
    have := hlt _ h
    omega
  have hP0 : va_P D cl (X ++ va_pl L f) F.heap := hP.kept (fun k9 x hx => hold x.1 ((hP k9 x hx).lt))
  have hP1 : va_P D cl ((X ++ va_pl L f) ++ [(H.size, .inl (cA, n.toNatClampNeg, .inr (.inr (.inr (.inr (fun i => if i < n.toNatClampNeg then some (H.size + 1 + i) else none))))))]) F.heap := hP0.app (fun k9 x hx => by
    have h0 : k9 < 1 := (List.getElem?_eq_some_iff.mp hx).1
    rw [show k9 = 0 by omega] at hx
    cases hx
    exact f2)
  have hP2 : va_P D cl (((X ++ va_pl L f) ++ [(H.size, .inl (cA, n.toNatClampNeg, .inr (.inr (.inr (.inr (fun i => if i < n.toNatClampNeg then some (H.size + 1 + i) else none))))))]) ++ ((List.range n.toNatClampNeg).map (fun i => H.size + 1 + i)).map (fun a => (a, .inl (cy, z)))) F.heap := hP1.app (fun k9 x hx => by
    obtain ⟨a, ha, rfl⟩ := List.mem_map.mp (List.mem_of_getElem? hx)
    obtain ⟨i, hi, rfl⟩ := List.mem_map.mp ha
    exact hrow i (List.mem_range.mp hi))
  have hD2 : va_D A (((X ++ va_pl L f) ++ [(H.size, .inl (cA, n.toNatClampNeg, .inr (.inr (.inr (.inr (fun i => if i < n.toNatClampNeg then some (H.size + 1 + i) else none))))))]) ++ ((List.range n.toNatClampNeg).map (fun i => H.size + 1 + i)).map (fun a => (a, .inl (cy, z)))) := by
    have hD1 := hD.push (e := .inl (cA, n.toNatClampNeg, .inr (.inr (.inr (.inr (fun i => if i < n.toNatClampNeg then some (H.size + 1 + i) else none)))))) hP rfl (hA _ hS.1)
    generalize hW1 : (X ++ va_pl L f) ++ [(H.size, .inl (cA, n.toNatClampNeg, .inr (.inr (.inr (.inr (fun i => if i < n.toNatClampNeg then some (H.size + 1 + i) else none))))))] = W1 at hD1 hP1 ⊢
    have hle : ∀ (k9 : Nat) (x : Nat × va_E), W1[k9]? = some x → x.1 ≤ H.size := fun k9 x hx => by
      rw [← hW1] at hx
      by_cases hl : k9 < (X ++ va_pl L f).length
      · rw [List.getElem?_append_left hl] at hx
        exact Nat.le_of_lt ((hP k9 x hx).lt)
      · rw [List.getElem?_append_right (by omega)] at hx
        have h0 : k9 - (X ++ va_pl L f).length < 1 := (List.getElem?_eq_some_iff.mp hx).1
        rw [show k9 - (X ++ va_pl L f).length = 0 by omega] at hx
        cases hx
        exact Nat.le_refl _
    have hr : ∀ (k9 : Nat) (x : Nat × va_E), (((List.range n.toNatClampNeg).map (fun i => H.size + 1 + i)).map (fun a => ((a, .inl (cy, z)) : Nat × va_E)))[k9]? = some x → x.1 = H.size + 1 + k9 := fun k9 x hx => by
      rw [List.getElem?_map, List.getElem?_map] at hx
      by_cases h9 : k9 < n.toNatClampNeg
      · rw [List.getElem?_range h9] at hx
        cases hx
        rfl
      · have hn0 : (List.range n.toNatClampNeg)[k9]? = none := List.getElem?_eq_none (by rw [List.length_range]; omega)
        rw [hn0] at hx
        cases hx
    refine ⟨fun i j x y hi hj hxy => ?_, fun k9 x hx => ?_⟩
    · by_cases h1 : i < W1.length <;> by_cases h2 : j < W1.length
      · rw [List.getElem?_append_left h1] at hi
        rw [List.getElem?_append_left h2] at hj
        exact hD1.1 i j x y hi hj hxy
      · rw [List.getElem?_append_left h1] at hi
        rw [List.getElem?_append_right (by omega)] at hj
        have := hle _ _ hi
        have := hr _ _ hj
        omega
      · rw [List.getElem?_append_right (by omega)] at hi
        rw [List.getElem?_append_left h2] at hj
        have := hle _ _ hj
        have := hr _ _ hi
        omega
      · rw [List.getElem?_append_right (by omega)] at hi hj
        have := hr _ _ hi
        have := hr _ _ hj
        omega
    · by_cases h1 : k9 < W1.length
      · rw [List.getElem?_append_left h1] at hx
        exact hD1.2 k9 x hx
      · rw [List.getElem?_append_right (by omega)] at hx
        have := hr _ _ hx
        exact hA _ (by have := hS.1; omega)
  have hAr : ArrOfT s cA (.array ty) := fun N9 z9 => by
    obtain ⟨-, k9, hk9, cm9, hkk9⟩ := (hO 0 0 0).1
    exact ⟨(fun q hq => by cases hq), k9, hk9, cm9, hkk9⟩
  have hK2 : va_K D cl (tys ++ [(cA, .array ty)]) s := ⟨hK.1, fun k9 x hx => by
    by_cases hl : k9 < tys.length
    · rw [List.getElem?_append_left hl] at hx
      exact hK.2 k9 x hx
    · rw [List.getElem?_append_right (by omega)] at hx
      have h0 : k9 - tys.length < 1 := (List.getElem?_eq_some_iff.mp hx).1
      rw [show k9 - tys.length = 0 by omega] at hx
      cases hx
      exact ⟨hAr, fA⟩⟩
  obtain ⟨t, a1, b1⟩ := kk H.size (fun i => H.size + 1 + i) cA F.heap (fun i j _ _ h => by have h9 : H.size + 1 + i = H.size + 1 + j := h; omega) hnl hK2 (by rw [← vr_rows hnm]; exact vr_lay hP2) (by rw [← vr_rows hnm]; exact vr_layD hD2) ⟨by rw [f1]; have := hS.1; omega, fun x h1 h2 => (hold x (Nat.lt_of_lt_of_le h1 hS.1)).trans (hS.2.1 x h1 h2), hS.2.2⟩ F rfl X'
  refine ⟨t, step t ?_, b1⟩
  have e : T.heap.size = H.size := by rw [hT]
  rw [e]
  exact a1
end VGM
/-! ===== END ===== -/
/-! rows of rows -/
def gt_kmu (ty : FieldType) (N K : Nat) : gt_KS := (fun j => if j = 0 then some (.inl (.array ty, N, (List.range N).map (· + 1))) else some (.inl (ty, K, [])), N + 1)
theorem gt_kmu_wf (ty : FieldType) (N K : Nat) : gt_wf (gt_kmu ty N K) := by
  intro j k hj hk
  unfold gt_kmu at hk
  dsimp only at hk
  split at hk
  · cases hk
    intro r hr
    obtain ⟨i, hi, rfl⟩ := List.mem_map.mp hr
    have := List.mem_range.mp hi
    show i + 1 < N + 1
    omega
  · cases hk
    intro r hr
    cases hr
section GTK
variable {p : Program} {l : Launch} {e : Env} {R : Room} {s : State} {m : MethodId} {args : Array Value} {below : List Frame} {meth : Method} {c : Code} {Q : State → Prop}
variable {cc : ByteArray} {D : va_G} {cA : FieldType → Nat} {A : Nat → Prop} {H0 : Heap} {nL : Nat} {own : String} {Pa : (Nat → Nat) → Prop}
set_option maxHeartbeats 4000000 in
theorem gt_k_mna (hx : p.tables.exec = Jvm.exec) (hb : c.code = cc) (hown : s.vm.findClass own = some m.cls) (hts : ∀ w ∈ gt_T, w.before args s = true) (hK : va_K D vwCl (gt_tys cA) s) (hA : ∀ q, H0.size ≤ q → A q) {ks : gt_KS} {σ : gt_S} {lv : gt_L} {st : List Value} (hok : gt_ok ks σ lv st) {ty : FieldType} (hT : ty = .int ∨ ty = .long) (hover : va_AOA ty s) (harr : Cond.arrayClass ty ∈ gt_T) {index : Nat} (hcl : Cond.classLink own index ("[" ++ (FieldType.array ty).toString) ∈ gt_T)
    {x y : Int32} {N K k n pc : Nat} (hPa : ∀ ad adX, Pa ad → Pa (gt_acat ks.2 ad adX)) (hN0 : 0 < N) (hn : ¬ y < 0) (hk : ¬ x < 0) (hN : y.toNatClampNeg = N) (hM : x.toNatClampNeg = K) (hb1 : N * 4 ≤ 536870912) (hb2 : K * componentBytes ty ≤ 536870912) (hb3 : K ≤ 536870912) (hcells : k + (1 + N) ≤ R.cells) (hslots : n + (N + N * K) ≤ R.slots) (hm : ks.2 + (N + 1) ≤ 999999) (hdg : decode cc pc = .ok (.multianewarray index 2, 4))
    (h : gt_JK (fun H locs k n pc ls st => W p l e R s m args below meth c H locs k n Q (F0 m pc ls st)) D vwCl cA A H0 nL Pa (pc + 4) lv (.ref ks.2 :: st) (gt_kcat ks (gt_kmu ty N K)) (gt_scat ks.2 σ gt_z) (k + 1 + N) (n + N + N * K)) :
    gt_JK (fun H locs k n pc ls st => W p l e R s m args below meth c H locs k n Q (F0 m pc ls st)) D vwCl cA A H0 nL Pa pc lv (.int x :: .int y :: st) ks σ k n := by
  intro ad ls H locs hpa hlv hP hD hS
  obtain ⟨htx, hw, hs, hlvs, hsts⟩ := hok
  have hcy : s.vm.findClass (FieldType.array ty).toString = some (cA ty) := by
    rcases hT with rfl | rfl
    · exact (hK.2 0 (cA .int, .int) rfl).2
    · exact (hK.2 1 (cA .long, .long) rfl).2
  have hz : ∀ cB : ClassId, Jvm.Free.Multi.innerC cB K (defaultValue ty) = vp_cell cB (K, gt_ct (fun j => j) gt_z 0 ty []) := by
    intro cB
    rcases hT with rfl | rfl
    · exact arrV_new cB K (.int 0)
    · exact arrV_new cB K (.long 0)
  refine va_mna (X := gt_w ks cA ad σ) (L := []) (f := fun _ => .inr (0, [])) hx hb hown (hts _ hcl) hover (hts _ harr) hcy hK (by simpa [va_pl] using hP) (by simpa [va_pl] using hD) hS hA hn hk hN hM hb1 hb2 hb3 (by rcases hT with rfl | rfl <;> rfl) (by rcases hT with rfl | rfl <;> rfl) hcells hslots hz hdg (fun q r cB H1 hinj hnot hK1 hP1 hD1 hS1 => ?_)
  have hcB : cB = cA (.array ty) := by
    have e1 := (hK1.2 (gt_tys cA).length (cB, .array ty) (by rw [List.getElem?_append_right (Nat.le_refl _), Nat.sub_self]; rfl)).2
    rcases hT with rfl | rfl
    · exact Option.some.inj (e1.symm.trans (hK.2 6 (cA (.array .int), .array .int) rfl).2)
    · exact Option.some.inj (e1.symm.trans (hK.2 5 (cA (.array .long), .array .long) rfl).2)
  subst hcB
  have hloc : gt_w (gt_kmu ty N K) cA (fun i => if i = 0 then q else r (i - 1)) gt_z = [(q, .inl (cA (.array ty), N, .inr (.inr (.inr (.inr (fun i => if i < N then some (r i) else none))))))] ++ va_pl ([] ++ (List.range N).map r) (vr_up (fun _ => .inr (0, [])) ((List.range N).map r) (.inl (cA ty, K, gt_ct (fun j => j) gt_z 0 ty []))) := by
    have e0 : gt_w (gt_kmu ty N K) cA (fun i => if i = 0 then q else r (i - 1)) gt_z = (List.range (N + 1)).map fun j => ((if j = 0 then q else r (j - 1)), match gt_kd (gt_kmu ty N K) [] j with
      | some k => gt_c cA (fun i => if i = 0 then q else r (i - 1)) gt_z j k
      | none => .inr (0, [])) := rfl
    rw [e0, List.range_succ_eq_map, List.map_cons, List.map_map, List.nil_append]
    show _ :: _ = _ :: _
    congr 1
    · have e1 : gt_kd (gt_kmu ty N K) [] 0 = some (.inl (.array ty, N, (List.range N).map (· + 1))) := by
        unfold gt_kd gt_kmu
        dsimp only
        rw [if_pos (Nat.succ_pos N), if_pos rfl]
      rw [e1, if_pos rfl]
      unfold gt_c gt_ct
      dsimp only
      congr 6
      congr 2
      funext i
      have e2 : gt_rf ((List.range N).map (· + 1)) gt_z 0 i = ((List.range N).map (· + 1))[i]? := by
        unfold gt_rf
        split
        · rename_i hnil
          have := congrArg List.length hnil
          simp at this
          omega
        · rfl
      rw [e2, List.getElem?_map]
      by_cases hi : i < N
      · rw [List.getElem?_range hi, if_pos hi]
        simp
      · rw [List.getElem?_eq_none (by rw [List.length_range]; omega), if_neg hi]
        rfl
    · unfold va_pl
      rw [List.map_map]
      apply List.map_congr_left
      intro i hi
      have hi := List.mem_range.mp hi
      have e1 : gt_kd (gt_kmu ty N K) [] (i + 1) = some (.inl (ty, K, [])) := by
        unfold gt_kd gt_kmu
        dsimp only
        rw [if_pos (by omega), if_neg (Nat.succ_ne_zero i)]
      simp only [Function.comp, Nat.succ_eq_add_one]
      rw [e1, if_neg (Nat.succ_ne_zero i), Nat.add_sub_cancel, vr_up_in (List.mem_map.mpr ⟨i, List.mem_range.mpr hi, rfl⟩)]
      rcases hT with rfl | rfl <;> rfl
  have hcat := gt_w_cat (cA := cA) (ad := ad) (adX := fun i => if i = 0 then q else r (i - 1)) (σX := gt_z) htx rfl hw hs (gt_kmu_wf ty N K) (fun _ _ _ h => by cases h) hm
  rw [hloc, ← List.append_assoc] at hcat
  have hlvE : lv.map (gt_lm (gt_acat ks.2 ad fun i => if i = 0 then q else r (i - 1))) = lv.map (gt_lm ad) := by
    apply List.map_congr_left
    intro z hz2
    unfold gt_lm
    have h9 := hlvs z hz2
    congr 1
    cases hv : z.2 <;> try rfl
    · rw [hv] at h9
      exact congrArg Value.ref (if_pos (Or.inl h9))
    · exact congrArg Value.ref (if_pos (Or.inr (by omega)))
  have hstE : st.map (gt_v (gt_acat ks.2 ad fun i => if i = 0 then q else r (i - 1))) = st.map (gt_v ad) := by
    apply List.map_congr_left
    intro z hz2
    have h9 := hsts z hz2
    cases hv : z <;> try rfl
    · rw [hv] at h9
      exact congrArg Value.ref (if_pos (Or.inl h9))
    · exact congrArg Value.ref (if_pos (Or.inr (by omega)))
  have hgo := h (gt_acat ks.2 ad fun i => if i = 0 then q else r (i - 1)) ls H1 locs (hPa _ _ hpa) (by rw [hlvE]; exact hlv) (by rw [hcat]; exact hP1) (by rw [hcat]; exact hD1) hS1
  rw [List.map_cons, hstE] at hgo
  rw [show gt_v (gt_acat ks.2 ad fun i => if i = 0 then q else r (i - 1)) (.ref ks.2) = .ref q from congrArg Value.ref (by unfold gt_acat; rw [if_neg (by omega), Nat.sub_self]; rfl)] at hgo
  exact hgo
end GTK
