/-! rows of references: made, and filled -/
section GTK
variable {p : Program} {l : Launch} {e : Env} {R : Room} {s : State} {m : MethodId} {args : Array Value} {below : List Frame} {meth : Method} {c : Code} {Q : State → Prop}
variable {cc : ByteArray} {D : va_G} {cA : FieldType → Nat} {A : Nat → Prop} {H0 : Heap} {nL : Nat} {own : String} {Pa : (Nat → Nat) → Prop}
theorem gt_k_anew (hx : p.tables.exec = Jvm.exec) (hb : c.code = cc) (hown : s.vm.findClass own = some m.cls) (hts : ∀ w ∈ gt_T, w.before args s = true) (hK : va_K D vwCl (gt_tys cA) s) (hA : ∀ q, H0.size ≤ q → A q) {ks : gt_KS} {σ : gt_S} {lv : gt_L} {st : List Value} (hok : gt_ok ks σ lv st) (hPa : ∀ ad q, Pa ad → Pa (gt_up ad ks.2 q)) {C : String} {t0 index : Nat} (ht : (gt_tys cA)[t0]? = some (cA (.object C), .object C)) (hz : σ.2.2.1 ks.2 = fun _ => none) (hcl : Cond.classLink own index C ∈ gt_T) (hover : va_AO C s)
    {x : Int32} {N k n pc : Nat} (hn : ¬ x < 0) (hN : x.toNatClampNeg = N) (hbytes : N * 4 ≤ 536870912) (hcells : k + 1 ≤ R.cells) (hslots : n + N ≤ R.slots) (hdg : decode cc pc = .ok (.anewarray index, 3))
    (h : gt_JK (fun H locs k n pc ls st => W p l e R s m args below meth c H locs k n Q (F0 m pc ls st)) D vwCl cA A H0 nL Pa (pc + 3) lv (.ref ks.2 :: st) (gt_add ks (.inl (.object C, N, []))) σ (k + 1) (n + N)) :
    gt_JK (fun H locs k n pc ls st => W p l e R s m args below meth c H locs k n Q (F0 m pc ls st)) D vwCl cA A H0 nL Pa pc lv (.int x :: st) ks σ k n := by
  intro ad ls H locs hpa hlv hP hD hS
  obtain ⟨htx, hw, hs, hlvs, hsts⟩ := hok
  refine va_newq hx hb hown (hts _ hcl) hover hK hP hD hS hA hn hN hbytes hcells hslots hdg (fun q cB H1 hK1 hP1 hD1 hS1 => ?_)
  have hcB : cB = cA (.object C) := by
    have e1 := (hK1.2 (gt_tys cA).length (cB, .object C) (by rw [List.getElem?_append_right (Nat.le_refl _), Nat.sub_self]; rfl)).2
    have e2 := (hK.2 t0 _ ht).2
    obtain ⟨_, _, -, -, -, f1⟩ := e1
    obtain ⟨_, _, -, -, -, f2⟩ := e2
    exact Option.some.inj (f1.symm.trans f2)
  subst hcB
  have hwe := gt_w_add (cA := cA) (ad := ad) (q := q) (k0 := .inl (.object C, N, [])) htx hw hs
  have hce : gt_c cA (gt_up ad ks.2 q) σ ks.2 (.inl (.object C, N, [])) = .inl (cA (.object C), N, .inr (.inr (.inr (.inr (fun _ => none))))) := by
    unfold gt_c gt_ct gt_rf
    dsimp only
    rw [hz]
    rfl
  rw [hce] at hwe
  have := h (gt_up ad ks.2 q) ls H1 locs (hPa ad q hpa) (by rw [gt_lm_up hlvs]; exact hlv) (by rw [hwe]; exact hP1) (by rw [hwe]; exact hD1) hS1
  rw [List.map_cons, gt_st_up hsts] at this
  rw [show gt_v (gt_up ad ks.2 q) (.ref ks.2) = .ref q from congrArg Value.ref gt_up_self] at this
  exact this
theorem gt_k_aast (hx : p.tables.exec = Jvm.exec) (hb : c.code = cc) (hK : va_K D vwCl (gt_tys cA) s) {ks : gt_KS} {σ : gt_S} {lv : gt_L} {st : List Value} (htx : σ.2.2.2 = []) {C : String} {t0 ci a v N : Nat} {T : u_T} {NT : Nat} {sl : List (Option (Option Nat))} (ht : (gt_tys cA)[t0]? = some (cA (.object C), .object C)) (hc : vwCl[ci]? = some (C, T, NT)) (ha : gt_kd ks [] a = some (.inl (.object C, N, []))) (hv : gt_kd ks [] v = some (.inr (ci, sl)))
    {x : Int32} {k n pc i : Nat} (hin : ¬ (x < 0 ∨ N ≤ x.toNatClampNeg)) (hi : x.toNatClampNeg = i) (hdg : decode cc pc = .ok (.aastore, 1))
    (h : gt_JK (fun H locs k n pc ls st => W p l e R s m args below meth c H locs k n Q (F0 m pc ls st)) D vwCl cA A H0 nL Pa (pc + 1) lv st ks (σ.1, σ.2.1, gt_u σ.2.2.1 a i (some v), σ.2.2.2) k n) :
    gt_JK (fun H locs k n pc ls st => W p l e R s m args below meth c H locs k n Q (F0 m pc ls st)) D vwCl cA A H0 nL Pa pc lv (.ref v :: .int x :: .ref a :: st) ks σ k n := by
  intro ad ls H locs hpa hlv hP hD hS
  subst hi
  rw [← htx] at ha hv
  refine va_astq (r := (C, T, NT)) hx hb hK hP hD hS a t0 v ci (gt_w_at (cA := cA) (ad := ad) ha) ht (gt_w_at (cA := cA) (ad := ad) hv) hc hin hdg (fun H1 locs1 hP1 hD1 hS1 => ?_)
  have hset := gt_w_set (cA := cA) (ad := ad) (σ := σ) (σ' := (σ.1, σ.2.1, gt_u σ.2.2.1 a x.toNatClampNeg (some v), σ.2.2.2)) rfl (fun i hi => ⟨rfl, rfl, gt_ne_u hi⟩) ha
  have hce : gt_c cA ad (σ.1, σ.2.1, gt_u σ.2.2.1 a x.toNatClampNeg (some v), σ.2.2.2) a (.inl (.object C, N, [])) = .inl (cA (.object C), N, .inr (.inr (.inr (.inr (va_up (fun b => (σ.2.2.1 a b).map ad) x.toNatClampNeg (some (ad v))))))) := by
    unfold gt_c gt_ct gt_rf
    dsimp only
    rw [gt_rf_up]
    rfl
  rw [hce] at hset
  refine h ad ls H1 locs1 hpa hlv ?_ ?_ hS1
  · rw [← hset]; exact hP1
  · rw [← hset]; exact hD1
end GTK
