theorem gt_w_D2 {A : Nat → Prop} {ks : gt_KS} {cA : FieldType → Nat} {ad : Nat → Nat} {σ σ2 : gt_S} (hD : va_D A (gt_w ks cA ad σ)) (ht : σ2.2.2.2 = σ.2.2.2) : va_D A (gt_w ks cA ad σ2) := by
  have h1 := gt_w_D (sz := 0) hD ht
  refine ⟨h1.1, fun k q hk => ?_⟩
  unfold gt_w at hk
  rw [List.getElem?_map, ht] at hk
  cases hr : (List.range (gt_n ks σ.2.2.2))[k]? with
  | none => rw [hr] at hk; cases hk
  | some x =>
    rw [hr] at hk
    cases hk
    refine hD.2 k (ad x, match gt_kd ks σ.2.2.2 x with
      | some k => gt_c cA ad σ x k
      | none => .inr (0, [])) ?_
    unfold gt_w
    rw [List.getElem?_map, hr]
    rfl
theorem gt_w_same {ks ks' : gt_KS} {cA : FieldType → Nat} {ad : Nat → Nat} {σ : gt_S} (ht : σ.2.2.2 = []) (hn : ks.2 = ks'.2) (h : ∀ j, j < ks.2 → ks.1 j = ks'.1 j) : gt_w ks cA ad σ = gt_w ks' cA ad σ := by
  unfold gt_w gt_n
  rw [ht, hn]
  apply List.map_congr_left
  intro j hj
  have hj := List.mem_range.mp hj
  simp only [List.length_nil, Nat.mul_zero, Nat.add_zero] at hj
  have e : gt_kd ks [] j = gt_kd ks' [] j := by
    unfold gt_kd
    rw [if_pos (by rw [hn]; exact hj), if_pos hj]
    exact h j (by rw [hn]; exact hj)
  rw [e]
def gt_eqb (ks ks' : gt_KS) : Bool := decide (ks.2 = ks'.2) && (List.range ks.2).all fun j => decide (ks.1 j = ks'.1 j)
theorem gt_eqb_s {ks ks' : gt_KS} (h : gt_eqb ks ks' = true) : ks.2 = ks'.2 ∧ ∀ j, j < ks.2 → ks.1 j = ks'.1 j := by
  unfold gt_eqb at h
  simp only [Bool.and_eq_true, decide_eq_true_eq, List.all_eq_true] at h
  exact ⟨h.1, fun j hj => h.2 j (List.mem_range.mpr hj)⟩
def gt_kscb (n : Nat) : gt_K → Bool
  | .inl q => q.2.2.all fun r => decide (r < n)
  | .inr q => q.2.all fun x => match x with
    | some (some r) => decide (r = 999999) || decide (r < n)
    | _ => true
theorem gt_kscb_s {n : Nat} {k : gt_K} (h : gt_kscb n k = true) : gt_ksc n k := by
  rcases k with q | q
  · intro r hr
    have := List.all_eq_true.mp h r hr
    exact of_decide_eq_true this
  · intro x hx r hr
    have := List.all_eq_true.mp h x hx
    subst hr
    simpa using this
def gt_wfb (ks : gt_KS) : Bool := (List.range ks.2).all fun j => match ks.1 j with
  | some k => gt_kscb ks.2 k
  | none => true
theorem gt_wfb_s {ks : gt_KS} (h : gt_wfb ks = true) : gt_wf ks := by
  intro j k hj hk
  have := List.all_eq_true.mp h j (List.mem_range.mpr hj)
  rw [hk] at this
  exact gt_kscb_s this
def gt_vscb (n : Nat) : Value → Bool
  | .ref r => decide (r < n)
  | .retAddr _ => decide (n < 1000000)
  | _ => true
theorem gt_vscb_s {n : Nat} {v : Value} (h : gt_vscb n v = true) : gt_vsc n v := by
  cases v with
  | ref r => exact (of_decide_eq_true (show decide (r < n) = true from h) : r < n)
  | retAddr k => exact (of_decide_eq_true (show decide (n < 1000000) = true from h) : n < 1000000)
  | _ => trivial
theorem gt_ok_b {ks : gt_KS} {σ : gt_S} {lv : gt_L} {st : List Value} (h1 : σ.2.2.2 = []) (h2 : gt_ssc ks.2 σ) (h : (gt_wfb ks && (lv.all fun x => gt_vscb ks.2 x.2) && st.all (gt_vscb ks.2)) = true) : gt_ok ks σ lv st := by
  simp only [Bool.and_eq_true, List.all_eq_true] at h
  exact ⟨h1, gt_wfb_s h.1.1, h2, fun x hx => gt_vscb_s (h.1.2 x hx), fun x hx => gt_vscb_s (h.2 x hx)⟩
section GTK
variable {p : Program} {l : Launch} {e : Env} {R : Room} {s : State} {m : MethodId} {args : Array Value} {below : List Frame} {meth : Method} {c : Code} {Q : State → Prop}
variable {cc : ByteArray} {D : va_G} {cA : FieldType → Nat} {A : Nat → Prop} {H0 : Heap} {nL : Nat} {own : String} {Pa : (Nat → Nat) → Prop}
theorem gt_k_same {ks ks' : gt_KS} {σ : gt_S} {lv : gt_L} {st : List Value} {k n pc : Nat} (ht : σ.2.2.2 = []) (hb : gt_eqb ks ks' = true)
    (h : gt_JK (fun H locs k n pc ls st => W p l e R s m args below meth c H locs k n Q (F0 m pc ls st)) D vwCl cA A H0 nL Pa pc lv st ks' σ k n) :
    gt_JK (fun H locs k n pc ls st => W p l e R s m args below meth c H locs k n Q (F0 m pc ls st)) D vwCl cA A H0 nL Pa pc lv st ks σ k n := by
  intro ad ls H locs hpa hlv hP hD hS
  obtain ⟨e1, e2⟩ := gt_eqb_s hb
  rw [gt_w_same ht e1 e2] at hP hD
  exact h ad ls H locs hpa hlv hP hD hS
/-- a stretch that makes nothing -/
theorem gt_k_seg (hx : p.tables.exec = Jvm.exec) (hb : c.code = cc) (hown : s.vm.findClass own = some m.cls) (hts : ∀ w ∈ gt_T, w.before args s = true) (hNN : gt_NN s) (hK : va_K D vwCl (gt_tys cA) s) {E : gt_E} (hE : gt_eok (gt_T ++ gt_N) own vwCl E) {sp : List (Nat × List Nat)} {cs : List gt_I} (hd : gt_dok cc cs) {ks : gt_KS} {σ : gt_S} (ht : σ.2.2.2 = []) {lv : gt_L} {st : List Value} {k n pc : Nat} {o : gt_F} (hS0 : E.2.2.2.2 = [])
    (hC : ∀ ad : Nat → Nat, (∀ σ2 : gt_S, σ2.2.2.2 = [] → va_D A (gt_w ks cA ad σ2)) → gt_cok (gt_J (fun H locs pc ls st => W p l e R s m args below meth c H locs k n Q (F0 m pc ls st)) D vwCl ks cA ad A H0 [] nL) cc E)
    (hbx : gt_bx ks nL E sp 1000 (gt_sk pc cs) lv st σ = some o) (hto : o.2.2.2.2.2.2 = [])
    (h : gt_JK (fun H locs k n pc ls st => W p l e R s m args below meth c H locs k n Q (F0 m pc ls st)) D vwCl cA A H0 nL Pa o.1 o.2.1 o.2.2.1 ks o.2.2.2 k n) :
    gt_JK (fun H locs k n pc ls st => W p l e R s m args below meth c H locs k n Q (F0 m pc ls st)) D vwCl cA A H0 nL Pa pc lv st ks σ k n := by
  intro ad ls H locs hpa hlv hP hD hS
  have hDD : ∀ σ2 : gt_S, σ2.2.2.2 = [] → va_D A (gt_w ks cA ad σ2) := fun σ2 h2 => gt_w_D2 hD (h2.trans ht.symm)
  have hts2 : ∀ w ∈ gt_T ++ gt_N, w.before args s = true := fun w hw => (List.mem_append.mp hw).elim (hts w) (hNN.use w)
  cases hs : gt_sk pc cs with
  | nil =>
    rw [hs] at hbx
    cases hbx
  | cons q t =>
    have e1 := gt_sk_hd hs
    have key := gt_bx_w (J := gt_J (fun H locs pc ls st => W p l e R s m args below meth c H locs k n Q (F0 m pc ls st)) D vwCl ks cA ad A H0 [] nL) (E := E) (sp := sp) (ks := ks) (cc := cc)
      (fun pc lv lv' st σ2 hsub hJ ht ls H locs hlv hP hS => hJ ht ls H locs ⟨hlv.1, hlv.2.1, fun q hq => by
        obtain ⟨x, hx1, rfl⟩ := List.mem_map.mp hq
        exact hlv.2.2 _ (List.mem_map.mpr ⟨x, hsub x hx1, rfl⟩)⟩ hP hS)
      (fun q hq hl lv st σ2 κ o h hκ => by
        unfold gt_st1 at h
        rw [hS0] at h
        exact gt_stp_w rfl hx hb hown hts2 hK hDD hE (hC ad hDD) hq hl h hκ) 1000 (gt_sk pc cs) lv st σ o (fun q hq => hd q (gt_sk_sub hq)) hbx
      (fun ht2 ls H locs hlv hP hS => h ad ls H locs hpa hlv hP (hDD _ ht2) hS) q t hs
    rw [e1] at key
    exact key ht ls H locs hlv hP hS
end GTK
