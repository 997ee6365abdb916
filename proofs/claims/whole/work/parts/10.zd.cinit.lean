theorem gt_v_acat {n : Nat} {ad adX : Nat → Nat} (h0 : adX 0 = ad n) (hn : n < 1000000) {v : Value} (h : gt_vsc (n + 1) v) : gt_v (gt_acat n ad adX) v = gt_v ad v := by
  cases v <;> try rfl
  · rename_i r
    have hr : r < n + 1 := h
    refine congrArg Value.ref ?_
    by_cases e : r = n
    · subst e
      unfold gt_acat
      rw [if_neg (by omega), Nat.sub_self, h0]
    · exact if_pos (Or.inl (Nat.lt_of_le_of_ne (Nat.le_of_lt_succ hr) e))
  · exact congrArg Value.ref (if_pos (Or.inr (by omega)))
theorem gt_fv_null {ad ad' : Nat → Nat} {σ : gt_S} {j : Nat} (h1 : σ.1 j = fun _ => 0) (h2 : σ.2.1 j = fun _ => 0) : ∀ (sl : List (Option (Option Nat))) (k : Nat), (∀ x ∈ sl, x = none ∨ x = some none ∨ x = some (some 999999)) → gt_fv ad σ j k sl = gt_fv ad' gt_z 0 k sl
  | [], _, _ => rfl
  | x :: t, k, hs => by
    unfold gt_fv
    rw [gt_fv_null h1 h2 t (k + 1) (fun y hy => hs y (List.mem_cons_of_mem _ hy))]
    congr 1
    rcases hs x List.mem_cons_self with rfl | rfl | rfl
    · unfold gt_sv; dsimp only; rw [h1]; rfl
    · unfold gt_sv; dsimp only; rw [h2]; rfl
    · rfl
theorem gt_w1_eq {cA : FieldType → Nat} {ci : Nat} {sl : List (Option (Option Nat))} {h0 : Nat} : gt_w1 cA ci sl h0 = [(h0, .inr (ci, gt_fv (fun _ => h0) gt_z 0 0 sl))] := rfl
section GTK
variable {p : Program} {l : Launch} {e : Env} {R : Room} {s : State} {m : MethodId} {args : Array Value} {below : List Frame} {meth : Method} {c : Code} {Q : State → Prop}
variable {cc : ByteArray} {D : va_G} {cA : FieldType → Nat} {A : Nat → Prop} {H0 : Heap} {nL : Nat} {own : String} {Pa : (Nat → Nat) → Prop}
set_option maxHeartbeats 4000000 in
theorem gt_k_init (hx : p.tables.exec = Jvm.exec) (hb : c.code = cc) (hml : c.maxLocals = nL) (hown : s.vm.findClass own = some m.cls) (hts : ∀ w ∈ gt_T, w.before args s = true) (hK : va_K D vwCl (gt_tys cA) s) (hA : ∀ q, H0.size ≤ q → A q) (hN : gt_NN s) (hAO : gt_AO s) {ks kX : gt_KS} {σ σX : gt_S} {lv : gt_L} {st : List Value} (ht : σ.2.2.2 = []) (hw : gt_wf ks) (hs : gt_ssc ks.2 σ) (hlvs : ∀ x ∈ lv, gt_vsc (ks.2 + 1) x.2) (hsts : ∀ x ∈ st, gt_vsc (ks.2 + 1) x) (htX : σX.2.2.2 = []) (hwX : gt_wf kX) (hsX : gt_ssc kX.2 σX) (hm : ks.2 + kX.2 ≤ 999999) (hPa : ∀ ad adX, adX 0 = ad ks.2 → Pa ad → Pa (gt_acat ks.2 ad adX))
    {y : MethodName} {cy : ByteArray} {maxL ci idx mc ms k n pc : Nat} {rm : Room} {sl : List (Option (Option Nat))} (hM : gt_MI l y (gt_W y cy maxL none) rm ci sl kX σX mc ms) (hrm : rm.cells = mc ∧ rm.slots = ms) (hR : rm.frames + 1 ≤ R.frames ∧ 8 + (maxL + 11) + rm.locals ≤ R.locals) (hcode : Cond.code y cy maxL none ∈ gt_T) (hl : Cond.methodLink own idx y ∈ gt_T ∨ ∃ host, Cond.methodLinkNest own idx y host ∈ gt_N) (him : Cond.instanceMethod y ∈ gt_T) (hini : Cond.initialized y.cls ∈ gt_T) (hyn : y.name = "<init>") (hd : y.cls ≠ "java/lang/invoke/MethodHandle" ∧ y.cls ≠ "java/lang/invoke/VarHandle" ∧ (parseMethodDescriptor y.desc).map (fun d => d.parameters.length) = some 0)
    (hsl : ∀ x ∈ sl, x = none ∨ x = some none ∨ x = some (some 999999)) (hz1 : σ.1 ks.2 = fun _ => 0) (hz2 : σ.2.1 ks.2 = fun _ => 0) (hsum : (st.map fun v => v.category).sum ≤ 8) (hf : k + mc ≤ R.cells ∧ n + ms ≤ R.slots) (hdg : decode cc pc = .ok (.invokespecial idx, 3))
    (h : gt_JK (fun H locs k n pc ls st => W p l e R s m args below meth c H locs k n Q (F0 m pc ls st)) D vwCl cA A H0 nL Pa (pc + 3) lv st (gt_kcat ks kX) (gt_scat ks.2 σ σX) (k + mc) (n + ms)) :
    gt_JK (fun H locs k n pc ls st => W p l e R s m args below meth c H locs k n Q (F0 m pc ls st)) D vwCl cA A H0 nL Pa pc lv (.ref ks.2 :: st) (gt_add ks (.inr (ci, sl))) σ k n := by
  intro ad ls H locs hpa hlv hP hD hS
  have hup : gt_up ad ks.2 (ad ks.2) = ad := by
    funext j
    unfold gt_up
    split
    · rename_i q; rw [q]
    · rfl
  have hwe := gt_w_add (cA := cA) (ad := ad) (q := ad ks.2) (k0 := .inr (ci, sl)) ht hw hs
  rw [hup] at hwe
  have hobj : gt_c cA ad σ ks.2 (.inr (ci, sl)) = .inr (ci, gt_fv (fun _ => ad ks.2) gt_z 0 0 sl) := by
    unfold gt_c
    dsimp only
    rw [gt_fv_null (ad' := fun _ => ad ks.2) hz1 hz2 sl 0 hsl]
  rw [hobj, ← gt_w1_eq (cA := cA)] at hwe
  have hlen : (gt_w ks cA ad σ).length = ks.2 := by
    unfold gt_w gt_n
    rw [ht]
    simp
  have hC : ([ks.2] : List Nat).map (fun i => (gt_w (gt_add ks (.inr (ci, sl))) cA ad σ)[i]?) = (gt_w1 cA ci sl (ad ks.2)).map some := by
    rw [hwe, gt_w1_eq]
    simp only [List.map_cons, List.map_nil]
    rw [List.getElem?_append_right (by rw [hlen]; exact Nat.le_refl _), hlen, Nat.sub_self]
    rfl
  have hRr : (List.range ks.2).map (fun i => (gt_w (gt_add ks (.inr (ci, sl))) cA ad σ)[i]?) = (gt_w ks cA ad σ).map some := by
    rw [hwe]
    apply List.ext_getElem?
    intro i
    rw [List.getElem?_map, List.getElem?_map]
    by_cases hi : i < ks.2
    · rw [List.getElem?_range hi]
      simp only [Option.map_some]
      rw [List.getElem?_append_left (by rw [hlen]; exact hi)]
      rw [List.getElem?_eq_getElem (by rw [hlen]; exact hi)]
      rfl
    · rw [List.getElem?_eq_none (by rw [List.length_range]; omega), List.getElem?_eq_none (by rw [hlen]; omega)]
      rfl
  have hnd : ∀ (a : Nat), va_nd (List.range a) = true := by
    intro a
    have key : ∀ (l : List Nat), l.Nodup → va_nd l = true := by
      intro l hl
      induction l with
      | nil => rfl
      | cons x t ih =>
        rw [List.nodup_cons] at hl
        simp [va_nd, hl.1, ih hl.2]
    exact key _ List.nodup_range
  have hFc := va_free (wc := gt_w1 cA ci sl (ad ks.2)) hD hS hA [ks.2] hC
  have hP1 : va_P D vwCl (gt_w1 cA ci sl (ad ks.2)) H := hP.sub [ks.2] (by
    rw [hwe, gt_w1_eq]
    simp only [List.filterMap_cons, List.filterMap_nil]
    rw [List.getElem?_append_right (by rw [hlen]; exact Nat.le_refl _), hlen, Nat.sub_self]
    rfl)
  have hD1 : va_D (fun _ => True) (gt_w1 cA ci sl (ad ks.2)) := (hD.sub [ks.2] (by rfl) hC).weaken (fun _ _ _ _ => trivial)
  have hpre : PreS s H (gt_PI D cA ci sl (ad ks.2) H.size) (.ref (ad ks.2) :: []) := ⟨gt_PI_bl, fun U hU hW => ⟨rfl, by rw [hU], by rw [hU]; exact hP1, va_K.moved hW.alike hK, hD1, hN.warm hW, hAO.moved hW.alike⟩⟩
  have hrun : va_Run p l e R s m args below meth c H locs k n mc ms (F0 m pc ls (.ref (ad ks.2) :: st.map (gt_v ad))) (st.map (gt_v ad)) (gt_QI D cA ci sl kX σX (ad ks.2) H.size ([.ref (ad ks.2)] : List Value).toArray) (va_A (gt_w1 cA ci sl (ad ks.2)) H.size) := by
    rcases hl with hl | ⟨host, hl⟩
    · exact va_runI (As := []) ⟨hx, hb, hml, hown, hts⟩ (hM D cA (ad ks.2) H.size) ⟨callB_of 0 hts (gt_good hcode) rfl hrm.1 hrm.2 (hts _ hini) (hts _ hl) hd hR, hyn, hts _ him⟩ hpre rfl rfl hlv.1 rfl (lv_room (by rw [gt_sum_map]; exact hsum)) hdg hf
    · exact va_runIN (As := []) ⟨hx, hb, hml, hown, hts⟩ (hM D cA (ad ks.2) H.size) ⟨va_cnB 0 hts (gt_good hcode) rfl hrm.1 hrm.2 (hN _ hl) (hts _ hini) hd hR, hyn, hts _ him⟩ hpre rfl rfl hlv.1 rfl (lv_room (by rw [gt_sum_map]; exact hsum)) hdg hf
  intro T hT X
  obtain ⟨v, st₀, t, T', L, h0, X', hL, e1, e2, ⟨hv, ⟨adX, had, hPX, hDX⟩, hz, hk⟩, stp⟩ := hrun T hT X
  cases hv
  rw [h0] at hz hk
  obtain ⟨hP2, hD2⟩ := va_join (w1 := gt_w kX cA adX σX) hP hD [ks.2] (List.range ks.2) hC hRr (hnd _) (by
    intro i hi hc
    have h1 := List.mem_range.mp hi
    rcases List.mem_cons.mp hc with h2 | h2
    · omega
    · cases h2) hk hFc hPX hDX
  rw [← gt_w_cat (cA := cA) (ad := ad) (adX := adX) ht htX hw hs hwX hsX hm] at hP2 hD2
  have hlvE : lv.map (gt_lm (gt_acat ks.2 ad adX)) = lv.map (gt_lm ad) := by
    apply List.map_congr_left
    intro x hx
    unfold gt_lm
    rw [gt_v_acat had (by omega) (hlvs x hx)]
  have hstE : st.map (gt_v (gt_acat ks.2 ad adX)) = st.map (gt_v ad) := by
    apply List.map_congr_left
    intro x hx
    exact gt_v_acat had (by omega) (hsts x hx)
  have hgo := h (gt_acat ks.2 ad adX) ls T'.heap (locs ++ L) (hPa ad adX had hpa) (by rw [hlvE]; exact hlv) (by rw [e1]; exact hP2) hD2
    ⟨Nat.le_trans hS.1 (by rw [e1]; exact hz), fun q h1 h2 => by rw [e1, hk q (Nat.lt_of_lt_of_le h1 hS.1) (fun z => h2 (hFc q z))]; exact hS.2.1 q h1 h2, fun q hq => by
      rcases List.mem_append.mp hq with h | h
      · exact hS.2.2 q h
      · exact hFc _ (hL q h)⟩
  rw [hstE] at hgo
  obtain ⟨t2, a1, b1⟩ := hgo T' rfl X'
  exact ⟨t2, stp t2 a1, b1⟩
end GTK
