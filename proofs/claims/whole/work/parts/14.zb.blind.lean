def kx_X0 : gt_KS := (fun j => (if j < 9 then (if j < 4 then (if j < 2 then (if j < 1 then some (.inr (0, [some (some 1), some (some 2), some (some 8), some (some 14), some (some 15), some (some 16), some (some 17), some none, none, none, none, none])) else some (.inl (.long, 495, []))) else (if j < 3 then some (.inl (.array .long, 5, [3, 4, 5, 6, 7])) else some (.inl (.long, 495, [])))) else (if j < 6 then (if j < 5 then some (.inl (.long, 495, [])) else some (.inl (.long, 495, []))) else (if j < 7 then some (.inl (.long, 495, [])) else (if j < 8 then some (.inl (.long, 495, [])) else some (.inl (.array .int, 5, [9, 10, 11, 12, 13])))))) else (if j < 13 then (if j < 11 then (if j < 10 then some (.inl (.int, 495, [])) else some (.inl (.int, 495, []))) else (if j < 12 then some (.inl (.int, 495, [])) else some (.inl (.int, 495, [])))) else (if j < 15 then (if j < 14 then some (.inl (.int, 495, [])) else some (.inl (.int, 5, []))) else (if j < 16 then some (.inl (.int, 4, [])) else (if j < 17 then some (.inl (.int, 5, [])) else some (.inl (.int, 5, []))))))), 18)
def cs_X0_init : List gt_I := [(0, .aload_n 0, 1), (1, .invokespecial 3, 3), (4, .aload_n 0, 1), (5, .sipush 495, 3), (10, .putfield 11, 3), (13, .aload_n 0, 1), (14, .iconst 5, 1), (15, .sipush 495, 3), (22, .putfield 17, 3), (25, .aload_n 0, 1), (26, .iconst 5, 1), (27, .sipush 495, 3), (34, .putfield 22, 3), (37, .aload_n 0, 1), (38, .iconst 5, 1), (41, .putfield 25, 3), (44, .aload_n 0, 1), (45, .iconst 4, 1), (48, .putfield 29, 3), (51, .aload_n 0, 1), (52, .iconst 5, 1), (55, .putfield 32, 3), (58, .aload_n 0, 1), (59, .iconst 5, 1), (62, .putfield 35, 3), (65, .aload_n 0, 1), (66, .iconst (-1), 1), (67, .putfield 38, 3), (70, .return_, 1)]
theorem d_X0_init : gt_dok cX0_init cs_X0_init := gt_dok_of (by decide +kernel)
def sp_X0_init : List (Nat × List Nat) := [(1, [0]), (8, [0]), (10, [0]), (18, [0]), (22, [0]), (30, [0]), (34, [0]), (39, [0]), (41, [0]), (46, [0]), (48, [0]), (53, [0]), (55, [0]), (60, [0]), (62, [0]), (70, [0])]
def e_X0_init : gt_E := (fl_X0, ci_X0, cj_X0, [], [])
def sx_X0 : gt_S := (gt_u ((gt_scat 8 (gt_scat 2 gt_z gt_z) gt_z)).1 0 10 (Int32.ofInt (-1)), ((gt_scat 8 (gt_scat 2 gt_z gt_z) gt_z)).2)
theorem gt_scat_ss {n m0 : Nat} {σ : gt_S} (h : gt_ssc m0 σ) : gt_ssc m0 (gt_scat n σ gt_z) := by
  intro j k r hr
  unfold gt_scat at hr
  dsimp only at hr
  split at hr
  · exact h j k r hr
  · cases hr
set_option maxHeartbeats 4000000 in
set_option maxRecDepth 100000 in
theorem k_X0 (l : Launch) : gt_MI l yX0_init (gt_W yX0_init cX0_init 1 none) { frames := 1, cells := 17, slots := 5474, locals := 40 } 0 (gt_dsl tyX0 12) kx_X0 sx_X0 17 5474 := by
  refine gt_metI (rpc := 70) (by decide) rfl (by decide) rfl (by decide +kernel) ?_
  intro p e s m args below meth c Q D cA A H0 Pa ctx hPa hPc h
  obtain ⟨hx, hb, hml, hown, hts, hK, hA, hN, hAO, hin⟩ := ctx
  refine gt_k_same rfl (ks' := gt_part kx_X0 1) (by decide +kernel) ?_
  refine gt_k_seg hx hb hown hts hN hK (E := e_X0_init) ⟨ef_X0, ei_X0, ej_X0⟩ (sp := sp_X0_init) d_X0_init rfl rfl (fun _ _ _ h => absurd h List.not_mem_nil) (o := (1, [(0, .ref 0)], [.ref 0], gt_z)) rfl rfl ?_
  refine gt_k_obj hx hb hml hown hts (gt_t2 133 rfl rfl) (gt_t1 26 rfl rfl) (gt_t1 27 rfl rfl) (by decide +kernel) (by decide) (by decide) ?_
  refine gt_k_seg hx hb hown hts hN hK (E := e_X0_init) ⟨ef_X0, ei_X0, ej_X0⟩ (sp := sp_X0_init) d_X0_init rfl rfl (fun _ _ _ h => absurd h List.not_mem_nil) (o := (8, [(0, .ref 0)], [.int (Int16.ofInt 495).toInt32, .ref 0], gt_z)) rfl rfl ?_
  refine gt_k_newa hx hb hts hK hA (gt_ok_b rfl (fun _ _ _ h => by cases h) (by decide +kernel)) (hPa _ (by decide)) (atype := .long) (ty := .long) rfl (t0 := 1) rfl (Or.inr ⟨rfl, rfl⟩) (gt_t2 58 rfl rfl) (N := 495) (by decide +kernel) (by decide +kernel) (by decide) (by decide) (by decide) (by decide +kernel) ?_
  refine gt_k_putr hx hb hown hts hK hin rfl (T := TX0) (N := 12) (ci := 0) (j := 0) (fk := 0) (ty := tyX0) hv_X0 tyX0_ok nmX0 rfl rfl (by decide +kernel) (by decide) rfl (gt_t2 138 rfl rfl) rfl rfl (Or.inr ⟨_, rfl⟩) (by decide) (by decide +kernel) ?_
  refine gt_k_same rfl (ks' := gt_part kx_X0 2) (by decide +kernel) ?_
  refine gt_k_seg hx hb hown hts hN hK (E := e_X0_init) ⟨ef_X0, ei_X0, ej_X0⟩ (sp := sp_X0_init) d_X0_init rfl rfl (fun _ _ _ h => absurd h List.not_mem_nil) (o := (18, [(0, .ref 0)], [.int (Int16.ofInt 495).toInt32, .int (Int32.ofInt 5), .ref 0], gt_z)) rfl rfl ?_
  refine gt_k_mna hx hb hown hts hK hA (gt_ok_b rfl (fun _ _ _ h => by cases h) (by decide +kernel)) (ty := .long) (Or.inr rfl) hAO.2.2.1 (gt_t2 58 rfl rfl) (gt_t2 134 rfl rfl) (N := 5) (K := 495) (hPc _ (by decide)) (by decide) (by decide +kernel) (by decide +kernel) (by decide +kernel) (by decide +kernel) (by decide) (by decide) (by decide) (by decide) (by decide) (by decide) (by decide +kernel) ?_
  refine gt_k_putr hx hb hown hts hK hin rfl (T := TX0) (N := 12) (ci := 0) (j := 0) (fk := 1) (ty := tyX0) hv_X0 tyX0_ok nmX0 rfl rfl (by decide +kernel) (by decide) rfl (gt_t2 139 rfl rfl) rfl rfl (Or.inr ⟨_, rfl⟩) (by decide) (by decide +kernel) ?_
  refine gt_k_same rfl (ks' := gt_part kx_X0 8) (by decide +kernel) ?_
  refine gt_k_seg hx hb hown hts hN hK (E := e_X0_init) ⟨ef_X0, ei_X0, ej_X0⟩ (sp := sp_X0_init) d_X0_init rfl rfl (fun _ _ _ h => absurd h List.not_mem_nil) (o := (30, [(0, .ref 0)], [.int (Int16.ofInt 495).toInt32, .int (Int32.ofInt 5), .ref 0], (gt_scat 2 gt_z gt_z))) rfl rfl ?_
  refine gt_k_mna hx hb hown hts hK hA (gt_ok_b rfl (gt_scat_ss (fun _ _ _ h => by cases h)) (by decide +kernel)) (ty := .int) (Or.inl rfl) hAO.2.2.2 (gt_t1 110 rfl rfl) (gt_t2 136 rfl rfl) (N := 5) (K := 495) (hPc _ (by decide)) (by decide) (by decide +kernel) (by decide +kernel) (by decide +kernel) (by decide +kernel) (by decide) (by decide) (by decide) (by decide) (by decide) (by decide) (by decide +kernel) ?_
  refine gt_k_putr hx hb hown hts hK hin rfl (T := TX0) (N := 12) (ci := 0) (j := 0) (fk := 2) (ty := tyX0) hv_X0 tyX0_ok nmX0 rfl rfl (by decide +kernel) (by decide) rfl (gt_t2 140 rfl rfl) rfl rfl (Or.inr ⟨_, rfl⟩) (by decide) (by decide +kernel) ?_
  refine gt_k_same rfl (ks' := gt_part kx_X0 14) (by decide +kernel) ?_
  refine gt_k_seg hx hb hown hts hN hK (E := e_X0_init) ⟨ef_X0, ei_X0, ej_X0⟩ (sp := sp_X0_init) d_X0_init rfl rfl (fun _ _ _ h => absurd h List.not_mem_nil) (o := (39, [(0, .ref 0)], [.int (Int32.ofInt 5), .ref 0], (gt_scat 8 (gt_scat 2 gt_z gt_z) gt_z))) rfl rfl ?_
  refine gt_k_newa hx hb hts hK hA (gt_ok_b rfl (gt_scat_ss (gt_scat_ss (fun _ _ _ h => by cases h))) (by decide +kernel)) (hPa _ (by decide)) (atype := .int) (ty := .int) rfl (t0 := 0) rfl (Or.inl ⟨Or.inl rfl, rfl⟩) (gt_t1 110 rfl rfl) (N := 5) (by decide +kernel) (by decide +kernel) (by decide) (by decide) (by decide) (by decide +kernel) ?_
  refine gt_k_putr hx hb hown hts hK hin rfl (T := TX0) (N := 12) (ci := 0) (j := 0) (fk := 3) (ty := tyX0) hv_X0 tyX0_ok nmX0 rfl rfl (by decide +kernel) (by decide) rfl (gt_t2 141 rfl rfl) rfl rfl (Or.inr ⟨_, rfl⟩) (by decide) (by decide +kernel) ?_
  refine gt_k_same rfl (ks' := gt_part kx_X0 15) (by decide +kernel) ?_
  refine gt_k_seg hx hb hown hts hN hK (E := e_X0_init) ⟨ef_X0, ei_X0, ej_X0⟩ (sp := sp_X0_init) d_X0_init rfl rfl (fun _ _ _ h => absurd h List.not_mem_nil) (o := (46, [(0, .ref 0)], [.int (Int32.ofInt 4), .ref 0], (gt_scat 8 (gt_scat 2 gt_z gt_z) gt_z))) rfl rfl ?_
  refine gt_k_newa hx hb hts hK hA (gt_ok_b rfl (gt_scat_ss (gt_scat_ss (fun _ _ _ h => by cases h))) (by decide +kernel)) (hPa _ (by decide)) (atype := .int) (ty := .int) rfl (t0 := 0) rfl (Or.inl ⟨Or.inl rfl, rfl⟩) (gt_t1 110 rfl rfl) (N := 4) (by decide +kernel) (by decide +kernel) (by decide) (by decide) (by decide) (by decide +kernel) ?_
  refine gt_k_putr hx hb hown hts hK hin rfl (T := TX0) (N := 12) (ci := 0) (j := 0) (fk := 4) (ty := tyX0) hv_X0 tyX0_ok nmX0 rfl rfl (by decide +kernel) (by decide) rfl (gt_t2 142 rfl rfl) rfl rfl (Or.inr ⟨_, rfl⟩) (by decide) (by decide +kernel) ?_
  refine gt_k_same rfl (ks' := gt_part kx_X0 16) (by decide +kernel) ?_
  refine gt_k_seg hx hb hown hts hN hK (E := e_X0_init) ⟨ef_X0, ei_X0, ej_X0⟩ (sp := sp_X0_init) d_X0_init rfl rfl (fun _ _ _ h => absurd h List.not_mem_nil) (o := (53, [(0, .ref 0)], [.int (Int32.ofInt 5), .ref 0], (gt_scat 8 (gt_scat 2 gt_z gt_z) gt_z))) rfl rfl ?_
  refine gt_k_newa hx hb hts hK hA (gt_ok_b rfl (gt_scat_ss (gt_scat_ss (fun _ _ _ h => by cases h))) (by decide +kernel)) (hPa _ (by decide)) (atype := .int) (ty := .int) rfl (t0 := 0) rfl (Or.inl ⟨Or.inl rfl, rfl⟩) (gt_t1 110 rfl rfl) (N := 5) (by decide +kernel) (by decide +kernel) (by decide) (by decide) (by decide) (by decide +kernel) ?_
  refine gt_k_putr hx hb hown hts hK hin rfl (T := TX0) (N := 12) (ci := 0) (j := 0) (fk := 5) (ty := tyX0) hv_X0 tyX0_ok nmX0 rfl rfl (by decide +kernel) (by decide) rfl (gt_t2 143 rfl rfl) rfl rfl (Or.inr ⟨_, rfl⟩) (by decide) (by decide +kernel) ?_
  refine gt_k_same rfl (ks' := gt_part kx_X0 17) (by decide +kernel) ?_
  refine gt_k_seg hx hb hown hts hN hK (E := e_X0_init) ⟨ef_X0, ei_X0, ej_X0⟩ (sp := sp_X0_init) d_X0_init rfl rfl (fun _ _ _ h => absurd h List.not_mem_nil) (o := (60, [(0, .ref 0)], [.int (Int32.ofInt 5), .ref 0], (gt_scat 8 (gt_scat 2 gt_z gt_z) gt_z))) rfl rfl ?_
  refine gt_k_newa hx hb hts hK hA (gt_ok_b rfl (gt_scat_ss (gt_scat_ss (fun _ _ _ h => by cases h))) (by decide +kernel)) (hPa _ (by decide)) (atype := .int) (ty := .int) rfl (t0 := 0) rfl (Or.inl ⟨Or.inl rfl, rfl⟩) (gt_t1 110 rfl rfl) (N := 5) (by decide +kernel) (by decide +kernel) (by decide) (by decide) (by decide) (by decide +kernel) ?_
  refine gt_k_putr hx hb hown hts hK hin rfl (T := TX0) (N := 12) (ci := 0) (j := 0) (fk := 6) (ty := tyX0) hv_X0 tyX0_ok nmX0 rfl rfl (by decide +kernel) (by decide) rfl (gt_t2 144 rfl rfl) rfl rfl (Or.inr ⟨_, rfl⟩) (by decide) (by decide +kernel) ?_
  refine gt_k_same rfl (ks' := gt_part kx_X0 18) (by decide +kernel) ?_
  refine gt_k_seg hx hb hown hts hN hK (E := e_X0_init) ⟨ef_X0, ei_X0, ej_X0⟩ (sp := sp_X0_init) d_X0_init rfl rfl (fun _ _ _ h => absurd h List.not_mem_nil) (o := (70, [(0, .ref 0)], [], (gt_u ((gt_scat 8 (gt_scat 2 gt_z gt_z) gt_z)).1 0 10 (Int32.ofInt (-1)), ((gt_scat 8 (gt_scat 2 gt_z gt_z) gt_z)).2))) rfl rfl ?_
  exact gt_k_same rfl (ks' := kx_X0) (by decide +kernel) h
