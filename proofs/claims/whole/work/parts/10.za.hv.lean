def gt_cut (i : Nat) : gt_K → gt_K
  | .inl q => .inl q
  | .inr q => .inr (q.1, q.2.map fun x => match x with
    | some (some r) => if r < i then some (some r) else some (some 999999)
    | x => x)
/-- the first i cells of a layout, what names others still null -/
def gt_part (kX : gt_KS) (i : Nat) : gt_KS := (fun j => (kX.1 j).map (gt_cut i), i)
theorem hv_X0 : ∀ w ∈ u_ws RX0 TX0 12, w ∈ gt_T := fun w h => gt_T_in ((by decide +kernel : ∀ w ∈ u_ws RX0 TX0 12, w ∈ lw_tbl) w h) (List.all_eq_true.mp (by decide +kernel : (u_ws RX0 TX0 12).all goodWord = true) w h)
theorem hv_X1 : ∀ w ∈ u_ws RX1 TX1 19, w ∈ gt_T := fun w h => gt_T_in ((by decide +kernel : ∀ w ∈ u_ws RX1 TX1 19, w ∈ lw_tbl) w h) (List.all_eq_true.mp (by decide +kernel : (u_ws RX1 TX1 19).all goodWord = true) w h)
theorem hv_X2 : ∀ w ∈ u_ws RX2 TX2 9, w ∈ gt_T := fun w h => gt_T_in ((by decide +kernel : ∀ w ∈ u_ws RX2 TX2 9, w ∈ lw_tbl) w h) (List.all_eq_true.mp (by decide +kernel : (u_ws RX2 TX2 9).all goodWord = true) w h)
theorem hv_X3 : ∀ w ∈ u_ws RX3 TX3 13, w ∈ gt_T := fun w h => gt_T_in ((by decide +kernel : ∀ w ∈ u_ws RX3 TX3 13, w ∈ lw_tbl) w h) (List.all_eq_true.mp (by decide +kernel : (u_ws RX3 TX3 13).all goodWord = true) w h)
theorem hv_X4 : ∀ w ∈ u_ws RX4 TX4 14, w ∈ gt_T := fun w h => gt_T_in ((by decide +kernel : ∀ w ∈ u_ws RX4 TX4 14, w ∈ lw_tbl) w h) (List.all_eq_true.mp (by decide +kernel : (u_ws RX4 TX4 14).all goodWord = true) w h)
theorem hv_X5 : ∀ w ∈ u_ws RX5 TX5 10, w ∈ gt_T := fun w h => gt_T_in ((by decide +kernel : ∀ w ∈ u_ws RX5 TX5 10, w ∈ lw_tbl) w h) (List.all_eq_true.mp (by decide +kernel : (u_ws RX5 TX5 10).all goodWord = true) w h)
theorem hv_X6 : ∀ w ∈ u_ws RX6 TX6 14, w ∈ gt_T := fun w h => gt_T_in ((by decide +kernel : ∀ w ∈ u_ws RX6 TX6 14, w ∈ lw_tbl) w h) (List.all_eq_true.mp (by decide +kernel : (u_ws RX6 TX6 14).all goodWord = true) w h)
theorem hv_X7 : ∀ w ∈ u_ws RX7 TX7 2, w ∈ gt_T := fun w h => gt_T_in ((by decide +kernel : ∀ w ∈ u_ws RX7 TX7 2, w ∈ lw_tbl) w h) (List.all_eq_true.mp (by decide +kernel : (u_ws RX7 TX7 2).all goodWord = true) w h)
theorem hv_X8 : ∀ w ∈ u_ws RX8 TX8 8, w ∈ gt_T := fun w h => gt_T_in ((by decide +kernel : ∀ w ∈ u_ws RX8 TX8 8, w ∈ lw_tbl) w h) (List.all_eq_true.mp (by decide +kernel : (u_ws RX8 TX8 8).all goodWord = true) w h)
theorem hv_X9 : ∀ w ∈ u_ws RX9 TX9 6, w ∈ gt_T := fun w h => gt_T_in ((by decide +kernel : ∀ w ∈ u_ws RX9 TX9 6, w ∈ lw_tbl) w h) (List.all_eq_true.mp (by decide +kernel : (u_ws RX9 TX9 6).all goodWord = true) w h)
theorem hv_X10 : ∀ w ∈ u_ws RX10 TX10 20, w ∈ gt_T := fun w h => gt_T_in ((by decide +kernel : ∀ w ∈ u_ws RX10 TX10 20, w ∈ lw_tbl) w h) (List.all_eq_true.mp (by decide +kernel : (u_ws RX10 TX10 20).all goodWord = true) w h)
theorem hv_X11 : ∀ w ∈ u_ws RX11 TX11 69, w ∈ gt_T := fun w h => gt_T_in ((by decide +kernel : ∀ w ∈ u_ws RX11 TX11 69, w ∈ lw_tbl) w h) (List.all_eq_true.mp (by decide +kernel : (u_ws RX11 TX11 69).all goodWord = true) w h)
