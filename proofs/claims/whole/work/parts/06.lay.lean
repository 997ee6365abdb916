/-! the cells: printed by wip/whole/gen2.py -/
def gt_ks : List gt_K := [.inr (10, [some (some 1), some (some 12), some (some 35), some (some 36), none, none, none, none, some (some 37), none, some (some 38), some (some 39), some (some 44), some (some 56), some (some 67), some (some 76), some (some 82), some (some 100), some (some 106), some (some 110)]),
  .inr (6, [none, some (some 2), some (some 3), some (some 4), some (some 5), none, some (some 6), some (some 7), some (some 8), some (some 9), none, none, some (some 10), some (some 11)]),
  .inl (.int, 16, []),
  .inl (.int, 4, []),
  .inl (.int, 4, []),
  .inl (.int, 16, []),
  .inl (.int, 48, []),
  .inl (.int, 12, []),
  .inl (.int, 12, []),
  .inl (.int, 12, []),
  .inl (.object "GiftTable$Text", 6, []),
  .inl (.int, 6, []),
  .inl (.object "GiftTable$State", 2, [13, 24]),
  .inr (6, [none, some (some 14), some (some 15), some (some 16), some (some 17), none, some (some 18), some (some 19), some (some 20), some (some 21), none, none, some (some 22), some (some 23)]),
  .inl (.int, 16, []),
  .inl (.int, 4, []),
  .inl (.int, 4, []),
  .inl (.int, 16, []),
  .inl (.int, 48, []),
  .inl (.int, 12, []),
  .inl (.int, 12, []),
  .inl (.int, 12, []),
  .inl (.object "GiftTable$Text", 6, []),
  .inl (.int, 6, []),
  .inr (6, [none, some (some 25), some (some 26), some (some 27), some (some 28), none, some (some 29), some (some 30), some (some 31), some (some 32), none, none, some (some 33), some (some 34)]),
  .inl (.int, 16, []),
  .inl (.int, 4, []),
  .inl (.int, 4, []),
  .inl (.int, 16, []),
  .inl (.int, 48, []),
  .inl (.int, 12, []),
  .inl (.int, 12, []),
  .inl (.int, 12, []),
  .inl (.object "GiftTable$Text", 6, []),
  .inl (.int, 6, []),
  .inl (.boolean, 2, []),
  .inl (.int, 400, []),
  .inl (.int, 5, []),
  .inl (.int, 4, []),
  .inr (5, [some (some 40), some (some 41), some (some 42), some (some 43), none, none, none, none, none, none]),
  .inl (.int, 401, []),
  .inl (.int, 401, []),
  .inl (.int, 400, []),
  .inl (.int, 48, []),
  .inr (1, [some (some 45), some (some 46), some (some 47), none, none, none, none, none, none, none, none, some (some 48), some (some 49), some (some 50), some (some 51), some (some 52), some (some 53), some (some 54), some (some 55)]),
  .inl (.int, 4, []),
  .inl (.int, 4, []),
  .inl (.int, 4, []),
  .inl (.int, 13, []),
  .inl (.int, 7280, []),
  .inl (.int, 7280, []),
  .inl (.int, 1820, []),
  .inl (.int, 1820, []),
  .inl (.int, 1820, []),
  .inl (.int, 1820, []),
  .inl (.int, 1820, []),
  .inr (3, [none, some (some 57), some (some 58), some (some 59), some (some 60), some (some 61), some (some 62), some (some 63), some (some 64), some (some 65), some (some 66), none, none]),
  .inl (.int, 12, []),
  .inl (.int, 12, []),
  .inl (.int, 12, []),
  .inl (.int, 12, []),
  .inl (.int, 12, []),
  .inl (.int, 12, []),
  .inl (.int, 12, []),
  .inl (.int, 60, []),
  .inl (.int, 10, []),
  .inl (.long, 64, []),
  .inr (2, [some (some 68), some (some 69), some (some 70), some (some 71), some (some 72), some (some 73), some (some 74), some (some 75), none]),
  .inl (.long, 1820, []),
  .inl (.long, 1820, []),
  .inl (.long, 1820, []),
  .inl (.long, 4, []),
  .inl (.long, 4, []),
  .inl (.long, 4, []),
  .inl (.long, 4, []),
  .inl (.int, 3, []),
  .inr (8, [some (some 77), some (some 78), some (some 79), some (some 80), some (some 81), none, none, none]),
  .inl (.int, 6188, []),
  .inl (.int, 13, []),
  .inl (.int, 1820, []),
  .inl (.int, 1820, []),
  .inl (.int, 12, []),
  .inr (0, [some (some 83), some (some 84), some (some 90), some (some 96), some (some 97), some (some 98), some (some 99), some none, none, none, none, none]),
  .inl (.long, 495, []),
  .inl (.array .long, 5, [85, 86, 87, 88, 89]),
  .inl (.long, 495, []),
  .inl (.long, 495, []),
  .inl (.long, 495, []),
  .inl (.long, 495, []),
  .inl (.long, 495, []),
  .inl (.array .int, 5, [91, 92, 93, 94, 95]),
  .inl (.int, 495, []),
  .inl (.int, 495, []),
  .inl (.int, 495, []),
  .inl (.int, 495, []),
  .inl (.int, 495, []),
  .inl (.int, 5, []),
  .inl (.int, 4, []),
  .inl (.int, 5, []),
  .inl (.int, 5, []),
  .inr (4, [some (some 101), some (some 102), none, some (some 103), some (some 104), none, none, some (some 105), none, none, none, none, none, none]),
  .inl (.int, 4, []),
  .inl (.int, 27, []),
  .inl (.int, 4, []),
  .inl (.int, 4, []),
  .inl (.int, 12, []),
  .inr (9, [none, none, none, some (some 107), some (some 108), some (some 109)]),
  .inl (.int, 5, []),
  .inl (.int, 12, []),
  .inl (.int, 4, []),
  .inr (9, [none, none, none, some (some 111), some (some 112), some (some 113)]),
  .inl (.int, 5, []),
  .inl (.int, 12, []),
  .inl (.int, 4, []),
  .inr (11, [none, none, some (some 115), some (some 116), some (some 117), some (some 118), none, some (some 119), none, none, none, none, some none, none, none, none, some (some 120), none, some (some 121), some (some 122), none, some (some 123), some (some 124), none, none, some (some 125), none, some (some 126), some (some 127), none, some none, some none, some (some 128), some (some 129), some (some 130), some (some 131), some (some 132), some (some 133), some (some 134), some (some 135), some (some 136), some (some 137), some (some 138), some (some 139), some (some 140), some (some 141), some (some 142), none, some (some 143), none, some (some 144), some (some 145), some (some 146), some (some 147), some none, some (some 148), some (some 149), some (some 150), none, none, none, some none, some (some 151), none, none, none, some (some 152), none, none]),
  .inl (.int, 7, []),
  .inl (.int, 5550, []),
  .inl (.int, 11100, []),
  .inl (.boolean, 2, []),
  .inl (.int, 400, []),
  .inl (.int, 96, []),
  .inl (.int, 400, []),
  .inl (.int, 400, []),
  .inl (.int, 400, []),
  .inl (.int, 400, []),
  .inl (.long, 10, []),
  .inl (.long, 13, []),
  .inl (.long, 400, []),
  .inl (.int, 5, []),
  .inl (.int, 1820, []),
  .inl (.int, 28561, []),
  .inl (.int, 1820, []),
  .inl (.int, 1820, []),
  .inl (.int, 1820, []),
  .inl (.int, 4, []),
  .inl (.int, 4, []),
  .inl (.long, 14560, []),
  .inl (.long, 14560, []),
  .inl (.long, 8, []),
  .inl (.long, 8, []),
  .inl (.long, 8, []),
  .inl (.int, 23660, []),
  .inl (.int, 23660, []),
  .inl (.int, 12, []),
  .inl (.int, 5, []),
  .inl (.int, 5, []),
  .inl (.long, 55, []),
  .inl (.long, 1820, []),
  .inl (.int, 4, []),
  .inl (.int, 4, []),
  .inl (.int, 12, []),
  .inl (.int, 12, []),
  .inl (.int, 12, [])]
theorem hw_X0 : ∀ w ∈ u_ws RX0 TX0 12, w ∈ gt_T ++ gt_N := fun w h => List.mem_append_left _ (gt_T_in ((by decide +kernel : ∀ w ∈ u_ws RX0 TX0 12, w ∈ lw_tbl) w h) (List.all_eq_true.mp (by decide +kernel : (u_ws RX0 TX0 12).all goodWord = true) w h))
theorem hw_X1 : ∀ w ∈ u_ws RX1 TX1 19, w ∈ gt_T ++ gt_N := fun w h => List.mem_append_left _ (gt_T_in ((by decide +kernel : ∀ w ∈ u_ws RX1 TX1 19, w ∈ lw_tbl) w h) (List.all_eq_true.mp (by decide +kernel : (u_ws RX1 TX1 19).all goodWord = true) w h))
theorem hw_X2 : ∀ w ∈ u_ws RX2 TX2 9, w ∈ gt_T ++ gt_N := fun w h => List.mem_append_left _ (gt_T_in ((by decide +kernel : ∀ w ∈ u_ws RX2 TX2 9, w ∈ lw_tbl) w h) (List.all_eq_true.mp (by decide +kernel : (u_ws RX2 TX2 9).all goodWord = true) w h))
theorem hw_X3 : ∀ w ∈ u_ws RX3 TX3 13, w ∈ gt_T ++ gt_N := fun w h => List.mem_append_left _ (gt_T_in ((by decide +kernel : ∀ w ∈ u_ws RX3 TX3 13, w ∈ lw_tbl) w h) (List.all_eq_true.mp (by decide +kernel : (u_ws RX3 TX3 13).all goodWord = true) w h))
theorem hw_X4 : ∀ w ∈ u_ws RX4 TX4 14, w ∈ gt_T ++ gt_N := fun w h => List.mem_append_left _ (gt_T_in ((by decide +kernel : ∀ w ∈ u_ws RX4 TX4 14, w ∈ lw_tbl) w h) (List.all_eq_true.mp (by decide +kernel : (u_ws RX4 TX4 14).all goodWord = true) w h))
theorem hw_X5 : ∀ w ∈ u_ws RX5 TX5 10, w ∈ gt_T ++ gt_N := fun w h => List.mem_append_left _ (gt_T_in ((by decide +kernel : ∀ w ∈ u_ws RX5 TX5 10, w ∈ lw_tbl) w h) (List.all_eq_true.mp (by decide +kernel : (u_ws RX5 TX5 10).all goodWord = true) w h))
theorem hw_X6 : ∀ w ∈ u_ws RX6 TX6 14, w ∈ gt_T ++ gt_N := fun w h => List.mem_append_left _ (gt_T_in ((by decide +kernel : ∀ w ∈ u_ws RX6 TX6 14, w ∈ lw_tbl) w h) (List.all_eq_true.mp (by decide +kernel : (u_ws RX6 TX6 14).all goodWord = true) w h))
theorem hw_X7 : ∀ w ∈ u_ws RX7 TX7 2, w ∈ gt_T ++ gt_N := fun w h => List.mem_append_left _ (gt_T_in ((by decide +kernel : ∀ w ∈ u_ws RX7 TX7 2, w ∈ lw_tbl) w h) (List.all_eq_true.mp (by decide +kernel : (u_ws RX7 TX7 2).all goodWord = true) w h))
theorem hw_X8 : ∀ w ∈ u_ws RX8 TX8 8, w ∈ gt_T ++ gt_N := fun w h => List.mem_append_left _ (gt_T_in ((by decide +kernel : ∀ w ∈ u_ws RX8 TX8 8, w ∈ lw_tbl) w h) (List.all_eq_true.mp (by decide +kernel : (u_ws RX8 TX8 8).all goodWord = true) w h))
theorem hw_X9 : ∀ w ∈ u_ws RX9 TX9 6, w ∈ gt_T ++ gt_N := fun w h => List.mem_append_left _ (gt_T_in ((by decide +kernel : ∀ w ∈ u_ws RX9 TX9 6, w ∈ lw_tbl) w h) (List.all_eq_true.mp (by decide +kernel : (u_ws RX9 TX9 6).all goodWord = true) w h))
theorem hw_X10 : ∀ w ∈ u_ws RX10 TX10 20, w ∈ gt_T ++ gt_N := fun w h => List.mem_append_left _ (gt_T_in ((by decide +kernel : ∀ w ∈ u_ws RX10 TX10 20, w ∈ lw_tbl) w h) (List.all_eq_true.mp (by decide +kernel : (u_ws RX10 TX10 20).all goodWord = true) w h))
theorem hw_X11 : ∀ w ∈ u_ws RX11 TX11 69, w ∈ gt_T ++ gt_N := fun w h => List.mem_append_left _ (gt_T_in ((by decide +kernel : ∀ w ∈ u_ws RX11 TX11 69, w ∈ lw_tbl) w h) (List.all_eq_true.mp (by decide +kernel : (u_ws RX11 TX11 69).all goodWord = true) w h))
theorem ff_X0_11 : gt_fok (gt_T ++ gt_N) RX0 vwCl (11, 0, 0, 0) := ⟨RX0, TX0, 12, tyX0, rfl, by decide, hw_X0, tyX0_ok, nmX0, Or.inl (List.mem_append_left _ (gt_t2 138 rfl rfl)), Or.inl rfl⟩
theorem ff_X0_17 : gt_fok (gt_T ++ gt_N) RX0 vwCl (17, 0, 1, 0) := ⟨RX0, TX0, 12, tyX0, rfl, by decide, hw_X0, tyX0_ok, nmX0, Or.inl (List.mem_append_left _ (gt_t2 139 rfl rfl)), Or.inl rfl⟩
theorem ff_X0_22 : gt_fok (gt_T ++ gt_N) RX0 vwCl (22, 0, 2, 0) := ⟨RX0, TX0, 12, tyX0, rfl, by decide, hw_X0, tyX0_ok, nmX0, Or.inl (List.mem_append_left _ (gt_t2 140 rfl rfl)), Or.inl rfl⟩
theorem ff_X0_25 : gt_fok (gt_T ++ gt_N) RX0 vwCl (25, 0, 3, 0) := ⟨RX0, TX0, 12, tyX0, rfl, by decide, hw_X0, tyX0_ok, nmX0, Or.inl (List.mem_append_left _ (gt_t2 141 rfl rfl)), Or.inl rfl⟩
theorem ff_X0_29 : gt_fok (gt_T ++ gt_N) RX0 vwCl (29, 0, 4, 0) := ⟨RX0, TX0, 12, tyX0, rfl, by decide, hw_X0, tyX0_ok, nmX0, Or.inl (List.mem_append_left _ (gt_t2 142 rfl rfl)), Or.inl rfl⟩
theorem ff_X0_32 : gt_fok (gt_T ++ gt_N) RX0 vwCl (32, 0, 5, 0) := ⟨RX0, TX0, 12, tyX0, rfl, by decide, hw_X0, tyX0_ok, nmX0, Or.inl (List.mem_append_left _ (gt_t2 143 rfl rfl)), Or.inl rfl⟩
theorem ff_X0_35 : gt_fok (gt_T ++ gt_N) RX0 vwCl (35, 0, 6, 0) := ⟨RX0, TX0, 12, tyX0, rfl, by decide, hw_X0, tyX0_ok, nmX0, Or.inl (List.mem_append_left _ (gt_t2 144 rfl rfl)), Or.inl rfl⟩
theorem ff_X0_38 : gt_fok (gt_T ++ gt_N) RX0 vwCl (38, 0, 10, 1) := ⟨RX0, TX0, 12, tyX0, rfl, by decide, hw_X0, tyX0_ok, nmX0, Or.inl (List.mem_append_left _ (gt_t2 148 rfl rfl)), Or.inr ⟨rfl, Or.inl ⟨rfl, rfl⟩⟩⟩
theorem ff_X0_42 : gt_fok (gt_T ++ gt_N) RX0 vwCl (42, 0, 9, 1) := ⟨RX0, TX0, 12, tyX0, rfl, by decide, hw_X0, tyX0_ok, nmX0, Or.inl (List.mem_append_left _ (gt_t2 147 rfl rfl)), Or.inr ⟨rfl, Or.inl ⟨rfl, rfl⟩⟩⟩
theorem ff_X0_45 : gt_fok (gt_T ++ gt_N) RX0 vwCl (45, 6, 0, 1) := ⟨RX6, TX6, 14, tyX6, rfl, by decide, hw_X6, tyX6_ok, nmX6, Or.inl (List.mem_append_left _ (gt_t1 41 rfl rfl)), Or.inr ⟨rfl, Or.inl ⟨rfl, rfl⟩⟩⟩
theorem ff_X0_50 : gt_fok (gt_T ++ gt_N) RX0 vwCl (50, 0, 8, 1) := ⟨RX0, TX0, 12, tyX0, rfl, by decide, hw_X0, tyX0_ok, nmX0, Or.inl (List.mem_append_left _ (gt_t2 146 rfl rfl)), Or.inr ⟨rfl, Or.inl ⟨rfl, rfl⟩⟩⟩
theorem ff_X0_60 : gt_fok (gt_T ++ gt_N) RX0 vwCl (60, 0, 7, 3) := ⟨RX0, TX0, 12, tyX0, rfl, by decide, hw_X0, tyX0_ok, nmX0, Or.inl (List.mem_append_left _ (gt_t2 145 rfl rfl)), Or.inr ⟨rfl, Or.inr (Or.inr ⟨rfl, rfl⟩)⟩⟩
theorem ff_X0_72 : gt_fok (gt_T ++ gt_N) RX0 vwCl (72, 0, 11, 1) := ⟨RX0, TX0, 12, tyX0, rfl, by decide, hw_X0, tyX0_ok, nmX0, Or.inl (List.mem_append_left _ (gt_t2 149 rfl rfl)), Or.inr ⟨rfl, Or.inl ⟨rfl, rfl⟩⟩⟩
theorem ff_X0_97 : gt_fok (gt_T ++ gt_N) RX0 vwCl (97, 1, 3, 1) := ⟨RX1, TX1, 19, tyX1, rfl, by decide, hw_X1, tyX1_ok, nmX1, Or.inl (List.mem_append_left _ (gt_t1 163 rfl rfl)), Or.inr ⟨rfl, Or.inl ⟨rfl, rfl⟩⟩⟩
def fl_X0 : List (Nat × Nat × Nat × Nat) := [(11, 0, 0, 0), (17, 0, 1, 0), (22, 0, 2, 0), (25, 0, 3, 0), (29, 0, 4, 0), (32, 0, 5, 0), (35, 0, 6, 0), (38, 0, 10, 1), (42, 0, 9, 1), (45, 6, 0, 1), (50, 0, 8, 1), (60, 0, 7, 3), (72, 0, 11, 1), (97, 1, 3, 1)]
theorem ef_X0 : ∀ q ∈ fl_X0, gt_fok (gt_T ++ gt_N) RX0 vwCl q := (gt_fall ff_X0_11 (gt_fall ff_X0_17 (gt_fall ff_X0_22 (gt_fall ff_X0_25 (gt_fall ff_X0_29 (gt_fall ff_X0_32 (gt_fall ff_X0_35 (gt_fall ff_X0_38 (gt_fall ff_X0_42 (gt_fall ff_X0_45 (gt_fall ff_X0_50 (gt_fall ff_X0_60 (gt_fall ff_X0_72 (gt_fall ff_X0_97 (fun _ h => absurd h List.not_mem_nil)))))))))))))))
def ci_X0 : List (Nat × Int32) := []
theorem ei_X0 : ∀ q ∈ ci_X0, Cond.constant RX0 q.1 q.2 ∈ gt_T ++ gt_N := (fun _ h => absurd h List.not_mem_nil)
def cj_X0 : List (Nat × Int64) := [(58, -1), (68, 10), (70, 100)]
theorem ej_X0 : ∀ q ∈ cj_X0, Cond.constantLong RX0 q.1 q.2 ∈ gt_T ++ gt_N := (List.forall_mem_cons.mpr ⟨List.mem_append_left _ (gt_t5 159 rfl rfl), (List.forall_mem_cons.mpr ⟨List.mem_append_left _ (gt_t5 177 rfl rfl), (List.forall_mem_cons.mpr ⟨List.mem_append_left _ (gt_t5 178 rfl rfl), (fun _ h => absurd h List.not_mem_nil)⟩)⟩)⟩)
theorem ff_X1_9 : gt_fok (gt_T ++ gt_N) RX1 vwCl (9, 1, 0, 0) := ⟨RX1, TX1, 19, tyX1, rfl, by decide, hw_X1, tyX1_ok, nmX1, Or.inl (List.mem_append_left _ (gt_t1 157 rfl rfl)), Or.inl rfl⟩
theorem ff_X1_15 : gt_fok (gt_T ++ gt_N) RX1 vwCl (15, 1, 1, 0) := ⟨RX1, TX1, 19, tyX1, rfl, by decide, hw_X1, tyX1_ok, nmX1, Or.inl (List.mem_append_left _ (gt_t1 158 rfl rfl)), Or.inl rfl⟩
theorem ff_X1_18 : gt_fok (gt_T ++ gt_N) RX1 vwCl (18, 1, 2, 0) := ⟨RX1, TX1, 19, tyX1, rfl, by decide, hw_X1, tyX1_ok, nmX1, Or.inl (List.mem_append_left _ (gt_t1 159 rfl rfl)), Or.inl rfl⟩
theorem ff_X1_21 : gt_fok (gt_T ++ gt_N) RX1 vwCl (21, 1, 9, 1) := ⟨RX1, TX1, 19, tyX1, rfl, by decide, hw_X1, tyX1_ok, nmX1, Or.inl (List.mem_append_left _ (gt_t1 177 rfl rfl)), Or.inr ⟨rfl, Or.inl ⟨rfl, rfl⟩⟩⟩
theorem ff_X1_25 : gt_fok (gt_T ++ gt_N) RX1 vwCl (25, 1, 10, 1) := ⟨RX1, TX1, 19, tyX1, rfl, by decide, hw_X1, tyX1_ok, nmX1, Or.inl (List.mem_append_left _ (gt_t1 179 rfl rfl)), Or.inr ⟨rfl, Or.inl ⟨rfl, rfl⟩⟩⟩
theorem ff_X1_28 : gt_fok (gt_T ++ gt_N) RX1 vwCl (28, 1, 11, 0) := ⟨RX1, TX1, 19, tyX1, rfl, by decide, hw_X1, tyX1_ok, nmX1, Or.inl (List.mem_append_left _ (gt_t1 180 rfl rfl)), Or.inl rfl⟩
theorem ff_X1_31 : gt_fok (gt_T ++ gt_N) RX1 vwCl (31, 1, 12, 0) := ⟨RX1, TX1, 19, tyX1, rfl, by decide, hw_X1, tyX1_ok, nmX1, Or.inl (List.mem_append_left _ (gt_t1 183 rfl rfl)), Or.inl rfl⟩
theorem ff_X1_34 : gt_fok (gt_T ++ gt_N) RX1 vwCl (34, 1, 13, 0) := ⟨RX1, TX1, 19, tyX1, rfl, by decide, hw_X1, tyX1_ok, nmX1, Or.inl (List.mem_append_left _ (gt_t1 184 rfl rfl)), Or.inl rfl⟩
theorem ff_X1_37 : gt_fok (gt_T ++ gt_N) RX1 vwCl (37, 1, 14, 0) := ⟨RX1, TX1, 19, tyX1, rfl, by decide, hw_X1, tyX1_ok, nmX1, Or.inl (List.mem_append_left _ (gt_t1 185 rfl rfl)), Or.inl rfl⟩
theorem ff_X1_40 : gt_fok (gt_T ++ gt_N) RX1 vwCl (40, 1, 15, 0) := ⟨RX1, TX1, 19, tyX1, rfl, by decide, hw_X1, tyX1_ok, nmX1, Or.inl (List.mem_append_left _ (gt_t1 186 rfl rfl)), Or.inl rfl⟩
theorem ff_X1_43 : gt_fok (gt_T ++ gt_N) RX1 vwCl (43, 1, 16, 0) := ⟨RX1, TX1, 19, tyX1, rfl, by decide, hw_X1, tyX1_ok, nmX1, Or.inl (List.mem_append_left _ (gt_t1 187 rfl rfl)), Or.inl rfl⟩
theorem ff_X1_46 : gt_fok (gt_T ++ gt_N) RX1 vwCl (46, 1, 17, 0) := ⟨RX1, TX1, 19, tyX1, rfl, by decide, hw_X1, tyX1_ok, nmX1, Or.inl (List.mem_append_left _ (gt_t1 191 rfl rfl)), Or.inl rfl⟩
theorem ff_X1_49 : gt_fok (gt_T ++ gt_N) RX1 vwCl (49, 1, 18, 0) := ⟨RX1, TX1, 19, tyX1, rfl, by decide, hw_X1, tyX1_ok, nmX1, Or.inl (List.mem_append_left _ (gt_t1 194 rfl rfl)), Or.inl rfl⟩
theorem ff_X1_52 : gt_fok (gt_T ++ gt_N) RX1 vwCl (52, 1, 3, 1) := ⟨RX1, TX1, 19, tyX1, rfl, by decide, hw_X1, tyX1_ok, nmX1, Or.inl (List.mem_append_left _ (gt_t1 160 rfl rfl)), Or.inr ⟨rfl, Or.inl ⟨rfl, rfl⟩⟩⟩
theorem ff_X1_55 : gt_fok (gt_T ++ gt_N) RX1 vwCl (55, 6, 0, 1) := ⟨RX6, TX6, 14, tyX6, rfl, by decide, hw_X6, tyX6_ok, nmX6, Or.inl (List.mem_append_left _ (gt_t1 40 rfl rfl)), Or.inr ⟨rfl, Or.inl ⟨rfl, rfl⟩⟩⟩
theorem ff_X1_71 : gt_fok (gt_T ++ gt_N) RX1 vwCl (71, 1, 4, 1) := ⟨RX1, TX1, 19, tyX1, rfl, by decide, hw_X1, tyX1_ok, nmX1, Or.inl (List.mem_append_left _ (gt_t1 165 rfl rfl)), Or.inr ⟨rfl, Or.inl ⟨rfl, rfl⟩⟩⟩
theorem ff_X1_74 : gt_fok (gt_T ++ gt_N) RX1 vwCl (74, 1, 5, 1) := ⟨RX1, TX1, 19, tyX1, rfl, by decide, hw_X1, tyX1_ok, nmX1, Or.inl (List.mem_append_left _ (gt_t1 168 rfl rfl)), Or.inr ⟨rfl, Or.inl ⟨rfl, rfl⟩⟩⟩
theorem ff_X1_77 : gt_fok (gt_T ++ gt_N) RX1 vwCl (77, 6, 4, 0) := ⟨RX6, TX6, 14, tyX6, rfl, by decide, hw_X6, tyX6_ok, nmX6, Or.inl (List.mem_append_left _ (gt_t1 55 rfl rfl)), Or.inl rfl⟩
theorem ff_X1_80 : gt_fok (gt_T ++ gt_N) RX1 vwCl (80, 6, 2, 0) := ⟨RX6, TX6, 14, tyX6, rfl, by decide, hw_X6, tyX6_ok, nmX6, Or.inl (List.mem_append_left _ (gt_t1 49 rfl rfl)), Or.inl rfl⟩
theorem ff_X1_83 : gt_fok (gt_T ++ gt_N) RX1 vwCl (83, 6, 3, 0) := ⟨RX6, TX6, 14, tyX6, rfl, by decide, hw_X6, tyX6_ok, nmX6, Or.inl (List.mem_append_left _ (gt_t1 52 rfl rfl)), Or.inl rfl⟩
theorem ff_X1_90 : gt_fok (gt_T ++ gt_N) RX1 vwCl (90, 1, 6, 1) := ⟨RX1, TX1, 19, tyX1, rfl, by decide, hw_X1, tyX1_ok, nmX1, Or.inl (List.mem_append_left _ (gt_t1 171 rfl rfl)), Or.inr ⟨rfl, Or.inl ⟨rfl, rfl⟩⟩⟩
theorem ff_X1_93 : gt_fok (gt_T ++ gt_N) RX1 vwCl (93, 1, 7, 1) := ⟨RX1, TX1, 19, tyX1, rfl, by decide, hw_X1, tyX1_ok, nmX1, Or.inl (List.mem_append_left _ (gt_t1 173 rfl rfl)), Or.inr ⟨rfl, Or.inl ⟨rfl, rfl⟩⟩⟩
theorem ff_X1_96 : gt_fok (gt_T ++ gt_N) RX1 vwCl (96, 1, 8, 1) := ⟨RX1, TX1, 19, tyX1, rfl, by decide, hw_X1, tyX1_ok, nmX1, Or.inl (List.mem_append_left _ (gt_t1 175 rfl rfl)), Or.inr ⟨rfl, Or.inl ⟨rfl, rfl⟩⟩⟩
def fl_X1 : List (Nat × Nat × Nat × Nat) := [(9, 1, 0, 0), (15, 1, 1, 0), (18, 1, 2, 0), (21, 1, 9, 1), (25, 1, 10, 1), (28, 1, 11, 0), (31, 1, 12, 0), (34, 1, 13, 0), (37, 1, 14, 0), (40, 1, 15, 0), (43, 1, 16, 0), (46, 1, 17, 0), (49, 1, 18, 0), (52, 1, 3, 1), (55, 6, 0, 1), (71, 1, 4, 1), (74, 1, 5, 1), (77, 6, 4, 0), (80, 6, 2, 0), (83, 6, 3, 0), (90, 1, 6, 1), (93, 1, 7, 1), (96, 1, 8, 1)]
theorem ef_X1 : ∀ q ∈ fl_X1, gt_fok (gt_T ++ gt_N) RX1 vwCl q := (gt_fall ff_X1_9 (gt_fall ff_X1_15 (gt_fall ff_X1_18 (gt_fall ff_X1_21 (gt_fall ff_X1_25 (gt_fall ff_X1_28 (gt_fall ff_X1_31 (gt_fall ff_X1_34 (gt_fall ff_X1_37 (gt_fall ff_X1_40 (gt_fall ff_X1_43 (gt_fall ff_X1_46 (gt_fall ff_X1_49 (gt_fall ff_X1_52 (gt_fall ff_X1_55 (gt_fall ff_X1_71 (gt_fall ff_X1_74 (gt_fall ff_X1_77 (gt_fall ff_X1_80 (gt_fall ff_X1_83 (gt_fall ff_X1_90 (gt_fall ff_X1_93 (gt_fall ff_X1_96 (fun _ h => absurd h List.not_mem_nil))))))))))))))))))))))))
def ci_X1 : List (Nat × Int32) := []
theorem ei_X1 : ∀ q ∈ ci_X1, Cond.constant RX1 q.1 q.2 ∈ gt_T ++ gt_N := (fun _ h => absurd h List.not_mem_nil)
def cj_X1 : List (Nat × Int64) := []
theorem ej_X1 : ∀ q ∈ cj_X1, Cond.constantLong RX1 q.1 q.2 ∈ gt_T ++ gt_N := (fun _ h => absurd h List.not_mem_nil)
theorem ff_X2_13 : gt_fok (gt_T ++ gt_N) RX2 vwCl (13, 2, 0, 0) := ⟨RX2, TX2, 9, tyX2, rfl, by decide, hw_X2, tyX2_ok, nmX2, Or.inl (List.mem_append_left _ (gt_t2 65 rfl rfl)), Or.inl rfl⟩
theorem ff_X2_17 : gt_fok (gt_T ++ gt_N) RX2 vwCl (17, 2, 1, 0) := ⟨RX2, TX2, 9, tyX2, rfl, by decide, hw_X2, tyX2_ok, nmX2, Or.inl (List.mem_append_left _ (gt_t2 66 rfl rfl)), Or.inl rfl⟩
theorem ff_X2_20 : gt_fok (gt_T ++ gt_N) RX2 vwCl (20, 2, 2, 0) := ⟨RX2, TX2, 9, tyX2, rfl, by decide, hw_X2, tyX2_ok, nmX2, Or.inl (List.mem_append_left _ (gt_t2 67 rfl rfl)), Or.inl rfl⟩
theorem ff_X2_23 : gt_fok (gt_T ++ gt_N) RX2 vwCl (23, 2, 3, 0) := ⟨RX2, TX2, 9, tyX2, rfl, by decide, hw_X2, tyX2_ok, nmX2, Or.inl (List.mem_append_left _ (gt_t2 68 rfl rfl)), Or.inl rfl⟩
theorem ff_X2_26 : gt_fok (gt_T ++ gt_N) RX2 vwCl (26, 2, 4, 0) := ⟨RX2, TX2, 9, tyX2, rfl, by decide, hw_X2, tyX2_ok, nmX2, Or.inl (List.mem_append_left _ (gt_t2 69 rfl rfl)), Or.inl rfl⟩
theorem ff_X2_29 : gt_fok (gt_T ++ gt_N) RX2 vwCl (29, 2, 5, 0) := ⟨RX2, TX2, 9, tyX2, rfl, by decide, hw_X2, tyX2_ok, nmX2, Or.inl (List.mem_append_left _ (gt_t2 70 rfl rfl)), Or.inl rfl⟩
theorem ff_X2_32 : gt_fok (gt_T ++ gt_N) RX2 vwCl (32, 2, 6, 0) := ⟨RX2, TX2, 9, tyX2, rfl, by decide, hw_X2, tyX2_ok, nmX2, Or.inl (List.mem_append_left _ (gt_t2 71 rfl rfl)), Or.inl rfl⟩
theorem ff_X2_35 : gt_fok (gt_T ++ gt_N) RX2 vwCl (35, 2, 7, 0) := ⟨RX2, TX2, 9, tyX2, rfl, by decide, hw_X2, tyX2_ok, nmX2, Or.inl (List.mem_append_left _ (gt_t2 72 rfl rfl)), Or.inl rfl⟩
theorem ff_X2_39 : gt_fok (gt_T ++ gt_N) RX2 vwCl (39, 2, 8, 1) := ⟨RX2, TX2, 9, tyX2, rfl, by decide, hw_X2, tyX2_ok, nmX2, Or.inl (List.mem_append_left _ (gt_t2 74 rfl rfl)), Or.inr ⟨rfl, Or.inl ⟨rfl, rfl⟩⟩⟩
theorem ff_X2_43 : gt_fok (gt_T ++ gt_N) RX2 vwCl (43, 1, 11, 0) := ⟨RX1, TX1, 19, tyX1, rfl, by decide, hw_X1, tyX1_ok, nmX1, Or.inl (List.mem_append_left _ (gt_t1 181 rfl rfl)), Or.inl rfl⟩
theorem ff_X2_46 : gt_fok (gt_T ++ gt_N) RX2 vwCl (46, 3, 0, 1) := ⟨RX3, TX3, 13, tyX3, rfl, by decide, hw_X3, tyX3_ok, nmX3, Or.inl (List.mem_append_left _ (gt_t2 4 rfl rfl)), Or.inr ⟨rfl, Or.inl ⟨rfl, rfl⟩⟩⟩
theorem ff_X2_73 : gt_fok (gt_T ++ gt_N) RX2 vwCl (73, 1, 16, 0) := ⟨RX1, TX1, 19, tyX1, rfl, by decide, hw_X1, tyX1_ok, nmX1, Or.inl (List.mem_append_left _ (gt_t1 189 rfl rfl)), Or.inl rfl⟩
theorem ff_X2_80 : gt_fok (gt_T ++ gt_N) RX2 vwCl (80, 1, 17, 0) := ⟨RX1, TX1, 19, tyX1, rfl, by decide, hw_X1, tyX1_ok, nmX1, Or.inl (List.mem_append_left _ (gt_t1 192 rfl rfl)), Or.inl rfl⟩
theorem ff_X2_83 : gt_fok (gt_T ++ gt_N) RX2 vwCl (83, 1, 18, 0) := ⟨RX1, TX1, 19, tyX1, rfl, by decide, hw_X1, tyX1_ok, nmX1, Or.inl (List.mem_append_left _ (gt_t1 195 rfl rfl)), Or.inl rfl⟩
theorem ff_X2_96 : gt_fok (gt_T ++ gt_N) RX2 vwCl (96, 3, 8, 0) := ⟨RX3, TX3, 13, tyX3, rfl, by decide, hw_X3, tyX3_ok, nmX3, Or.inl (List.mem_append_left _ (gt_t2 25 rfl rfl)), Or.inl rfl⟩
theorem ff_X2_103 : gt_fok (gt_T ++ gt_N) RX2 vwCl (103, 3, 4, 0) := ⟨RX3, TX3, 13, tyX3, rfl, by decide, hw_X3, tyX3_ok, nmX3, Or.inl (List.mem_append_left _ (gt_t2 15 rfl rfl)), Or.inl rfl⟩
def fl_X2 : List (Nat × Nat × Nat × Nat) := [(13, 2, 0, 0), (17, 2, 1, 0), (20, 2, 2, 0), (23, 2, 3, 0), (26, 2, 4, 0), (29, 2, 5, 0), (32, 2, 6, 0), (35, 2, 7, 0), (39, 2, 8, 1), (43, 1, 11, 0), (46, 3, 0, 1), (73, 1, 16, 0), (80, 1, 17, 0), (83, 1, 18, 0), (96, 3, 8, 0), (103, 3, 4, 0)]
theorem ef_X2 : ∀ q ∈ fl_X2, gt_fok (gt_T ++ gt_N) RX2 vwCl q := (gt_fall ff_X2_13 (gt_fall ff_X2_17 (gt_fall ff_X2_20 (gt_fall ff_X2_23 (gt_fall ff_X2_26 (gt_fall ff_X2_29 (gt_fall ff_X2_32 (gt_fall ff_X2_35 (gt_fall ff_X2_39 (gt_fall ff_X2_43 (gt_fall ff_X2_46 (gt_fall ff_X2_73 (gt_fall ff_X2_80 (gt_fall ff_X2_83 (gt_fall ff_X2_96 (gt_fall ff_X2_103 (fun _ h => absurd h List.not_mem_nil)))))))))))))))))
def ci_X2 : List (Nat × Int32) := []
theorem ei_X2 : ∀ q ∈ ci_X2, Cond.constant RX2 q.1 q.2 ∈ gt_T ++ gt_N := (fun _ h => absurd h List.not_mem_nil)
def cj_X2 : List (Nat × Int64) := [(113, 1125899906842623)]
theorem ej_X2 : ∀ q ∈ cj_X2, Cond.constantLong RX2 q.1 q.2 ∈ gt_T ++ gt_N := (List.forall_mem_cons.mpr ⟨List.mem_append_left _ (gt_t5 21 rfl rfl), (fun _ h => absurd h List.not_mem_nil)⟩)
theorem ff_X3_9 : gt_fok (gt_T ++ gt_N) RX3 vwCl (9, 3, 1, 0) := ⟨RX3, TX3, 13, tyX3, rfl, by decide, hw_X3, tyX3_ok, nmX3, Or.inl (List.mem_append_left _ (gt_t2 8 rfl rfl)), Or.inl rfl⟩
theorem ff_X3_15 : gt_fok (gt_T ++ gt_N) RX3 vwCl (15, 3, 2, 0) := ⟨RX3, TX3, 13, tyX3, rfl, by decide, hw_X3, tyX3_ok, nmX3, Or.inl (List.mem_append_left _ (gt_t2 10 rfl rfl)), Or.inl rfl⟩
theorem ff_X3_18 : gt_fok (gt_T ++ gt_N) RX3 vwCl (18, 3, 3, 0) := ⟨RX3, TX3, 13, tyX3, rfl, by decide, hw_X3, tyX3_ok, nmX3, Or.inl (List.mem_append_left _ (gt_t2 12 rfl rfl)), Or.inl rfl⟩
theorem ff_X3_21 : gt_fok (gt_T ++ gt_N) RX3 vwCl (21, 3, 4, 0) := ⟨RX3, TX3, 13, tyX3, rfl, by decide, hw_X3, tyX3_ok, nmX3, Or.inl (List.mem_append_left _ (gt_t2 13 rfl rfl)), Or.inl rfl⟩
theorem ff_X3_24 : gt_fok (gt_T ++ gt_N) RX3 vwCl (24, 3, 5, 0) := ⟨RX3, TX3, 13, tyX3, rfl, by decide, hw_X3, tyX3_ok, nmX3, Or.inl (List.mem_append_left _ (gt_t2 17 rfl rfl)), Or.inl rfl⟩
theorem ff_X3_27 : gt_fok (gt_T ++ gt_N) RX3 vwCl (27, 3, 6, 0) := ⟨RX3, TX3, 13, tyX3, rfl, by decide, hw_X3, tyX3_ok, nmX3, Or.inl (List.mem_append_left _ (gt_t2 19 rfl rfl)), Or.inl rfl⟩
theorem ff_X3_30 : gt_fok (gt_T ++ gt_N) RX3 vwCl (30, 3, 7, 0) := ⟨RX3, TX3, 13, tyX3, rfl, by decide, hw_X3, tyX3_ok, nmX3, Or.inl (List.mem_append_left _ (gt_t2 22 rfl rfl)), Or.inl rfl⟩
theorem ff_X3_33 : gt_fok (gt_T ++ gt_N) RX3 vwCl (33, 3, 8, 0) := ⟨RX3, TX3, 13, tyX3, rfl, by decide, hw_X3, tyX3_ok, nmX3, Or.inl (List.mem_append_left _ (gt_t2 24 rfl rfl)), Or.inl rfl⟩
theorem ff_X3_38 : gt_fok (gt_T ++ gt_N) RX3 vwCl (38, 3, 9, 0) := ⟨RX3, TX3, 13, tyX3, rfl, by decide, hw_X3, tyX3_ok, nmX3, Or.inl (List.mem_append_left _ (gt_t2 27 rfl rfl)), Or.inl rfl⟩
theorem ff_X3_41 : gt_fok (gt_T ++ gt_N) RX3 vwCl (41, 3, 10, 0) := ⟨RX3, TX3, 13, tyX3, rfl, by decide, hw_X3, tyX3_ok, nmX3, Or.inl (List.mem_append_left _ (gt_t2 28 rfl rfl)), Or.inl rfl⟩
theorem ff_X3_45 : gt_fok (gt_T ++ gt_N) RX3 vwCl (45, 3, 11, 1) := ⟨RX3, TX3, 13, tyX3, rfl, by decide, hw_X3, tyX3_ok, nmX3, Or.inl (List.mem_append_left _ (gt_t2 29 rfl rfl)), Or.inr ⟨rfl, Or.inl ⟨rfl, rfl⟩⟩⟩
theorem ff_X3_49 : gt_fok (gt_T ++ gt_N) RX3 vwCl (49, 3, 12, 1) := ⟨RX3, TX3, 13, tyX3, rfl, by decide, hw_X3, tyX3_ok, nmX3, Or.inl (List.mem_append_left _ (gt_t2 30 rfl rfl)), Or.inr ⟨rfl, Or.inl ⟨rfl, rfl⟩⟩⟩
theorem ff_X3_52 : gt_fok (gt_T ++ gt_N) RX3 vwCl (52, 3, 0, 1) := ⟨RX3, TX3, 13, tyX3, rfl, by decide, hw_X3, tyX3_ok, nmX3, Or.inl (List.mem_append_left _ (gt_t2 3 rfl rfl)), Or.inr ⟨rfl, Or.inl ⟨rfl, rfl⟩⟩⟩
theorem ff_X3_55 : gt_fok (gt_T ++ gt_N) RX3 vwCl (55, 6, 5, 1) := ⟨RX6, TX6, 14, tyX6, rfl, by decide, hw_X6, tyX6_ok, nmX6, Or.inl (List.mem_append_left _ (gt_t1 57 rfl rfl)), Or.inr ⟨rfl, Or.inl ⟨rfl, rfl⟩⟩⟩
theorem ff_X3_72 : gt_fok (gt_T ++ gt_N) RX3 vwCl (72, 6, 10, 1) := ⟨RX6, TX6, 14, tyX6, rfl, by decide, hw_X6, tyX6_ok, nmX6, Or.inl (List.mem_append_left _ (gt_t1 73 rfl rfl)), Or.inr ⟨rfl, Or.inl ⟨rfl, rfl⟩⟩⟩
theorem ff_X3_75 : gt_fok (gt_T ++ gt_N) RX3 vwCl (75, 6, 6, 0) := ⟨RX6, TX6, 14, tyX6, rfl, by decide, hw_X6, tyX6_ok, nmX6, Or.inl (List.mem_append_left _ (gt_t1 61 rfl rfl)), Or.inl rfl⟩
theorem ff_X3_78 : gt_fok (gt_T ++ gt_N) RX3 vwCl (78, 6, 7, 0) := ⟨RX6, TX6, 14, tyX6, rfl, by decide, hw_X6, tyX6_ok, nmX6, Or.inl (List.mem_append_left _ (gt_t1 64 rfl rfl)), Or.inl rfl⟩
theorem ff_X3_81 : gt_fok (gt_T ++ gt_N) RX3 vwCl (81, 6, 0, 1) := ⟨RX6, TX6, 14, tyX6, rfl, by decide, hw_X6, tyX6_ok, nmX6, Or.inl (List.mem_append_left _ (gt_t1 44 rfl rfl)), Or.inr ⟨rfl, Or.inl ⟨rfl, rfl⟩⟩⟩
theorem ff_X3_100 : gt_fok (gt_T ++ gt_N) RX3 vwCl (100, 6, 8, 0) := ⟨RX6, TX6, 14, tyX6, rfl, by decide, hw_X6, tyX6_ok, nmX6, Or.inl (List.mem_append_left _ (gt_t1 68 rfl rfl)), Or.inl rfl⟩
def fl_X3 : List (Nat × Nat × Nat × Nat) := [(9, 3, 1, 0), (15, 3, 2, 0), (18, 3, 3, 0), (21, 3, 4, 0), (24, 3, 5, 0), (27, 3, 6, 0), (30, 3, 7, 0), (33, 3, 8, 0), (38, 3, 9, 0), (41, 3, 10, 0), (45, 3, 11, 1), (49, 3, 12, 1), (52, 3, 0, 1), (55, 6, 5, 1), (72, 6, 10, 1), (75, 6, 6, 0), (78, 6, 7, 0), (81, 6, 0, 1), (100, 6, 8, 0)]
theorem ef_X3 : ∀ q ∈ fl_X3, gt_fok (gt_T ++ gt_N) RX3 vwCl q := (gt_fall ff_X3_9 (gt_fall ff_X3_15 (gt_fall ff_X3_18 (gt_fall ff_X3_21 (gt_fall ff_X3_24 (gt_fall ff_X3_27 (gt_fall ff_X3_30 (gt_fall ff_X3_33 (gt_fall ff_X3_38 (gt_fall ff_X3_41 (gt_fall ff_X3_45 (gt_fall ff_X3_49 (gt_fall ff_X3_52 (gt_fall ff_X3_55 (gt_fall ff_X3_72 (gt_fall ff_X3_75 (gt_fall ff_X3_78 (gt_fall ff_X3_81 (gt_fall ff_X3_100 (fun _ h => absurd h List.not_mem_nil))))))))))))))))))))
def ci_X3 : List (Nat × Int32) := []
theorem ei_X3 : ∀ q ∈ ci_X3, Cond.constant RX3 q.1 q.2 ∈ gt_T ++ gt_N := (fun _ h => absurd h List.not_mem_nil)
def cj_X3 : List (Nat × Int64) := []
theorem ej_X3 : ∀ q ∈ cj_X3, Cond.constantLong RX3 q.1 q.2 ∈ gt_T ++ gt_N := (fun _ h => absurd h List.not_mem_nil)
theorem ff_X4_9 : gt_fok (gt_T ++ gt_N) RX4 vwCl (9, 4, 0, 0) := ⟨RX4, TX4, 14, tyX4, rfl, by decide, hw_X4, tyX4_ok, nmX4, Or.inl (List.mem_append_left _ (gt_t2 182 rfl rfl)), Or.inl rfl⟩
theorem ff_X4_15 : gt_fok (gt_T ++ gt_N) RX4 vwCl (15, 4, 1, 0) := ⟨RX4, TX4, 14, tyX4, rfl, by decide, hw_X4, tyX4_ok, nmX4, Or.inl (List.mem_append_left _ (gt_t2 183 rfl rfl)), Or.inl rfl⟩
theorem ff_X4_18 : gt_fok (gt_T ++ gt_N) RX4 vwCl (18, 4, 3, 0) := ⟨RX4, TX4, 14, tyX4, rfl, by decide, hw_X4, tyX4_ok, nmX4, Or.inl (List.mem_append_left _ (gt_t2 185 rfl rfl)), Or.inl rfl⟩
theorem ff_X4_21 : gt_fok (gt_T ++ gt_N) RX4 vwCl (21, 4, 4, 0) := ⟨RX4, TX4, 14, tyX4, rfl, by decide, hw_X4, tyX4_ok, nmX4, Or.inl (List.mem_append_left _ (gt_t2 186 rfl rfl)), Or.inl rfl⟩
theorem ff_X4_24 : gt_fok (gt_T ++ gt_N) RX4 vwCl (24, 4, 6, 1) := ⟨RX4, TX4, 14, tyX4, rfl, by decide, hw_X4, tyX4_ok, nmX4, Or.inl (List.mem_append_left _ (gt_t2 190 rfl rfl)), Or.inr ⟨rfl, Or.inl ⟨rfl, rfl⟩⟩⟩
theorem ff_X4_28 : gt_fok (gt_T ++ gt_N) RX4 vwCl (28, 4, 7, 0) := ⟨RX4, TX4, 14, tyX4, rfl, by decide, hw_X4, tyX4_ok, nmX4, Or.inl (List.mem_append_left _ (gt_t2 191 rfl rfl)), Or.inl rfl⟩
theorem ff_X4_31 : gt_fok (gt_T ++ gt_N) RX4 vwCl (31, 4, 13, 1) := ⟨RX4, TX4, 14, tyX4, rfl, by decide, hw_X4, tyX4_ok, nmX4, Or.inl (List.mem_append_left _ (gt_t2 202 rfl rfl)), Or.inr ⟨rfl, Or.inl ⟨rfl, rfl⟩⟩⟩
theorem ff_X4_34 : gt_fok (gt_T ++ gt_N) RX4 vwCl (34, 3, 6, 0) := ⟨RX3, TX3, 13, tyX3, rfl, by decide, hw_X3, tyX3_ok, nmX3, Or.inl (List.mem_append_left _ (gt_t2 20 rfl rfl)), Or.inl rfl⟩
theorem ff_X4_39 : gt_fok (gt_T ++ gt_N) RX4 vwCl (39, 3, 5, 0) := ⟨RX3, TX3, 13, tyX3, rfl, by decide, hw_X3, tyX3_ok, nmX3, Or.inl (List.mem_append_left _ (gt_t2 18 rfl rfl)), Or.inl rfl⟩
theorem ff_X4_52 : gt_fok (gt_T ++ gt_N) RX4 vwCl (52, 3, 0, 1) := ⟨RX3, TX3, 13, tyX3, rfl, by decide, hw_X3, tyX3_ok, nmX3, Or.inl (List.mem_append_left _ (gt_t2 6 rfl rfl)), Or.inr ⟨rfl, Or.inl ⟨rfl, rfl⟩⟩⟩
theorem ff_X4_55 : gt_fok (gt_T ++ gt_N) RX4 vwCl (55, 6, 0, 1) := ⟨RX6, TX6, 14, tyX6, rfl, by decide, hw_X6, tyX6_ok, nmX6, Or.inl (List.mem_append_left _ (gt_t1 43 rfl rfl)), Or.inr ⟨rfl, Or.inl ⟨rfl, rfl⟩⟩⟩
theorem ff_X4_64 : gt_fok (gt_T ++ gt_N) RX4 vwCl (64, 3, 4, 0) := ⟨RX3, TX3, 13, tyX3, rfl, by decide, hw_X3, tyX3_ok, nmX3, Or.inl (List.mem_append_left _ (gt_t2 16 rfl rfl)), Or.inl rfl⟩
theorem ff_X4_73 : gt_fok (gt_T ++ gt_N) RX4 vwCl (73, 1, 3, 1) := ⟨RX1, TX1, 19, tyX1, rfl, by decide, hw_X1, tyX1_ok, nmX1, Or.inl (List.mem_append_left _ (gt_t1 162 rfl rfl)), Or.inr ⟨rfl, Or.inl ⟨rfl, rfl⟩⟩⟩
theorem ff_X4_80 : gt_fok (gt_T ++ gt_N) RX4 vwCl (80, 4, 5, 1) := ⟨RX4, TX4, 14, tyX4, rfl, by decide, hw_X4, tyX4_ok, nmX4, Or.inl (List.mem_append_left _ (gt_t2 188 rfl rfl)), Or.inr ⟨rfl, Or.inl ⟨rfl, rfl⟩⟩⟩
theorem ff_X4_87 : gt_fok (gt_T ++ gt_N) RX4 vwCl (87, 4, 2, 1) := ⟨RX4, TX4, 14, tyX4, rfl, by decide, hw_X4, tyX4_ok, nmX4, Or.inl (List.mem_append_left _ (gt_t2 184 rfl rfl)), Or.inr ⟨rfl, Or.inl ⟨rfl, rfl⟩⟩⟩
theorem ff_X4_90 : gt_fok (gt_T ++ gt_N) RX4 vwCl (90, 1, 9, 1) := ⟨RX1, TX1, 19, tyX1, rfl, by decide, hw_X1, tyX1_ok, nmX1, Or.inr ⟨"GiftTable", List.mem_append_right _ (gt_Ni 178 (by decide +kernel) rfl)⟩, Or.inr ⟨rfl, Or.inl ⟨rfl, rfl⟩⟩⟩
theorem ff_X4_102 : gt_fok (gt_T ++ gt_N) RX4 vwCl (102, 1, 16, 0) := ⟨RX1, TX1, 19, tyX1, rfl, by decide, hw_X1, tyX1_ok, nmX1, Or.inl (List.mem_append_left _ (gt_t1 190 rfl rfl)), Or.inl rfl⟩
theorem ff_X4_111 : gt_fok (gt_T ++ gt_N) RX4 vwCl (111, 4, 8, 1) := ⟨RX4, TX4, 14, tyX4, rfl, by decide, hw_X4, tyX4_ok, nmX4, Or.inl (List.mem_append_left _ (gt_t2 193 rfl rfl)), Or.inr ⟨rfl, Or.inl ⟨rfl, rfl⟩⟩⟩
theorem ff_X4_118 : gt_fok (gt_T ++ gt_N) RX4 vwCl (118, 4, 12, 1) := ⟨RX4, TX4, 14, tyX4, rfl, by decide, hw_X4, tyX4_ok, nmX4, Or.inl (List.mem_append_left _ (gt_t2 200 rfl rfl)), Or.inr ⟨rfl, Or.inl ⟨rfl, rfl⟩⟩⟩
theorem ff_X4_129 : gt_fok (gt_T ++ gt_N) RX4 vwCl (129, 4, 9, 1) := ⟨RX4, TX4, 14, tyX4, rfl, by decide, hw_X4, tyX4_ok, nmX4, Or.inl (List.mem_append_left _ (gt_t2 194 rfl rfl)), Or.inr ⟨rfl, Or.inl ⟨rfl, rfl⟩⟩⟩
theorem ff_X4_132 : gt_fok (gt_T ++ gt_N) RX4 vwCl (132, 1, 4, 1) := ⟨RX1, TX1, 19, tyX1, rfl, by decide, hw_X1, tyX1_ok, nmX1, Or.inl (List.mem_append_left _ (gt_t1 166 rfl rfl)), Or.inr ⟨rfl, Or.inl ⟨rfl, rfl⟩⟩⟩
theorem ff_X4_135 : gt_fok (gt_T ++ gt_N) RX4 vwCl (135, 4, 10, 1) := ⟨RX4, TX4, 14, tyX4, rfl, by decide, hw_X4, tyX4_ok, nmX4, Or.inl (List.mem_append_left _ (gt_t2 196 rfl rfl)), Or.inr ⟨rfl, Or.inl ⟨rfl, rfl⟩⟩⟩
theorem ff_X4_138 : gt_fok (gt_T ++ gt_N) RX4 vwCl (138, 1, 5, 1) := ⟨RX1, TX1, 19, tyX1, rfl, by decide, hw_X1, tyX1_ok, nmX1, Or.inl (List.mem_append_left _ (gt_t1 169 rfl rfl)), Or.inr ⟨rfl, Or.inl ⟨rfl, rfl⟩⟩⟩
theorem ff_X4_141 : gt_fok (gt_T ++ gt_N) RX4 vwCl (141, 4, 11, 1) := ⟨RX4, TX4, 14, tyX4, rfl, by decide, hw_X4, tyX4_ok, nmX4, Or.inl (List.mem_append_left _ (gt_t2 198 rfl rfl)), Or.inr ⟨rfl, Or.inl ⟨rfl, rfl⟩⟩⟩
def fl_X4 : List (Nat × Nat × Nat × Nat) := [(9, 4, 0, 0), (15, 4, 1, 0), (18, 4, 3, 0), (21, 4, 4, 0), (24, 4, 6, 1), (28, 4, 7, 0), (31, 4, 13, 1), (34, 3, 6, 0), (39, 3, 5, 0), (52, 3, 0, 1), (55, 6, 0, 1), (64, 3, 4, 0), (73, 1, 3, 1), (80, 4, 5, 1), (87, 4, 2, 1), (90, 1, 9, 1), (102, 1, 16, 0), (111, 4, 8, 1), (118, 4, 12, 1), (129, 4, 9, 1), (132, 1, 4, 1), (135, 4, 10, 1), (138, 1, 5, 1), (141, 4, 11, 1)]
theorem ef_X4 : ∀ q ∈ fl_X4, gt_fok (gt_T ++ gt_N) RX4 vwCl q := (gt_fall ff_X4_9 (gt_fall ff_X4_15 (gt_fall ff_X4_18 (gt_fall ff_X4_21 (gt_fall ff_X4_24 (gt_fall ff_X4_28 (gt_fall ff_X4_31 (gt_fall ff_X4_34 (gt_fall ff_X4_39 (gt_fall ff_X4_52 (gt_fall ff_X4_55 (gt_fall ff_X4_64 (gt_fall ff_X4_73 (gt_fall ff_X4_80 (gt_fall ff_X4_87 (gt_fall ff_X4_90 (gt_fall ff_X4_102 (gt_fall ff_X4_111 (gt_fall ff_X4_118 (gt_fall ff_X4_129 (gt_fall ff_X4_132 (gt_fall ff_X4_135 (gt_fall ff_X4_138 (gt_fall ff_X4_141 (fun _ h => absurd h List.not_mem_nil)))))))))))))))))))))))))
def ci_X4 : List (Nat × Int32) := []
theorem ei_X4 : ∀ q ∈ ci_X4, Cond.constant RX4 q.1 q.2 ∈ gt_T ++ gt_N := (fun _ h => absurd h List.not_mem_nil)
def cj_X4 : List (Nat × Int64) := []
theorem ej_X4 : ∀ q ∈ cj_X4, Cond.constantLong RX4 q.1 q.2 ∈ gt_T ++ gt_N := (fun _ h => absurd h List.not_mem_nil)
theorem ff_X5_9 : gt_fok (gt_T ++ gt_N) RX5 vwCl (9, 5, 0, 0) := ⟨RX5, TX5, 10, tyX5, rfl, by decide, hw_X5, tyX5_ok, nmX5, Or.inl (List.mem_append_left _ (gt_t1 118 rfl rfl)), Or.inl rfl⟩
theorem ff_X5_15 : gt_fok (gt_T ++ gt_N) RX5 vwCl (15, 5, 1, 0) := ⟨RX5, TX5, 10, tyX5, rfl, by decide, hw_X5, tyX5_ok, nmX5, Or.inl (List.mem_append_left _ (gt_t1 119 rfl rfl)), Or.inl rfl⟩
theorem ff_X5_18 : gt_fok (gt_T ++ gt_N) RX5 vwCl (18, 5, 2, 0) := ⟨RX5, TX5, 10, tyX5, rfl, by decide, hw_X5, tyX5_ok, nmX5, Or.inl (List.mem_append_left _ (gt_t1 120 rfl rfl)), Or.inl rfl⟩
theorem ff_X5_23 : gt_fok (gt_T ++ gt_N) RX5 vwCl (23, 5, 3, 0) := ⟨RX5, TX5, 10, tyX5, rfl, by decide, hw_X5, tyX5_ok, nmX5, Or.inl (List.mem_append_left _ (gt_t1 121 rfl rfl)), Or.inl rfl⟩
theorem ff_X5_26 : gt_fok (gt_T ++ gt_N) RX5 vwCl (26, 5, 9, 1) := ⟨RX5, TX5, 10, tyX5, rfl, by decide, hw_X5, tyX5_ok, nmX5, Or.inl (List.mem_append_left _ (gt_t1 127 rfl rfl)), Or.inr ⟨rfl, Or.inl ⟨rfl, rfl⟩⟩⟩
theorem ff_X5_34 : gt_fok (gt_T ++ gt_N) RX5 vwCl (34, 5, 5, 1) := ⟨RX5, TX5, 10, tyX5, rfl, by decide, hw_X5, tyX5_ok, nmX5, Or.inl (List.mem_append_left _ (gt_t1 123 rfl rfl)), Or.inr ⟨rfl, Or.inl ⟨rfl, rfl⟩⟩⟩
theorem ff_X5_37 : gt_fok (gt_T ++ gt_N) RX5 vwCl (37, 5, 6, 1) := ⟨RX5, TX5, 10, tyX5, rfl, by decide, hw_X5, tyX5_ok, nmX5, Or.inl (List.mem_append_left _ (gt_t1 124 rfl rfl)), Or.inr ⟨rfl, Or.inl ⟨rfl, rfl⟩⟩⟩
theorem ff_X5_40 : gt_fok (gt_T ++ gt_N) RX5 vwCl (40, 5, 7, 1) := ⟨RX5, TX5, 10, tyX5, rfl, by decide, hw_X5, tyX5_ok, nmX5, Or.inl (List.mem_append_left _ (gt_t1 125 rfl rfl)), Or.inr ⟨rfl, Or.inl ⟨rfl, rfl⟩⟩⟩
theorem ff_X5_43 : gt_fok (gt_T ++ gt_N) RX5 vwCl (43, 5, 8, 1) := ⟨RX5, TX5, 10, tyX5, rfl, by decide, hw_X5, tyX5_ok, nmX5, Or.inl (List.mem_append_left _ (gt_t1 126 rfl rfl)), Or.inr ⟨rfl, Or.inl ⟨rfl, rfl⟩⟩⟩
theorem ff_X5_65 : gt_fok (gt_T ++ gt_N) RX5 vwCl (65, 5, 4, 1) := ⟨RX5, TX5, 10, tyX5, rfl, by decide, hw_X5, tyX5_ok, nmX5, Or.inl (List.mem_append_left _ (gt_t1 122 rfl rfl)), Or.inr ⟨rfl, Or.inl ⟨rfl, rfl⟩⟩⟩
def fl_X5 : List (Nat × Nat × Nat × Nat) := [(9, 5, 0, 0), (15, 5, 1, 0), (18, 5, 2, 0), (23, 5, 3, 0), (26, 5, 9, 1), (34, 5, 5, 1), (37, 5, 6, 1), (40, 5, 7, 1), (43, 5, 8, 1), (65, 5, 4, 1)]
theorem ef_X5 : ∀ q ∈ fl_X5, gt_fok (gt_T ++ gt_N) RX5 vwCl q := (gt_fall ff_X5_9 (gt_fall ff_X5_15 (gt_fall ff_X5_18 (gt_fall ff_X5_23 (gt_fall ff_X5_26 (gt_fall ff_X5_34 (gt_fall ff_X5_37 (gt_fall ff_X5_40 (gt_fall ff_X5_43 (gt_fall ff_X5_65 (fun _ h => absurd h List.not_mem_nil)))))))))))
def ci_X5 : List (Nat × Int32) := []
theorem ei_X5 : ∀ q ∈ ci_X5, Cond.constant RX5 q.1 q.2 ∈ gt_T ++ gt_N := (fun _ h => absurd h List.not_mem_nil)
def cj_X5 : List (Nat × Int64) := []
theorem ej_X5 : ∀ q ∈ cj_X5, Cond.constantLong RX5 q.1 q.2 ∈ gt_T ++ gt_N := (fun _ h => absurd h List.not_mem_nil)
theorem ff_X6_9 : gt_fok (gt_T ++ gt_N) RX6 vwCl (9, 6, 1, 0) := ⟨RX6, TX6, 14, tyX6, rfl, by decide, hw_X6, tyX6_ok, nmX6, Or.inl (List.mem_append_left _ (gt_t1 46 rfl rfl)), Or.inl rfl⟩
theorem ff_X6_15 : gt_fok (gt_T ++ gt_N) RX6 vwCl (15, 6, 2, 0) := ⟨RX6, TX6, 14, tyX6, rfl, by decide, hw_X6, tyX6_ok, nmX6, Or.inl (List.mem_append_left _ (gt_t1 48 rfl rfl)), Or.inl rfl⟩
theorem ff_X6_18 : gt_fok (gt_T ++ gt_N) RX6 vwCl (18, 6, 3, 0) := ⟨RX6, TX6, 14, tyX6, rfl, by decide, hw_X6, tyX6_ok, nmX6, Or.inl (List.mem_append_left _ (gt_t1 51 rfl rfl)), Or.inl rfl⟩
theorem ff_X6_21 : gt_fok (gt_T ++ gt_N) RX6 vwCl (21, 6, 4, 0) := ⟨RX6, TX6, 14, tyX6, rfl, by decide, hw_X6, tyX6_ok, nmX6, Or.inl (List.mem_append_left _ (gt_t1 54 rfl rfl)), Or.inl rfl⟩
theorem ff_X6_24 : gt_fok (gt_T ++ gt_N) RX6 vwCl (24, 6, 6, 0) := ⟨RX6, TX6, 14, tyX6, rfl, by decide, hw_X6, tyX6_ok, nmX6, Or.inl (List.mem_append_left _ (gt_t1 60 rfl rfl)), Or.inl rfl⟩
theorem ff_X6_27 : gt_fok (gt_T ++ gt_N) RX6 vwCl (27, 6, 7, 0) := ⟨RX6, TX6, 14, tyX6, rfl, by decide, hw_X6, tyX6_ok, nmX6, Or.inl (List.mem_append_left _ (gt_t1 63 rfl rfl)), Or.inl rfl⟩
theorem ff_X6_30 : gt_fok (gt_T ++ gt_N) RX6 vwCl (30, 6, 8, 0) := ⟨RX6, TX6, 14, tyX6, rfl, by decide, hw_X6, tyX6_ok, nmX6, Or.inl (List.mem_append_left _ (gt_t1 66 rfl rfl)), Or.inl rfl⟩
theorem ff_X6_33 : gt_fok (gt_T ++ gt_N) RX6 vwCl (33, 6, 9, 0) := ⟨RX6, TX6, 14, tyX6, rfl, by decide, hw_X6, tyX6_ok, nmX6, Or.inl (List.mem_append_left _ (gt_t1 70 rfl rfl)), Or.inl rfl⟩
theorem ff_X6_36 : gt_fok (gt_T ++ gt_N) RX6 vwCl (36, 6, 10, 1) := ⟨RX6, TX6, 14, tyX6, rfl, by decide, hw_X6, tyX6_ok, nmX6, Or.inl (List.mem_append_left _ (gt_t1 72 rfl rfl)), Or.inr ⟨rfl, Or.inl ⟨rfl, rfl⟩⟩⟩
theorem ff_X6_42 : gt_fok (gt_T ++ gt_N) RX6 vwCl (42, 6, 12, 0) := ⟨RX6, TX6, 14, tyX6, rfl, by decide, hw_X6, tyX6_ok, nmX6, Or.inl (List.mem_append_left _ (gt_t1 77 rfl rfl)), Or.inl rfl⟩
theorem ff_X6_46 : gt_fok (gt_T ++ gt_N) RX6 vwCl (46, 6, 13, 0) := ⟨RX6, TX6, 14, tyX6, rfl, by decide, hw_X6, tyX6_ok, nmX6, Or.inl (List.mem_append_left _ (gt_t1 79 rfl rfl)), Or.inl rfl⟩
theorem ff_X6_55 : gt_fok (gt_T ++ gt_N) RX6 vwCl (55, 6, 0, 1) := ⟨RX6, TX6, 14, tyX6, rfl, by decide, hw_X6, tyX6_ok, nmX6, Or.inl (List.mem_append_left _ (gt_t1 39 rfl rfl)), Or.inr ⟨rfl, Or.inl ⟨rfl, rfl⟩⟩⟩
theorem ff_X6_64 : gt_fok (gt_T ++ gt_N) RX6 vwCl (64, 6, 5, 1) := ⟨RX6, TX6, 14, tyX6, rfl, by decide, hw_X6, tyX6_ok, nmX6, Or.inl (List.mem_append_left _ (gt_t1 58 rfl rfl)), Or.inr ⟨rfl, Or.inl ⟨rfl, rfl⟩⟩⟩
theorem ff_X6_67 : gt_fok (gt_T ++ gt_N) RX6 vwCl (67, 6, 11, 1) := ⟨RX6, TX6, 14, tyX6, rfl, by decide, hw_X6, tyX6_ok, nmX6, Or.inl (List.mem_append_left _ (gt_t1 75 rfl rfl)), Or.inr ⟨rfl, Or.inl ⟨rfl, rfl⟩⟩⟩
def fl_X6 : List (Nat × Nat × Nat × Nat) := [(9, 6, 1, 0), (15, 6, 2, 0), (18, 6, 3, 0), (21, 6, 4, 0), (24, 6, 6, 0), (27, 6, 7, 0), (30, 6, 8, 0), (33, 6, 9, 0), (36, 6, 10, 1), (42, 6, 12, 0), (46, 6, 13, 0), (55, 6, 0, 1), (64, 6, 5, 1), (67, 6, 11, 1)]
theorem ef_X6 : ∀ q ∈ fl_X6, gt_fok (gt_T ++ gt_N) RX6 vwCl q := (gt_fall ff_X6_9 (gt_fall ff_X6_15 (gt_fall ff_X6_18 (gt_fall ff_X6_21 (gt_fall ff_X6_24 (gt_fall ff_X6_27 (gt_fall ff_X6_30 (gt_fall ff_X6_33 (gt_fall ff_X6_36 (gt_fall ff_X6_42 (gt_fall ff_X6_46 (gt_fall ff_X6_55 (gt_fall ff_X6_64 (gt_fall ff_X6_67 (fun _ h => absurd h List.not_mem_nil)))))))))))))))
def ci_X6 : List (Nat × Int32) := []
theorem ei_X6 : ∀ q ∈ ci_X6, Cond.constant RX6 q.1 q.2 ∈ gt_T ++ gt_N := (fun _ h => absurd h List.not_mem_nil)
def cj_X6 : List (Nat × Int64) := []
theorem ej_X6 : ∀ q ∈ cj_X6, Cond.constantLong RX6 q.1 q.2 ∈ gt_T ++ gt_N := (fun _ h => absurd h List.not_mem_nil)
theorem ff_X7_9 : gt_fok (gt_T ++ gt_N) RX7 vwCl (9, 7, 0, 0) := ⟨RX7, TX7, 2, tyX7, rfl, by decide, hw_X7, tyX7_ok, nmX7, Or.inl (List.mem_append_left _ (gt_t4 102 rfl rfl)), Or.inl rfl⟩
theorem ff_X7_15 : gt_fok (gt_T ++ gt_N) RX7 vwCl (15, 7, 1, 0) := ⟨RX7, TX7, 2, tyX7, rfl, by decide, hw_X7, tyX7_ok, nmX7, Or.inl (List.mem_append_left _ (gt_t4 103 rfl rfl)), Or.inl rfl⟩
def fl_X7 : List (Nat × Nat × Nat × Nat) := [(9, 7, 0, 0), (15, 7, 1, 0)]
theorem ef_X7 : ∀ q ∈ fl_X7, gt_fok (gt_T ++ gt_N) RX7 vwCl q := (gt_fall ff_X7_9 (gt_fall ff_X7_15 (fun _ h => absurd h List.not_mem_nil)))
def ci_X7 : List (Nat × Int32) := []
theorem ei_X7 : ∀ q ∈ ci_X7, Cond.constant RX7 q.1 q.2 ∈ gt_T ++ gt_N := (fun _ h => absurd h List.not_mem_nil)
def cj_X7 : List (Nat × Int64) := [(22, -9223372036854775808), (24, 1000), (42, 1000000000), (44, -1000000000)]
theorem ej_X7 : ∀ q ∈ cj_X7, Cond.constantLong RX7 q.1 q.2 ∈ gt_T ++ gt_N := (List.forall_mem_cons.mpr ⟨List.mem_append_left _ (gt_t4 164 rfl rfl), (List.forall_mem_cons.mpr ⟨List.mem_append_left _ (gt_t4 173 rfl rfl), (List.forall_mem_cons.mpr ⟨List.mem_append_left _ (gt_t4 171 rfl rfl), (List.forall_mem_cons.mpr ⟨List.mem_append_left _ (gt_t4 172 rfl rfl), (fun _ h => absurd h List.not_mem_nil)⟩)⟩)⟩)⟩)
theorem ff_X8_11 : gt_fok (gt_T ++ gt_N) RX8 vwCl (11, 8, 0, 0) := ⟨RX8, TX8, 8, tyX8, rfl, by decide, hw_X8, tyX8_ok, nmX8, Or.inl (List.mem_append_left _ (gt_t2 100 rfl rfl)), Or.inl rfl⟩
theorem ff_X8_15 : gt_fok (gt_T ++ gt_N) RX8 vwCl (15, 8, 1, 0) := ⟨RX8, TX8, 8, tyX8, rfl, by decide, hw_X8, tyX8_ok, nmX8, Or.inl (List.mem_append_left _ (gt_t2 101 rfl rfl)), Or.inl rfl⟩
theorem ff_X8_20 : gt_fok (gt_T ++ gt_N) RX8 vwCl (20, 8, 2, 0) := ⟨RX8, TX8, 8, tyX8, rfl, by decide, hw_X8, tyX8_ok, nmX8, Or.inl (List.mem_append_left _ (gt_t2 102 rfl rfl)), Or.inl rfl⟩
theorem ff_X8_23 : gt_fok (gt_T ++ gt_N) RX8 vwCl (23, 8, 3, 0) := ⟨RX8, TX8, 8, tyX8, rfl, by decide, hw_X8, tyX8_ok, nmX8, Or.inl (List.mem_append_left _ (gt_t2 103 rfl rfl)), Or.inl rfl⟩
theorem ff_X8_26 : gt_fok (gt_T ++ gt_N) RX8 vwCl (26, 8, 4, 0) := ⟨RX8, TX8, 8, tyX8, rfl, by decide, hw_X8, tyX8_ok, nmX8, Or.inl (List.mem_append_left _ (gt_t2 104 rfl rfl)), Or.inl rfl⟩
theorem ff_X8_29 : gt_fok (gt_T ++ gt_N) RX8 vwCl (29, 8, 7, 1) := ⟨RX8, TX8, 8, tyX8, rfl, by decide, hw_X8, tyX8_ok, nmX8, Or.inl (List.mem_append_left _ (gt_t2 110 rfl rfl)), Or.inr ⟨rfl, Or.inl ⟨rfl, rfl⟩⟩⟩
theorem ff_X8_33 : gt_fok (gt_T ++ gt_N) RX8 vwCl (33, 3, 0, 1) := ⟨RX3, TX3, 13, tyX3, rfl, by decide, hw_X3, tyX3_ok, nmX3, Or.inl (List.mem_append_left _ (gt_t2 2 rfl rfl)), Or.inr ⟨rfl, Or.inl ⟨rfl, rfl⟩⟩⟩
theorem ff_X8_38 : gt_fok (gt_T ++ gt_N) RX8 vwCl (38, 1, 11, 0) := ⟨RX1, TX1, 19, tyX1, rfl, by decide, hw_X1, tyX1_ok, nmX1, Or.inl (List.mem_append_left _ (gt_t1 182 rfl rfl)), Or.inl rfl⟩
theorem ff_X8_41 : gt_fok (gt_T ++ gt_N) RX8 vwCl (41, 1, 16, 0) := ⟨RX1, TX1, 19, tyX1, rfl, by decide, hw_X1, tyX1_ok, nmX1, Or.inl (List.mem_append_left _ (gt_t1 188 rfl rfl)), Or.inl rfl⟩
theorem ff_X8_71 : gt_fok (gt_T ++ gt_N) RX8 vwCl (71, 3, 7, 0) := ⟨RX3, TX3, 13, tyX3, rfl, by decide, hw_X3, tyX3_ok, nmX3, Or.inl (List.mem_append_left _ (gt_t2 23 rfl rfl)), Or.inl rfl⟩
theorem ff_X8_82 : gt_fok (gt_T ++ gt_N) RX8 vwCl (82, 1, 17, 0) := ⟨RX1, TX1, 19, tyX1, rfl, by decide, hw_X1, tyX1_ok, nmX1, Or.inl (List.mem_append_left _ (gt_t1 193 rfl rfl)), Or.inl rfl⟩
theorem ff_X8_85 : gt_fok (gt_T ++ gt_N) RX8 vwCl (85, 8, 5, 1) := ⟨RX8, TX8, 8, tyX8, rfl, by decide, hw_X8, tyX8_ok, nmX8, Or.inl (List.mem_append_left _ (gt_t2 106 rfl rfl)), Or.inr ⟨rfl, Or.inl ⟨rfl, rfl⟩⟩⟩
theorem ff_X8_88 : gt_fok (gt_T ++ gt_N) RX8 vwCl (88, 1, 18, 0) := ⟨RX1, TX1, 19, tyX1, rfl, by decide, hw_X1, tyX1_ok, nmX1, Or.inl (List.mem_append_left _ (gt_t1 196 rfl rfl)), Or.inl rfl⟩
theorem ff_X8_91 : gt_fok (gt_T ++ gt_N) RX8 vwCl (91, 8, 6, 1) := ⟨RX8, TX8, 8, tyX8, rfl, by decide, hw_X8, tyX8_ok, nmX8, Or.inl (List.mem_append_left _ (gt_t2 108 rfl rfl)), Or.inr ⟨rfl, Or.inl ⟨rfl, rfl⟩⟩⟩
def fl_X8 : List (Nat × Nat × Nat × Nat) := [(11, 8, 0, 0), (15, 8, 1, 0), (20, 8, 2, 0), (23, 8, 3, 0), (26, 8, 4, 0), (29, 8, 7, 1), (33, 3, 0, 1), (38, 1, 11, 0), (41, 1, 16, 0), (71, 3, 7, 0), (82, 1, 17, 0), (85, 8, 5, 1), (88, 1, 18, 0), (91, 8, 6, 1)]
theorem ef_X8 : ∀ q ∈ fl_X8, gt_fok (gt_T ++ gt_N) RX8 vwCl q := (gt_fall ff_X8_11 (gt_fall ff_X8_15 (gt_fall ff_X8_20 (gt_fall ff_X8_23 (gt_fall ff_X8_26 (gt_fall ff_X8_29 (gt_fall ff_X8_33 (gt_fall ff_X8_38 (gt_fall ff_X8_41 (gt_fall ff_X8_71 (gt_fall ff_X8_82 (gt_fall ff_X8_85 (gt_fall ff_X8_88 (gt_fall ff_X8_91 (fun _ h => absurd h List.not_mem_nil)))))))))))))))
def ci_X8 : List (Nat × Int32) := []
theorem ei_X8 : ∀ q ∈ ci_X8, Cond.constant RX8 q.1 q.2 ∈ gt_T ++ gt_N := (fun _ h => absurd h List.not_mem_nil)
def cj_X8 : List (Nat × Int64) := []
theorem ej_X8 : ∀ q ∈ cj_X8, Cond.constantLong RX8 q.1 q.2 ∈ gt_T ++ gt_N := (fun _ h => absurd h List.not_mem_nil)
theorem ff_X9_9 : gt_fok (gt_T ++ gt_N) RX9 vwCl (9, 9, 3, 0) := ⟨RX9, TX9, 6, tyX9, rfl, by decide, hw_X9, tyX9_ok, nmX9, Or.inl (List.mem_append_left _ (gt_t3 4 rfl rfl)), Or.inl rfl⟩
theorem ff_X9_15 : gt_fok (gt_T ++ gt_N) RX9 vwCl (15, 9, 4, 0) := ⟨RX9, TX9, 6, tyX9, rfl, by decide, hw_X9, tyX9_ok, nmX9, Or.inl (List.mem_append_left _ (gt_t3 6 rfl rfl)), Or.inl rfl⟩
theorem ff_X9_18 : gt_fok (gt_T ++ gt_N) RX9 vwCl (18, 9, 5, 0) := ⟨RX9, TX9, 6, tyX9, rfl, by decide, hw_X9, tyX9_ok, nmX9, Or.inl (List.mem_append_left _ (gt_t3 8 rfl rfl)), Or.inl rfl⟩
theorem ff_X9_21 : gt_fok (gt_T ++ gt_N) RX9 vwCl (21, 9, 0, 2) := ⟨RX9, TX9, 6, tyX9, rfl, by decide, hw_X9, tyX9_ok, nmX9, Or.inl (List.mem_append_left _ (gt_t2 238 rfl rfl)), Or.inr ⟨rfl, Or.inr (Or.inl ⟨rfl, rfl⟩)⟩⟩
theorem ff_X9_25 : gt_fok (gt_T ++ gt_N) RX9 vwCl (25, 9, 2, 1) := ⟨RX9, TX9, 6, tyX9, rfl, by decide, hw_X9, tyX9_ok, nmX9, Or.inl (List.mem_append_left _ (gt_t3 2 rfl rfl)), Or.inr ⟨rfl, Or.inl ⟨rfl, rfl⟩⟩⟩
theorem ff_X9_35 : gt_fok (gt_T ++ gt_N) RX9 vwCl (35, 3, 0, 1) := ⟨RX3, TX3, 13, tyX3, rfl, by decide, hw_X3, tyX3_ok, nmX3, Or.inl (List.mem_append_left _ (gt_t2 5 rfl rfl)), Or.inr ⟨rfl, Or.inl ⟨rfl, rfl⟩⟩⟩
theorem ff_X9_40 : gt_fok (gt_T ++ gt_N) RX9 vwCl (40, 3, 1, 0) := ⟨RX3, TX3, 13, tyX3, rfl, by decide, hw_X3, tyX3_ok, nmX3, Or.inl (List.mem_append_left _ (gt_t2 9 rfl rfl)), Or.inl rfl⟩
theorem ff_X9_43 : gt_fok (gt_T ++ gt_N) RX9 vwCl (43, 6, 8, 0) := ⟨RX6, TX6, 14, tyX6, rfl, by decide, hw_X6, tyX6_ok, nmX6, Or.inl (List.mem_append_left _ (gt_t1 67 rfl rfl)), Or.inl rfl⟩
theorem ff_X9_52 : gt_fok (gt_T ++ gt_N) RX9 vwCl (52, 3, 4, 0) := ⟨RX3, TX3, 13, tyX3, rfl, by decide, hw_X3, tyX3_ok, nmX3, Or.inl (List.mem_append_left _ (gt_t2 14 rfl rfl)), Or.inl rfl⟩
theorem ff_X9_61 : gt_fok (gt_T ++ gt_N) RX9 vwCl (61, 1, 3, 1) := ⟨RX1, TX1, 19, tyX1, rfl, by decide, hw_X1, tyX1_ok, nmX1, Or.inl (List.mem_append_left _ (gt_t1 161 rfl rfl)), Or.inr ⟨rfl, Or.inl ⟨rfl, rfl⟩⟩⟩
theorem ff_X9_64 : gt_fok (gt_T ++ gt_N) RX9 vwCl (64, 9, 1, 1) := ⟨RX9, TX9, 6, tyX9, rfl, by decide, hw_X9, tyX9_ok, nmX9, Or.inl (List.mem_append_left _ (gt_t3 0 rfl rfl)), Or.inr ⟨rfl, Or.inl ⟨rfl, rfl⟩⟩⟩
theorem ff_X9_65 : gt_fok (gt_T ++ gt_N) RX9 vwCl (65, 3, 6, 0) := ⟨RX3, TX3, 13, tyX3, rfl, by decide, hw_X3, tyX3_ok, nmX3, Or.inl (List.mem_append_left _ (gt_t2 21 rfl rfl)), Or.inl rfl⟩
theorem ff_X9_76 : gt_fok (gt_T ++ gt_N) RX9 vwCl (76, 6, 0, 1) := ⟨RX6, TX6, 14, tyX6, rfl, by decide, hw_X6, tyX6_ok, nmX6, Or.inl (List.mem_append_left _ (gt_t1 45 rfl rfl)), Or.inr ⟨rfl, Or.inl ⟨rfl, rfl⟩⟩⟩
theorem ff_X9_93 : gt_fok (gt_T ++ gt_N) RX9 vwCl (93, 3, 8, 0) := ⟨RX3, TX3, 13, tyX3, rfl, by decide, hw_X3, tyX3_ok, nmX3, Or.inl (List.mem_append_left _ (gt_t2 26 rfl rfl)), Or.inl rfl⟩
def fl_X9 : List (Nat × Nat × Nat × Nat) := [(9, 9, 3, 0), (15, 9, 4, 0), (18, 9, 5, 0), (21, 9, 0, 2), (25, 9, 2, 1), (35, 3, 0, 1), (40, 3, 1, 0), (43, 6, 8, 0), (52, 3, 4, 0), (61, 1, 3, 1), (64, 9, 1, 1), (65, 3, 6, 0), (76, 6, 0, 1), (93, 3, 8, 0)]
theorem ef_X9 : ∀ q ∈ fl_X9, gt_fok (gt_T ++ gt_N) RX9 vwCl q := (gt_fall ff_X9_9 (gt_fall ff_X9_15 (gt_fall ff_X9_18 (gt_fall ff_X9_21 (gt_fall ff_X9_25 (gt_fall ff_X9_35 (gt_fall ff_X9_40 (gt_fall ff_X9_43 (gt_fall ff_X9_52 (gt_fall ff_X9_61 (gt_fall ff_X9_64 (gt_fall ff_X9_65 (gt_fall ff_X9_76 (gt_fall ff_X9_93 (fun _ h => absurd h List.not_mem_nil)))))))))))))))
def ci_X9 : List (Nat × Int32) := []
theorem ei_X9 : ∀ q ∈ ci_X9, Cond.constant RX9 q.1 q.2 ∈ gt_T ++ gt_N := (fun _ h => absurd h List.not_mem_nil)
def cj_X9 : List (Nat × Int64) := [(83, 1103), (85, 12345), (87, 1000003)]
theorem ej_X9 : ∀ q ∈ cj_X9, Cond.constantLong RX9 q.1 q.2 ∈ gt_T ++ gt_N := (List.forall_mem_cons.mpr ⟨List.mem_append_left _ (gt_t6 32 rfl rfl), (List.forall_mem_cons.mpr ⟨List.mem_append_left _ (gt_t6 33 rfl rfl), (List.forall_mem_cons.mpr ⟨List.mem_append_left _ (gt_t6 34 rfl rfl), (fun _ h => absurd h List.not_mem_nil)⟩)⟩)⟩)
theorem ff_X10_10 : gt_fok (gt_T ++ gt_N) RX10 vwCl (10, 10, 0, 0) := ⟨RX10, TX10, 20, tyX10, rfl, by decide, hw_X10, tyX10_ok, nmX10, Or.inl (List.mem_append_left _ (gt_t3 22 rfl rfl)), Or.inl rfl⟩
theorem ff_X10_16 : gt_fok (gt_T ++ gt_N) RX10 vwCl (16, 10, 1, 0) := ⟨RX10, TX10, 20, tyX10, rfl, by decide, hw_X10, tyX10_ok, nmX10, Or.inl (List.mem_append_left _ (gt_t3 23 rfl rfl)), Or.inl rfl⟩
theorem ff_X10_20 : gt_fok (gt_T ++ gt_N) RX10 vwCl (20, 10, 2, 0) := ⟨RX10, TX10, 20, tyX10, rfl, by decide, hw_X10, tyX10_ok, nmX10, Or.inl (List.mem_append_left _ (gt_t3 24 rfl rfl)), Or.inl rfl⟩
theorem ff_X10_24 : gt_fok (gt_T ++ gt_N) RX10 vwCl (24, 10, 3, 0) := ⟨RX10, TX10, 20, tyX10, rfl, by decide, hw_X10, tyX10_ok, nmX10, Or.inl (List.mem_append_left _ (gt_t3 25 rfl rfl)), Or.inl rfl⟩
theorem ff_X10_28 : gt_fok (gt_T ++ gt_N) RX10 vwCl (28, 10, 5, 1) := ⟨RX10, TX10, 20, tyX10, rfl, by decide, hw_X10, tyX10_ok, nmX10, Or.inl (List.mem_append_left _ (gt_t3 27 rfl rfl)), Or.inr ⟨rfl, Or.inl ⟨rfl, rfl⟩⟩⟩
theorem ff_X10_32 : gt_fok (gt_T ++ gt_N) RX10 vwCl (32, 10, 8, 0) := ⟨RX10, TX10, 20, tyX10, rfl, by decide, hw_X10, tyX10_ok, nmX10, Or.inl (List.mem_append_left _ (gt_t3 30 rfl rfl)), Or.inl rfl⟩
theorem ff_X10_35 : gt_fok (gt_T ++ gt_N) RX10 vwCl (35, 10, 10, 0) := ⟨RX10, TX10, 20, tyX10, rfl, by decide, hw_X10, tyX10_ok, nmX10, Or.inl (List.mem_append_left _ (gt_t3 32 rfl rfl)), Or.inl rfl⟩
theorem ff_X10_41 : gt_fok (gt_T ++ gt_N) RX10 vwCl (41, 10, 11, 0) := ⟨RX10, TX10, 20, tyX10, rfl, by decide, hw_X10, tyX10_ok, nmX10, Or.inl (List.mem_append_left _ (gt_t3 33 rfl rfl)), Or.inl rfl⟩
theorem ff_X10_48 : gt_fok (gt_T ++ gt_N) RX10 vwCl (48, 10, 12, 0) := ⟨RX10, TX10, 20, tyX10, rfl, by decide, hw_X10, tyX10_ok, nmX10, Or.inl (List.mem_append_left _ (gt_t3 34 rfl rfl)), Or.inl rfl⟩
theorem ff_X10_55 : gt_fok (gt_T ++ gt_N) RX10 vwCl (55, 10, 13, 0) := ⟨RX10, TX10, 20, tyX10, rfl, by decide, hw_X10, tyX10_ok, nmX10, Or.inl (List.mem_append_left _ (gt_t3 35 rfl rfl)), Or.inl rfl⟩
theorem ff_X10_62 : gt_fok (gt_T ++ gt_N) RX10 vwCl (62, 10, 14, 0) := ⟨RX10, TX10, 20, tyX10, rfl, by decide, hw_X10, tyX10_ok, nmX10, Or.inl (List.mem_append_left _ (gt_t3 36 rfl rfl)), Or.inl rfl⟩
theorem ff_X10_69 : gt_fok (gt_T ++ gt_N) RX10 vwCl (69, 10, 15, 0) := ⟨RX10, TX10, 20, tyX10, rfl, by decide, hw_X10, tyX10_ok, nmX10, Or.inl (List.mem_append_left _ (gt_t3 37 rfl rfl)), Or.inl rfl⟩
theorem ff_X10_76 : gt_fok (gt_T ++ gt_N) RX10 vwCl (76, 10, 16, 0) := ⟨RX10, TX10, 20, tyX10, rfl, by decide, hw_X10, tyX10_ok, nmX10, Or.inl (List.mem_append_left _ (gt_t3 38 rfl rfl)), Or.inl rfl⟩
theorem ff_X10_83 : gt_fok (gt_T ++ gt_N) RX10 vwCl (83, 10, 17, 0) := ⟨RX10, TX10, 20, tyX10, rfl, by decide, hw_X10, tyX10_ok, nmX10, Or.inl (List.mem_append_left _ (gt_t3 39 rfl rfl)), Or.inl rfl⟩
theorem ff_X10_90 : gt_fok (gt_T ++ gt_N) RX10 vwCl (90, 10, 18, 0) := ⟨RX10, TX10, 20, tyX10, rfl, by decide, hw_X10, tyX10_ok, nmX10, Or.inl (List.mem_append_left _ (gt_t3 40 rfl rfl)), Or.inl rfl⟩
theorem ff_X10_94 : gt_fok (gt_T ++ gt_N) RX10 vwCl (94, 10, 19, 0) := ⟨RX10, TX10, 20, tyX10, rfl, by decide, hw_X10, tyX10_ok, nmX10, Or.inl (List.mem_append_left _ (gt_t3 41 rfl rfl)), Or.inl rfl⟩
theorem ff_X10_105 : gt_fok (gt_T ++ gt_N) RX10 vwCl (105, 6, 0, 1) := ⟨RX6, TX6, 14, tyX6, rfl, by decide, hw_X6, tyX6_ok, nmX6, Or.inl (List.mem_append_left _ (gt_t1 42 rfl rfl)), Or.inr ⟨rfl, Or.inl ⟨rfl, rfl⟩⟩⟩
theorem ff_X10_108 : gt_fok (gt_T ++ gt_N) RX10 vwCl (108, 6, 1, 0) := ⟨RX6, TX6, 14, tyX6, rfl, by decide, hw_X6, tyX6_ok, nmX6, Or.inl (List.mem_append_left _ (gt_t1 47 rfl rfl)), Or.inl rfl⟩
theorem ff_X10_122 : gt_fok (gt_T ++ gt_N) RX10 vwCl (122, 6, 2, 0) := ⟨RX6, TX6, 14, tyX6, rfl, by decide, hw_X6, tyX6_ok, nmX6, Or.inl (List.mem_append_left _ (gt_t1 50 rfl rfl)), Or.inl rfl⟩
theorem ff_X10_125 : gt_fok (gt_T ++ gt_N) RX10 vwCl (125, 6, 3, 0) := ⟨RX6, TX6, 14, tyX6, rfl, by decide, hw_X6, tyX6_ok, nmX6, Or.inl (List.mem_append_left _ (gt_t1 53 rfl rfl)), Or.inl rfl⟩
theorem ff_X10_128 : gt_fok (gt_T ++ gt_N) RX10 vwCl (128, 6, 4, 0) := ⟨RX6, TX6, 14, tyX6, rfl, by decide, hw_X6, tyX6_ok, nmX6, Or.inl (List.mem_append_left _ (gt_t1 56 rfl rfl)), Or.inl rfl⟩
theorem ff_X10_135 : gt_fok (gt_T ++ gt_N) RX10 vwCl (135, 6, 5, 1) := ⟨RX6, TX6, 14, tyX6, rfl, by decide, hw_X6, tyX6_ok, nmX6, Or.inl (List.mem_append_left _ (gt_t1 59 rfl rfl)), Or.inr ⟨rfl, Or.inl ⟨rfl, rfl⟩⟩⟩
theorem ff_X10_145 : gt_fok (gt_T ++ gt_N) RX10 vwCl (145, 6, 7, 0) := ⟨RX6, TX6, 14, tyX6, rfl, by decide, hw_X6, tyX6_ok, nmX6, Or.inl (List.mem_append_left _ (gt_t1 65 rfl rfl)), Or.inl rfl⟩
theorem ff_X10_148 : gt_fok (gt_T ++ gt_N) RX10 vwCl (148, 6, 8, 0) := ⟨RX6, TX6, 14, tyX6, rfl, by decide, hw_X6, tyX6_ok, nmX6, Or.inl (List.mem_append_left _ (gt_t1 69 rfl rfl)), Or.inl rfl⟩
theorem ff_X10_158 : gt_fok (gt_T ++ gt_N) RX10 vwCl (158, 6, 9, 0) := ⟨RX6, TX6, 14, tyX6, rfl, by decide, hw_X6, tyX6_ok, nmX6, Or.inl (List.mem_append_left _ (gt_t1 71 rfl rfl)), Or.inl rfl⟩
theorem ff_X10_161 : gt_fok (gt_T ++ gt_N) RX10 vwCl (161, 6, 10, 1) := ⟨RX6, TX6, 14, tyX6, rfl, by decide, hw_X6, tyX6_ok, nmX6, Or.inl (List.mem_append_left _ (gt_t1 74 rfl rfl)), Or.inr ⟨rfl, Or.inl ⟨rfl, rfl⟩⟩⟩
theorem ff_X10_164 : gt_fok (gt_T ++ gt_N) RX10 vwCl (164, 6, 6, 0) := ⟨RX6, TX6, 14, tyX6, rfl, by decide, hw_X6, tyX6_ok, nmX6, Or.inl (List.mem_append_left _ (gt_t1 62 rfl rfl)), Or.inl rfl⟩
theorem ff_X10_173 : gt_fok (gt_T ++ gt_N) RX10 vwCl (173, 10, 4, 1) := ⟨RX10, TX10, 20, tyX10, rfl, by decide, hw_X10, tyX10_ok, nmX10, Or.inl (List.mem_append_left _ (gt_t3 26 rfl rfl)), Or.inr ⟨rfl, Or.inl ⟨rfl, rfl⟩⟩⟩
theorem ff_X10_179 : gt_fok (gt_T ++ gt_N) RX10 vwCl (179, 10, 6, 1) := ⟨RX10, TX10, 20, tyX10, rfl, by decide, hw_X10, tyX10_ok, nmX10, Or.inl (List.mem_append_left _ (gt_t3 28 rfl rfl)), Or.inr ⟨rfl, Or.inl ⟨rfl, rfl⟩⟩⟩
theorem ff_X10_182 : gt_fok (gt_T ++ gt_N) RX10 vwCl (182, 6, 11, 1) := ⟨RX6, TX6, 14, tyX6, rfl, by decide, hw_X6, tyX6_ok, nmX6, Or.inl (List.mem_append_left _ (gt_t1 76 rfl rfl)), Or.inr ⟨rfl, Or.inl ⟨rfl, rfl⟩⟩⟩
theorem ff_X10_189 : gt_fok (gt_T ++ gt_N) RX10 vwCl (189, 5, 9, 1) := ⟨RX5, TX5, 10, tyX5, rfl, by decide, hw_X5, tyX5_ok, nmX5, Or.inl (List.mem_append_left _ (gt_t1 128 rfl rfl)), Or.inr ⟨rfl, Or.inl ⟨rfl, rfl⟩⟩⟩
theorem ff_X10_190 : gt_fok (gt_T ++ gt_N) RX10 vwCl (190, 6, 12, 0) := ⟨RX6, TX6, 14, tyX6, rfl, by decide, hw_X6, tyX6_ok, nmX6, Or.inl (List.mem_append_left _ (gt_t1 78 rfl rfl)), Or.inl rfl⟩
theorem ff_X10_197 : gt_fok (gt_T ++ gt_N) RX10 vwCl (197, 6, 13, 0) := ⟨RX6, TX6, 14, tyX6, rfl, by decide, hw_X6, tyX6_ok, nmX6, Or.inl (List.mem_append_left _ (gt_t1 80 rfl rfl)), Or.inl rfl⟩
theorem ff_X10_217 : gt_fok (gt_T ++ gt_N) RX10 vwCl (217, 1, 3, 1) := ⟨RX1, TX1, 19, tyX1, rfl, by decide, hw_X1, tyX1_ok, nmX1, Or.inl (List.mem_append_left _ (gt_t1 164 rfl rfl)), Or.inr ⟨rfl, Or.inl ⟨rfl, rfl⟩⟩⟩
theorem ff_X10_220 : gt_fok (gt_T ++ gt_N) RX10 vwCl (220, 1, 4, 1) := ⟨RX1, TX1, 19, tyX1, rfl, by decide, hw_X1, tyX1_ok, nmX1, Or.inl (List.mem_append_left _ (gt_t1 167 rfl rfl)), Or.inr ⟨rfl, Or.inl ⟨rfl, rfl⟩⟩⟩
theorem ff_X10_223 : gt_fok (gt_T ++ gt_N) RX10 vwCl (223, 1, 5, 1) := ⟨RX1, TX1, 19, tyX1, rfl, by decide, hw_X1, tyX1_ok, nmX1, Or.inl (List.mem_append_left _ (gt_t1 170 rfl rfl)), Or.inr ⟨rfl, Or.inl ⟨rfl, rfl⟩⟩⟩
theorem ff_X10_229 : gt_fok (gt_T ++ gt_N) RX10 vwCl (229, 2, 7, 0) := ⟨RX2, TX2, 9, tyX2, rfl, by decide, hw_X2, tyX2_ok, nmX2, Or.inl (List.mem_append_left _ (gt_t2 73 rfl rfl)), Or.inl rfl⟩
theorem ff_X10_232 : gt_fok (gt_T ++ gt_N) RX10 vwCl (232, 10, 9, 1) := ⟨RX10, TX10, 20, tyX10, rfl, by decide, hw_X10, tyX10_ok, nmX10, Or.inl (List.mem_append_left _ (gt_t3 31 rfl rfl)), Or.inr ⟨rfl, Or.inl ⟨rfl, rfl⟩⟩⟩
theorem ff_X10_256 : gt_fok (gt_T ++ gt_N) RX10 vwCl (256, 8, 5, 1) := ⟨RX8, TX8, 8, tyX8, rfl, by decide, hw_X8, tyX8_ok, nmX8, Or.inl (List.mem_append_left _ (gt_t2 107 rfl rfl)), Or.inr ⟨rfl, Or.inl ⟨rfl, rfl⟩⟩⟩
theorem ff_X10_257 : gt_fok (gt_T ++ gt_N) RX10 vwCl (257, 8, 6, 1) := ⟨RX8, TX8, 8, tyX8, rfl, by decide, hw_X8, tyX8_ok, nmX8, Or.inl (List.mem_append_left _ (gt_t2 109 rfl rfl)), Or.inr ⟨rfl, Or.inl ⟨rfl, rfl⟩⟩⟩
theorem ff_X10_258 : gt_fok (gt_T ++ gt_N) RX10 vwCl (258, 8, 4, 0) := ⟨RX8, TX8, 8, tyX8, rfl, by decide, hw_X8, tyX8_ok, nmX8, Or.inl (List.mem_append_left _ (gt_t2 105 rfl rfl)), Or.inl rfl⟩
theorem ff_X10_272 : gt_fok (gt_T ++ gt_N) RX10 vwCl (272, 0, 11, 1) := ⟨RX0, TX0, 12, tyX0, rfl, by decide, hw_X0, tyX0_ok, nmX0, Or.inl (List.mem_append_left _ (gt_t2 150 rfl rfl)), Or.inr ⟨rfl, Or.inl ⟨rfl, rfl⟩⟩⟩
theorem ff_X10_279 : gt_fok (gt_T ++ gt_N) RX10 vwCl (279, 3, 0, 1) := ⟨RX3, TX3, 13, tyX3, rfl, by decide, hw_X3, tyX3_ok, nmX3, Or.inl (List.mem_append_left _ (gt_t2 7 rfl rfl)), Or.inr ⟨rfl, Or.inl ⟨rfl, rfl⟩⟩⟩
theorem ff_X10_290 : gt_fok (gt_T ++ gt_N) RX10 vwCl (290, 4, 5, 1) := ⟨RX4, TX4, 14, tyX4, rfl, by decide, hw_X4, tyX4_ok, nmX4, Or.inl (List.mem_append_left _ (gt_t2 189 rfl rfl)), Or.inr ⟨rfl, Or.inl ⟨rfl, rfl⟩⟩⟩
theorem ff_X10_293 : gt_fok (gt_T ++ gt_N) RX10 vwCl (293, 4, 4, 0) := ⟨RX4, TX4, 14, tyX4, rfl, by decide, hw_X4, tyX4_ok, nmX4, Or.inl (List.mem_append_left _ (gt_t2 187 rfl rfl)), Or.inl rfl⟩
theorem ff_X10_307 : gt_fok (gt_T ++ gt_N) RX10 vwCl (307, 4, 9, 1) := ⟨RX4, TX4, 14, tyX4, rfl, by decide, hw_X4, tyX4_ok, nmX4, Or.inl (List.mem_append_left _ (gt_t2 195 rfl rfl)), Or.inr ⟨rfl, Or.inl ⟨rfl, rfl⟩⟩⟩
theorem ff_X10_310 : gt_fok (gt_T ++ gt_N) RX10 vwCl (310, 4, 12, 1) := ⟨RX4, TX4, 14, tyX4, rfl, by decide, hw_X4, tyX4_ok, nmX4, Or.inl (List.mem_append_left _ (gt_t2 201 rfl rfl)), Or.inr ⟨rfl, Or.inl ⟨rfl, rfl⟩⟩⟩
theorem ff_X10_313 : gt_fok (gt_T ++ gt_N) RX10 vwCl (313, 4, 10, 1) := ⟨RX4, TX4, 14, tyX4, rfl, by decide, hw_X4, tyX4_ok, nmX4, Or.inl (List.mem_append_left _ (gt_t2 197 rfl rfl)), Or.inr ⟨rfl, Or.inl ⟨rfl, rfl⟩⟩⟩
theorem ff_X10_316 : gt_fok (gt_T ++ gt_N) RX10 vwCl (316, 4, 11, 1) := ⟨RX4, TX4, 14, tyX4, rfl, by decide, hw_X4, tyX4_ok, nmX4, Or.inl (List.mem_append_left _ (gt_t2 199 rfl rfl)), Or.inr ⟨rfl, Or.inl ⟨rfl, rfl⟩⟩⟩
theorem ff_X10_319 : gt_fok (gt_T ++ gt_N) RX10 vwCl (319, 4, 7, 0) := ⟨RX4, TX4, 14, tyX4, rfl, by decide, hw_X4, tyX4_ok, nmX4, Or.inl (List.mem_append_left _ (gt_t2 192 rfl rfl)), Or.inl rfl⟩
theorem ff_X10_327 : gt_fok (gt_T ++ gt_N) RX10 vwCl (327, 9, 1, 1) := ⟨RX9, TX9, 6, tyX9, rfl, by decide, hw_X9, tyX9_ok, nmX9, Or.inl (List.mem_append_left _ (gt_t3 1 rfl rfl)), Or.inr ⟨rfl, Or.inl ⟨rfl, rfl⟩⟩⟩
theorem ff_X10_328 : gt_fok (gt_T ++ gt_N) RX10 vwCl (328, 9, 0, 2) := ⟨RX9, TX9, 6, tyX9, rfl, by decide, hw_X9, tyX9_ok, nmX9, Or.inl (List.mem_append_left _ (gt_t2 239 rfl rfl)), Or.inr ⟨rfl, Or.inr (Or.inl ⟨rfl, rfl⟩)⟩⟩
theorem ff_X10_332 : gt_fok (gt_T ++ gt_N) RX10 vwCl (332, 9, 3, 0) := ⟨RX9, TX9, 6, tyX9, rfl, by decide, hw_X9, tyX9_ok, nmX9, Or.inl (List.mem_append_left _ (gt_t3 5 rfl rfl)), Or.inl rfl⟩
theorem ff_X10_335 : gt_fok (gt_T ++ gt_N) RX10 vwCl (335, 9, 4, 0) := ⟨RX9, TX9, 6, tyX9, rfl, by decide, hw_X9, tyX9_ok, nmX9, Or.inl (List.mem_append_left _ (gt_t3 7 rfl rfl)), Or.inl rfl⟩
theorem ff_X10_338 : gt_fok (gt_T ++ gt_N) RX10 vwCl (338, 9, 2, 1) := ⟨RX9, TX9, 6, tyX9, rfl, by decide, hw_X9, tyX9_ok, nmX9, Or.inl (List.mem_append_left _ (gt_t3 3 rfl rfl)), Or.inr ⟨rfl, Or.inl ⟨rfl, rfl⟩⟩⟩
theorem ff_X10_345 : gt_fok (gt_T ++ gt_N) RX10 vwCl (345, 1, 6, 1) := ⟨RX1, TX1, 19, tyX1, rfl, by decide, hw_X1, tyX1_ok, nmX1, Or.inl (List.mem_append_left _ (gt_t1 172 rfl rfl)), Or.inr ⟨rfl, Or.inl ⟨rfl, rfl⟩⟩⟩
theorem ff_X10_348 : gt_fok (gt_T ++ gt_N) RX10 vwCl (348, 1, 7, 1) := ⟨RX1, TX1, 19, tyX1, rfl, by decide, hw_X1, tyX1_ok, nmX1, Or.inl (List.mem_append_left _ (gt_t1 174 rfl rfl)), Or.inr ⟨rfl, Or.inl ⟨rfl, rfl⟩⟩⟩
theorem ff_X10_351 : gt_fok (gt_T ++ gt_N) RX10 vwCl (351, 1, 8, 1) := ⟨RX1, TX1, 19, tyX1, rfl, by decide, hw_X1, tyX1_ok, nmX1, Or.inl (List.mem_append_left _ (gt_t1 176 rfl rfl)), Or.inr ⟨rfl, Or.inl ⟨rfl, rfl⟩⟩⟩
theorem ff_X10_365 : gt_fok (gt_T ++ gt_N) RX10 vwCl (365, 10, 7, 1) := ⟨RX10, TX10, 20, tyX10, rfl, by decide, hw_X10, tyX10_ok, nmX10, Or.inl (List.mem_append_left _ (gt_t3 29 rfl rfl)), Or.inr ⟨rfl, Or.inl ⟨rfl, rfl⟩⟩⟩
theorem ff_X10_368 : gt_fok (gt_T ++ gt_N) RX10 vwCl (368, 3, 2, 0) := ⟨RX3, TX3, 13, tyX3, rfl, by decide, hw_X3, tyX3_ok, nmX3, Or.inl (List.mem_append_left _ (gt_t2 11 rfl rfl)), Or.inl rfl⟩
def fl_X10 : List (Nat × Nat × Nat × Nat) := [(10, 10, 0, 0), (16, 10, 1, 0), (20, 10, 2, 0), (24, 10, 3, 0), (28, 10, 5, 1), (32, 10, 8, 0), (35, 10, 10, 0), (41, 10, 11, 0), (48, 10, 12, 0), (55, 10, 13, 0), (62, 10, 14, 0), (69, 10, 15, 0), (76, 10, 16, 0), (83, 10, 17, 0), (90, 10, 18, 0), (94, 10, 19, 0), (105, 6, 0, 1), (108, 6, 1, 0), (122, 6, 2, 0), (125, 6, 3, 0), (128, 6, 4, 0), (135, 6, 5, 1), (145, 6, 7, 0), (148, 6, 8, 0), (158, 6, 9, 0), (161, 6, 10, 1), (164, 6, 6, 0), (173, 10, 4, 1), (179, 10, 6, 1), (182, 6, 11, 1), (189, 5, 9, 1), (190, 6, 12, 0), (197, 6, 13, 0), (217, 1, 3, 1), (220, 1, 4, 1), (223, 1, 5, 1), (229, 2, 7, 0), (232, 10, 9, 1), (256, 8, 5, 1), (257, 8, 6, 1), (258, 8, 4, 0), (272, 0, 11, 1), (279, 3, 0, 1), (290, 4, 5, 1), (293, 4, 4, 0), (307, 4, 9, 1), (310, 4, 12, 1), (313, 4, 10, 1), (316, 4, 11, 1), (319, 4, 7, 0), (327, 9, 1, 1), (328, 9, 0, 2), (332, 9, 3, 0), (335, 9, 4, 0), (338, 9, 2, 1), (345, 1, 6, 1), (348, 1, 7, 1), (351, 1, 8, 1), (365, 10, 7, 1), (368, 3, 2, 0)]
theorem ef_X10 : ∀ q ∈ fl_X10, gt_fok (gt_T ++ gt_N) RX10 vwCl q := (gt_fall ff_X10_10 (gt_fall ff_X10_16 (gt_fall ff_X10_20 (gt_fall ff_X10_24 (gt_fall ff_X10_28 (gt_fall ff_X10_32 (gt_fall ff_X10_35 (gt_fall ff_X10_41 (gt_fall ff_X10_48 (gt_fall ff_X10_55 (gt_fall ff_X10_62 (gt_fall ff_X10_69 (gt_fall ff_X10_76 (gt_fall ff_X10_83 (gt_fall ff_X10_90 (gt_fall ff_X10_94 (gt_fall ff_X10_105 (gt_fall ff_X10_108 (gt_fall ff_X10_122 (gt_fall ff_X10_125 (gt_fall ff_X10_128 (gt_fall ff_X10_135 (gt_fall ff_X10_145 (gt_fall ff_X10_148 (gt_fall ff_X10_158 (gt_fall ff_X10_161 (gt_fall ff_X10_164 (gt_fall ff_X10_173 (gt_fall ff_X10_179 (gt_fall ff_X10_182 (gt_fall ff_X10_189 (gt_fall ff_X10_190 (gt_fall ff_X10_197 (gt_fall ff_X10_217 (gt_fall ff_X10_220 (gt_fall ff_X10_223 (gt_fall ff_X10_229 (gt_fall ff_X10_232 (gt_fall ff_X10_256 (gt_fall ff_X10_257 (gt_fall ff_X10_258 (gt_fall ff_X10_272 (gt_fall ff_X10_279 (gt_fall ff_X10_290 (gt_fall ff_X10_293 (gt_fall ff_X10_307 (gt_fall ff_X10_310 (gt_fall ff_X10_313 (gt_fall ff_X10_316 (gt_fall ff_X10_319 (gt_fall ff_X10_327 (gt_fall ff_X10_328 (gt_fall ff_X10_332 (gt_fall ff_X10_335 (gt_fall ff_X10_338 (gt_fall ff_X10_345 (gt_fall ff_X10_348 (gt_fall ff_X10_351 (gt_fall ff_X10_365 (gt_fall ff_X10_368 (fun _ h => absurd h List.not_mem_nil)))))))))))))))))))))))))))))))))))))))))))))))))))))))))))))
def ci_X10 : List (Nat × Int32) := [(322, 1000000)]
theorem ei_X10 : ∀ q ∈ ci_X10, Cond.constant RX10 q.1 q.2 ∈ gt_T ++ gt_N := (List.forall_mem_cons.mpr ⟨List.mem_append_left _ (gt_t6 12 rfl rfl), (fun _ h => absurd h List.not_mem_nil)⟩)
def cj_X10 : List (Nat × Int64) := []
theorem ej_X10 : ∀ q ∈ cj_X10, Cond.constantLong RX10 q.1 q.2 ∈ gt_T ++ gt_N := (fun _ h => absurd h List.not_mem_nil)
theorem ff_X11_7 : gt_fok (gt_T ++ gt_N) RX11 vwCl (7, 11, 2, 0) := ⟨RX11, TX11, 69, tyX11, rfl, by decide, hw_X11, tyX11_ok, nmX11, Or.inl (List.mem_append_left _ (gt_t6 116 rfl rfl)), Or.inl rfl⟩
theorem ff_X11_13 : gt_fok (gt_T ++ gt_N) RX11 vwCl (13, 11, 3, 0) := ⟨RX11, TX11, 69, tyX11, rfl, by decide, hw_X11, tyX11_ok, nmX11, Or.inl (List.mem_append_left _ (gt_t6 117 rfl rfl)), Or.inl rfl⟩
theorem ff_X11_16 : gt_fok (gt_T ++ gt_N) RX11 vwCl (16, 11, 4, 0) := ⟨RX11, TX11, 69, tyX11, rfl, by decide, hw_X11, tyX11_ok, nmX11, Or.inl (List.mem_append_left _ (gt_t6 118 rfl rfl)), Or.inl rfl⟩
theorem ff_X11_19 : gt_fok (gt_T ++ gt_N) RX11 vwCl (19, 11, 5, 0) := ⟨RX11, TX11, 69, tyX11, rfl, by decide, hw_X11, tyX11_ok, nmX11, Or.inl (List.mem_append_left _ (gt_t6 119 rfl rfl)), Or.inl rfl⟩
theorem ff_X11_23 : gt_fok (gt_T ++ gt_N) RX11 vwCl (23, 11, 7, 0) := ⟨RX11, TX11, 69, tyX11, rfl, by decide, hw_X11, tyX11_ok, nmX11, Or.inl (List.mem_append_left _ (gt_t6 121 rfl rfl)), Or.inl rfl⟩
theorem ff_X11_26 : gt_fok (gt_T ++ gt_N) RX11 vwCl (26, 11, 13, 1) := ⟨RX11, TX11, 69, tyX11, rfl, by decide, hw_X11, tyX11_ok, nmX11, Or.inl (List.mem_append_left _ (gt_t6 127 rfl rfl)), Or.inr ⟨rfl, Or.inl ⟨rfl, rfl⟩⟩⟩
theorem ff_X11_30 : gt_fok (gt_T ++ gt_N) RX11 vwCl (30, 11, 16, 0) := ⟨RX11, TX11, 69, tyX11, rfl, by decide, hw_X11, tyX11_ok, nmX11, Or.inl (List.mem_append_left _ (gt_t6 130 rfl rfl)), Or.inl rfl⟩
theorem ff_X11_33 : gt_fok (gt_T ++ gt_N) RX11 vwCl (33, 11, 18, 0) := ⟨RX11, TX11, 69, tyX11, rfl, by decide, hw_X11, tyX11_ok, nmX11, Or.inl (List.mem_append_left _ (gt_t6 132 rfl rfl)), Or.inl rfl⟩
theorem ff_X11_36 : gt_fok (gt_T ++ gt_N) RX11 vwCl (36, 11, 19, 0) := ⟨RX11, TX11, 69, tyX11, rfl, by decide, hw_X11, tyX11_ok, nmX11, Or.inl (List.mem_append_left _ (gt_t6 133 rfl rfl)), Or.inl rfl⟩
theorem ff_X11_39 : gt_fok (gt_T ++ gt_N) RX11 vwCl (39, 11, 21, 0) := ⟨RX11, TX11, 69, tyX11, rfl, by decide, hw_X11, tyX11_ok, nmX11, Or.inl (List.mem_append_left _ (gt_t6 135 rfl rfl)), Or.inl rfl⟩
theorem ff_X11_42 : gt_fok (gt_T ++ gt_N) RX11 vwCl (42, 11, 22, 0) := ⟨RX11, TX11, 69, tyX11, rfl, by decide, hw_X11, tyX11_ok, nmX11, Or.inl (List.mem_append_left _ (gt_t6 136 rfl rfl)), Or.inl rfl⟩
theorem ff_X11_65 : gt_fok (gt_T ++ gt_N) RX11 vwCl (65, 11, 25, 0) := ⟨RX11, TX11, 69, tyX11, rfl, by decide, hw_X11, tyX11_ok, nmX11, Or.inl (List.mem_append_left _ (gt_t6 139 rfl rfl)), Or.inl rfl⟩
theorem ff_X11_69 : gt_fok (gt_T ++ gt_N) RX11 vwCl (69, 11, 27, 0) := ⟨RX11, TX11, 69, tyX11, rfl, by decide, hw_X11, tyX11_ok, nmX11, Or.inl (List.mem_append_left _ (gt_t6 141 rfl rfl)), Or.inl rfl⟩
theorem ff_X11_72 : gt_fok (gt_T ++ gt_N) RX11 vwCl (72, 11, 28, 0) := ⟨RX11, TX11, 69, tyX11, rfl, by decide, hw_X11, tyX11_ok, nmX11, Or.inl (List.mem_append_left _ (gt_t6 142 rfl rfl)), Or.inl rfl⟩
theorem ff_X11_75 : gt_fok (gt_T ++ gt_N) RX11 vwCl (75, 11, 32, 0) := ⟨RX11, TX11, 69, tyX11, rfl, by decide, hw_X11, tyX11_ok, nmX11, Or.inl (List.mem_append_left _ (gt_t6 146 rfl rfl)), Or.inl rfl⟩
theorem ff_X11_78 : gt_fok (gt_T ++ gt_N) RX11 vwCl (78, 11, 33, 0) := ⟨RX11, TX11, 69, tyX11, rfl, by decide, hw_X11, tyX11_ok, nmX11, Or.inl (List.mem_append_left _ (gt_t6 147 rfl rfl)), Or.inl rfl⟩
theorem ff_X11_81 : gt_fok (gt_T ++ gt_N) RX11 vwCl (81, 11, 34, 0) := ⟨RX11, TX11, 69, tyX11, rfl, by decide, hw_X11, tyX11_ok, nmX11, Or.inl (List.mem_append_left _ (gt_t6 148 rfl rfl)), Or.inl rfl⟩
theorem ff_X11_84 : gt_fok (gt_T ++ gt_N) RX11 vwCl (84, 11, 35, 0) := ⟨RX11, TX11, 69, tyX11, rfl, by decide, hw_X11, tyX11_ok, nmX11, Or.inl (List.mem_append_left _ (gt_t6 149 rfl rfl)), Or.inl rfl⟩
theorem ff_X11_87 : gt_fok (gt_T ++ gt_N) RX11 vwCl (87, 11, 36, 0) := ⟨RX11, TX11, 69, tyX11, rfl, by decide, hw_X11, tyX11_ok, nmX11, Or.inl (List.mem_append_left _ (gt_t6 150 rfl rfl)), Or.inl rfl⟩
theorem ff_X11_90 : gt_fok (gt_T ++ gt_N) RX11 vwCl (90, 11, 37, 0) := ⟨RX11, TX11, 69, tyX11, rfl, by decide, hw_X11, tyX11_ok, nmX11, Or.inl (List.mem_append_left _ (gt_t6 151 rfl rfl)), Or.inl rfl⟩
theorem ff_X11_93 : gt_fok (gt_T ++ gt_N) RX11 vwCl (93, 11, 38, 0) := ⟨RX11, TX11, 69, tyX11, rfl, by decide, hw_X11, tyX11_ok, nmX11, Or.inl (List.mem_append_left _ (gt_t6 152 rfl rfl)), Or.inl rfl⟩
theorem ff_X11_96 : gt_fok (gt_T ++ gt_N) RX11 vwCl (96, 11, 39, 0) := ⟨RX11, TX11, 69, tyX11, rfl, by decide, hw_X11, tyX11_ok, nmX11, Or.inl (List.mem_append_left _ (gt_t6 153 rfl rfl)), Or.inl rfl⟩
theorem ff_X11_99 : gt_fok (gt_T ++ gt_N) RX11 vwCl (99, 11, 40, 0) := ⟨RX11, TX11, 69, tyX11, rfl, by decide, hw_X11, tyX11_ok, nmX11, Or.inl (List.mem_append_left _ (gt_t6 154 rfl rfl)), Or.inl rfl⟩
theorem ff_X11_102 : gt_fok (gt_T ++ gt_N) RX11 vwCl (102, 11, 41, 0) := ⟨RX11, TX11, 69, tyX11, rfl, by decide, hw_X11, tyX11_ok, nmX11, Or.inl (List.mem_append_left _ (gt_t6 155 rfl rfl)), Or.inl rfl⟩
theorem ff_X11_105 : gt_fok (gt_T ++ gt_N) RX11 vwCl (105, 11, 42, 0) := ⟨RX11, TX11, 69, tyX11, rfl, by decide, hw_X11, tyX11_ok, nmX11, Or.inl (List.mem_append_left _ (gt_t6 156 rfl rfl)), Or.inl rfl⟩
theorem ff_X11_108 : gt_fok (gt_T ++ gt_N) RX11 vwCl (108, 11, 43, 0) := ⟨RX11, TX11, 69, tyX11, rfl, by decide, hw_X11, tyX11_ok, nmX11, Or.inl (List.mem_append_left _ (gt_t6 157 rfl rfl)), Or.inl rfl⟩
theorem ff_X11_111 : gt_fok (gt_T ++ gt_N) RX11 vwCl (111, 11, 44, 0) := ⟨RX11, TX11, 69, tyX11, rfl, by decide, hw_X11, tyX11_ok, nmX11, Or.inl (List.mem_append_left _ (gt_t6 158 rfl rfl)), Or.inl rfl⟩
theorem ff_X11_114 : gt_fok (gt_T ++ gt_N) RX11 vwCl (114, 11, 45, 0) := ⟨RX11, TX11, 69, tyX11, rfl, by decide, hw_X11, tyX11_ok, nmX11, Or.inl (List.mem_append_left _ (gt_t6 159 rfl rfl)), Or.inl rfl⟩
theorem ff_X11_117 : gt_fok (gt_T ++ gt_N) RX11 vwCl (117, 11, 46, 0) := ⟨RX11, TX11, 69, tyX11, rfl, by decide, hw_X11, tyX11_ok, nmX11, Or.inl (List.mem_append_left _ (gt_t6 160 rfl rfl)), Or.inl rfl⟩
theorem ff_X11_120 : gt_fok (gt_T ++ gt_N) RX11 vwCl (120, 11, 48, 0) := ⟨RX11, TX11, 69, tyX11, rfl, by decide, hw_X11, tyX11_ok, nmX11, Or.inl (List.mem_append_left _ (gt_t6 162 rfl rfl)), Or.inl rfl⟩
theorem ff_X11_123 : gt_fok (gt_T ++ gt_N) RX11 vwCl (123, 11, 50, 0) := ⟨RX11, TX11, 69, tyX11, rfl, by decide, hw_X11, tyX11_ok, nmX11, Or.inl (List.mem_append_left _ (gt_t6 164 rfl rfl)), Or.inl rfl⟩
theorem ff_X11_126 : gt_fok (gt_T ++ gt_N) RX11 vwCl (126, 11, 51, 0) := ⟨RX11, TX11, 69, tyX11, rfl, by decide, hw_X11, tyX11_ok, nmX11, Or.inl (List.mem_append_left _ (gt_t6 165 rfl rfl)), Or.inl rfl⟩
theorem ff_X11_129 : gt_fok (gt_T ++ gt_N) RX11 vwCl (129, 11, 52, 0) := ⟨RX11, TX11, 69, tyX11, rfl, by decide, hw_X11, tyX11_ok, nmX11, Or.inl (List.mem_append_left _ (gt_t6 166 rfl rfl)), Or.inl rfl⟩
theorem ff_X11_132 : gt_fok (gt_T ++ gt_N) RX11 vwCl (132, 11, 53, 0) := ⟨RX11, TX11, 69, tyX11, rfl, by decide, hw_X11, tyX11_ok, nmX11, Or.inl (List.mem_append_left _ (gt_t6 167 rfl rfl)), Or.inl rfl⟩
theorem ff_X11_135 : gt_fok (gt_T ++ gt_N) RX11 vwCl (135, 11, 55, 0) := ⟨RX11, TX11, 69, tyX11, rfl, by decide, hw_X11, tyX11_ok, nmX11, Or.inl (List.mem_append_left _ (gt_t6 169 rfl rfl)), Or.inl rfl⟩
theorem ff_X11_138 : gt_fok (gt_T ++ gt_N) RX11 vwCl (138, 11, 56, 0) := ⟨RX11, TX11, 69, tyX11, rfl, by decide, hw_X11, tyX11_ok, nmX11, Or.inl (List.mem_append_left _ (gt_t6 170 rfl rfl)), Or.inl rfl⟩
theorem ff_X11_141 : gt_fok (gt_T ++ gt_N) RX11 vwCl (141, 11, 57, 0) := ⟨RX11, TX11, 69, tyX11, rfl, by decide, hw_X11, tyX11_ok, nmX11, Or.inl (List.mem_append_left _ (gt_t6 171 rfl rfl)), Or.inl rfl⟩
theorem ff_X11_144 : gt_fok (gt_T ++ gt_N) RX11 vwCl (144, 11, 62, 0) := ⟨RX11, TX11, 69, tyX11, rfl, by decide, hw_X11, tyX11_ok, nmX11, Or.inl (List.mem_append_left _ (gt_t6 176 rfl rfl)), Or.inl rfl⟩
theorem ff_X11_147 : gt_fok (gt_T ++ gt_N) RX11 vwCl (147, 11, 63, 1) := ⟨RX11, TX11, 69, tyX11, rfl, by decide, hw_X11, tyX11_ok, nmX11, Or.inl (List.mem_append_left _ (gt_t6 177 rfl rfl)), Or.inr ⟨rfl, Or.inl ⟨rfl, rfl⟩⟩⟩
theorem ff_X11_150 : gt_fok (gt_T ++ gt_N) RX11 vwCl (150, 11, 66, 0) := ⟨RX11, TX11, 69, tyX11, rfl, by decide, hw_X11, tyX11_ok, nmX11, Or.inl (List.mem_append_left _ (gt_t6 180 rfl rfl)), Or.inl rfl⟩
theorem ff_X11_153 : gt_fok (gt_T ++ gt_N) RX11 vwCl (153, 11, 0, 1) := ⟨RX11, TX11, 69, tyX11, rfl, by decide, hw_X11, tyX11_ok, nmX11, Or.inl (List.mem_append_left _ (gt_t6 114 rfl rfl)), Or.inr ⟨rfl, Or.inl ⟨rfl, rfl⟩⟩⟩
theorem ff_X11_156 : gt_fok (gt_T ++ gt_N) RX11 vwCl (156, 11, 1, 1) := ⟨RX11, TX11, 69, tyX11, rfl, by decide, hw_X11, tyX11_ok, nmX11, Or.inl (List.mem_append_left _ (gt_t6 115 rfl rfl)), Or.inr ⟨rfl, Or.inl ⟨rfl, rfl⟩⟩⟩
theorem ff_X11_216 : gt_fok (gt_T ++ gt_N) RX11 vwCl (216, 11, 8, 1) := ⟨RX11, TX11, 69, tyX11, rfl, by decide, hw_X11, tyX11_ok, nmX11, Or.inl (List.mem_append_left _ (gt_t6 122 rfl rfl)), Or.inr ⟨rfl, Or.inl ⟨rfl, rfl⟩⟩⟩
theorem ff_X11_219 : gt_fok (gt_T ++ gt_N) RX11 vwCl (219, 11, 6, 1) := ⟨RX11, TX11, 69, tyX11, rfl, by decide, hw_X11, tyX11_ok, nmX11, Or.inl (List.mem_append_left _ (gt_t6 120 rfl rfl)), Or.inr ⟨rfl, Or.inl ⟨rfl, rfl⟩⟩⟩
theorem ff_X11_226 : gt_fok (gt_T ++ gt_N) RX11 vwCl (226, 11, 10, 1) := ⟨RX11, TX11, 69, tyX11, rfl, by decide, hw_X11, tyX11_ok, nmX11, Or.inl (List.mem_append_left _ (gt_t6 124 rfl rfl)), Or.inr ⟨rfl, Or.inl ⟨rfl, rfl⟩⟩⟩
theorem ff_X11_229 : gt_fok (gt_T ++ gt_N) RX11 vwCl (229, 11, 14, 2) := ⟨RX11, TX11, 69, tyX11, rfl, by decide, hw_X11, tyX11_ok, nmX11, Or.inl (List.mem_append_left _ (gt_t6 128 rfl rfl)), Or.inr ⟨rfl, Or.inr (Or.inl ⟨rfl, rfl⟩)⟩⟩
theorem ff_X11_236 : gt_fok (gt_T ++ gt_N) RX11 vwCl (236, 11, 9, 1) := ⟨RX11, TX11, 69, tyX11, rfl, by decide, hw_X11, tyX11_ok, nmX11, Or.inl (List.mem_append_left _ (gt_t6 123 rfl rfl)), Or.inr ⟨rfl, Or.inl ⟨rfl, rfl⟩⟩⟩
theorem ff_X11_239 : gt_fok (gt_T ++ gt_N) RX11 vwCl (239, 11, 12, 3) := ⟨RX11, TX11, 69, tyX11, rfl, by decide, hw_X11, tyX11_ok, nmX11, Or.inl (List.mem_append_left _ (gt_t6 126 rfl rfl)), Or.inr ⟨rfl, Or.inr (Or.inr ⟨rfl, rfl⟩)⟩⟩
theorem ff_X11_249 : gt_fok (gt_T ++ gt_N) RX11 vwCl (249, 11, 11, 1) := ⟨RX11, TX11, 69, tyX11, rfl, by decide, hw_X11, tyX11_ok, nmX11, Or.inl (List.mem_append_left _ (gt_t6 125 rfl rfl)), Or.inr ⟨rfl, Or.inl ⟨rfl, rfl⟩⟩⟩
theorem ff_X11_268 : gt_fok (gt_T ++ gt_N) RX11 vwCl (268, 11, 17, 1) := ⟨RX11, TX11, 69, tyX11, rfl, by decide, hw_X11, tyX11_ok, nmX11, Or.inl (List.mem_append_left _ (gt_t6 131 rfl rfl)), Or.inr ⟨rfl, Or.inl ⟨rfl, rfl⟩⟩⟩
theorem ff_X11_271 : gt_fok (gt_T ++ gt_N) RX11 vwCl (271, 11, 23, 1) := ⟨RX11, TX11, 69, tyX11, rfl, by decide, hw_X11, tyX11_ok, nmX11, Or.inl (List.mem_append_left _ (gt_t6 137 rfl rfl)), Or.inr ⟨rfl, Or.inl ⟨rfl, rfl⟩⟩⟩
theorem ff_X11_293 : gt_fok (gt_T ++ gt_N) RX11 vwCl (293, 11, 24, 1) := ⟨RX11, TX11, 69, tyX11, rfl, by decide, hw_X11, tyX11_ok, nmX11, Or.inl (List.mem_append_left _ (gt_t6 138 rfl rfl)), Or.inr ⟨rfl, Or.inl ⟨rfl, rfl⟩⟩⟩
theorem ff_X11_299 : gt_fok (gt_T ++ gt_N) RX11 vwCl (299, 11, 20, 1) := ⟨RX11, TX11, 69, tyX11, rfl, by decide, hw_X11, tyX11_ok, nmX11, Or.inl (List.mem_append_left _ (gt_t6 134 rfl rfl)), Or.inr ⟨rfl, Or.inl ⟨rfl, rfl⟩⟩⟩
theorem ff_X11_351 : gt_fok (gt_T ++ gt_N) RX11 vwCl (351, 11, 15, 1) := ⟨RX11, TX11, 69, tyX11, rfl, by decide, hw_X11, tyX11_ok, nmX11, Or.inl (List.mem_append_left _ (gt_t6 129 rfl rfl)), Or.inr ⟨rfl, Or.inl ⟨rfl, rfl⟩⟩⟩
theorem ff_X11_368 : gt_fok (gt_T ++ gt_N) RX11 vwCl (368, 11, 29, 2) := ⟨RX11, TX11, 69, tyX11, rfl, by decide, hw_X11, tyX11_ok, nmX11, Or.inl (List.mem_append_left _ (gt_t6 143 rfl rfl)), Or.inr ⟨rfl, Or.inr (Or.inl ⟨rfl, rfl⟩)⟩⟩
theorem ff_X11_371 : gt_fok (gt_T ++ gt_N) RX11 vwCl (371, 11, 26, 1) := ⟨RX11, TX11, 69, tyX11, rfl, by decide, hw_X11, tyX11_ok, nmX11, Or.inl (List.mem_append_left _ (gt_t6 140 rfl rfl)), Or.inr ⟨rfl, Or.inl ⟨rfl, rfl⟩⟩⟩
theorem ff_X11_382 : gt_fok (gt_T ++ gt_N) RX11 vwCl (382, 11, 30, 3) := ⟨RX11, TX11, 69, tyX11, rfl, by decide, hw_X11, tyX11_ok, nmX11, Or.inl (List.mem_append_left _ (gt_t6 144 rfl rfl)), Or.inr ⟨rfl, Or.inr (Or.inr ⟨rfl, rfl⟩)⟩⟩
theorem ff_X11_388 : gt_fok (gt_T ++ gt_N) RX11 vwCl (388, 11, 31, 3) := ⟨RX11, TX11, 69, tyX11, rfl, by decide, hw_X11, tyX11_ok, nmX11, Or.inl (List.mem_append_left _ (gt_t6 145 rfl rfl)), Or.inr ⟨rfl, Or.inr (Or.inr ⟨rfl, rfl⟩)⟩⟩
theorem ff_X11_484 : gt_fok (gt_T ++ gt_N) RX11 vwCl (484, 11, 47, 1) := ⟨RX11, TX11, 69, tyX11, rfl, by decide, hw_X11, tyX11_ok, nmX11, Or.inl (List.mem_append_left _ (gt_t6 161 rfl rfl)), Or.inr ⟨rfl, Or.inl ⟨rfl, rfl⟩⟩⟩
theorem ff_X11_490 : gt_fok (gt_T ++ gt_N) RX11 vwCl (490, 11, 49, 1) := ⟨RX11, TX11, 69, tyX11, rfl, by decide, hw_X11, tyX11_ok, nmX11, Or.inl (List.mem_append_left _ (gt_t6 163 rfl rfl)), Or.inr ⟨rfl, Or.inl ⟨rfl, rfl⟩⟩⟩
theorem ff_X11_513 : gt_fok (gt_T ++ gt_N) RX11 vwCl (513, 11, 54, 3) := ⟨RX11, TX11, 69, tyX11, rfl, by decide, hw_X11, tyX11_ok, nmX11, Or.inl (List.mem_append_left _ (gt_t6 168 rfl rfl)), Or.inr ⟨rfl, Or.inr (Or.inr ⟨rfl, rfl⟩)⟩⟩
theorem ff_X11_535 : gt_fok (gt_T ++ gt_N) RX11 vwCl (535, 11, 58, 1) := ⟨RX11, TX11, 69, tyX11, rfl, by decide, hw_X11, tyX11_ok, nmX11, Or.inl (List.mem_append_left _ (gt_t6 172 rfl rfl)), Or.inr ⟨rfl, Or.inl ⟨rfl, rfl⟩⟩⟩
theorem ff_X11_538 : gt_fok (gt_T ++ gt_N) RX11 vwCl (538, 11, 59, 1) := ⟨RX11, TX11, 69, tyX11, rfl, by decide, hw_X11, tyX11_ok, nmX11, Or.inl (List.mem_append_left _ (gt_t6 173 rfl rfl)), Or.inr ⟨rfl, Or.inl ⟨rfl, rfl⟩⟩⟩
theorem ff_X11_541 : gt_fok (gt_T ++ gt_N) RX11 vwCl (541, 11, 60, 1) := ⟨RX11, TX11, 69, tyX11, rfl, by decide, hw_X11, tyX11_ok, nmX11, Or.inl (List.mem_append_left _ (gt_t6 174 rfl rfl)), Or.inr ⟨rfl, Or.inl ⟨rfl, rfl⟩⟩⟩
theorem ff_X11_551 : gt_fok (gt_T ++ gt_N) RX11 vwCl (551, 11, 61, 3) := ⟨RX11, TX11, 69, tyX11, rfl, by decide, hw_X11, tyX11_ok, nmX11, Or.inl (List.mem_append_left _ (gt_t6 175 rfl rfl)), Or.inr ⟨rfl, Or.inr (Or.inr ⟨rfl, rfl⟩)⟩⟩
theorem ff_X11_563 : gt_fok (gt_T ++ gt_N) RX11 vwCl (563, 11, 67, 1) := ⟨RX11, TX11, 69, tyX11, rfl, by decide, hw_X11, tyX11_ok, nmX11, Or.inl (List.mem_append_left _ (gt_t6 181 rfl rfl)), Or.inr ⟨rfl, Or.inl ⟨rfl, rfl⟩⟩⟩
theorem ff_X11_566 : gt_fok (gt_T ++ gt_N) RX11 vwCl (566, 11, 68, 1) := ⟨RX11, TX11, 69, tyX11, rfl, by decide, hw_X11, tyX11_ok, nmX11, Or.inl (List.mem_append_left _ (gt_t6 182 rfl rfl)), Or.inr ⟨rfl, Or.inl ⟨rfl, rfl⟩⟩⟩
theorem ff_X11_578 : gt_fok (gt_T ++ gt_N) RX11 vwCl (578, 11, 64, 1) := ⟨RX11, TX11, 69, tyX11, rfl, by decide, hw_X11, tyX11_ok, nmX11, Or.inl (List.mem_append_left _ (gt_t6 178 rfl rfl)), Or.inr ⟨rfl, Or.inl ⟨rfl, rfl⟩⟩⟩
theorem ff_X11_581 : gt_fok (gt_T ++ gt_N) RX11 vwCl (581, 11, 65, 1) := ⟨RX11, TX11, 69, tyX11, rfl, by decide, hw_X11, tyX11_ok, nmX11, Or.inl (List.mem_append_left _ (gt_t6 179 rfl rfl)), Or.inr ⟨rfl, Or.inl ⟨rfl, rfl⟩⟩⟩
def fl_X11 : List (Nat × Nat × Nat × Nat) := [(7, 11, 2, 0), (13, 11, 3, 0), (16, 11, 4, 0), (19, 11, 5, 0), (23, 11, 7, 0), (26, 11, 13, 1), (30, 11, 16, 0), (33, 11, 18, 0), (36, 11, 19, 0), (39, 11, 21, 0), (42, 11, 22, 0), (65, 11, 25, 0), (69, 11, 27, 0), (72, 11, 28, 0), (75, 11, 32, 0), (78, 11, 33, 0), (81, 11, 34, 0), (84, 11, 35, 0), (87, 11, 36, 0), (90, 11, 37, 0), (93, 11, 38, 0), (96, 11, 39, 0), (99, 11, 40, 0), (102, 11, 41, 0), (105, 11, 42, 0), (108, 11, 43, 0), (111, 11, 44, 0), (114, 11, 45, 0), (117, 11, 46, 0), (120, 11, 48, 0), (123, 11, 50, 0), (126, 11, 51, 0), (129, 11, 52, 0), (132, 11, 53, 0), (135, 11, 55, 0), (138, 11, 56, 0), (141, 11, 57, 0), (144, 11, 62, 0), (147, 11, 63, 1), (150, 11, 66, 0), (153, 11, 0, 1), (156, 11, 1, 1), (216, 11, 8, 1), (219, 11, 6, 1), (226, 11, 10, 1), (229, 11, 14, 2), (236, 11, 9, 1), (239, 11, 12, 3), (249, 11, 11, 1), (268, 11, 17, 1), (271, 11, 23, 1), (293, 11, 24, 1), (299, 11, 20, 1), (351, 11, 15, 1), (368, 11, 29, 2), (371, 11, 26, 1), (382, 11, 30, 3), (388, 11, 31, 3), (484, 11, 47, 1), (490, 11, 49, 1), (513, 11, 54, 3), (535, 11, 58, 1), (538, 11, 59, 1), (541, 11, 60, 1), (551, 11, 61, 3), (563, 11, 67, 1), (566, 11, 68, 1), (578, 11, 64, 1), (581, 11, 65, 1)]
theorem ef_X11 : ∀ q ∈ fl_X11, gt_fok (gt_T ++ gt_N) RX11 vwCl q := (gt_fall ff_X11_7 (gt_fall ff_X11_13 (gt_fall ff_X11_16 (gt_fall ff_X11_19 (gt_fall ff_X11_23 (gt_fall ff_X11_26 (gt_fall ff_X11_30 (gt_fall ff_X11_33 (gt_fall ff_X11_36 (gt_fall ff_X11_39 (gt_fall ff_X11_42 (gt_fall ff_X11_65 (gt_fall ff_X11_69 (gt_fall ff_X11_72 (gt_fall ff_X11_75 (gt_fall ff_X11_78 (gt_fall ff_X11_81 (gt_fall ff_X11_84 (gt_fall ff_X11_87 (gt_fall ff_X11_90 (gt_fall ff_X11_93 (gt_fall ff_X11_96 (gt_fall ff_X11_99 (gt_fall ff_X11_102 (gt_fall ff_X11_105 (gt_fall ff_X11_108 (gt_fall ff_X11_111 (gt_fall ff_X11_114 (gt_fall ff_X11_117 (gt_fall ff_X11_120 (gt_fall ff_X11_123 (gt_fall ff_X11_126 (gt_fall ff_X11_129 (gt_fall ff_X11_132 (gt_fall ff_X11_135 (gt_fall ff_X11_138 (gt_fall ff_X11_141 (gt_fall ff_X11_144 (gt_fall ff_X11_147 (gt_fall ff_X11_150 (gt_fall ff_X11_153 (gt_fall ff_X11_156 (gt_fall ff_X11_216 (gt_fall ff_X11_219 (gt_fall ff_X11_226 (gt_fall ff_X11_229 (gt_fall ff_X11_236 (gt_fall ff_X11_239 (gt_fall ff_X11_249 (gt_fall ff_X11_268 (gt_fall ff_X11_271 (gt_fall ff_X11_293 (gt_fall ff_X11_299 (gt_fall ff_X11_351 (gt_fall ff_X11_368 (gt_fall ff_X11_371 (gt_fall ff_X11_382 (gt_fall ff_X11_388 (gt_fall ff_X11_484 (gt_fall ff_X11_490 (gt_fall ff_X11_513 (gt_fall ff_X11_535 (gt_fall ff_X11_538 (gt_fall ff_X11_541 (gt_fall ff_X11_551 (gt_fall ff_X11_563 (gt_fall ff_X11_566 (gt_fall ff_X11_578 (gt_fall ff_X11_581 (fun _ h => absurd h List.not_mem_nil))))))))))))))))))))))))))))))))))))))))))))))))))))))))))))))))))))))
def ci_X11 : List (Nat × Int32) := [(433, 100000000), (472, -1000000), (483, 1000000000), (544, 100000)]
theorem ei_X11 : ∀ q ∈ ci_X11, Cond.constant RX11 q.1 q.2 ∈ gt_T ++ gt_N := (List.forall_mem_cons.mpr ⟨List.mem_append_left _ (gt_t8 189 rfl rfl), (List.forall_mem_cons.mpr ⟨List.mem_append_left _ (gt_t8 206 rfl rfl), (List.forall_mem_cons.mpr ⟨List.mem_append_left _ (gt_t8 219 rfl rfl), (List.forall_mem_cons.mpr ⟨List.mem_append_left _ (gt_t9 56 rfl rfl), (fun _ h => absurd h List.not_mem_nil)⟩)⟩)⟩)⟩)
def cj_X11 : List (Nat × Int64) := [(45, 21243335), (47, 773279908), (49, 24627848), (51, 17376357), (53, 408572082), (55, 1253), (57, 17484389), (59, 638548), (61, 245044819), (63, 659117163), (170, 9), (172, 99), (174, 200), (188, 100), (190, 25), (192, 5), (211, 8), (252, 32), (254, 96), (256, -1), (258, 1000000), (260, 10), (262, 48), (281, 20), (283, 23), (285, 24), (287, 26), (312, 1000), (318, 14836), (333, 1476), (335, 498), (347, 12889267), (349, 113966), (357, 294), (378, -1000000000), (380, 1000000000), (407, 12), (428, 2), (493, 3), (504, 4), (554, 1103), (556, 12345), (558, 1000003)]
theorem ej_X11 : ∀ q ∈ cj_X11, Cond.constantLong RX11 q.1 q.2 ∈ gt_T ++ gt_N := (List.forall_mem_cons.mpr ⟨List.mem_append_left _ (gt_t6 104 rfl rfl), (List.forall_mem_cons.mpr ⟨List.mem_append_left _ (gt_t6 105 rfl rfl), (List.forall_mem_cons.mpr ⟨List.mem_append_left _ (gt_t6 106 rfl rfl), (List.forall_mem_cons.mpr ⟨List.mem_append_left _ (gt_t6 107 rfl rfl), (List.forall_mem_cons.mpr ⟨List.mem_append_left _ (gt_t6 108 rfl rfl), (List.forall_mem_cons.mpr ⟨List.mem_append_left _ (gt_t6 109 rfl rfl), (List.forall_mem_cons.mpr ⟨List.mem_append_left _ (gt_t6 110 rfl rfl), (List.forall_mem_cons.mpr ⟨List.mem_append_left _ (gt_t6 111 rfl rfl), (List.forall_mem_cons.mpr ⟨List.mem_append_left _ (gt_t6 112 rfl rfl), (List.forall_mem_cons.mpr ⟨List.mem_append_left _ (gt_t6 113 rfl rfl), (List.forall_mem_cons.mpr ⟨List.mem_append_left _ (gt_t7 104 rfl rfl), (List.forall_mem_cons.mpr ⟨List.mem_append_left _ (gt_t7 105 rfl rfl), (List.forall_mem_cons.mpr ⟨List.mem_append_left _ (gt_t7 106 rfl rfl), (List.forall_mem_cons.mpr ⟨List.mem_append_left _ (gt_t7 127 rfl rfl), (List.forall_mem_cons.mpr ⟨List.mem_append_left _ (gt_t7 139 rfl rfl), (List.forall_mem_cons.mpr ⟨List.mem_append_left _ (gt_t7 140 rfl rfl), (List.forall_mem_cons.mpr ⟨List.mem_append_left _ (gt_t7 173 rfl rfl), (List.forall_mem_cons.mpr ⟨List.mem_append_left _ (gt_t7 224 rfl rfl), (List.forall_mem_cons.mpr ⟨List.mem_append_left _ (gt_t7 225 rfl rfl), (List.forall_mem_cons.mpr ⟨List.mem_append_left _ (gt_t7 226 rfl rfl), (List.forall_mem_cons.mpr ⟨List.mem_append_left _ (gt_t7 227 rfl rfl), (List.forall_mem_cons.mpr ⟨List.mem_append_left _ (gt_t7 228 rfl rfl), (List.forall_mem_cons.mpr ⟨List.mem_append_left _ (gt_t7 229 rfl rfl), (List.forall_mem_cons.mpr ⟨List.mem_append_left _ (gt_t8 61 rfl rfl), (List.forall_mem_cons.mpr ⟨List.mem_append_left _ (gt_t8 62 rfl rfl), (List.forall_mem_cons.mpr ⟨List.mem_append_left _ (gt_t8 63 rfl rfl), (List.forall_mem_cons.mpr ⟨List.mem_append_left _ (gt_t8 64 rfl rfl), (List.forall_mem_cons.mpr ⟨List.mem_append_left _ (gt_t8 33 rfl rfl), (List.forall_mem_cons.mpr ⟨List.mem_append_left _ (gt_t8 12 rfl rfl), (List.forall_mem_cons.mpr ⟨List.mem_append_left _ (gt_t8 69 rfl rfl), (List.forall_mem_cons.mpr ⟨List.mem_append_left _ (gt_t8 70 rfl rfl), (List.forall_mem_cons.mpr ⟨List.mem_append_left _ (gt_t7 234 rfl rfl), (List.forall_mem_cons.mpr ⟨List.mem_append_left _ (gt_t7 239 rfl rfl), (List.forall_mem_cons.mpr ⟨List.mem_append_left _ (gt_t8 71 rfl rfl), (List.forall_mem_cons.mpr ⟨List.mem_append_left _ (gt_t8 117 rfl rfl), (List.forall_mem_cons.mpr ⟨List.mem_append_left _ (gt_t8 118 rfl rfl), (List.forall_mem_cons.mpr ⟨List.mem_append_left _ (gt_t8 84 rfl rfl), (List.forall_mem_cons.mpr ⟨List.mem_append_left _ (gt_t8 127 rfl rfl), (List.forall_mem_cons.mpr ⟨List.mem_append_left _ (gt_t8 201 rfl rfl), (List.forall_mem_cons.mpr ⟨List.mem_append_left _ (gt_t9 0 rfl rfl), (List.forall_mem_cons.mpr ⟨List.mem_append_left _ (gt_t9 85 rfl rfl), (List.forall_mem_cons.mpr ⟨List.mem_append_left _ (gt_t9 86 rfl rfl), (List.forall_mem_cons.mpr ⟨List.mem_append_left _ (gt_t9 87 rfl rfl), (fun _ h => absurd h List.not_mem_nil)⟩)⟩)⟩)⟩)⟩)⟩)⟩)⟩)⟩)⟩)⟩)⟩)⟩)⟩)⟩)⟩)⟩)⟩)⟩)⟩)⟩)⟩)⟩)⟩)⟩)⟩)⟩)⟩)⟩)⟩)⟩)⟩)⟩)⟩)⟩)⟩)⟩)⟩)⟩)⟩)⟩)⟩)⟩)
