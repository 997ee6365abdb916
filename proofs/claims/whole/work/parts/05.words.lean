theorem wi_GiftTable : Cond.initialized "GiftTable" ∈ gt_T := gt_t1 1 rfl rfl
theorem wi_GiftTable_Blind : Cond.initialized "GiftTable$Blind" ∈ gt_T := gt_t1 9 rfl rfl
theorem wi_GiftTable_Heaps : Cond.initialized "GiftTable$Heaps" ∈ gt_T := gt_t1 5 rfl rfl
theorem wi_GiftTable_Mean : Cond.initialized "GiftTable$Mean" ∈ gt_T := gt_t1 7 rfl rfl
theorem wi_GiftTable_Party : Cond.initialized "GiftTable$Party" ∈ gt_T := gt_t1 6 rfl rfl
theorem wi_GiftTable_Quiet : Cond.initialized "GiftTable$Quiet" ∈ gt_T := gt_t1 10 rfl rfl
theorem wi_GiftTable_Reader : Cond.initialized "GiftTable$Reader" ∈ gt_T := gt_t1 4 rfl rfl
theorem wi_GiftTable_State : Cond.initialized "GiftTable$State" ∈ gt_T := gt_t1 2 rfl rfl
theorem wi_GiftTable_Text : Cond.initialized "GiftTable$Text" ∈ gt_T := gt_t1 18 rfl rfl
theorem wi_GiftTable_Together : Cond.initialized "GiftTable$Together" ∈ gt_T := gt_t1 8 rfl rfl
theorem wi_GiftTable_Wedding : Cond.initialized "GiftTable$Wedding" ∈ gt_T := gt_t1 11 rfl rfl
theorem wi_GiftTableModel : Cond.initialized "GiftTableModel" ∈ gt_T := gt_t1 12 rfl rfl
theorem wi_java_lang_Math : Cond.initialized "java/lang/Math" ∈ gt_T := gt_t1 17 rfl rfl
theorem wi_java_lang_System : Cond.initialized "java/lang/System" ∈ gt_T := gt_t1 19 rfl rfl
theorem wi_java_util_Arrays : Cond.initialized "java/util/Arrays" ∈ gt_T := gt_t1 3 rfl rfl
theorem cw_X0_work : Cond.code yX0_work cX0_work 8 none ∈ gt_T := gt_t5 137 rfl rfl
theorem im_X0_work : Cond.instanceMethod yX0_work ∈ gt_T := gt_t5 135 rfl rfl
theorem sl_X0_work : Cond.selects yX0_work.cls yX0_work yX0_work ∈ gt_T := gt_t5 136 rfl rfl
theorem pd_X0_work : yX0_work.cls ≠ "java/lang/invoke/MethodHandle" ∧ yX0_work.cls ≠ "java/lang/invoke/VarHandle" ∧ (parseMethodDescriptor yX0_work.desc).map (fun d => d.parameters.length) = some 4 := by decide +kernel
theorem cw_X0_tenthsOf : Cond.code yX0_tenthsOf cX0_tenthsOf 3 (some .int) ∈ gt_T := gt_t5 182 rfl rfl
theorem im_X0_tenthsOf : Cond.instanceMethod yX0_tenthsOf ∈ gt_T := gt_t5 180 rfl rfl
theorem sl_X0_tenthsOf : Cond.selects yX0_tenthsOf.cls yX0_tenthsOf yX0_tenthsOf ∈ gt_T := gt_t5 181 rfl rfl
theorem pd_X0_tenthsOf : yX0_tenthsOf.cls ≠ "java/lang/invoke/MethodHandle" ∧ yX0_tenthsOf.cls ≠ "java/lang/invoke/VarHandle" ∧ (parseMethodDescriptor yX0_tenthsOf.desc).map (fun d => d.parameters.length) = some 2 := by decide +kernel
theorem cw_X0_shapeLevels : Cond.code yX0_shapeLevels cX0_shapeLevels 6 none ∈ gt_T := gt_t5 141 rfl rfl
theorem im_X0_shapeLevels : Cond.instanceMethod yX0_shapeLevels ∈ gt_T := gt_t5 140 rfl rfl
theorem sl_X0_shapeLevels : Cond.selects yX0_shapeLevels.cls yX0_shapeLevels yX0_shapeLevels ∈ gt_T := gt_p3 9 rfl
theorem pd_X0_shapeLevels : yX0_shapeLevels.cls ≠ "java/lang/invoke/MethodHandle" ∧ yX0_shapeLevels.cls ≠ "java/lang/invoke/VarHandle" ∧ (parseMethodDescriptor yX0_shapeLevels.desc).map (fun d => d.parameters.length) = some 0 := by decide +kernel
theorem cw_X0_monomial : Cond.code yX0_monomial cX0_monomial 3 (some .int) ∈ gt_T := gt_t5 144 rfl rfl
theorem st_X0_monomial : Cond.static yX0_monomial ∈ gt_T := gt_t5 143 rfl rfl
theorem pd_X0_monomial : yX0_monomial.cls ≠ "java/lang/invoke/MethodHandle" ∧ yX0_monomial.cls ≠ "java/lang/invoke/VarHandle" ∧ (parseMethodDescriptor yX0_monomial.desc).map (fun d => d.parameters.length) = some 3 := by decide +kernel
theorem cw_X0_degree : Cond.code yX0_degree cX0_degree 1 (some .int) ∈ gt_T := gt_t5 147 rfl rfl
theorem st_X0_degree : Cond.static yX0_degree ∈ gt_T := gt_t5 146 rfl rfl
theorem pd_X0_degree : yX0_degree.cls ≠ "java/lang/invoke/MethodHandle" ∧ yX0_degree.cls ≠ "java/lang/invoke/VarHandle" ∧ (parseMethodDescriptor yX0_degree.desc).map (fun d => d.parameters.length) = some 1 := by decide +kernel
theorem cw_X0_powerOf : Cond.code yX0_powerOf cX0_powerOf 2 (some .int) ∈ gt_T := gt_t5 157 rfl rfl
theorem st_X0_powerOf : Cond.static yX0_powerOf ∈ gt_T := gt_t5 156 rfl rfl
theorem pd_X0_powerOf : yX0_powerOf.cls ≠ "java/lang/invoke/MethodHandle" ∧ yX0_powerOf.cls ≠ "java/lang/invoke/VarHandle" ∧ (parseMethodDescriptor yX0_powerOf.desc).map (fun d => d.parameters.length) = some 2 := by decide +kernel
theorem cw_X0_countHeaps : Cond.code yX0_countHeaps cX0_countHeaps 8 none ∈ gt_T := gt_t5 151 rfl rfl
theorem im_X0_countHeaps : Cond.instanceMethod yX0_countHeaps ∈ gt_T := gt_t5 150 rfl rfl
theorem sl_X0_countHeaps : Cond.selects yX0_countHeaps.cls yX0_countHeaps yX0_countHeaps ∈ gt_T := gt_p3 10 rfl
theorem pd_X0_countHeaps : yX0_countHeaps.cls ≠ "java/lang/invoke/MethodHandle" ∧ yX0_countHeaps.cls ≠ "java/lang/invoke/VarHandle" ∧ (parseMethodDescriptor yX0_countHeaps.desc).map (fun d => d.parameters.length) = some 2 := by decide +kernel
theorem cw_X0_factorial : Cond.code yX0_factorial cX0_factorial 4 (some .long) ∈ gt_T := gt_t5 154 rfl rfl
theorem st_X0_factorial : Cond.static yX0_factorial ∈ gt_T := gt_t5 153 rfl rfl
theorem pd_X0_factorial : yX0_factorial.cls ≠ "java/lang/invoke/MethodHandle" ∧ yX0_factorial.cls ≠ "java/lang/invoke/VarHandle" ∧ (parseMethodDescriptor yX0_factorial.desc).map (fun d => d.parameters.length) = some 1 := by decide +kernel
theorem cw_X0_spread : Cond.code yX0_spread cX0_spread 4 none ∈ gt_T := gt_t5 163 rfl rfl
theorem im_X0_spread : Cond.instanceMethod yX0_spread ∈ gt_T := gt_t5 162 rfl rfl
theorem sl_X0_spread : Cond.selects yX0_spread.cls yX0_spread yX0_spread ∈ gt_T := gt_p3 11 rfl
theorem pd_X0_spread : yX0_spread.cls ≠ "java/lang/invoke/MethodHandle" ∧ yX0_spread.cls ≠ "java/lang/invoke/VarHandle" ∧ (parseMethodDescriptor yX0_spread.desc).map (fun d => d.parameters.length) = some 2 := by decide +kernel
theorem cw_X0_putFirst : Cond.code yX0_putFirst cX0_putFirst 6 none ∈ gt_T := gt_t5 167 rfl rfl
theorem im_X0_putFirst : Cond.instanceMethod yX0_putFirst ∈ gt_T := gt_t5 166 rfl rfl
theorem sl_X0_putFirst : Cond.selects yX0_putFirst.cls yX0_putFirst yX0_putFirst ∈ gt_T := gt_p3 12 rfl
theorem pd_X0_putFirst : yX0_putFirst.cls ≠ "java/lang/invoke/MethodHandle" ∧ yX0_putFirst.cls ≠ "java/lang/invoke/VarHandle" ∧ (parseMethodDescriptor yX0_putFirst.desc).map (fun d => d.parameters.length) = some 1 := by decide +kernel
theorem cw_X0_putIn : Cond.code yX0_putIn cX0_putIn 9 none ∈ gt_T := gt_t5 171 rfl rfl
theorem im_X0_putIn : Cond.instanceMethod yX0_putIn ∈ gt_T := gt_t5 170 rfl rfl
theorem sl_X0_putIn : Cond.selects yX0_putIn.cls yX0_putIn yX0_putIn ∈ gt_T := gt_p3 13 rfl
theorem pd_X0_putIn : yX0_putIn.cls ≠ "java/lang/invoke/MethodHandle" ∧ yX0_putIn.cls ≠ "java/lang/invoke/VarHandle" ∧ (parseMethodDescriptor yX0_putIn.desc).map (fun d => d.parameters.length) = some 2 := by decide +kernel
theorem cw_X0_compare : Cond.code yX0_compare cX0_compare 5 none ∈ gt_T := gt_t5 175 rfl rfl
theorem im_X0_compare : Cond.instanceMethod yX0_compare ∈ gt_T := gt_t5 174 rfl rfl
theorem sl_X0_compare : Cond.selects yX0_compare.cls yX0_compare yX0_compare ∈ gt_T := gt_p3 14 rfl
theorem pd_X0_compare : yX0_compare.cls ≠ "java/lang/invoke/MethodHandle" ∧ yX0_compare.cls ≠ "java/lang/invoke/VarHandle" ∧ (parseMethodDescriptor yX0_compare.desc).map (fun d => d.parameters.length) = some 1 := by decide +kernel
theorem cw_X1_weigh : Cond.code yX1_weigh cX1_weigh 6 none ∈ gt_T := gt_t4 195 rfl rfl
theorem im_X1_weigh : Cond.instanceMethod yX1_weigh ∈ gt_T := gt_t4 193 rfl rfl
theorem sl_X1_weigh : Cond.selects yX1_weigh.cls yX1_weigh yX1_weigh ∈ gt_T := gt_t4 194 rfl rfl
theorem pd_X1_weigh : yX1_weigh.cls ≠ "java/lang/invoke/MethodHandle" ∧ yX1_weigh.cls ≠ "java/lang/invoke/VarHandle" ∧ (parseMethodDescriptor yX1_weigh.desc).map (fun d => d.parameters.length) = some 2 := by decide +kernel
theorem cw_X1_makeUp : Cond.code yX1_makeUp cX1_makeUp 5 none ∈ gt_T := gt_t4 201 rfl rfl
theorem im_X1_makeUp : Cond.instanceMethod yX1_makeUp ∈ gt_T := gt_t4 200 rfl rfl
theorem sl_X1_makeUp : Cond.selects yX1_makeUp.cls yX1_makeUp yX1_makeUp ∈ gt_T := gt_p2 11 rfl
theorem pd_X1_makeUp : yX1_makeUp.cls ≠ "java/lang/invoke/MethodHandle" ∧ yX1_makeUp.cls ≠ "java/lang/invoke/VarHandle" ∧ (parseMethodDescriptor yX1_makeUp.desc).map (fun d => d.parameters.length) = some 2 := by decide +kernel
theorem cw_X1_findChange : Cond.code yX1_findChange cX1_findChange 8 none ∈ gt_T := gt_t6 55 rfl rfl
theorem im_X1_findChange : Cond.instanceMethod yX1_findChange ∈ gt_T := gt_t6 53 rfl rfl
theorem sl_X1_findChange : Cond.selects yX1_findChange.cls yX1_findChange yX1_findChange ∈ gt_T := gt_t6 54 rfl rfl
theorem pd_X1_findChange : yX1_findChange.cls ≠ "java/lang/invoke/MethodHandle" ∧ yX1_findChange.cls ≠ "java/lang/invoke/VarHandle" ∧ (parseMethodDescriptor yX1_findChange.desc).map (fun d => d.parameters.length) = some 3 := by decide +kernel
theorem cw_X1_tryChange : Cond.code yX1_tryChange cX1_tryChange 6 none ∈ gt_T := gt_t6 59 rfl rfl
theorem im_X1_tryChange : Cond.instanceMethod yX1_tryChange ∈ gt_T := gt_t6 58 rfl rfl
theorem sl_X1_tryChange : Cond.selects yX1_tryChange.cls yX1_tryChange yX1_tryChange ∈ gt_T := gt_p4 9 rfl
theorem pd_X1_tryChange : yX1_tryChange.cls ≠ "java/lang/invoke/MethodHandle" ∧ yX1_tryChange.cls ≠ "java/lang/invoke/VarHandle" ∧ (parseMethodDescriptor yX1_tryChange.desc).map (fun d => d.parameters.length) = some 5 := by decide +kernel
theorem cw_X1_after : Cond.code yX1_after cX1_after 4 (some .int) ∈ gt_T := gt_t5 32 rfl rfl
theorem im_X1_after : Cond.instanceMethod yX1_after ∈ gt_T := gt_t5 30 rfl rfl
theorem sl_X1_after : Cond.selects yX1_after.cls yX1_after yX1_after ∈ gt_T := gt_t5 31 rfl rfl
theorem pd_X1_after : yX1_after.cls ≠ "java/lang/invoke/MethodHandle" ∧ yX1_after.cls ≠ "java/lang/invoke/VarHandle" ∧ (parseMethodDescriptor yX1_after.desc).map (fun d => d.parameters.length) = some 2 := by decide +kernel
theorem cw_X1_price : Cond.code yX1_price cX1_price 5 none ∈ gt_T := gt_t4 222 rfl rfl
theorem im_X1_price : Cond.instanceMethod yX1_price ∈ gt_T := gt_t4 220 rfl rfl
theorem sl_X1_price : Cond.selects yX1_price.cls yX1_price yX1_price ∈ gt_T := gt_t4 221 rfl rfl
theorem pd_X1_price : yX1_price.cls ≠ "java/lang/invoke/MethodHandle" ∧ yX1_price.cls ≠ "java/lang/invoke/VarHandle" ∧ (parseMethodDescriptor yX1_price.desc).map (fun d => d.parameters.length) = some 3 := by decide +kernel
theorem cw_X1_shape : Cond.code yX1_shape cX1_shape 6 none ∈ gt_T := gt_t4 226 rfl rfl
theorem im_X1_shape : Cond.instanceMethod yX1_shape ∈ gt_T := gt_t4 225 rfl rfl
theorem sl_X1_shape : Cond.selects yX1_shape.cls yX1_shape yX1_shape ∈ gt_T := gt_p2 13 rfl
theorem pd_X1_shape : yX1_shape.cls ≠ "java/lang/invoke/MethodHandle" ∧ yX1_shape.cls ≠ "java/lang/invoke/VarHandle" ∧ (parseMethodDescriptor yX1_shape.desc).map (fun d => d.parameters.length) = some 1 := by decide +kernel
theorem cw_X1_grow : Cond.code yX1_grow cX1_grow 6 (some .int) ∈ gt_T := gt_t4 230 rfl rfl
theorem im_X1_grow : Cond.instanceMethod yX1_grow ∈ gt_T := gt_t4 229 rfl rfl
theorem sl_X1_grow : Cond.selects yX1_grow.cls yX1_grow yX1_grow ∈ gt_T := gt_p2 14 rfl
theorem pd_X1_grow : yX1_grow.cls ≠ "java/lang/invoke/MethodHandle" ∧ yX1_grow.cls ≠ "java/lang/invoke/VarHandle" ∧ (parseMethodDescriptor yX1_grow.desc).map (fun d => d.parameters.length) = some 3 := by decide +kernel
theorem cw_X2_work : Cond.code yX2_work cX2_work 6 none ∈ gt_T := gt_t4 236 rfl rfl
theorem im_X2_work : Cond.instanceMethod yX2_work ∈ gt_T := gt_t4 234 rfl rfl
theorem sl_X2_work : Cond.selects yX2_work.cls yX2_work yX2_work ∈ gt_T := gt_t4 235 rfl rfl
theorem pd_X2_work : yX2_work.cls ≠ "java/lang/invoke/MethodHandle" ∧ yX2_work.cls ≠ "java/lang/invoke/VarHandle" ∧ (parseMethodDescriptor yX2_work.desc).map (fun d => d.parameters.length) = some 3 := by decide +kernel
theorem cw_X2_addMoney : Cond.code yX2_addMoney cX2_addMoney 4 none ∈ gt_T := gt_t5 12 rfl rfl
theorem im_X2_addMoney : Cond.instanceMethod yX2_addMoney ∈ gt_T := gt_t5 11 rfl rfl
theorem sl_X2_addMoney : Cond.selects yX2_addMoney.cls yX2_addMoney yX2_addMoney ∈ gt_T := gt_p2 15 rfl
theorem pd_X2_addMoney : yX2_addMoney.cls ≠ "java/lang/invoke/MethodHandle" ∧ yX2_addMoney.cls ≠ "java/lang/invoke/VarHandle" ∧ (parseMethodDescriptor yX2_addMoney.desc).map (fun d => d.parameters.length) = some 2 := by decide +kernel
theorem cw_X2_addGifts : Cond.code yX2_addGifts cX2_addGifts 16 none ∈ gt_T := gt_t5 28 rfl rfl
theorem im_X2_addGifts : Cond.instanceMethod yX2_addGifts ∈ gt_T := gt_t5 27 rfl rfl
theorem sl_X2_addGifts : Cond.selects yX2_addGifts.cls yX2_addGifts yX2_addGifts ∈ gt_T := gt_p3 0 rfl
theorem pd_X2_addGifts : yX2_addGifts.cls ≠ "java/lang/invoke/MethodHandle" ∧ yX2_addGifts.cls ≠ "java/lang/invoke/VarHandle" ∧ (parseMethodDescriptor yX2_addGifts.desc).map (fun d => d.parameters.length) = some 3 := by decide +kernel
theorem cw_X2_carryAll : Cond.code yX2_carryAll cX2_carryAll 3 none ∈ gt_T := gt_t5 36 rfl rfl
theorem im_X2_carryAll : Cond.instanceMethod yX2_carryAll ∈ gt_T := gt_t5 35 rfl rfl
theorem sl_X2_carryAll : Cond.selects yX2_carryAll.cls yX2_carryAll yX2_carryAll ∈ gt_T := gt_p3 1 rfl
theorem pd_X2_carryAll : yX2_carryAll.cls ≠ "java/lang/invoke/MethodHandle" ∧ yX2_carryAll.cls ≠ "java/lang/invoke/VarHandle" ∧ (parseMethodDescriptor yX2_carryAll.desc).map (fun d => d.parameters.length) = some 1 := by decide +kernel
theorem cw_X2_meanOf : Cond.code yX2_meanOf cX2_meanOf 7 (some .int) ∈ gt_T := gt_t5 40 rfl rfl
theorem im_X2_meanOf : Cond.instanceMethod yX2_meanOf ∈ gt_T := gt_t5 39 rfl rfl
theorem sl_X2_meanOf : Cond.selects yX2_meanOf.cls yX2_meanOf yX2_meanOf ∈ gt_T := gt_p3 2 rfl
theorem pd_X2_meanOf : yX2_meanOf.cls ≠ "java/lang/invoke/MethodHandle" ∧ yX2_meanOf.cls ≠ "java/lang/invoke/VarHandle" ∧ (parseMethodDescriptor yX2_meanOf.desc).map (fun d => d.parameters.length) = some 3 := by decide +kernel
theorem cw_X2_lacking : Cond.code yX2_lacking cX2_lacking 5 (some .int) ∈ gt_T := gt_t5 61 rfl rfl
theorem im_X2_lacking : Cond.instanceMethod yX2_lacking ∈ gt_T := gt_t5 59 rfl rfl
theorem sl_X2_lacking : Cond.selects yX2_lacking.cls yX2_lacking yX2_lacking ∈ gt_T := gt_t5 60 rfl rfl
theorem pd_X2_lacking : yX2_lacking.cls ≠ "java/lang/invoke/MethodHandle" ∧ yX2_lacking.cls ≠ "java/lang/invoke/VarHandle" ∧ (parseMethodDescriptor yX2_lacking.desc).map (fun d => d.parameters.length) = some 2 := by decide +kernel
theorem cw_X2_quotient : Cond.code yX2_quotient cX2_quotient 3 (some .int) ∈ gt_T := gt_t5 44 rfl rfl
theorem im_X2_quotient : Cond.instanceMethod yX2_quotient ∈ gt_T := gt_t5 43 rfl rfl
theorem sl_X2_quotient : Cond.selects yX2_quotient.cls yX2_quotient yX2_quotient ∈ gt_T := gt_p3 3 rfl
theorem pd_X2_quotient : yX2_quotient.cls ≠ "java/lang/invoke/MethodHandle" ∧ yX2_quotient.cls ≠ "java/lang/invoke/VarHandle" ∧ (parseMethodDescriptor yX2_quotient.desc).map (fun d => d.parameters.length) = some 0 := by decide +kernel
theorem cw_X2_set : Cond.code yX2_set cX2_set 3 none ∈ gt_T := gt_t5 5 rfl rfl
theorem st_X2_set : Cond.static yX2_set ∈ gt_T := gt_t5 4 rfl rfl
theorem pd_X2_set : yX2_set.cls ≠ "java/lang/invoke/MethodHandle" ∧ yX2_set.cls ≠ "java/lang/invoke/VarHandle" ∧ (parseMethodDescriptor yX2_set.desc).map (fun d => d.parameters.length) = some 2 := by decide +kernel
theorem cw_X2_carry : Cond.code yX2_carry cX2_carry 2 none ∈ gt_T := gt_t5 20 rfl rfl
theorem st_X2_carry : Cond.static yX2_carry ∈ gt_T := gt_t5 19 rfl rfl
theorem pd_X2_carry : yX2_carry.cls ≠ "java/lang/invoke/MethodHandle" ∧ yX2_carry.cls ≠ "java/lang/invoke/VarHandle" ∧ (parseMethodDescriptor yX2_carry.desc).map (fun d => d.parameters.length) = some 1 := by decide +kernel
theorem cw_X2_multiply : Cond.code yX2_multiply cX2_multiply 3 none ∈ gt_T := gt_t5 17 rfl rfl
theorem st_X2_multiply : Cond.static yX2_multiply ∈ gt_T := gt_t5 16 rfl rfl
theorem pd_X2_multiply : yX2_multiply.cls ≠ "java/lang/invoke/MethodHandle" ∧ yX2_multiply.cls ≠ "java/lang/invoke/VarHandle" ∧ (parseMethodDescriptor yX2_multiply.desc).map (fun d => d.parameters.length) = some 2 := by decide +kernel
theorem cw_X2_add : Cond.code yX2_add cX2_add 3 none ∈ gt_T := gt_t5 24 rfl rfl
theorem st_X2_add : Cond.static yX2_add ∈ gt_T := gt_t5 23 rfl rfl
theorem pd_X2_add : yX2_add.cls ≠ "java/lang/invoke/MethodHandle" ∧ yX2_add.cls ≠ "java/lang/invoke/VarHandle" ∧ (parseMethodDescriptor yX2_add.desc).map (fun d => d.parameters.length) = some 2 := by decide +kernel
theorem cw_X2_subtract : Cond.code yX2_subtract cX2_subtract 3 none ∈ gt_T := gt_t5 50 rfl rfl
theorem st_X2_subtract : Cond.static yX2_subtract ∈ gt_T := gt_t5 49 rfl rfl
theorem pd_X2_subtract : yX2_subtract.cls ≠ "java/lang/invoke/MethodHandle" ∧ yX2_subtract.cls ≠ "java/lang/invoke/VarHandle" ∧ (parseMethodDescriptor yX2_subtract.desc).map (fun d => d.parameters.length) = some 2 := by decide +kernel
theorem cw_X2_halve : Cond.code yX2_halve cX2_halve 4 none ∈ gt_T := gt_t5 53 rfl rfl
theorem st_X2_halve : Cond.static yX2_halve ∈ gt_T := gt_t5 52 rfl rfl
theorem pd_X2_halve : yX2_halve.cls ≠ "java/lang/invoke/MethodHandle" ∧ yX2_halve.cls ≠ "java/lang/invoke/VarHandle" ∧ (parseMethodDescriptor yX2_halve.desc).map (fun d => d.parameters.length) = some 1 := by decide +kernel
theorem cw_X2_below : Cond.code yX2_below cX2_below 3 (some .boolean) ∈ gt_T := gt_t5 47 rfl rfl
theorem st_X2_below : Cond.static yX2_below ∈ gt_T := gt_t5 46 rfl rfl
theorem pd_X2_below : yX2_below.cls ≠ "java/lang/invoke/MethodHandle" ∧ yX2_below.cls ≠ "java/lang/invoke/VarHandle" ∧ (parseMethodDescriptor yX2_below.desc).map (fun d => d.parameters.length) = some 2 := by decide +kernel
theorem cw_X3_seat : Cond.code yX3_seat cX3_seat 4 none ∈ gt_T := gt_t4 129 rfl rfl
theorem im_X3_seat : Cond.instanceMethod yX3_seat ∈ gt_T := gt_t4 127 rfl rfl
theorem sl_X3_seat : Cond.selects yX3_seat.cls yX3_seat yX3_seat ∈ gt_T := gt_t4 128 rfl rfl
theorem pd_X3_seat : yX3_seat.cls ≠ "java/lang/invoke/MethodHandle" ∧ yX3_seat.cls ≠ "java/lang/invoke/VarHandle" ∧ (parseMethodDescriptor yX3_seat.desc).map (fun d => d.parameters.length) = some 2 := by decide +kernel
theorem cw_X3_seatGiver : Cond.code yX3_seatGiver cX3_seatGiver 5 none ∈ gt_T := gt_t4 134 rfl rfl
theorem im_X3_seatGiver : Cond.instanceMethod yX3_seatGiver ∈ gt_T := gt_t4 133 rfl rfl
theorem sl_X3_seatGiver : Cond.selects yX3_seatGiver.cls yX3_seatGiver yX3_seatGiver ∈ gt_T := gt_p2 5 rfl
theorem pd_X3_seatGiver : yX3_seatGiver.cls ≠ "java/lang/invoke/MethodHandle" ∧ yX3_seatGiver.cls ≠ "java/lang/invoke/VarHandle" ∧ (parseMethodDescriptor yX3_seatGiver.desc).map (fun d => d.parameters.length) = some 2 := by decide +kernel
theorem cw_X3_moneyBy : Cond.code yX3_moneyBy cX3_moneyBy 3 (some .int) ∈ gt_T := gt_t5 86 rfl rfl
theorem im_X3_moneyBy : Cond.instanceMethod yX3_moneyBy ∈ gt_T := gt_t5 84 rfl rfl
theorem sl_X3_moneyBy : Cond.selects yX3_moneyBy.cls yX3_moneyBy yX3_moneyBy ∈ gt_T := gt_t5 85 rfl rfl
theorem pd_X3_moneyBy : yX3_moneyBy.cls ≠ "java/lang/invoke/MethodHandle" ∧ yX3_moneyBy.cls ≠ "java/lang/invoke/VarHandle" ∧ (parseMethodDescriptor yX3_moneyBy.desc).map (fun d => d.parameters.length) = some 2 := by decide +kernel
theorem cw_X3_canBring : Cond.code yX3_canBring cX3_canBring 3 (some .boolean) ∈ gt_T := gt_t5 94 rfl rfl
theorem im_X3_canBring : Cond.instanceMethod yX3_canBring ∈ gt_T := gt_t5 92 rfl rfl
theorem sl_X3_canBring : Cond.selects yX3_canBring.cls yX3_canBring yX3_canBring ∈ gt_T := gt_t5 93 rfl rfl
theorem pd_X3_canBring : yX3_canBring.cls ≠ "java/lang/invoke/MethodHandle" ∧ yX3_canBring.cls ≠ "java/lang/invoke/VarHandle" ∧ (parseMethodDescriptor yX3_canBring.desc).map (fun d => d.parameters.length) = some 2 := by decide +kernel
theorem cw_X3_weightOf : Cond.code yX3_weightOf cX3_weightOf 7 (some .int) ∈ gt_T := gt_t4 147 rfl rfl
theorem im_X3_weightOf : Cond.instanceMethod yX3_weightOf ∈ gt_T := gt_t4 145 rfl rfl
theorem sl_X3_weightOf : Cond.selects yX3_weightOf.cls yX3_weightOf yX3_weightOf ∈ gt_T := gt_t4 146 rfl rfl
theorem pd_X3_weightOf : yX3_weightOf.cls ≠ "java/lang/invoke/MethodHandle" ∧ yX3_weightOf.cls ≠ "java/lang/invoke/VarHandle" ∧ (parseMethodDescriptor yX3_weightOf.desc).map (fun d => d.parameters.length) = some 4 := by decide +kernel
theorem cw_X3_clauseWeight : Cond.code yX3_clauseWeight cX3_clauseWeight 8 (some .int) ∈ gt_T := gt_t4 151 rfl rfl
theorem im_X3_clauseWeight : Cond.instanceMethod yX3_clauseWeight ∈ gt_T := gt_t4 150 rfl rfl
theorem sl_X3_clauseWeight : Cond.selects yX3_clauseWeight.cls yX3_clauseWeight yX3_clauseWeight ∈ gt_T := gt_p2 7 rfl
theorem pd_X3_clauseWeight : yX3_clauseWeight.cls ≠ "java/lang/invoke/MethodHandle" ∧ yX3_clauseWeight.cls ≠ "java/lang/invoke/VarHandle" ∧ (parseMethodDescriptor yX3_clauseWeight.desc).map (fun d => d.parameters.length) = some 4 := by decide +kernel
theorem cw_X3_fillChances : Cond.code yX3_fillChances cX3_fillChances 6 none ∈ gt_T := gt_t4 213 rfl rfl
theorem im_X3_fillChances : Cond.instanceMethod yX3_fillChances ∈ gt_T := gt_t4 211 rfl rfl
theorem sl_X3_fillChances : Cond.selects yX3_fillChances.cls yX3_fillChances yX3_fillChances ∈ gt_T := gt_t4 212 rfl rfl
theorem pd_X3_fillChances : yX3_fillChances.cls ≠ "java/lang/invoke/MethodHandle" ∧ yX3_fillChances.cls ≠ "java/lang/invoke/VarHandle" ∧ (parseMethodDescriptor yX3_fillChances.desc).map (fun d => d.parameters.length) = some 2 := by decide +kernel
theorem cw_X3_chanceSum : Cond.code yX3_chanceSum cX3_chanceSum 4 (some .int) ∈ gt_T := gt_t4 218 rfl rfl
theorem im_X3_chanceSum : Cond.instanceMethod yX3_chanceSum ∈ gt_T := gt_t4 216 rfl rfl
theorem sl_X3_chanceSum : Cond.selects yX3_chanceSum.cls yX3_chanceSum yX3_chanceSum ∈ gt_T := gt_t4 217 rfl rfl
theorem pd_X3_chanceSum : yX3_chanceSum.cls ≠ "java/lang/invoke/MethodHandle" ∧ yX3_chanceSum.cls ≠ "java/lang/invoke/VarHandle" ∧ (parseMethodDescriptor yX3_chanceSum.desc).map (fun d => d.parameters.length) = some 1 := by decide +kernel
theorem cw_X3_mostLiked : Cond.code yX3_mostLiked cX3_mostLiked 5 (some .int) ∈ gt_T := gt_t6 67 rfl rfl
theorem im_X3_mostLiked : Cond.instanceMethod yX3_mostLiked ∈ gt_T := gt_t6 65 rfl rfl
theorem sl_X3_mostLiked : Cond.selects yX3_mostLiked.cls yX3_mostLiked yX3_mostLiked ∈ gt_T := gt_t6 66 rfl rfl
theorem pd_X3_mostLiked : yX3_mostLiked.cls ≠ "java/lang/invoke/MethodHandle" ∧ yX3_mostLiked.cls ≠ "java/lang/invoke/VarHandle" ∧ (parseMethodDescriptor yX3_mostLiked.desc).map (fun d => d.parameters.length) = some 2 := by decide +kernel
theorem cw_X3_likedBest : Cond.code yX3_likedBest cX3_likedBest 7 (some .int) ∈ gt_T := gt_t6 71 rfl rfl
theorem im_X3_likedBest : Cond.instanceMethod yX3_likedBest ∈ gt_T := gt_t6 70 rfl rfl
theorem sl_X3_likedBest : Cond.selects yX3_likedBest.cls yX3_likedBest yX3_likedBest ∈ gt_T := gt_p4 10 rfl
theorem pd_X3_likedBest : yX3_likedBest.cls ≠ "java/lang/invoke/MethodHandle" ∧ yX3_likedBest.cls ≠ "java/lang/invoke/VarHandle" ∧ (parseMethodDescriptor yX3_likedBest.desc).map (fun d => d.parameters.length) = some 2 := by decide +kernel
theorem cw_X4_choiceBy : Cond.code yX4_choiceBy cX4_choiceBy 5 (some .int) ∈ gt_T := gt_t5 205 rfl rfl
theorem st_X4_choiceBy : Cond.static yX4_choiceBy ∈ gt_T := gt_t5 204 rfl rfl
theorem pd_X4_choiceBy : yX4_choiceBy.cls ≠ "java/lang/invoke/MethodHandle" ∧ yX4_choiceBy.cls ≠ "java/lang/invoke/VarHandle" ∧ (parseMethodDescriptor yX4_choiceBy.desc).map (fun d => d.parameters.length) = some 4 := by decide +kernel
theorem cw_X4_valueBy : Cond.code yX4_valueBy cX4_valueBy 8 (some .int) ∈ gt_T := gt_t5 217 rfl rfl
theorem im_X4_valueBy : Cond.instanceMethod yX4_valueBy ∈ gt_T := gt_t5 215 rfl rfl
theorem sl_X4_valueBy : Cond.selects yX4_valueBy.cls yX4_valueBy yX4_valueBy ∈ gt_T := gt_t5 216 rfl rfl
theorem pd_X4_valueBy : yX4_valueBy.cls ≠ "java/lang/invoke/MethodHandle" ∧ yX4_valueBy.cls ≠ "java/lang/invoke/VarHandle" ∧ (parseMethodDescriptor yX4_valueBy.desc).map (fun d => d.parameters.length) = some 4 := by decide +kernel
theorem cw_X4_findRule : Cond.code yX4_findRule cX4_findRule 4 none ∈ gt_T := gt_t5 190 rfl rfl
theorem im_X4_findRule : Cond.instanceMethod yX4_findRule ∈ gt_T := gt_t5 188 rfl rfl
theorem sl_X4_findRule : Cond.selects yX4_findRule.cls yX4_findRule yX4_findRule ∈ gt_T := gt_t5 189 rfl rfl
theorem pd_X4_findRule : yX4_findRule.cls ≠ "java/lang/invoke/MethodHandle" ∧ yX4_findRule.cls ≠ "java/lang/invoke/VarHandle" ∧ (parseMethodDescriptor yX4_findRule.desc).map (fun d => d.parameters.length) = some 3 := by decide +kernel
theorem cw_X4_gatherCandidates : Cond.code yX4_gatherCandidates cX4_gatherCandidates 5 none ∈ gt_T := gt_t5 194 rfl rfl
theorem im_X4_gatherCandidates : Cond.instanceMethod yX4_gatherCandidates ∈ gt_T := gt_t5 193 rfl rfl
theorem sl_X4_gatherCandidates : Cond.selects yX4_gatherCandidates.cls yX4_gatherCandidates yX4_gatherCandidates ∈ gt_T := gt_p3 15 rfl
theorem pd_X4_gatherCandidates : yX4_gatherCandidates.cls ≠ "java/lang/invoke/MethodHandle" ∧ yX4_gatherCandidates.cls ≠ "java/lang/invoke/VarHandle" ∧ (parseMethodDescriptor yX4_gatherCandidates.desc).map (fun d => d.parameters.length) = some 1 := by decide +kernel
theorem cw_X4_tryBounds : Cond.code yX4_tryBounds cX4_tryBounds 6 none ∈ gt_T := gt_t5 198 rfl rfl
theorem im_X4_tryBounds : Cond.instanceMethod yX4_tryBounds ∈ gt_T := gt_t5 197 rfl rfl
theorem sl_X4_tryBounds : Cond.selects yX4_tryBounds.cls yX4_tryBounds yX4_tryBounds ∈ gt_T := gt_p4 0 rfl
theorem pd_X4_tryBounds : yX4_tryBounds.cls ≠ "java/lang/invoke/MethodHandle" ∧ yX4_tryBounds.cls ≠ "java/lang/invoke/VarHandle" ∧ (parseMethodDescriptor yX4_tryBounds.desc).map (fun d => d.parameters.length) = some 4 := by decide +kernel
theorem cw_X4_tryRule : Cond.code yX4_tryRule cX4_tryRule 7 none ∈ gt_T := gt_t5 202 rfl rfl
theorem im_X4_tryRule : Cond.instanceMethod yX4_tryRule ∈ gt_T := gt_t5 201 rfl rfl
theorem sl_X4_tryRule : Cond.selects yX4_tryRule.cls yX4_tryRule yX4_tryRule ∈ gt_T := gt_p4 1 rfl
theorem pd_X4_tryRule : yX4_tryRule.cls ≠ "java/lang/invoke/MethodHandle" ∧ yX4_tryRule.cls ≠ "java/lang/invoke/VarHandle" ∧ (parseMethodDescriptor yX4_tryRule.desc).map (fun d => d.parameters.length) = some 2 := by decide +kernel
theorem cw_X4_settle : Cond.code yX4_settle cX4_settle 6 none ∈ gt_T := gt_t5 231 rfl rfl
theorem im_X4_settle : Cond.instanceMethod yX4_settle ∈ gt_T := gt_t5 229 rfl rfl
theorem sl_X4_settle : Cond.selects yX4_settle.cls yX4_settle yX4_settle ∈ gt_T := gt_t5 230 rfl rfl
theorem pd_X4_settle : yX4_settle.cls ≠ "java/lang/invoke/MethodHandle" ∧ yX4_settle.cls ≠ "java/lang/invoke/VarHandle" ∧ (parseMethodDescriptor yX4_settle.desc).map (fun d => d.parameters.length) = some 4 := by decide +kernel
theorem cw_X4_lay : Cond.code yX4_lay cX4_lay 5 none ∈ gt_T := gt_t5 235 rfl rfl
theorem im_X4_lay : Cond.instanceMethod yX4_lay ∈ gt_T := gt_t5 234 rfl rfl
theorem sl_X4_lay : Cond.selects yX4_lay.cls yX4_lay yX4_lay ∈ gt_T := gt_p4 3 rfl
theorem pd_X4_lay : yX4_lay.cls ≠ "java/lang/invoke/MethodHandle" ∧ yX4_lay.cls ≠ "java/lang/invoke/VarHandle" ∧ (parseMethodDescriptor yX4_lay.desc).map (fun d => d.parameters.length) = some 4 := by decide +kernel
theorem cw_X4_valueNow : Cond.code yX4_valueNow cX4_valueNow 3 (some .int) ∈ gt_T := gt_t6 3 rfl rfl
theorem im_X4_valueNow : Cond.instanceMethod yX4_valueNow ∈ gt_T := gt_t6 2 rfl rfl
theorem sl_X4_valueNow : Cond.selects yX4_valueNow.cls yX4_valueNow yX4_valueNow ∈ gt_T := gt_p4 5 rfl
theorem pd_X4_valueNow : yX4_valueNow.cls ≠ "java/lang/invoke/MethodHandle" ∧ yX4_valueNow.cls ≠ "java/lang/invoke/VarHandle" ∧ (parseMethodDescriptor yX4_valueNow.desc).map (fun d => d.parameters.length) = some 2 := by decide +kernel
theorem cw_X4_goRound : Cond.code yX4_goRound cX4_goRound 11 (some .boolean) ∈ gt_T := gt_t5 239 rfl rfl
theorem im_X4_goRound : Cond.instanceMethod yX4_goRound ∈ gt_T := gt_t5 238 rfl rfl
theorem sl_X4_goRound : Cond.selects yX4_goRound.cls yX4_goRound yX4_goRound ∈ gt_T := gt_p4 4 rfl
theorem pd_X4_goRound : yX4_goRound.cls ≠ "java/lang/invoke/MethodHandle" ∧ yX4_goRound.cls ≠ "java/lang/invoke/VarHandle" ∧ (parseMethodDescriptor yX4_goRound.desc).map (fun d => d.parameters.length) = some 3 := by decide +kernel
theorem cw_X5_split : Cond.code yX5_split cX5_split 5 none ∈ gt_T := gt_t3 204 rfl rfl
theorem im_X5_split : Cond.instanceMethod yX5_split ∈ gt_T := gt_t3 203 rfl rfl
theorem sl_X5_split : Cond.selects yX5_split.cls yX5_split yX5_split ∈ gt_T := gt_p1 4 rfl
theorem pd_X5_split : yX5_split.cls ≠ "java/lang/invoke/MethodHandle" ∧ yX5_split.cls ≠ "java/lang/invoke/VarHandle" ∧ (parseMethodDescriptor yX5_split.desc).map (fun d => d.parameters.length) = some 2 := by decide +kernel
theorem cw_X5_addToken : Cond.code yX5_addToken cX5_addToken 3 none ∈ gt_T := gt_t4 25 rfl rfl
theorem im_X5_addToken : Cond.instanceMethod yX5_addToken ∈ gt_T := gt_t4 24 rfl rfl
theorem sl_X5_addToken : Cond.selects yX5_addToken.cls yX5_addToken yX5_addToken ∈ gt_T := gt_p1 5 rfl
theorem pd_X5_addToken : yX5_addToken.cls ≠ "java/lang/invoke/MethodHandle" ∧ yX5_addToken.cls ≠ "java/lang/invoke/VarHandle" ∧ (parseMethodDescriptor yX5_addToken.desc).map (fun d => d.parameters.length) = some 2 := by decide +kernel
theorem cw_X5_rowKind : Cond.code yX5_rowKind cX5_rowKind 1 (some .int) ∈ gt_T := gt_t3 207 rfl rfl
theorem st_X5_rowKind : Cond.static yX5_rowKind ∈ gt_T := gt_t3 206 rfl rfl
theorem pd_X5_rowKind : yX5_rowKind.cls ≠ "java/lang/invoke/MethodHandle" ∧ yX5_rowKind.cls ≠ "java/lang/invoke/VarHandle" ∧ (parseMethodDescriptor yX5_rowKind.desc).map (fun d => d.parameters.length) = some 1 := by decide +kernel
theorem cw_X5_tokenOf : Cond.code yX5_tokenOf cX5_tokenOf 3 (some .int) ∈ gt_T := gt_t3 211 rfl rfl
theorem st_X5_tokenOf : Cond.static yX5_tokenOf ∈ gt_T := gt_t3 210 rfl rfl
theorem pd_X5_tokenOf : yX5_tokenOf.cls ≠ "java/lang/invoke/MethodHandle" ∧ yX5_tokenOf.cls ≠ "java/lang/invoke/VarHandle" ∧ (parseMethodDescriptor yX5_tokenOf.desc).map (fun d => d.parameters.length) = some 3 := by decide +kernel
theorem cw_X5_numberOf : Cond.code yX5_numberOf cX5_numberOf 5 (some .int) ∈ gt_T := gt_t4 18 rfl rfl
theorem st_X5_numberOf : Cond.static yX5_numberOf ∈ gt_T := gt_t4 17 rfl rfl
theorem pd_X5_numberOf : yX5_numberOf.cls ≠ "java/lang/invoke/MethodHandle" ∧ yX5_numberOf.cls ≠ "java/lang/invoke/VarHandle" ∧ (parseMethodDescriptor yX5_numberOf.desc).map (fun d => d.parameters.length) = some 3 := by decide +kernel
theorem cw_X5_takes : Cond.code yX5_takes cX5_takes 2 (some .boolean) ∈ gt_T := gt_t4 33 rfl rfl
theorem im_X5_takes : Cond.instanceMethod yX5_takes ∈ gt_T := gt_t4 32 rfl rfl
theorem sl_X5_takes : Cond.selects yX5_takes.cls yX5_takes yX5_takes ∈ gt_T := gt_p1 7 rfl
theorem pd_X5_takes : yX5_takes.cls ≠ "java/lang/invoke/MethodHandle" ∧ yX5_takes.cls ≠ "java/lang/invoke/VarHandle" ∧ (parseMethodDescriptor yX5_takes.desc).map (fun d => d.parameters.length) = some 1 := by decide +kernel
theorem cw_X5_fail : Cond.code yX5_fail cX5_fail 1 none ∈ gt_T := gt_t4 37 rfl rfl
theorem im_X5_fail : Cond.instanceMethod yX5_fail ∈ gt_T := gt_t4 36 rfl rfl
theorem sl_X5_fail : Cond.selects yX5_fail.cls yX5_fail yX5_fail ∈ gt_T := gt_p1 8 rfl
theorem pd_X5_fail : yX5_fail.cls ≠ "java/lang/invoke/MethodHandle" ∧ yX5_fail.cls ≠ "java/lang/invoke/VarHandle" ∧ (parseMethodDescriptor yX5_fail.desc).map (fun d => d.parameters.length) = some 0 := by decide +kernel
theorem cw_X5_write : Cond.code yX5_write cX5_write 3 none ∈ gt_T := gt_t4 61 rfl rfl
theorem im_X5_write : Cond.instanceMethod yX5_write ∈ gt_T := gt_t4 60 rfl rfl
theorem sl_X5_write : Cond.selects yX5_write.cls yX5_write yX5_write ∈ gt_T := gt_p1 14 rfl
theorem pd_X5_write : yX5_write.cls ≠ "java/lang/invoke/MethodHandle" ∧ yX5_write.cls ≠ "java/lang/invoke/VarHandle" ∧ (parseMethodDescriptor yX5_write.desc).map (fun d => d.parameters.length) = some 2 := by decide +kernel
theorem cw_X5_readClause : Cond.code yX5_readClause cX5_readClause 3 none ∈ gt_T := gt_t4 29 rfl rfl
theorem im_X5_readClause : Cond.instanceMethod yX5_readClause ∈ gt_T := gt_t4 28 rfl rfl
theorem sl_X5_readClause : Cond.selects yX5_readClause.cls yX5_readClause yX5_readClause ∈ gt_T := gt_p1 6 rfl
theorem pd_X5_readClause : yX5_readClause.cls ≠ "java/lang/invoke/MethodHandle" ∧ yX5_readClause.cls ≠ "java/lang/invoke/VarHandle" ∧ (parseMethodDescriptor yX5_readClause.desc).map (fun d => d.parameters.length) = some 0 := by decide +kernel
theorem cw_X5_readTest : Cond.code yX5_readTest cX5_readTest 4 none ∈ gt_T := gt_t4 65 rfl rfl
theorem im_X5_readTest : Cond.instanceMethod yX5_readTest ∈ gt_T := gt_t4 64 rfl rfl
theorem sl_X5_readTest : Cond.selects yX5_readTest.cls yX5_readTest yX5_readTest ∈ gt_T := gt_p1 15 rfl
theorem pd_X5_readTest : yX5_readTest.cls ≠ "java/lang/invoke/MethodHandle" ∧ yX5_readTest.cls ≠ "java/lang/invoke/VarHandle" ∧ (parseMethodDescriptor yX5_readTest.desc).map (fun d => d.parameters.length) = some 1 := by decide +kernel
theorem cw_X5_readBoth : Cond.code yX5_readBoth cX5_readBoth 4 none ∈ gt_T := gt_t4 69 rfl rfl
theorem im_X5_readBoth : Cond.instanceMethod yX5_readBoth ∈ gt_T := gt_t4 68 rfl rfl
theorem sl_X5_readBoth : Cond.selects yX5_readBoth.cls yX5_readBoth yX5_readBoth ∈ gt_T := gt_p2 0 rfl
theorem pd_X5_readBoth : yX5_readBoth.cls ≠ "java/lang/invoke/MethodHandle" ∧ yX5_readBoth.cls ≠ "java/lang/invoke/VarHandle" ∧ (parseMethodDescriptor yX5_readBoth.desc).map (fun d => d.parameters.length) = some 1 := by decide +kernel
theorem cw_X5_fill : Cond.code yX5_fill cX5_fill 3 none ∈ gt_T := gt_t4 81 rfl rfl
theorem im_X5_fill : Cond.instanceMethod yX5_fill ∈ gt_T := gt_t4 80 rfl rfl
theorem sl_X5_fill : Cond.selects yX5_fill.cls yX5_fill yX5_fill ∈ gt_T := gt_p2 3 rfl
theorem pd_X5_fill : yX5_fill.cls ≠ "java/lang/invoke/MethodHandle" ∧ yX5_fill.cls ≠ "java/lang/invoke/VarHandle" ∧ (parseMethodDescriptor yX5_fill.desc).map (fun d => d.parameters.length) = some 2 := by decide +kernel
theorem cw_X5_readPlain : Cond.code yX5_readPlain cX5_readPlain 4 none ∈ gt_T := gt_t4 73 rfl rfl
theorem im_X5_readPlain : Cond.instanceMethod yX5_readPlain ∈ gt_T := gt_t4 72 rfl rfl
theorem sl_X5_readPlain : Cond.selects yX5_readPlain.cls yX5_readPlain yX5_readPlain ∈ gt_T := gt_p2 1 rfl
theorem pd_X5_readPlain : yX5_readPlain.cls ≠ "java/lang/invoke/MethodHandle" ∧ yX5_readPlain.cls ≠ "java/lang/invoke/VarHandle" ∧ (parseMethodDescriptor yX5_readPlain.desc).map (fun d => d.parameters.length) = some 1 := by decide +kernel
theorem cw_X5_readComparison : Cond.code yX5_readComparison cX5_readComparison 3 none ∈ gt_T := gt_t4 77 rfl rfl
theorem im_X5_readComparison : Cond.instanceMethod yX5_readComparison ∈ gt_T := gt_t4 76 rfl rfl
theorem sl_X5_readComparison : Cond.selects yX5_readComparison.cls yX5_readComparison yX5_readComparison ∈ gt_T := gt_p2 2 rfl
theorem pd_X5_readComparison : yX5_readComparison.cls ≠ "java/lang/invoke/MethodHandle" ∧ yX5_readComparison.cls ≠ "java/lang/invoke/VarHandle" ∧ (parseMethodDescriptor yX5_readComparison.desc).map (fun d => d.parameters.length) = some 1 := by decide +kernel
theorem cw_X5_opens : Cond.code yX5_opens cX5_opens 3 (some .boolean) ∈ gt_T := gt_t4 53 rfl rfl
theorem im_X5_opens : Cond.instanceMethod yX5_opens ∈ gt_T := gt_t4 52 rfl rfl
theorem sl_X5_opens : Cond.selects yX5_opens.cls yX5_opens yX5_opens ∈ gt_T := gt_p1 12 rfl
theorem pd_X5_opens : yX5_opens.cls ≠ "java/lang/invoke/MethodHandle" ∧ yX5_opens.cls ≠ "java/lang/invoke/VarHandle" ∧ (parseMethodDescriptor yX5_opens.desc).map (fun d => d.parameters.length) = some 2 := by decide +kernel
theorem cw_X5_closes : Cond.code yX5_closes cX5_closes 2 none ∈ gt_T := gt_t4 57 rfl rfl
theorem im_X5_closes : Cond.instanceMethod yX5_closes ∈ gt_T := gt_t4 56 rfl rfl
theorem sl_X5_closes : Cond.selects yX5_closes.cls yX5_closes yX5_closes ∈ gt_T := gt_p1 13 rfl
theorem pd_X5_closes : yX5_closes.cls ≠ "java/lang/invoke/MethodHandle" ∧ yX5_closes.cls ≠ "java/lang/invoke/VarHandle" ∧ (parseMethodDescriptor yX5_closes.desc).map (fun d => d.parameters.length) = some 1 := by decide +kernel
theorem cw_X5_readSum : Cond.code yX5_readSum cX5_readSum 4 none ∈ gt_T := gt_t4 41 rfl rfl
theorem im_X5_readSum : Cond.instanceMethod yX5_readSum ∈ gt_T := gt_t4 40 rfl rfl
theorem sl_X5_readSum : Cond.selects yX5_readSum.cls yX5_readSum yX5_readSum ∈ gt_T := gt_p1 9 rfl
theorem pd_X5_readSum : yX5_readSum.cls ≠ "java/lang/invoke/MethodHandle" ∧ yX5_readSum.cls ≠ "java/lang/invoke/VarHandle" ∧ (parseMethodDescriptor yX5_readSum.desc).map (fun d => d.parameters.length) = some 1 := by decide +kernel
theorem cw_X5_readTerm : Cond.code yX5_readTerm cX5_readTerm 4 none ∈ gt_T := gt_t4 45 rfl rfl
theorem im_X5_readTerm : Cond.instanceMethod yX5_readTerm ∈ gt_T := gt_t4 44 rfl rfl
theorem sl_X5_readTerm : Cond.selects yX5_readTerm.cls yX5_readTerm yX5_readTerm ∈ gt_T := gt_p1 10 rfl
theorem pd_X5_readTerm : yX5_readTerm.cls ≠ "java/lang/invoke/MethodHandle" ∧ yX5_readTerm.cls ≠ "java/lang/invoke/VarHandle" ∧ (parseMethodDescriptor yX5_readTerm.desc).map (fun d => d.parameters.length) = some 1 := by decide +kernel
theorem cw_X5_readPart : Cond.code yX5_readPart cX5_readPart 4 none ∈ gt_T := gt_t4 49 rfl rfl
theorem im_X5_readPart : Cond.instanceMethod yX5_readPart ∈ gt_T := gt_t4 48 rfl rfl
theorem sl_X5_readPart : Cond.selects yX5_readPart.cls yX5_readPart yX5_readPart ∈ gt_T := gt_p1 11 rfl
theorem pd_X5_readPart : yX5_readPart.cls ≠ "java/lang/invoke/MethodHandle" ∧ yX5_readPart.cls ≠ "java/lang/invoke/VarHandle" ∧ (parseMethodDescriptor yX5_readPart.desc).map (fun d => d.parameters.length) = some 1 := by decide +kernel
theorem cw_X6_copyFrom : Cond.code yX6_copyFrom cX6_copyFrom 3 none ∈ gt_T := gt_t6 79 rfl rfl
theorem im_X6_copyFrom : Cond.instanceMethod yX6_copyFrom ∈ gt_T := gt_t6 77 rfl rfl
theorem sl_X6_copyFrom : Cond.selects yX6_copyFrom.cls yX6_copyFrom yX6_copyFrom ∈ gt_T := gt_t6 78 rfl rfl
theorem pd_X6_copyFrom : yX6_copyFrom.cls ≠ "java/lang/invoke/MethodHandle" ∧ yX6_copyFrom.cls ≠ "java/lang/invoke/VarHandle" ∧ (parseMethodDescriptor yX6_copyFrom.desc).map (fun d => d.parameters.length) = some 1 := by decide +kernel
theorem cw_X6_hasThing : Cond.code yX6_hasThing cX6_hasThing 2 (some .boolean) ∈ gt_T := gt_t3 112 rfl rfl
theorem im_X6_hasThing : Cond.instanceMethod yX6_hasThing ∈ gt_T := gt_t3 110 rfl rfl
theorem sl_X6_hasThing : Cond.selects yX6_hasThing.cls yX6_hasThing yX6_hasThing ∈ gt_T := gt_t3 111 rfl rfl
theorem pd_X6_hasThing : yX6_hasThing.cls ≠ "java/lang/invoke/MethodHandle" ∧ yX6_hasThing.cls ≠ "java/lang/invoke/VarHandle" ∧ (parseMethodDescriptor yX6_hasThing.desc).map (fun d => d.parameters.length) = some 1 := by decide +kernel
theorem cw_X6_hasGuest : Cond.code yX6_hasGuest cX6_hasGuest 2 (some .boolean) ∈ gt_T := gt_t3 140 rfl rfl
theorem im_X6_hasGuest : Cond.instanceMethod yX6_hasGuest ∈ gt_T := gt_t3 138 rfl rfl
theorem sl_X6_hasGuest : Cond.selects yX6_hasGuest.cls yX6_hasGuest yX6_hasGuest ∈ gt_T := gt_t3 139 rfl rfl
theorem pd_X6_hasGuest : yX6_hasGuest.cls ≠ "java/lang/invoke/MethodHandle" ∧ yX6_hasGuest.cls ≠ "java/lang/invoke/VarHandle" ∧ (parseMethodDescriptor yX6_hasGuest.desc).map (fun d => d.parameters.length) = some 1 := by decide +kernel
theorem cw_X6_fact : Cond.code yX6_fact cX6_fact 3 (some .int) ∈ gt_T := gt_t4 139 rfl rfl
theorem im_X6_fact : Cond.instanceMethod yX6_fact ∈ gt_T := gt_t4 137 rfl rfl
theorem sl_X6_fact : Cond.selects yX6_fact.cls yX6_fact yX6_fact ∈ gt_T := gt_t4 138 rfl rfl
theorem pd_X6_fact : yX6_fact.cls ≠ "java/lang/invoke/MethodHandle" ∧ yX6_fact.cls ≠ "java/lang/invoke/VarHandle" ∧ (parseMethodDescriptor yX6_fact.desc).map (fun d => d.parameters.length) = some 2 := by decide +kernel
theorem cw_X6_addGuest : Cond.code yX6_addGuest cX6_addGuest 6 (some .int) ∈ gt_T := gt_t3 132 rfl rfl
theorem im_X6_addGuest : Cond.instanceMethod yX6_addGuest ∈ gt_T := gt_t3 130 rfl rfl
theorem sl_X6_addGuest : Cond.selects yX6_addGuest.cls yX6_addGuest yX6_addGuest ∈ gt_T := gt_t3 131 rfl rfl
theorem pd_X6_addGuest : yX6_addGuest.cls ≠ "java/lang/invoke/MethodHandle" ∧ yX6_addGuest.cls ≠ "java/lang/invoke/VarHandle" ∧ (parseMethodDescriptor yX6_addGuest.desc).map (fun d => d.parameters.length) = some 4 := by decide +kernel
theorem cw_X6_part : Cond.code yX6_part cX6_part 3 none ∈ gt_T := gt_t3 152 rfl rfl
theorem im_X6_part : Cond.instanceMethod yX6_part ∈ gt_T := gt_t3 150 rfl rfl
theorem sl_X6_part : Cond.selects yX6_part.cls yX6_part yX6_part ∈ gt_T := gt_t3 151 rfl rfl
theorem pd_X6_part : yX6_part.cls ≠ "java/lang/invoke/MethodHandle" ∧ yX6_part.cls ≠ "java/lang/invoke/VarHandle" ∧ (parseMethodDescriptor yX6_part.desc).map (fun d => d.parameters.length) = some 1 := by decide +kernel
theorem cw_X6_isWithThird : Cond.code yX6_isWithThird cX6_isWithThird 3 (some .boolean) ∈ gt_T := gt_t3 156 rfl rfl
theorem im_X6_isWithThird : Cond.instanceMethod yX6_isWithThird ∈ gt_T := gt_t3 154 rfl rfl
theorem sl_X6_isWithThird : Cond.selects yX6_isWithThird.cls yX6_isWithThird yX6_isWithThird ∈ gt_T := gt_t3 155 rfl rfl
theorem pd_X6_isWithThird : yX6_isWithThird.cls ≠ "java/lang/invoke/MethodHandle" ∧ yX6_isWithThird.cls ≠ "java/lang/invoke/VarHandle" ∧ (parseMethodDescriptor yX6_isWithThird.desc).map (fun d => d.parameters.length) = some 2 := by decide +kernel
theorem cw_X6_isGiver : Cond.code yX6_isGiver cX6_isGiver 2 (some .boolean) ∈ gt_T := gt_t3 168 rfl rfl
theorem im_X6_isGiver : Cond.instanceMethod yX6_isGiver ∈ gt_T := gt_t3 166 rfl rfl
theorem sl_X6_isGiver : Cond.selects yX6_isGiver.cls yX6_isGiver yX6_isGiver ∈ gt_T := gt_t3 167 rfl rfl
theorem pd_X6_isGiver : yX6_isGiver.cls ≠ "java/lang/invoke/MethodHandle" ∧ yX6_isGiver.cls ≠ "java/lang/invoke/VarHandle" ∧ (parseMethodDescriptor yX6_isGiver.desc).map (fun d => d.parameters.length) = some 1 := by decide +kernel
theorem cw_X6_countGivers : Cond.code yX6_countGivers cX6_countGivers 3 (some .int) ∈ gt_T := gt_t6 92 rfl rfl
theorem im_X6_countGivers : Cond.instanceMethod yX6_countGivers ∈ gt_T := gt_t6 90 rfl rfl
theorem sl_X6_countGivers : Cond.selects yX6_countGivers.cls yX6_countGivers yX6_countGivers ∈ gt_T := gt_t6 91 rfl rfl
theorem pd_X6_countGivers : yX6_countGivers.cls ≠ "java/lang/invoke/MethodHandle" ∧ yX6_countGivers.cls ≠ "java/lang/invoke/VarHandle" ∧ (parseMethodDescriptor yX6_countGivers.desc).map (fun d => d.parameters.length) = some 0 := by decide +kernel
theorem cw_X6_purseOf : Cond.code yX6_purseOf cX6_purseOf 3 (some .int) ∈ gt_T := gt_t3 172 rfl rfl
theorem im_X6_purseOf : Cond.instanceMethod yX6_purseOf ∈ gt_T := gt_t3 170 rfl rfl
theorem sl_X6_purseOf : Cond.selects yX6_purseOf.cls yX6_purseOf yX6_purseOf ∈ gt_T := gt_t3 171 rfl rfl
theorem pd_X6_purseOf : yX6_purseOf.cls ≠ "java/lang/invoke/MethodHandle" ∧ yX6_purseOf.cls ≠ "java/lang/invoke/VarHandle" ∧ (parseMethodDescriptor yX6_purseOf.desc).map (fun d => d.parameters.length) = some 1 := by decide +kernel
theorem cw_X6_wayOf : Cond.code yX6_wayOf cX6_wayOf 3 (some (.object "GiftTable$Text")) ∈ gt_T := gt_t4 155 rfl rfl
theorem im_X6_wayOf : Cond.instanceMethod yX6_wayOf ∈ gt_T := gt_t4 153 rfl rfl
theorem sl_X6_wayOf : Cond.selects yX6_wayOf.cls yX6_wayOf yX6_wayOf ∈ gt_T := gt_t4 154 rfl rfl
theorem pd_X6_wayOf : yX6_wayOf.cls ≠ "java/lang/invoke/MethodHandle" ∧ yX6_wayOf.cls ≠ "java/lang/invoke/VarHandle" ∧ (parseMethodDescriptor yX6_wayOf.desc).map (fun d => d.parameters.length) = some 1 := by decide +kernel
theorem cw_X7_tells : Cond.code yX7_tells cX7_tells 9 (some .int) ∈ gt_T := gt_t4 159 rfl rfl
theorem im_X7_tells : Cond.instanceMethod yX7_tells ∈ gt_T := gt_t4 157 rfl rfl
theorem sl_X7_tells : Cond.selects yX7_tells.cls yX7_tells yX7_tells ∈ gt_T := gt_t4 158 rfl rfl
theorem pd_X7_tells : yX7_tells.cls ≠ "java/lang/invoke/MethodHandle" ∧ yX7_tells.cls ≠ "java/lang/invoke/VarHandle" ∧ (parseMethodDescriptor yX7_tells.desc).map (fun d => d.parameters.length) = some 3 := by decide +kernel
theorem cw_X7_reckon : Cond.code yX7_reckon cX7_reckon 11 (some .long) ∈ gt_T := gt_t4 163 rfl rfl
theorem im_X7_reckon : Cond.instanceMethod yX7_reckon ∈ gt_T := gt_t4 162 rfl rfl
theorem sl_X7_reckon : Cond.selects yX7_reckon.cls yX7_reckon yX7_reckon ∈ gt_T := gt_p2 8 rfl
theorem pd_X7_reckon : yX7_reckon.cls ≠ "java/lang/invoke/MethodHandle" ∧ yX7_reckon.cls ≠ "java/lang/invoke/VarHandle" ∧ (parseMethodDescriptor yX7_reckon.desc).map (fun d => d.parameters.length) = some 4 := by decide +kernel
theorem cw_X7_join : Cond.code yX7_join cX7_join 5 (some .long) ∈ gt_T := gt_t4 170 rfl rfl
theorem st_X7_join : Cond.static yX7_join ∈ gt_T := gt_t4 169 rfl rfl
theorem pd_X7_join : yX7_join.cls ≠ "java/lang/invoke/MethodHandle" ∧ yX7_join.cls ≠ "java/lang/invoke/VarHandle" ∧ (parseMethodDescriptor yX7_join.desc).map (fun d => d.parameters.length) = some 3 := by decide +kernel
theorem cw_X8_work : Cond.code yX8_work cX8_work 6 none ∈ gt_T := gt_t5 73 rfl rfl
theorem im_X8_work : Cond.instanceMethod yX8_work ∈ gt_T := gt_t5 71 rfl rfl
theorem sl_X8_work : Cond.selects yX8_work.cls yX8_work yX8_work ∈ gt_T := gt_t5 72 rfl rfl
theorem pd_X8_work : yX8_work.cls ≠ "java/lang/invoke/MethodHandle" ∧ yX8_work.cls ≠ "java/lang/invoke/VarHandle" ∧ (parseMethodDescriptor yX8_work.desc).map (fun d => d.parameters.length) = some 3 := by decide +kernel
theorem cw_X8_greatest : Cond.code yX8_greatest cX8_greatest 1 (some .int) ∈ gt_T := gt_t5 103 rfl rfl
theorem im_X8_greatest : Cond.instanceMethod yX8_greatest ∈ gt_T := gt_t5 101 rfl rfl
theorem sl_X8_greatest : Cond.selects yX8_greatest.cls yX8_greatest yX8_greatest ∈ gt_T := gt_t5 102 rfl rfl
theorem pd_X8_greatest : yX8_greatest.cls ≠ "java/lang/invoke/MethodHandle" ∧ yX8_greatest.cls ≠ "java/lang/invoke/VarHandle" ∧ (parseMethodDescriptor yX8_greatest.desc).map (fun d => d.parameters.length) = some 0 := by decide +kernel
theorem cw_X8_countedWays : Cond.code yX8_countedWays cX8_countedWays 1 (some .int) ∈ gt_T := gt_t5 107 rfl rfl
theorem im_X8_countedWays : Cond.instanceMethod yX8_countedWays ∈ gt_T := gt_t5 105 rfl rfl
theorem sl_X8_countedWays : Cond.selects yX8_countedWays.cls yX8_countedWays yX8_countedWays ∈ gt_T := gt_t5 106 rfl rfl
theorem pd_X8_countedWays : yX8_countedWays.cls ≠ "java/lang/invoke/MethodHandle" ∧ yX8_countedWays.cls ≠ "java/lang/invoke/VarHandle" ∧ (parseMethodDescriptor yX8_countedWays.desc).map (fun d => d.parameters.length) = some 0 := by decide +kernel
theorem cw_X8_valueAfter : Cond.code yX8_valueAfter cX8_valueAfter 6 (some .int) ∈ gt_T := gt_t5 99 rfl rfl
theorem im_X8_valueAfter : Cond.instanceMethod yX8_valueAfter ∈ gt_T := gt_t5 98 rfl rfl
theorem sl_X8_valueAfter : Cond.selects yX8_valueAfter.cls yX8_valueAfter yX8_valueAfter ∈ gt_T := gt_p3 7 rfl
theorem pd_X8_valueAfter : yX8_valueAfter.cls ≠ "java/lang/invoke/MethodHandle" ∧ yX8_valueAfter.cls ≠ "java/lang/invoke/VarHandle" ∧ (parseMethodDescriptor yX8_valueAfter.desc).map (fun d => d.parameters.length) = some 5 := by decide +kernel
theorem cw_X8_workLayer : Cond.code yX8_workLayer cX8_workLayer 11 none ∈ gt_T := gt_t5 81 rfl rfl
theorem im_X8_workLayer : Cond.instanceMethod yX8_workLayer ∈ gt_T := gt_t5 80 rfl rfl
theorem sl_X8_workLayer : Cond.selects yX8_workLayer.cls yX8_workLayer yX8_workLayer ∈ gt_T := gt_p3 5 rfl
theorem pd_X8_workLayer : yX8_workLayer.cls ≠ "java/lang/invoke/MethodHandle" ∧ yX8_workLayer.cls ≠ "java/lang/invoke/VarHandle" ∧ (parseMethodDescriptor yX8_workLayer.desc).map (fun d => d.parameters.length) = some 3 := by decide +kernel
theorem cw_X8_walkFirst : Cond.code yX8_walkFirst cX8_walkFirst 6 none ∈ gt_T := gt_t5 90 rfl rfl
theorem im_X8_walkFirst : Cond.instanceMethod yX8_walkFirst ∈ gt_T := gt_t5 89 rfl rfl
theorem sl_X8_walkFirst : Cond.selects yX8_walkFirst.cls yX8_walkFirst yX8_walkFirst ∈ gt_T := gt_p3 6 rfl
theorem pd_X8_walkFirst : yX8_walkFirst.cls ≠ "java/lang/invoke/MethodHandle" ∧ yX8_walkFirst.cls ≠ "java/lang/invoke/VarHandle" ∧ (parseMethodDescriptor yX8_walkFirst.desc).map (fun d => d.parameters.length) = some 2 := by decide +kernel
theorem cw_X8_lessWith : Cond.code yX8_lessWith cX8_lessWith 6 (some .int) ∈ gt_T := gt_t5 120 rfl rfl
theorem im_X8_lessWith : Cond.instanceMethod yX8_lessWith ∈ gt_T := gt_t5 118 rfl rfl
theorem sl_X8_lessWith : Cond.selects yX8_lessWith.cls yX8_lessWith yX8_lessWith ∈ gt_T := gt_t5 119 rfl rfl
theorem pd_X8_lessWith : yX8_lessWith.cls ≠ "java/lang/invoke/MethodHandle" ∧ yX8_lessWith.cls ≠ "java/lang/invoke/VarHandle" ∧ (parseMethodDescriptor yX8_lessWith.desc).map (fun d => d.parameters.length) = some 4 := by decide +kernel
theorem cw_X8_tryLayer : Cond.code yX8_tryLayer cX8_tryLayer 7 none ∈ gt_T := gt_t5 124 rfl rfl
theorem im_X8_tryLayer : Cond.instanceMethod yX8_tryLayer ∈ gt_T := gt_t5 123 rfl rfl
theorem sl_X8_tryLayer : Cond.selects yX8_tryLayer.cls yX8_tryLayer yX8_tryLayer ∈ gt_T := gt_p3 8 rfl
theorem pd_X8_tryLayer : yX8_tryLayer.cls ≠ "java/lang/invoke/MethodHandle" ∧ yX8_tryLayer.cls ≠ "java/lang/invoke/VarHandle" ∧ (parseMethodDescriptor yX8_tryLayer.desc).map (fun d => d.parameters.length) = some 3 := by decide +kernel
theorem cw_X9_hold : Cond.code yX9_hold cX9_hold 9 none ∈ gt_T := gt_t6 16 rfl rfl
theorem im_X9_hold : Cond.instanceMethod yX9_hold ∈ gt_T := gt_t6 14 rfl rfl
theorem sl_X9_hold : Cond.selects yX9_hold.cls yX9_hold yX9_hold ∈ gt_T := gt_t6 15 rfl rfl
theorem pd_X9_hold : yX9_hold.cls ≠ "java/lang/invoke/MethodHandle" ∧ yX9_hold.cls ≠ "java/lang/invoke/VarHandle" ∧ (parseMethodDescriptor yX9_hold.desc).map (fun d => d.parameters.length) = some 4 := by decide +kernel
theorem cw_X9_choose : Cond.code yX9_choose cX9_choose 6 (some .int) ∈ gt_T := gt_t6 21 rfl rfl
theorem im_X9_choose : Cond.instanceMethod yX9_choose ∈ gt_T := gt_t6 20 rfl rfl
theorem sl_X9_choose : Cond.selects yX9_choose.cls yX9_choose yX9_choose ∈ gt_T := gt_p4 6 rfl
theorem pd_X9_choose : yX9_choose.cls ≠ "java/lang/invoke/MethodHandle" ∧ yX9_choose.cls ≠ "java/lang/invoke/VarHandle" ∧ (parseMethodDescriptor yX9_choose.desc).map (fun d => d.parameters.length) = some 5 := by decide +kernel
theorem cw_X9_bestByList : Cond.code yX9_bestByList cX9_bestByList 8 (some .int) ∈ gt_T := gt_t6 25 rfl rfl
theorem im_X9_bestByList : Cond.instanceMethod yX9_bestByList ∈ gt_T := gt_t6 24 rfl rfl
theorem sl_X9_bestByList : Cond.selects yX9_bestByList.cls yX9_bestByList yX9_bestByList ∈ gt_T := gt_p4 7 rfl
theorem pd_X9_bestByList : yX9_bestByList.cls ≠ "java/lang/invoke/MethodHandle" ∧ yX9_bestByList.cls ≠ "java/lang/invoke/VarHandle" ∧ (parseMethodDescriptor yX9_bestByList.desc).map (fun d => d.parameters.length) = some 4 := by decide +kernel
theorem cw_X9_drawnChoice : Cond.code yX9_drawnChoice cX9_drawnChoice 7 (some .int) ∈ gt_T := gt_t6 31 rfl rfl
theorem im_X9_drawnChoice : Cond.instanceMethod yX9_drawnChoice ∈ gt_T := gt_t6 30 rfl rfl
theorem sl_X9_drawnChoice : Cond.selects yX9_drawnChoice.cls yX9_drawnChoice yX9_drawnChoice ∈ gt_T := gt_p4 8 rfl
theorem pd_X9_drawnChoice : yX9_drawnChoice.cls ≠ "java/lang/invoke/MethodHandle" ∧ yX9_drawnChoice.cls ≠ "java/lang/invoke/VarHandle" ∧ (parseMethodDescriptor yX9_drawnChoice.desc).map (fun d => d.parameters.length) = some 2 := by decide +kernel
theorem cw_X10_thing : Cond.code yX10_thing cX10_thing 6 (some .int) ∈ gt_T := gt_t3 86 rfl rfl
theorem im_X10_thing : Cond.instanceMethod yX10_thing ∈ gt_T := gt_t3 84 rfl rfl
theorem sl_X10_thing : Cond.selects yX10_thing.cls yX10_thing yX10_thing ∈ gt_T := gt_t3 85 rfl rfl
theorem pd_X10_thing : yX10_thing.cls ≠ "java/lang/invoke/MethodHandle" ∧ yX10_thing.cls ≠ "java/lang/invoke/VarHandle" ∧ (parseMethodDescriptor yX10_thing.desc).map (fun d => d.parameters.length) = some 4 := by decide +kernel
theorem cw_X10_put : Cond.code yX10_put cX10_put 5 (some .int) ∈ gt_T := gt_t3 108 rfl rfl
theorem im_X10_put : Cond.instanceMethod yX10_put ∈ gt_T := gt_t3 106 rfl rfl
theorem sl_X10_put : Cond.selects yX10_put.cls yX10_put yX10_put ∈ gt_T := gt_t3 107 rfl rfl
theorem pd_X10_put : yX10_put.cls ≠ "java/lang/invoke/MethodHandle" ∧ yX10_put.cls ≠ "java/lang/invoke/VarHandle" ∧ (parseMethodDescriptor yX10_put.desc).map (fun d => d.parameters.length) = some 3 := by decide +kernel
theorem cw_X10_instead : Cond.code yX10_instead cX10_instead 4 (some .int) ∈ gt_T := gt_t3 117 rfl rfl
theorem im_X10_instead : Cond.instanceMethod yX10_instead ∈ gt_T := gt_t3 115 rfl rfl
theorem sl_X10_instead : Cond.selects yX10_instead.cls yX10_instead yX10_instead ∈ gt_T := gt_t3 116 rfl rfl
theorem pd_X10_instead : yX10_instead.cls ≠ "java/lang/invoke/MethodHandle" ∧ yX10_instead.cls ≠ "java/lang/invoke/VarHandle" ∧ (parseMethodDescriptor yX10_instead.desc).map (fun d => d.parameters.length) = some 3 := by decide +kernel
theorem cw_X10_bonus : Cond.code yX10_bonus cX10_bonus 5 (some .int) ∈ gt_T := gt_t3 121 rfl rfl
theorem im_X10_bonus : Cond.instanceMethod yX10_bonus ∈ gt_T := gt_t3 119 rfl rfl
theorem sl_X10_bonus : Cond.selects yX10_bonus.cls yX10_bonus yX10_bonus ∈ gt_T := gt_t3 120 rfl rfl
theorem pd_X10_bonus : yX10_bonus.cls ≠ "java/lang/invoke/MethodHandle" ∧ yX10_bonus.cls ≠ "java/lang/invoke/VarHandle" ∧ (parseMethodDescriptor yX10_bonus.desc).map (fun d => d.parameters.length) = some 3 := by decide +kernel
theorem cw_X10_guest : Cond.code yX10_guest cX10_guest 5 (some .int) ∈ gt_T := gt_t3 125 rfl rfl
theorem im_X10_guest : Cond.instanceMethod yX10_guest ∈ gt_T := gt_t3 123 rfl rfl
theorem sl_X10_guest : Cond.selects yX10_guest.cls yX10_guest yX10_guest ∈ gt_T := gt_t3 124 rfl rfl
theorem pd_X10_guest : yX10_guest.cls ≠ "java/lang/invoke/MethodHandle" ∧ yX10_guest.cls ≠ "java/lang/invoke/VarHandle" ∧ (parseMethodDescriptor yX10_guest.desc).map (fun d => d.parameters.length) = some 4 := by decide +kernel
theorem cw_X10_always : Cond.code yX10_always cX10_always 4 (some .int) ∈ gt_T := gt_t3 136 rfl rfl
theorem im_X10_always : Cond.instanceMethod yX10_always ∈ gt_T := gt_t3 134 rfl rfl
theorem sl_X10_always : Cond.selects yX10_always.cls yX10_always yX10_always ∈ gt_T := gt_t3 135 rfl rfl
theorem pd_X10_always : yX10_always.cls ≠ "java/lang/invoke/MethodHandle" ∧ yX10_always.cls ≠ "java/lang/invoke/VarHandle" ∧ (parseMethodDescriptor yX10_always.desc).map (fun d => d.parameters.length) = some 2 := by decide +kernel
theorem cw_X10_sees : Cond.code yX10_sees cX10_sees 4 (some .int) ∈ gt_T := gt_t3 144 rfl rfl
theorem im_X10_sees : Cond.instanceMethod yX10_sees ∈ gt_T := gt_t3 142 rfl rfl
theorem sl_X10_sees : Cond.selects yX10_sees.cls yX10_sees yX10_sees ∈ gt_T := gt_t3 143 rfl rfl
theorem pd_X10_sees : yX10_sees.cls ≠ "java/lang/invoke/MethodHandle" ∧ yX10_sees.cls ≠ "java/lang/invoke/VarHandle" ∧ (parseMethodDescriptor yX10_sees.desc).map (fun d => d.parameters.length) = some 2 := by decide +kernel
theorem cw_X10_pair : Cond.code yX10_pair cX10_pair 3 (some .int) ∈ gt_T := gt_t3 148 rfl rfl
theorem im_X10_pair : Cond.instanceMethod yX10_pair ∈ gt_T := gt_t3 146 rfl rfl
theorem sl_X10_pair : Cond.selects yX10_pair.cls yX10_pair yX10_pair ∈ gt_T := gt_t3 147 rfl rfl
theorem pd_X10_pair : yX10_pair.cls ≠ "java/lang/invoke/MethodHandle" ∧ yX10_pair.cls ≠ "java/lang/invoke/VarHandle" ∧ (parseMethodDescriptor yX10_pair.desc).map (fun d => d.parameters.length) = some 2 := by decide +kernel
theorem cw_X10_coin : Cond.code yX10_coin cX10_coin 3 (some .int) ∈ gt_T := gt_t3 160 rfl rfl
theorem im_X10_coin : Cond.instanceMethod yX10_coin ∈ gt_T := gt_t3 158 rfl rfl
theorem sl_X10_coin : Cond.selects yX10_coin.cls yX10_coin yX10_coin ∈ gt_T := gt_t3 159 rfl rfl
theorem pd_X10_coin : yX10_coin.cls ≠ "java/lang/invoke/MethodHandle" ∧ yX10_coin.cls ≠ "java/lang/invoke/VarHandle" ∧ (parseMethodDescriptor yX10_coin.desc).map (fun d => d.parameters.length) = some 1 := by decide +kernel
theorem cw_X10_of : Cond.code yX10_of cX10_of 3 (some .int) ∈ gt_T := gt_t3 164 rfl rfl
theorem im_X10_of : Cond.instanceMethod yX10_of ∈ gt_T := gt_t3 162 rfl rfl
theorem sl_X10_of : Cond.selects yX10_of.cls yX10_of yX10_of ∈ gt_T := gt_t3 163 rfl rfl
theorem pd_X10_of : yX10_of.cls ≠ "java/lang/invoke/MethodHandle" ∧ yX10_of.cls ≠ "java/lang/invoke/VarHandle" ∧ (parseMethodDescriptor yX10_of.desc).map (fun d => d.parameters.length) = some 2 := by decide +kernel
theorem cw_X10_feed : Cond.code yX10_feed cX10_feed 6 (some .int) ∈ gt_T := gt_t3 176 rfl rfl
theorem im_X10_feed : Cond.instanceMethod yX10_feed ∈ gt_T := gt_t3 174 rfl rfl
theorem sl_X10_feed : Cond.selects yX10_feed.cls yX10_feed yX10_feed ∈ gt_T := gt_t3 175 rfl rfl
theorem pd_X10_feed : yX10_feed.cls ≠ "java/lang/invoke/MethodHandle" ∧ yX10_feed.cls ≠ "java/lang/invoke/VarHandle" ∧ (parseMethodDescriptor yX10_feed.desc).map (fun d => d.parameters.length) = some 5 := by decide +kernel
theorem cw_X10_end : Cond.code yX10_end cX10_end 2 (some .int) ∈ gt_T := gt_t3 184 rfl rfl
theorem im_X10_end : Cond.instanceMethod yX10_end ∈ gt_T := gt_t3 182 rfl rfl
theorem sl_X10_end : Cond.selects yX10_end.cls yX10_end yX10_end ∈ gt_T := gt_t3 183 rfl rfl
theorem pd_X10_end : yX10_end.cls ≠ "java/lang/invoke/MethodHandle" ∧ yX10_end.cls ≠ "java/lang/invoke/VarHandle" ∧ (parseMethodDescriptor yX10_end.desc).map (fun d => d.parameters.length) = some 1 := by decide +kernel
theorem cw_X10_row : Cond.code yX10_row cX10_row 4 (some .int) ∈ gt_T := gt_t3 188 rfl rfl
theorem im_X10_row : Cond.instanceMethod yX10_row ∈ gt_T := gt_t3 186 rfl rfl
theorem sl_X10_row : Cond.selects yX10_row.cls yX10_row yX10_row ∈ gt_T := gt_t3 187 rfl rfl
theorem pd_X10_row : yX10_row.cls ≠ "java/lang/invoke/MethodHandle" ∧ yX10_row.cls ≠ "java/lang/invoke/VarHandle" ∧ (parseMethodDescriptor yX10_row.desc).map (fun d => d.parameters.length) = some 0 := by decide +kernel
theorem cw_X10_late : Cond.code yX10_late cX10_late 1 (some .int) ∈ gt_T := gt_t3 192 rfl rfl
theorem im_X10_late : Cond.instanceMethod yX10_late ∈ gt_T := gt_t3 190 rfl rfl
theorem sl_X10_late : Cond.selects yX10_late.cls yX10_late yX10_late ∈ gt_T := gt_t3 191 rfl rfl
theorem pd_X10_late : yX10_late.cls ≠ "java/lang/invoke/MethodHandle" ∧ yX10_late.cls ≠ "java/lang/invoke/VarHandle" ∧ (parseMethodDescriptor yX10_late.desc).map (fun d => d.parameters.length) = some 0 := by decide +kernel
theorem cw_X10_fault : Cond.code yX10_fault cX10_fault 1 (some .int) ∈ gt_T := gt_t4 113 rfl rfl
theorem im_X10_fault : Cond.instanceMethod yX10_fault ∈ gt_T := gt_t4 111 rfl rfl
theorem sl_X10_fault : Cond.selects yX10_fault.cls yX10_fault yX10_fault ∈ gt_T := gt_t4 112 rfl rfl
theorem pd_X10_fault : yX10_fault.cls ≠ "java/lang/invoke/MethodHandle" ∧ yX10_fault.cls ≠ "java/lang/invoke/VarHandle" ∧ (parseMethodDescriptor yX10_fault.desc).map (fun d => d.parameters.length) = some 0 := by decide +kernel
theorem cw_X10_way : Cond.code yX10_way cX10_way 4 (some .int) ∈ gt_T := gt_t4 117 rfl rfl
theorem im_X10_way : Cond.instanceMethod yX10_way ∈ gt_T := gt_t4 115 rfl rfl
theorem sl_X10_way : Cond.selects yX10_way.cls yX10_way yX10_way ∈ gt_T := gt_t4 116 rfl rfl
theorem pd_X10_way : yX10_way.cls ≠ "java/lang/invoke/MethodHandle" ∧ yX10_way.cls ≠ "java/lang/invoke/VarHandle" ∧ (parseMethodDescriptor yX10_way.desc).map (fun d => d.parameters.length) = some 2 := by decide +kernel
theorem cw_X10_weight : Cond.code yX10_weight cX10_weight 5 (some .int) ∈ gt_T := gt_t4 121 rfl rfl
theorem im_X10_weight : Cond.instanceMethod yX10_weight ∈ gt_T := gt_t4 119 rfl rfl
theorem sl_X10_weight : Cond.selects yX10_weight.cls yX10_weight yX10_weight ∈ gt_T := gt_t4 120 rfl rfl
theorem pd_X10_weight : yX10_weight.cls ≠ "java/lang/invoke/MethodHandle" ∧ yX10_weight.cls ≠ "java/lang/invoke/VarHandle" ∧ (parseMethodDescriptor yX10_weight.desc).map (fun d => d.parameters.length) = some 3 := by decide +kernel
theorem cw_X10_heap : Cond.code yX10_heap cX10_heap 6 (some .int) ∈ gt_T := gt_t4 183 rfl rfl
theorem im_X10_heap : Cond.instanceMethod yX10_heap ∈ gt_T := gt_t4 181 rfl rfl
theorem sl_X10_heap : Cond.selects yX10_heap.cls yX10_heap yX10_heap ∈ gt_T := gt_t4 182 rfl rfl
theorem pd_X10_heap : yX10_heap.cls ≠ "java/lang/invoke/MethodHandle" ∧ yX10_heap.cls ≠ "java/lang/invoke/VarHandle" ∧ (parseMethodDescriptor yX10_heap.desc).map (fun d => d.parameters.length) = some 5 := by decide +kernel
theorem cw_X10_mean : Cond.code yX10_mean cX10_mean 2 (some .int) ∈ gt_T := gt_t4 205 rfl rfl
theorem im_X10_mean : Cond.instanceMethod yX10_mean ∈ gt_T := gt_t4 203 rfl rfl
theorem sl_X10_mean : Cond.selects yX10_mean.cls yX10_mean yX10_mean ∈ gt_T := gt_t4 204 rfl rfl
theorem pd_X10_mean : yX10_mean.cls ≠ "java/lang/invoke/MethodHandle" ∧ yX10_mean.cls ≠ "java/lang/invoke/VarHandle" ∧ (parseMethodDescriptor yX10_mean.desc).map (fun d => d.parameters.length) = some 1 := by decide +kernel
theorem cw_X10_none : Cond.code yX10_none cX10_none 2 (some .int) ∈ gt_T := gt_t5 57 rfl rfl
theorem im_X10_none : Cond.instanceMethod yX10_none ∈ gt_T := gt_t5 55 rfl rfl
theorem sl_X10_none : Cond.selects yX10_none.cls yX10_none yX10_none ∈ gt_T := gt_t5 56 rfl rfl
theorem pd_X10_none : yX10_none.cls ≠ "java/lang/invoke/MethodHandle" ∧ yX10_none.cls ≠ "java/lang/invoke/VarHandle" ∧ (parseMethodDescriptor yX10_none.desc).map (fun d => d.parameters.length) = some 1 := by decide +kernel
theorem cw_X10_together : Cond.code yX10_together cX10_together 2 (some .int) ∈ gt_T := gt_t5 65 rfl rfl
theorem im_X10_together : Cond.instanceMethod yX10_together ∈ gt_T := gt_t5 63 rfl rfl
theorem sl_X10_together : Cond.selects yX10_together.cls yX10_together yX10_together ∈ gt_T := gt_t5 64 rfl rfl
theorem pd_X10_together : yX10_together.cls ≠ "java/lang/invoke/MethodHandle" ∧ yX10_together.cls ≠ "java/lang/invoke/VarHandle" ∧ (parseMethodDescriptor yX10_together.desc).map (fun d => d.parameters.length) = some 1 := by decide +kernel
theorem cw_X10_brings : Cond.code yX10_brings cX10_brings 3 (some .int) ∈ gt_T := gt_t5 111 rfl rfl
theorem im_X10_brings : Cond.instanceMethod yX10_brings ∈ gt_T := gt_t5 109 rfl rfl
theorem sl_X10_brings : Cond.selects yX10_brings.cls yX10_brings yX10_brings ∈ gt_T := gt_t5 110 rfl rfl
theorem pd_X10_brings : yX10_brings.cls ≠ "java/lang/invoke/MethodHandle" ∧ yX10_brings.cls ≠ "java/lang/invoke/VarHandle" ∧ (parseMethodDescriptor yX10_brings.desc).map (fun d => d.parameters.length) = some 1 := by decide +kernel
theorem cw_X10_dear : Cond.code yX10_dear cX10_dear 4 (some .int) ∈ gt_T := gt_t5 115 rfl rfl
theorem im_X10_dear : Cond.instanceMethod yX10_dear ∈ gt_T := gt_t5 113 rfl rfl
theorem sl_X10_dear : Cond.selects yX10_dear.cls yX10_dear yX10_dear ∈ gt_T := gt_t5 114 rfl rfl
theorem pd_X10_dear : yX10_dear.cls ≠ "java/lang/invoke/MethodHandle" ∧ yX10_dear.cls ≠ "java/lang/invoke/VarHandle" ∧ (parseMethodDescriptor yX10_dear.desc).map (fun d => d.parameters.length) = some 2 := by decide +kernel
theorem cw_X10_loss : Cond.code yX10_loss cX10_loss 1 (some .int) ∈ gt_T := gt_t5 129 rfl rfl
theorem im_X10_loss : Cond.instanceMethod yX10_loss ∈ gt_T := gt_t5 127 rfl rfl
theorem sl_X10_loss : Cond.selects yX10_loss.cls yX10_loss yX10_loss ∈ gt_T := gt_t5 128 rfl rfl
theorem pd_X10_loss : yX10_loss.cls ≠ "java/lang/invoke/MethodHandle" ∧ yX10_loss.cls ≠ "java/lang/invoke/VarHandle" ∧ (parseMethodDescriptor yX10_loss.desc).map (fun d => d.parameters.length) = some 0 := by decide +kernel
theorem cw_X10_blind : Cond.code yX10_blind cX10_blind 3 (some .int) ∈ gt_T := gt_t5 133 rfl rfl
theorem im_X10_blind : Cond.instanceMethod yX10_blind ∈ gt_T := gt_t5 131 rfl rfl
theorem sl_X10_blind : Cond.selects yX10_blind.cls yX10_blind yX10_blind ∈ gt_T := gt_t5 132 rfl rfl
theorem pd_X10_blind : yX10_blind.cls ≠ "java/lang/invoke/MethodHandle" ∧ yX10_blind.cls ≠ "java/lang/invoke/VarHandle" ∧ (parseMethodDescriptor yX10_blind.desc).map (fun d => d.parameters.length) = some 2 := by decide +kernel
theorem cw_X10_rule : Cond.code yX10_rule cX10_rule 2 (some .int) ∈ gt_T := gt_t5 186 rfl rfl
theorem im_X10_rule : Cond.instanceMethod yX10_rule ∈ gt_T := gt_t5 184 rfl rfl
theorem sl_X10_rule : Cond.selects yX10_rule.cls yX10_rule yX10_rule ∈ gt_T := gt_t5 185 rfl rfl
theorem pd_X10_rule : yX10_rule.cls ≠ "java/lang/invoke/MethodHandle" ∧ yX10_rule.cls ≠ "java/lang/invoke/VarHandle" ∧ (parseMethodDescriptor yX10_rule.desc).map (fun d => d.parameters.length) = some 1 := by decide +kernel
theorem cw_X10_letters : Cond.code yX10_letters cX10_letters 7 (some .int) ∈ gt_T := gt_t5 213 rfl rfl
theorem im_X10_letters : Cond.instanceMethod yX10_letters ∈ gt_T := gt_t5 211 rfl rfl
theorem sl_X10_letters : Cond.selects yX10_letters.cls yX10_letters yX10_letters ∈ gt_T := gt_t5 212 rfl rfl
theorem pd_X10_letters : yX10_letters.cls ≠ "java/lang/invoke/MethodHandle" ∧ yX10_letters.cls ≠ "java/lang/invoke/VarHandle" ∧ (parseMethodDescriptor yX10_letters.desc).map (fun d => d.parameters.length) = some 4 := by decide +kernel
theorem cw_X10_rest : Cond.code yX10_rest cX10_rest 2 (some .int) ∈ gt_T := gt_t5 223 rfl rfl
theorem im_X10_rest : Cond.instanceMethod yX10_rest ∈ gt_T := gt_t5 221 rfl rfl
theorem sl_X10_rest : Cond.selects yX10_rest.cls yX10_rest yX10_rest ∈ gt_T := gt_t5 222 rfl rfl
theorem pd_X10_rest : yX10_rest.cls ≠ "java/lang/invoke/MethodHandle" ∧ yX10_rest.cls ≠ "java/lang/invoke/VarHandle" ∧ (parseMethodDescriptor yX10_rest.desc).map (fun d => d.parameters.length) = some 1 := by decide +kernel
theorem cw_X10_find : Cond.code yX10_find cX10_find 3 (some .int) ∈ gt_T := gt_t6 7 rfl rfl
theorem im_X10_find : Cond.instanceMethod yX10_find ∈ gt_T := gt_t6 5 rfl rfl
theorem sl_X10_find : Cond.selects yX10_find.cls yX10_find yX10_find ∈ gt_T := gt_t6 6 rfl rfl
theorem pd_X10_find : yX10_find.cls ≠ "java/lang/invoke/MethodHandle" ∧ yX10_find.cls ≠ "java/lang/invoke/VarHandle" ∧ (parseMethodDescriptor yX10_find.desc).map (fun d => d.parameters.length) = some 1 := by decide +kernel
theorem cw_X10_wed : Cond.code yX10_wed cX10_wed 2 (some .int) ∈ gt_T := gt_t6 11 rfl rfl
theorem im_X10_wed : Cond.instanceMethod yX10_wed ∈ gt_T := gt_t6 9 rfl rfl
theorem sl_X10_wed : Cond.selects yX10_wed.cls yX10_wed yX10_wed ∈ gt_T := gt_t6 10 rfl rfl
theorem pd_X10_wed : yX10_wed.cls ≠ "java/lang/invoke/MethodHandle" ∧ yX10_wed.cls ≠ "java/lang/invoke/VarHandle" ∧ (parseMethodDescriptor yX10_wed.desc).map (fun d => d.parameters.length) = some 1 := by decide +kernel
theorem cw_X10_had : Cond.code yX10_had cX10_had 2 (some .int) ∈ gt_T := gt_t6 39 rfl rfl
theorem im_X10_had : Cond.instanceMethod yX10_had ∈ gt_T := gt_t6 37 rfl rfl
theorem sl_X10_had : Cond.selects yX10_had.cls yX10_had yX10_had ∈ gt_T := gt_t6 38 rfl rfl
theorem pd_X10_had : yX10_had.cls ≠ "java/lang/invoke/MethodHandle" ∧ yX10_had.cls ≠ "java/lang/invoke/VarHandle" ∧ (parseMethodDescriptor yX10_had.desc).map (fun d => d.parameters.length) = some 1 := by decide +kernel
theorem cw_X10_brought : Cond.code yX10_brought cX10_brought 2 (some .int) ∈ gt_T := gt_t6 43 rfl rfl
theorem im_X10_brought : Cond.instanceMethod yX10_brought ∈ gt_T := gt_t6 41 rfl rfl
theorem sl_X10_brought : Cond.selects yX10_brought.cls yX10_brought yX10_brought ∈ gt_T := gt_t6 42 rfl rfl
theorem pd_X10_brought : yX10_brought.cls ≠ "java/lang/invoke/MethodHandle" ∧ yX10_brought.cls ≠ "java/lang/invoke/VarHandle" ∧ (parseMethodDescriptor yX10_brought.desc).map (fun d => d.parameters.length) = some 1 := by decide +kernel
theorem cw_X10_round : Cond.code yX10_round cX10_round 6 (some .int) ∈ gt_T := gt_t6 47 rfl rfl
theorem im_X10_round : Cond.instanceMethod yX10_round ∈ gt_T := gt_t6 45 rfl rfl
theorem sl_X10_round : Cond.selects yX10_round.cls yX10_round yX10_round ∈ gt_T := gt_t6 46 rfl rfl
theorem pd_X10_round : yX10_round.cls ≠ "java/lang/invoke/MethodHandle" ∧ yX10_round.cls ≠ "java/lang/invoke/VarHandle" ∧ (parseMethodDescriptor yX10_round.desc).map (fun d => d.parameters.length) = some 2 := by decide +kernel
theorem cw_X10_change : Cond.code yX10_change cX10_change 7 (some .int) ∈ gt_T := gt_t6 51 rfl rfl
theorem im_X10_change : Cond.instanceMethod yX10_change ∈ gt_T := gt_t6 49 rfl rfl
theorem sl_X10_change : Cond.selects yX10_change.cls yX10_change yX10_change ∈ gt_T := gt_t6 50 rfl rfl
theorem pd_X10_change : yX10_change.cls ≠ "java/lang/invoke/MethodHandle" ∧ yX10_change.cls ≠ "java/lang/invoke/VarHandle" ∧ (parseMethodDescriptor yX10_change.desc).map (fun d => d.parameters.length) = some 6 := by decide +kernel
theorem cw_X10_sure : Cond.code yX10_sure cX10_sure 3 (some .int) ∈ gt_T := gt_t6 63 rfl rfl
theorem im_X10_sure : Cond.instanceMethod yX10_sure ∈ gt_T := gt_t6 61 rfl rfl
theorem sl_X10_sure : Cond.selects yX10_sure.cls yX10_sure yX10_sure ∈ gt_T := gt_t6 62 rfl rfl
theorem pd_X10_sure : yX10_sure.cls ≠ "java/lang/invoke/MethodHandle" ∧ yX10_sure.cls ≠ "java/lang/invoke/VarHandle" ∧ (parseMethodDescriptor yX10_sure.desc).map (fun d => d.parameters.length) = some 1 := by decide +kernel
theorem cw_X10_image : Cond.code yX10_image cX10_image 2 (some .int) ∈ gt_T := gt_t6 75 rfl rfl
theorem im_X10_image : Cond.instanceMethod yX10_image ∈ gt_T := gt_t6 73 rfl rfl
theorem sl_X10_image : Cond.selects yX10_image.cls yX10_image yX10_image ∈ gt_T := gt_t6 74 rfl rfl
theorem pd_X10_image : yX10_image.cls ≠ "java/lang/invoke/MethodHandle" ∧ yX10_image.cls ≠ "java/lang/invoke/VarHandle" ∧ (parseMethodDescriptor yX10_image.desc).map (fun d => d.parameters.length) = some 1 := by decide +kernel
theorem cw_X10_back : Cond.code yX10_back cX10_back 2 (some .int) ∈ gt_T := gt_t6 84 rfl rfl
theorem im_X10_back : Cond.instanceMethod yX10_back ∈ gt_T := gt_t6 82 rfl rfl
theorem sl_X10_back : Cond.selects yX10_back.cls yX10_back yX10_back ∈ gt_T := gt_t6 83 rfl rfl
theorem pd_X10_back : yX10_back.cls ≠ "java/lang/invoke/MethodHandle" ∧ yX10_back.cls ≠ "java/lang/invoke/VarHandle" ∧ (parseMethodDescriptor yX10_back.desc).map (fun d => d.parameters.length) = some 1 := by decide +kernel
theorem cw_X10_count : Cond.code yX10_count cX10_count 2 (some .int) ∈ gt_T := gt_t6 88 rfl rfl
theorem im_X10_count : Cond.instanceMethod yX10_count ∈ gt_T := gt_t6 86 rfl rfl
theorem sl_X10_count : Cond.selects yX10_count.cls yX10_count yX10_count ∈ gt_T := gt_t6 87 rfl rfl
theorem pd_X10_count : yX10_count.cls ≠ "java/lang/invoke/MethodHandle" ∧ yX10_count.cls ≠ "java/lang/invoke/VarHandle" ∧ (parseMethodDescriptor yX10_count.desc).map (fun d => d.parameters.length) = some 1 := by decide +kernel
theorem cw_X10_status : Cond.code yX10_status cX10_status 1 (some .int) ∈ gt_T := gt_t6 97 rfl rfl
theorem im_X10_status : Cond.instanceMethod yX10_status ∈ gt_T := gt_t6 95 rfl rfl
theorem sl_X10_status : Cond.selects yX10_status.cls yX10_status yX10_status ∈ gt_T := gt_t6 96 rfl rfl
theorem pd_X10_status : yX10_status.cls ≠ "java/lang/invoke/MethodHandle" ∧ yX10_status.cls ≠ "java/lang/invoke/VarHandle" ∧ (parseMethodDescriptor yX10_status.desc).map (fun d => d.parameters.length) = some 0 := by decide +kernel
theorem cw_X10_within : Cond.code yX10_within cX10_within 3 (some .boolean) ∈ gt_T := gt_t3 92 rfl rfl
theorem st_X10_within : Cond.static yX10_within ∈ gt_T := gt_t3 91 rfl rfl
theorem pd_X10_within : yX10_within.cls ≠ "java/lang/invoke/MethodHandle" ∧ yX10_within.cls ≠ "java/lang/invoke/VarHandle" ∧ (parseMethodDescriptor yX10_within.desc).map (fun d => d.parameters.length) = some 3 := by decide +kernel
theorem cw_X10_thingFactCanBe : Cond.code yX10_thingFactCanBe cX10_thingFactCanBe 2 (some .boolean) ∈ gt_T := gt_t3 89 rfl rfl
theorem st_X10_thingFactCanBe : Cond.static yX10_thingFactCanBe ∈ gt_T := gt_t3 88 rfl rfl
theorem pd_X10_thingFactCanBe : yX10_thingFactCanBe.cls ≠ "java/lang/invoke/MethodHandle" ∧ yX10_thingFactCanBe.cls ≠ "java/lang/invoke/VarHandle" ∧ (parseMethodDescriptor yX10_thingFactCanBe.desc).map (fun d => d.parameters.length) = some 2 := by decide +kernel
theorem cw_X10_guestCanBe : Cond.code yX10_guestCanBe cX10_guestCanBe 4 (some .boolean) ∈ gt_T := gt_t3 128 rfl rfl
theorem st_X10_guestCanBe : Cond.static yX10_guestCanBe ∈ gt_T := gt_t3 127 rfl rfl
theorem pd_X10_guestCanBe : yX10_guestCanBe.cls ≠ "java/lang/invoke/MethodHandle" ∧ yX10_guestCanBe.cls ≠ "java/lang/invoke/VarHandle" ∧ (parseMethodDescriptor yX10_guestCanBe.desc).map (fun d => d.parameters.length) = some 4 := by decide +kernel
theorem cw_X10_refuse : Cond.code yX10_refuse cX10_refuse 2 (some .int) ∈ gt_T := gt_t3 96 rfl rfl
theorem im_X10_refuse : Cond.instanceMethod yX10_refuse ∈ gt_T := gt_t3 95 rfl rfl
theorem sl_X10_refuse : Cond.selects yX10_refuse.cls yX10_refuse yX10_refuse ∈ gt_T := gt_p1 0 rfl
theorem pd_X10_refuse : yX10_refuse.cls ≠ "java/lang/invoke/MethodHandle" ∧ yX10_refuse.cls ≠ "java/lang/invoke/VarHandle" ∧ (parseMethodDescriptor yX10_refuse.desc).map (fun d => d.parameters.length) = some 1 := by decide +kernel
theorem cw_X10_accept : Cond.code yX10_accept cX10_accept 2 (some .int) ∈ gt_T := gt_t3 104 rfl rfl
theorem im_X10_accept : Cond.instanceMethod yX10_accept ∈ gt_T := gt_t3 103 rfl rfl
theorem sl_X10_accept : Cond.selects yX10_accept.cls yX10_accept yX10_accept ∈ gt_T := gt_p1 2 rfl
theorem pd_X10_accept : yX10_accept.cls ≠ "java/lang/invoke/MethodHandle" ∧ yX10_accept.cls ≠ "java/lang/invoke/VarHandle" ∧ (parseMethodDescriptor yX10_accept.desc).map (fun d => d.parameters.length) = some 1 := by decide +kernel
theorem cw_X10_altered : Cond.code yX10_altered cX10_altered 2 (some .int) ∈ gt_T := gt_t3 100 rfl rfl
theorem im_X10_altered : Cond.instanceMethod yX10_altered ∈ gt_T := gt_t3 99 rfl rfl
theorem sl_X10_altered : Cond.selects yX10_altered.cls yX10_altered yX10_altered ∈ gt_T := gt_p1 1 rfl
theorem pd_X10_altered : yX10_altered.cls ≠ "java/lang/invoke/MethodHandle" ∧ yX10_altered.cls ≠ "java/lang/invoke/VarHandle" ∧ (parseMethodDescriptor yX10_altered.desc).map (fun d => d.parameters.length) = some 1 := by decide +kernel
theorem cw_X10_feedFour : Cond.code yX10_feedFour cX10_feedFour 3 none ∈ gt_T := gt_t3 180 rfl rfl
theorem im_X10_feedFour : Cond.instanceMethod yX10_feedFour ∈ gt_T := gt_t3 179 rfl rfl
theorem sl_X10_feedFour : Cond.selects yX10_feedFour.cls yX10_feedFour yX10_feedFour ∈ gt_T := gt_p1 3 rfl
theorem pd_X10_feedFour : yX10_feedFour.cls ≠ "java/lang/invoke/MethodHandle" ∧ yX10_feedFour.cls ≠ "java/lang/invoke/VarHandle" ∧ (parseMethodDescriptor yX10_feedFour.desc).map (fun d => d.parameters.length) = some 1 := by decide +kernel
theorem cw_X10_giverOf : Cond.code yX10_giverOf cX10_giverOf 2 (some .int) ∈ gt_T := gt_t4 125 rfl rfl
theorem im_X10_giverOf : Cond.instanceMethod yX10_giverOf ∈ gt_T := gt_t4 124 rfl rfl
theorem sl_X10_giverOf : Cond.selects yX10_giverOf.cls yX10_giverOf yX10_giverOf ∈ gt_T := gt_p2 4 rfl
theorem pd_X10_giverOf : yX10_giverOf.cls ≠ "java/lang/invoke/MethodHandle" ∧ yX10_giverOf.cls ≠ "java/lang/invoke/VarHandle" ∧ (parseMethodDescriptor yX10_giverOf.desc).map (fun d => d.parameters.length) = some 1 := by decide +kernel
theorem cw_X10_isChoice : Cond.code yX10_isChoice cX10_isChoice 2 (some .boolean) ∈ gt_T := gt_t4 143 rfl rfl
theorem im_X10_isChoice : Cond.instanceMethod yX10_isChoice ∈ gt_T := gt_t4 142 rfl rfl
theorem sl_X10_isChoice : Cond.selects yX10_isChoice.cls yX10_isChoice yX10_isChoice ∈ gt_T := gt_p2 6 rfl
theorem pd_X10_isChoice : yX10_isChoice.cls ≠ "java/lang/invoke/MethodHandle" ∧ yX10_isChoice.cls ≠ "java/lang/invoke/VarHandle" ∧ (parseMethodDescriptor yX10_isChoice.desc).map (fun d => d.parameters.length) = some 1 := by decide +kernel
theorem cw_X10_fillTold : Cond.code yX10_fillTold cX10_fillTold 5 none ∈ gt_T := gt_t4 191 rfl rfl
theorem im_X10_fillTold : Cond.instanceMethod yX10_fillTold ∈ gt_T := gt_t4 190 rfl rfl
theorem sl_X10_fillTold : Cond.selects yX10_fillTold.cls yX10_fillTold yX10_fillTold ∈ gt_T := gt_p2 10 rfl
theorem pd_X10_fillTold : yX10_fillTold.cls ≠ "java/lang/invoke/MethodHandle" ∧ yX10_fillTold.cls ≠ "java/lang/invoke/VarHandle" ∧ (parseMethodDescriptor yX10_fillTold.desc).map (fun d => d.parameters.length) = some 4 := by decide +kernel
theorem cw_X10_tellHeap : Cond.code yX10_tellHeap cX10_tellHeap 6 (some .boolean) ∈ gt_T := gt_t4 187 rfl rfl
theorem im_X10_tellHeap : Cond.instanceMethod yX10_tellHeap ∈ gt_T := gt_t4 186 rfl rfl
theorem sl_X10_tellHeap : Cond.selects yX10_tellHeap.cls yX10_tellHeap yX10_tellHeap ∈ gt_T := gt_p2 9 rfl
theorem pd_X10_tellHeap : yX10_tellHeap.cls ≠ "java/lang/invoke/MethodHandle" ∧ yX10_tellHeap.cls ≠ "java/lang/invoke/VarHandle" ∧ (parseMethodDescriptor yX10_tellHeap.desc).map (fun d => d.parameters.length) = some 4 := by decide +kernel
theorem cw_X10_workMean : Cond.code yX10_workMean cX10_workMean 1 none ∈ gt_T := gt_t4 209 rfl rfl
theorem im_X10_workMean : Cond.instanceMethod yX10_workMean ∈ gt_T := gt_t4 208 rfl rfl
theorem sl_X10_workMean : Cond.selects yX10_workMean.cls yX10_workMean yX10_workMean ∈ gt_T := gt_p2 12 rfl
theorem pd_X10_workMean : yX10_workMean.cls ≠ "java/lang/invoke/MethodHandle" ∧ yX10_workMean.cls ≠ "java/lang/invoke/VarHandle" ∧ (parseMethodDescriptor yX10_workMean.desc).map (fun d => d.parameters.length) = some 0 := by decide +kernel
theorem cw_X10_speakOut : Cond.code yX10_speakOut cX10_speakOut 1 none ∈ gt_T := gt_t5 69 rfl rfl
theorem im_X10_speakOut : Cond.instanceMethod yX10_speakOut ∈ gt_T := gt_t5 68 rfl rfl
theorem sl_X10_speakOut : Cond.selects yX10_speakOut.cls yX10_speakOut yX10_speakOut ∈ gt_T := gt_p3 4 rfl
theorem pd_X10_speakOut : yX10_speakOut.cls ≠ "java/lang/invoke/MethodHandle" ∧ yX10_speakOut.cls ≠ "java/lang/invoke/VarHandle" ∧ (parseMethodDescriptor yX10_speakOut.desc).map (fun d => d.parameters.length) = some 0 := by decide +kernel
theorem cw_X10_settle : Cond.code yX10_settle cX10_settle 1 none ∈ gt_T := gt_t5 227 rfl rfl
theorem im_X10_settle : Cond.instanceMethod yX10_settle ∈ gt_T := gt_t5 226 rfl rfl
theorem sl_X10_settle : Cond.selects yX10_settle.cls yX10_settle yX10_settle ∈ gt_T := gt_p4 2 rfl
theorem pd_X10_settle : yX10_settle.cls ≠ "java/lang/invoke/MethodHandle" ∧ yX10_settle.cls ≠ "java/lang/invoke/VarHandle" ∧ (parseMethodDescriptor yX10_settle.desc).map (fun d => d.parameters.length) = some 0 := by decide +kernel
theorem cw_X11_in : Cond.code yX11_in cX11_in 6 (some .boolean) ∈ gt_T := gt_t7 88 rfl rfl
theorem st_X11_in : Cond.static yX11_in ∈ gt_T := gt_t7 87 rfl rfl
theorem pd_X11_in : yX11_in.cls ≠ "java/lang/invoke/MethodHandle" ∧ yX11_in.cls ≠ "java/lang/invoke/VarHandle" ∧ (parseMethodDescriptor yX11_in.desc).map (fun d => d.parameters.length) = some 3 := by decide +kernel
theorem cw_X11_tell : Cond.code yX11_tell cX11_tell 2 (some .int) ∈ gt_T := gt_t7 92 rfl rfl
theorem im_X11_tell : Cond.instanceMethod yX11_tell ∈ gt_T := gt_t7 91 rfl rfl
theorem sl_X11_tell : Cond.selects yX11_tell.cls yX11_tell yX11_tell ∈ gt_T := gt_p4 11 rfl
theorem pd_X11_tell : yX11_tell.cls ≠ "java/lang/invoke/MethodHandle" ∧ yX11_tell.cls ≠ "java/lang/invoke/VarHandle" ∧ (parseMethodDescriptor yX11_tell.desc).map (fun d => d.parameters.length) = some 1 := by decide +kernel
theorem cw_X11_was : Cond.code yX11_was cX11_was 2 (some .int) ∈ gt_T := gt_t7 122 rfl rfl
theorem im_X11_was : Cond.instanceMethod yX11_was ∈ gt_T := gt_t7 121 rfl rfl
theorem sl_X11_was : Cond.selects yX11_was.cls yX11_was yX11_was ∈ gt_T := gt_p4 14 rfl
theorem pd_X11_was : yX11_was.cls ≠ "java/lang/invoke/MethodHandle" ∧ yX11_was.cls ≠ "java/lang/invoke/VarHandle" ∧ (parseMethodDescriptor yX11_was.desc).map (fun d => d.parameters.length) = some 1 := by decide +kernel
theorem cw_X11_change : Cond.code yX11_change cX11_change 4 (some .int) ∈ gt_T := gt_t7 118 rfl rfl
theorem im_X11_change : Cond.instanceMethod yX11_change ∈ gt_T := gt_t7 117 rfl rfl
theorem sl_X11_change : Cond.selects yX11_change.cls yX11_change yX11_change ∈ gt_T := gt_p4 13 rfl
theorem pd_X11_change : yX11_change.cls ≠ "java/lang/invoke/MethodHandle" ∧ yX11_change.cls ≠ "java/lang/invoke/VarHandle" ∧ (parseMethodDescriptor yX11_change.desc).map (fun d => d.parameters.length) = some 2 := by decide +kernel
theorem cw_X11_image : Cond.code yX11_image cX11_image 3 (some .int) ∈ gt_T := gt_t7 85 rfl rfl
theorem im_X11_image : Cond.instanceMethod yX11_image ∈ gt_T := gt_t7 83 rfl rfl
theorem sl_X11_image : Cond.selects yX11_image.cls yX11_image yX11_image ∈ gt_T := gt_t7 84 rfl rfl
theorem pd_X11_image : yX11_image.cls ≠ "java/lang/invoke/MethodHandle" ∧ yX11_image.cls ≠ "java/lang/invoke/VarHandle" ∧ (parseMethodDescriptor yX11_image.desc).map (fun d => d.parameters.length) = some 1 := by decide +kernel
theorem cw_X11_back : Cond.code yX11_back cX11_back 3 (some .int) ∈ gt_T := gt_t7 96 rfl rfl
theorem im_X11_back : Cond.instanceMethod yX11_back ∈ gt_T := gt_t7 94 rfl rfl
theorem sl_X11_back : Cond.selects yX11_back.cls yX11_back yX11_back ∈ gt_T := gt_t7 95 rfl rfl
theorem pd_X11_back : yX11_back.cls ≠ "java/lang/invoke/MethodHandle" ∧ yX11_back.cls ≠ "java/lang/invoke/VarHandle" ∧ (parseMethodDescriptor yX11_back.desc).map (fun d => d.parameters.length) = some 1 := by decide +kernel
theorem cw_X11_isThing : Cond.code yX11_isThing cX11_isThing 2 (some .boolean) ∈ gt_T := gt_t7 114 rfl rfl
theorem im_X11_isThing : Cond.instanceMethod yX11_isThing ∈ gt_T := gt_t7 113 rfl rfl
theorem sl_X11_isThing : Cond.selects yX11_isThing.cls yX11_isThing yX11_isThing ∈ gt_T := gt_p4 12 rfl
theorem pd_X11_isThing : yX11_isThing.cls ≠ "java/lang/invoke/MethodHandle" ∧ yX11_isThing.cls ≠ "java/lang/invoke/VarHandle" ∧ (parseMethodDescriptor yX11_isThing.desc).map (fun d => d.parameters.length) = some 1 := by decide +kernel
theorem cw_X11_isGuest : Cond.code yX11_isGuest cX11_isGuest 2 (some .boolean) ∈ gt_T := gt_t7 152 rfl rfl
theorem im_X11_isGuest : Cond.instanceMethod yX11_isGuest ∈ gt_T := gt_t7 151 rfl rfl
theorem sl_X11_isGuest : Cond.selects yX11_isGuest.cls yX11_isGuest yX11_isGuest ∈ gt_T := gt_p5 0 rfl
theorem pd_X11_isGuest : yX11_isGuest.cls ≠ "java/lang/invoke/MethodHandle" ∧ yX11_isGuest.cls ≠ "java/lang/invoke/VarHandle" ∧ (parseMethodDescriptor yX11_isGuest.desc).map (fun d => d.parameters.length) = some 1 := by decide +kernel
theorem cw_X11_isText : Cond.code yX11_isText cX11_isText 2 (some .boolean) ∈ gt_T := gt_t8 79 rfl rfl
theorem im_X11_isText : Cond.instanceMethod yX11_isText ∈ gt_T := gt_t8 78 rfl rfl
theorem sl_X11_isText : Cond.selects yX11_isText.cls yX11_isText yX11_isText ∈ gt_T := gt_p6 8 rfl
theorem pd_X11_isText : yX11_isText.cls ≠ "java/lang/invoke/MethodHandle" ∧ yX11_isText.cls ≠ "java/lang/invoke/VarHandle" ∧ (parseMethodDescriptor yX11_isText.desc).map (fun d => d.parameters.length) = some 1 := by decide +kernel
theorem cw_X11_fits : Cond.code yX11_fits cX11_fits 2 (some .boolean) ∈ gt_T := gt_t7 103 rfl rfl
theorem st_X11_fits : Cond.static yX11_fits ∈ gt_T := gt_t7 102 rfl rfl
theorem pd_X11_fits : yX11_fits.cls ≠ "java/lang/invoke/MethodHandle" ∧ yX11_fits.cls ≠ "java/lang/invoke/VarHandle" ∧ (parseMethodDescriptor yX11_fits.desc).map (fun d => d.parameters.length) = some 2 := by decide +kernel
theorem cw_X11_ofThing : Cond.code yX11_ofThing cX11_ofThing 3 (some .int) ∈ gt_T := gt_t8 96 rfl rfl
theorem im_X11_ofThing : Cond.instanceMethod yX11_ofThing ∈ gt_T := gt_t8 95 rfl rfl
theorem sl_X11_ofThing : Cond.selects yX11_ofThing.cls yX11_ofThing yX11_ofThing ∈ gt_T := gt_p6 11 rfl
theorem pd_X11_ofThing : yX11_ofThing.cls ≠ "java/lang/invoke/MethodHandle" ∧ yX11_ofThing.cls ≠ "java/lang/invoke/VarHandle" ∧ (parseMethodDescriptor yX11_ofThing.desc).map (fun d => d.parameters.length) = some 2 := by decide +kernel
theorem cw_X11_ofGuest : Cond.code yX11_ofGuest cX11_ofGuest 3 (some .int) ∈ gt_T := gt_t7 164 rfl rfl
theorem im_X11_ofGuest : Cond.instanceMethod yX11_ofGuest ∈ gt_T := gt_t7 163 rfl rfl
theorem sl_X11_ofGuest : Cond.selects yX11_ofGuest.cls yX11_ofGuest yX11_ofGuest ∈ gt_T := gt_p5 1 rfl
theorem pd_X11_ofGuest : yX11_ofGuest.cls ≠ "java/lang/invoke/MethodHandle" ∧ yX11_ofGuest.cls ≠ "java/lang/invoke/VarHandle" ∧ (parseMethodDescriptor yX11_ofGuest.desc).map (fun d => d.parameters.length) = some 2 := by decide +kernel
theorem cw_X11_thing : Cond.code yX11_thing cX11_thing 6 (some .int) ∈ gt_T := gt_t7 100 rfl rfl
theorem im_X11_thing : Cond.instanceMethod yX11_thing ∈ gt_T := gt_t7 98 rfl rfl
theorem sl_X11_thing : Cond.selects yX11_thing.cls yX11_thing yX11_thing ∈ gt_T := gt_t7 99 rfl rfl
theorem pd_X11_thing : yX11_thing.cls ≠ "java/lang/invoke/MethodHandle" ∧ yX11_thing.cls ≠ "java/lang/invoke/VarHandle" ∧ (parseMethodDescriptor yX11_thing.desc).map (fun d => d.parameters.length) = some 4 := by decide +kernel
theorem cw_X11_put : Cond.code yX11_put cX11_put 4 (some .int) ∈ gt_T := gt_t7 110 rfl rfl
theorem im_X11_put : Cond.instanceMethod yX11_put ∈ gt_T := gt_t7 108 rfl rfl
theorem sl_X11_put : Cond.selects yX11_put.cls yX11_put yX11_put ∈ gt_T := gt_t7 109 rfl rfl
theorem pd_X11_put : yX11_put.cls ≠ "java/lang/invoke/MethodHandle" ∧ yX11_put.cls ≠ "java/lang/invoke/VarHandle" ∧ (parseMethodDescriptor yX11_put.desc).map (fun d => d.parameters.length) = some 3 := by decide +kernel
theorem cw_X11_instead : Cond.code yX11_instead cX11_instead 4 (some .int) ∈ gt_T := gt_t7 126 rfl rfl
theorem im_X11_instead : Cond.instanceMethod yX11_instead ∈ gt_T := gt_t7 124 rfl rfl
theorem sl_X11_instead : Cond.selects yX11_instead.cls yX11_instead yX11_instead ∈ gt_T := gt_t7 125 rfl rfl
theorem pd_X11_instead : yX11_instead.cls ≠ "java/lang/invoke/MethodHandle" ∧ yX11_instead.cls ≠ "java/lang/invoke/VarHandle" ∧ (parseMethodDescriptor yX11_instead.desc).map (fun d => d.parameters.length) = some 3 := by decide +kernel
theorem cw_X11_bonus : Cond.code yX11_bonus cX11_bonus 4 (some .int) ∈ gt_T := gt_t7 131 rfl rfl
theorem im_X11_bonus : Cond.instanceMethod yX11_bonus ∈ gt_T := gt_t7 129 rfl rfl
theorem sl_X11_bonus : Cond.selects yX11_bonus.cls yX11_bonus yX11_bonus ∈ gt_T := gt_t7 130 rfl rfl
theorem pd_X11_bonus : yX11_bonus.cls ≠ "java/lang/invoke/MethodHandle" ∧ yX11_bonus.cls ≠ "java/lang/invoke/VarHandle" ∧ (parseMethodDescriptor yX11_bonus.desc).map (fun d => d.parameters.length) = some 3 := by decide +kernel
theorem cw_X11_isNew : Cond.code yX11_isNew cX11_isNew 4 (some .boolean) ∈ gt_T := gt_t7 138 rfl rfl
theorem st_X11_isNew : Cond.static yX11_isNew ∈ gt_T := gt_t7 137 rfl rfl
theorem pd_X11_isNew : yX11_isNew.cls ≠ "java/lang/invoke/MethodHandle" ∧ yX11_isNew.cls ≠ "java/lang/invoke/VarHandle" ∧ (parseMethodDescriptor yX11_isNew.desc).map (fun d => d.parameters.length) = some 4 := by decide +kernel
theorem cw_X11_add : Cond.code yX11_add cX11_add 6 none ∈ gt_T := gt_t7 144 rfl rfl
theorem im_X11_add : Cond.instanceMethod yX11_add ∈ gt_T := gt_t7 143 rfl rfl
theorem sl_X11_add : Cond.selects yX11_add.cls yX11_add yX11_add ∈ gt_T := gt_p4 15 rfl
theorem pd_X11_add : yX11_add.cls ≠ "java/lang/invoke/MethodHandle" ∧ yX11_add.cls ≠ "java/lang/invoke/VarHandle" ∧ (parseMethodDescriptor yX11_add.desc).map (fun d => d.parameters.length) = some 4 := by decide +kernel
theorem cw_X11_guest : Cond.code yX11_guest cX11_guest 5 (some .int) ∈ gt_T := gt_t7 135 rfl rfl
theorem im_X11_guest : Cond.instanceMethod yX11_guest ∈ gt_T := gt_t7 133 rfl rfl
theorem sl_X11_guest : Cond.selects yX11_guest.cls yX11_guest yX11_guest ∈ gt_T := gt_t7 134 rfl rfl
theorem pd_X11_guest : yX11_guest.cls ≠ "java/lang/invoke/MethodHandle" ∧ yX11_guest.cls ≠ "java/lang/invoke/VarHandle" ∧ (parseMethodDescriptor yX11_guest.desc).map (fun d => d.parameters.length) = some 4 := by decide +kernel
theorem cw_X11_always : Cond.code yX11_always cX11_always 3 (some .int) ∈ gt_T := gt_t7 148 rfl rfl
theorem im_X11_always : Cond.instanceMethod yX11_always ∈ gt_T := gt_t7 146 rfl rfl
theorem sl_X11_always : Cond.selects yX11_always.cls yX11_always yX11_always ∈ gt_T := gt_t7 147 rfl rfl
theorem pd_X11_always : yX11_always.cls ≠ "java/lang/invoke/MethodHandle" ∧ yX11_always.cls ≠ "java/lang/invoke/VarHandle" ∧ (parseMethodDescriptor yX11_always.desc).map (fun d => d.parameters.length) = some 2 := by decide +kernel
theorem cw_X11_sees : Cond.code yX11_sees cX11_sees 3 (some .int) ∈ gt_T := gt_t7 156 rfl rfl
theorem im_X11_sees : Cond.instanceMethod yX11_sees ∈ gt_T := gt_t7 154 rfl rfl
theorem sl_X11_sees : Cond.selects yX11_sees.cls yX11_sees yX11_sees ∈ gt_T := gt_t7 155 rfl rfl
theorem pd_X11_sees : yX11_sees.cls ≠ "java/lang/invoke/MethodHandle" ∧ yX11_sees.cls ≠ "java/lang/invoke/VarHandle" ∧ (parseMethodDescriptor yX11_sees.desc).map (fun d => d.parameters.length) = some 2 := by decide +kernel
theorem cw_X11_pair : Cond.code yX11_pair cX11_pair 5 (some .int) ∈ gt_T := gt_t7 160 rfl rfl
theorem im_X11_pair : Cond.instanceMethod yX11_pair ∈ gt_T := gt_t7 158 rfl rfl
theorem sl_X11_pair : Cond.selects yX11_pair.cls yX11_pair yX11_pair ∈ gt_T := gt_t7 159 rfl rfl
theorem pd_X11_pair : yX11_pair.cls ≠ "java/lang/invoke/MethodHandle" ∧ yX11_pair.cls ≠ "java/lang/invoke/VarHandle" ∧ (parseMethodDescriptor yX11_pair.desc).map (fun d => d.parameters.length) = some 2 := by decide +kernel
theorem cw_X11_coin : Cond.code yX11_coin cX11_coin 2 (some .int) ∈ gt_T := gt_t7 168 rfl rfl
theorem im_X11_coin : Cond.instanceMethod yX11_coin ∈ gt_T := gt_t7 166 rfl rfl
theorem sl_X11_coin : Cond.selects yX11_coin.cls yX11_coin yX11_coin ∈ gt_T := gt_t7 167 rfl rfl
theorem pd_X11_coin : yX11_coin.cls ≠ "java/lang/invoke/MethodHandle" ∧ yX11_coin.cls ≠ "java/lang/invoke/VarHandle" ∧ (parseMethodDescriptor yX11_coin.desc).map (fun d => d.parameters.length) = some 1 := by decide +kernel
theorem cw_X11_isGiver : Cond.code yX11_isGiver cX11_isGiver 2 (some .boolean) ∈ gt_T := gt_t7 177 rfl rfl
theorem im_X11_isGiver : Cond.instanceMethod yX11_isGiver ∈ gt_T := gt_t7 176 rfl rfl
theorem sl_X11_isGiver : Cond.selects yX11_isGiver.cls yX11_isGiver yX11_isGiver ∈ gt_T := gt_p5 2 rfl
theorem pd_X11_isGiver : yX11_isGiver.cls ≠ "java/lang/invoke/MethodHandle" ∧ yX11_isGiver.cls ≠ "java/lang/invoke/VarHandle" ∧ (parseMethodDescriptor yX11_isGiver.desc).map (fun d => d.parameters.length) = some 1 := by decide +kernel
theorem cw_X11_pays : Cond.code yX11_pays cX11_pays 3 (some .int) ∈ gt_T := gt_t7 181 rfl rfl
theorem im_X11_pays : Cond.instanceMethod yX11_pays ∈ gt_T := gt_t7 180 rfl rfl
theorem sl_X11_pays : Cond.selects yX11_pays.cls yX11_pays yX11_pays ∈ gt_T := gt_p5 3 rfl
theorem pd_X11_pays : yX11_pays.cls ≠ "java/lang/invoke/MethodHandle" ∧ yX11_pays.cls ≠ "java/lang/invoke/VarHandle" ∧ (parseMethodDescriptor yX11_pays.desc).map (fun d => d.parameters.length) = some 1 := by decide +kernel
theorem cw_X11_givers : Cond.code yX11_givers cX11_givers 3 (some .int) ∈ gt_T := gt_t8 104 rfl rfl
theorem im_X11_givers : Cond.instanceMethod yX11_givers ∈ gt_T := gt_t8 103 rfl rfl
theorem sl_X11_givers : Cond.selects yX11_givers.cls yX11_givers yX11_givers ∈ gt_T := gt_p6 13 rfl
theorem pd_X11_givers : yX11_givers.cls ≠ "java/lang/invoke/MethodHandle" ∧ yX11_givers.cls ≠ "java/lang/invoke/VarHandle" ∧ (parseMethodDescriptor yX11_givers.desc).map (fun d => d.parameters.length) = some 0 := by decide +kernel
theorem cw_X11_of : Cond.code yX11_of cX11_of 3 (some .int) ∈ gt_T := gt_t7 172 rfl rfl
theorem im_X11_of : Cond.instanceMethod yX11_of ∈ gt_T := gt_t7 170 rfl rfl
theorem sl_X11_of : Cond.selects yX11_of.cls yX11_of yX11_of ∈ gt_T := gt_t7 171 rfl rfl
theorem pd_X11_of : yX11_of.cls ≠ "java/lang/invoke/MethodHandle" ∧ yX11_of.cls ≠ "java/lang/invoke/VarHandle" ∧ (parseMethodDescriptor yX11_of.desc).map (fun d => d.parameters.length) = some 2 := by decide +kernel
theorem cw_X11_row : Cond.code yX11_row cX11_row 4 (some .int) ∈ gt_T := gt_t7 185 rfl rfl
theorem im_X11_row : Cond.instanceMethod yX11_row ∈ gt_T := gt_t7 183 rfl rfl
theorem sl_X11_row : Cond.selects yX11_row.cls yX11_row yX11_row ∈ gt_T := gt_t7 184 rfl rfl
theorem pd_X11_row : yX11_row.cls ≠ "java/lang/invoke/MethodHandle" ∧ yX11_row.cls ≠ "java/lang/invoke/VarHandle" ∧ (parseMethodDescriptor yX11_row.desc).map (fun d => d.parameters.length) = some 0 := by decide +kernel
theorem cw_X11_late : Cond.code yX11_late cX11_late 1 (some .int) ∈ gt_T := gt_t7 189 rfl rfl
theorem im_X11_late : Cond.instanceMethod yX11_late ∈ gt_T := gt_t7 187 rfl rfl
theorem sl_X11_late : Cond.selects yX11_late.cls yX11_late yX11_late ∈ gt_T := gt_t7 188 rfl rfl
theorem pd_X11_late : yX11_late.cls ≠ "java/lang/invoke/MethodHandle" ∧ yX11_late.cls ≠ "java/lang/invoke/VarHandle" ∧ (parseMethodDescriptor yX11_late.desc).map (fun d => d.parameters.length) = some 0 := by decide +kernel
theorem cw_X11_four : Cond.code yX11_four cX11_four 3 none ∈ gt_T := gt_t7 197 rfl rfl
theorem im_X11_four : Cond.instanceMethod yX11_four ∈ gt_T := gt_t7 196 rfl rfl
theorem sl_X11_four : Cond.selects yX11_four.cls yX11_four yX11_four ∈ gt_T := gt_p5 4 rfl
theorem pd_X11_four : yX11_four.cls ≠ "java/lang/invoke/MethodHandle" ∧ yX11_four.cls ≠ "java/lang/invoke/VarHandle" ∧ (parseMethodDescriptor yX11_four.desc).map (fun d => d.parameters.length) = some 1 := by decide +kernel
theorem cw_X11_feed : Cond.code yX11_feed cX11_feed 6 (some .int) ∈ gt_T := gt_t7 193 rfl rfl
theorem im_X11_feed : Cond.instanceMethod yX11_feed ∈ gt_T := gt_t7 191 rfl rfl
theorem sl_X11_feed : Cond.selects yX11_feed.cls yX11_feed yX11_feed ∈ gt_T := gt_t7 192 rfl rfl
theorem pd_X11_feed : yX11_feed.cls ≠ "java/lang/invoke/MethodHandle" ∧ yX11_feed.cls ≠ "java/lang/invoke/VarHandle" ∧ (parseMethodDescriptor yX11_feed.desc).map (fun d => d.parameters.length) = some 5 := by decide +kernel
theorem cw_X11_end : Cond.code yX11_end cX11_end 2 (some .int) ∈ gt_T := gt_t7 201 rfl rfl
theorem im_X11_end : Cond.instanceMethod yX11_end ∈ gt_T := gt_t7 199 rfl rfl
theorem sl_X11_end : Cond.selects yX11_end.cls yX11_end yX11_end ∈ gt_T := gt_t7 200 rfl rfl
theorem pd_X11_end : yX11_end.cls ≠ "java/lang/invoke/MethodHandle" ∧ yX11_end.cls ≠ "java/lang/invoke/VarHandle" ∧ (parseMethodDescriptor yX11_end.desc).map (fun d => d.parameters.length) = some 1 := by decide +kernel
theorem cw_X11_isSmall : Cond.code yX11_isSmall cX11_isSmall 1 (some .boolean) ∈ gt_T := gt_t7 220 rfl rfl
theorem st_X11_isSmall : Cond.static yX11_isSmall ∈ gt_T := gt_t7 219 rfl rfl
theorem pd_X11_isSmall : yX11_isSmall.cls ≠ "java/lang/invoke/MethodHandle" ∧ yX11_isSmall.cls ≠ "java/lang/invoke/VarHandle" ∧ (parseMethodDescriptor yX11_isSmall.desc).map (fun d => d.parameters.length) = some 1 := by decide +kernel
theorem cw_X11_isDigit : Cond.code yX11_isDigit cX11_isDigit 1 (some .boolean) ∈ gt_T := gt_t7 223 rfl rfl
theorem st_X11_isDigit : Cond.static yX11_isDigit ∈ gt_T := gt_t7 222 rfl rfl
theorem pd_X11_isDigit : yX11_isDigit.cls ≠ "java/lang/invoke/MethodHandle" ∧ yX11_isDigit.cls ≠ "java/lang/invoke/VarHandle" ∧ (parseMethodDescriptor yX11_isDigit.desc).map (fun d => d.parameters.length) = some 1 := by decide +kernel
theorem cw_X11_begin : Cond.code yX11_begin cX11_begin 1 none ∈ gt_T := gt_t7 213 rfl rfl
theorem im_X11_begin : Cond.instanceMethod yX11_begin ∈ gt_T := gt_t7 212 rfl rfl
theorem sl_X11_begin : Cond.selects yX11_begin.cls yX11_begin yX11_begin ∈ gt_T := gt_p5 5 rfl
theorem pd_X11_begin : yX11_begin.cls ≠ "java/lang/invoke/MethodHandle" ∧ yX11_begin.cls ≠ "java/lang/invoke/VarHandle" ∧ (parseMethodDescriptor yX11_begin.desc).map (fun d => d.parameters.length) = some 0 := by decide +kernel
theorem cw_X11_next : Cond.code yX11_next cX11_next 1 none ∈ gt_T := gt_t7 217 rfl rfl
theorem im_X11_next : Cond.instanceMethod yX11_next ∈ gt_T := gt_t7 216 rfl rfl
theorem sl_X11_next : Cond.selects yX11_next.cls yX11_next yX11_next ∈ gt_T := gt_p5 6 rfl
theorem pd_X11_next : yX11_next.cls ≠ "java/lang/invoke/MethodHandle" ∧ yX11_next.cls ≠ "java/lang/invoke/VarHandle" ∧ (parseMethodDescriptor yX11_next.desc).map (fun d => d.parameters.length) = some 0 := by decide +kernel
theorem cw_X11_isWord : Cond.code yX11_isWord cX11_isWord 3 (some .boolean) ∈ gt_T := gt_t7 238 rfl rfl
theorem im_X11_isWord : Cond.instanceMethod yX11_isWord ∈ gt_T := gt_t7 237 rfl rfl
theorem sl_X11_isWord : Cond.selects yX11_isWord.cls yX11_isWord yX11_isWord ∈ gt_T := gt_p5 8 rfl
theorem pd_X11_isWord : yX11_isWord.cls ≠ "java/lang/invoke/MethodHandle" ∧ yX11_isWord.cls ≠ "java/lang/invoke/VarHandle" ∧ (parseMethodDescriptor yX11_isWord.desc).map (fun d => d.parameters.length) = some 1 := by decide +kernel
theorem cw_X11_isSign : Cond.code yX11_isSign cX11_isSign 2 (some .boolean) ∈ gt_T := gt_t8 20 rfl rfl
theorem im_X11_isSign : Cond.instanceMethod yX11_isSign ∈ gt_T := gt_t8 19 rfl rfl
theorem sl_X11_isSign : Cond.selects yX11_isSign.cls yX11_isSign yX11_isSign ∈ gt_T := gt_p5 13 rfl
theorem pd_X11_isSign : yX11_isSign.cls ≠ "java/lang/invoke/MethodHandle" ∧ yX11_isSign.cls ≠ "java/lang/invoke/VarHandle" ∧ (parseMethodDescriptor yX11_isSign.desc).map (fun d => d.parameters.length) = some 1 := by decide +kernel
theorem cw_X11_must : Cond.code yX11_must cX11_must 2 none ∈ gt_T := gt_t8 3 rfl rfl
theorem im_X11_must : Cond.instanceMethod yX11_must ∈ gt_T := gt_t8 2 rfl rfl
theorem sl_X11_must : Cond.selects yX11_must.cls yX11_must yX11_must ∈ gt_T := gt_p5 9 rfl
theorem pd_X11_must : yX11_must.cls ≠ "java/lang/invoke/MethodHandle" ∧ yX11_must.cls ≠ "java/lang/invoke/VarHandle" ∧ (parseMethodDescriptor yX11_must.desc).map (fun d => d.parameters.length) = some 1 := by decide +kernel
theorem cw_X11_fault : Cond.code yX11_fault cX11_fault 1 (some .int) ∈ gt_T := gt_t7 205 rfl rfl
theorem im_X11_fault : Cond.instanceMethod yX11_fault ∈ gt_T := gt_t7 203 rfl rfl
theorem sl_X11_fault : Cond.selects yX11_fault.cls yX11_fault yX11_fault ∈ gt_T := gt_t7 204 rfl rfl
theorem pd_X11_fault : yX11_fault.cls ≠ "java/lang/invoke/MethodHandle" ∧ yX11_fault.cls ≠ "java/lang/invoke/VarHandle" ∧ (parseMethodDescriptor yX11_fault.desc).map (fun d => d.parameters.length) = some 0 := by decide +kernel
theorem cw_X11_emit : Cond.code yX11_emit cX11_emit 3 none ∈ gt_T := gt_t8 41 rfl rfl
theorem im_X11_emit : Cond.instanceMethod yX11_emit ∈ gt_T := gt_t8 40 rfl rfl
theorem sl_X11_emit : Cond.selects yX11_emit.cls yX11_emit yX11_emit ∈ gt_T := gt_p6 2 rfl
theorem pd_X11_emit : yX11_emit.cls ≠ "java/lang/invoke/MethodHandle" ∧ yX11_emit.cls ≠ "java/lang/invoke/VarHandle" ∧ (parseMethodDescriptor yX11_emit.desc).map (fun d => d.parameters.length) = some 2 := by decide +kernel
theorem cw_X11_push : Cond.code yX11_push cX11_push 3 none ∈ gt_T := gt_t8 16 rfl rfl
theorem im_X11_push : Cond.instanceMethod yX11_push ∈ gt_T := gt_t8 15 rfl rfl
theorem sl_X11_push : Cond.selects yX11_push.cls yX11_push yX11_push ∈ gt_T := gt_p5 12 rfl
theorem pd_X11_push : yX11_push.cls ≠ "java/lang/invoke/MethodHandle" ∧ yX11_push.cls ≠ "java/lang/invoke/VarHandle" ∧ (parseMethodDescriptor yX11_push.desc).map (fun d => d.parameters.length) = some 2 := by decide +kernel
theorem cw_X11_binds : Cond.code yX11_binds cX11_binds 1 (some .int) ∈ gt_T := gt_t8 48 rfl rfl
theorem st_X11_binds : Cond.static yX11_binds ∈ gt_T := gt_t8 47 rfl rfl
theorem pd_X11_binds : yX11_binds.cls ≠ "java/lang/invoke/MethodHandle" ∧ yX11_binds.cls ≠ "java/lang/invoke/VarHandle" ∧ (parseMethodDescriptor yX11_binds.desc).map (fun d => d.parameters.length) = some 1 := by decide +kernel
theorem cw_X11_settle : Cond.code yX11_settle cX11_settle 2 none ∈ gt_T := gt_t8 52 rfl rfl
theorem im_X11_settle : Cond.instanceMethod yX11_settle ∈ gt_T := gt_t8 51 rfl rfl
theorem sl_X11_settle : Cond.selects yX11_settle.cls yX11_settle yX11_settle ∈ gt_T := gt_p6 4 rfl
theorem pd_X11_settle : yX11_settle.cls ≠ "java/lang/invoke/MethodHandle" ∧ yX11_settle.cls ≠ "java/lang/invoke/VarHandle" ∧ (parseMethodDescriptor yX11_settle.desc).map (fun d => d.parameters.length) = some 1 := by decide +kernel
theorem cw_X11_inner : Cond.code yX11_inner cX11_inner 3 (some .int) ∈ gt_T := gt_t8 56 rfl rfl
theorem im_X11_inner : Cond.instanceMethod yX11_inner ∈ gt_T := gt_t8 55 rfl rfl
theorem sl_X11_inner : Cond.selects yX11_inner.cls yX11_inner yX11_inner ∈ gt_T := gt_p6 5 rfl
theorem pd_X11_inner : yX11_inner.cls ≠ "java/lang/invoke/MethodHandle" ∧ yX11_inner.cls ≠ "java/lang/invoke/VarHandle" ∧ (parseMethodDescriptor yX11_inner.desc).map (fun d => d.parameters.length) = some 0 := by decide +kernel
theorem cw_X11_isCompared : Cond.code yX11_isCompared cX11_isCompared 2 (some .boolean) ∈ gt_T := gt_t8 60 rfl rfl
theorem im_X11_isCompared : Cond.instanceMethod yX11_isCompared ∈ gt_T := gt_t8 59 rfl rfl
theorem sl_X11_isCompared : Cond.selects yX11_isCompared.cls yX11_isCompared yX11_isCompared ∈ gt_T := gt_p6 6 rfl
theorem pd_X11_isCompared : yX11_isCompared.cls ≠ "java/lang/invoke/MethodHandle" ∧ yX11_isCompared.cls ≠ "java/lang/invoke/VarHandle" ∧ (parseMethodDescriptor yX11_isCompared.desc).map (fun d => d.parameters.length) = some 0 := by decide +kernel
theorem cw_X11_partAt : Cond.code yX11_partAt cX11_partAt 3 (some .int) ∈ gt_T := gt_t8 32 rfl rfl
theorem im_X11_partAt : Cond.instanceMethod yX11_partAt ∈ gt_T := gt_t8 31 rfl rfl
theorem sl_X11_partAt : Cond.selects yX11_partAt.cls yX11_partAt yX11_partAt ∈ gt_T := gt_p6 0 rfl
theorem pd_X11_partAt : yX11_partAt.cls ≠ "java/lang/invoke/MethodHandle" ∧ yX11_partAt.cls ≠ "java/lang/invoke/VarHandle" ∧ (parseMethodDescriptor yX11_partAt.desc).map (fun d => d.parameters.length) = some 0 := by decide +kernel
theorem cw_X11_openBracket : Cond.code yX11_openBracket cX11_openBracket 2 none ∈ gt_T := gt_t8 24 rfl rfl
theorem im_X11_openBracket : Cond.instanceMethod yX11_openBracket ∈ gt_T := gt_t8 23 rfl rfl
theorem sl_X11_openBracket : Cond.selects yX11_openBracket.cls yX11_openBracket yX11_openBracket ∈ gt_T := gt_p5 14 rfl
theorem pd_X11_openBracket : yX11_openBracket.cls ≠ "java/lang/invoke/MethodHandle" ∧ yX11_openBracket.cls ≠ "java/lang/invoke/VarHandle" ∧ (parseMethodDescriptor yX11_openBracket.desc).map (fun d => d.parameters.length) = some 1 := by decide +kernel
theorem cw_X11_leaf : Cond.code yX11_leaf cX11_leaf 4 none ∈ gt_T := gt_t8 37 rfl rfl
theorem im_X11_leaf : Cond.instanceMethod yX11_leaf ∈ gt_T := gt_t8 36 rfl rfl
theorem sl_X11_leaf : Cond.selects yX11_leaf.cls yX11_leaf yX11_leaf ∈ gt_T := gt_p6 1 rfl
theorem pd_X11_leaf : yX11_leaf.cls ≠ "java/lang/invoke/MethodHandle" ∧ yX11_leaf.cls ≠ "java/lang/invoke/VarHandle" ∧ (parseMethodDescriptor yX11_leaf.desc).map (fun d => d.parameters.length) = some 3 := by decide +kernel
theorem cw_X11_readPart : Cond.code yX11_readPart cX11_readPart 3 (some .int) ∈ gt_T := gt_t8 28 rfl rfl
theorem im_X11_readPart : Cond.instanceMethod yX11_readPart ∈ gt_T := gt_t8 27 rfl rfl
theorem sl_X11_readPart : Cond.selects yX11_readPart.cls yX11_readPart yX11_readPart ∈ gt_T := gt_p5 15 rfl
theorem pd_X11_readPart : yX11_readPart.cls ≠ "java/lang/invoke/MethodHandle" ∧ yX11_readPart.cls ≠ "java/lang/invoke/VarHandle" ∧ (parseMethodDescriptor yX11_readPart.desc).map (fun d => d.parameters.length) = some 0 := by decide +kernel
theorem cw_X11_readPlain : Cond.code yX11_readPlain cX11_readPlain 1 (some .int) ∈ gt_T := gt_t8 11 rfl rfl
theorem im_X11_readPlain : Cond.instanceMethod yX11_readPlain ∈ gt_T := gt_t8 10 rfl rfl
theorem sl_X11_readPlain : Cond.selects yX11_readPlain.cls yX11_readPlain yX11_readPlain ∈ gt_T := gt_p5 11 rfl
theorem pd_X11_readPlain : yX11_readPlain.cls ≠ "java/lang/invoke/MethodHandle" ∧ yX11_readPlain.cls ≠ "java/lang/invoke/VarHandle" ∧ (parseMethodDescriptor yX11_readPlain.desc).map (fun d => d.parameters.length) = some 0 := by decide +kernel
theorem cw_X11_behindSum : Cond.code yX11_behindSum cX11_behindSum 4 (some .int) ∈ gt_T := gt_t8 45 rfl rfl
theorem im_X11_behindSum : Cond.instanceMethod yX11_behindSum ∈ gt_T := gt_t8 44 rfl rfl
theorem sl_X11_behindSum : Cond.selects yX11_behindSum.cls yX11_behindSum yX11_behindSum ∈ gt_T := gt_p6 3 rfl
theorem pd_X11_behindSum : yX11_behindSum.cls ≠ "java/lang/invoke/MethodHandle" ∧ yX11_behindSum.cls ≠ "java/lang/invoke/VarHandle" ∧ (parseMethodDescriptor yX11_behindSum.desc).map (fun d => d.parameters.length) = some 1 := by decide +kernel
theorem cw_X11_behindTest : Cond.code yX11_behindTest cX11_behindTest 2 (some .int) ∈ gt_T := gt_t8 68 rfl rfl
theorem im_X11_behindTest : Cond.instanceMethod yX11_behindTest ∈ gt_T := gt_t8 67 rfl rfl
theorem sl_X11_behindTest : Cond.selects yX11_behindTest.cls yX11_behindTest yX11_behindTest ∈ gt_T := gt_p6 7 rfl
theorem pd_X11_behindTest : yX11_behindTest.cls ≠ "java/lang/invoke/MethodHandle" ∧ yX11_behindTest.cls ≠ "java/lang/invoke/VarHandle" ∧ (parseMethodDescriptor yX11_behindTest.desc).map (fun d => d.parameters.length) = some 0 := by decide +kernel
theorem cw_X11_readExpression : Cond.code yX11_readExpression cX11_readExpression 3 none ∈ gt_T := gt_t8 7 rfl rfl
theorem im_X11_readExpression : Cond.instanceMethod yX11_readExpression ∈ gt_T := gt_t8 6 rfl rfl
theorem sl_X11_readExpression : Cond.selects yX11_readExpression.cls yX11_readExpression yX11_readExpression ∈ gt_T := gt_p5 10 rfl
theorem pd_X11_readExpression : yX11_readExpression.cls ≠ "java/lang/invoke/MethodHandle" ∧ yX11_readExpression.cls ≠ "java/lang/invoke/VarHandle" ∧ (parseMethodDescriptor yX11_readExpression.desc).map (fun d => d.parameters.length) = some 1 := by decide +kernel
theorem cw_X11_readClause : Cond.code yX11_readClause cX11_readClause 4 none ∈ gt_T := gt_t7 233 rfl rfl
theorem im_X11_readClause : Cond.instanceMethod yX11_readClause ∈ gt_T := gt_t7 232 rfl rfl
theorem sl_X11_readClause : Cond.selects yX11_readClause.cls yX11_readClause yX11_readClause ∈ gt_T := gt_p5 7 rfl
theorem pd_X11_readClause : yX11_readClause.cls ≠ "java/lang/invoke/MethodHandle" ∧ yX11_readClause.cls ≠ "java/lang/invoke/VarHandle" ∧ (parseMethodDescriptor yX11_readClause.desc).map (fun d => d.parameters.length) = some 0 := by decide +kernel
theorem cw_X11_text : Cond.code yX11_text cX11_text 3 (some .int) ∈ gt_T := gt_t7 209 rfl rfl
theorem im_X11_text : Cond.instanceMethod yX11_text ∈ gt_T := gt_t7 207 rfl rfl
theorem sl_X11_text : Cond.selects yX11_text.cls yX11_text yX11_text ∈ gt_T := gt_t7 208 rfl rfl
theorem pd_X11_text : yX11_text.cls ≠ "java/lang/invoke/MethodHandle" ∧ yX11_text.cls ≠ "java/lang/invoke/VarHandle" ∧ (parseMethodDescriptor yX11_text.desc).map (fun d => d.parameters.length) = some 0 := by decide +kernel
theorem cw_X11_way : Cond.code yX11_way cX11_way 3 (some .int) ∈ gt_T := gt_t8 75 rfl rfl
theorem im_X11_way : Cond.instanceMethod yX11_way ∈ gt_T := gt_t8 73 rfl rfl
theorem sl_X11_way : Cond.selects yX11_way.cls yX11_way yX11_way ∈ gt_T := gt_t8 74 rfl rfl
theorem pd_X11_way : yX11_way.cls ≠ "java/lang/invoke/MethodHandle" ∧ yX11_way.cls ≠ "java/lang/invoke/VarHandle" ∧ (parseMethodDescriptor yX11_way.desc).map (fun d => d.parameters.length) = some 2 := by decide +kernel
theorem cw_X11_reckon : Cond.code yX11_reckon cX11_reckon 6 (some .long) ∈ gt_T := gt_t8 116 rfl rfl
theorem im_X11_reckon : Cond.instanceMethod yX11_reckon ∈ gt_T := gt_t8 115 rfl rfl
theorem sl_X11_reckon : Cond.selects yX11_reckon.cls yX11_reckon yX11_reckon ∈ gt_T := gt_p7 0 rfl
theorem pd_X11_reckon : yX11_reckon.cls ≠ "java/lang/invoke/MethodHandle" ∧ yX11_reckon.cls ≠ "java/lang/invoke/VarHandle" ∧ (parseMethodDescriptor yX11_reckon.desc).map (fun d => d.parameters.length) = some 3 := by decide +kernel
theorem cw_X11_reckonAll : Cond.code yX11_reckonAll cX11_reckonAll 7 none ∈ gt_T := gt_t8 112 rfl rfl
theorem im_X11_reckonAll : Cond.instanceMethod yX11_reckonAll ∈ gt_T := gt_t8 111 rfl rfl
theorem sl_X11_reckonAll : Cond.selects yX11_reckonAll.cls yX11_reckonAll yX11_reckonAll ∈ gt_T := gt_p6 15 rfl
theorem pd_X11_reckonAll : yX11_reckonAll.cls ≠ "java/lang/invoke/MethodHandle" ∧ yX11_reckonAll.cls ≠ "java/lang/invoke/VarHandle" ∧ (parseMethodDescriptor yX11_reckonAll.desc).map (fun d => d.parameters.length) = some 2 := by decide +kernel
theorem cw_X11_isSo : Cond.code yX11_isSo cX11_isSo 2 (some .boolean) ∈ gt_T := gt_t8 108 rfl rfl
theorem im_X11_isSo : Cond.instanceMethod yX11_isSo ∈ gt_T := gt_t8 107 rfl rfl
theorem sl_X11_isSo : Cond.selects yX11_isSo.cls yX11_isSo yX11_isSo ∈ gt_T := gt_p6 14 rfl
theorem pd_X11_isSo : yX11_isSo.cls ≠ "java/lang/invoke/MethodHandle" ∧ yX11_isSo.cls ≠ "java/lang/invoke/VarHandle" ∧ (parseMethodDescriptor yX11_isSo.desc).map (fun d => d.parameters.length) = some 1 := by decide +kernel
theorem cw_X11_asks : Cond.code yX11_asks cX11_asks 10 (some .int) ∈ gt_T := gt_t8 100 rfl rfl
theorem im_X11_asks : Cond.instanceMethod yX11_asks ∈ gt_T := gt_t8 99 rfl rfl
theorem sl_X11_asks : Cond.selects yX11_asks.cls yX11_asks yX11_asks ∈ gt_T := gt_p6 12 rfl
theorem pd_X11_asks : yX11_asks.cls ≠ "java/lang/invoke/MethodHandle" ∧ yX11_asks.cls ≠ "java/lang/invoke/VarHandle" ∧ (parseMethodDescriptor yX11_asks.desc).map (fun d => d.parameters.length) = some 3 := by decide +kernel
theorem cw_X11_canPay : Cond.code yX11_canPay cX11_canPay 3 (some .boolean) ∈ gt_T := gt_t8 92 rfl rfl
theorem im_X11_canPay : Cond.instanceMethod yX11_canPay ∈ gt_T := gt_t8 91 rfl rfl
theorem sl_X11_canPay : Cond.selects yX11_canPay.cls yX11_canPay yX11_canPay ∈ gt_T := gt_p6 10 rfl
theorem pd_X11_canPay : yX11_canPay.cls ≠ "java/lang/invoke/MethodHandle" ∧ yX11_canPay.cls ≠ "java/lang/invoke/VarHandle" ∧ (parseMethodDescriptor yX11_canPay.desc).map (fun d => d.parameters.length) = some 2 := by decide +kernel
theorem cw_X11_weigh : Cond.code yX11_weigh cX11_weigh 7 (some .int) ∈ gt_T := gt_t8 88 rfl rfl
theorem im_X11_weigh : Cond.instanceMethod yX11_weigh ∈ gt_T := gt_t8 87 rfl rfl
theorem sl_X11_weigh : Cond.selects yX11_weigh.cls yX11_weigh yX11_weigh ∈ gt_T := gt_p6 9 rfl
theorem pd_X11_weigh : yX11_weigh.cls ≠ "java/lang/invoke/MethodHandle" ∧ yX11_weigh.cls ≠ "java/lang/invoke/VarHandle" ∧ (parseMethodDescriptor yX11_weigh.desc).map (fun d => d.parameters.length) = some 3 := by decide +kernel
theorem cw_X11_weight : Cond.code yX11_weight cX11_weight 5 (some .int) ∈ gt_T := gt_t8 83 rfl rfl
theorem im_X11_weight : Cond.instanceMethod yX11_weight ∈ gt_T := gt_t8 81 rfl rfl
theorem sl_X11_weight : Cond.selects yX11_weight.cls yX11_weight yX11_weight ∈ gt_T := gt_t8 82 rfl rfl
theorem pd_X11_weight : yX11_weight.cls ≠ "java/lang/invoke/MethodHandle" ∧ yX11_weight.cls ≠ "java/lang/invoke/VarHandle" ∧ (parseMethodDescriptor yX11_weight.desc).map (fun d => d.parameters.length) = some 3 := by decide +kernel
theorem cw_X11_coinOf : Cond.code yX11_coinOf cX11_coinOf 2 (some .int) ∈ gt_T := gt_t8 184 rfl rfl
theorem im_X11_coinOf : Cond.instanceMethod yX11_coinOf ∈ gt_T := gt_t8 183 rfl rfl
theorem sl_X11_coinOf : Cond.selects yX11_coinOf.cls yX11_coinOf yX11_coinOf ∈ gt_T := gt_p7 9 rfl
theorem pd_X11_coinOf : yX11_coinOf.cls ≠ "java/lang/invoke/MethodHandle" ∧ yX11_coinOf.cls ≠ "java/lang/invoke/VarHandle" ∧ (parseMethodDescriptor yX11_coinOf.desc).map (fun d => d.parameters.length) = some 1 := by decide +kernel
theorem cw_X11_scale : Cond.code yX11_scale cX11_scale 1 (some .int) ∈ gt_T := gt_t8 137 rfl rfl
theorem st_X11_scale : Cond.static yX11_scale ∈ gt_T := gt_t8 136 rfl rfl
theorem pd_X11_scale : yX11_scale.cls ≠ "java/lang/invoke/MethodHandle" ∧ yX11_scale.cls ≠ "java/lang/invoke/VarHandle" ∧ (parseMethodDescriptor yX11_scale.desc).map (fun d => d.parameters.length) = some 1 := by decide +kernel
theorem cw_X11_many : Cond.code yX11_many cX11_many 2 (some .int) ∈ gt_T := gt_t8 134 rfl rfl
theorem st_X11_many : Cond.static yX11_many ∈ gt_T := gt_t8 133 rfl rfl
theorem pd_X11_many : yX11_many.cls ≠ "java/lang/invoke/MethodHandle" ∧ yX11_many.cls ≠ "java/lang/invoke/VarHandle" ∧ (parseMethodDescriptor yX11_many.desc).map (fun d => d.parameters.length) = some 2 := by decide +kernel
theorem cw_X11_worthOf : Cond.code yX11_worthOf cX11_worthOf 6 (some .int) ∈ gt_T := gt_t8 131 rfl rfl
theorem im_X11_worthOf : Cond.instanceMethod yX11_worthOf ∈ gt_T := gt_t8 130 rfl rfl
theorem sl_X11_worthOf : Cond.selects yX11_worthOf.cls yX11_worthOf yX11_worthOf ∈ gt_T := gt_p7 2 rfl
theorem pd_X11_worthOf : yX11_worthOf.cls ≠ "java/lang/invoke/MethodHandle" ∧ yX11_worthOf.cls ≠ "java/lang/invoke/VarHandle" ∧ (parseMethodDescriptor yX11_worthOf.desc).map (fun d => d.parameters.length) = some 1 := by decide +kernel
theorem cw_X11_all : Cond.code yX11_all cX11_all 1 (some .int) ∈ gt_T := gt_t8 140 rfl rfl
theorem st_X11_all : Cond.static yX11_all ∈ gt_T := gt_t8 139 rfl rfl
theorem pd_X11_all : yX11_all.cls ≠ "java/lang/invoke/MethodHandle" ∧ yX11_all.cls ≠ "java/lang/invoke/VarHandle" ∧ (parseMethodDescriptor yX11_all.desc).map (fun d => d.parameters.length) = some 1 := by decide +kernel
theorem cw_X11_findWorths : Cond.code yX11_findWorths cX11_findWorths 2 none ∈ gt_T := gt_t8 156 rfl rfl
theorem im_X11_findWorths : Cond.instanceMethod yX11_findWorths ∈ gt_T := gt_t8 155 rfl rfl
theorem sl_X11_findWorths : Cond.selects yX11_findWorths.cls yX11_findWorths yX11_findWorths ∈ gt_T := gt_p7 5 rfl
theorem pd_X11_findWorths : yX11_findWorths.cls ≠ "java/lang/invoke/MethodHandle" ∧ yX11_findWorths.cls ≠ "java/lang/invoke/VarHandle" ∧ (parseMethodDescriptor yX11_findWorths.desc).map (fun d => d.parameters.length) = some 0 := by decide +kernel
theorem cw_X11_isHeap : Cond.code yX11_isHeap cX11_isHeap 5 (some .boolean) ∈ gt_T := gt_t8 126 rfl rfl
theorem im_X11_isHeap : Cond.instanceMethod yX11_isHeap ∈ gt_T := gt_t8 125 rfl rfl
theorem sl_X11_isHeap : Cond.selects yX11_isHeap.cls yX11_isHeap yX11_isHeap ∈ gt_T := gt_p7 1 rfl
theorem pd_X11_isHeap : yX11_isHeap.cls ≠ "java/lang/invoke/MethodHandle" ∧ yX11_isHeap.cls ≠ "java/lang/invoke/VarHandle" ∧ (parseMethodDescriptor yX11_isHeap.desc).map (fun d => d.parameters.length) = some 4 := by decide +kernel
theorem cw_X11_heap : Cond.code yX11_heap cX11_heap 7 (some .int) ∈ gt_T := gt_t8 122 rfl rfl
theorem im_X11_heap : Cond.instanceMethod yX11_heap ∈ gt_T := gt_t8 120 rfl rfl
theorem sl_X11_heap : Cond.selects yX11_heap.cls yX11_heap yX11_heap ∈ gt_T := gt_t8 121 rfl rfl
theorem pd_X11_heap : yX11_heap.cls ≠ "java/lang/invoke/MethodHandle" ∧ yX11_heap.cls ≠ "java/lang/invoke/VarHandle" ∧ (parseMethodDescriptor yX11_heap.desc).map (fun d => d.parameters.length) = some 5 := by decide +kernel
theorem cw_X11_may : Cond.code yX11_may cX11_may 4 (some .boolean) ∈ gt_T := gt_t8 214 rfl rfl
theorem im_X11_may : Cond.instanceMethod yX11_may ∈ gt_T := gt_t8 213 rfl rfl
theorem sl_X11_may : Cond.selects yX11_may.cls yX11_may yX11_may ∈ gt_T := gt_p7 13 rfl
theorem pd_X11_may : yX11_may.cls ≠ "java/lang/invoke/MethodHandle" ∧ yX11_may.cls ≠ "java/lang/invoke/VarHandle" ∧ (parseMethodDescriptor yX11_may.desc).map (fun d => d.parameters.length) = some 2 := by decide +kernel
theorem cw_X11_moneyOf : Cond.code yX11_moneyOf cX11_moneyOf 3 (some .int) ∈ gt_T := gt_t8 218 rfl rfl
theorem im_X11_moneyOf : Cond.instanceMethod yX11_moneyOf ∈ gt_T := gt_t8 217 rfl rfl
theorem sl_X11_moneyOf : Cond.selects yX11_moneyOf.cls yX11_moneyOf yX11_moneyOf ∈ gt_T := gt_p7 14 rfl
theorem pd_X11_moneyOf : yX11_moneyOf.cls ≠ "java/lang/invoke/MethodHandle" ∧ yX11_moneyOf.cls ≠ "java/lang/invoke/VarHandle" ∧ (parseMethodDescriptor yX11_moneyOf.desc).map (fun d => d.parameters.length) = some 2 := by decide +kernel
theorem cw_X11_step : Cond.code yX11_step cX11_step 1 (some .int) ∈ gt_T := gt_t8 173 rfl rfl
theorem st_X11_step : Cond.static yX11_step ∈ gt_T := gt_t8 172 rfl rfl
theorem pd_X11_step : yX11_step.cls ≠ "java/lang/invoke/MethodHandle" ∧ yX11_step.cls ≠ "java/lang/invoke/VarHandle" ∧ (parseMethodDescriptor yX11_step.desc).map (fun d => d.parameters.length) = some 1 := by decide +kernel
theorem cw_X11_setTo : Cond.code yX11_setTo cX11_setTo 4 none ∈ gt_T := gt_t8 159 rfl rfl
theorem st_X11_setTo : Cond.static yX11_setTo ∈ gt_T := gt_t8 158 rfl rfl
theorem pd_X11_setTo : yX11_setTo.cls ≠ "java/lang/invoke/MethodHandle" ∧ yX11_setTo.cls ≠ "java/lang/invoke/VarHandle" ∧ (parseMethodDescriptor yX11_setTo.desc).map (fun d => d.parameters.length) = some 2 := by decide +kernel
theorem cw_X11_times : Cond.code yX11_times cX11_times 8 none ∈ gt_T := gt_t8 166 rfl rfl
theorem st_X11_times : Cond.static yX11_times ∈ gt_T := gt_t8 165 rfl rfl
theorem pd_X11_times : yX11_times.cls ≠ "java/lang/invoke/MethodHandle" ∧ yX11_times.cls ≠ "java/lang/invoke/VarHandle" ∧ (parseMethodDescriptor yX11_times.desc).map (fun d => d.parameters.length) = some 2 := by decide +kernel
theorem cw_X11_add_ : Cond.code yX11_add_ cX11_add_ 11 none ∈ gt_T := gt_t8 176 rfl rfl
theorem st_X11_add_ : Cond.static yX11_add_ ∈ gt_T := gt_t8 175 rfl rfl
theorem pd_X11_add_ : yX11_add_.cls ≠ "java/lang/invoke/MethodHandle" ∧ yX11_add_.cls ≠ "java/lang/invoke/VarHandle" ∧ (parseMethodDescriptor yX11_add_.desc).map (fun d => d.parameters.length) = some 5 := by decide +kernel
theorem cw_X11_compare : Cond.code yX11_compare cX11_compare 3 (some .int) ∈ gt_T := gt_t8 192 rfl rfl
theorem st_X11_compare : Cond.static yX11_compare ∈ gt_T := gt_t8 191 rfl rfl
theorem pd_X11_compare : yX11_compare.cls ≠ "java/lang/invoke/MethodHandle" ∧ yX11_compare.cls ≠ "java/lang/invoke/VarHandle" ∧ (parseMethodDescriptor yX11_compare.desc).map (fun d => d.parameters.length) = some 2 := by decide +kernel
theorem cw_X11_ratio : Cond.code yX11_ratio cX11_ratio 5 (some .int) ∈ gt_T := gt_t8 188 rfl rfl
theorem im_X11_ratio : Cond.instanceMethod yX11_ratio ∈ gt_T := gt_t8 187 rfl rfl
theorem sl_X11_ratio : Cond.selects yX11_ratio.cls yX11_ratio yX11_ratio ∈ gt_T := gt_p7 10 rfl
theorem pd_X11_ratio : yX11_ratio.cls ≠ "java/lang/invoke/MethodHandle" ∧ yX11_ratio.cls ≠ "java/lang/invoke/VarHandle" ∧ (parseMethodDescriptor yX11_ratio.desc).map (fun d => d.parameters.length) = some 0 := by decide +kernel
theorem cw_X11_weighAll : Cond.code yX11_weighAll cX11_weighAll 4 (some .int) ∈ gt_T := gt_t8 163 rfl rfl
theorem im_X11_weighAll : Cond.instanceMethod yX11_weighAll ∈ gt_T := gt_t8 162 rfl rfl
theorem sl_X11_weighAll : Cond.selects yX11_weighAll.cls yX11_weighAll yX11_weighAll ∈ gt_T := gt_p7 6 rfl
theorem pd_X11_weighAll : yX11_weighAll.cls ≠ "java/lang/invoke/MethodHandle" ∧ yX11_weighAll.cls ≠ "java/lang/invoke/VarHandle" ∧ (parseMethodDescriptor yX11_weighAll.desc).map (fun d => d.parameters.length) = some 1 := by decide +kernel
theorem cw_X11_spread : Cond.code yX11_spread cX11_spread 3 none ∈ gt_T := gt_t8 152 rfl rfl
theorem im_X11_spread : Cond.instanceMethod yX11_spread ∈ gt_T := gt_t8 151 rfl rfl
theorem sl_X11_spread : Cond.selects yX11_spread.cls yX11_spread yX11_spread ∈ gt_T := gt_p7 4 rfl
theorem pd_X11_spread : yX11_spread.cls ≠ "java/lang/invoke/MethodHandle" ∧ yX11_spread.cls ≠ "java/lang/invoke/VarHandle" ∧ (parseMethodDescriptor yX11_spread.desc).map (fun d => d.parameters.length) = some 0 := by decide +kernel
theorem cw_X11_spreadOne : Cond.code yX11_spreadOne cX11_spreadOne 4 none ∈ gt_T := gt_t8 170 rfl rfl
theorem im_X11_spreadOne : Cond.instanceMethod yX11_spreadOne ∈ gt_T := gt_t8 169 rfl rfl
theorem sl_X11_spreadOne : Cond.selects yX11_spreadOne.cls yX11_spreadOne yX11_spreadOne ∈ gt_T := gt_p7 7 rfl
theorem pd_X11_spreadOne : yX11_spreadOne.cls ≠ "java/lang/invoke/MethodHandle" ∧ yX11_spreadOne.cls ≠ "java/lang/invoke/VarHandle" ∧ (parseMethodDescriptor yX11_spreadOne.desc).map (fun d => d.parameters.length) = some 1 := by decide +kernel
theorem cw_X11_addMoney : Cond.code yX11_addMoney cX11_addMoney 4 none ∈ gt_T := gt_t8 180 rfl rfl
theorem im_X11_addMoney : Cond.instanceMethod yX11_addMoney ∈ gt_T := gt_t8 179 rfl rfl
theorem sl_X11_addMoney : Cond.selects yX11_addMoney.cls yX11_addMoney yX11_addMoney ∈ gt_T := gt_p7 8 rfl
theorem pd_X11_addMoney : yX11_addMoney.cls ≠ "java/lang/invoke/MethodHandle" ∧ yX11_addMoney.cls ≠ "java/lang/invoke/VarHandle" ∧ (parseMethodDescriptor yX11_addMoney.desc).map (fun d => d.parameters.length) = some 0 := by decide +kernel
theorem cw_X11_meanOf : Cond.code yX11_meanOf cX11_meanOf 3 (some .int) ∈ gt_T := gt_t8 148 rfl rfl
theorem im_X11_meanOf : Cond.instanceMethod yX11_meanOf ∈ gt_T := gt_t8 147 rfl rfl
theorem sl_X11_meanOf : Cond.selects yX11_meanOf.cls yX11_meanOf yX11_meanOf ∈ gt_T := gt_p7 3 rfl
theorem pd_X11_meanOf : yX11_meanOf.cls ≠ "java/lang/invoke/MethodHandle" ∧ yX11_meanOf.cls ≠ "java/lang/invoke/VarHandle" ∧ (parseMethodDescriptor yX11_meanOf.desc).map (fun d => d.parameters.length) = some 1 := by decide +kernel
theorem cw_X11_mean : Cond.code yX11_mean cX11_mean 2 (some .int) ∈ gt_T := gt_t8 144 rfl rfl
theorem im_X11_mean : Cond.instanceMethod yX11_mean ∈ gt_T := gt_t8 142 rfl rfl
theorem sl_X11_mean : Cond.selects yX11_mean.cls yX11_mean yX11_mean ∈ gt_T := gt_t8 143 rfl rfl
theorem pd_X11_mean : yX11_mean.cls ≠ "java/lang/invoke/MethodHandle" ∧ yX11_mean.cls ≠ "java/lang/invoke/VarHandle" ∧ (parseMethodDescriptor yX11_mean.desc).map (fun d => d.parameters.length) = some 1 := by decide +kernel
theorem cw_X11_none : Cond.code yX11_none cX11_none 3 (some .int) ∈ gt_T := gt_t8 196 rfl rfl
theorem im_X11_none : Cond.instanceMethod yX11_none ∈ gt_T := gt_t8 194 rfl rfl
theorem sl_X11_none : Cond.selects yX11_none.cls yX11_none yX11_none ∈ gt_T := gt_t8 195 rfl rfl
theorem pd_X11_none : yX11_none.cls ≠ "java/lang/invoke/MethodHandle" ∧ yX11_none.cls ≠ "java/lang/invoke/VarHandle" ∧ (parseMethodDescriptor yX11_none.desc).map (fun d => d.parameters.length) = some 1 := by decide +kernel
theorem cw_X11_gather : Cond.code yX11_gather cX11_gather 6 none ∈ gt_T := gt_t8 205 rfl rfl
theorem im_X11_gather : Cond.instanceMethod yX11_gather ∈ gt_T := gt_t8 204 rfl rfl
theorem sl_X11_gather : Cond.selects yX11_gather.cls yX11_gather yX11_gather ∈ gt_T := gt_p7 11 rfl
theorem pd_X11_gather : yX11_gather.cls ≠ "java/lang/invoke/MethodHandle" ∧ yX11_gather.cls ≠ "java/lang/invoke/VarHandle" ∧ (parseMethodDescriptor yX11_gather.desc).map (fun d => d.parameters.length) = some 2 := by decide +kernel
theorem cw_X11_gatherOne : Cond.code yX11_gatherOne cX11_gatherOne 12 none ∈ gt_T := gt_t8 210 rfl rfl
theorem im_X11_gatherOne : Cond.instanceMethod yX11_gatherOne ∈ gt_T := gt_t8 209 rfl rfl
theorem sl_X11_gatherOne : Cond.selects yX11_gatherOne.cls yX11_gatherOne yX11_gatherOne ∈ gt_T := gt_p7 12 rfl
theorem pd_X11_gatherOne : yX11_gatherOne.cls ≠ "java/lang/invoke/MethodHandle" ∧ yX11_gatherOne.cls ≠ "java/lang/invoke/VarHandle" ∧ (parseMethodDescriptor yX11_gatherOne.desc).map (fun d => d.parameters.length) = some 3 := by decide +kernel
theorem cw_X11_greatest : Cond.code yX11_greatest cX11_greatest 6 (some .int) ∈ gt_T := gt_t8 223 rfl rfl
theorem im_X11_greatest : Cond.instanceMethod yX11_greatest ∈ gt_T := gt_t8 222 rfl rfl
theorem sl_X11_greatest : Cond.selects yX11_greatest.cls yX11_greatest yX11_greatest ∈ gt_T := gt_p7 15 rfl
theorem pd_X11_greatest : yX11_greatest.cls ≠ "java/lang/invoke/MethodHandle" ∧ yX11_greatest.cls ≠ "java/lang/invoke/VarHandle" ∧ (parseMethodDescriptor yX11_greatest.desc).map (fun d => d.parameters.length) = some 0 := by decide +kernel
theorem cw_X11_findFirst : Cond.code yX11_findFirst cX11_findFirst 6 none ∈ gt_T := gt_t8 227 rfl rfl
theorem im_X11_findFirst : Cond.instanceMethod yX11_findFirst ∈ gt_T := gt_t8 226 rfl rfl
theorem sl_X11_findFirst : Cond.selects yX11_findFirst.cls yX11_findFirst yX11_findFirst ∈ gt_T := gt_p8 0 rfl
theorem pd_X11_findFirst : yX11_findFirst.cls ≠ "java/lang/invoke/MethodHandle" ∧ yX11_findFirst.cls ≠ "java/lang/invoke/VarHandle" ∧ (parseMethodDescriptor yX11_findFirst.desc).map (fun d => d.parameters.length) = some 1 := by decide +kernel
theorem cw_X11_isOnWay : Cond.code yX11_isOnWay cX11_isOnWay 7 (some .boolean) ∈ gt_T := gt_t8 231 rfl rfl
theorem im_X11_isOnWay : Cond.instanceMethod yX11_isOnWay ∈ gt_T := gt_t8 230 rfl rfl
theorem sl_X11_isOnWay : Cond.selects yX11_isOnWay.cls yX11_isOnWay yX11_isOnWay ∈ gt_T := gt_p8 1 rfl
theorem pd_X11_isOnWay : yX11_isOnWay.cls ≠ "java/lang/invoke/MethodHandle" ∧ yX11_isOnWay.cls ≠ "java/lang/invoke/VarHandle" ∧ (parseMethodDescriptor yX11_isOnWay.desc).map (fun d => d.parameters.length) = some 4 := by decide +kernel
theorem cw_X11_together : Cond.code yX11_together cX11_together 4 (some .int) ∈ gt_T := gt_t8 200 rfl rfl
theorem im_X11_together : Cond.instanceMethod yX11_together ∈ gt_T := gt_t8 198 rfl rfl
theorem sl_X11_together : Cond.selects yX11_together.cls yX11_together yX11_together ∈ gt_T := gt_t8 199 rfl rfl
theorem pd_X11_together : yX11_together.cls ≠ "java/lang/invoke/MethodHandle" ∧ yX11_together.cls ≠ "java/lang/invoke/VarHandle" ∧ (parseMethodDescriptor yX11_together.desc).map (fun d => d.parameters.length) = some 1 := by decide +kernel
theorem cw_X11_brings : Cond.code yX11_brings cX11_brings 2 (some .int) ∈ gt_T := gt_t8 235 rfl rfl
theorem im_X11_brings : Cond.instanceMethod yX11_brings ∈ gt_T := gt_t8 233 rfl rfl
theorem sl_X11_brings : Cond.selects yX11_brings.cls yX11_brings yX11_brings ∈ gt_T := gt_t8 234 rfl rfl
theorem pd_X11_brings : yX11_brings.cls ≠ "java/lang/invoke/MethodHandle" ∧ yX11_brings.cls ≠ "java/lang/invoke/VarHandle" ∧ (parseMethodDescriptor yX11_brings.desc).map (fun d => d.parameters.length) = some 1 := by decide +kernel
theorem cw_X11_dear : Cond.code yX11_dear cX11_dear 4 (some .int) ∈ gt_T := gt_t8 239 rfl rfl
theorem im_X11_dear : Cond.instanceMethod yX11_dear ∈ gt_T := gt_t8 237 rfl rfl
theorem sl_X11_dear : Cond.selects yX11_dear.cls yX11_dear yX11_dear ∈ gt_T := gt_t8 238 rfl rfl
theorem pd_X11_dear : yX11_dear.cls ≠ "java/lang/invoke/MethodHandle" ∧ yX11_dear.cls ≠ "java/lang/invoke/VarHandle" ∧ (parseMethodDescriptor yX11_dear.desc).map (fun d => d.parameters.length) = some 2 := by decide +kernel
theorem cw_X11_loss : Cond.code yX11_loss cX11_loss 2 (some .int) ∈ gt_T := gt_t9 4 rfl rfl
theorem im_X11_loss : Cond.instanceMethod yX11_loss ∈ gt_T := gt_t9 2 rfl rfl
theorem sl_X11_loss : Cond.selects yX11_loss.cls yX11_loss yX11_loss ∈ gt_T := gt_t9 3 rfl rfl
theorem pd_X11_loss : yX11_loss.cls ≠ "java/lang/invoke/MethodHandle" ∧ yX11_loss.cls ≠ "java/lang/invoke/VarHandle" ∧ (parseMethodDescriptor yX11_loss.desc).map (fun d => d.parameters.length) = some 0 := by decide +kernel
theorem cw_X11_over : Cond.code yX11_over cX11_over 5 (some .long) ∈ gt_T := gt_t9 19 rfl rfl
theorem st_X11_over : Cond.static yX11_over ∈ gt_T := gt_t9 18 rfl rfl
theorem pd_X11_over : yX11_over.cls ≠ "java/lang/invoke/MethodHandle" ∧ yX11_over.cls ≠ "java/lang/invoke/VarHandle" ∧ (parseMethodDescriptor yX11_over.desc).map (fun d => d.parameters.length) = some 2 := by decide +kernel
theorem cw_X11_findShares : Cond.code yX11_findShares cX11_findShares 9 none ∈ gt_T := gt_t9 16 rfl rfl
theorem im_X11_findShares : Cond.instanceMethod yX11_findShares ∈ gt_T := gt_t9 15 rfl rfl
theorem sl_X11_findShares : Cond.selects yX11_findShares.cls yX11_findShares yX11_findShares ∈ gt_T := gt_p8 3 rfl
theorem pd_X11_findShares : yX11_findShares.cls ≠ "java/lang/invoke/MethodHandle" ∧ yX11_findShares.cls ≠ "java/lang/invoke/VarHandle" ∧ (parseMethodDescriptor yX11_findShares.desc).map (fun d => d.parameters.length) = some 1 := by decide +kernel
theorem cw_X11_blindMean : Cond.code yX11_blindMean cX11_blindMean 10 (some .long) ∈ gt_T := gt_t9 27 rfl rfl
theorem im_X11_blindMean : Cond.instanceMethod yX11_blindMean ∈ gt_T := gt_t9 26 rfl rfl
theorem sl_X11_blindMean : Cond.selects yX11_blindMean.cls yX11_blindMean yX11_blindMean ∈ gt_T := gt_p8 5 rfl
theorem pd_X11_blindMean : yX11_blindMean.cls ≠ "java/lang/invoke/MethodHandle" ∧ yX11_blindMean.cls ≠ "java/lang/invoke/VarHandle" ∧ (parseMethodDescriptor yX11_blindMean.desc).map (fun d => d.parameters.length) = some 1 := by decide +kernel
theorem cw_X11_findBlind : Cond.code yX11_findBlind cX11_findBlind 8 none ∈ gt_T := gt_t9 12 rfl rfl
theorem im_X11_findBlind : Cond.instanceMethod yX11_findBlind ∈ gt_T := gt_t9 11 rfl rfl
theorem sl_X11_findBlind : Cond.selects yX11_findBlind.cls yX11_findBlind yX11_findBlind ∈ gt_T := gt_p8 2 rfl
theorem pd_X11_findBlind : yX11_findBlind.cls ≠ "java/lang/invoke/MethodHandle" ∧ yX11_findBlind.cls ≠ "java/lang/invoke/VarHandle" ∧ (parseMethodDescriptor yX11_findBlind.desc).map (fun d => d.parameters.length) = some 1 := by decide +kernel
theorem cw_X11_tryTenths : Cond.code yX11_tryTenths cX11_tryTenths 5 none ∈ gt_T := gt_t9 23 rfl rfl
theorem im_X11_tryTenths : Cond.instanceMethod yX11_tryTenths ∈ gt_T := gt_t9 22 rfl rfl
theorem sl_X11_tryTenths : Cond.selects yX11_tryTenths.cls yX11_tryTenths yX11_tryTenths ∈ gt_T := gt_p8 4 rfl
theorem pd_X11_tryTenths : yX11_tryTenths.cls ≠ "java/lang/invoke/MethodHandle" ∧ yX11_tryTenths.cls ≠ "java/lang/invoke/VarHandle" ∧ (parseMethodDescriptor yX11_tryTenths.desc).map (fun d => d.parameters.length) = some 1 := by decide +kernel
theorem cw_X11_blind : Cond.code yX11_blind cX11_blind 6 (some .int) ∈ gt_T := gt_t9 8 rfl rfl
theorem im_X11_blind : Cond.instanceMethod yX11_blind ∈ gt_T := gt_t9 6 rfl rfl
theorem sl_X11_blind : Cond.selects yX11_blind.cls yX11_blind yX11_blind ∈ gt_T := gt_t9 7 rfl rfl
theorem pd_X11_blind : yX11_blind.cls ≠ "java/lang/invoke/MethodHandle" ∧ yX11_blind.cls ≠ "java/lang/invoke/VarHandle" ∧ (parseMethodDescriptor yX11_blind.desc).map (fun d => d.parameters.length) = some 2 := by decide +kernel
theorem cw_X11_byRule : Cond.code yX11_byRule cX11_byRule 4 (some .int) ∈ gt_T := gt_t9 39 rfl rfl
theorem im_X11_byRule : Cond.instanceMethod yX11_byRule ∈ gt_T := gt_t9 38 rfl rfl
theorem sl_X11_byRule : Cond.selects yX11_byRule.cls yX11_byRule yX11_byRule ∈ gt_T := gt_p8 7 rfl
theorem pd_X11_byRule : yX11_byRule.cls ≠ "java/lang/invoke/MethodHandle" ∧ yX11_byRule.cls ≠ "java/lang/invoke/VarHandle" ∧ (parseMethodDescriptor yX11_byRule.desc).map (fun d => d.parameters.length) = some 1 := by decide +kernel
theorem cw_X11_ruleValue : Cond.code yX11_ruleValue cX11_ruleValue 5 (some .int) ∈ gt_T := gt_t9 35 rfl rfl
theorem im_X11_ruleValue : Cond.instanceMethod yX11_ruleValue ∈ gt_T := gt_t9 34 rfl rfl
theorem sl_X11_ruleValue : Cond.selects yX11_ruleValue.cls yX11_ruleValue yX11_ruleValue ∈ gt_T := gt_p8 6 rfl
theorem pd_X11_ruleValue : yX11_ruleValue.cls ≠ "java/lang/invoke/MethodHandle" ∧ yX11_ruleValue.cls ≠ "java/lang/invoke/VarHandle" ∧ (parseMethodDescriptor yX11_ruleValue.desc).map (fun d => d.parameters.length) = some 0 := by decide +kernel
theorem cw_X11_nextBounds : Cond.code yX11_nextBounds cX11_nextBounds 3 (some .boolean) ∈ gt_T := gt_t9 43 rfl rfl
theorem im_X11_nextBounds : Cond.instanceMethod yX11_nextBounds ∈ gt_T := gt_t9 42 rfl rfl
theorem sl_X11_nextBounds : Cond.selects yX11_nextBounds.cls yX11_nextBounds yX11_nextBounds ∈ gt_T := gt_p8 8 rfl
theorem pd_X11_nextBounds : yX11_nextBounds.cls ≠ "java/lang/invoke/MethodHandle" ∧ yX11_nextBounds.cls ≠ "java/lang/invoke/VarHandle" ∧ (parseMethodDescriptor yX11_nextBounds.desc).map (fun d => d.parameters.length) = some 0 := by decide +kernel
theorem cw_X11_rule : Cond.code yX11_rule cX11_rule 6 (some .int) ∈ gt_T := gt_t9 31 rfl rfl
theorem im_X11_rule : Cond.instanceMethod yX11_rule ∈ gt_T := gt_t9 29 rfl rfl
theorem sl_X11_rule : Cond.selects yX11_rule.cls yX11_rule yX11_rule ∈ gt_T := gt_t9 30 rfl rfl
theorem pd_X11_rule : yX11_rule.cls ≠ "java/lang/invoke/MethodHandle" ∧ yX11_rule.cls ≠ "java/lang/invoke/VarHandle" ∧ (parseMethodDescriptor yX11_rule.desc).map (fun d => d.parameters.length) = some 1 := by decide +kernel
theorem cw_X11_letters : Cond.code yX11_letters cX11_letters 8 (some .int) ∈ gt_T := gt_t9 47 rfl rfl
theorem im_X11_letters : Cond.instanceMethod yX11_letters ∈ gt_T := gt_t9 45 rfl rfl
theorem sl_X11_letters : Cond.selects yX11_letters.cls yX11_letters yX11_letters ∈ gt_T := gt_t9 46 rfl rfl
theorem pd_X11_letters : yX11_letters.cls ≠ "java/lang/invoke/MethodHandle" ∧ yX11_letters.cls ≠ "java/lang/invoke/VarHandle" ∧ (parseMethodDescriptor yX11_letters.desc).map (fun d => d.parameters.length) = some 4 := by decide +kernel
theorem cw_X11_goesOn : Cond.code yX11_goesOn cX11_goesOn 9 (some .boolean) ∈ gt_T := gt_t9 60 rfl rfl
theorem im_X11_goesOn : Cond.instanceMethod yX11_goesOn ∈ gt_T := gt_t9 59 rfl rfl
theorem sl_X11_goesOn : Cond.selects yX11_goesOn.cls yX11_goesOn yX11_goesOn ∈ gt_T := gt_p8 10 rfl
theorem pd_X11_goesOn : yX11_goesOn.cls ≠ "java/lang/invoke/MethodHandle" ∧ yX11_goesOn.cls ≠ "java/lang/invoke/VarHandle" ∧ (parseMethodDescriptor yX11_goesOn.desc).map (fun d => d.parameters.length) = some 1 := by decide +kernel
theorem cw_X11_findRest : Cond.code yX11_findRest cX11_findRest 3 none ∈ gt_T := gt_t9 55 rfl rfl
theorem im_X11_findRest : Cond.instanceMethod yX11_findRest ∈ gt_T := gt_t9 54 rfl rfl
theorem sl_X11_findRest : Cond.selects yX11_findRest.cls yX11_findRest yX11_findRest ∈ gt_T := gt_p8 9 rfl
theorem pd_X11_findRest : yX11_findRest.cls ≠ "java/lang/invoke/MethodHandle" ∧ yX11_findRest.cls ≠ "java/lang/invoke/VarHandle" ∧ (parseMethodDescriptor yX11_findRest.desc).map (fun d => d.parameters.length) = some 0 := by decide +kernel
theorem cw_X11_rest : Cond.code yX11_rest cX11_rest 3 (some .int) ∈ gt_T := gt_t9 51 rfl rfl
theorem im_X11_rest : Cond.instanceMethod yX11_rest ∈ gt_T := gt_t9 49 rfl rfl
theorem sl_X11_rest : Cond.selects yX11_rest.cls yX11_rest yX11_rest ∈ gt_T := gt_t9 50 rfl rfl
theorem pd_X11_rest : yX11_rest.cls ≠ "java/lang/invoke/MethodHandle" ∧ yX11_rest.cls ≠ "java/lang/invoke/VarHandle" ∧ (parseMethodDescriptor yX11_rest.desc).map (fun d => d.parameters.length) = some 1 := by decide +kernel
theorem cw_X11_find : Cond.code yX11_find cX11_find 2 (some .int) ∈ gt_T := gt_t9 64 rfl rfl
theorem im_X11_find : Cond.instanceMethod yX11_find ∈ gt_T := gt_t9 62 rfl rfl
theorem sl_X11_find : Cond.selects yX11_find.cls yX11_find yX11_find ∈ gt_T := gt_t9 63 rfl rfl
theorem pd_X11_find : yX11_find.cls ≠ "java/lang/invoke/MethodHandle" ∧ yX11_find.cls ≠ "java/lang/invoke/VarHandle" ∧ (parseMethodDescriptor yX11_find.desc).map (fun d => d.parameters.length) = some 1 := by decide +kernel
theorem cw_X11_draw : Cond.code yX11_draw cX11_draw 2 (some .int) ∈ gt_T := gt_t9 84 rfl rfl
theorem im_X11_draw : Cond.instanceMethod yX11_draw ∈ gt_T := gt_t9 83 rfl rfl
theorem sl_X11_draw : Cond.selects yX11_draw.cls yX11_draw yX11_draw ∈ gt_T := gt_p8 14 rfl
theorem pd_X11_draw : yX11_draw.cls ≠ "java/lang/invoke/MethodHandle" ∧ yX11_draw.cls ≠ "java/lang/invoke/VarHandle" ∧ (parseMethodDescriptor yX11_draw.desc).map (fun d => d.parameters.length) = some 1 := by decide +kernel
theorem cw_X11_best : Cond.code yX11_best cX11_best 7 (some .int) ∈ gt_T := gt_t9 76 rfl rfl
theorem im_X11_best : Cond.instanceMethod yX11_best ∈ gt_T := gt_t9 75 rfl rfl
theorem sl_X11_best : Cond.selects yX11_best.cls yX11_best yX11_best ∈ gt_T := gt_p8 12 rfl
theorem pd_X11_best : yX11_best.cls ≠ "java/lang/invoke/MethodHandle" ∧ yX11_best.cls ≠ "java/lang/invoke/VarHandle" ∧ (parseMethodDescriptor yX11_best.desc).map (fun d => d.parameters.length) = some 2 := by decide +kernel
theorem cw_X11_drawnBy : Cond.code yX11_drawnBy cX11_drawnBy 4 (some .int) ∈ gt_T := gt_t9 80 rfl rfl
theorem im_X11_drawnBy : Cond.instanceMethod yX11_drawnBy ∈ gt_T := gt_t9 79 rfl rfl
theorem sl_X11_drawnBy : Cond.selects yX11_drawnBy.cls yX11_drawnBy yX11_drawnBy ∈ gt_T := gt_p8 13 rfl
theorem pd_X11_drawnBy : yX11_drawnBy.cls ≠ "java/lang/invoke/MethodHandle" ∧ yX11_drawnBy.cls ≠ "java/lang/invoke/VarHandle" ∧ (parseMethodDescriptor yX11_drawnBy.desc).map (fun d => d.parameters.length) = some 1 := by decide +kernel
theorem cw_X11_drawAll : Cond.code yX11_drawAll cX11_drawAll 6 (some .int) ∈ gt_T := gt_t9 72 rfl rfl
theorem im_X11_drawAll : Cond.instanceMethod yX11_drawAll ∈ gt_T := gt_t9 71 rfl rfl
theorem sl_X11_drawAll : Cond.selects yX11_drawAll.cls yX11_drawAll yX11_drawAll ∈ gt_T := gt_p8 11 rfl
theorem pd_X11_drawAll : yX11_drawAll.cls ≠ "java/lang/invoke/MethodHandle" ∧ yX11_drawAll.cls ≠ "java/lang/invoke/VarHandle" ∧ (parseMethodDescriptor yX11_drawAll.desc).map (fun d => d.parameters.length) = some 0 := by decide +kernel
theorem cw_X11_wed : Cond.code yX11_wed cX11_wed 4 (some .int) ∈ gt_T := gt_t9 68 rfl rfl
theorem im_X11_wed : Cond.instanceMethod yX11_wed ∈ gt_T := gt_t9 66 rfl rfl
theorem sl_X11_wed : Cond.selects yX11_wed.cls yX11_wed yX11_wed ∈ gt_T := gt_t9 67 rfl rfl
theorem pd_X11_wed : yX11_wed.cls ≠ "java/lang/invoke/MethodHandle" ∧ yX11_wed.cls ≠ "java/lang/invoke/VarHandle" ∧ (parseMethodDescriptor yX11_wed.desc).map (fun d => d.parameters.length) = some 1 := by decide +kernel
theorem cw_X11_had : Cond.code yX11_had cX11_had 2 (some .int) ∈ gt_T := gt_t9 91 rfl rfl
theorem im_X11_had : Cond.instanceMethod yX11_had ∈ gt_T := gt_t9 89 rfl rfl
theorem sl_X11_had : Cond.selects yX11_had.cls yX11_had yX11_had ∈ gt_T := gt_t9 90 rfl rfl
theorem pd_X11_had : yX11_had.cls ≠ "java/lang/invoke/MethodHandle" ∧ yX11_had.cls ≠ "java/lang/invoke/VarHandle" ∧ (parseMethodDescriptor yX11_had.desc).map (fun d => d.parameters.length) = some 1 := by decide +kernel
theorem cw_X11_brought : Cond.code yX11_brought cX11_brought 2 (some .int) ∈ gt_T := gt_t9 95 rfl rfl
theorem im_X11_brought : Cond.instanceMethod yX11_brought ∈ gt_T := gt_t9 93 rfl rfl
theorem sl_X11_brought : Cond.selects yX11_brought.cls yX11_brought yX11_brought ∈ gt_T := gt_t9 94 rfl rfl
theorem pd_X11_brought : yX11_brought.cls ≠ "java/lang/invoke/MethodHandle" ∧ yX11_brought.cls ≠ "java/lang/invoke/VarHandle" ∧ (parseMethodDescriptor yX11_brought.desc).map (fun d => d.parameters.length) = some 1 := by decide +kernel
theorem cw_X11_round : Cond.code yX11_round cX11_round 5 (some .int) ∈ gt_T := gt_t9 99 rfl rfl
theorem im_X11_round : Cond.instanceMethod yX11_round ∈ gt_T := gt_t9 97 rfl rfl
theorem sl_X11_round : Cond.selects yX11_round.cls yX11_round yX11_round ∈ gt_T := gt_t9 98 rfl rfl
theorem pd_X11_round : yX11_round.cls ≠ "java/lang/invoke/MethodHandle" ∧ yX11_round.cls ≠ "java/lang/invoke/VarHandle" ∧ (parseMethodDescriptor yX11_round.desc).map (fun d => d.parameters.length) = some 2 := by decide +kernel
theorem cw_X11_change_ : Cond.code yX11_change_ cX11_change_ 16 (some .int) ∈ gt_T := gt_t9 103 rfl rfl
theorem im_X11_change_ : Cond.instanceMethod yX11_change_ ∈ gt_T := gt_t9 101 rfl rfl
theorem sl_X11_change_ : Cond.selects yX11_change_.cls yX11_change_ yX11_change_ ∈ gt_T := gt_t9 102 rfl rfl
theorem pd_X11_change_ : yX11_change_.cls ≠ "java/lang/invoke/MethodHandle" ∧ yX11_change_.cls ≠ "java/lang/invoke/VarHandle" ∧ (parseMethodDescriptor yX11_change_.desc).map (fun d => d.parameters.length) = some 6 := by decide +kernel
theorem cw_X11_likedBy : Cond.code yX11_likedBy cX11_likedBy 6 (some .int) ∈ gt_T := gt_t9 111 rfl rfl
theorem im_X11_likedBy : Cond.instanceMethod yX11_likedBy ∈ gt_T := gt_t9 110 rfl rfl
theorem sl_X11_likedBy : Cond.selects yX11_likedBy.cls yX11_likedBy yX11_likedBy ∈ gt_T := gt_p8 15 rfl
theorem pd_X11_likedBy : yX11_likedBy.cls ≠ "java/lang/invoke/MethodHandle" ∧ yX11_likedBy.cls ≠ "java/lang/invoke/VarHandle" ∧ (parseMethodDescriptor yX11_likedBy.desc).map (fun d => d.parameters.length) = some 1 := by decide +kernel
theorem cw_X11_sure : Cond.code yX11_sure cX11_sure 7 (some .int) ∈ gt_T := gt_t9 107 rfl rfl
theorem im_X11_sure : Cond.instanceMethod yX11_sure ∈ gt_T := gt_t9 105 rfl rfl
theorem sl_X11_sure : Cond.selects yX11_sure.cls yX11_sure yX11_sure ∈ gt_T := gt_t9 106 rfl rfl
theorem pd_X11_sure : yX11_sure.cls ≠ "java/lang/invoke/MethodHandle" ∧ yX11_sure.cls ≠ "java/lang/invoke/VarHandle" ∧ (parseMethodDescriptor yX11_sure.desc).map (fun d => d.parameters.length) = some 1 := by decide +kernel
theorem cw_X11_count : Cond.code yX11_count cX11_count 2 (some .int) ∈ gt_T := gt_t9 115 rfl rfl
theorem im_X11_count : Cond.instanceMethod yX11_count ∈ gt_T := gt_t9 113 rfl rfl
theorem sl_X11_count : Cond.selects yX11_count.cls yX11_count yX11_count ∈ gt_T := gt_t9 114 rfl rfl
theorem pd_X11_count : yX11_count.cls ≠ "java/lang/invoke/MethodHandle" ∧ yX11_count.cls ≠ "java/lang/invoke/VarHandle" ∧ (parseMethodDescriptor yX11_count.desc).map (fun d => d.parameters.length) = some 1 := by decide +kernel
theorem cw_X11_status : Cond.code yX11_status cX11_status 1 (some .int) ∈ gt_T := gt_t9 119 rfl rfl
theorem im_X11_status : Cond.instanceMethod yX11_status ∈ gt_T := gt_t9 117 rfl rfl
theorem sl_X11_status : Cond.selects yX11_status.cls yX11_status yX11_status ∈ gt_T := gt_t9 118 rfl rfl
theorem pd_X11_status : yX11_status.cls ≠ "java/lang/invoke/MethodHandle" ∧ yX11_status.cls ≠ "java/lang/invoke/VarHandle" ∧ (parseMethodDescriptor yX11_status.desc).map (fun d => d.parameters.length) = some 0 := by decide +kernel
theorem cw_J0 : Cond.code yJ0 cJ0 2 (some .int) ∈ gt_T := gt_t4 167 rfl rfl
theorem st_J0 : Cond.static yJ0 ∈ gt_T := gt_t4 166 rfl rfl
theorem pd_J0 : yJ0.cls ≠ "java/lang/invoke/MethodHandle" ∧ yJ0.cls ≠ "java/lang/invoke/VarHandle" ∧ (parseMethodDescriptor yJ0.desc).map (fun d => d.parameters.length) = some 2 := by decide +kernel
theorem cw_J1 : Cond.code yJ1 cJ1 2 (some .int) ∈ gt_T := gt_t4 21 rfl rfl
theorem st_J1 : Cond.static yJ1 ∈ gt_T := gt_t4 20 rfl rfl
theorem pd_J1 : yJ1.cls ≠ "java/lang/invoke/MethodHandle" ∧ yJ1.cls ≠ "java/lang/invoke/VarHandle" ∧ (parseMethodDescriptor yJ1.desc).map (fun d => d.parameters.length) = some 2 := by decide +kernel
theorem cw_J2 : Cond.code yJ2 cJ2 4 (some .long) ∈ gt_T := gt_t4 179 rfl rfl
theorem st_J2 : Cond.static yJ2 ∈ gt_T := gt_t4 178 rfl rfl
theorem pd_J2 : yJ2.cls ≠ "java/lang/invoke/MethodHandle" ∧ yJ2.cls ≠ "java/lang/invoke/VarHandle" ∧ (parseMethodDescriptor yJ2.desc).map (fun d => d.parameters.length) = some 2 := by decide +kernel
theorem cw_J3 : Cond.code yJ3 cJ3 4 (some .long) ∈ gt_T := gt_t4 176 rfl rfl
theorem st_J3 : Cond.static yJ3 ∈ gt_T := gt_t4 175 rfl rfl
theorem pd_J3 : yJ3.cls ≠ "java/lang/invoke/MethodHandle" ∧ yJ3.cls ≠ "java/lang/invoke/VarHandle" ∧ (parseMethodDescriptor yJ3.desc).map (fun d => d.parameters.length) = some 2 := by decide +kernel
theorem cw_J4 : Cond.code yJ4 cJ4 3 none ∈ gt_T := gt_t5 2 rfl rfl
theorem st_J4 : Cond.static yJ4 ∈ gt_T := gt_t5 1 rfl rfl
theorem pd_J4 : yJ4.cls ≠ "java/lang/invoke/MethodHandle" ∧ yJ4.cls ≠ "java/lang/invoke/VarHandle" ∧ (parseMethodDescriptor yJ4.desc).map (fun d => d.parameters.length) = some 3 := by decide +kernel
theorem cw_J5 : Cond.code yJ5 cJ5 4 none ∈ gt_T := gt_t1 38 rfl rfl
theorem st_J5 : Cond.static yJ5 ∈ gt_T := gt_t1 37 rfl rfl
theorem pd_J5 : yJ5.cls ≠ "java/lang/invoke/MethodHandle" ∧ yJ5.cls ≠ "java/lang/invoke/VarHandle" ∧ (parseMethodDescriptor yJ5.desc).map (fun d => d.parameters.length) = some 2 := by decide +kernel
theorem cw_J6 : Cond.code yJ6 cJ6 5 none ∈ gt_T := gt_t5 77 rfl rfl
theorem st_J6 : Cond.static yJ6 ∈ gt_T := gt_t5 76 rfl rfl
theorem pd_J6 : yJ6.cls ≠ "java/lang/invoke/MethodHandle" ∧ yJ6.cls ≠ "java/lang/invoke/VarHandle" ∧ (parseMethodDescriptor yJ6.desc).map (fun d => d.parameters.length) = some 4 := by decide +kernel
theorem cw_J7 : Cond.code yJ7 cJ7 5 none ∈ gt_T := gt_t5 8 rfl rfl
theorem st_J7 : Cond.static yJ7 ∈ gt_T := gt_t5 7 rfl rfl
theorem pd_J7 : yJ7.cls ≠ "java/lang/invoke/MethodHandle" ∧ yJ7.cls ≠ "java/lang/invoke/VarHandle" ∧ (parseMethodDescriptor yJ7.desc).map (fun d => d.parameters.length) = some 2 := by decide +kernel
theorem cw_J8 : Cond.code yJ8 cJ8 6 none ∈ gt_T := gt_t4 239 rfl rfl
theorem st_J8 : Cond.static yJ8 ∈ gt_T := gt_t4 238 rfl rfl
theorem pd_J8 : yJ8.cls ≠ "java/lang/invoke/MethodHandle" ∧ yJ8.cls ≠ "java/lang/invoke/VarHandle" ∧ (parseMethodDescriptor yJ8.desc).map (fun d => d.parameters.length) = some 4 := by decide +kernel
theorem ln_X0_51 : Cond.methodLink RX0 51 yX0_shapeLevels ∈ gt_T := gt_t5 138 rfl rfl
theorem ln_X0_54 : Cond.methodLink RX0 54 yX0_countHeaps ∈ gt_T := gt_t5 148 rfl rfl
theorem ln_X0_64 : Cond.methodLink RX0 64 yX0_spread ∈ gt_T := gt_t5 160 rfl rfl
theorem ln_X0_75 : Cond.methodLink RX0 75 yX0_monomial ∈ gt_T := gt_t5 142 rfl rfl
theorem ln_X0_79 : Cond.methodLink RX0 79 yX0_degree ∈ gt_T := gt_t5 145 rfl rfl
theorem ln_X0_83 : Cond.methodLink RX0 83 yX0_factorial ∈ gt_T := gt_t5 152 rfl rfl
theorem ln_X0_87 : Cond.methodLink RX0 87 yX0_powerOf ∈ gt_T := gt_t5 155 rfl rfl
theorem ln_X0_91 : Cond.methodLink RX0 91 yX1_weigh ∈ gt_T := gt_t5 158 rfl rfl
theorem ln_X0_100 : Cond.methodLink RX0 100 yX0_putFirst ∈ gt_T := gt_t5 164 rfl rfl
theorem ln_X0_104 : Cond.methodLink RX0 104 yX0_putIn ∈ gt_T := gt_t5 168 rfl rfl
theorem ln_X0_107 : Cond.methodLink RX0 107 yX0_compare ∈ gt_T := gt_t5 172 rfl rfl
theorem ln_X0_110 : Cond.methodLink RX0 110 arraycopyName ∈ gt_T := gt_t5 176 rfl rfl
theorem ln_X1_58 : Cond.methodLink RX1 58 yX6_fact ∈ gt_T := gt_t4 196 rfl rfl
theorem ln_X1_62 : Cond.methodLink RX1 62 yJ1 ∈ gt_T := gt_t4 197 rfl rfl
theorem ln_X1_67 : Cond.methodLink RX1 67 yX1_makeUp ∈ gt_T := gt_t4 198 rfl rfl
theorem ln_X1_86 : Cond.methodLink RX1 86 yX1_weigh ∈ gt_T := gt_t4 232 rfl rfl
theorem ln_X1_99 : Cond.methodLink RX1 99 yX1_tryChange ∈ gt_T := gt_t6 56 rfl rfl
theorem ln_X1_103 : Cond.methodLink RX1 103 yX1_shape ∈ gt_T := gt_t4 223 rfl rfl
theorem ln_X1_107 : Cond.methodLink RX1 107 arraycopyName ∈ gt_T := gt_t4 231 rfl rfl
theorem ln_X1_113 : Cond.methodLink RX1 113 yX1_grow ∈ gt_T := gt_t4 227 rfl rfl
theorem ln_X2_51 : Cond.methodLink RX2 51 yJ8 ∈ gt_T := gt_t4 237 rfl rfl
theorem ln_X2_57 : Cond.methodLink RX2 57 yX2_set ∈ gt_T := gt_t5 3 rfl rfl
theorem ln_X2_61 : Cond.methodLink RX2 61 yX2_addMoney ∈ gt_T := gt_t5 9 rfl rfl
theorem ln_X2_65 : Cond.methodLink RX2 65 yX2_addGifts ∈ gt_T := gt_t5 25 rfl rfl
theorem ln_X2_69 : Cond.methodLink RX2 69 yX2_carryAll ∈ gt_T := gt_t5 33 rfl rfl
theorem ln_X2_76 : Cond.methodLink RX2 76 yX2_meanOf ∈ gt_T := gt_t5 37 rfl rfl
theorem ln_X2_86 : Cond.methodLink RX2 86 yX3_chanceSum ∈ gt_T := gt_t5 13 rfl rfl
theorem ln_X2_90 : Cond.methodLink RX2 90 arraycopyName ∈ gt_T := gt_t5 14 rfl rfl
theorem ln_X2_99 : Cond.methodLink RX2 99 yX2_multiply ∈ gt_T := gt_t5 15 rfl rfl
theorem ln_X2_105 : Cond.methodLink RX2 105 yX2_add ∈ gt_T := gt_t5 22 rfl rfl
theorem ln_X2_109 : Cond.methodLink RX2 109 yX1_after ∈ gt_T := gt_t5 29 rfl rfl
theorem ln_X2_115 : Cond.methodLink RX2 115 yX2_carry ∈ gt_T := gt_t5 18 rfl rfl
theorem ln_X2_119 : Cond.methodLink RX2 119 yX2_quotient ∈ gt_T := gt_t5 41 rfl rfl
theorem ln_X2_123 : Cond.methodLink RX2 123 yX2_below ∈ gt_T := gt_t5 45 rfl rfl
theorem ln_X2_127 : Cond.methodLink RX2 127 yX2_subtract ∈ gt_T := gt_t5 48 rfl rfl
theorem ln_X2_130 : Cond.methodLink RX2 130 yX2_halve ∈ gt_T := gt_t5 51 rfl rfl
theorem ln_X2_133 : Cond.methodLink RX2 133 yJ7 ∈ gt_T := gt_t5 6 rfl rfl
theorem ln_X3_60 : Cond.methodLink RX3 60 yX6_isGiver ∈ gt_T := gt_t4 130 rfl rfl
theorem ln_X3_64 : Cond.methodLink RX3 64 yX3_seatGiver ∈ gt_T := gt_t4 131 rfl rfl
theorem ln_X3_68 : Cond.methodLink RX3 68 yX6_purseOf ∈ gt_T := gt_t4 135 rfl rfl
theorem ln_X3_84 : Cond.methodLink RX3 84 yX6_fact ∈ gt_T := gt_t4 136 rfl rfl
theorem ln_X3_88 : Cond.methodLinkNest RX3 88 yX10_within "GiftTable" ∈ gt_N := gt_Ni 1055 (by decide +kernel) rfl
theorem ln_X3_92 : Cond.methodLink RX3 92 yX3_clauseWeight ∈ gt_T := gt_t4 148 rfl rfl
theorem ln_X3_96 : Cond.methodLink RX3 96 yX6_wayOf ∈ gt_T := gt_t4 152 rfl rfl
theorem ln_X3_103 : Cond.methodLink RX3 103 yX7_tells ∈ gt_T := gt_t4 156 rfl rfl
theorem ln_X3_107 : Cond.methodLink RX3 107 yJ5 ∈ gt_T := gt_t4 214 rfl rfl
theorem ln_X3_113 : Cond.methodLink RX3 113 yX3_chanceSum ∈ gt_T := gt_t4 215 rfl rfl
theorem ln_X3_116 : Cond.methodLink RX3 116 yX3_likedBest ∈ gt_T := gt_t6 68 rfl rfl
theorem ln_X4_42 : Cond.methodLink RX4 42 yX3_canBring ∈ gt_T := gt_t5 206 rfl rfl
theorem ln_X4_46 : Cond.methodLink RX4 46 yJ5 ∈ gt_T := gt_t5 218 rfl rfl
theorem ln_X4_60 : Cond.methodLink RX4 60 yX4_choiceBy ∈ gt_T := gt_t5 203 rfl rfl
theorem ln_X4_67 : Cond.methodLink RX4 67 yX1_weigh ∈ gt_T := gt_t5 219 rfl rfl
theorem ln_X4_76 : Cond.methodLink RX4 76 yX4_gatherCandidates ∈ gt_T := gt_t5 191 rfl rfl
theorem ln_X4_83 : Cond.methodLink RX4 83 yX4_tryBounds ∈ gt_T := gt_t5 195 rfl rfl
theorem ln_X4_91 : Cond.methodLink RX4 91 yX4_tryRule ∈ gt_T := gt_t5 199 rfl rfl
theorem ln_X4_95 : Cond.methodLink RX4 95 yX1_after ∈ gt_T := gt_t5 207 rfl rfl
theorem ln_X4_99 : Cond.methodLink RX4 99 yX3_moneyBy ∈ gt_T := gt_t5 208 rfl rfl
theorem ln_X4_105 : Cond.methodLink RX4 105 arraycopyName ∈ gt_T := gt_t5 209 rfl rfl
theorem ln_X4_114 : Cond.methodLink RX4 114 yX4_lay ∈ gt_T := gt_t5 232 rfl rfl
theorem ln_X4_121 : Cond.methodLink RX4 121 yX4_goRound ∈ gt_T := gt_t5 236 rfl rfl
theorem ln_X4_125 : Cond.methodLink RX4 125 yX4_valueNow ∈ gt_T := gt_t6 0 rfl rfl
theorem ln_X5_68 : Cond.methodLink RX5 68 yX5_rowKind ∈ gt_T := gt_t3 205 rfl rfl
theorem ln_X5_72 : Cond.methodLink RX5 72 yX5_tokenOf ∈ gt_T := gt_t3 209 rfl rfl
theorem ln_X5_76 : Cond.methodLink RX5 76 yX5_addToken ∈ gt_T := gt_t4 22 rfl rfl
theorem ln_X5_80 : Cond.methodLinkNest RX5 80 yX10_within "GiftTable" ∈ gt_N := gt_Ni 688 (by decide +kernel) rfl
theorem ln_X5_84 : Cond.methodLink RX5 84 yX5_wordOf ∈ gt_T := gt_t3 212 rfl rfl
theorem ln_X5_87 : Cond.methodLink RX5 87 yX5_numberOf ∈ gt_T := gt_t4 16 rfl rfl
theorem ln_X5_98 : Cond.methodLink RX5 98 yJ1 ∈ gt_T := gt_t4 19 rfl rfl
theorem ln_X5_49 : Cond.methodLink RX5 49 yX5_takes ∈ gt_T := gt_t4 30 rfl rfl
theorem ln_X5_53 : Cond.methodLink RX5 53 yX5_fail ∈ gt_T := gt_t4 34 rfl rfl
theorem ln_X5_104 : Cond.methodLink RX5 104 yX5_readSum ∈ gt_T := gt_t4 38 rfl rfl
theorem ln_X5_108 : Cond.methodLink RX5 108 yX5_readTest ∈ gt_T := gt_t4 62 rfl rfl
theorem ln_X5_111 : Cond.methodLink RX5 111 yX5_readBoth ∈ gt_T := gt_t4 66 rfl rfl
theorem ln_X5_114 : Cond.methodLink RX5 114 yX5_write ∈ gt_T := gt_t4 58 rfl rfl
theorem ln_X5_117 : Cond.methodLink RX5 117 yX5_fill ∈ gt_T := gt_t4 78 rfl rfl
theorem ln_X5_120 : Cond.methodLink RX5 120 yX5_readPlain ∈ gt_T := gt_t4 70 rfl rfl
theorem ln_X5_123 : Cond.methodLink RX5 123 yX5_opens ∈ gt_T := gt_t4 50 rfl rfl
theorem ln_X5_127 : Cond.methodLink RX5 127 yX5_closes ∈ gt_T := gt_t4 54 rfl rfl
theorem ln_X5_131 : Cond.methodLink RX5 131 yX5_readComparison ∈ gt_T := gt_t4 74 rfl rfl
theorem ln_X5_134 : Cond.methodLink RX5 134 yX5_readTerm ∈ gt_T := gt_t4 42 rfl rfl
theorem ln_X5_137 : Cond.methodLink RX5 137 yX5_readPart ∈ gt_T := gt_t4 46 rfl rfl
theorem ln_X6_58 : Cond.methodLink RX6 58 arraycopyName ∈ gt_T := gt_t6 80 rfl rfl
theorem ln_X6_70 : Cond.methodLinkNest RX6 70 yX10_within "GiftTable" ∈ gt_N := gt_Ni 593 (by decide +kernel) rfl
theorem ln_X6_74 : Cond.methodLink RX6 74 yX6_isGiver ∈ gt_T := gt_t6 93 rfl rfl
theorem ln_X7_18 : Cond.methodLink RX7 18 yX7_reckon ∈ gt_T := gt_t4 160 rfl rfl
theorem ln_X7_26 : Cond.methodLink RX7 26 yJ3 ∈ gt_T := gt_t4 174 rfl rfl
theorem ln_X7_32 : Cond.methodLink RX7 32 yJ2 ∈ gt_T := gt_t4 177 rfl rfl
theorem ln_X7_35 : Cond.methodLink RX7 35 yJ0 ∈ gt_T := gt_t4 165 rfl rfl
theorem ln_X7_38 : Cond.methodLink RX7 38 yX7_join ∈ gt_T := gt_t4 168 rfl rfl
theorem ln_X8_44 : Cond.methodLink RX8 44 arraycopyName ∈ gt_T := gt_t5 74 rfl rfl
theorem ln_X8_50 : Cond.methodLink RX8 50 yJ6 ∈ gt_T := gt_t5 75 rfl rfl
theorem ln_X8_56 : Cond.methodLink RX8 56 yX8_workLayer ∈ gt_T := gt_t5 78 rfl rfl
theorem ln_X8_60 : Cond.methodLink RX8 60 yX8_walkFirst ∈ gt_T := gt_t5 87 rfl rfl
theorem ln_X8_64 : Cond.methodLink RX8 64 yX1_after ∈ gt_T := gt_t5 82 rfl rfl
theorem ln_X8_68 : Cond.methodLink RX8 68 yX3_moneyBy ∈ gt_T := gt_t5 83 rfl rfl
theorem ln_X8_74 : Cond.methodLink RX8 74 yX3_canBring ∈ gt_T := gt_t5 91 rfl rfl
theorem ln_X8_78 : Cond.methodLink RX8 78 yX8_valueAfter ∈ gt_T := gt_t5 96 rfl rfl
theorem ln_X8_94 : Cond.methodLink RX8 94 yX8_tryLayer ∈ gt_T := gt_t5 121 rfl rfl
theorem ln_X8_97 : Cond.methodLink RX8 97 yJ0 ∈ gt_T := gt_t5 125 rfl rfl
theorem ln_X9_29 : Cond.methodLink RX9 29 yJ5 ∈ gt_T := gt_t6 17 rfl rfl
theorem ln_X9_48 : Cond.methodLink RX9 48 yX9_choose ∈ gt_T := gt_t6 18 rfl rfl
theorem ln_X9_55 : Cond.methodLink RX9 55 yX1_weigh ∈ gt_T := gt_t6 27 rfl rfl
theorem ln_X9_68 : Cond.methodLink RX9 68 yX9_bestByList ∈ gt_T := gt_t6 22 rfl rfl
theorem ln_X9_72 : Cond.methodLink RX9 72 yX9_drawnChoice ∈ gt_T := gt_t6 28 rfl rfl
theorem ln_X9_79 : Cond.methodLink RX9 79 yX3_canBring ∈ gt_T := gt_t6 26 rfl rfl
theorem ln_X9_89 : Cond.methodLink RX9 89 yX3_chanceSum ∈ gt_T := gt_t6 35 rfl rfl
theorem ln_X10_97 : Cond.methodLink RX10 97 yX10_thingFactCanBe ∈ gt_T := gt_t3 87 rfl rfl
theorem ln_X10_101 : Cond.methodLink RX10 101 yX10_refuse ∈ gt_T := gt_t3 93 rfl rfl
theorem ln_X10_111 : Cond.methodLink RX10 111 yX10_altered ∈ gt_T := gt_t3 97 rfl rfl
theorem ln_X10_114 : Cond.methodLink RX10 114 yX6_hasThing ∈ gt_T := gt_t3 109 rfl rfl
theorem ln_X10_118 : Cond.methodLink RX10 118 yX10_within ∈ gt_T := gt_t3 90 rfl rfl
theorem ln_X10_131 : Cond.methodLink RX10 131 yX10_guestCanBe ∈ gt_T := gt_t3 126 rfl rfl
theorem ln_X10_138 : Cond.methodLink RX10 138 yX6_addGuest ∈ gt_T := gt_t3 129 rfl rfl
theorem ln_X10_142 : Cond.methodLink RX10 142 yX6_hasGuest ∈ gt_T := gt_t3 137 rfl rfl
theorem ln_X10_151 : Cond.methodLink RX10 151 yX6_part ∈ gt_T := gt_t3 149 rfl rfl
theorem ln_X10_155 : Cond.methodLink RX10 155 yX6_isWithThird ∈ gt_T := gt_t3 153 rfl rfl
theorem ln_X10_167 : Cond.methodLink RX10 167 yX6_isGiver ∈ gt_T := gt_t3 165 rfl rfl
theorem ln_X10_170 : Cond.methodLink RX10 170 yX6_purseOf ∈ gt_T := gt_t3 169 rfl rfl
theorem ln_X10_176 : Cond.methodLink RX10 176 yX10_feedFour ∈ gt_T := gt_t3 177 rfl rfl
theorem ln_X10_200 : Cond.methodLink RX10 200 yX10_giverOf ∈ gt_T := gt_t4 122 rfl rfl
theorem ln_X10_203 : Cond.methodLink RX10 203 yX10_isChoice ∈ gt_T := gt_t4 140 rfl rfl
theorem ln_X10_206 : Cond.methodLink RX10 206 yX3_weightOf ∈ gt_T := gt_t4 144 rfl rfl
theorem ln_X10_210 : Cond.methodLink RX10 210 yX10_tellHeap ∈ gt_T := gt_t4 184 rfl rfl
theorem ln_X10_213 : Cond.methodLink RX10 213 yX1_weigh ∈ gt_T := gt_t4 192 rfl rfl
theorem ln_X10_226 : Cond.methodLink RX10 226 yX10_workMean ∈ gt_T := gt_t4 206 rfl rfl
theorem ln_X10_235 : Cond.methodLink RX10 235 yX3_seat ∈ gt_T := gt_t4 126 rfl rfl
theorem ln_X10_239 : Cond.methodLink RX10 239 yX3_fillChances ∈ gt_T := gt_t4 210 rfl rfl
theorem ln_X10_242 : Cond.methodLink RX10 242 yX2_lacking ∈ gt_T := gt_t5 58 rfl rfl
theorem ln_X10_246 : Cond.methodLink RX10 246 yX10_speakOut ∈ gt_T := gt_t5 66 rfl rfl
theorem ln_X10_249 : Cond.methodLink RX10 249 yX8_greatest ∈ gt_T := gt_t5 100 rfl rfl
theorem ln_X10_253 : Cond.methodLink RX10 253 yX8_countedWays ∈ gt_T := gt_t5 104 rfl rfl
theorem ln_X10_261 : Cond.methodLink RX10 261 yX3_canBring ∈ gt_T := gt_t5 116 rfl rfl
theorem ln_X10_264 : Cond.methodLink RX10 264 yX8_lessWith ∈ gt_T := gt_t5 117 rfl rfl
theorem ln_X10_268 : Cond.methodLink RX10 268 yX0_work ∈ gt_T := gt_t5 134 rfl rfl
theorem ln_X10_275 : Cond.methodLink RX10 275 yX0_tenthsOf ∈ gt_T := gt_t5 179 rfl rfl
theorem ln_X10_282 : Cond.methodLink RX10 282 yX1_price ∈ gt_T := gt_t4 219 rfl rfl
theorem ln_X10_286 : Cond.methodLink RX10 286 yX4_findRule ∈ gt_T := gt_t5 187 rfl rfl
theorem ln_X10_296 : Cond.methodLink RX10 296 yX10_fillTold ∈ gt_T := gt_t4 188 rfl rfl
theorem ln_X10_300 : Cond.methodLink RX10 300 yX4_valueBy ∈ gt_T := gt_t5 214 rfl rfl
theorem ln_X10_304 : Cond.methodLink RX10 304 yX10_settle ∈ gt_T := gt_t5 224 rfl rfl
theorem ln_X10_323 : Cond.methodLink RX10 323 yX9_hold ∈ gt_T := gt_t6 13 rfl rfl
theorem ln_X10_194 : Cond.methodLink RX10 194 yX10_accept ∈ gt_T := gt_t3 101 rfl rfl
theorem ln_X10_341 : Cond.methodLink RX10 341 yX1_findChange ∈ gt_T := gt_t6 52 rfl rfl
theorem ln_X10_354 : Cond.methodLink RX10 354 yX3_mostLiked ∈ gt_T := gt_t6 64 rfl rfl
theorem ln_X10_358 : Cond.methodLink RX10 358 yX6_copyFrom ∈ gt_T := gt_t6 76 rfl rfl
theorem ln_X10_362 : Cond.methodLink RX10 362 yX6_countGivers ∈ gt_T := gt_t6 89 rfl rfl
theorem ln_X10_371 : Cond.methodLink RX10 371 yX2_work ∈ gt_T := gt_t4 233 rfl rfl
theorem ln_X10_373 : Cond.methodLink RX10 373 yX8_work ∈ gt_T := gt_t5 70 rfl rfl
theorem ln_X10_374 : Cond.methodLink RX10 374 yX4_settle ∈ gt_T := gt_t5 228 rfl rfl
theorem ln_X11_159 : Cond.methodLink RX11 159 yX11_was ∈ gt_T := gt_t7 119 rfl rfl
theorem ln_X11_163 : Cond.methodLink RX11 163 yX11_in ∈ gt_T := gt_t7 86 rfl rfl
theorem ln_X11_167 : Cond.methodLink RX11 167 yX11_tell ∈ gt_T := gt_t7 89 rfl rfl
theorem ln_X11_176 : Cond.methodLink RX11 176 yX11_fits ∈ gt_T := gt_t7 101 rfl rfl
theorem ln_X11_180 : Cond.methodLink RX11 180 yX11_isThing ∈ gt_T := gt_t7 111 rfl rfl
theorem ln_X11_184 : Cond.methodLink RX11 184 yX11_change ∈ gt_T := gt_t7 115 rfl rfl
theorem ln_X11_194 : Cond.methodLink RX11 194 yX11_isNew ∈ gt_T := gt_t7 136 rfl rfl
theorem ln_X11_198 : Cond.methodLink RX11 198 yX11_add ∈ gt_T := gt_t7 141 rfl rfl
theorem ln_X11_202 : Cond.methodLink RX11 202 yX11_isGuest ∈ gt_T := gt_t7 149 rfl rfl
theorem ln_X11_205 : Cond.methodLink RX11 205 yX11_ofGuest ∈ gt_T := gt_t7 161 rfl rfl
theorem ln_X11_208 : Cond.methodLink RX11 208 yX11_isGiver ∈ gt_T := gt_t7 174 rfl rfl
theorem ln_X11_213 : Cond.methodLink RX11 213 yX11_pays ∈ gt_T := gt_t7 178 rfl rfl
theorem ln_X11_222 : Cond.methodLink RX11 222 yX11_four ∈ gt_T := gt_t7 194 rfl rfl
theorem ln_X11_233 : Cond.methodLink RX11 233 yX11_next ∈ gt_T := gt_t7 214 rfl rfl
theorem ln_X11_243 : Cond.methodLink RX11 243 yX11_isSmall ∈ gt_T := gt_t7 218 rfl rfl
theorem ln_X11_246 : Cond.methodLink RX11 246 yX11_isDigit ∈ gt_T := gt_t7 221 rfl rfl
theorem ln_X11_274 : Cond.methodLink RX11 274 yX11_binds ∈ gt_T := gt_t8 46 rfl rfl
theorem ln_X11_277 : Cond.methodLink RX11 277 yX11_emit ∈ gt_T := gt_t8 38 rfl rfl
theorem ln_X11_289 : Cond.methodLink RX11 289 yX11_isWord ∈ gt_T := gt_t7 235 rfl rfl
theorem ln_X11_264 : Cond.methodLink RX11 264 yX11_must ∈ gt_T := gt_t8 0 rfl rfl
theorem ln_X11_296 : Cond.methodLink RX11 296 yX11_push ∈ gt_T := gt_t8 13 rfl rfl
theorem ln_X11_302 : Cond.methodLink RX11 302 yX11_isSign ∈ gt_T := gt_t8 17 rfl rfl
theorem ln_X11_305 : Cond.methodLink RX11 305 yX11_openBracket ∈ gt_T := gt_t8 21 rfl rfl
theorem ln_X11_308 : Cond.methodLink RX11 308 yX11_partAt ∈ gt_T := gt_t8 29 rfl rfl
theorem ln_X11_314 : Cond.methodLink RX11 314 yX11_leaf ∈ gt_T := gt_t8 34 rfl rfl
theorem ln_X11_320 : Cond.methodLink RX11 320 yX11_readPart ∈ gt_T := gt_t8 25 rfl rfl
theorem ln_X11_323 : Cond.methodLink RX11 323 yX11_settle ∈ gt_T := gt_t8 49 rfl rfl
theorem ln_X11_326 : Cond.methodLink RX11 326 yX11_inner ∈ gt_T := gt_t8 53 rfl rfl
theorem ln_X11_329 : Cond.methodLink RX11 329 yX11_isCompared ∈ gt_T := gt_t8 57 rfl rfl
theorem ln_X11_337 : Cond.methodLink RX11 337 yX11_readPlain ∈ gt_T := gt_t8 8 rfl rfl
theorem ln_X11_340 : Cond.methodLink RX11 340 yX11_behindSum ∈ gt_T := gt_t8 42 rfl rfl
theorem ln_X11_344 : Cond.methodLink RX11 344 yX11_behindTest ∈ gt_T := gt_t8 65 rfl rfl
theorem ln_X11_354 : Cond.methodLink RX11 354 yX11_readExpression ∈ gt_T := gt_t8 4 rfl rfl
theorem ln_X11_359 : Cond.methodLink RX11 359 yX11_begin ∈ gt_T := gt_t7 210 rfl rfl
theorem ln_X11_362 : Cond.methodLink RX11 362 yX11_readClause ∈ gt_T := gt_t7 230 rfl rfl
theorem ln_X11_365 : Cond.methodLink RX11 365 yX11_isText ∈ gt_T := gt_t8 76 rfl rfl
theorem ln_X11_374 : Cond.methodLink RX11 374 yX11_reckon ∈ gt_T := gt_t8 113 rfl rfl
theorem ln_X11_385 : Cond.methodLink RX11 385 yX11_reckonAll ∈ gt_T := gt_t8 109 rfl rfl
theorem ln_X11_391 : Cond.methodLink RX11 391 yX11_ofThing ∈ gt_T := gt_t8 93 rfl rfl
theorem ln_X11_394 : Cond.methodLink RX11 394 yX11_givers ∈ gt_T := gt_t8 101 rfl rfl
theorem ln_X11_397 : Cond.methodLink RX11 397 yX11_isSo ∈ gt_T := gt_t8 105 rfl rfl
theorem ln_X11_400 : Cond.methodLink RX11 400 yX11_canPay ∈ gt_T := gt_t8 89 rfl rfl
theorem ln_X11_403 : Cond.methodLink RX11 403 yX11_asks ∈ gt_T := gt_t8 97 rfl rfl
theorem ln_X11_409 : Cond.methodLink RX11 409 yX11_weigh ∈ gt_T := gt_t8 85 rfl rfl
theorem ln_X11_412 : Cond.methodLink RX11 412 yX11_scale ∈ gt_T := gt_t8 135 rfl rfl
theorem ln_X11_415 : Cond.methodLink RX11 415 yX11_many ∈ gt_T := gt_t8 132 rfl rfl
theorem ln_X11_418 : Cond.methodLink RX11 418 yX11_worthOf ∈ gt_T := gt_t8 128 rfl rfl
theorem ln_X11_421 : Cond.methodLink RX11 421 yX11_all ∈ gt_T := gt_t8 138 rfl rfl
theorem ln_X11_425 : Cond.methodLink RX11 425 yX11_isHeap ∈ gt_T := gt_t8 123 rfl rfl
theorem ln_X11_430 : Cond.methodLink RX11 430 yX11_coinOf ∈ gt_T := gt_t8 181 rfl rfl
theorem ln_X11_434 : Cond.methodLink RX11 434 yX11_times ∈ gt_T := gt_t8 164 rfl rfl
theorem ln_X11_438 : Cond.methodLink RX11 438 yX11_compare ∈ gt_T := gt_t8 190 rfl rfl
theorem ln_X11_442 : Cond.methodLink RX11 442 yX11_findWorths ∈ gt_T := gt_t8 153 rfl rfl
theorem ln_X11_445 : Cond.methodLink RX11 445 yX11_setTo ∈ gt_T := gt_t8 157 rfl rfl
theorem ln_X11_448 : Cond.methodLink RX11 448 yX11_weighAll ∈ gt_T := gt_t8 160 rfl rfl
theorem ln_X11_451 : Cond.methodLink RX11 451 yX11_spreadOne ∈ gt_T := gt_t8 167 rfl rfl
theorem ln_X11_454 : Cond.methodLink RX11 454 yX11_step ∈ gt_T := gt_t8 171 rfl rfl
theorem ln_X11_457 : Cond.methodLink RX11 457 yX11_add_ ∈ gt_T := gt_t8 174 rfl rfl
theorem ln_X11_460 : Cond.methodLink RX11 460 yX11_spread ∈ gt_T := gt_t8 149 rfl rfl
theorem ln_X11_463 : Cond.methodLink RX11 463 yX11_addMoney ∈ gt_T := gt_t8 177 rfl rfl
theorem ln_X11_466 : Cond.methodLink RX11 466 yX11_ratio ∈ gt_T := gt_t8 185 rfl rfl
theorem ln_X11_469 : Cond.methodLink RX11 469 yX11_meanOf ∈ gt_T := gt_t8 145 rfl rfl
theorem ln_X11_473 : Cond.methodLink RX11 473 yX11_gatherOne ∈ gt_T := gt_t8 207 rfl rfl
theorem ln_X11_477 : Cond.methodLink RX11 477 yX11_may ∈ gt_T := gt_t8 211 rfl rfl
theorem ln_X11_480 : Cond.methodLink RX11 480 yX11_moneyOf ∈ gt_T := gt_t8 215 rfl rfl
theorem ln_X11_487 : Cond.methodLink RX11 487 yX11_isOnWay ∈ gt_T := gt_t8 228 rfl rfl
theorem ln_X11_495 : Cond.methodLink RX11 495 yX11_gather ∈ gt_T := gt_t8 202 rfl rfl
theorem ln_X11_498 : Cond.methodLink RX11 498 yX11_greatest ∈ gt_T := gt_t8 220 rfl rfl
theorem ln_X11_501 : Cond.methodLink RX11 501 yX11_findFirst ∈ gt_T := gt_t8 224 rfl rfl
theorem ln_X11_506 : Cond.methodLink RX11 506 yX11_over ∈ gt_T := gt_t9 17 rfl rfl
theorem ln_X11_510 : Cond.methodLink RX11 510 yX11_findShares ∈ gt_T := gt_t9 13 rfl rfl
theorem ln_X11_516 : Cond.methodLink RX11 516 yX11_tryTenths ∈ gt_T := gt_t9 20 rfl rfl
theorem ln_X11_519 : Cond.methodLink RX11 519 yX11_blindMean ∈ gt_T := gt_t9 24 rfl rfl
theorem ln_X11_523 : Cond.methodLink RX11 523 yX11_findBlind ∈ gt_T := gt_t9 9 rfl rfl
theorem ln_X11_526 : Cond.methodLink RX11 526 yX11_byRule ∈ gt_T := gt_t9 36 rfl rfl
theorem ln_X11_529 : Cond.methodLink RX11 529 yX11_ruleValue ∈ gt_T := gt_t9 32 rfl rfl
theorem ln_X11_532 : Cond.methodLink RX11 532 yX11_nextBounds ∈ gt_T := gt_t9 40 rfl rfl
theorem ln_X11_545 : Cond.methodLink RX11 545 yX11_goesOn ∈ gt_T := gt_t9 57 rfl rfl
theorem ln_X11_548 : Cond.methodLink RX11 548 yX11_findRest ∈ gt_T := gt_t9 52 rfl rfl
theorem ln_X11_560 : Cond.methodLink RX11 560 yX11_draw ∈ gt_T := gt_t9 81 rfl rfl
theorem ln_X11_569 : Cond.methodLink RX11 569 yX11_best ∈ gt_T := gt_t9 73 rfl rfl
theorem ln_X11_572 : Cond.methodLink RX11 572 yX11_drawnBy ∈ gt_T := gt_t9 77 rfl rfl
theorem ln_X11_575 : Cond.methodLink RX11 575 yX11_drawAll ∈ gt_T := gt_t9 69 rfl rfl
theorem ln_X11_584 : Cond.methodLink RX11 584 yX11_likedBy ∈ gt_T := gt_t9 108 rfl rfl
theorem ln_java_util_Arrays_13 : Cond.methodLink "java/util/Arrays" 13 yJ4 ∈ gt_T := gt_t5 0 rfl rfl
theorem st_acp : Cond.static arraycopyName ∈ gt_T := gt_t4 96 rfl rfl
theorem nt_acp : Cond.native arraycopyName ∈ gt_T := gt_t4 97 rfl rfl
