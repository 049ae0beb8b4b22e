/-! Names of the methods; lifted methods: the trees, the line. -/
abbrev yF_init : Nat := 0
abbrev yLn_init : Nat := 1
abbrev yRw_init : Nat := 2
abbrev yTr_init : Nat := 3
abbrev yRd_init : Nat := 4
abbrev yTy_init : Nat := 5
abbrev yCk_init : Nat := 6
abbrev yMc_init : Nat := 7
abbrev yF_type : Nat := 8
abbrev yLn_append : Nat := 9
abbrev yRw_set : Nat := 10
abbrev yF_wipe : Nat := 11
abbrev yLn_clear : Nat := 12
abbrev yF_shown : Nat := 13
abbrev yRw_get : Nat := 14
abbrev yF_run : Nat := 15
abbrev yMc_phase : Nat := 16
abbrev yMc_go : Nat := 17
abbrev yMc_enter : Nat := 18
abbrev yTr_kind : Nat := 19
abbrev yTr_number : Nat := 20
abbrev yVa_init : Nat := 21
abbrev yMc_settle : Nat := 22
abbrev yMc_fail : Nat := 23
abbrev yVa_ofReal : Nat := 24
abbrev yMc_find : Nat := 25
abbrev yVa_ofFunction : Nat := 26
abbrev yTr_first : Nat := 27
abbrev yMc_goInto : Nat := 28
abbrev yMc_leave : Nat := 29
abbrev yTr_parent : Nat := 30
abbrev yTr_second : Nat := 31
abbrev yMc_unbind : Nat := 32
abbrev yMc_giveBack : Nat := 33
abbrev yMc_finish : Nat := 34
abbrev yMc_take : Nat := 35
abbrev yMc_step : Nat := 36
abbrev yMc_operate : Nat := 37
abbrev yMc_operateOnReals : Nat := 38
abbrev yMc_operateOnNumbers : Nat := 39
abbrev yVa_ofList : Nat := 40
abbrev yMc_apply : Nat := 41
abbrev yFr_init : Nat := 42
abbrev ySc_init : Nat := 43
abbrev yMc_bindOwn : Nat := 44
abbrev yTr_third : Nat := 45
abbrev yMc_choose : Nat := 46
abbrev yMc_fits : Nat := 47
abbrev yMc_bind : Nat := 48
abbrev yMc_result : Nat := 49
abbrev yF_state : Nat := 50
abbrev yMc_failure : Nat := 51
abbrev yMc_steps : Nat := 52
abbrev yMc_allSteps : Nat := 53
abbrev yF_load : Nat := 54
abbrev yRd_reads : Nat := 55
abbrev yRw_fill : Nat := 56
abbrev yTr_clear : Nat := 57
abbrev yRd_expression : Nat := 58
abbrev yRd_breakOff : Nat := 59
abbrev yRd_next : Nat := 60
abbrev yLn_charAt : Nat := 61
abbrev yRd_function : Nat := 62
abbrev yRd_expect : Nat := 63
abbrev yRd_takes : Nat := 64
abbrev yRd_name : Nat := 65
abbrev yRd_bind : Nat := 66
abbrev yTr_add : Nat := 67
abbrev yRd_let : Nat := 68
abbrev yRd_recursion : Nat := 69
abbrev yRd_condition : Nat := 70
abbrev yRd_choice : Nat := 71
abbrev yRd_branch : Nat := 72
abbrev yRd_pattern : Nat := 73
abbrev yRd_part : Nat := 74
abbrev yRd_binder : Nat := 75
abbrev yTr_addLeaf : Nat := 76
abbrev yRd_isDigit : Nat := 77
abbrev yRd_digits : Nat := 78
abbrev yRd_constant : Nat := 79
abbrev yRd_bindAll : Nat := 80
abbrev yIn_bitCount : Nat := 81
abbrev yTr_addBranch : Nat := 82
abbrev yRd_list : Nat := 83
abbrev yRd_comparison : Nat := 84
abbrev yRd_sum : Nat := 85
abbrev yRd_product : Nat := 86
abbrev yRd_application : Nat := 87
abbrev yRd_atom : Nat := 88
abbrev yRd_plainAtom : Nat := 89
abbrev yRd_usedName : Nat := 90
abbrev yRd_numeral : Nat := 91
abbrev yRd_startsAtom : Nat := 92
abbrev yRd_operator : Nat := 93
abbrev yTr_setSecond : Nat := 94
abbrev yTr_setRoot : Nat := 95
abbrev yRd_allBound : Nat := 96
abbrev yCk_accepts : Nat := 97
abbrev yTy_clear : Nat := 98
abbrev yTy_make : Nat := 99
abbrev yTr_root : Nat := 100
abbrev yCk_infer : Nat := 101
abbrev yCk_leaf : Nat := 102
abbrev yTy_fresh : Nat := 103
abbrev yTy_list : Nat := 104
abbrev yTy_arrow : Nat := 105
abbrev yCk_typeOfName : Nat := 106
abbrev yTy_instance : Nat := 107
abbrev yTy_tooLong : Nat := 108
abbrev yTy_length : Nat := 109
abbrev yTy_resolve : Nat := 110
abbrev yTy_copy : Nat := 111
abbrev yTy_copyOf : Nat := 112
abbrev yTy_placeOf : Nat := 113
abbrev yCk_enter : Nat := 114
abbrev yCk_inferWhole : Nat := 115
abbrev yCk_demand : Nat := 116
abbrev yTy_unify : Nat := 117
abbrev yTy_link : Nat := 118
abbrev yTy_takesIn : Nat := 119
abbrev yCk_operandOf : Nat := 120
abbrev yCk_compares : Nat := 121
abbrev yCk_inferLet : Nat := 122
abbrev yCk_inferBound : Nat := 123
abbrev yTy_generalise : Nat := 124
abbrev yCk_inferRecursion : Nat := 125
abbrev yCk_inferCondition : Nat := 126
abbrev yCk_inferChoice : Nat := 127
abbrev yTr_setType : Nat := 128
abbrev yTr_size : Nat := 129
abbrev yTr_typeOf : Nat := 130
abbrev yTy_write : Nat := 131
abbrev yTy_writePart : Nat := 132
abbrev yTy_put : Nat := 133
abbrev yTr_copy : Nat := 134
abbrev yRw_copy : Nat := 135
abbrev yMc_begin : Nat := 136
abbrev yF_value : Nat := 137
abbrev yF_real : Nat := 138
abbrev yF_item : Nat := 139
abbrev yVa_itemAt : Nat := 140
abbrev yF_top : Nat := 141
abbrev yMo_init : Nat := 142
abbrev yMo_thrown : Nat := 143
abbrev yMo_type : Nat := 144
abbrev yMo_wipe : Nat := 145
abbrev yMo_load : Nat := 146
abbrev yMo_reads : Nat := 147
abbrev yMo_begin : Nat := 148
abbrev yMo_exprBegins : Nat := 149
abbrev yMo_deeper : Nat := 150
abbrev yMo_peek : Nat := 151
abbrev yMo_here : Nat := 152
abbrev yMo_after : Nat := 153
abbrev yMo_name : Nat := 154
abbrev yMo_letter : Nat := 155
abbrev yMo_want : Nat := 156
abbrev yMo_eat : Nat := 157
abbrev yMo_put : Nat := 158
abbrev yMo_exprGoesOn : Nat := 159
abbrev yMo_clauseEnds : Nat := 160
abbrev yMo_clauseBegins : Nat := 161
abbrev yMo_endsDeep : Nat := 162
abbrev yMo_operands : Nat := 163
abbrev yMo_atomBegins : Nat := 164
abbrev yMo_digit : Nat := 165
abbrev yMo_operator : Nat := 166
abbrev yMo_atom : Nat := 167
abbrev yMo_digits : Nat := 168
abbrev yMo_pattern : Nat := 169
abbrev yMo_insertSign : Nat := 170
abbrev yMo_part : Nat := 171
abbrev yMo_putSign : Nat := 172
abbrev yMo_namesFound : Nat := 173
abbrev yMo_scope : Nat := 174
abbrev yMo_bind : Nat := 175
abbrev yMo_bindPattern : Nat := 176
abbrev yMo_typesFound : Nat := 177
abbrev yMo_make : Nat := 178
abbrev yMo_typeOf : Nat := 179
abbrev yMo_push : Nat := 180
abbrev yMo_fresh : Nat := 181
abbrev yMo_instance : Nat := 182
abbrev yMo_width : Nat := 183
abbrev yMo_realType : Nat := 184
abbrev yMo_copyOf : Nat := 185
abbrev yMo_pop : Nat := 186
abbrev yMo_applied : Nat := 187
abbrev yMo_unify : Nat := 188
abbrev yMo_standsIn : Nat := 189
abbrev yMo_operation : Nat := 190
abbrev yMo_operand : Nat := 191
abbrev yMo_bindingType : Nat := 192
abbrev yMo_generalize : Nat := 193
abbrev yMo_patternTypes : Nat := 194
abbrev yMo_startProgram : Nat := 195
abbrev yMo_show : Nat := 196
abbrev yMo_shown : Nat := 197
abbrev yMo_run : Nat := 198
abbrev yMo_stepIsDue : Nat := 199
abbrev yMo_isStep : Nat := 200
abbrev yMo_execute : Nat := 201
abbrev yMo_known : Nat := 202
abbrev yMo_fail : Nat := 203
abbrev yMo_further : Nat := 204
abbrev yMo_knownValue : Nat := 205
abbrev yMo_apply : Nat := 206
abbrev yMo_kind : Nat := 207
abbrev yMo_told : Nat := 208
abbrev yMo_knownReal : Nat := 209
abbrev yMo_realOf : Nat := 210
abbrev yMo_worthIs : Nat := 211
abbrev yMo_work : Nat := 212
abbrev yMo_workReals : Nat := 213
abbrev yMo_workNumbers : Nat := 214
abbrev yMo_bindTop : Nat := 215
abbrev yMo_flow : Nat := 216
abbrev yMo_fits : Nat := 217
abbrev yMo_state : Nat := 218
abbrev yMo_value : Nat := 219
abbrev yMo_items : Nat := 220
abbrev yMo_real : Nat := 221
abbrev yMo_item : Nat := 222
abbrev yMo_top : Nat := 223
abbrev yLa_load : Nat := 224
abbrev yLa_value : Nat := 225
abbrev yLa_real : Nat := 226
abbrev yLa_item : Nat := 227
abbrev yLa_top : Nat := 228
abbrev yLa_law : Nat := 229
def B_Tr_kind5 (d : Nat) (x1 : Int) (σ : Mem) (o : Option Int) (s' : Mem) : Prop := o = some (rowv 128 σ 7 x1) ∧ s' = σ
theorem M_Tr_kind5 {d : Nat} {x1 : Int} {σ s' : Mem} {o : Option Int} (hx1 : rg x1) (H : B_Tr_kind5 d x1 σ o s') : Rn (d + 2) yTr_kind [.ref 5, vi x1] σ o s' := by
  refine k_m (Nat.le_of_ble_eq_true rfl) (fun hM => ?_)
  unfold B_Tr_kind5 at H
  refine k_l rfl rfl rfl ?_
  refine k_gr (t := 6) rfl rfl rfl (by decide) rfl ?_
  refine k_l rfl rfl rfl ?_
  refine k_iv (v := rowv 128 σ 7 x1) rfl rfl rfl rfl rfl (by decide) rfl hM (rn_get rfl rfl rfl rfl rfl (by decide) hx1) (fun _ q1 => ?_)
  obtain ⟨rfl, rfl⟩ := H
  exact k_r1 hM q1 rfl rfl rfl
theorem R_Tr_kind5 {d : Nat} {x1 : Int} {σ : Mem} (hx1 : rg x1) : Rn (d + 2) yTr_kind [.ref 5, vi x1] σ (some (rowv 128 σ 7 x1)) σ := M_Tr_kind5 hx1 ⟨rfl, rfl⟩
def B_Tr_kind20 (d : Nat) (x1 : Int) (σ : Mem) (o : Option Int) (s' : Mem) : Prop := o = some (rowv 128 σ 22 x1) ∧ s' = σ
theorem M_Tr_kind20 {d : Nat} {x1 : Int} {σ s' : Mem} {o : Option Int} (hx1 : rg x1) (H : B_Tr_kind20 d x1 σ o s') : Rn (d + 2) yTr_kind [.ref 20, vi x1] σ o s' := by
  refine k_m (Nat.le_of_ble_eq_true rfl) (fun hM => ?_)
  unfold B_Tr_kind20 at H
  refine k_l rfl rfl rfl ?_
  refine k_gr (t := 21) rfl rfl rfl (by decide) rfl ?_
  refine k_l rfl rfl rfl ?_
  refine k_iv (v := rowv 128 σ 22 x1) rfl rfl rfl rfl rfl (by decide) rfl hM (rn_get rfl rfl rfl rfl rfl (by decide) hx1) (fun _ q1 => ?_)
  obtain ⟨rfl, rfl⟩ := H
  exact k_r1 hM q1 rfl rfl rfl
theorem R_Tr_kind20 {d : Nat} {x1 : Int} {σ : Mem} (hx1 : rg x1) : Rn (d + 2) yTr_kind [.ref 20, vi x1] σ (some (rowv 128 σ 22 x1)) σ := M_Tr_kind20 hx1 ⟨rfl, rfl⟩
def B_Tr_number5 (d : Nat) (x1 : Int) (σ : Mem) (o : Option Int) (s' : Mem) : Prop := o = some (rowv 128 σ 9 x1) ∧ s' = σ
theorem M_Tr_number5 {d : Nat} {x1 : Int} {σ s' : Mem} {o : Option Int} (hx1 : rg x1) (H : B_Tr_number5 d x1 σ o s') : Rn (d + 2) yTr_number [.ref 5, vi x1] σ o s' := by
  refine k_m (Nat.le_of_ble_eq_true rfl) (fun hM => ?_)
  unfold B_Tr_number5 at H
  refine k_l rfl rfl rfl ?_
  refine k_gr (t := 8) rfl rfl rfl (by decide) rfl ?_
  refine k_l rfl rfl rfl ?_
  refine k_iv (v := rowv 128 σ 9 x1) rfl rfl rfl rfl rfl (by decide) rfl hM (rn_get rfl rfl rfl rfl rfl (by decide) hx1) (fun _ q1 => ?_)
  obtain ⟨rfl, rfl⟩ := H
  exact k_r1 hM q1 rfl rfl rfl
theorem R_Tr_number5 {d : Nat} {x1 : Int} {σ : Mem} (hx1 : rg x1) : Rn (d + 2) yTr_number [.ref 5, vi x1] σ (some (rowv 128 σ 9 x1)) σ := M_Tr_number5 hx1 ⟨rfl, rfl⟩
def B_Tr_number20 (d : Nat) (x1 : Int) (σ : Mem) (o : Option Int) (s' : Mem) : Prop := o = some (rowv 128 σ 24 x1) ∧ s' = σ
theorem M_Tr_number20 {d : Nat} {x1 : Int} {σ s' : Mem} {o : Option Int} (hx1 : rg x1) (H : B_Tr_number20 d x1 σ o s') : Rn (d + 2) yTr_number [.ref 20, vi x1] σ o s' := by
  refine k_m (Nat.le_of_ble_eq_true rfl) (fun hM => ?_)
  unfold B_Tr_number20 at H
  refine k_l rfl rfl rfl ?_
  refine k_gr (t := 23) rfl rfl rfl (by decide) rfl ?_
  refine k_l rfl rfl rfl ?_
  refine k_iv (v := rowv 128 σ 24 x1) rfl rfl rfl rfl rfl (by decide) rfl hM (rn_get rfl rfl rfl rfl rfl (by decide) hx1) (fun _ q1 => ?_)
  obtain ⟨rfl, rfl⟩ := H
  exact k_r1 hM q1 rfl rfl rfl
theorem R_Tr_number20 {d : Nat} {x1 : Int} {σ : Mem} (hx1 : rg x1) : Rn (d + 2) yTr_number [.ref 20, vi x1] σ (some (rowv 128 σ 24 x1)) σ := M_Tr_number20 hx1 ⟨rfl, rfl⟩
def B_Tr_first5 (d : Nat) (x1 : Int) (σ : Mem) (o : Option Int) (s' : Mem) : Prop := o = some (rowv 128 σ 11 x1) ∧ s' = σ
theorem M_Tr_first5 {d : Nat} {x1 : Int} {σ s' : Mem} {o : Option Int} (hx1 : rg x1) (H : B_Tr_first5 d x1 σ o s') : Rn (d + 2) yTr_first [.ref 5, vi x1] σ o s' := by
  refine k_m (Nat.le_of_ble_eq_true rfl) (fun hM => ?_)
  unfold B_Tr_first5 at H
  refine k_l rfl rfl rfl ?_
  refine k_gr (t := 10) rfl rfl rfl (by decide) rfl ?_
  refine k_l rfl rfl rfl ?_
  refine k_iv (v := rowv 128 σ 11 x1) rfl rfl rfl rfl rfl (by decide) rfl hM (rn_get rfl rfl rfl rfl rfl (by decide) hx1) (fun _ q1 => ?_)
  obtain ⟨rfl, rfl⟩ := H
  exact k_r1 hM q1 rfl rfl rfl
theorem R_Tr_first5 {d : Nat} {x1 : Int} {σ : Mem} (hx1 : rg x1) : Rn (d + 2) yTr_first [.ref 5, vi x1] σ (some (rowv 128 σ 11 x1)) σ := M_Tr_first5 hx1 ⟨rfl, rfl⟩
def B_Tr_first20 (d : Nat) (x1 : Int) (σ : Mem) (o : Option Int) (s' : Mem) : Prop := o = some (rowv 128 σ 26 x1) ∧ s' = σ
theorem M_Tr_first20 {d : Nat} {x1 : Int} {σ s' : Mem} {o : Option Int} (hx1 : rg x1) (H : B_Tr_first20 d x1 σ o s') : Rn (d + 2) yTr_first [.ref 20, vi x1] σ o s' := by
  refine k_m (Nat.le_of_ble_eq_true rfl) (fun hM => ?_)
  unfold B_Tr_first20 at H
  refine k_l rfl rfl rfl ?_
  refine k_gr (t := 25) rfl rfl rfl (by decide) rfl ?_
  refine k_l rfl rfl rfl ?_
  refine k_iv (v := rowv 128 σ 26 x1) rfl rfl rfl rfl rfl (by decide) rfl hM (rn_get rfl rfl rfl rfl rfl (by decide) hx1) (fun _ q1 => ?_)
  obtain ⟨rfl, rfl⟩ := H
  exact k_r1 hM q1 rfl rfl rfl
theorem R_Tr_first20 {d : Nat} {x1 : Int} {σ : Mem} (hx1 : rg x1) : Rn (d + 2) yTr_first [.ref 20, vi x1] σ (some (rowv 128 σ 26 x1)) σ := M_Tr_first20 hx1 ⟨rfl, rfl⟩
def B_Tr_second5 (d : Nat) (x1 : Int) (σ : Mem) (o : Option Int) (s' : Mem) : Prop := o = some (rowv 128 σ 13 x1) ∧ s' = σ
theorem M_Tr_second5 {d : Nat} {x1 : Int} {σ s' : Mem} {o : Option Int} (hx1 : rg x1) (H : B_Tr_second5 d x1 σ o s') : Rn (d + 2) yTr_second [.ref 5, vi x1] σ o s' := by
  refine k_m (Nat.le_of_ble_eq_true rfl) (fun hM => ?_)
  unfold B_Tr_second5 at H
  refine k_l rfl rfl rfl ?_
  refine k_gr (t := 12) rfl rfl rfl (by decide) rfl ?_
  refine k_l rfl rfl rfl ?_
  refine k_iv (v := rowv 128 σ 13 x1) rfl rfl rfl rfl rfl (by decide) rfl hM (rn_get rfl rfl rfl rfl rfl (by decide) hx1) (fun _ q1 => ?_)
  obtain ⟨rfl, rfl⟩ := H
  exact k_r1 hM q1 rfl rfl rfl
theorem R_Tr_second5 {d : Nat} {x1 : Int} {σ : Mem} (hx1 : rg x1) : Rn (d + 2) yTr_second [.ref 5, vi x1] σ (some (rowv 128 σ 13 x1)) σ := M_Tr_second5 hx1 ⟨rfl, rfl⟩
def B_Tr_second20 (d : Nat) (x1 : Int) (σ : Mem) (o : Option Int) (s' : Mem) : Prop := o = some (rowv 128 σ 28 x1) ∧ s' = σ
theorem M_Tr_second20 {d : Nat} {x1 : Int} {σ s' : Mem} {o : Option Int} (hx1 : rg x1) (H : B_Tr_second20 d x1 σ o s') : Rn (d + 2) yTr_second [.ref 20, vi x1] σ o s' := by
  refine k_m (Nat.le_of_ble_eq_true rfl) (fun hM => ?_)
  unfold B_Tr_second20 at H
  refine k_l rfl rfl rfl ?_
  refine k_gr (t := 27) rfl rfl rfl (by decide) rfl ?_
  refine k_l rfl rfl rfl ?_
  refine k_iv (v := rowv 128 σ 28 x1) rfl rfl rfl rfl rfl (by decide) rfl hM (rn_get rfl rfl rfl rfl rfl (by decide) hx1) (fun _ q1 => ?_)
  obtain ⟨rfl, rfl⟩ := H
  exact k_r1 hM q1 rfl rfl rfl
theorem R_Tr_second20 {d : Nat} {x1 : Int} {σ : Mem} (hx1 : rg x1) : Rn (d + 2) yTr_second [.ref 20, vi x1] σ (some (rowv 128 σ 28 x1)) σ := M_Tr_second20 hx1 ⟨rfl, rfl⟩
def B_Tr_third5 (d : Nat) (x1 : Int) (σ : Mem) (o : Option Int) (s' : Mem) : Prop := o = some (rowv 128 σ 15 x1) ∧ s' = σ
theorem M_Tr_third5 {d : Nat} {x1 : Int} {σ s' : Mem} {o : Option Int} (hx1 : rg x1) (H : B_Tr_third5 d x1 σ o s') : Rn (d + 2) yTr_third [.ref 5, vi x1] σ o s' := by
  refine k_m (Nat.le_of_ble_eq_true rfl) (fun hM => ?_)
  unfold B_Tr_third5 at H
  refine k_l rfl rfl rfl ?_
  refine k_gr (t := 14) rfl rfl rfl (by decide) rfl ?_
  refine k_l rfl rfl rfl ?_
  refine k_iv (v := rowv 128 σ 15 x1) rfl rfl rfl rfl rfl (by decide) rfl hM (rn_get rfl rfl rfl rfl rfl (by decide) hx1) (fun _ q1 => ?_)
  obtain ⟨rfl, rfl⟩ := H
  exact k_r1 hM q1 rfl rfl rfl
theorem R_Tr_third5 {d : Nat} {x1 : Int} {σ : Mem} (hx1 : rg x1) : Rn (d + 2) yTr_third [.ref 5, vi x1] σ (some (rowv 128 σ 15 x1)) σ := M_Tr_third5 hx1 ⟨rfl, rfl⟩
def B_Tr_third20 (d : Nat) (x1 : Int) (σ : Mem) (o : Option Int) (s' : Mem) : Prop := o = some (rowv 128 σ 30 x1) ∧ s' = σ
theorem M_Tr_third20 {d : Nat} {x1 : Int} {σ s' : Mem} {o : Option Int} (hx1 : rg x1) (H : B_Tr_third20 d x1 σ o s') : Rn (d + 2) yTr_third [.ref 20, vi x1] σ o s' := by
  refine k_m (Nat.le_of_ble_eq_true rfl) (fun hM => ?_)
  unfold B_Tr_third20 at H
  refine k_l rfl rfl rfl ?_
  refine k_gr (t := 29) rfl rfl rfl (by decide) rfl ?_
  refine k_l rfl rfl rfl ?_
  refine k_iv (v := rowv 128 σ 30 x1) rfl rfl rfl rfl rfl (by decide) rfl hM (rn_get rfl rfl rfl rfl rfl (by decide) hx1) (fun _ q1 => ?_)
  obtain ⟨rfl, rfl⟩ := H
  exact k_r1 hM q1 rfl rfl rfl
theorem R_Tr_third20 {d : Nat} {x1 : Int} {σ : Mem} (hx1 : rg x1) : Rn (d + 2) yTr_third [.ref 20, vi x1] σ (some (rowv 128 σ 30 x1)) σ := M_Tr_third20 hx1 ⟨rfl, rfl⟩
def B_Tr_parent5 (d : Nat) (x1 : Int) (σ : Mem) (o : Option Int) (s' : Mem) : Prop := o = some (rowv 128 σ 17 x1) ∧ s' = σ
theorem M_Tr_parent5 {d : Nat} {x1 : Int} {σ s' : Mem} {o : Option Int} (hx1 : rg x1) (H : B_Tr_parent5 d x1 σ o s') : Rn (d + 2) yTr_parent [.ref 5, vi x1] σ o s' := by
  refine k_m (Nat.le_of_ble_eq_true rfl) (fun hM => ?_)
  unfold B_Tr_parent5 at H
  refine k_l rfl rfl rfl ?_
  refine k_gr (t := 16) rfl rfl rfl (by decide) rfl ?_
  refine k_l rfl rfl rfl ?_
  refine k_iv (v := rowv 128 σ 17 x1) rfl rfl rfl rfl rfl (by decide) rfl hM (rn_get rfl rfl rfl rfl rfl (by decide) hx1) (fun _ q1 => ?_)
  obtain ⟨rfl, rfl⟩ := H
  exact k_r1 hM q1 rfl rfl rfl
theorem R_Tr_parent5 {d : Nat} {x1 : Int} {σ : Mem} (hx1 : rg x1) : Rn (d + 2) yTr_parent [.ref 5, vi x1] σ (some (rowv 128 σ 17 x1)) σ := M_Tr_parent5 hx1 ⟨rfl, rfl⟩
def B_Tr_parent20 (d : Nat) (x1 : Int) (σ : Mem) (o : Option Int) (s' : Mem) : Prop := o = some (rowv 128 σ 32 x1) ∧ s' = σ
theorem M_Tr_parent20 {d : Nat} {x1 : Int} {σ s' : Mem} {o : Option Int} (hx1 : rg x1) (H : B_Tr_parent20 d x1 σ o s') : Rn (d + 2) yTr_parent [.ref 20, vi x1] σ o s' := by
  refine k_m (Nat.le_of_ble_eq_true rfl) (fun hM => ?_)
  unfold B_Tr_parent20 at H
  refine k_l rfl rfl rfl ?_
  refine k_gr (t := 31) rfl rfl rfl (by decide) rfl ?_
  refine k_l rfl rfl rfl ?_
  refine k_iv (v := rowv 128 σ 32 x1) rfl rfl rfl rfl rfl (by decide) rfl hM (rn_get rfl rfl rfl rfl rfl (by decide) hx1) (fun _ q1 => ?_)
  obtain ⟨rfl, rfl⟩ := H
  exact k_r1 hM q1 rfl rfl rfl
theorem R_Tr_parent20 {d : Nat} {x1 : Int} {σ : Mem} (hx1 : rg x1) : Rn (d + 2) yTr_parent [.ref 20, vi x1] σ (some (rowv 128 σ 32 x1)) σ := M_Tr_parent20 hx1 ⟨rfl, rfl⟩
def B_Tr_typeOf5 (d : Nat) (x1 : Int) (σ : Mem) (o : Option Int) (s' : Mem) : Prop := o = some (rowv 128 σ 19 x1) ∧ s' = σ
theorem M_Tr_typeOf5 {d : Nat} {x1 : Int} {σ s' : Mem} {o : Option Int} (hx1 : rg x1) (H : B_Tr_typeOf5 d x1 σ o s') : Rn (d + 2) yTr_typeOf [.ref 5, vi x1] σ o s' := by
  refine k_m (Nat.le_of_ble_eq_true rfl) (fun hM => ?_)
  unfold B_Tr_typeOf5 at H
  refine k_l rfl rfl rfl ?_
  refine k_gr (t := 18) rfl rfl rfl (by decide) rfl ?_
  refine k_l rfl rfl rfl ?_
  refine k_iv (v := rowv 128 σ 19 x1) rfl rfl rfl rfl rfl (by decide) rfl hM (rn_get rfl rfl rfl rfl rfl (by decide) hx1) (fun _ q1 => ?_)
  obtain ⟨rfl, rfl⟩ := H
  exact k_r1 hM q1 rfl rfl rfl
theorem R_Tr_typeOf5 {d : Nat} {x1 : Int} {σ : Mem} (hx1 : rg x1) : Rn (d + 2) yTr_typeOf [.ref 5, vi x1] σ (some (rowv 128 σ 19 x1)) σ := M_Tr_typeOf5 hx1 ⟨rfl, rfl⟩
def B_Tr_typeOf20 (d : Nat) (x1 : Int) (σ : Mem) (o : Option Int) (s' : Mem) : Prop := o = some (rowv 128 σ 34 x1) ∧ s' = σ
theorem M_Tr_typeOf20 {d : Nat} {x1 : Int} {σ s' : Mem} {o : Option Int} (hx1 : rg x1) (H : B_Tr_typeOf20 d x1 σ o s') : Rn (d + 2) yTr_typeOf [.ref 20, vi x1] σ o s' := by
  refine k_m (Nat.le_of_ble_eq_true rfl) (fun hM => ?_)
  unfold B_Tr_typeOf20 at H
  refine k_l rfl rfl rfl ?_
  refine k_gr (t := 33) rfl rfl rfl (by decide) rfl ?_
  refine k_l rfl rfl rfl ?_
  refine k_iv (v := rowv 128 σ 34 x1) rfl rfl rfl rfl rfl (by decide) rfl hM (rn_get rfl rfl rfl rfl rfl (by decide) hx1) (fun _ q1 => ?_)
  obtain ⟨rfl, rfl⟩ := H
  exact k_r1 hM q1 rfl rfl rfl
theorem R_Tr_typeOf20 {d : Nat} {x1 : Int} {σ : Mem} (hx1 : rg x1) : Rn (d + 2) yTr_typeOf [.ref 20, vi x1] σ (some (rowv 128 σ 34 x1)) σ := M_Tr_typeOf20 hx1 ⟨rfl, rfl⟩
def B_Tr_size5 (d : Nat) (σ : Mem) (o : Option Int) (s' : Mem) : Prop := o = some (σ 5 7) ∧ s' = σ
theorem M_Tr_size5 {d : Nat} {σ s' : Mem} {o : Option Int}  (H : B_Tr_size5 d  σ o s') : Rn (d + 2) yTr_size [.ref 5] σ o s' := by
  refine k_m (Nat.le_of_ble_eq_true rfl) (fun hM => ?_)
  unfold B_Tr_size5 at H
  refine k_l rfl rfl rfl ?_
  refine k_gf rfl rfl rfl (by decide) rfl rfl ?_
  obtain ⟨rfl, rfl⟩ := H
  exact k_r1 hM (hM _ _) rfl rfl rfl
theorem R_Tr_size5 {d : Nat} {σ : Mem} : Rn (d + 2) yTr_size [.ref 5] σ (some (σ 5 7)) σ := M_Tr_size5 ⟨rfl, rfl⟩
def B_Tr_root5 (d : Nat) (σ : Mem) (o : Option Int) (s' : Mem) : Prop := o = some (σ 5 8) ∧ s' = σ
theorem M_Tr_root5 {d : Nat} {σ s' : Mem} {o : Option Int}  (H : B_Tr_root5 d  σ o s') : Rn (d + 2) yTr_root [.ref 5] σ o s' := by
  refine k_m (Nat.le_of_ble_eq_true rfl) (fun hM => ?_)
  unfold B_Tr_root5 at H
  refine k_l rfl rfl rfl ?_
  refine k_gf rfl rfl rfl (by decide) rfl rfl ?_
  obtain ⟨rfl, rfl⟩ := H
  exact k_r1 hM (hM _ _) rfl rfl rfl
theorem R_Tr_root5 {d : Nat} {σ : Mem} : Rn (d + 2) yTr_root [.ref 5] σ (some (σ 5 8)) σ := M_Tr_root5 ⟨rfl, rfl⟩
def B_Tr_size20 (d : Nat) (σ : Mem) (o : Option Int) (s' : Mem) : Prop := o = some (σ 20 7) ∧ s' = σ
theorem M_Tr_size20 {d : Nat} {σ s' : Mem} {o : Option Int}  (H : B_Tr_size20 d  σ o s') : Rn (d + 2) yTr_size [.ref 20] σ o s' := by
  refine k_m (Nat.le_of_ble_eq_true rfl) (fun hM => ?_)
  unfold B_Tr_size20 at H
  refine k_l rfl rfl rfl ?_
  refine k_gf rfl rfl rfl (by decide) rfl rfl ?_
  obtain ⟨rfl, rfl⟩ := H
  exact k_r1 hM (hM _ _) rfl rfl rfl
theorem R_Tr_size20 {d : Nat} {σ : Mem} : Rn (d + 2) yTr_size [.ref 20] σ (some (σ 20 7)) σ := M_Tr_size20 ⟨rfl, rfl⟩
def B_Tr_root20 (d : Nat) (σ : Mem) (o : Option Int) (s' : Mem) : Prop := o = some (σ 20 8) ∧ s' = σ
theorem M_Tr_root20 {d : Nat} {σ s' : Mem} {o : Option Int}  (H : B_Tr_root20 d  σ o s') : Rn (d + 2) yTr_root [.ref 20] σ o s' := by
  refine k_m (Nat.le_of_ble_eq_true rfl) (fun hM => ?_)
  unfold B_Tr_root20 at H
  refine k_l rfl rfl rfl ?_
  refine k_gf rfl rfl rfl (by decide) rfl rfl ?_
  obtain ⟨rfl, rfl⟩ := H
  exact k_r1 hM (hM _ _) rfl rfl rfl
theorem R_Tr_root20 {d : Nat} {σ : Mem} : Rn (d + 2) yTr_root [.ref 20] σ (some (σ 20 8)) σ := M_Tr_root20 ⟨rfl, rfl⟩
def B_Tr_clear (d : Nat) (σ : Mem) (o : Option Int) (s' : Mem) : Prop := o = none ∧ s' = mup (mup σ 5 7 0) 5 8 ((-1))
theorem M_Tr_clear {d : Nat} {σ s' : Mem} {o : Option Int}  (H : B_Tr_clear d  σ o s') : Rn (d + 2) yTr_clear [.ref 5] σ o s' := by
  refine k_m (Nat.le_of_ble_eq_true rfl) (fun hM => ?_)
  unfold B_Tr_clear at H
  refine k_l rfl rfl rfl ?_
  refine k_p rfl rfl rfl ?_
  refine k_pf rfl rfl rfl (by decide) rfl rfl rfl rfl ?_
  refine k_l rfl rfl rfl ?_
  refine k_p rfl rfl rfl ?_
  refine k_pf rfl rfl rfl (by decide) rfl rfl rfl rfl ?_
  obtain ⟨rfl, rfl⟩ := H
  exact k_r0 ((hM.up (rgk rfl)).up (rgk rfl)) rfl rfl rfl
def B_Tr_add (d : Nat) (x1 x2 x3 x4 x5 : Int) (σ : Mem) (o : Option Int) (s' : Mem) : Prop := if σ 5 7 < 128 then ((rg ((σ 5 7) + 1)) ∧ (o = some (σ 5 7) ∧ s' = rows 128 (rows 128 (rows 128 (rows 128 (rows 128 (rows 128 (rows 128 (rows 128 (rows 128 (rows 128 (mup σ 5 7 ((σ 5 7) + 1)) 7 (σ 5 7) x1) 9 (σ 5 7) x2) 11 (σ 5 7) x3) 13 (σ 5 7) x4) 15 (σ 5 7) x5) 17 (σ 5 7) ((-1))) 19 (σ 5 7) ((-1))) 17 x3 (σ 5 7)) 17 x4 (σ 5 7)) 17 x5 (σ 5 7))) else (o = some ((-1)) ∧ s' = σ)
theorem M_Tr_add {d : Nat} {x1 x2 x3 x4 x5 : Int} {σ s' : Mem} {o : Option Int} (hx1 : rg x1) (hx2 : rg x2) (hx3 : rg x3) (hx4 : rg x4) (hx5 : rg x5) (H : B_Tr_add d x1 x2 x3 x4 x5 σ o s') : Rn (d + 2) yTr_add [.ref 5, vi x1, vi x2, vi x3, vi x4, vi x5] σ o s' := by
  refine k_m (Nat.le_of_ble_eq_true rfl) (fun hM => ?_)
  unfold B_Tr_add at H
  refine k_l rfl rfl rfl ?_
  refine k_gf rfl rfl rfl (by decide) rfl rfl ?_
  refine k_k (x := 128) rfl rfl rfl rfl ?_
  by_cases c1 : σ 5 7 < 128
  · rw [if_pos c1] at H
    refine k_c rfl (by decide) (hM _ _) (rgk rfl) (q := true) (decide_eq_true c1) rfl ?_
    refine k_l rfl rfl rfl ?_
    refine k_gf rfl rfl rfl (by decide) rfl rfl ?_
    refine k_l rfl rfl rfl ?_
    refine k_l rfl rfl rfl ?_
    refine k_p rfl rfl rfl ?_
    refine k_gf rfl rfl rfl (by decide) rfl rfl ?_
    refine k_p rfl rfl rfl ?_
    refine k_add rfl ?_
    obtain ⟨g2, H⟩ := H
    refine k_pf rfl rfl rfl (by decide) rfl rfl rfl rfl ?_
    refine k_l rfl rfl rfl ?_
    refine k_gr (t := 6) rfl rfl rfl (by decide) rfl ?_
    refine k_l rfl rfl rfl ?_
    refine k_l rfl rfl rfl ?_
    refine k_iw (σ1 := rows 128 (mup σ 5 7 ((σ 5 7) + 1)) 7 (σ 5 7) x1) rfl rfl rfl rfl rfl (by decide) rfl (hM.up g2) (rn_set rfl rfl rfl rfl rfl (by decide) (hM _ _) hx1) (fun _ => ?_)
    refine k_l rfl rfl rfl ?_
    refine k_gr (t := 8) rfl rfl rfl (by decide) rfl ?_
    refine k_l rfl rfl rfl ?_
    refine k_l rfl rfl rfl ?_
    refine k_iw (σ1 := rows 128 (rows 128 (mup σ 5 7 ((σ 5 7) + 1)) 7 (σ 5 7) x1) 9 (σ 5 7) x2) rfl rfl rfl rfl rfl (by decide) rfl ((hM.up g2).rs hx1) (rn_set rfl rfl rfl rfl rfl (by decide) (hM _ _) hx2) (fun _ => ?_)
    refine k_l rfl rfl rfl ?_
    refine k_gr (t := 10) rfl rfl rfl (by decide) rfl ?_
    refine k_l rfl rfl rfl ?_
    refine k_l rfl rfl rfl ?_
    refine k_iw (σ1 := rows 128 (rows 128 (rows 128 (mup σ 5 7 ((σ 5 7) + 1)) 7 (σ 5 7) x1) 9 (σ 5 7) x2) 11 (σ 5 7) x3) rfl rfl rfl rfl rfl (by decide) rfl (((hM.up g2).rs hx1).rs hx2) (rn_set rfl rfl rfl rfl rfl (by decide) (hM _ _) hx3) (fun _ => ?_)
    refine k_l rfl rfl rfl ?_
    refine k_gr (t := 12) rfl rfl rfl (by decide) rfl ?_
    refine k_l rfl rfl rfl ?_
    refine k_l rfl rfl rfl ?_
    refine k_iw (σ1 := rows 128 (rows 128 (rows 128 (rows 128 (mup σ 5 7 ((σ 5 7) + 1)) 7 (σ 5 7) x1) 9 (σ 5 7) x2) 11 (σ 5 7) x3) 13 (σ 5 7) x4) rfl rfl rfl rfl rfl (by decide) rfl ((((hM.up g2).rs hx1).rs hx2).rs hx3) (rn_set rfl rfl rfl rfl rfl (by decide) (hM _ _) hx4) (fun _ => ?_)
    refine k_l rfl rfl rfl ?_
    refine k_gr (t := 14) rfl rfl rfl (by decide) rfl ?_
    refine k_l rfl rfl rfl ?_
    refine k_l rfl rfl rfl ?_
    refine k_iw (σ1 := rows 128 (rows 128 (rows 128 (rows 128 (rows 128 (mup σ 5 7 ((σ 5 7) + 1)) 7 (σ 5 7) x1) 9 (σ 5 7) x2) 11 (σ 5 7) x3) 13 (σ 5 7) x4) 15 (σ 5 7) x5) rfl rfl rfl rfl rfl (by decide) rfl (((((hM.up g2).rs hx1).rs hx2).rs hx3).rs hx4) (rn_set rfl rfl rfl rfl rfl (by decide) (hM _ _) hx5) (fun _ => ?_)
    refine k_l rfl rfl rfl ?_
    refine k_gr (t := 16) rfl rfl rfl (by decide) rfl ?_
    refine k_l rfl rfl rfl ?_
    refine k_p rfl rfl rfl ?_
    refine k_iw (σ1 := rows 128 (rows 128 (rows 128 (rows 128 (rows 128 (rows 128 (mup σ 5 7 ((σ 5 7) + 1)) 7 (σ 5 7) x1) 9 (σ 5 7) x2) 11 (σ 5 7) x3) 13 (σ 5 7) x4) 15 (σ 5 7) x5) 17 (σ 5 7) ((-1))) rfl rfl rfl rfl rfl (by decide) rfl ((((((hM.up g2).rs hx1).rs hx2).rs hx3).rs hx4).rs hx5) (rn_set rfl rfl rfl rfl rfl (by decide) (hM _ _) (rgk rfl)) (fun _ => ?_)
    refine k_l rfl rfl rfl ?_
    refine k_gr (t := 18) rfl rfl rfl (by decide) rfl ?_
    refine k_l rfl rfl rfl ?_
    refine k_p rfl rfl rfl ?_
    refine k_iw (σ1 := rows 128 (rows 128 (rows 128 (rows 128 (rows 128 (rows 128 (rows 128 (mup σ 5 7 ((σ 5 7) + 1)) 7 (σ 5 7) x1) 9 (σ 5 7) x2) 11 (σ 5 7) x3) 13 (σ 5 7) x4) 15 (σ 5 7) x5) 17 (σ 5 7) ((-1))) 19 (σ 5 7) ((-1))) rfl rfl rfl rfl rfl (by decide) rfl (((((((hM.up g2).rs hx1).rs hx2).rs hx3).rs hx4).rs hx5).rs (rgk rfl)) (rn_set rfl rfl rfl rfl rfl (by decide) (hM _ _) (rgk rfl)) (fun _ => ?_)
    refine k_l rfl rfl rfl ?_
    refine k_gr (t := 16) rfl rfl rfl (by decide) rfl ?_
    refine k_l rfl rfl rfl ?_
    refine k_l rfl rfl rfl ?_
    refine k_iw (σ1 := rows 128 (rows 128 (rows 128 (rows 128 (rows 128 (rows 128 (rows 128 (rows 128 (mup σ 5 7 ((σ 5 7) + 1)) 7 (σ 5 7) x1) 9 (σ 5 7) x2) 11 (σ 5 7) x3) 13 (σ 5 7) x4) 15 (σ 5 7) x5) 17 (σ 5 7) ((-1))) 19 (σ 5 7) ((-1))) 17 x3 (σ 5 7)) rfl rfl rfl rfl rfl (by decide) rfl ((((((((hM.up g2).rs hx1).rs hx2).rs hx3).rs hx4).rs hx5).rs (rgk rfl)).rs (rgk rfl)) (rn_set rfl rfl rfl rfl rfl (by decide) hx3 (hM _ _)) (fun _ => ?_)
    refine k_l rfl rfl rfl ?_
    refine k_gr (t := 16) rfl rfl rfl (by decide) rfl ?_
    refine k_l rfl rfl rfl ?_
    refine k_l rfl rfl rfl ?_
    refine k_iw (σ1 := rows 128 (rows 128 (rows 128 (rows 128 (rows 128 (rows 128 (rows 128 (rows 128 (rows 128 (mup σ 5 7 ((σ 5 7) + 1)) 7 (σ 5 7) x1) 9 (σ 5 7) x2) 11 (σ 5 7) x3) 13 (σ 5 7) x4) 15 (σ 5 7) x5) 17 (σ 5 7) ((-1))) 19 (σ 5 7) ((-1))) 17 x3 (σ 5 7)) 17 x4 (σ 5 7)) rfl rfl rfl rfl rfl (by decide) rfl (((((((((hM.up g2).rs hx1).rs hx2).rs hx3).rs hx4).rs hx5).rs (rgk rfl)).rs (rgk rfl)).rs (hM _ _)) (rn_set rfl rfl rfl rfl rfl (by decide) hx4 (hM _ _)) (fun _ => ?_)
    refine k_l rfl rfl rfl ?_
    refine k_gr (t := 16) rfl rfl rfl (by decide) rfl ?_
    refine k_l rfl rfl rfl ?_
    refine k_l rfl rfl rfl ?_
    refine k_iw (σ1 := rows 128 (rows 128 (rows 128 (rows 128 (rows 128 (rows 128 (rows 128 (rows 128 (rows 128 (rows 128 (mup σ 5 7 ((σ 5 7) + 1)) 7 (σ 5 7) x1) 9 (σ 5 7) x2) 11 (σ 5 7) x3) 13 (σ 5 7) x4) 15 (σ 5 7) x5) 17 (σ 5 7) ((-1))) 19 (σ 5 7) ((-1))) 17 x3 (σ 5 7)) 17 x4 (σ 5 7)) 17 x5 (σ 5 7)) rfl rfl rfl rfl rfl (by decide) rfl ((((((((((hM.up g2).rs hx1).rs hx2).rs hx3).rs hx4).rs hx5).rs (rgk rfl)).rs (rgk rfl)).rs (hM _ _)).rs (hM _ _)) (rn_set rfl rfl rfl rfl rfl (by decide) hx5 (hM _ _)) (fun _ => ?_)
    refine k_l rfl rfl rfl ?_
    obtain ⟨rfl, rfl⟩ := H
    exact k_r1 (((((((((((hM.up g2).rs hx1).rs hx2).rs hx3).rs hx4).rs hx5).rs (rgk rfl)).rs (rgk rfl)).rs (hM _ _)).rs (hM _ _)).rs (hM _ _)) (hM _ _) rfl rfl rfl
  · rw [if_neg c1] at H
    refine k_c rfl (by decide) (hM _ _) (rgk rfl) (q := false) (decide_eq_false c1) rfl ?_
    refine k_p rfl rfl rfl ?_
    obtain ⟨rfl, rfl⟩ := H
    exact k_r1 hM (rgk rfl) rfl rfl rfl
def B_Tr_setSecond (d : Nat) (x1 x2 : Int) (σ : Mem) (o : Option Int) (s' : Mem) : Prop := o = none ∧ s' = rows 128 (rows 128 σ 13 x1 x2) 17 x2 x1
theorem M_Tr_setSecond {d : Nat} {x1 x2 : Int} {σ s' : Mem} {o : Option Int} (hx1 : rg x1) (hx2 : rg x2) (H : B_Tr_setSecond d x1 x2 σ o s') : Rn (d + 2) yTr_setSecond [.ref 5, vi x1, vi x2] σ o s' := by
  refine k_m (Nat.le_of_ble_eq_true rfl) (fun hM => ?_)
  unfold B_Tr_setSecond at H
  refine k_l rfl rfl rfl ?_
  refine k_gr (t := 12) rfl rfl rfl (by decide) rfl ?_
  refine k_l rfl rfl rfl ?_
  refine k_l rfl rfl rfl ?_
  refine k_iw (σ1 := rows 128 σ 13 x1 x2) rfl rfl rfl rfl rfl (by decide) rfl hM (rn_set rfl rfl rfl rfl rfl (by decide) hx1 hx2) (fun _ => ?_)
  refine k_l rfl rfl rfl ?_
  refine k_gr (t := 16) rfl rfl rfl (by decide) rfl ?_
  refine k_l rfl rfl rfl ?_
  refine k_l rfl rfl rfl ?_
  refine k_iw (σ1 := rows 128 (rows 128 σ 13 x1 x2) 17 x2 x1) rfl rfl rfl rfl rfl (by decide) rfl (hM.rs hx2) (rn_set rfl rfl rfl rfl rfl (by decide) hx2 hx1) (fun _ => ?_)
  obtain ⟨rfl, rfl⟩ := H
  exact k_r0 ((hM.rs hx2).rs hx1) rfl rfl rfl
def B_Tr_addBranch_26 (d : Nat) (x1 x3 : Int) (σ : Mem) (o : Option Int) (s' : Mem) : Prop := o = none ∧ s' = rows 128 σ 17 x3 x1
theorem K_Tr_addBranch_26 {d : Nat} {x1 x3 : Int} {σ s' : Mem} {o : Option Int} (hx1 : rg x1) (hx3 : rg x3) (H : B_Tr_addBranch_26 d x1 x3 σ o s') : Lb (d + 1) yTr_addBranch 26 [(0, .ref 5), (1, vi x1), (3, vi x3)] [] σ o s' := by
  intro hM
  unfold B_Tr_addBranch_26 at H
  refine k_l rfl rfl rfl ?_
  refine k_gr (t := 16) rfl rfl rfl (by decide) rfl ?_
  refine k_l rfl rfl rfl ?_
  refine k_l rfl rfl rfl ?_
  refine k_iw (σ1 := rows 128 σ 17 x3 x1) rfl rfl rfl rfl rfl (by decide) rfl hM (rn_set rfl rfl rfl rfl rfl (by decide) hx3 hx1) (fun _ => ?_)
  obtain ⟨rfl, rfl⟩ := H
  exact k_r0 (hM.rs hx1) rfl rfl rfl
def B_Tr_addBranch (d : Nat) (x1 x2 x3 : Int) (σ : Mem) (o : Option Int) (s' : Mem) : Prop := if x2 ≠ (-1) then (B_Tr_addBranch_26 d x1 x3 (rows 128 σ 15 x2 x3) o s') else (B_Tr_addBranch_26 d x1 x3 (rows 128 σ 13 x1 x3) o s')
theorem M_Tr_addBranch {d : Nat} {x1 x2 x3 : Int} {σ s' : Mem} {o : Option Int} (hx1 : rg x1) (hx2 : rg x2) (hx3 : rg x3) (H : B_Tr_addBranch d x1 x2 x3 σ o s') : Rn (d + 2) yTr_addBranch [.ref 5, vi x1, vi x2, vi x3] σ o s' := by
  refine k_m (Nat.le_of_ble_eq_true rfl) (fun hM => ?_)
  unfold B_Tr_addBranch at H
  refine k_l rfl rfl rfl ?_
  refine k_p rfl rfl rfl ?_
  by_cases c1 : x2 ≠ (-1)
  · rw [if_pos c1] at H
    refine k_c rfl (by decide) hx2 (rgk rfl) (q := true) (decide_eq_true c1) rfl ?_
    refine k_l rfl rfl rfl ?_
    refine k_gr (t := 14) rfl rfl rfl (by decide) rfl ?_
    refine k_l rfl rfl rfl ?_
    refine k_l rfl rfl rfl ?_
    refine k_iw (σ1 := rows 128 σ 15 x2 x3) rfl rfl rfl rfl rfl (by decide) rfl hM (rn_set rfl rfl rfl rfl rfl (by decide) hx2 hx3) (fun _ => ?_)
    exact k_lab (K_Tr_addBranch_26 hx1 hx3 H) (hM.rs hx3) (lvS_cons rfl rfl (lvS_cons rfl rfl (lvS_cons rfl rfl lvS_nil)))
  · rw [if_neg c1] at H
    refine k_c rfl (by decide) hx2 (rgk rfl) (q := false) (decide_eq_false c1) rfl ?_
    refine k_l rfl rfl rfl ?_
    refine k_gr (t := 12) rfl rfl rfl (by decide) rfl ?_
    refine k_l rfl rfl rfl ?_
    refine k_l rfl rfl rfl ?_
    refine k_iw (σ1 := rows 128 σ 13 x1 x3) rfl rfl rfl rfl rfl (by decide) rfl hM (rn_set rfl rfl rfl rfl rfl (by decide) hx1 hx3) (fun _ => ?_)
    refine k_b rfl rfl rfl rfl ?_
    exact k_lab (K_Tr_addBranch_26 hx1 hx3 H) (hM.rs hx3) (lvS_cons rfl rfl (lvS_cons rfl rfl (lvS_cons rfl rfl lvS_nil)))
def B_Tr_setRoot (d : Nat) (x1 : Int) (σ : Mem) (o : Option Int) (s' : Mem) : Prop := o = none ∧ s' = mup σ 5 8 x1
theorem M_Tr_setRoot {d : Nat} {x1 : Int} {σ s' : Mem} {o : Option Int} (hx1 : rg x1) (H : B_Tr_setRoot d x1 σ o s') : Rn (d + 2) yTr_setRoot [.ref 5, vi x1] σ o s' := by
  refine k_m (Nat.le_of_ble_eq_true rfl) (fun hM => ?_)
  unfold B_Tr_setRoot at H
  refine k_l rfl rfl rfl ?_
  refine k_l rfl rfl rfl ?_
  refine k_pf rfl rfl rfl (by decide) rfl rfl rfl rfl ?_
  obtain ⟨rfl, rfl⟩ := H
  exact k_r0 (hM.up hx1) rfl rfl rfl
def B_Tr_setType (d : Nat) (x1 x2 : Int) (σ : Mem) (o : Option Int) (s' : Mem) : Prop := o = none ∧ s' = rows 128 σ 19 x1 x2
theorem M_Tr_setType {d : Nat} {x1 x2 : Int} {σ s' : Mem} {o : Option Int} (hx1 : rg x1) (hx2 : rg x2) (H : B_Tr_setType d x1 x2 σ o s') : Rn (d + 2) yTr_setType [.ref 5, vi x1, vi x2] σ o s' := by
  refine k_m (Nat.le_of_ble_eq_true rfl) (fun hM => ?_)
  unfold B_Tr_setType at H
  refine k_l rfl rfl rfl ?_
  refine k_gr (t := 18) rfl rfl rfl (by decide) rfl ?_
  refine k_l rfl rfl rfl ?_
  refine k_l rfl rfl rfl ?_
  refine k_iw (σ1 := rows 128 σ 19 x1 x2) rfl rfl rfl rfl rfl (by decide) rfl hM (rn_set rfl rfl rfl rfl rfl (by decide) hx1 hx2) (fun _ => ?_)
  obtain ⟨rfl, rfl⟩ := H
  exact k_r0 (hM.rs hx2) rfl rfl rfl
def B_Tr_addLeaf (d : Nat) (x1 x2 : Int) (σ : Mem) (o : Option Int) (s' : Mem) : Prop := ∃ (v1 : Int) (m1 : Mem), Rn (d + 2) yTr_add [.ref 5, vi x1, vi x2, vi ((-1)), vi ((-1)), vi ((-1))] σ (some v1) m1 ∧ (o = some v1 ∧ s' = m1)
theorem M_Tr_addLeaf {d : Nat} {x1 x2 : Int} {σ s' : Mem} {o : Option Int} (hx1 : rg x1) (hx2 : rg x2) (H : B_Tr_addLeaf d x1 x2 σ o s') : Rn (d + 3) yTr_addLeaf [.ref 5, vi x1, vi x2] σ o s' := by
  refine k_m (Nat.le_of_ble_eq_true rfl) (fun hM => ?_)
  unfold B_Tr_addLeaf at H
  refine k_l rfl rfl rfl ?_
  refine k_l rfl rfl rfl ?_
  refine k_l rfl rfl rfl ?_
  refine k_p rfl rfl rfl ?_
  refine k_p rfl rfl rfl ?_
  refine k_p rfl rfl rfl ?_
  obtain ⟨v1, m1, R1, H⟩ := H
  refine k_iv rfl rfl rfl rfl rfl (by decide) rfl hM R1 (fun hM1 hv1 => ?_)
  obtain ⟨rfl, rfl⟩ := H
  exact k_r1 hM1 hv1 rfl rfl rfl
def B_Ln_charAt (d : Nat) (x1 : Int) (σ : Mem) (o : Option Int) (s' : Mem) : Prop := if x1 ≥ σ 2 1 then (o = some ((-1)) ∧ s' = σ) else (o = some (rowv 60 σ 4 x1) ∧ s' = σ)
theorem M_Ln_charAt {d : Nat} {x1 : Int} {σ s' : Mem} {o : Option Int} (hx1 : rg x1) (H : B_Ln_charAt d x1 σ o s') : Rn (d + 2) yLn_charAt [.ref 2, vi x1] σ o s' := by
  refine k_m (Nat.le_of_ble_eq_true rfl) (fun hM => ?_)
  unfold B_Ln_charAt at H
  refine k_l rfl rfl rfl ?_
  refine k_l rfl rfl rfl ?_
  refine k_gf rfl rfl rfl (by decide) rfl rfl ?_
  by_cases c1 : x1 ≥ σ 2 1
  · rw [if_pos c1] at H
    refine k_c rfl (by decide) hx1 (hM _ _) (q := true) (decide_eq_true c1) rfl ?_
    refine k_p rfl rfl rfl ?_
    obtain ⟨rfl, rfl⟩ := H
    exact k_r1 hM (rgk rfl) rfl rfl rfl
  · rw [if_neg c1] at H
    refine k_c rfl (by decide) hx1 (hM _ _) (q := false) (decide_eq_false c1) rfl ?_
    refine k_l rfl rfl rfl ?_
    refine k_gr (t := 3) rfl rfl rfl (by decide) rfl ?_
    refine k_l rfl rfl rfl ?_
    refine k_iv (v := rowv 60 σ 4 x1) rfl rfl rfl rfl rfl (by decide) rfl hM (rn_get rfl rfl rfl rfl rfl (by decide) hx1) (fun _ q2 => ?_)
    refine k_b rfl rfl rfl rfl ?_
    obtain ⟨rfl, rfl⟩ := H
    exact k_r1 hM q2 rfl rfl rfl
/-- the character at z, -1 behind the end -/
def chr (σ : Mem) (z : Int) : Int := if z ≥ σ 2 1 then -1 else rowv 60 σ 4 z
theorem R_Ln_charAt {d : Nat} {x1 : Int} {σ : Mem} (hx1 : rg x1) : Rn (d + 2) yLn_charAt [.ref 2, vi x1] σ (some (chr σ x1)) σ := M_Ln_charAt hx1 (by
  unfold B_Ln_charAt chr
  split <;> exact ⟨rfl, rfl⟩)
def B_Rd_isDigit (d : Nat) (x0 : Int) (σ : Mem) (o : Option Int) (s' : Mem) : Prop := if x0 < 48 then (o = some 0 ∧ s' = σ) else (if x0 > 57 then (o = some 0 ∧ s' = σ) else (o = some 1 ∧ s' = σ))
theorem M_Rd_isDigit {d : Nat} {x0 : Int} {σ s' : Mem} {o : Option Int} (hx0 : rg x0) (H : B_Rd_isDigit d x0 σ o s') : Rn (d + 2) yRd_isDigit [vi x0] σ o s' := by
  refine k_m (Nat.le_of_ble_eq_true rfl) (fun hM => ?_)
  unfold B_Rd_isDigit at H
  refine k_l rfl rfl rfl ?_
  refine k_k (x := 48) rfl rfl rfl rfl ?_
  by_cases c1 : x0 < 48
  · rw [if_pos c1] at H
    refine k_c rfl (by decide) hx0 (rgk rfl) (q := true) (decide_eq_true c1) rfl ?_
    refine k_p rfl rfl rfl ?_
    obtain ⟨rfl, rfl⟩ := H
    exact k_r1 hM (rgk rfl) rfl rfl rfl
  · rw [if_neg c1] at H
    refine k_c rfl (by decide) hx0 (rgk rfl) (q := false) (decide_eq_false c1) rfl ?_
    refine k_l rfl rfl rfl ?_
    refine k_k (x := 57) rfl rfl rfl rfl ?_
    by_cases c2 : x0 > 57
    · rw [if_pos c2] at H
      refine k_c rfl (by decide) hx0 (rgk rfl) (q := true) (decide_eq_true c2) rfl ?_
      refine k_p rfl rfl rfl ?_
      obtain ⟨rfl, rfl⟩ := H
      exact k_r1 hM (rgk rfl) rfl rfl rfl
    · rw [if_neg c2] at H
      refine k_c rfl (by decide) hx0 (rgk rfl) (q := false) (decide_eq_false c2) rfl ?_
      refine k_p rfl rfl rfl ?_
      refine k_b rfl rfl rfl rfl ?_
      obtain ⟨rfl, rfl⟩ := H
      exact k_r1 hM (rgk rfl) rfl rfl rfl
def dgt (c : Int) : Int := if c < 48 then 0 else if c > 57 then 0 else 1
theorem R_Rd_isDigit {d : Nat} {x0 : Int} {σ : Mem} (hx0 : rg x0) : Rn (d + 2) yRd_isDigit [vi x0] σ (some (dgt x0)) σ := M_Rd_isDigit hx0 (by
  unfold B_Rd_isDigit dgt
  split
  · exact ⟨rfl, rfl⟩
  · split <;> exact ⟨rfl, rfl⟩)
def B_Rw_fill (d : Nat) (x1 : Int) (σ : Mem) (o : Option Int) (s' : Mem) : Prop := Lb (d + 1) yRw_fill 2 [(0, .ref 36), (1, vi x1), (2, vi 0)] [] σ o s'
theorem M_Rw_fill {d : Nat} {x1 : Int} {σ s' : Mem} {o : Option Int} (hx1 : rg x1) (H : B_Rw_fill d x1 σ o s') : Rn (d + 2) yRw_fill [.ref 36, vi x1] σ o s' := by
  refine k_m (Nat.le_of_ble_eq_true rfl) (fun hM => ?_)
  unfold B_Rw_fill at H
  refine k_p rfl rfl rfl ?_
  refine k_l rfl rfl rfl ?_
  exact k_lab H hM (lvS_cons rfl rfl (lvS_cons rfl rfl (lvS_cons rfl rfl lvS_nil)))
def B_Rw_fill_2 (d : Nat) (x1 x2 : Int) (σ : Mem) (o : Option Int) (s' : Mem) : Prop := if x2 ≥ 26 then (o = none ∧ s' = σ) else (((0 : Int) ≤ x2 ∧ x2 < (26 : Int)) ∧ ((rg (x2 + 1)) ∧ (Lb (d + 1) yRw_fill 2 [(0, .ref 36), (1, vi x1), (2, vi (x2 + 1))] [] (mup σ 37 x2 x1) o s')))
theorem K_Rw_fill_2 {d : Nat} {x1 x2 : Int} {σ s' : Mem} {o : Option Int} (hx1 : rg x1) (hx2 : rg x2) (H : B_Rw_fill_2 d x1 x2 σ o s') : Lb (d + 1) yRw_fill 2 [(0, .ref 36), (1, vi x1), (2, vi x2)] [] σ o s' := by
  intro hM
  unfold B_Rw_fill_2 at H
  refine k_l rfl rfl rfl ?_
  refine k_l rfl rfl rfl ?_
  refine k_gr (t := 37) rfl rfl rfl (by decide) rfl ?_
  refine k_len rfl rfl ?_
  rw [show (shL 37 : Int) = 26 from rfl]
  by_cases c1 : x2 ≥ 26
  · rw [if_pos c1] at H
    refine k_c rfl (by decide) hx2 (rgk rfl) (q := true) (decide_eq_true c1) rfl ?_
    obtain ⟨rfl, rfl⟩ := H
    exact k_r0 hM rfl rfl rfl
  · rw [if_neg c1] at H
    refine k_c rfl (by decide) hx2 (rgk rfl) (q := false) (decide_eq_false c1) rfl ?_
    refine k_l rfl rfl rfl ?_
    refine k_gr (t := 37) rfl rfl rfl (by decide) rfl ?_
    refine k_l rfl rfl rfl ?_
    refine k_l rfl rfl rfl ?_
    obtain ⟨g2, H⟩ := H
    refine k_as (ok := isI) rfl rfl (fun _ => rfl) rfl rfl g2 (by decide) rfl ?_
    refine k_inc rfl rfl (by decide) ?_
    refine k_b rfl rfl rfl rfl ?_
    obtain ⟨g3, H⟩ := H
    exact k_lab H (hM.up hx1) (lvS_cons rfl rfl (lvS_cons rfl rfl (lvS_cons rfl rfl lvS_nil)))
