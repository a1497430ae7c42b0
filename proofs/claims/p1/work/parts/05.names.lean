def me_A_init : gs_M := (⟨"LineRules", "<init>", "()V"⟩, prog_1_method_1_code, 1, none)
theorem Y_A_init : gY me_A_init 0 := ⟨(gw_t1 (List.mem_of_getElem? (i := 18) rfl) rfl), (gw_t1 (List.mem_of_getElem? (i := 1) rfl) rfl), ⟨by decide +kernel, by decide +kernel, by decide +kernel⟩, by decide +kernel⟩
def me_T_init : gs_M := (⟨"LineRules$Text", "<init>", "()V"⟩, prog_8_method_1_code, 1, none)
theorem Y_T_init : gY me_T_init 0 := ⟨(gw_t1 (List.mem_of_getElem? (i := 26) rfl) rfl), (gw_t1 (List.mem_of_getElem? (i := 2) rfl) rfl), ⟨by decide +kernel, by decide +kernel, by decide +kernel⟩, by decide +kernel⟩
def me_R_init : gs_M := (⟨"LineRules$Rule", "<init>", "()V"⟩, prog_7_method_1_code, 1, none)
theorem Y_R_init : gY me_R_init 0 := ⟨(gw_t1 (List.mem_of_getElem? (i := 62) rfl) rfl), (gw_t1 (List.mem_of_getElem? (i := 3) rfl) rfl), ⟨by decide +kernel, by decide +kernel, by decide +kernel⟩, by decide +kernel⟩
def me_C_init : gs_M := (⟨"LineRules$Ring", "<init>", "(LLineRules$Rule;)V"⟩, prog_6_method_1_code, 2, none)
theorem Y_C_init : gY me_C_init 1 := ⟨(gw_t1 (List.mem_of_getElem? (i := 130) rfl) rfl), (gw_t1 (List.mem_of_getElem? (i := 4) rfl) rfl), ⟨by decide +kernel, by decide +kernel, by decide +kernel⟩, by decide +kernel⟩
def me_P_init : gs_M := (⟨"LineRules$Pairs", "<init>", "(LLineRules$Rule;)V"⟩, prog_4_method_1_code, 2, none)
theorem Y_P_init : gY me_P_init 1 := ⟨(gw_t1 (List.mem_of_getElem? (i := 156) rfl) rfl), (gw_t1 (List.mem_of_getElem? (i := 5) rfl) rfl), ⟨by decide +kernel, by decide +kernel, by decide +kernel⟩, by decide +kernel⟩
def me_V_init : gs_M := (⟨"LineRules$Inverse", "<init>", "(LLineRules$Rule;LLineRules$Pairs;)V"⟩, prog_2_method_1_code, 3, none)
theorem Y_V_init : gY me_V_init 2 := ⟨(gw_t1 (List.mem_of_getElem? (i := 184) rfl) rfl), (gw_t1 (List.mem_of_getElem? (i := 6) rfl) rfl), ⟨by decide +kernel, by decide +kernel, by decide +kernel⟩, by decide +kernel⟩
def me_W_init : gs_M := (⟨"LineRules$Weights", "<init>", "(LLineRules$Rule;)V"⟩, prog_9_method_1_code, 2, none)
theorem Y_W_init : gY me_W_init 1 := ⟨(gw_t1 (List.mem_of_getElem? (i := 209) rfl) rfl), (gw_t1 (List.mem_of_getElem? (i := 7) rfl) rfl), ⟨by decide +kernel, by decide +kernel, by decide +kernel⟩, by decide +kernel⟩
def me_O_init : gs_M := (⟨"LineRules$Orphan", "<init>", "(LLineRules$Rule;LLineRules$Pairs;)V"⟩, prog_3_method_1_code, 3, none)
theorem Y_O_init : gY me_O_init 2 := ⟨(gw_t1 (List.mem_of_getElem? (i := 236) rfl) rfl), (gw_t1 (List.mem_of_getElem? (i := 8) rfl) rfl), ⟨by decide +kernel, by decide +kernel, by decide +kernel⟩, by decide +kernel⟩
def me_H_init : gs_M := (⟨"LineRules$Past", "<init>", "(LLineRules$Rule;LLineRules$Ring;)V"⟩, prog_5_method_1_code, 3, none)
theorem Y_H_init : gY me_H_init 2 := ⟨(gw_t2 (List.mem_of_getElem? (i := 33) rfl) rfl), (gw_t1 (List.mem_of_getElem? (i := 9) rfl) rfl), ⟨by decide +kernel, by decide +kernel, by decide +kernel⟩, by decide +kernel⟩
def me_A_load : gs_M := (⟨"LineRules", "load", "(I)I"⟩, prog_1_method_2_code, 2, (some .int))
theorem Y_A_load : gY me_A_load 1 := ⟨(gw_t2 (List.mem_of_getElem? (i := 94) rfl) rfl), (gw_t1 (List.mem_of_getElem? (i := 1) rfl) rfl), ⟨by decide +kernel, by decide +kernel, by decide +kernel⟩, by decide +kernel⟩
theorem I_A_load : Cond.instanceMethod me_A_load.1 ∈ gw ∧ Cond.selects me_A_load.1.cls me_A_load.1 me_A_load.1 ∈ gw := ⟨(gw_t2 (List.mem_of_getElem? (i := 92) rfl) rfl), (gw_t2 (List.mem_of_getElem? (i := 93) rfl) rfl)⟩
def me_T_append : gs_M := (⟨"LineRules$Text", "append", "(I)I"⟩, prog_8_method_2_code, 2, (some .int))
theorem Y_T_append : gY me_T_append 1 := ⟨(gw_t2 (List.mem_of_getElem? (i := 98) rfl) rfl), (gw_t1 (List.mem_of_getElem? (i := 2) rfl) rfl), ⟨by decide +kernel, by decide +kernel, by decide +kernel⟩, by decide +kernel⟩
theorem I_T_append : Cond.instanceMethod me_T_append.1 ∈ gw ∧ Cond.selects me_T_append.1.cls me_T_append.1 me_T_append.1 ∈ gw := ⟨(gw_t2 (List.mem_of_getElem? (i := 96) rfl) rfl), (gw_t2 (List.mem_of_getElem? (i := 97) rfl) rfl)⟩
def me_A_rule : gs_M := (⟨"LineRules", "rule", "()I"⟩, prog_1_method_3_code, 2, (some .int))
theorem Y_A_rule : gY me_A_rule 0 := ⟨(gw_t2 (List.mem_of_getElem? (i := 102) rfl) rfl), (gw_t1 (List.mem_of_getElem? (i := 1) rfl) rfl), ⟨by decide +kernel, by decide +kernel, by decide +kernel⟩, by decide +kernel⟩
theorem I_A_rule : Cond.instanceMethod me_A_rule.1 ∈ gw ∧ Cond.selects me_A_rule.1.cls me_A_rule.1 me_A_rule.1 ∈ gw := ⟨(gw_t2 (List.mem_of_getElem? (i := 100) rfl) rfl), (gw_t2 (List.mem_of_getElem? (i := 101) rfl) rfl)⟩
def me_T_readInto : gs_M := (⟨"LineRules$Text", "readInto", "(LLineRules$Rule;)I"⟩, prog_8_method_3_code, 3, (some .int))
theorem Y_T_readInto : gY me_T_readInto 1 := ⟨(gw_t2 (List.mem_of_getElem? (i := 106) rfl) rfl), (gw_t1 (List.mem_of_getElem? (i := 2) rfl) rfl), ⟨by decide +kernel, by decide +kernel, by decide +kernel⟩, by decide +kernel⟩
theorem I_T_readInto : Cond.instanceMethod me_T_readInto.1 ∈ gw ∧ Cond.selects me_T_readInto.1.cls me_T_readInto.1 me_T_readInto.1 ∈ gw := ⟨(gw_t2 (List.mem_of_getElem? (i := 104) rfl) rfl), (gw_t2 (List.mem_of_getElem? (i := 105) rfl) rfl)⟩
def me_T_fault : gs_M := (⟨"LineRules$Text", "fault", "()I"⟩, prog_8_method_4_code, 2, (some .int))
theorem Y_T_fault : gY me_T_fault 0 := ⟨(gw_t2 (List.mem_of_getElem? (i := 110) rfl) rfl), (gw_t1 (List.mem_of_getElem? (i := 2) rfl) rfl), ⟨by decide +kernel, by decide +kernel, by decide +kernel⟩, by decide +kernel⟩
theorem I_T_fault : Cond.instanceMethod me_T_fault.1 ∈ gw ∧ Cond.selects me_T_fault.1.cls me_T_fault.1 me_T_fault.1 ∈ gw := ⟨(gw_t2 (List.mem_of_getElem? (i := 109) rfl) rfl), (gw_s (q := (⟨"LineRules$Text", "fault", "()I"⟩, 9)) (by decide +kernel) rfl)⟩
def me_T_fitsHead : gs_M := (⟨"LineRules$Text", "fitsHead", "(IC)Z"⟩, prog_8_method_5_code, 3, (some .boolean))
theorem Y_T_fitsHead : gY me_T_fitsHead 2 := ⟨(gw_t2 (List.mem_of_getElem? (i := 114) rfl) rfl), (gw_t1 (List.mem_of_getElem? (i := 2) rfl) rfl), ⟨by decide +kernel, by decide +kernel, by decide +kernel⟩, by decide +kernel⟩
theorem I_T_fitsHead : Cond.instanceMethod me_T_fitsHead.1 ∈ gw ∧ Cond.selects me_T_fitsHead.1.cls me_T_fitsHead.1 me_T_fitsHead.1 ∈ gw := ⟨(gw_t2 (List.mem_of_getElem? (i := 113) rfl) rfl), (gw_s (q := (⟨"LineRules$Text", "fitsHead", "(IC)Z"⟩, 9)) (by decide +kernel) rfl)⟩
def me_A_power : gs_M := (⟨"LineRules", "power", "(II)I"⟩, prog_1_method_21_code, 4, (some .int))
theorem Y_A_power : gY me_A_power 2 := ⟨(gw_t2 (List.mem_of_getElem? (i := 117) rfl) rfl), (gw_t1 (List.mem_of_getElem? (i := 1) rfl) rfl), ⟨by decide +kernel, by decide +kernel, by decide +kernel⟩, by decide +kernel⟩
theorem I_A_power : Cond.static me_A_power.1 ∈ gw := (gw_t2 (List.mem_of_getElem? (i := 116) rfl) rfl)
def me_T_digitsFault : gs_M := (⟨"LineRules$Text", "digitsFault", "(I)I"⟩, prog_8_method_6_code, 4, (some .int))
theorem Y_T_digitsFault : gY me_T_digitsFault 1 := ⟨(gw_t2 (List.mem_of_getElem? (i := 121) rfl) rfl), (gw_t1 (List.mem_of_getElem? (i := 2) rfl) rfl), ⟨by decide +kernel, by decide +kernel, by decide +kernel⟩, by decide +kernel⟩
theorem I_T_digitsFault : Cond.instanceMethod me_T_digitsFault.1 ∈ gw ∧ Cond.selects me_T_digitsFault.1.cls me_T_digitsFault.1 me_T_digitsFault.1 ∈ gw := ⟨(gw_t2 (List.mem_of_getElem? (i := 120) rfl) rfl), (gw_s (q := (⟨"LineRules$Text", "digitsFault", "(I)I"⟩, 9)) (by decide +kernel) rfl)⟩
def me_T_valueFor : gs_M := (⟨"LineRules$Text", "valueFor", "(I)I"⟩, prog_8_method_10_code, 4, (some .int))
theorem Y_T_valueFor : gY me_T_valueFor 1 := ⟨(gw_t2 (List.mem_of_getElem? (i := 125) rfl) rfl), (gw_t1 (List.mem_of_getElem? (i := 2) rfl) rfl), ⟨by decide +kernel, by decide +kernel, by decide +kernel⟩, by decide +kernel⟩
theorem I_T_valueFor : Cond.instanceMethod me_T_valueFor.1 ∈ gw ∧ Cond.selects me_T_valueFor.1.cls me_T_valueFor.1 me_T_valueFor.1 ∈ gw := ⟨(gw_t2 (List.mem_of_getElem? (i := 124) rfl) rfl), (gw_s (q := (⟨"LineRules$Text", "valueFor", "(I)I"⟩, 9)) (by decide +kernel) rfl)⟩
def me_T_choice : gs_M := (⟨"LineRules$Text", "choice", "()I"⟩, prog_8_method_12_code, 4, (some .int))
theorem Y_T_choice : gY me_T_choice 0 := ⟨(gw_t2 (List.mem_of_getElem? (i := 129) rfl) rfl), (gw_t1 (List.mem_of_getElem? (i := 2) rfl) rfl), ⟨by decide +kernel, by decide +kernel, by decide +kernel⟩, by decide +kernel⟩
theorem I_T_choice : Cond.instanceMethod me_T_choice.1 ∈ gw ∧ Cond.selects me_T_choice.1.cls me_T_choice.1 me_T_choice.1 ∈ gw := ⟨(gw_t2 (List.mem_of_getElem? (i := 128) rfl) rfl), (gw_s (q := (⟨"LineRules$Text", "choice", "()I"⟩, 9)) (by decide +kernel) rfl)⟩
def me_T_joined : gs_M := (⟨"LineRules$Text", "joined", "(I)I"⟩, prog_8_method_14_code, 6, (some .int))
theorem Y_T_joined : gY me_T_joined 1 := ⟨(gw_t2 (List.mem_of_getElem? (i := 133) rfl) rfl), (gw_t1 (List.mem_of_getElem? (i := 2) rfl) rfl), ⟨by decide +kernel, by decide +kernel, by decide +kernel⟩, by decide +kernel⟩
theorem I_T_joined : Cond.instanceMethod me_T_joined.1 ∈ gw ∧ Cond.selects me_T_joined.1.cls me_T_joined.1 me_T_joined.1 ∈ gw := ⟨(gw_t2 (List.mem_of_getElem? (i := 132) rfl) rfl), (gw_s (q := (⟨"LineRules$Text", "joined", "(I)I"⟩, 9)) (by decide +kernel) rfl)⟩
def me_T_part : gs_M := (⟨"LineRules$Text", "part", "()I"⟩, prog_8_method_17_code, 3, (some .int))
theorem Y_T_part : gY me_T_part 0 := ⟨(gw_t2 (List.mem_of_getElem? (i := 137) rfl) rfl), (gw_t1 (List.mem_of_getElem? (i := 2) rfl) rfl), ⟨by decide +kernel, by decide +kernel, by decide +kernel⟩, by decide +kernel⟩
theorem I_T_part : Cond.instanceMethod me_T_part.1 ∈ gw ∧ Cond.selects me_T_part.1.cls me_T_part.1 me_T_part.1 ∈ gw := ⟨(gw_t2 (List.mem_of_getElem? (i := 136) rfl) rfl), (gw_s (q := (⟨"LineRules$Text", "part", "()I"⟩, 9)) (by decide +kernel) rfl)⟩
def me_T_here : gs_M := (⟨"LineRules$Text", "here", "()C"⟩, prog_8_method_11_code, 1, (some .char))
theorem Y_T_here : gY me_T_here 0 := ⟨(gw_t2 (List.mem_of_getElem? (i := 141) rfl) rfl), (gw_t1 (List.mem_of_getElem? (i := 2) rfl) rfl), ⟨by decide +kernel, by decide +kernel, by decide +kernel⟩, by decide +kernel⟩
theorem I_T_here : Cond.instanceMethod me_T_here.1 ∈ gw ∧ Cond.selects me_T_here.1.cls me_T_here.1 me_T_here.1 ∈ gw := ⟨(gw_t2 (List.mem_of_getElem? (i := 140) rfl) rfl), (gw_s (q := (⟨"LineRules$Text", "here", "()C"⟩, 9)) (by decide +kernel) rfl)⟩
def me_T_unturned : gs_M := (⟨"LineRules$Text", "unturned", "()I"⟩, prog_8_method_18_code, 2, (some .int))
theorem Y_T_unturned : gY me_T_unturned 0 := ⟨(gw_t2 (List.mem_of_getElem? (i := 145) rfl) rfl), (gw_t1 (List.mem_of_getElem? (i := 2) rfl) rfl), ⟨by decide +kernel, by decide +kernel, by decide +kernel⟩, by decide +kernel⟩
theorem I_T_unturned : Cond.instanceMethod me_T_unturned.1 ∈ gw ∧ Cond.selects me_T_unturned.1.cls me_T_unturned.1 me_T_unturned.1 ∈ gw := ⟨(gw_t2 (List.mem_of_getElem? (i := 144) rfl) rfl), (gw_s (q := (⟨"LineRules$Text", "unturned", "()I"⟩, 9)) (by decide +kernel) rfl)⟩
def me_T_bracket : gs_M := (⟨"LineRules$Text", "bracket", "()I"⟩, prog_8_method_19_code, 2, (some .int))
theorem Y_T_bracket : gY me_T_bracket 0 := ⟨(gw_t2 (List.mem_of_getElem? (i := 149) rfl) rfl), (gw_t1 (List.mem_of_getElem? (i := 2) rfl) rfl), ⟨by decide +kernel, by decide +kernel, by decide +kernel⟩, by decide +kernel⟩
theorem I_T_bracket : Cond.instanceMethod me_T_bracket.1 ∈ gw ∧ Cond.selects me_T_bracket.1.cls me_T_bracket.1 me_T_bracket.1 ∈ gw := ⟨(gw_t2 (List.mem_of_getElem? (i := 148) rfl) rfl), (gw_s (q := (⟨"LineRules$Text", "bracket", "()I"⟩, 9)) (by decide +kernel) rfl)⟩
def me_T_opens : gs_M := (⟨"LineRules$Text", "opens", "()Z"⟩, prog_8_method_13_code, 1, (some .boolean))
theorem Y_T_opens : gY me_T_opens 0 := ⟨(gw_t2 (List.mem_of_getElem? (i := 153) rfl) rfl), (gw_t1 (List.mem_of_getElem? (i := 2) rfl) rfl), ⟨by decide +kernel, by decide +kernel, by decide +kernel⟩, by decide +kernel⟩
theorem I_T_opens : Cond.instanceMethod me_T_opens.1 ∈ gw ∧ Cond.selects me_T_opens.1.cls me_T_opens.1 me_T_opens.1 ∈ gw := ⟨(gw_t2 (List.mem_of_getElem? (i := 152) rfl) rfl), (gw_s (q := (⟨"LineRules$Text", "opens", "()Z"⟩, 9)) (by decide +kernel) rfl)⟩
def me_T_levelOf : gs_M := (⟨"LineRules$Text", "levelOf", "(C)I"⟩, prog_8_method_15_code, 1, (some .int))
theorem Y_T_levelOf : gY me_T_levelOf 1 := ⟨(gw_t2 (List.mem_of_getElem? (i := 156) rfl) rfl), (gw_t1 (List.mem_of_getElem? (i := 2) rfl) rfl), ⟨by decide +kernel, by decide +kernel, by decide +kernel⟩, by decide +kernel⟩
theorem I_T_levelOf : Cond.static me_T_levelOf.1 ∈ gw := (gw_t2 (List.mem_of_getElem? (i := 155) rfl) rfl)
def me_T_together : gs_M := (⟨"LineRules$Text", "together", "(ICI)I"⟩, prog_8_method_16_code, 4, (some .int))
theorem Y_T_together : gY me_T_together 3 := ⟨(gw_t2 (List.mem_of_getElem? (i := 160) rfl) rfl), (gw_t1 (List.mem_of_getElem? (i := 2) rfl) rfl), ⟨by decide +kernel, by decide +kernel, by decide +kernel⟩, by decide +kernel⟩
theorem I_T_together : Cond.instanceMethod me_T_together.1 ∈ gw ∧ Cond.selects me_T_together.1.cls me_T_together.1 me_T_together.1 ∈ gw := ⟨(gw_t2 (List.mem_of_getElem? (i := 159) rfl) rfl), (gw_s (q := (⟨"LineRules$Text", "together", "(ICI)I"⟩, 9)) (by decide +kernel) rfl)⟩
def me_J_max : gs_M := (⟨"java/lang/Math", "max", "(II)I"⟩, prog_12_method_65_code, 2, (some .int))
theorem Y_J_max : gY me_J_max 2 := ⟨(gw_t2 (List.mem_of_getElem? (i := 163) rfl) rfl), (gw_t1 (List.mem_of_getElem? (i := 11) rfl) rfl), ⟨by decide +kernel, by decide +kernel, by decide +kernel⟩, by decide +kernel⟩
theorem I_J_max : Cond.static me_J_max.1 ∈ gw := (gw_t2 (List.mem_of_getElem? (i := 162) rfl) rfl)
def me_J_min : gs_M := (⟨"java/lang/Math", "min", "(II)I"⟩, prog_12_method_69_code, 2, (some .int))
theorem Y_J_min : gY me_J_min 2 := ⟨(gw_t2 (List.mem_of_getElem? (i := 166) rfl) rfl), (gw_t1 (List.mem_of_getElem? (i := 11) rfl) rfl), ⟨by decide +kernel, by decide +kernel, by decide +kernel⟩, by decide +kernel⟩
theorem I_J_min : Cond.static me_J_min.1 ∈ gw := (gw_t2 (List.mem_of_getElem? (i := 165) rfl) rfl)
def me_T_fill : gs_M := (⟨"LineRules$Text", "fill", "(LLineRules$Rule;)V"⟩, prog_8_method_7_code, 3, none)
theorem Y_T_fill : gY me_T_fill 1 := ⟨(gw_t2 (List.mem_of_getElem? (i := 170) rfl) rfl), (gw_t1 (List.mem_of_getElem? (i := 2) rfl) rfl), ⟨by decide +kernel, by decide +kernel, by decide +kernel⟩, by decide +kernel⟩
theorem I_T_fill : Cond.instanceMethod me_T_fill.1 ∈ gw ∧ Cond.selects me_T_fill.1.cls me_T_fill.1 me_T_fill.1 ∈ gw := ⟨(gw_t2 (List.mem_of_getElem? (i := 169) rfl) rfl), (gw_s (q := (⟨"LineRules$Text", "fill", "(LLineRules$Rule;)V"⟩, 9)) (by decide +kernel) rfl)⟩
def me_R_shape : gs_M := (⟨"LineRules$Rule", "shape", "(II)V"⟩, prog_7_method_2_code, 3, none)
theorem Y_R_shape : gY me_R_shape 2 := ⟨(gw_t2 (List.mem_of_getElem? (i := 174) rfl) rfl), (gw_t1 (List.mem_of_getElem? (i := 3) rfl) rfl), ⟨by decide +kernel, by decide +kernel, by decide +kernel⟩, by decide +kernel⟩
theorem I_R_shape : Cond.instanceMethod me_R_shape.1 ∈ gw ∧ Cond.selects me_R_shape.1.cls me_R_shape.1 me_R_shape.1 ∈ gw := ⟨(gw_t2 (List.mem_of_getElem? (i := 172) rfl) rfl), (gw_t2 (List.mem_of_getElem? (i := 173) rfl) rfl)⟩
def me_T_made : gs_M := (⟨"LineRules$Text", "made", "(I)I"⟩, prog_8_method_8_code, 2, (some .int))
theorem Y_T_made : gY me_T_made 1 := ⟨(gw_t2 (List.mem_of_getElem? (i := 179) rfl) rfl), (gw_t1 (List.mem_of_getElem? (i := 2) rfl) rfl), ⟨by decide +kernel, by decide +kernel, by decide +kernel⟩, by decide +kernel⟩
theorem I_T_made : Cond.instanceMethod me_T_made.1 ∈ gw ∧ Cond.selects me_T_made.1.cls me_T_made.1 me_T_made.1 ∈ gw := ⟨(gw_t2 (List.mem_of_getElem? (i := 178) rfl) rfl), (gw_s (q := (⟨"LineRules$Text", "made", "(I)I"⟩, 9)) (by decide +kernel) rfl)⟩
def me_T_sumOf : gs_M := (⟨"LineRules$Text", "sumOf", "(I)I"⟩, prog_8_method_9_code, 5, (some .int))
theorem Y_T_sumOf : gY me_T_sumOf 1 := ⟨(gw_t2 (List.mem_of_getElem? (i := 183) rfl) rfl), (gw_t1 (List.mem_of_getElem? (i := 2) rfl) rfl), ⟨by decide +kernel, by decide +kernel, by decide +kernel⟩, by decide +kernel⟩
theorem I_T_sumOf : Cond.instanceMethod me_T_sumOf.1 ∈ gw ∧ Cond.selects me_T_sumOf.1.cls me_T_sumOf.1 me_T_sumOf.1 ∈ gw := ⟨(gw_t2 (List.mem_of_getElem? (i := 182) rfl) rfl), (gw_s (q := (⟨"LineRules$Text", "sumOf", "(I)I"⟩, 9)) (by decide +kernel) rfl)⟩
def me_R_complete : gs_M := (⟨"LineRules$Rule", "complete", "()V"⟩, prog_7_method_3_code, 4, none)
theorem Y_R_complete : gY me_R_complete 0 := ⟨(gw_t2 (List.mem_of_getElem? (i := 187) rfl) rfl), (gw_t1 (List.mem_of_getElem? (i := 3) rfl) rfl), ⟨by decide +kernel, by decide +kernel, by decide +kernel⟩, by decide +kernel⟩
theorem I_R_complete : Cond.instanceMethod me_R_complete.1 ∈ gw ∧ Cond.selects me_R_complete.1.cls me_R_complete.1 me_R_complete.1 ∈ gw := ⟨(gw_t2 (List.mem_of_getElem? (i := 185) rfl) rfl), (gw_t2 (List.mem_of_getElem? (i := 186) rfl) rfl)⟩
def me_Y_fillJ : gs_M := (⟨"java/util/Arrays", "fill", "([JJ)V"⟩, prog_14_method_101_code, 5, none)
theorem Y_Y_fillJ : gY me_Y_fillJ 2 := ⟨(gw_t2 (List.mem_of_getElem? (i := 190) rfl) rfl), (gw_t1 (List.mem_of_getElem? (i := 12) rfl) rfl), ⟨by decide +kernel, by decide +kernel, by decide +kernel⟩, by decide +kernel⟩
theorem I_Y_fillJ : Cond.static me_Y_fillJ.1 ∈ gw := (gw_t2 (List.mem_of_getElem? (i := 189) rfl) rfl)
def me_R_enter : gs_M := (⟨"LineRules$Rule", "enter", "(II)V"⟩, prog_7_method_4_code, 3, none)
theorem Y_R_enter : gY me_R_enter 2 := ⟨(gw_t2 (List.mem_of_getElem? (i := 194) rfl) rfl), (gw_t1 (List.mem_of_getElem? (i := 3) rfl) rfl), ⟨by decide +kernel, by decide +kernel, by decide +kernel⟩, by decide +kernel⟩
theorem I_R_enter : Cond.instanceMethod me_R_enter.1 ∈ gw ∧ Cond.selects me_R_enter.1.cls me_R_enter.1 me_R_enter.1 ∈ gw := ⟨(gw_t2 (List.mem_of_getElem? (i := 193) rfl) rfl), (gw_s (q := (⟨"LineRules$Rule", "enter", "(II)V"⟩, 10)) (by decide +kernel) rfl)⟩
def me_R_end : gs_M := (⟨"LineRules$Rule", "end", "(I)I"⟩, prog_7_method_5_code, 2, (some .int))
theorem Y_R_end : gY me_R_end 1 := ⟨(gw_t2 (List.mem_of_getElem? (i := 198) rfl) rfl), (gw_t1 (List.mem_of_getElem? (i := 3) rfl) rfl), ⟨by decide +kernel, by decide +kernel, by decide +kernel⟩, by decide +kernel⟩
theorem I_R_end : Cond.instanceMethod me_R_end.1 ∈ gw ∧ Cond.selects me_R_end.1.cls me_R_end.1 me_R_end.1 ∈ gw := ⟨(gw_t2 (List.mem_of_getElem? (i := 196) rfl) rfl), (gw_t2 (List.mem_of_getElem? (i := 197) rfl) rfl)⟩
def me_C_clear : gs_M := (⟨"LineRules$Ring", "clear", "()V"⟩, prog_6_method_3_code, 1, none)
theorem Y_C_clear : gY me_C_clear 0 := ⟨(gw_t2 (List.mem_of_getElem? (i := 202) rfl) rfl), (gw_t1 (List.mem_of_getElem? (i := 4) rfl) rfl), ⟨by decide +kernel, by decide +kernel, by decide +kernel⟩, by decide +kernel⟩
theorem I_C_clear : Cond.instanceMethod me_C_clear.1 ∈ gw ∧ Cond.selects me_C_clear.1.cls me_C_clear.1 me_C_clear.1 ∈ gw := ⟨(gw_t2 (List.mem_of_getElem? (i := 200) rfl) rfl), (gw_t2 (List.mem_of_getElem? (i := 201) rfl) rfl)⟩
def me_Y_fillI : gs_M := (⟨"java/util/Arrays", "fill", "([II)V"⟩, prog_14_method_103_code, 4, none)
theorem Y_Y_fillI : gY me_Y_fillI 2 := ⟨(gw_t2 (List.mem_of_getElem? (i := 205) rfl) rfl), (gw_t1 (List.mem_of_getElem? (i := 12) rfl) rfl), ⟨by decide +kernel, by decide +kernel, by decide +kernel⟩, by decide +kernel⟩
theorem I_Y_fillI : Cond.static me_Y_fillI.1 ∈ gw := (gw_t2 (List.mem_of_getElem? (i := 204) rfl) rfl)
def me_P_forget : gs_M := (⟨"LineRules$Pairs", "forget", "()V"⟩, prog_4_method_2_code, 1, none)
theorem Y_P_forget : gY me_P_forget 0 := ⟨(gw_t2 (List.mem_of_getElem? (i := 209) rfl) rfl), (gw_t1 (List.mem_of_getElem? (i := 5) rfl) rfl), ⟨by decide +kernel, by decide +kernel, by decide +kernel⟩, by decide +kernel⟩
theorem I_P_forget : Cond.instanceMethod me_P_forget.1 ∈ gw ∧ Cond.selects me_P_forget.1.cls me_P_forget.1 me_P_forget.1 ∈ gw := ⟨(gw_t2 (List.mem_of_getElem? (i := 207) rfl) rfl), (gw_t2 (List.mem_of_getElem? (i := 208) rfl) rfl)⟩
def me_V_forget : gs_M := (⟨"LineRules$Inverse", "forget", "()V"⟩, prog_2_method_2_code, 1, none)
theorem Y_V_forget : gY me_V_forget 0 := ⟨(gw_t2 (List.mem_of_getElem? (i := 213) rfl) rfl), (gw_t1 (List.mem_of_getElem? (i := 6) rfl) rfl), ⟨by decide +kernel, by decide +kernel, by decide +kernel⟩, by decide +kernel⟩
theorem I_V_forget : Cond.instanceMethod me_V_forget.1 ∈ gw ∧ Cond.selects me_V_forget.1.cls me_V_forget.1 me_V_forget.1 ∈ gw := ⟨(gw_t2 (List.mem_of_getElem? (i := 211) rfl) rfl), (gw_t2 (List.mem_of_getElem? (i := 212) rfl) rfl)⟩
def me_W_forget : gs_M := (⟨"LineRules$Weights", "forget", "()V"⟩, prog_9_method_2_code, 1, none)
theorem Y_W_forget : gY me_W_forget 0 := ⟨(gw_t2 (List.mem_of_getElem? (i := 217) rfl) rfl), (gw_t1 (List.mem_of_getElem? (i := 7) rfl) rfl), ⟨by decide +kernel, by decide +kernel, by decide +kernel⟩, by decide +kernel⟩
theorem I_W_forget : Cond.instanceMethod me_W_forget.1 ∈ gw ∧ Cond.selects me_W_forget.1.cls me_W_forget.1 me_W_forget.1 ∈ gw := ⟨(gw_t2 (List.mem_of_getElem? (i := 215) rfl) rfl), (gw_t2 (List.mem_of_getElem? (i := 216) rfl) rfl)⟩
def me_O_forget : gs_M := (⟨"LineRules$Orphan", "forget", "()V"⟩, prog_3_method_2_code, 1, none)
theorem Y_O_forget : gY me_O_forget 0 := ⟨(gw_t2 (List.mem_of_getElem? (i := 221) rfl) rfl), (gw_t1 (List.mem_of_getElem? (i := 8) rfl) rfl), ⟨by decide +kernel, by decide +kernel, by decide +kernel⟩, by decide +kernel⟩
theorem I_O_forget : Cond.instanceMethod me_O_forget.1 ∈ gw ∧ Cond.selects me_O_forget.1.cls me_O_forget.1 me_O_forget.1 ∈ gw := ⟨(gw_t2 (List.mem_of_getElem? (i := 219) rfl) rfl), (gw_t2 (List.mem_of_getElem? (i := 220) rfl) rfl)⟩
def me_H_forget : gs_M := (⟨"LineRules$Past", "forget", "()V"⟩, prog_5_method_2_code, 1, none)
theorem Y_H_forget : gY me_H_forget 0 := ⟨(gw_t2 (List.mem_of_getElem? (i := 225) rfl) rfl), (gw_t1 (List.mem_of_getElem? (i := 9) rfl) rfl), ⟨by decide +kernel, by decide +kernel, by decide +kernel⟩, by decide +kernel⟩
theorem I_H_forget : Cond.instanceMethod me_H_forget.1 ∈ gw ∧ Cond.selects me_H_forget.1.cls me_H_forget.1 me_H_forget.1 ∈ gw := ⟨(gw_t2 (List.mem_of_getElem? (i := 223) rfl) rfl), (gw_t2 (List.mem_of_getElem? (i := 224) rfl) rfl)⟩
def me_A_next : gs_M := (⟨"LineRules", "next", "(I)I"⟩, prog_1_method_4_code, 2, (some .int))
theorem Y_A_next : gY me_A_next 1 := ⟨(gw_t2 (List.mem_of_getElem? (i := 229) rfl) rfl), (gw_t1 (List.mem_of_getElem? (i := 1) rfl) rfl), ⟨by decide +kernel, by decide +kernel, by decide +kernel⟩, by decide +kernel⟩
theorem I_A_next : Cond.instanceMethod me_A_next.1 ∈ gw ∧ Cond.selects me_A_next.1.cls me_A_next.1 me_A_next.1 ∈ gw := ⟨(gw_t2 (List.mem_of_getElem? (i := 227) rfl) rfl), (gw_t2 (List.mem_of_getElem? (i := 228) rfl) rfl)⟩
def me_A_ring : gs_M := (⟨"LineRules", "ring", "(I)I"⟩, prog_1_method_5_code, 3, (some .int))
theorem Y_A_ring : gY me_A_ring 1 := ⟨(gw_t2 (List.mem_of_getElem? (i := 233) rfl) rfl), (gw_t1 (List.mem_of_getElem? (i := 1) rfl) rfl), ⟨by decide +kernel, by decide +kernel, by decide +kernel⟩, by decide +kernel⟩
theorem I_A_ring : Cond.instanceMethod me_A_ring.1 ∈ gw ∧ Cond.selects me_A_ring.1.cls me_A_ring.1 me_A_ring.1 ∈ gw := ⟨(gw_t2 (List.mem_of_getElem? (i := 231) rfl) rfl), (gw_t2 (List.mem_of_getElem? (i := 232) rfl) rfl)⟩
def me_C_resize : gs_M := (⟨"LineRules$Ring", "resize", "(I)V"⟩, prog_6_method_2_code, 2, none)
theorem Y_C_resize : gY me_C_resize 1 := ⟨(gw_t2 (List.mem_of_getElem? (i := 237) rfl) rfl), (gw_t1 (List.mem_of_getElem? (i := 4) rfl) rfl), ⟨by decide +kernel, by decide +kernel, by decide +kernel⟩, by decide +kernel⟩
theorem I_C_resize : Cond.instanceMethod me_C_resize.1 ∈ gw ∧ Cond.selects me_C_resize.1.cls me_C_resize.1 me_C_resize.1 ∈ gw := ⟨(gw_t2 (List.mem_of_getElem? (i := 235) rfl) rfl), (gw_t2 (List.mem_of_getElem? (i := 236) rfl) rfl)⟩
def me_A_set : gs_M := (⟨"LineRules", "set", "(II)I"⟩, prog_1_method_6_code, 4, (some .int))
theorem Y_A_set : gY me_A_set 2 := ⟨(gw_t3 (List.mem_of_getElem? (i := 2) rfl) rfl), (gw_t1 (List.mem_of_getElem? (i := 1) rfl) rfl), ⟨by decide +kernel, by decide +kernel, by decide +kernel⟩, by decide +kernel⟩
theorem I_A_set : Cond.instanceMethod me_A_set.1 ∈ gw ∧ Cond.selects me_A_set.1.cls me_A_set.1 me_A_set.1 ∈ gw := ⟨(gw_t3 (List.mem_of_getElem? (i := 0) rfl) rfl), (gw_t3 (List.mem_of_getElem? (i := 1) rfl) rfl)⟩
def me_C_has : gs_M := (⟨"LineRules$Ring", "has", "(I)Z"⟩, prog_6_method_4_code, 2, (some .boolean))
theorem Y_C_has : gY me_C_has 1 := ⟨(gw_t3 (List.mem_of_getElem? (i := 6) rfl) rfl), (gw_t1 (List.mem_of_getElem? (i := 4) rfl) rfl), ⟨by decide +kernel, by decide +kernel, by decide +kernel⟩, by decide +kernel⟩
theorem I_C_has : Cond.instanceMethod me_C_has.1 ∈ gw ∧ Cond.selects me_C_has.1.cls me_C_has.1 me_C_has.1 ∈ gw := ⟨(gw_t3 (List.mem_of_getElem? (i := 4) rfl) rfl), (gw_t3 (List.mem_of_getElem? (i := 5) rfl) rfl)⟩
def me_R_hasState : gs_M := (⟨"LineRules$Rule", "hasState", "(I)Z"⟩, prog_7_method_8_code, 2, (some .boolean))
theorem Y_R_hasState : gY me_R_hasState 1 := ⟨(gw_t3 (List.mem_of_getElem? (i := 10) rfl) rfl), (gw_t1 (List.mem_of_getElem? (i := 3) rfl) rfl), ⟨by decide +kernel, by decide +kernel, by decide +kernel⟩, by decide +kernel⟩
theorem I_R_hasState : Cond.instanceMethod me_R_hasState.1 ∈ gw ∧ Cond.selects me_R_hasState.1.cls me_R_hasState.1 me_R_hasState.1 ∈ gw := ⟨(gw_t3 (List.mem_of_getElem? (i := 8) rfl) rfl), (gw_t3 (List.mem_of_getElem? (i := 9) rfl) rfl)⟩
def me_A_get : gs_M := (⟨"LineRules", "get", "(I)I"⟩, prog_1_method_7_code, 2, (some .int))
theorem Y_A_get : gY me_A_get 1 := ⟨(gw_t3 (List.mem_of_getElem? (i := 14) rfl) rfl), (gw_t1 (List.mem_of_getElem? (i := 1) rfl) rfl), ⟨by decide +kernel, by decide +kernel, by decide +kernel⟩, by decide +kernel⟩
theorem I_A_get : Cond.instanceMethod me_A_get.1 ∈ gw ∧ Cond.selects me_A_get.1.cls me_A_get.1 me_A_get.1 ∈ gw := ⟨(gw_t3 (List.mem_of_getElem? (i := 12) rfl) rfl), (gw_t3 (List.mem_of_getElem? (i := 13) rfl) rfl)⟩
def me_A_step : gs_M := (⟨"LineRules", "step", "(I)I"⟩, prog_1_method_8_code, 2, (some .int))
theorem Y_A_step : gY me_A_step 1 := ⟨(gw_t3 (List.mem_of_getElem? (i := 18) rfl) rfl), (gw_t1 (List.mem_of_getElem? (i := 1) rfl) rfl), ⟨by decide +kernel, by decide +kernel, by decide +kernel⟩, by decide +kernel⟩
theorem I_A_step : Cond.instanceMethod me_A_step.1 ∈ gw ∧ Cond.selects me_A_step.1.cls me_A_step.1 me_A_step.1 ∈ gw := ⟨(gw_t3 (List.mem_of_getElem? (i := 16) rfl) rfl), (gw_t3 (List.mem_of_getElem? (i := 17) rfl) rfl)⟩
def me_C_run : gs_M := (⟨"LineRules$Ring", "run", "(I)I"⟩, prog_6_method_6_code, 4, (some .int))
theorem Y_C_run : gY me_C_run 1 := ⟨(gw_t3 (List.mem_of_getElem? (i := 22) rfl) rfl), (gw_t1 (List.mem_of_getElem? (i := 4) rfl) rfl), ⟨by decide +kernel, by decide +kernel, by decide +kernel⟩, by decide +kernel⟩
theorem I_C_run : Cond.instanceMethod me_C_run.1 ∈ gw ∧ Cond.selects me_C_run.1.cls me_C_run.1 me_C_run.1 ∈ gw := ⟨(gw_t3 (List.mem_of_getElem? (i := 20) rfl) rfl), (gw_t3 (List.mem_of_getElem? (i := 21) rfl) rfl)⟩
def me_C_stepOnce : gs_M := (⟨"LineRules$Ring", "stepOnce", "()V"⟩, prog_6_method_7_code, 4, none)
theorem Y_C_stepOnce : gY me_C_stepOnce 0 := ⟨(gw_t3 (List.mem_of_getElem? (i := 29) rfl) rfl), (gw_t1 (List.mem_of_getElem? (i := 4) rfl) rfl), ⟨by decide +kernel, by decide +kernel, by decide +kernel⟩, by decide +kernel⟩
theorem I_C_stepOnce : Cond.instanceMethod me_C_stepOnce.1 ∈ gw ∧ Cond.selects me_C_stepOnce.1.cls me_C_stepOnce.1 me_C_stepOnce.1 ∈ gw := ⟨(gw_t3 (List.mem_of_getElem? (i := 28) rfl) rfl), (gw_s (q := (⟨"LineRules$Ring", "stepOnce", "()V"⟩, 5)) (by decide +kernel) rfl)⟩
def me_R_left : gs_M := (⟨"LineRules$Rule", "left", "()I"⟩, prog_7_method_9_code, 1, (some .int))
theorem Y_R_left : gY me_R_left 0 := ⟨(gw_t3 (List.mem_of_getElem? (i := 33) rfl) rfl), (gw_t1 (List.mem_of_getElem? (i := 3) rfl) rfl), ⟨by decide +kernel, by decide +kernel, by decide +kernel⟩, by decide +kernel⟩
theorem I_R_left : Cond.instanceMethod me_R_left.1 ∈ gw ∧ Cond.selects me_R_left.1.cls me_R_left.1 me_R_left.1 ∈ gw := ⟨(gw_t3 (List.mem_of_getElem? (i := 31) rfl) rfl), (gw_t3 (List.mem_of_getElem? (i := 32) rfl) rfl)⟩
def me_J_floorMod : gs_M := (⟨"java/lang/Math", "floorMod", "(II)I"⟩, prog_12_method_50_code, 3, (some .int))
theorem Y_J_floorMod : gY me_J_floorMod 2 := ⟨(gw_t3 (List.mem_of_getElem? (i := 36) rfl) rfl), (gw_t1 (List.mem_of_getElem? (i := 11) rfl) rfl), ⟨by decide +kernel, by decide +kernel, by decide +kernel⟩, by decide +kernel⟩
theorem I_J_floorMod : Cond.static me_J_floorMod.1 ∈ gw := (gw_t3 (List.mem_of_getElem? (i := 35) rfl) rfl)
def me_A_population : gs_M := (⟨"LineRules", "population", "(I)I"⟩, prog_1_method_9_code, 2, (some .int))
theorem Y_A_population : gY me_A_population 1 := ⟨(gw_t3 (List.mem_of_getElem? (i := 41) rfl) rfl), (gw_t1 (List.mem_of_getElem? (i := 1) rfl) rfl), ⟨by decide +kernel, by decide +kernel, by decide +kernel⟩, by decide +kernel⟩
theorem I_A_population : Cond.instanceMethod me_A_population.1 ∈ gw ∧ Cond.selects me_A_population.1.cls me_A_population.1 me_A_population.1 ∈ gw := ⟨(gw_t3 (List.mem_of_getElem? (i := 39) rfl) rfl), (gw_t3 (List.mem_of_getElem? (i := 40) rfl) rfl)⟩
def me_C_countOf : gs_M := (⟨"LineRules$Ring", "countOf", "(I)I"⟩, prog_6_method_5_code, 4, (some .int))
theorem Y_C_countOf : gY me_C_countOf 1 := ⟨(gw_t3 (List.mem_of_getElem? (i := 45) rfl) rfl), (gw_t1 (List.mem_of_getElem? (i := 4) rfl) rfl), ⟨by decide +kernel, by decide +kernel, by decide +kernel⟩, by decide +kernel⟩
theorem I_C_countOf : Cond.instanceMethod me_C_countOf.1 ∈ gw ∧ Cond.selects me_C_countOf.1.cls me_C_countOf.1 me_C_countOf.1 ∈ gw := ⟨(gw_t3 (List.mem_of_getElem? (i := 43) rfl) rfl), (gw_t3 (List.mem_of_getElem? (i := 44) rfl) rfl)⟩
def me_A_surjective : gs_M := (⟨"LineRules", "surjective", "()I"⟩, prog_1_method_10_code, 1, (some .int))
theorem Y_A_surjective : gY me_A_surjective 0 := ⟨(gw_t3 (List.mem_of_getElem? (i := 49) rfl) rfl), (gw_t1 (List.mem_of_getElem? (i := 1) rfl) rfl), ⟨by decide +kernel, by decide +kernel, by decide +kernel⟩, by decide +kernel⟩
theorem I_A_surjective : Cond.instanceMethod me_A_surjective.1 ∈ gw ∧ Cond.selects me_A_surjective.1.cls me_A_surjective.1 me_A_surjective.1 ∈ gw := ⟨(gw_t3 (List.mem_of_getElem? (i := 47) rfl) rfl), (gw_t3 (List.mem_of_getElem? (i := 48) rfl) rfl)⟩
def me_P_missesNothing : gs_M := (⟨"LineRules$Pairs", "missesNothing", "()Z"⟩, prog_4_method_3_code, 1, (some .boolean))
theorem Y_P_missesNothing : gY me_P_missesNothing 0 := ⟨(gw_t3 (List.mem_of_getElem? (i := 53) rfl) rfl), (gw_t1 (List.mem_of_getElem? (i := 5) rfl) rfl), ⟨by decide +kernel, by decide +kernel, by decide +kernel⟩, by decide +kernel⟩
theorem I_P_missesNothing : Cond.instanceMethod me_P_missesNothing.1 ∈ gw ∧ Cond.selects me_P_missesNothing.1.cls me_P_missesNothing.1 me_P_missesNothing.1 ∈ gw := ⟨(gw_t3 (List.mem_of_getElem? (i := 51) rfl) rfl), (gw_t3 (List.mem_of_getElem? (i := 52) rfl) rfl)⟩
def me_P_partAndMeet : gs_M := (⟨"LineRules$Pairs", "partAndMeet", "()Z"⟩, prog_4_method_5_code, 6, (some .boolean))
theorem Y_P_partAndMeet : gY me_P_partAndMeet 0 := ⟨(gw_t3 (List.mem_of_getElem? (i := 57) rfl) rfl), (gw_t1 (List.mem_of_getElem? (i := 5) rfl) rfl), ⟨by decide +kernel, by decide +kernel, by decide +kernel⟩, by decide +kernel⟩
theorem I_P_partAndMeet : Cond.instanceMethod me_P_partAndMeet.1 ∈ gw ∧ Cond.selects me_P_partAndMeet.1.cls me_P_partAndMeet.1 me_P_partAndMeet.1 ∈ gw := ⟨(gw_t3 (List.mem_of_getElem? (i := 56) rfl) rfl), (gw_s (q := (⟨"LineRules$Pairs", "partAndMeet", "()Z"⟩, 7)) (by decide +kernel) rfl)⟩
def me_P_partAt : gs_M := (⟨"LineRules$Pairs", "partAt", "(I)V"⟩, prog_4_method_6_code, 5, none)
theorem Y_P_partAt : gY me_P_partAt 1 := ⟨(gw_t3 (List.mem_of_getElem? (i := 62) rfl) rfl), (gw_t1 (List.mem_of_getElem? (i := 5) rfl) rfl), ⟨by decide +kernel, by decide +kernel, by decide +kernel⟩, by decide +kernel⟩
theorem I_P_partAt : Cond.instanceMethod me_P_partAt.1 ∈ gw ∧ Cond.selects me_P_partAt.1.cls me_P_partAt.1 me_P_partAt.1 ∈ gw := ⟨(gw_t3 (List.mem_of_getElem? (i := 61) rfl) rfl), (gw_s (q := (⟨"LineRules$Pairs", "partAt", "(I)V"⟩, 7)) (by decide +kernel) rfl)⟩
def me_P_meetsBehind : gs_M := (⟨"LineRules$Pairs", "meetsBehind", "(IJ)Z"⟩, prog_4_method_7_code, 10, (some .boolean))
theorem Y_P_meetsBehind : gY me_P_meetsBehind 2 := ⟨(gw_t3 (List.mem_of_getElem? (i := 68) rfl) rfl), (gw_t1 (List.mem_of_getElem? (i := 5) rfl) rfl), ⟨by decide +kernel, by decide +kernel, by decide +kernel⟩, by decide +kernel⟩
theorem I_P_meetsBehind : Cond.instanceMethod me_P_meetsBehind.1 ∈ gw ∧ Cond.selects me_P_meetsBehind.1.cls me_P_meetsBehind.1 me_P_meetsBehind.1 ∈ gw := ⟨(gw_t3 (List.mem_of_getElem? (i := 67) rfl) rfl), (gw_s (q := (⟨"LineRules$Pairs", "meetsBehind", "(IJ)Z"⟩, 7)) (by decide +kernel) rfl)⟩
def me_R_behind : gs_M := (⟨"LineRules$Rule", "behind", "(II)J"⟩, prog_7_method_6_code, 3, (some .long))
theorem Y_R_behind : gY me_R_behind 2 := ⟨(gw_t3 (List.mem_of_getElem? (i := 72) rfl) rfl), (gw_t1 (List.mem_of_getElem? (i := 3) rfl) rfl), ⟨by decide +kernel, by decide +kernel, by decide +kernel⟩, by decide +kernel⟩
theorem I_R_behind : Cond.instanceMethod me_R_behind.1 ∈ gw ∧ Cond.selects me_R_behind.1.cls me_R_behind.1 me_R_behind.1 ∈ gw := ⟨(gw_t3 (List.mem_of_getElem? (i := 70) rfl) rfl), (gw_t3 (List.mem_of_getElem? (i := 71) rfl) rfl)⟩
def me_A_injective : gs_M := (⟨"LineRules", "injective", "()I"⟩, prog_1_method_11_code, 1, (some .int))
theorem Y_A_injective : gY me_A_injective 0 := ⟨(gw_t3 (List.mem_of_getElem? (i := 76) rfl) rfl), (gw_t1 (List.mem_of_getElem? (i := 1) rfl) rfl), ⟨by decide +kernel, by decide +kernel, by decide +kernel⟩, by decide +kernel⟩
theorem I_A_injective : Cond.instanceMethod me_A_injective.1 ∈ gw ∧ Cond.selects me_A_injective.1.cls me_A_injective.1 me_A_injective.1 ∈ gw := ⟨(gw_t3 (List.mem_of_getElem? (i := 74) rfl) rfl), (gw_t3 (List.mem_of_getElem? (i := 75) rfl) rfl)⟩
def me_P_losesNothing : gs_M := (⟨"LineRules$Pairs", "losesNothing", "()Z"⟩, prog_4_method_4_code, 1, (some .boolean))
theorem Y_P_losesNothing : gY me_P_losesNothing 0 := ⟨(gw_t3 (List.mem_of_getElem? (i := 80) rfl) rfl), (gw_t1 (List.mem_of_getElem? (i := 5) rfl) rfl), ⟨by decide +kernel, by decide +kernel, by decide +kernel⟩, by decide +kernel⟩
theorem I_P_losesNothing : Cond.instanceMethod me_P_losesNothing.1 ∈ gw ∧ Cond.selects me_P_losesNothing.1.cls me_P_losesNothing.1 me_P_losesNothing.1 ∈ gw := ⟨(gw_t3 (List.mem_of_getElem? (i := 78) rfl) rfl), (gw_t3 (List.mem_of_getElem? (i := 79) rfl) rfl)⟩
def me_P_stayApart : gs_M := (⟨"LineRules$Pairs", "stayApart", "()Z"⟩, prog_4_method_8_code, 6, (some .boolean))
theorem Y_P_stayApart : gY me_P_stayApart 0 := ⟨(gw_t3 (List.mem_of_getElem? (i := 85) rfl) rfl), (gw_t1 (List.mem_of_getElem? (i := 5) rfl) rfl), ⟨by decide +kernel, by decide +kernel, by decide +kernel⟩, by decide +kernel⟩
theorem I_P_stayApart : Cond.instanceMethod me_P_stayApart.1 ∈ gw ∧ Cond.selects me_P_stayApart.1.cls me_P_stayApart.1 me_P_stayApart.1 ∈ gw := ⟨(gw_t3 (List.mem_of_getElem? (i := 84) rfl) rfl), (gw_s (q := (⟨"LineRules$Pairs", "stayApart", "()Z"⟩, 7)) (by decide +kernel) rfl)⟩
def me_R_allNodes : gs_M := (⟨"LineRules$Rule", "allNodes", "()J"⟩, prog_7_method_7_code, 1, (some .long))
theorem Y_R_allNodes : gY me_R_allNodes 0 := ⟨(gw_t3 (List.mem_of_getElem? (i := 89) rfl) rfl), (gw_t1 (List.mem_of_getElem? (i := 3) rfl) rfl), ⟨by decide +kernel, by decide +kernel, by decide +kernel⟩, by decide +kernel⟩
theorem I_R_allNodes : Cond.instanceMethod me_R_allNodes.1 ∈ gw ∧ Cond.selects me_R_allNodes.1.cls me_R_allNodes.1 me_R_allNodes.1 ∈ gw := ⟨(gw_t3 (List.mem_of_getElem? (i := 87) rfl) rfl), (gw_t3 (List.mem_of_getElem? (i := 88) rfl) rfl)⟩
def me_P_lasting : gs_M := (⟨"LineRules$Pairs", "lasting", "(I)J"⟩, prog_4_method_9_code, 9, (some .long))
theorem Y_P_lasting : gY me_P_lasting 1 := ⟨(gw_t3 (List.mem_of_getElem? (i := 94) rfl) rfl), (gw_t1 (List.mem_of_getElem? (i := 5) rfl) rfl), ⟨by decide +kernel, by decide +kernel, by decide +kernel⟩, by decide +kernel⟩
theorem I_P_lasting : Cond.instanceMethod me_P_lasting.1 ∈ gw ∧ Cond.selects me_P_lasting.1.cls me_P_lasting.1 me_P_lasting.1 ∈ gw := ⟨(gw_t3 (List.mem_of_getElem? (i := 93) rfl) rfl), (gw_s (q := (⟨"LineRules$Pairs", "lasting", "(I)J"⟩, 7)) (by decide +kernel) rfl)⟩
def me_A_inverse : gs_M := (⟨"LineRules", "inverse", "(I)I"⟩, prog_1_method_12_code, 2, (some .int))
theorem Y_A_inverse : gY me_A_inverse 1 := ⟨(gw_t3 (List.mem_of_getElem? (i := 98) rfl) rfl), (gw_t1 (List.mem_of_getElem? (i := 1) rfl) rfl), ⟨by decide +kernel, by decide +kernel, by decide +kernel⟩, by decide +kernel⟩
theorem I_A_inverse : Cond.instanceMethod me_A_inverse.1 ∈ gw ∧ Cond.selects me_A_inverse.1.cls me_A_inverse.1 me_A_inverse.1 ∈ gw := ⟨(gw_t3 (List.mem_of_getElem? (i := 96) rfl) rfl), (gw_t3 (List.mem_of_getElem? (i := 97) rfl) rfl)⟩
def me_V_width : gs_M := (⟨"LineRules$Inverse", "width", "()I"⟩, prog_2_method_3_code, 1, (some .int))
theorem Y_V_width : gY me_V_width 0 := ⟨(gw_t3 (List.mem_of_getElem? (i := 102) rfl) rfl), (gw_t1 (List.mem_of_getElem? (i := 6) rfl) rfl), ⟨by decide +kernel, by decide +kernel, by decide +kernel⟩, by decide +kernel⟩
theorem I_V_width : Cond.instanceMethod me_V_width.1 ∈ gw ∧ Cond.selects me_V_width.1.cls me_V_width.1 me_V_width.1 ∈ gw := ⟨(gw_t3 (List.mem_of_getElem? (i := 100) rfl) rfl), (gw_t3 (List.mem_of_getElem? (i := 101) rfl) rfl)⟩
def me_V_find : gs_M := (⟨"LineRules$Inverse", "find", "()V"⟩, prog_2_method_6_code, 2, none)
theorem Y_V_find : gY me_V_find 0 := ⟨(gw_t3 (List.mem_of_getElem? (i := 106) rfl) rfl), (gw_t1 (List.mem_of_getElem? (i := 6) rfl) rfl), ⟨by decide +kernel, by decide +kernel, by decide +kernel⟩, by decide +kernel⟩
theorem I_V_find : Cond.instanceMethod me_V_find.1 ∈ gw ∧ Cond.selects me_V_find.1.cls me_V_find.1 me_V_find.1 ∈ gw := ⟨(gw_t3 (List.mem_of_getElem? (i := 105) rfl) rfl), (gw_s (q := (⟨"LineRules$Inverse", "find", "()V"⟩, 6)) (by decide +kernel) rfl)⟩
def me_V_placesTold : gs_M := (⟨"LineRules$Inverse", "placesTold", "(I)I"⟩, prog_2_method_8_code, 7, (some .int))
theorem Y_V_placesTold : gY me_V_placesTold 1 := ⟨(gw_t3 (List.mem_of_getElem? (i := 111) rfl) rfl), (gw_t1 (List.mem_of_getElem? (i := 6) rfl) rfl), ⟨by decide +kernel, by decide +kernel, by decide +kernel⟩, by decide +kernel⟩
theorem I_V_placesTold : Cond.instanceMethod me_V_placesTold.1 ∈ gw ∧ Cond.selects me_V_placesTold.1.cls me_V_placesTold.1 me_V_placesTold.1 ∈ gw := ⟨(gw_t3 (List.mem_of_getElem? (i := 110) rfl) rfl), (gw_s (q := (⟨"LineRules$Inverse", "placesTold", "(I)I"⟩, 6)) (by decide +kernel) rfl)⟩
def me_V_madeOf : gs_M := (⟨"LineRules$Inverse", "madeOf", "(II)I"⟩, prog_2_method_9_code, 7, (some .int))
theorem Y_V_madeOf : gY me_V_madeOf 2 := ⟨(gw_t3 (List.mem_of_getElem? (i := 117) rfl) rfl), (gw_t1 (List.mem_of_getElem? (i := 6) rfl) rfl), ⟨by decide +kernel, by decide +kernel, by decide +kernel⟩, by decide +kernel⟩
theorem I_V_madeOf : Cond.instanceMethod me_V_madeOf.1 ∈ gw ∧ Cond.selects me_V_madeOf.1.cls me_V_madeOf.1 me_V_madeOf.1 ∈ gw := ⟨(gw_t3 (List.mem_of_getElem? (i := 116) rfl) rfl), (gw_s (q := (⟨"LineRules$Inverse", "madeOf", "(II)I"⟩, 6)) (by decide +kernel) rfl)⟩
def me_V_samePlaces : gs_M := (⟨"LineRules$Inverse", "samePlaces", "(III)I"⟩, prog_2_method_10_code, 8, (some .int))
theorem Y_V_samePlaces : gY me_V_samePlaces 3 := ⟨(gw_t3 (List.mem_of_getElem? (i := 121) rfl) rfl), (gw_t1 (List.mem_of_getElem? (i := 6) rfl) rfl), ⟨by decide +kernel, by decide +kernel, by decide +kernel⟩, by decide +kernel⟩
theorem I_V_samePlaces : Cond.instanceMethod me_V_samePlaces.1 ∈ gw ∧ Cond.selects me_V_samePlaces.1.cls me_V_samePlaces.1 me_V_samePlaces.1 ∈ gw := ⟨(gw_t3 (List.mem_of_getElem? (i := 120) rfl) rfl), (gw_s (q := (⟨"LineRules$Inverse", "samePlaces", "(III)I"⟩, 6)) (by decide +kernel) rfl)⟩
def me_V_takeLeast : gs_M := (⟨"LineRules$Inverse", "takeLeast", "(II)V"⟩, prog_2_method_7_code, 4, none)
theorem Y_V_takeLeast : gY me_V_takeLeast 2 := ⟨(gw_t3 (List.mem_of_getElem? (i := 125) rfl) rfl), (gw_t1 (List.mem_of_getElem? (i := 6) rfl) rfl), ⟨by decide +kernel, by decide +kernel, by decide +kernel⟩, by decide +kernel⟩
theorem I_V_takeLeast : Cond.instanceMethod me_V_takeLeast.1 ∈ gw ∧ Cond.selects me_V_takeLeast.1.cls me_V_takeLeast.1 me_V_takeLeast.1 ∈ gw := ⟨(gw_t3 (List.mem_of_getElem? (i := 124) rfl) rfl), (gw_s (q := (⟨"LineRules$Inverse", "takeLeast", "(II)V"⟩, 6)) (by decide +kernel) rfl)⟩
def me_V_place : gs_M := (⟨"LineRules$Inverse", "place", "()I"⟩, prog_2_method_4_code, 1, (some .int))
theorem Y_V_place : gY me_V_place 0 := ⟨(gw_t3 (List.mem_of_getElem? (i := 129) rfl) rfl), (gw_t1 (List.mem_of_getElem? (i := 6) rfl) rfl), ⟨by decide +kernel, by decide +kernel, by decide +kernel⟩, by decide +kernel⟩
theorem I_V_place : Cond.instanceMethod me_V_place.1 ∈ gw ∧ Cond.selects me_V_place.1.cls me_V_place.1 me_V_place.1 ∈ gw := ⟨(gw_t3 (List.mem_of_getElem? (i := 127) rfl) rfl), (gw_t3 (List.mem_of_getElem? (i := 128) rfl) rfl)⟩
def me_A_undo : gs_M := (⟨"LineRules", "undo", "(I)I"⟩, prog_1_method_13_code, 2, (some .int))
theorem Y_A_undo : gY me_A_undo 1 := ⟨(gw_t3 (List.mem_of_getElem? (i := 133) rfl) rfl), (gw_t1 (List.mem_of_getElem? (i := 1) rfl) rfl), ⟨by decide +kernel, by decide +kernel, by decide +kernel⟩, by decide +kernel⟩
theorem I_A_undo : Cond.instanceMethod me_A_undo.1 ∈ gw ∧ Cond.selects me_A_undo.1.cls me_A_undo.1 me_A_undo.1 ∈ gw := ⟨(gw_t3 (List.mem_of_getElem? (i := 131) rfl) rfl), (gw_t3 (List.mem_of_getElem? (i := 132) rfl) rfl)⟩
def me_V_cellOf : gs_M := (⟨"LineRules$Inverse", "cellOf", "(I)I"⟩, prog_2_method_5_code, 3, (some .int))
theorem Y_V_cellOf : gY me_V_cellOf 1 := ⟨(gw_t3 (List.mem_of_getElem? (i := 137) rfl) rfl), (gw_t1 (List.mem_of_getElem? (i := 6) rfl) rfl), ⟨by decide +kernel, by decide +kernel, by decide +kernel⟩, by decide +kernel⟩
theorem I_V_cellOf : Cond.instanceMethod me_V_cellOf.1 ∈ gw ∧ Cond.selects me_V_cellOf.1.cls me_V_cellOf.1 me_V_cellOf.1 ∈ gw := ⟨(gw_t3 (List.mem_of_getElem? (i := 135) rfl) rfl), (gw_t3 (List.mem_of_getElem? (i := 136) rfl) rfl)⟩
def me_A_conserved : gs_M := (⟨"LineRules", "conserved", "()I"⟩, prog_1_method_14_code, 1, (some .int))
theorem Y_A_conserved : gY me_A_conserved 0 := ⟨(gw_t3 (List.mem_of_getElem? (i := 141) rfl) rfl), (gw_t1 (List.mem_of_getElem? (i := 1) rfl) rfl), ⟨by decide +kernel, by decide +kernel, by decide +kernel⟩, by decide +kernel⟩
theorem I_A_conserved : Cond.instanceMethod me_A_conserved.1 ∈ gw ∧ Cond.selects me_A_conserved.1.cls me_A_conserved.1 me_A_conserved.1 ∈ gw := ⟨(gw_t3 (List.mem_of_getElem? (i := 139) rfl) rfl), (gw_t3 (List.mem_of_getElem? (i := 140) rfl) rfl)⟩
def me_W_count : gs_M := (⟨"LineRules$Weights", "count", "()I"⟩, prog_9_method_3_code, 1, (some .int))
theorem Y_W_count : gY me_W_count 0 := ⟨(gw_t3 (List.mem_of_getElem? (i := 145) rfl) rfl), (gw_t1 (List.mem_of_getElem? (i := 7) rfl) rfl), ⟨by decide +kernel, by decide +kernel, by decide +kernel⟩, by decide +kernel⟩
theorem I_W_count : Cond.instanceMethod me_W_count.1 ∈ gw ∧ Cond.selects me_W_count.1.cls me_W_count.1 me_W_count.1 ∈ gw := ⟨(gw_t3 (List.mem_of_getElem? (i := 143) rfl) rfl), (gw_t3 (List.mem_of_getElem? (i := 144) rfl) rfl)⟩
def me_W_find : gs_M := (⟨"LineRules$Weights", "find", "()V"⟩, prog_9_method_5_code, 2, none)
theorem Y_W_find : gY me_W_find 0 := ⟨(gw_t3 (List.mem_of_getElem? (i := 149) rfl) rfl), (gw_t1 (List.mem_of_getElem? (i := 7) rfl) rfl), ⟨by decide +kernel, by decide +kernel, by decide +kernel⟩, by decide +kernel⟩
theorem I_W_find : Cond.instanceMethod me_W_find.1 ∈ gw ∧ Cond.selects me_W_find.1.cls me_W_find.1 me_W_find.1 ∈ gw := ⟨(gw_t3 (List.mem_of_getElem? (i := 148) rfl) rfl), (gw_s (q := (⟨"LineRules$Weights", "find", "()V"⟩, 6)) (by decide +kernel) rfl)⟩
def me_W_writeEquation : gs_M := (⟨"LineRules$Weights", "writeEquation", "(I)V"⟩, prog_9_method_6_code, 2, none)
theorem Y_W_writeEquation : gY me_W_writeEquation 1 := ⟨(gw_t3 (List.mem_of_getElem? (i := 154) rfl) rfl), (gw_t1 (List.mem_of_getElem? (i := 7) rfl) rfl), ⟨by decide +kernel, by decide +kernel, by decide +kernel⟩, by decide +kernel⟩
theorem I_W_writeEquation : Cond.instanceMethod me_W_writeEquation.1 ∈ gw ∧ Cond.selects me_W_writeEquation.1.cls me_W_writeEquation.1 me_W_writeEquation.1 ∈ gw := ⟨(gw_t3 (List.mem_of_getElem? (i := 153) rfl) rfl), (gw_s (q := (⟨"LineRules$Weights", "writeEquation", "(I)V"⟩, 6)) (by decide +kernel) rfl)⟩
def me_W_addGain : gs_M := (⟨"LineRules$Weights", "addGain", "(II)V"⟩, prog_9_method_7_code, 5, none)
theorem Y_W_addGain : gY me_W_addGain 2 := ⟨(gw_t3 (List.mem_of_getElem? (i := 159) rfl) rfl), (gw_t1 (List.mem_of_getElem? (i := 7) rfl) rfl), ⟨by decide +kernel, by decide +kernel, by decide +kernel⟩, by decide +kernel⟩
theorem I_W_addGain : Cond.instanceMethod me_W_addGain.1 ∈ gw ∧ Cond.selects me_W_addGain.1.cls me_W_addGain.1 me_W_addGain.1 ∈ gw := ⟨(gw_t3 (List.mem_of_getElem? (i := 158) rfl) rfl), (gw_s (q := (⟨"LineRules$Weights", "addGain", "(II)V"⟩, 6)) (by decide +kernel) rfl)⟩
def me_W_tie : gs_M := (⟨"LineRules$Weights", "tie", "()V"⟩, prog_9_method_8_code, 5, none)
theorem Y_W_tie : gY me_W_tie 0 := ⟨(gw_t3 (List.mem_of_getElem? (i := 163) rfl) rfl), (gw_t1 (List.mem_of_getElem? (i := 7) rfl) rfl), ⟨by decide +kernel, by decide +kernel, by decide +kernel⟩, by decide +kernel⟩
theorem I_W_tie : Cond.instanceMethod me_W_tie.1 ∈ gw ∧ Cond.selects me_W_tie.1.cls me_W_tie.1 me_W_tie.1 ∈ gw := ⟨(gw_t3 (List.mem_of_getElem? (i := 162) rfl) rfl), (gw_s (q := (⟨"LineRules$Weights", "tie", "()V"⟩, 6)) (by decide +kernel) rfl)⟩
def me_W_shorten : gs_M := (⟨"LineRules$Weights", "shorten", "([J)V"⟩, prog_9_method_10_code, 5, none)
theorem Y_W_shorten : gY me_W_shorten 1 := ⟨(gw_t3 (List.mem_of_getElem? (i := 168) rfl) rfl), (gw_t1 (List.mem_of_getElem? (i := 7) rfl) rfl), ⟨by decide +kernel, by decide +kernel, by decide +kernel⟩, by decide +kernel⟩
theorem I_W_shorten : Cond.instanceMethod me_W_shorten.1 ∈ gw ∧ Cond.selects me_W_shorten.1.cls me_W_shorten.1 me_W_shorten.1 ∈ gw := ⟨(gw_t3 (List.mem_of_getElem? (i := 167) rfl) rfl), (gw_s (q := (⟨"LineRules$Weights", "shorten", "([J)V"⟩, 6)) (by decide +kernel) rfl)⟩
def me_J_abs : gs_M := (⟨"java/lang/Math", "abs", "(J)J"⟩, prog_12_method_61_code, 2, (some .long))
theorem Y_J_abs : gY me_J_abs 1 := ⟨(gw_t3 (List.mem_of_getElem? (i := 171) rfl) rfl), (gw_t1 (List.mem_of_getElem? (i := 11) rfl) rfl), ⟨by decide +kernel, by decide +kernel, by decide +kernel⟩, by decide +kernel⟩
theorem I_J_abs : Cond.static me_J_abs.1 ∈ gw := (gw_t3 (List.mem_of_getElem? (i := 170) rfl) rfl)
def me_W_commonDivisor : gs_M := (⟨"LineRules$Weights", "commonDivisor", "(JJ)J"⟩, prog_9_method_11_code, 11, (some .long))
theorem Y_W_commonDivisor : gY me_W_commonDivisor 2 := ⟨(gw_t3 (List.mem_of_getElem? (i := 174) rfl) rfl), (gw_t1 (List.mem_of_getElem? (i := 7) rfl) rfl), ⟨by decide +kernel, by decide +kernel, by decide +kernel⟩, by decide +kernel⟩
theorem I_W_commonDivisor : Cond.static me_W_commonDivisor.1 ∈ gw := (gw_t3 (List.mem_of_getElem? (i := 173) rfl) rfl)
def me_W_writeWeight : gs_M := (⟨"LineRules$Weights", "writeWeight", "(I[J)V"⟩, prog_9_method_9_code, 7, none)
theorem Y_W_writeWeight : gY me_W_writeWeight 2 := ⟨(gw_t3 (List.mem_of_getElem? (i := 178) rfl) rfl), (gw_t1 (List.mem_of_getElem? (i := 7) rfl) rfl), ⟨by decide +kernel, by decide +kernel, by decide +kernel⟩, by decide +kernel⟩
theorem I_W_writeWeight : Cond.instanceMethod me_W_writeWeight.1 ∈ gw ∧ Cond.selects me_W_writeWeight.1.cls me_W_writeWeight.1 me_W_writeWeight.1 ∈ gw := ⟨(gw_t3 (List.mem_of_getElem? (i := 177) rfl) rfl), (gw_s (q := (⟨"LineRules$Weights", "writeWeight", "(I[J)V"⟩, 6)) (by decide +kernel) rfl)⟩
def me_A_weight : gs_M := (⟨"LineRules", "weight", "(II)I"⟩, prog_1_method_15_code, 3, (some .int))
theorem Y_A_weight : gY me_A_weight 2 := ⟨(gw_t3 (List.mem_of_getElem? (i := 182) rfl) rfl), (gw_t1 (List.mem_of_getElem? (i := 1) rfl) rfl), ⟨by decide +kernel, by decide +kernel, by decide +kernel⟩, by decide +kernel⟩
theorem I_A_weight : Cond.instanceMethod me_A_weight.1 ∈ gw ∧ Cond.selects me_A_weight.1.cls me_A_weight.1 me_A_weight.1 ∈ gw := ⟨(gw_t3 (List.mem_of_getElem? (i := 180) rfl) rfl), (gw_t3 (List.mem_of_getElem? (i := 181) rfl) rfl)⟩
def me_W_at : gs_M := (⟨"LineRules$Weights", "at", "(II)I"⟩, prog_9_method_4_code, 3, (some .int))
theorem Y_W_at : gY me_W_at 2 := ⟨(gw_t3 (List.mem_of_getElem? (i := 186) rfl) rfl), (gw_t1 (List.mem_of_getElem? (i := 7) rfl) rfl), ⟨by decide +kernel, by decide +kernel, by decide +kernel⟩, by decide +kernel⟩
theorem I_W_at : Cond.instanceMethod me_W_at.1 ∈ gw ∧ Cond.selects me_W_at.1.cls me_W_at.1 me_W_at.1 ∈ gw := ⟨(gw_t3 (List.mem_of_getElem? (i := 184) rfl) rfl), (gw_t3 (List.mem_of_getElem? (i := 185) rfl) rfl)⟩
def me_A_orphan : gs_M := (⟨"LineRules", "orphan", "()I"⟩, prog_1_method_16_code, 1, (some .int))
theorem Y_A_orphan : gY me_A_orphan 0 := ⟨(gw_t3 (List.mem_of_getElem? (i := 191) rfl) rfl), (gw_t1 (List.mem_of_getElem? (i := 1) rfl) rfl), ⟨by decide +kernel, by decide +kernel, by decide +kernel⟩, by decide +kernel⟩
theorem I_A_orphan : Cond.instanceMethod me_A_orphan.1 ∈ gw ∧ Cond.selects me_A_orphan.1.cls me_A_orphan.1 me_A_orphan.1 ∈ gw := ⟨(gw_t3 (List.mem_of_getElem? (i := 189) rfl) rfl), (gw_t3 (List.mem_of_getElem? (i := 190) rfl) rfl)⟩
def me_O_length : gs_M := (⟨"LineRules$Orphan", "length", "()I"⟩, prog_3_method_3_code, 1, (some .int))
theorem Y_O_length : gY me_O_length 0 := ⟨(gw_t3 (List.mem_of_getElem? (i := 195) rfl) rfl), (gw_t1 (List.mem_of_getElem? (i := 8) rfl) rfl), ⟨by decide +kernel, by decide +kernel, by decide +kernel⟩, by decide +kernel⟩
theorem I_O_length : Cond.instanceMethod me_O_length.1 ∈ gw ∧ Cond.selects me_O_length.1.cls me_O_length.1 me_O_length.1 ∈ gw := ⟨(gw_t3 (List.mem_of_getElem? (i := 193) rfl) rfl), (gw_t3 (List.mem_of_getElem? (i := 194) rfl) rfl)⟩
def me_O_find : gs_M := (⟨"LineRules$Orphan", "find", "()V"⟩, prog_3_method_5_code, 1, none)
theorem Y_O_find : gY me_O_find 0 := ⟨(gw_t3 (List.mem_of_getElem? (i := 199) rfl) rfl), (gw_t1 (List.mem_of_getElem? (i := 8) rfl) rfl), ⟨by decide +kernel, by decide +kernel, by decide +kernel⟩, by decide +kernel⟩
theorem I_O_find : Cond.instanceMethod me_O_find.1 ∈ gw ∧ Cond.selects me_O_find.1.cls me_O_find.1 me_O_find.1 ∈ gw := ⟨(gw_t3 (List.mem_of_getElem? (i := 198) rfl) rfl), (gw_s (q := (⟨"LineRules$Orphan", "find", "()V"⟩, 10)) (by decide +kernel) rfl)⟩
def me_O_search : gs_M := (⟨"LineRules$Orphan", "search", "()I"⟩, prog_3_method_6_code, 3, (some .int))
theorem Y_O_search : gY me_O_search 0 := ⟨(gw_t3 (List.mem_of_getElem? (i := 204) rfl) rfl), (gw_t1 (List.mem_of_getElem? (i := 8) rfl) rfl), ⟨by decide +kernel, by decide +kernel, by decide +kernel⟩, by decide +kernel⟩
theorem I_O_search : Cond.instanceMethod me_O_search.1 ∈ gw ∧ Cond.selects me_O_search.1.cls me_O_search.1 me_O_search.1 ∈ gw := ⟨(gw_t3 (List.mem_of_getElem? (i := 203) rfl) rfl), (gw_s (q := (⟨"LineRules$Orphan", "search", "()I"⟩, 10)) (by decide +kernel) rfl)⟩
def me_O_meet : gs_M := (⟨"LineRules$Orphan", "meet", "(JII)V"⟩, prog_3_method_7_code, 6, none)
theorem Y_O_meet : gY me_O_meet 3 := ⟨(gw_t3 (List.mem_of_getElem? (i := 209) rfl) rfl), (gw_t1 (List.mem_of_getElem? (i := 8) rfl) rfl), ⟨by decide +kernel, by decide +kernel, by decide +kernel⟩, by decide +kernel⟩
theorem I_O_meet : Cond.instanceMethod me_O_meet.1 ∈ gw ∧ Cond.selects me_O_meet.1.cls me_O_meet.1 me_O_meet.1 ∈ gw := ⟨(gw_t3 (List.mem_of_getElem? (i := 208) rfl) rfl), (gw_s (q := (⟨"LineRules$Orphan", "meet", "(JII)V"⟩, 10)) (by decide +kernel) rfl)⟩
def me_O_spread : gs_M := (⟨"LineRules$Orphan", "spread", "(J)V"⟩, prog_3_method_8_code, 5, none)
theorem Y_O_spread : gY me_O_spread 1 := ⟨(gw_t3 (List.mem_of_getElem? (i := 213) rfl) rfl), (gw_t1 (List.mem_of_getElem? (i := 8) rfl) rfl), ⟨by decide +kernel, by decide +kernel, by decide +kernel⟩, by decide +kernel⟩
theorem I_O_spread : Cond.instanceMethod me_O_spread.1 ∈ gw ∧ Cond.selects me_O_spread.1.cls me_O_spread.1 me_O_spread.1 ∈ gw := ⟨(gw_t3 (List.mem_of_getElem? (i := 212) rfl) rfl), (gw_s (q := (⟨"LineRules$Orphan", "spread", "(J)V"⟩, 10)) (by decide +kernel) rfl)⟩
def me_O_write : gs_M := (⟨"LineRules$Orphan", "write", "(II)I"⟩, prog_3_method_9_code, 6, (some .int))
theorem Y_O_write : gY me_O_write 2 := ⟨(gw_t3 (List.mem_of_getElem? (i := 219) rfl) rfl), (gw_t1 (List.mem_of_getElem? (i := 8) rfl) rfl), ⟨by decide +kernel, by decide +kernel, by decide +kernel⟩, by decide +kernel⟩
theorem I_O_write : Cond.instanceMethod me_O_write.1 ∈ gw ∧ Cond.selects me_O_write.1.cls me_O_write.1 me_O_write.1 ∈ gw := ⟨(gw_t3 (List.mem_of_getElem? (i := 218) rfl) rfl), (gw_s (q := (⟨"LineRules$Orphan", "write", "(II)I"⟩, 10)) (by decide +kernel) rfl)⟩
def me_A_orphanAt : gs_M := (⟨"LineRules", "orphanAt", "(I)I"⟩, prog_1_method_17_code, 2, (some .int))
theorem Y_A_orphanAt : gY me_A_orphanAt 1 := ⟨(gw_t3 (List.mem_of_getElem? (i := 223) rfl) rfl), (gw_t1 (List.mem_of_getElem? (i := 1) rfl) rfl), ⟨by decide +kernel, by decide +kernel, by decide +kernel⟩, by decide +kernel⟩
theorem I_A_orphanAt : Cond.instanceMethod me_A_orphanAt.1 ∈ gw ∧ Cond.selects me_A_orphanAt.1.cls me_A_orphanAt.1 me_A_orphanAt.1 ∈ gw := ⟨(gw_t3 (List.mem_of_getElem? (i := 221) rfl) rfl), (gw_t3 (List.mem_of_getElem? (i := 222) rfl) rfl)⟩
def me_O_cell : gs_M := (⟨"LineRules$Orphan", "cell", "(I)I"⟩, prog_3_method_4_code, 2, (some .int))
theorem Y_O_cell : gY me_O_cell 1 := ⟨(gw_t3 (List.mem_of_getElem? (i := 227) rfl) rfl), (gw_t1 (List.mem_of_getElem? (i := 8) rfl) rfl), ⟨by decide +kernel, by decide +kernel, by decide +kernel⟩, by decide +kernel⟩
theorem I_O_cell : Cond.instanceMethod me_O_cell.1 ∈ gw ∧ Cond.selects me_O_cell.1.cls me_O_cell.1 me_O_cell.1 ∈ gw := ⟨(gw_t3 (List.mem_of_getElem? (i := 225) rfl) rfl), (gw_t3 (List.mem_of_getElem? (i := 226) rfl) rfl)⟩
def me_A_before : gs_M := (⟨"LineRules", "before", "()I"⟩, prog_1_method_18_code, 1, (some .int))
theorem Y_A_before : gY me_A_before 0 := ⟨(gw_t3 (List.mem_of_getElem? (i := 231) rfl) rfl), (gw_t1 (List.mem_of_getElem? (i := 1) rfl) rfl), ⟨by decide +kernel, by decide +kernel, by decide +kernel⟩, by decide +kernel⟩
theorem I_A_before : Cond.instanceMethod me_A_before.1 ∈ gw ∧ Cond.selects me_A_before.1.cls me_A_before.1 me_A_before.1 ∈ gw := ⟨(gw_t3 (List.mem_of_getElem? (i := 229) rfl) rfl), (gw_t3 (List.mem_of_getElem? (i := 230) rfl) rfl)⟩
def me_H_exists : gs_M := (⟨"LineRules$Past", "exists", "()Z"⟩, prog_5_method_3_code, 1, (some .boolean))
theorem Y_H_exists : gY me_H_exists 0 := ⟨(gw_t3 (List.mem_of_getElem? (i := 235) rfl) rfl), (gw_t1 (List.mem_of_getElem? (i := 9) rfl) rfl), ⟨by decide +kernel, by decide +kernel, by decide +kernel⟩, by decide +kernel⟩
theorem I_H_exists : Cond.instanceMethod me_H_exists.1 ∈ gw ∧ Cond.selects me_H_exists.1.cls me_H_exists.1 me_H_exists.1 ∈ gw := ⟨(gw_t3 (List.mem_of_getElem? (i := 233) rfl) rfl), (gw_t3 (List.mem_of_getElem? (i := 234) rfl) rfl)⟩
def me_H_find : gs_M := (⟨"LineRules$Past", "find", "()V"⟩, prog_5_method_6_code, 2, none)
theorem Y_H_find : gY me_H_find 0 := ⟨(gw_t3 (List.mem_of_getElem? (i := 239) rfl) rfl), (gw_t1 (List.mem_of_getElem? (i := 9) rfl) rfl), ⟨by decide +kernel, by decide +kernel, by decide +kernel⟩, by decide +kernel⟩
theorem I_H_find : Cond.instanceMethod me_H_find.1 ∈ gw ∧ Cond.selects me_H_find.1.cls me_H_find.1 me_H_find.1 ∈ gw := ⟨(gw_t3 (List.mem_of_getElem? (i := 238) rfl) rfl), (gw_s (q := (⟨"LineRules$Past", "find", "()V"⟩, 10)) (by decide +kernel) rfl)⟩
def me_H_comesBackTo : gs_M := (⟨"LineRules$Past", "comesBackTo", "(I)Z"⟩, prog_5_method_8_code, 3, (some .boolean))
theorem Y_H_comesBackTo : gY me_H_comesBackTo 1 := ⟨(gw_t4 (List.mem_of_getElem? (i := 3) rfl) rfl), (gw_t1 (List.mem_of_getElem? (i := 9) rfl) rfl), ⟨by decide +kernel, by decide +kernel, by decide +kernel⟩, by decide +kernel⟩
theorem I_H_comesBackTo : Cond.instanceMethod me_H_comesBackTo.1 ∈ gw ∧ Cond.selects me_H_comesBackTo.1.cls me_H_comesBackTo.1 me_H_comesBackTo.1 ∈ gw := ⟨(gw_t4 (List.mem_of_getElem? (i := 2) rfl) rfl), (gw_s (q := (⟨"LineRules$Past", "comesBackTo", "(I)Z"⟩, 10)) (by decide +kernel) rfl)⟩
def me_H_due : gs_M := (⟨"LineRules$Past", "due", "(I)I"⟩, prog_5_method_7_code, 2, (some .int))
theorem Y_H_due : gY me_H_due 1 := ⟨(gw_t4 (List.mem_of_getElem? (i := 7) rfl) rfl), (gw_t1 (List.mem_of_getElem? (i := 9) rfl) rfl), ⟨by decide +kernel, by decide +kernel, by decide +kernel⟩, by decide +kernel⟩
theorem I_H_due : Cond.instanceMethod me_H_due.1 ∈ gw ∧ Cond.selects me_H_due.1.cls me_H_due.1 me_H_due.1 ∈ gw := ⟨(gw_t4 (List.mem_of_getElem? (i := 6) rfl) rfl), (gw_s (q := (⟨"LineRules$Past", "due", "(I)I"⟩, 10)) (by decide +kernel) rfl)⟩
def me_H_leadingInto : gs_M := (⟨"LineRules$Past", "leadingInto", "(JI)J"⟩, prog_5_method_9_code, 7, (some .long))
theorem Y_H_leadingInto : gY me_H_leadingInto 2 := ⟨(gw_t4 (List.mem_of_getElem? (i := 12) rfl) rfl), (gw_t1 (List.mem_of_getElem? (i := 9) rfl) rfl), ⟨by decide +kernel, by decide +kernel, by decide +kernel⟩, by decide +kernel⟩
theorem I_H_leadingInto : Cond.instanceMethod me_H_leadingInto.1 ∈ gw ∧ Cond.selects me_H_leadingInto.1.cls me_H_leadingInto.1 me_H_leadingInto.1 ∈ gw := ⟨(gw_t4 (List.mem_of_getElem? (i := 11) rfl) rfl), (gw_s (q := (⟨"LineRules$Past", "leadingInto", "(JI)J"⟩, 10)) (by decide +kernel) rfl)⟩
def me_H_trace : gs_M := (⟨"LineRules$Past", "trace", "(I)V"⟩, prog_5_method_10_code, 5, none)
theorem Y_H_trace : gY me_H_trace 1 := ⟨(gw_t4 (List.mem_of_getElem? (i := 17) rfl) rfl), (gw_t1 (List.mem_of_getElem? (i := 9) rfl) rfl), ⟨by decide +kernel, by decide +kernel, by decide +kernel⟩, by decide +kernel⟩
theorem I_H_trace : Cond.instanceMethod me_H_trace.1 ∈ gw ∧ Cond.selects me_H_trace.1.cls me_H_trace.1 me_H_trace.1 ∈ gw := ⟨(gw_t4 (List.mem_of_getElem? (i := 16) rfl) rfl), (gw_s (q := (⟨"LineRules$Past", "trace", "(I)V"⟩, 10)) (by decide +kernel) rfl)⟩
def me_H_leastCell : gs_M := (⟨"LineRules$Past", "leastCell", "(II)I"⟩, prog_5_method_11_code, 6, (some .int))
theorem Y_H_leastCell : gY me_H_leastCell 2 := ⟨(gw_t4 (List.mem_of_getElem? (i := 21) rfl) rfl), (gw_t1 (List.mem_of_getElem? (i := 9) rfl) rfl), ⟨by decide +kernel, by decide +kernel, by decide +kernel⟩, by decide +kernel⟩
theorem I_H_leastCell : Cond.instanceMethod me_H_leastCell.1 ∈ gw ∧ Cond.selects me_H_leastCell.1.cls me_H_leastCell.1 me_H_leastCell.1 ∈ gw := ⟨(gw_t4 (List.mem_of_getElem? (i := 20) rfl) rfl), (gw_s (q := (⟨"LineRules$Past", "leastCell", "(II)I"⟩, 10)) (by decide +kernel) rfl)⟩
def me_A_beforeAt : gs_M := (⟨"LineRules", "beforeAt", "(I)I"⟩, prog_1_method_19_code, 2, (some .int))
theorem Y_A_beforeAt : gY me_A_beforeAt 1 := ⟨(gw_t4 (List.mem_of_getElem? (i := 26) rfl) rfl), (gw_t1 (List.mem_of_getElem? (i := 1) rfl) rfl), ⟨by decide +kernel, by decide +kernel, by decide +kernel⟩, by decide +kernel⟩
theorem I_A_beforeAt : Cond.instanceMethod me_A_beforeAt.1 ∈ gw ∧ Cond.selects me_A_beforeAt.1.cls me_A_beforeAt.1 me_A_beforeAt.1 ∈ gw := ⟨(gw_t4 (List.mem_of_getElem? (i := 24) rfl) rfl), (gw_t4 (List.mem_of_getElem? (i := 25) rfl) rfl)⟩
def me_H_cell : gs_M := (⟨"LineRules$Past", "cell", "(I)I"⟩, prog_5_method_4_code, 2, (some .int))
theorem Y_H_cell : gY me_H_cell 1 := ⟨(gw_t4 (List.mem_of_getElem? (i := 30) rfl) rfl), (gw_t1 (List.mem_of_getElem? (i := 9) rfl) rfl), ⟨by decide +kernel, by decide +kernel, by decide +kernel⟩, by decide +kernel⟩
theorem I_H_cell : Cond.instanceMethod me_H_cell.1 ∈ gw ∧ Cond.selects me_H_cell.1.cls me_H_cell.1 me_H_cell.1 ∈ gw := ⟨(gw_t4 (List.mem_of_getElem? (i := 28) rfl) rfl), (gw_t4 (List.mem_of_getElem? (i := 29) rfl) rfl)⟩
def me_A_ways : gs_M := (⟨"LineRules", "ways", "()J"⟩, prog_1_method_20_code, 1, (some .long))
theorem Y_A_ways : gY me_A_ways 0 := ⟨(gw_t4 (List.mem_of_getElem? (i := 35) rfl) rfl), (gw_t1 (List.mem_of_getElem? (i := 1) rfl) rfl), ⟨by decide +kernel, by decide +kernel, by decide +kernel⟩, by decide +kernel⟩
theorem I_A_ways : Cond.instanceMethod me_A_ways.1 ∈ gw ∧ Cond.selects me_A_ways.1.cls me_A_ways.1 me_A_ways.1 ∈ gw := ⟨(gw_t4 (List.mem_of_getElem? (i := 33) rfl) rfl), (gw_t4 (List.mem_of_getElem? (i := 34) rfl) rfl)⟩
def me_H_count : gs_M := (⟨"LineRules$Past", "count", "()J"⟩, prog_5_method_5_code, 2, (some .long))
theorem Y_H_count : gY me_H_count 0 := ⟨(gw_t4 (List.mem_of_getElem? (i := 39) rfl) rfl), (gw_t1 (List.mem_of_getElem? (i := 9) rfl) rfl), ⟨by decide +kernel, by decide +kernel, by decide +kernel⟩, by decide +kernel⟩
theorem I_H_count : Cond.instanceMethod me_H_count.1 ∈ gw ∧ Cond.selects me_H_count.1.cls me_H_count.1 me_H_count.1 ∈ gw := ⟨(gw_t4 (List.mem_of_getElem? (i := 37) rfl) rfl), (gw_t4 (List.mem_of_getElem? (i := 38) rfl) rfl)⟩
def me_H_walksBackTo : gs_M := (⟨"LineRules$Past", "walksBackTo", "(I)J"⟩, prog_5_method_12_code, 3, (some .long))
theorem Y_H_walksBackTo : gY me_H_walksBackTo 1 := ⟨(gw_t4 (List.mem_of_getElem? (i := 43) rfl) rfl), (gw_t1 (List.mem_of_getElem? (i := 9) rfl) rfl), ⟨by decide +kernel, by decide +kernel, by decide +kernel⟩, by decide +kernel⟩
theorem I_H_walksBackTo : Cond.instanceMethod me_H_walksBackTo.1 ∈ gw ∧ Cond.selects me_H_walksBackTo.1.cls me_H_walksBackTo.1 me_H_walksBackTo.1 ∈ gw := ⟨(gw_t4 (List.mem_of_getElem? (i := 42) rfl) rfl), (gw_s (q := (⟨"LineRules$Past", "walksBackTo", "(I)J"⟩, 10)) (by decide +kernel) rfl)⟩
def me_H_goOn : gs_M := (⟨"LineRules$Past", "goOn", "(I)V"⟩, prog_5_method_13_code, 8, none)
theorem Y_H_goOn : gY me_H_goOn 1 := ⟨(gw_t4 (List.mem_of_getElem? (i := 48) rfl) rfl), (gw_t1 (List.mem_of_getElem? (i := 9) rfl) rfl), ⟨by decide +kernel, by decide +kernel, by decide +kernel⟩, by decide +kernel⟩
theorem I_H_goOn : Cond.instanceMethod me_H_goOn.1 ∈ gw ∧ Cond.selects me_H_goOn.1.cls me_H_goOn.1 me_H_goOn.1 ∈ gw := ⟨(gw_t4 (List.mem_of_getElem? (i := 47) rfl) rfl), (gw_s (q := (⟨"LineRules$Past", "goOn", "(I)V"⟩, 10)) (by decide +kernel) rfl)⟩
def me_Y_fillR : gs_M := (⟨"java/util/Arrays", "fill", "([JIIJ)V"⟩, prog_14_method_102_code, 6, none)
theorem Y_Y_fillR : gY me_Y_fillR 4 := ⟨(gw_t4 (List.mem_of_getElem? (i := 51) rfl) rfl), (gw_t1 (List.mem_of_getElem? (i := 12) rfl) rfl), ⟨by decide +kernel, by decide +kernel, by decide +kernel⟩, by decide +kernel⟩
theorem I_Y_fillR : Cond.static me_Y_fillR.1 ∈ gw := (gw_t4 (List.mem_of_getElem? (i := 50) rfl) rfl)
def me_Y_rangeCheck : gs_M := (⟨"java/util/Arrays", "rangeCheck", "(III)V"⟩, prog_14_method_30_code, 3, none)
theorem Y_Y_rangeCheck : gY me_Y_rangeCheck 3 := ⟨(gw_t4 (List.mem_of_getElem? (i := 54) rfl) rfl), (gw_t1 (List.mem_of_getElem? (i := 12) rfl) rfl), ⟨by decide +kernel, by decide +kernel, by decide +kernel⟩, by decide +kernel⟩
theorem I_Y_rangeCheck : Cond.static me_Y_rangeCheck.1 ∈ gw := (gw_t4 (List.mem_of_getElem? (i := 53) rfl) rfl)
def me_M_init : gs_M := (⟨"LineRulesModel", "<init>", "()V"⟩, prog_11_method_1_code, 1, none)
theorem Y_M_init : gY me_M_init 0 := ⟨(gw_t4 (List.mem_of_getElem? (i := 60) rfl) rfl), (gw_t1 (List.mem_of_getElem? (i := 10) rfl) rfl), ⟨by decide +kernel, by decide +kernel, by decide +kernel⟩, by decide +kernel⟩
def me_M_load : gs_M := (⟨"LineRulesModel", "load", "(I)I"⟩, prog_11_method_2_code, 2, (some .int))
theorem Y_M_load : gY me_M_load 1 := ⟨(gw_t4 (List.mem_of_getElem? (i := 229) rfl) rfl), (gw_t1 (List.mem_of_getElem? (i := 10) rfl) rfl), ⟨by decide +kernel, by decide +kernel, by decide +kernel⟩, by decide +kernel⟩
theorem I_M_load : Cond.instanceMethod me_M_load.1 ∈ gw ∧ Cond.selects me_M_load.1.cls me_M_load.1 me_M_load.1 ∈ gw := ⟨(gw_t4 (List.mem_of_getElem? (i := 227) rfl) rfl), (gw_t4 (List.mem_of_getElem? (i := 228) rfl) rfl)⟩
def me_M_rule : gs_M := (⟨"LineRulesModel", "rule", "()I"⟩, prog_11_method_19_code, 3, (some .int))
theorem Y_M_rule : gY me_M_rule 0 := ⟨(gw_t4 (List.mem_of_getElem? (i := 233) rfl) rfl), (gw_t1 (List.mem_of_getElem? (i := 10) rfl) rfl), ⟨by decide +kernel, by decide +kernel, by decide +kernel⟩, by decide +kernel⟩
theorem I_M_rule : Cond.instanceMethod me_M_rule.1 ∈ gw ∧ Cond.selects me_M_rule.1.cls me_M_rule.1 me_M_rule.1 ∈ gw := ⟨(gw_t4 (List.mem_of_getElem? (i := 231) rfl) rfl), (gw_t4 (List.mem_of_getElem? (i := 232) rfl) rfl)⟩
def me_M_readAll : gs_M := (⟨"LineRulesModel", "readAll", "()I"⟩, prog_11_method_17_code, 3, (some .int))
theorem Y_M_readAll : gY me_M_readAll 0 := ⟨(gw_t4 (List.mem_of_getElem? (i := 237) rfl) rfl), (gw_t1 (List.mem_of_getElem? (i := 10) rfl) rfl), ⟨by decide +kernel, by decide +kernel, by decide +kernel⟩, by decide +kernel⟩
theorem I_M_readAll : Cond.instanceMethod me_M_readAll.1 ∈ gw ∧ Cond.selects me_M_readAll.1.cls me_M_readAll.1 me_M_readAll.1 ∈ gw := ⟨(gw_t4 (List.mem_of_getElem? (i := 236) rfl) rfl), (gw_s (q := (⟨"LineRulesModel", "readAll", "()I"⟩, 54)) (by decide +kernel) rfl)⟩
def me_M_powerOf : gs_M := (⟨"LineRulesModel", "powerOf", "(II)I"⟩, prog_11_method_3_code, 4, (some .int))
theorem Y_M_powerOf : gY me_M_powerOf 2 := ⟨(gw_t5 (List.mem_of_getElem? (i := 0) rfl) rfl), (gw_t1 (List.mem_of_getElem? (i := 10) rfl) rfl), ⟨by decide +kernel, by decide +kernel, by decide +kernel⟩, by decide +kernel⟩
theorem I_M_powerOf : Cond.static me_M_powerOf.1 ∈ gw := (gw_t4 (List.mem_of_getElem? (i := 239) rfl) rfl)
def me_M_readRow : gs_M := (⟨"LineRulesModel", "readRow", "(I)I"⟩, prog_11_method_16_code, 3, (some .int))
theorem Y_M_readRow : gY me_M_readRow 1 := ⟨(gw_t5 (List.mem_of_getElem? (i := 4) rfl) rfl), (gw_t1 (List.mem_of_getElem? (i := 10) rfl) rfl), ⟨by decide +kernel, by decide +kernel, by decide +kernel⟩, by decide +kernel⟩
theorem I_M_readRow : Cond.instanceMethod me_M_readRow.1 ∈ gw ∧ Cond.selects me_M_readRow.1.cls me_M_readRow.1 me_M_readRow.1 ∈ gw := ⟨(gw_t5 (List.mem_of_getElem? (i := 3) rfl) rfl), (gw_s (q := (⟨"LineRulesModel", "readRow", "(I)I"⟩, 54)) (by decide +kernel) rfl)⟩
def me_M_work : gs_M := (⟨"LineRulesModel", "work", "(I)I"⟩, prog_11_method_15_code, 6, (some .int))
theorem Y_M_work : gY me_M_work 1 := ⟨(gw_t5 (List.mem_of_getElem? (i := 8) rfl) rfl), (gw_t1 (List.mem_of_getElem? (i := 10) rfl) rfl), ⟨by decide +kernel, by decide +kernel, by decide +kernel⟩, by decide +kernel⟩
theorem I_M_work : Cond.instanceMethod me_M_work.1 ∈ gw ∧ Cond.selects me_M_work.1.cls me_M_work.1 me_M_work.1 ∈ gw := ⟨(gw_t5 (List.mem_of_getElem? (i := 7) rfl) rfl), (gw_s (q := (⟨"LineRulesModel", "work", "(I)I"⟩, 54)) (by decide +kernel) rfl)⟩
def me_M_fresh : gs_M := (⟨"LineRulesModel", "fresh", "(I)V"⟩, prog_11_method_4_code, 2, none)
theorem Y_M_fresh : gY me_M_fresh 1 := ⟨(gw_t5 (List.mem_of_getElem? (i := 12) rfl) rfl), (gw_t1 (List.mem_of_getElem? (i := 10) rfl) rfl), ⟨by decide +kernel, by decide +kernel, by decide +kernel⟩, by decide +kernel⟩
theorem I_M_fresh : Cond.instanceMethod me_M_fresh.1 ∈ gw ∧ Cond.selects me_M_fresh.1.cls me_M_fresh.1 me_M_fresh.1 ∈ gw := ⟨(gw_t5 (List.mem_of_getElem? (i := 11) rfl) rfl), (gw_s (q := (⟨"LineRulesModel", "fresh", "(I)V"⟩, 54)) (by decide +kernel) rfl)⟩
def me_M_begins : gs_M := (⟨"LineRulesModel", "begins", "(II)Z"⟩, prog_11_method_13_code, 3, (some .boolean))
theorem Y_M_begins : gY me_M_begins 2 := ⟨(gw_t5 (List.mem_of_getElem? (i := 16) rfl) rfl), (gw_t1 (List.mem_of_getElem? (i := 10) rfl) rfl), ⟨by decide +kernel, by decide +kernel, by decide +kernel⟩, by decide +kernel⟩
theorem I_M_begins : Cond.instanceMethod me_M_begins.1 ∈ gw ∧ Cond.selects me_M_begins.1.cls me_M_begins.1 me_M_begins.1 ∈ gw := ⟨(gw_t5 (List.mem_of_getElem? (i := 15) rfl) rfl), (gw_s (q := (⟨"LineRulesModel", "begins", "(II)Z"⟩, 54)) (by decide +kernel) rfl)⟩
def me_M_operand : gs_M := (⟨"LineRulesModel", "operand", "(I)V"⟩, prog_11_method_6_code, 3, none)
theorem Y_M_operand : gY me_M_operand 1 := ⟨(gw_t5 (List.mem_of_getElem? (i := 20) rfl) rfl), (gw_t1 (List.mem_of_getElem? (i := 10) rfl) rfl), ⟨by decide +kernel, by decide +kernel, by decide +kernel⟩, by decide +kernel⟩
theorem I_M_operand : Cond.instanceMethod me_M_operand.1 ∈ gw ∧ Cond.selects me_M_operand.1.cls me_M_operand.1 me_M_operand.1 ∈ gw := ⟨(gw_t5 (List.mem_of_getElem? (i := 19) rfl) rfl), (gw_s (q := (⟨"LineRulesModel", "operand", "(I)V"⟩, 54)) (by decide +kernel) rfl)⟩
def me_M_open : gs_M := (⟨"LineRulesModel", "open", "(II)V"⟩, prog_11_method_5_code, 3, none)
theorem Y_M_open : gY me_M_open 2 := ⟨(gw_t5 (List.mem_of_getElem? (i := 24) rfl) rfl), (gw_t1 (List.mem_of_getElem? (i := 10) rfl) rfl), ⟨by decide +kernel, by decide +kernel, by decide +kernel⟩, by decide +kernel⟩
theorem I_M_open : Cond.instanceMethod me_M_open.1 ∈ gw ∧ Cond.selects me_M_open.1.cls me_M_open.1 me_M_open.1 ∈ gw := ⟨(gw_t5 (List.mem_of_getElem? (i := 23) rfl) rfl), (gw_s (q := (⟨"LineRulesModel", "open", "(II)V"⟩, 54)) (by decide +kernel) rfl)⟩
def me_M_goesOn : gs_M := (⟨"LineRulesModel", "goesOn", "(I)Z"⟩, prog_11_method_14_code, 3, (some .boolean))
theorem Y_M_goesOn : gY me_M_goesOn 1 := ⟨(gw_t5 (List.mem_of_getElem? (i := 28) rfl) rfl), (gw_t1 (List.mem_of_getElem? (i := 10) rfl) rfl), ⟨by decide +kernel, by decide +kernel, by decide +kernel⟩, by decide +kernel⟩
theorem I_M_goesOn : Cond.instanceMethod me_M_goesOn.1 ∈ gw ∧ Cond.selects me_M_goesOn.1.cls me_M_goesOn.1 me_M_goesOn.1 ∈ gw := ⟨(gw_t5 (List.mem_of_getElem? (i := 27) rfl) rfl), (gw_s (q := (⟨"LineRulesModel", "goesOn", "(I)Z"⟩, 54)) (by decide +kernel) rfl)⟩
def me_M_endProduct : gs_M := (⟨"LineRulesModel", "endProduct", "()V"⟩, prog_11_method_7_code, 3, none)
theorem Y_M_endProduct : gY me_M_endProduct 0 := ⟨(gw_t5 (List.mem_of_getElem? (i := 32) rfl) rfl), (gw_t1 (List.mem_of_getElem? (i := 10) rfl) rfl), ⟨by decide +kernel, by decide +kernel, by decide +kernel⟩, by decide +kernel⟩
theorem I_M_endProduct : Cond.instanceMethod me_M_endProduct.1 ∈ gw ∧ Cond.selects me_M_endProduct.1.cls me_M_endProduct.1 me_M_endProduct.1 ∈ gw := ⟨(gw_t5 (List.mem_of_getElem? (i := 31) rfl) rfl), (gw_s (q := (⟨"LineRulesModel", "endProduct", "()V"⟩, 54)) (by decide +kernel) rfl)⟩
def me_M_endSum : gs_M := (⟨"LineRulesModel", "endSum", "()I"⟩, prog_11_method_8_code, 1, (some .int))
theorem Y_M_endSum : gY me_M_endSum 0 := ⟨(gw_t5 (List.mem_of_getElem? (i := 36) rfl) rfl), (gw_t1 (List.mem_of_getElem? (i := 10) rfl) rfl), ⟨by decide +kernel, by decide +kernel, by decide +kernel⟩, by decide +kernel⟩
theorem I_M_endSum : Cond.instanceMethod me_M_endSum.1 ∈ gw ∧ Cond.selects me_M_endSum.1.cls me_M_endSum.1 me_M_endSum.1 ∈ gw := ⟨(gw_t5 (List.mem_of_getElem? (i := 35) rfl) rfl), (gw_s (q := (⟨"LineRulesModel", "endSum", "()I"⟩, 54)) (by decide +kernel) rfl)⟩
def me_M_endTest : gs_M := (⟨"LineRulesModel", "endTest", "()V"⟩, prog_11_method_9_code, 3, none)
theorem Y_M_endTest : gY me_M_endTest 0 := ⟨(gw_t5 (List.mem_of_getElem? (i := 40) rfl) rfl), (gw_t1 (List.mem_of_getElem? (i := 10) rfl) rfl), ⟨by decide +kernel, by decide +kernel, by decide +kernel⟩, by decide +kernel⟩
theorem I_M_endTest : Cond.instanceMethod me_M_endTest.1 ∈ gw ∧ Cond.selects me_M_endTest.1.cls me_M_endTest.1 me_M_endTest.1 ∈ gw := ⟨(gw_t5 (List.mem_of_getElem? (i := 39) rfl) rfl), (gw_s (q := (⟨"LineRulesModel", "endTest", "()V"⟩, 54)) (by decide +kernel) rfl)⟩
def me_M_endBoth : gs_M := (⟨"LineRulesModel", "endBoth", "()V"⟩, prog_11_method_10_code, 2, none)
theorem Y_M_endBoth : gY me_M_endBoth 0 := ⟨(gw_t5 (List.mem_of_getElem? (i := 44) rfl) rfl), (gw_t1 (List.mem_of_getElem? (i := 10) rfl) rfl), ⟨by decide +kernel, by decide +kernel, by decide +kernel⟩, by decide +kernel⟩
theorem I_M_endBoth : Cond.instanceMethod me_M_endBoth.1 ∈ gw ∧ Cond.selects me_M_endBoth.1.cls me_M_endBoth.1 me_M_endBoth.1 ∈ gw := ⟨(gw_t5 (List.mem_of_getElem? (i := 43) rfl) rfl), (gw_s (q := (⟨"LineRulesModel", "endBoth", "()V"⟩, 54)) (by decide +kernel) rfl)⟩
def me_M_endEither : gs_M := (⟨"LineRulesModel", "endEither", "()I"⟩, prog_11_method_11_code, 1, (some .int))
theorem Y_M_endEither : gY me_M_endEither 0 := ⟨(gw_t5 (List.mem_of_getElem? (i := 48) rfl) rfl), (gw_t1 (List.mem_of_getElem? (i := 10) rfl) rfl), ⟨by decide +kernel, by decide +kernel, by decide +kernel⟩, by decide +kernel⟩
theorem I_M_endEither : Cond.instanceMethod me_M_endEither.1 ∈ gw ∧ Cond.selects me_M_endEither.1.cls me_M_endEither.1 me_M_endEither.1 ∈ gw := ⟨(gw_t5 (List.mem_of_getElem? (i := 47) rfl) rfl), (gw_s (q := (⟨"LineRulesModel", "endEither", "()I"⟩, 54)) (by decide +kernel) rfl)⟩
def me_M_endChoice : gs_M := (⟨"LineRulesModel", "endChoice", "()I"⟩, prog_11_method_12_code, 2, (some .int))
theorem Y_M_endChoice : gY me_M_endChoice 0 := ⟨(gw_t5 (List.mem_of_getElem? (i := 52) rfl) rfl), (gw_t1 (List.mem_of_getElem? (i := 10) rfl) rfl), ⟨by decide +kernel, by decide +kernel, by decide +kernel⟩, by decide +kernel⟩
theorem I_M_endChoice : Cond.instanceMethod me_M_endChoice.1 ∈ gw ∧ Cond.selects me_M_endChoice.1.cls me_M_endChoice.1 me_M_endChoice.1 ∈ gw := ⟨(gw_t5 (List.mem_of_getElem? (i := 51) rfl) rfl), (gw_s (q := (⟨"LineRulesModel", "endChoice", "()I"⟩, 54)) (by decide +kernel) rfl)⟩
def me_M_digitSum : gs_M := (⟨"LineRulesModel", "digitSum", "(II)I"⟩, prog_11_method_18_code, 4, (some .int))
theorem Y_M_digitSum : gY me_M_digitSum 2 := ⟨(gw_t5 (List.mem_of_getElem? (i := 55) rfl) rfl), (gw_t1 (List.mem_of_getElem? (i := 10) rfl) rfl), ⟨by decide +kernel, by decide +kernel, by decide +kernel⟩, by decide +kernel⟩
theorem I_M_digitSum : Cond.static me_M_digitSum.1 ∈ gw := (gw_t5 (List.mem_of_getElem? (i := 54) rfl) rfl)
def me_M_next : gs_M := (⟨"LineRulesModel", "next", "(I)I"⟩, prog_11_method_20_code, 2, (some .int))
theorem Y_M_next : gY me_M_next 1 := ⟨(gw_t5 (List.mem_of_getElem? (i := 59) rfl) rfl), (gw_t1 (List.mem_of_getElem? (i := 10) rfl) rfl), ⟨by decide +kernel, by decide +kernel, by decide +kernel⟩, by decide +kernel⟩
theorem I_M_next : Cond.instanceMethod me_M_next.1 ∈ gw ∧ Cond.selects me_M_next.1.cls me_M_next.1 me_M_next.1 ∈ gw := ⟨(gw_t5 (List.mem_of_getElem? (i := 57) rfl) rfl), (gw_t5 (List.mem_of_getElem? (i := 58) rfl) rfl)⟩
def me_M_ring : gs_M := (⟨"LineRulesModel", "ring", "(I)I"⟩, prog_11_method_21_code, 4, (some .int))
theorem Y_M_ring : gY me_M_ring 1 := ⟨(gw_t5 (List.mem_of_getElem? (i := 63) rfl) rfl), (gw_t1 (List.mem_of_getElem? (i := 10) rfl) rfl), ⟨by decide +kernel, by decide +kernel, by decide +kernel⟩, by decide +kernel⟩
theorem I_M_ring : Cond.instanceMethod me_M_ring.1 ∈ gw ∧ Cond.selects me_M_ring.1.cls me_M_ring.1 me_M_ring.1 ∈ gw := ⟨(gw_t5 (List.mem_of_getElem? (i := 61) rfl) rfl), (gw_t5 (List.mem_of_getElem? (i := 62) rfl) rfl)⟩
def me_M_set : gs_M := (⟨"LineRulesModel", "set", "(II)I"⟩, prog_11_method_22_code, 4, (some .int))
theorem Y_M_set : gY me_M_set 2 := ⟨(gw_t5 (List.mem_of_getElem? (i := 67) rfl) rfl), (gw_t1 (List.mem_of_getElem? (i := 10) rfl) rfl), ⟨by decide +kernel, by decide +kernel, by decide +kernel⟩, by decide +kernel⟩
theorem I_M_set : Cond.instanceMethod me_M_set.1 ∈ gw ∧ Cond.selects me_M_set.1.cls me_M_set.1 me_M_set.1 ∈ gw := ⟨(gw_t5 (List.mem_of_getElem? (i := 65) rfl) rfl), (gw_t5 (List.mem_of_getElem? (i := 66) rfl) rfl)⟩
def me_M_get : gs_M := (⟨"LineRulesModel", "get", "(I)I"⟩, prog_11_method_23_code, 2, (some .int))
theorem Y_M_get : gY me_M_get 1 := ⟨(gw_t5 (List.mem_of_getElem? (i := 71) rfl) rfl), (gw_t1 (List.mem_of_getElem? (i := 10) rfl) rfl), ⟨by decide +kernel, by decide +kernel, by decide +kernel⟩, by decide +kernel⟩
theorem I_M_get : Cond.instanceMethod me_M_get.1 ∈ gw ∧ Cond.selects me_M_get.1.cls me_M_get.1 me_M_get.1 ∈ gw := ⟨(gw_t5 (List.mem_of_getElem? (i := 69) rfl) rfl), (gw_t5 (List.mem_of_getElem? (i := 70) rfl) rfl)⟩
def me_M_step : gs_M := (⟨"LineRulesModel", "step", "(I)I"⟩, prog_11_method_25_code, 4, (some .int))
theorem Y_M_step : gY me_M_step 1 := ⟨(gw_t5 (List.mem_of_getElem? (i := 75) rfl) rfl), (gw_t1 (List.mem_of_getElem? (i := 10) rfl) rfl), ⟨by decide +kernel, by decide +kernel, by decide +kernel⟩, by decide +kernel⟩
theorem I_M_step : Cond.instanceMethod me_M_step.1 ∈ gw ∧ Cond.selects me_M_step.1.cls me_M_step.1 me_M_step.1 ∈ gw := ⟨(gw_t5 (List.mem_of_getElem? (i := 73) rfl) rfl), (gw_t5 (List.mem_of_getElem? (i := 74) rfl) rfl)⟩
def me_M_turn : gs_M := (⟨"LineRulesModel", "turn", "()V"⟩, prog_11_method_24_code, 5, none)
theorem Y_M_turn : gY me_M_turn 0 := ⟨(gw_t5 (List.mem_of_getElem? (i := 79) rfl) rfl), (gw_t1 (List.mem_of_getElem? (i := 10) rfl) rfl), ⟨by decide +kernel, by decide +kernel, by decide +kernel⟩, by decide +kernel⟩
theorem I_M_turn : Cond.instanceMethod me_M_turn.1 ∈ gw ∧ Cond.selects me_M_turn.1.cls me_M_turn.1 me_M_turn.1 ∈ gw := ⟨(gw_t5 (List.mem_of_getElem? (i := 78) rfl) rfl), (gw_s (q := (⟨"LineRulesModel", "turn", "()V"⟩, 54)) (by decide +kernel) rfl)⟩
def me_M_population : gs_M := (⟨"LineRulesModel", "population", "(I)I"⟩, prog_11_method_26_code, 4, (some .int))
theorem Y_M_population : gY me_M_population 1 := ⟨(gw_t5 (List.mem_of_getElem? (i := 83) rfl) rfl), (gw_t1 (List.mem_of_getElem? (i := 10) rfl) rfl), ⟨by decide +kernel, by decide +kernel, by decide +kernel⟩, by decide +kernel⟩
theorem I_M_population : Cond.instanceMethod me_M_population.1 ∈ gw ∧ Cond.selects me_M_population.1.cls me_M_population.1 me_M_population.1 ∈ gw := ⟨(gw_t5 (List.mem_of_getElem? (i := 81) rfl) rfl), (gw_t5 (List.mem_of_getElem? (i := 82) rfl) rfl)⟩
def me_M_surjective : gs_M := (⟨"LineRulesModel", "surjective", "()I"⟩, prog_11_method_32_code, 2, (some .int))
theorem Y_M_surjective : gY me_M_surjective 0 := ⟨(gw_t5 (List.mem_of_getElem? (i := 87) rfl) rfl), (gw_t1 (List.mem_of_getElem? (i := 10) rfl) rfl), ⟨by decide +kernel, by decide +kernel, by decide +kernel⟩, by decide +kernel⟩
theorem I_M_surjective : Cond.instanceMethod me_M_surjective.1 ∈ gw ∧ Cond.selects me_M_surjective.1.cls me_M_surjective.1 me_M_surjective.1 ∈ gw := ⟨(gw_t5 (List.mem_of_getElem? (i := 85) rfl) rfl), (gw_t5 (List.mem_of_getElem? (i := 86) rfl) rfl)⟩
def me_M_makesAll : gs_M := (⟨"LineRulesModel", "makesAll", "()Z"⟩, prog_11_method_27_code, 3, (some .boolean))
theorem Y_M_makesAll : gY me_M_makesAll 0 := ⟨(gw_t5 (List.mem_of_getElem? (i := 91) rfl) rfl), (gw_t1 (List.mem_of_getElem? (i := 10) rfl) rfl), ⟨by decide +kernel, by decide +kernel, by decide +kernel⟩, by decide +kernel⟩
theorem I_M_makesAll : Cond.instanceMethod me_M_makesAll.1 ∈ gw ∧ Cond.selects me_M_makesAll.1.cls me_M_makesAll.1 me_M_makesAll.1 ∈ gw := ⟨(gw_t5 (List.mem_of_getElem? (i := 90) rfl) rfl), (gw_s (q := (⟨"LineRulesModel", "makesAll", "()Z"⟩, 54)) (by decide +kernel) rfl)⟩
def me_M_losesSomewhere : gs_M := (⟨"LineRulesModel", "losesSomewhere", "()Z"⟩, prog_11_method_30_code, 4, (some .boolean))
theorem Y_M_losesSomewhere : gY me_M_losesSomewhere 0 := ⟨(gw_t5 (List.mem_of_getElem? (i := 95) rfl) rfl), (gw_t1 (List.mem_of_getElem? (i := 10) rfl) rfl), ⟨by decide +kernel, by decide +kernel, by decide +kernel⟩, by decide +kernel⟩
theorem I_M_losesSomewhere : Cond.instanceMethod me_M_losesSomewhere.1 ∈ gw ∧ Cond.selects me_M_losesSomewhere.1.cls me_M_losesSomewhere.1 me_M_losesSomewhere.1 ∈ gw := ⟨(gw_t5 (List.mem_of_getElem? (i := 94) rfl) rfl), (gw_s (q := (⟨"LineRulesModel", "losesSomewhere", "()Z"⟩, 54)) (by decide +kernel) rfl)⟩
def me_M_comesFrom : gs_M := (⟨"LineRulesModel", "comesFrom", "(II)Z"⟩, prog_11_method_29_code, 7, (some .boolean))
theorem Y_M_comesFrom : gY me_M_comesFrom 2 := ⟨(gw_t5 (List.mem_of_getElem? (i := 99) rfl) rfl), (gw_t1 (List.mem_of_getElem? (i := 10) rfl) rfl), ⟨by decide +kernel, by decide +kernel, by decide +kernel⟩, by decide +kernel⟩
theorem I_M_comesFrom : Cond.instanceMethod me_M_comesFrom.1 ∈ gw ∧ Cond.selects me_M_comesFrom.1.cls me_M_comesFrom.1 me_M_comesFrom.1 ∈ gw := ⟨(gw_t5 (List.mem_of_getElem? (i := 98) rfl) rfl), (gw_s (q := (⟨"LineRulesModel", "comesFrom", "(II)Z"⟩, 54)) (by decide +kernel) rfl)⟩
def me_M_leadsOn : gs_M := (⟨"LineRulesModel", "leadsOn", "(IIZZ)Z"⟩, prog_11_method_28_code, 10, (some .boolean))
theorem Y_M_leadsOn : gY me_M_leadsOn 4 := ⟨(gw_t5 (List.mem_of_getElem? (i := 103) rfl) rfl), (gw_t1 (List.mem_of_getElem? (i := 10) rfl) rfl), ⟨by decide +kernel, by decide +kernel, by decide +kernel⟩, by decide +kernel⟩
theorem I_M_leadsOn : Cond.instanceMethod me_M_leadsOn.1 ∈ gw ∧ Cond.selects me_M_leadsOn.1.cls me_M_leadsOn.1 me_M_leadsOn.1 ∈ gw := ⟨(gw_t5 (List.mem_of_getElem? (i := 102) rfl) rfl), (gw_s (q := (⟨"LineRulesModel", "leadsOn", "(IIZZ)Z"⟩, 54)) (by decide +kernel) rfl)⟩
def me_M_injective : gs_M := (⟨"LineRulesModel", "injective", "()I"⟩, prog_11_method_33_code, 2, (some .int))
theorem Y_M_injective : gY me_M_injective 0 := ⟨(gw_t5 (List.mem_of_getElem? (i := 107) rfl) rfl), (gw_t1 (List.mem_of_getElem? (i := 10) rfl) rfl), ⟨by decide +kernel, by decide +kernel, by decide +kernel⟩, by decide +kernel⟩
theorem I_M_injective : Cond.instanceMethod me_M_injective.1 ∈ gw ∧ Cond.selects me_M_injective.1.cls me_M_injective.1 me_M_injective.1 ∈ gw := ⟨(gw_t5 (List.mem_of_getElem? (i := 105) rfl) rfl), (gw_t5 (List.mem_of_getElem? (i := 106) rfl) rfl)⟩
def me_M_anyPair : gs_M := (⟨"LineRulesModel", "anyPair", "()Z"⟩, prog_11_method_31_code, 4, (some .boolean))
theorem Y_M_anyPair : gY me_M_anyPair 0 := ⟨(gw_t5 (List.mem_of_getElem? (i := 111) rfl) rfl), (gw_t1 (List.mem_of_getElem? (i := 10) rfl) rfl), ⟨by decide +kernel, by decide +kernel, by decide +kernel⟩, by decide +kernel⟩
theorem I_M_anyPair : Cond.instanceMethod me_M_anyPair.1 ∈ gw ∧ Cond.selects me_M_anyPair.1.cls me_M_anyPair.1 me_M_anyPair.1 ∈ gw := ⟨(gw_t5 (List.mem_of_getElem? (i := 110) rfl) rfl), (gw_s (q := (⟨"LineRulesModel", "anyPair", "()Z"⟩, 54)) (by decide +kernel) rfl)⟩
def me_M_inverse : gs_M := (⟨"LineRulesModel", "inverse", "(I)I"⟩, prog_11_method_37_code, 2, (some .int))
theorem Y_M_inverse : gY me_M_inverse 1 := ⟨(gw_t5 (List.mem_of_getElem? (i := 115) rfl) rfl), (gw_t1 (List.mem_of_getElem? (i := 10) rfl) rfl), ⟨by decide +kernel, by decide +kernel, by decide +kernel⟩, by decide +kernel⟩
theorem I_M_inverse : Cond.instanceMethod me_M_inverse.1 ∈ gw ∧ Cond.selects me_M_inverse.1.cls me_M_inverse.1 me_M_inverse.1 ∈ gw := ⟨(gw_t5 (List.mem_of_getElem? (i := 113) rfl) rfl), (gw_t5 (List.mem_of_getElem? (i := 114) rfl) rfl)⟩
def me_M_findInverse : gs_M := (⟨"LineRulesModel", "findInverse", "()V"⟩, prog_11_method_36_code, 3, none)
theorem Y_M_findInverse : gY me_M_findInverse 0 := ⟨(gw_t5 (List.mem_of_getElem? (i := 119) rfl) rfl), (gw_t1 (List.mem_of_getElem? (i := 10) rfl) rfl), ⟨by decide +kernel, by decide +kernel, by decide +kernel⟩, by decide +kernel⟩
theorem I_M_findInverse : Cond.instanceMethod me_M_findInverse.1 ∈ gw ∧ Cond.selects me_M_findInverse.1.cls me_M_findInverse.1 me_M_findInverse.1 ∈ gw := ⟨(gw_t5 (List.mem_of_getElem? (i := 118) rfl) rfl), (gw_s (q := (⟨"LineRulesModel", "findInverse", "()V"⟩, 54)) (by decide +kernel) rfl)⟩
def me_M_tells : gs_M := (⟨"LineRulesModel", "tells", "(II)Z"⟩, prog_11_method_35_code, 9, (some .boolean))
theorem Y_M_tells : gY me_M_tells 2 := ⟨(gw_t5 (List.mem_of_getElem? (i := 123) rfl) rfl), (gw_t1 (List.mem_of_getElem? (i := 10) rfl) rfl), ⟨by decide +kernel, by decide +kernel, by decide +kernel⟩, by decide +kernel⟩
theorem I_M_tells : Cond.instanceMethod me_M_tells.1 ∈ gw ∧ Cond.selects me_M_tells.1.cls me_M_tells.1 me_M_tells.1 ∈ gw := ⟨(gw_t5 (List.mem_of_getElem? (i := 122) rfl) rfl), (gw_s (q := (⟨"LineRulesModel", "tells", "(II)Z"⟩, 54)) (by decide +kernel) rfl)⟩
def me_M_madeOf : gs_M := (⟨"LineRulesModel", "madeOf", "(II)I"⟩, prog_11_method_34_code, 5, (some .int))
theorem Y_M_madeOf : gY me_M_madeOf 2 := ⟨(gw_t5 (List.mem_of_getElem? (i := 127) rfl) rfl), (gw_t1 (List.mem_of_getElem? (i := 10) rfl) rfl), ⟨by decide +kernel, by decide +kernel, by decide +kernel⟩, by decide +kernel⟩
theorem I_M_madeOf : Cond.instanceMethod me_M_madeOf.1 ∈ gw ∧ Cond.selects me_M_madeOf.1.cls me_M_madeOf.1 me_M_madeOf.1 ∈ gw := ⟨(gw_t5 (List.mem_of_getElem? (i := 126) rfl) rfl), (gw_s (q := (⟨"LineRulesModel", "madeOf", "(II)I"⟩, 54)) (by decide +kernel) rfl)⟩
def me_M_undo : gs_M := (⟨"LineRulesModel", "undo", "(I)I"⟩, prog_11_method_38_code, 2, (some .int))
theorem Y_M_undo : gY me_M_undo 1 := ⟨(gw_t5 (List.mem_of_getElem? (i := 131) rfl) rfl), (gw_t1 (List.mem_of_getElem? (i := 10) rfl) rfl), ⟨by decide +kernel, by decide +kernel, by decide +kernel⟩, by decide +kernel⟩
theorem I_M_undo : Cond.instanceMethod me_M_undo.1 ∈ gw ∧ Cond.selects me_M_undo.1.cls me_M_undo.1 me_M_undo.1 ∈ gw := ⟨(gw_t5 (List.mem_of_getElem? (i := 129) rfl) rfl), (gw_t5 (List.mem_of_getElem? (i := 130) rfl) rfl)⟩
def me_M_conserved : gs_M := (⟨"LineRulesModel", "conserved", "()I"⟩, prog_11_method_45_code, 1, (some .int))
theorem Y_M_conserved : gY me_M_conserved 0 := ⟨(gw_t5 (List.mem_of_getElem? (i := 135) rfl) rfl), (gw_t1 (List.mem_of_getElem? (i := 10) rfl) rfl), ⟨by decide +kernel, by decide +kernel, by decide +kernel⟩, by decide +kernel⟩
theorem I_M_conserved : Cond.instanceMethod me_M_conserved.1 ∈ gw ∧ Cond.selects me_M_conserved.1.cls me_M_conserved.1 me_M_conserved.1 ∈ gw := ⟨(gw_t5 (List.mem_of_getElem? (i := 133) rfl) rfl), (gw_t5 (List.mem_of_getElem? (i := 134) rfl) rfl)⟩
def me_M_findWeights : gs_M := (⟨"LineRulesModel", "findWeights", "()V"⟩, prog_11_method_44_code, 11, none)
theorem Y_M_findWeights : gY me_M_findWeights 0 := ⟨(gw_t5 (List.mem_of_getElem? (i := 139) rfl) rfl), (gw_t1 (List.mem_of_getElem? (i := 10) rfl) rfl), ⟨by decide +kernel, by decide +kernel, by decide +kernel⟩, by decide +kernel⟩
theorem I_M_findWeights : Cond.instanceMethod me_M_findWeights.1 ∈ gw ∧ Cond.selects me_M_findWeights.1.cls me_M_findWeights.1 me_M_findWeights.1 ∈ gw := ⟨(gw_t5 (List.mem_of_getElem? (i := 138) rfl) rfl), (gw_s (q := (⟨"LineRulesModel", "findWeights", "()V"⟩, 54)) (by decide +kernel) rfl)⟩
def me_M_equation : gs_M := (⟨"LineRulesModel", "equation", "(I)V"⟩, prog_11_method_40_code, 3, none)
theorem Y_M_equation : gY me_M_equation 1 := ⟨(gw_t5 (List.mem_of_getElem? (i := 143) rfl) rfl), (gw_t1 (List.mem_of_getElem? (i := 10) rfl) rfl), ⟨by decide +kernel, by decide +kernel, by decide +kernel⟩, by decide +kernel⟩
theorem I_M_equation : Cond.instanceMethod me_M_equation.1 ∈ gw ∧ Cond.selects me_M_equation.1.cls me_M_equation.1 me_M_equation.1 ∈ gw := ⟨(gw_t5 (List.mem_of_getElem? (i := 142) rfl) rfl), (gw_s (q := (⟨"LineRulesModel", "equation", "(I)V"⟩, 54)) (by decide +kernel) rfl)⟩
def me_M_keep : gs_M := (⟨"LineRulesModel", "keep", "()V"⟩, prog_11_method_42_code, 3, none)
theorem Y_M_keep : gY me_M_keep 0 := ⟨(gw_t5 (List.mem_of_getElem? (i := 147) rfl) rfl), (gw_t1 (List.mem_of_getElem? (i := 10) rfl) rfl), ⟨by decide +kernel, by decide +kernel, by decide +kernel⟩, by decide +kernel⟩
theorem I_M_keep : Cond.instanceMethod me_M_keep.1 ∈ gw ∧ Cond.selects me_M_keep.1.cls me_M_keep.1 me_M_keep.1 ∈ gw := ⟨(gw_t5 (List.mem_of_getElem? (i := 146) rfl) rfl), (gw_s (q := (⟨"LineRulesModel", "keep", "()V"⟩, 54)) (by decide +kernel) rfl)⟩
def me_M_reduce : gs_M := (⟨"LineRulesModel", "reduce", "(II)V"⟩, prog_11_method_41_code, 10, none)
theorem Y_M_reduce : gY me_M_reduce 2 := ⟨(gw_t5 (List.mem_of_getElem? (i := 151) rfl) rfl), (gw_t1 (List.mem_of_getElem? (i := 10) rfl) rfl), ⟨by decide +kernel, by decide +kernel, by decide +kernel⟩, by decide +kernel⟩
theorem I_M_reduce : Cond.instanceMethod me_M_reduce.1 ∈ gw ∧ Cond.selects me_M_reduce.1.cls me_M_reduce.1 me_M_reduce.1 ∈ gw := ⟨(gw_t5 (List.mem_of_getElem? (i := 150) rfl) rfl), (gw_s (q := (⟨"LineRulesModel", "reduce", "(II)V"⟩, 54)) (by decide +kernel) rfl)⟩
def me_M_divisor : gs_M := (⟨"LineRulesModel", "divisor", "(JJ)J"⟩, prog_11_method_39_code, 10, (some .long))
theorem Y_M_divisor : gY me_M_divisor 2 := ⟨(gw_t5 (List.mem_of_getElem? (i := 154) rfl) rfl), (gw_t1 (List.mem_of_getElem? (i := 10) rfl) rfl), ⟨by decide +kernel, by decide +kernel, by decide +kernel⟩, by decide +kernel⟩
theorem I_M_divisor : Cond.static me_M_divisor.1 ∈ gw := (gw_t5 (List.mem_of_getElem? (i := 153) rfl) rfl)
def me_M_clearRow : gs_M := (⟨"LineRulesModel", "clearRow", "(I)V"⟩, prog_11_method_43_code, 3, none)
theorem Y_M_clearRow : gY me_M_clearRow 1 := ⟨(gw_t5 (List.mem_of_getElem? (i := 158) rfl) rfl), (gw_t1 (List.mem_of_getElem? (i := 10) rfl) rfl), ⟨by decide +kernel, by decide +kernel, by decide +kernel⟩, by decide +kernel⟩
theorem I_M_clearRow : Cond.instanceMethod me_M_clearRow.1 ∈ gw ∧ Cond.selects me_M_clearRow.1.cls me_M_clearRow.1 me_M_clearRow.1 ∈ gw := ⟨(gw_t5 (List.mem_of_getElem? (i := 157) rfl) rfl), (gw_s (q := (⟨"LineRulesModel", "clearRow", "(I)V"⟩, 54)) (by decide +kernel) rfl)⟩
def me_M_weight : gs_M := (⟨"LineRulesModel", "weight", "(II)I"⟩, prog_11_method_46_code, 3, (some .int))
theorem Y_M_weight : gY me_M_weight 2 := ⟨(gw_t5 (List.mem_of_getElem? (i := 162) rfl) rfl), (gw_t1 (List.mem_of_getElem? (i := 10) rfl) rfl), ⟨by decide +kernel, by decide +kernel, by decide +kernel⟩, by decide +kernel⟩
theorem I_M_weight : Cond.instanceMethod me_M_weight.1 ∈ gw ∧ Cond.selects me_M_weight.1.cls me_M_weight.1 me_M_weight.1 ∈ gw := ⟨(gw_t5 (List.mem_of_getElem? (i := 160) rfl) rfl), (gw_t5 (List.mem_of_getElem? (i := 161) rfl) rfl)⟩
def me_M_orphan : gs_M := (⟨"LineRulesModel", "orphan", "()I"⟩, prog_11_method_50_code, 1, (some .int))
theorem Y_M_orphan : gY me_M_orphan 0 := ⟨(gw_t5 (List.mem_of_getElem? (i := 166) rfl) rfl), (gw_t1 (List.mem_of_getElem? (i := 10) rfl) rfl), ⟨by decide +kernel, by decide +kernel, by decide +kernel⟩, by decide +kernel⟩
theorem I_M_orphan : Cond.instanceMethod me_M_orphan.1 ∈ gw ∧ Cond.selects me_M_orphan.1.cls me_M_orphan.1 me_M_orphan.1 ∈ gw := ⟨(gw_t5 (List.mem_of_getElem? (i := 164) rfl) rfl), (gw_t5 (List.mem_of_getElem? (i := 165) rfl) rfl)⟩
def me_M_findOrphan : gs_M := (⟨"LineRulesModel", "findOrphan", "()V"⟩, prog_11_method_49_code, 8, none)
theorem Y_M_findOrphan : gY me_M_findOrphan 0 := ⟨(gw_t5 (List.mem_of_getElem? (i := 170) rfl) rfl), (gw_t1 (List.mem_of_getElem? (i := 10) rfl) rfl), ⟨by decide +kernel, by decide +kernel, by decide +kernel⟩, by decide +kernel⟩
theorem I_M_findOrphan : Cond.instanceMethod me_M_findOrphan.1 ∈ gw ∧ Cond.selects me_M_findOrphan.1.cls me_M_findOrphan.1 me_M_findOrphan.1 ∈ gw := ⟨(gw_t5 (List.mem_of_getElem? (i := 169) rfl) rfl), (gw_s (q := (⟨"LineRulesModel", "findOrphan", "()V"⟩, 54)) (by decide +kernel) rfl)⟩
def me_M_behind : gs_M := (⟨"LineRulesModel", "behind", "(JI)J"⟩, prog_11_method_47_code, 8, (some .long))
theorem Y_M_behind : gY me_M_behind 2 := ⟨(gw_t5 (List.mem_of_getElem? (i := 176) rfl) rfl), (gw_t1 (List.mem_of_getElem? (i := 10) rfl) rfl), ⟨by decide +kernel, by decide +kernel, by decide +kernel⟩, by decide +kernel⟩
theorem I_M_behind : Cond.instanceMethod me_M_behind.1 ∈ gw ∧ Cond.selects me_M_behind.1.cls me_M_behind.1 me_M_behind.1 ∈ gw := ⟨(gw_t5 (List.mem_of_getElem? (i := 175) rfl) rfl), (gw_s (q := (⟨"LineRulesModel", "behind", "(JI)J"⟩, 54)) (by decide +kernel) rfl)⟩
def me_M_spell : gs_M := (⟨"LineRulesModel", "spell", "(II)V"⟩, prog_11_method_48_code, 6, none)
theorem Y_M_spell : gY me_M_spell 2 := ⟨(gw_t5 (List.mem_of_getElem? (i := 180) rfl) rfl), (gw_t1 (List.mem_of_getElem? (i := 10) rfl) rfl), ⟨by decide +kernel, by decide +kernel, by decide +kernel⟩, by decide +kernel⟩
theorem I_M_spell : Cond.instanceMethod me_M_spell.1 ∈ gw ∧ Cond.selects me_M_spell.1.cls me_M_spell.1 me_M_spell.1 ∈ gw := ⟨(gw_t5 (List.mem_of_getElem? (i := 179) rfl) rfl), (gw_s (q := (⟨"LineRulesModel", "spell", "(II)V"⟩, 54)) (by decide +kernel) rfl)⟩
def me_M_orphanAt : gs_M := (⟨"LineRulesModel", "orphanAt", "(I)I"⟩, prog_11_method_51_code, 2, (some .int))
theorem Y_M_orphanAt : gY me_M_orphanAt 1 := ⟨(gw_t5 (List.mem_of_getElem? (i := 184) rfl) rfl), (gw_t1 (List.mem_of_getElem? (i := 10) rfl) rfl), ⟨by decide +kernel, by decide +kernel, by decide +kernel⟩, by decide +kernel⟩
theorem I_M_orphanAt : Cond.instanceMethod me_M_orphanAt.1 ∈ gw ∧ Cond.selects me_M_orphanAt.1.cls me_M_orphanAt.1 me_M_orphanAt.1 ∈ gw := ⟨(gw_t5 (List.mem_of_getElem? (i := 182) rfl) rfl), (gw_t5 (List.mem_of_getElem? (i := 183) rfl) rfl)⟩
def me_M_before : gs_M := (⟨"LineRulesModel", "before", "()I"⟩, prog_11_method_57_code, 1, (some .int))
theorem Y_M_before : gY me_M_before 0 := ⟨(gw_t5 (List.mem_of_getElem? (i := 188) rfl) rfl), (gw_t1 (List.mem_of_getElem? (i := 10) rfl) rfl), ⟨by decide +kernel, by decide +kernel, by decide +kernel⟩, by decide +kernel⟩
theorem I_M_before : Cond.instanceMethod me_M_before.1 ∈ gw ∧ Cond.selects me_M_before.1.cls me_M_before.1 me_M_before.1 ∈ gw := ⟨(gw_t5 (List.mem_of_getElem? (i := 186) rfl) rfl), (gw_t5 (List.mem_of_getElem? (i := 187) rfl) rfl)⟩
def me_M_findBefore : gs_M := (⟨"LineRulesModel", "findBefore", "()V"⟩, prog_11_method_56_code, 2, none)
theorem Y_M_findBefore : gY me_M_findBefore 0 := ⟨(gw_t5 (List.mem_of_getElem? (i := 192) rfl) rfl), (gw_t1 (List.mem_of_getElem? (i := 10) rfl) rfl), ⟨by decide +kernel, by decide +kernel, by decide +kernel⟩, by decide +kernel⟩
theorem I_M_findBefore : Cond.instanceMethod me_M_findBefore.1 ∈ gw ∧ Cond.selects me_M_findBefore.1.cls me_M_findBefore.1 me_M_findBefore.1 ∈ gw := ⟨(gw_t5 (List.mem_of_getElem? (i := 191) rfl) rfl), (gw_s (q := (⟨"LineRulesModel", "findBefore", "()V"⟩, 54)) (by decide +kernel) rfl)⟩
def me_M_lookBack : gs_M := (⟨"LineRulesModel", "lookBack", "(I)V"⟩, prog_11_method_53_code, 4, none)
theorem Y_M_lookBack : gY me_M_lookBack 1 := ⟨(gw_t5 (List.mem_of_getElem? (i := 196) rfl) rfl), (gw_t1 (List.mem_of_getElem? (i := 10) rfl) rfl), ⟨by decide +kernel, by decide +kernel, by decide +kernel⟩, by decide +kernel⟩
theorem I_M_lookBack : Cond.instanceMethod me_M_lookBack.1 ∈ gw ∧ Cond.selects me_M_lookBack.1.cls me_M_lookBack.1 me_M_lookBack.1 ∈ gw := ⟨(gw_t5 (List.mem_of_getElem? (i := 195) rfl) rfl), (gw_s (q := (⟨"LineRulesModel", "lookBack", "(I)V"⟩, 54)) (by decide +kernel) rfl)⟩
def me_M_wanted : gs_M := (⟨"LineRulesModel", "wanted", "(I)I"⟩, prog_11_method_52_code, 2, (some .int))
theorem Y_M_wanted : gY me_M_wanted 1 := ⟨(gw_t5 (List.mem_of_getElem? (i := 200) rfl) rfl), (gw_t1 (List.mem_of_getElem? (i := 10) rfl) rfl), ⟨by decide +kernel, by decide +kernel, by decide +kernel⟩, by decide +kernel⟩
theorem I_M_wanted : Cond.instanceMethod me_M_wanted.1 ∈ gw ∧ Cond.selects me_M_wanted.1.cls me_M_wanted.1 me_M_wanted.1 ∈ gw := ⟨(gw_t5 (List.mem_of_getElem? (i := 199) rfl) rfl), (gw_s (q := (⟨"LineRulesModel", "wanted", "(I)I"⟩, 54)) (by decide +kernel) rfl)⟩
def me_M_spellRing : gs_M := (⟨"LineRulesModel", "spellRing", "(I)V"⟩, prog_11_method_54_code, 5, none)
theorem Y_M_spellRing : gY me_M_spellRing 1 := ⟨(gw_t5 (List.mem_of_getElem? (i := 204) rfl) rfl), (gw_t1 (List.mem_of_getElem? (i := 10) rfl) rfl), ⟨by decide +kernel, by decide +kernel, by decide +kernel⟩, by decide +kernel⟩
theorem I_M_spellRing : Cond.instanceMethod me_M_spellRing.1 ∈ gw ∧ Cond.selects me_M_spellRing.1.cls me_M_spellRing.1 me_M_spellRing.1 ∈ gw := ⟨(gw_t5 (List.mem_of_getElem? (i := 203) rfl) rfl), (gw_s (q := (⟨"LineRulesModel", "spellRing", "(I)V"⟩, 54)) (by decide +kernel) rfl)⟩
def me_M_waysFrom : gs_M := (⟨"LineRulesModel", "waysFrom", "(I)J"⟩, prog_11_method_55_code, 4, (some .long))
theorem Y_M_waysFrom : gY me_M_waysFrom 1 := ⟨(gw_t5 (List.mem_of_getElem? (i := 208) rfl) rfl), (gw_t1 (List.mem_of_getElem? (i := 10) rfl) rfl), ⟨by decide +kernel, by decide +kernel, by decide +kernel⟩, by decide +kernel⟩
theorem I_M_waysFrom : Cond.instanceMethod me_M_waysFrom.1 ∈ gw ∧ Cond.selects me_M_waysFrom.1.cls me_M_waysFrom.1 me_M_waysFrom.1 ∈ gw := ⟨(gw_t5 (List.mem_of_getElem? (i := 207) rfl) rfl), (gw_s (q := (⟨"LineRulesModel", "waysFrom", "(I)J"⟩, 54)) (by decide +kernel) rfl)⟩
def me_M_beforeAt : gs_M := (⟨"LineRulesModel", "beforeAt", "(I)I"⟩, prog_11_method_58_code, 2, (some .int))
theorem Y_M_beforeAt : gY me_M_beforeAt 1 := ⟨(gw_t5 (List.mem_of_getElem? (i := 212) rfl) rfl), (gw_t1 (List.mem_of_getElem? (i := 10) rfl) rfl), ⟨by decide +kernel, by decide +kernel, by decide +kernel⟩, by decide +kernel⟩
theorem I_M_beforeAt : Cond.instanceMethod me_M_beforeAt.1 ∈ gw ∧ Cond.selects me_M_beforeAt.1.cls me_M_beforeAt.1 me_M_beforeAt.1 ∈ gw := ⟨(gw_t5 (List.mem_of_getElem? (i := 210) rfl) rfl), (gw_t5 (List.mem_of_getElem? (i := 211) rfl) rfl)⟩
def me_M_ways : gs_M := (⟨"LineRulesModel", "ways", "()J"⟩, prog_11_method_59_code, 1, (some .long))
theorem Y_M_ways : gY me_M_ways 0 := ⟨(gw_t5 (List.mem_of_getElem? (i := 216) rfl) rfl), (gw_t1 (List.mem_of_getElem? (i := 10) rfl) rfl), ⟨by decide +kernel, by decide +kernel, by decide +kernel⟩, by decide +kernel⟩
theorem I_M_ways : Cond.instanceMethod me_M_ways.1 ∈ gw ∧ Cond.selects me_M_ways.1.cls me_M_ways.1 me_M_ways.1 ∈ gw := ⟨(gw_t5 (List.mem_of_getElem? (i := 214) rfl) rfl), (gw_t5 (List.mem_of_getElem? (i := 215) rfl) rfl)⟩
theorem lk_A_9 : (("LineRules", 9, me_T_init.1, "LineRules") : String × Nat × MethodName × String) ∈ gw_n := List.mem_of_getElem? (i := 0) rfl
theorem lk_A_18 : (("LineRules", 18, me_R_init.1, "LineRules") : String × Nat × MethodName × String) ∈ gw_n := List.mem_of_getElem? (i := 1) rfl
theorem lk_A_25 : Cond.methodLink "LineRules" 25 me_C_init.1 ∈ gw := (gw_t1 (List.mem_of_getElem? (i := 128) rfl) rfl)
theorem lk_A_34 : Cond.methodLink "LineRules" 34 me_P_init.1 ∈ gw := (gw_t1 (List.mem_of_getElem? (i := 154) rfl) rfl)
theorem lk_A_41 : Cond.methodLink "LineRules" 41 me_V_init.1 ∈ gw := (gw_t1 (List.mem_of_getElem? (i := 182) rfl) rfl)
theorem lk_A_50 : Cond.methodLink "LineRules" 50 me_W_init.1 ∈ gw := (gw_t1 (List.mem_of_getElem? (i := 207) rfl) rfl)
theorem lk_A_57 : Cond.methodLink "LineRules" 57 me_O_init.1 ∈ gw := (gw_t1 (List.mem_of_getElem? (i := 234) rfl) rfl)
theorem lk_A_64 : Cond.methodLink "LineRules" 64 me_H_init.1 ∈ gw := (gw_t2 (List.mem_of_getElem? (i := 31) rfl) rfl)
theorem lk_A_71 : Cond.methodLink "LineRules" 71 me_T_append.1 ∈ gw := (gw_t2 (List.mem_of_getElem? (i := 95) rfl) rfl)
theorem lk_A_75 : Cond.methodLink "LineRules" 75 me_T_readInto.1 ∈ gw := (gw_t2 (List.mem_of_getElem? (i := 103) rfl) rfl)
theorem lk_A_79 : Cond.methodLink "LineRules" 79 me_C_clear.1 ∈ gw := (gw_t2 (List.mem_of_getElem? (i := 199) rfl) rfl)
theorem lk_A_82 : Cond.methodLink "LineRules" 82 me_P_forget.1 ∈ gw := (gw_t2 (List.mem_of_getElem? (i := 206) rfl) rfl)
theorem lk_A_85 : Cond.methodLink "LineRules" 85 me_V_forget.1 ∈ gw := (gw_t2 (List.mem_of_getElem? (i := 210) rfl) rfl)
theorem lk_A_86 : Cond.methodLink "LineRules" 86 me_W_forget.1 ∈ gw := (gw_t2 (List.mem_of_getElem? (i := 214) rfl) rfl)
theorem lk_A_87 : Cond.methodLink "LineRules" 87 me_O_forget.1 ∈ gw := (gw_t2 (List.mem_of_getElem? (i := 218) rfl) rfl)
theorem lk_A_88 : Cond.methodLink "LineRules" 88 me_H_forget.1 ∈ gw := (gw_t2 (List.mem_of_getElem? (i := 222) rfl) rfl)
theorem lk_T_43 : Cond.methodLink "LineRules$Text" 43 me_T_fault.1 ∈ gw := (gw_t2 (List.mem_of_getElem? (i := 107) rfl) rfl)
theorem lk_T_47 : Cond.methodLink "LineRules$Text" 47 me_T_fill.1 ∈ gw := (gw_t2 (List.mem_of_getElem? (i := 167) rfl) rfl)
theorem lk_T_51 : Cond.methodLink "LineRules$Text" 51 me_T_fitsHead.1 ∈ gw := (gw_t2 (List.mem_of_getElem? (i := 111) rfl) rfl)
theorem lk_T_55 : (("LineRules$Text", 55, me_A_power.1, "LineRules") : String × Nat × MethodName × String) ∈ gw_n := List.mem_of_getElem? (i := 2) rfl
theorem lk_T_59 : Cond.methodLink "LineRules$Text" 59 me_T_digitsFault.1 ∈ gw := (gw_t2 (List.mem_of_getElem? (i := 118) rfl) rfl)
theorem lk_T_63 : Cond.methodLink "LineRules$Text" 63 me_T_valueFor.1 ∈ gw := (gw_t2 (List.mem_of_getElem? (i := 122) rfl) rfl)
theorem lk_T_87 : Cond.methodLink "LineRules$Text" 87 me_T_choice.1 ∈ gw := (gw_t2 (List.mem_of_getElem? (i := 126) rfl) rfl)
theorem lk_T_90 : Cond.methodLink "LineRules$Text" 90 me_T_joined.1 ∈ gw := (gw_t2 (List.mem_of_getElem? (i := 130) rfl) rfl)
theorem lk_T_93 : Cond.methodLink "LineRules$Text" 93 me_T_here.1 ∈ gw := (gw_t2 (List.mem_of_getElem? (i := 138) rfl) rfl)
theorem lk_T_97 : Cond.methodLink "LineRules$Text" 97 me_T_opens.1 ∈ gw := (gw_t2 (List.mem_of_getElem? (i := 150) rfl) rfl)
theorem lk_T_101 : Cond.methodLink "LineRules$Text" 101 me_T_part.1 ∈ gw := (gw_t2 (List.mem_of_getElem? (i := 134) rfl) rfl)
theorem lk_T_104 : Cond.methodLink "LineRules$Text" 104 me_T_levelOf.1 ∈ gw := (gw_t2 (List.mem_of_getElem? (i := 154) rfl) rfl)
theorem lk_T_108 : Cond.methodLink "LineRules$Text" 108 me_T_together.1 ∈ gw := (gw_t2 (List.mem_of_getElem? (i := 157) rfl) rfl)
theorem lk_T_120 : Cond.methodLink "LineRules$Text" 120 me_T_unturned.1 ∈ gw := (gw_t2 (List.mem_of_getElem? (i := 142) rfl) rfl)
theorem lk_T_123 : Cond.methodLink "LineRules$Text" 123 me_T_bracket.1 ∈ gw := (gw_t2 (List.mem_of_getElem? (i := 146) rfl) rfl)
theorem lk_T_112 : Cond.methodLink "LineRules$Text" 112 me_J_max.1 ∈ gw := (gw_t2 (List.mem_of_getElem? (i := 161) rfl) rfl)
theorem lk_T_117 : Cond.methodLink "LineRules$Text" 117 me_J_min.1 ∈ gw := (gw_t2 (List.mem_of_getElem? (i := 164) rfl) rfl)
theorem lk_T_66 : Cond.methodLink "LineRules$Text" 66 me_R_shape.1 ∈ gw := (gw_t2 (List.mem_of_getElem? (i := 171) rfl) rfl)
theorem lk_T_78 : Cond.methodLink "LineRules$Text" 78 me_T_made.1 ∈ gw := (gw_t2 (List.mem_of_getElem? (i := 176) rfl) rfl)
theorem lk_T_81 : Cond.methodLink "LineRules$Text" 81 me_R_complete.1 ∈ gw := (gw_t2 (List.mem_of_getElem? (i := 184) rfl) rfl)
theorem lk_R_45 : (("LineRules$Rule", 45, me_A_power.1, "LineRules") : String × Nat × MethodName × String) ∈ gw_n := List.mem_of_getElem? (i := 3) rfl
theorem lk_T_84 : Cond.methodLink "LineRules$Text" 84 me_T_sumOf.1 ∈ gw := (gw_t2 (List.mem_of_getElem? (i := 180) rfl) rfl)
theorem lk_R_49 : Cond.methodLink "LineRules$Rule" 49 me_Y_fillJ.1 ∈ gw := (gw_t2 (List.mem_of_getElem? (i := 188) rfl) rfl)
theorem lk_R_55 : Cond.methodLink "LineRules$Rule" 55 me_R_enter.1 ∈ gw := (gw_t2 (List.mem_of_getElem? (i := 191) rfl) rfl)
theorem lk_R_59 : Cond.methodLink "LineRules$Rule" 59 me_R_end.1 ∈ gw := (gw_t2 (List.mem_of_getElem? (i := 195) rfl) rfl)
theorem lk_C_32 : Cond.methodLink "LineRules$Ring" 32 me_Y_fillI.1 ∈ gw := (gw_t2 (List.mem_of_getElem? (i := 203) rfl) rfl)
theorem lk_A_107 : Cond.methodLink "LineRules" 107 me_C_resize.1 ∈ gw := (gw_t2 (List.mem_of_getElem? (i := 234) rfl) rfl)
theorem lk_C_29 : Cond.methodLink "LineRules$Ring" 29 me_C_clear.1 ∈ gw := (gw_t2 (List.mem_of_getElem? (i := 238) rfl) rfl)
theorem lk_A_111 : Cond.methodLink "LineRules" 111 me_C_has.1 ∈ gw := (gw_t3 (List.mem_of_getElem? (i := 3) rfl) rfl)
theorem lk_A_115 : Cond.methodLink "LineRules" 115 me_R_hasState.1 ∈ gw := (gw_t3 (List.mem_of_getElem? (i := 7) rfl) rfl)
theorem lk_A_121 : Cond.methodLink "LineRules" 121 me_C_run.1 ∈ gw := (gw_t3 (List.mem_of_getElem? (i := 19) rfl) rfl)
theorem lk_C_38 : Cond.methodLink "LineRules$Ring" 38 arraycopyName ∈ gw := (gw_t3 (List.mem_of_getElem? (i := 23) rfl) rfl)
theorem lk_C_44 : Cond.methodLink "LineRules$Ring" 44 me_C_stepOnce.1 ∈ gw := (gw_t3 (List.mem_of_getElem? (i := 26) rfl) rfl)
theorem lk_C_55 : Cond.methodLink "LineRules$Ring" 55 me_R_left.1 ∈ gw := (gw_t3 (List.mem_of_getElem? (i := 30) rfl) rfl)
theorem lk_C_59 : Cond.methodLink "LineRules$Ring" 59 me_J_floorMod.1 ∈ gw := (gw_t3 (List.mem_of_getElem? (i := 34) rfl) rfl)
theorem lk_C_68 : Cond.methodLink "LineRules$Ring" 68 me_R_end.1 ∈ gw := (gw_t3 (List.mem_of_getElem? (i := 37) rfl) rfl)
theorem lk_A_124 : Cond.methodLink "LineRules" 124 me_C_countOf.1 ∈ gw := (gw_t3 (List.mem_of_getElem? (i := 42) rfl) rfl)
theorem lk_A_127 : Cond.methodLink "LineRules" 127 me_P_missesNothing.1 ∈ gw := (gw_t3 (List.mem_of_getElem? (i := 50) rfl) rfl)
theorem lk_P_35 : Cond.methodLink "LineRules$Pairs" 35 me_P_partAndMeet.1 ∈ gw := (gw_t3 (List.mem_of_getElem? (i := 54) rfl) rfl)
theorem lk_P_45 : Cond.methodLink "LineRules$Pairs" 45 me_Y_fillJ.1 ∈ gw := (gw_t3 (List.mem_of_getElem? (i := 58) rfl) rfl)
theorem lk_P_57 : Cond.methodLink "LineRules$Pairs" 57 me_P_partAt.1 ∈ gw := (gw_t3 (List.mem_of_getElem? (i := 59) rfl) rfl)
theorem lk_P_63 : Cond.methodLink "LineRules$Pairs" 63 me_P_meetsBehind.1 ∈ gw := (gw_t3 (List.mem_of_getElem? (i := 65) rfl) rfl)
theorem lk_P_74 : Cond.methodLink "LineRules$Pairs" 74 me_R_end.1 ∈ gw := (gw_t3 (List.mem_of_getElem? (i := 63) rfl) rfl)
theorem lk_P_78 : Cond.methodLink "LineRules$Pairs" 78 me_R_behind.1 ∈ gw := (gw_t3 (List.mem_of_getElem? (i := 69) rfl) rfl)
theorem lk_A_131 : Cond.methodLink "LineRules" 131 me_P_losesNothing.1 ∈ gw := (gw_t3 (List.mem_of_getElem? (i := 77) rfl) rfl)
theorem lk_P_39 : Cond.methodLink "LineRules$Pairs" 39 me_P_missesNothing.1 ∈ gw := (gw_t3 (List.mem_of_getElem? (i := 81) rfl) rfl)
theorem lk_P_42 : Cond.methodLink "LineRules$Pairs" 42 me_P_stayApart.1 ∈ gw := (gw_t3 (List.mem_of_getElem? (i := 82) rfl) rfl)
theorem lk_P_82 : Cond.methodLink "LineRules$Pairs" 82 me_R_allNodes.1 ∈ gw := (gw_t3 (List.mem_of_getElem? (i := 86) rfl) rfl)
theorem lk_P_86 : Cond.methodLink "LineRules$Pairs" 86 me_P_lasting.1 ∈ gw := (gw_t3 (List.mem_of_getElem? (i := 91) rfl) rfl)
theorem lk_A_134 : Cond.methodLink "LineRules" 134 me_V_width.1 ∈ gw := (gw_t3 (List.mem_of_getElem? (i := 99) rfl) rfl)
theorem lk_A_138 : Cond.methodLink "LineRules" 138 me_V_place.1 ∈ gw := (gw_t3 (List.mem_of_getElem? (i := 126) rfl) rfl)
theorem lk_V_34 : Cond.methodLink "LineRules$Inverse" 34 me_V_find.1 ∈ gw := (gw_t3 (List.mem_of_getElem? (i := 103) rfl) rfl)
theorem lk_V_49 : Cond.methodLink "LineRules$Inverse" 49 me_P_losesNothing.1 ∈ gw := (gw_t3 (List.mem_of_getElem? (i := 107) rfl) rfl)
theorem lk_V_55 : Cond.methodLink "LineRules$Inverse" 55 me_V_placesTold.1 ∈ gw := (gw_t3 (List.mem_of_getElem? (i := 108) rfl) rfl)
theorem lk_V_59 : Cond.methodLink "LineRules$Inverse" 59 me_V_takeLeast.1 ∈ gw := (gw_t3 (List.mem_of_getElem? (i := 122) rfl) rfl)
theorem lk_V_63 : Cond.methodLink "LineRules$Inverse" 63 me_Y_fillI.1 ∈ gw := (gw_t3 (List.mem_of_getElem? (i := 112) rfl) rfl)
theorem lk_V_42 : (("LineRules$Inverse", 42, me_A_power.1, "LineRules") : String × Nat × MethodName × String) ∈ gw_n := List.mem_of_getElem? (i := 4) rfl
theorem lk_V_69 : Cond.methodLink "LineRules$Inverse" 69 me_V_madeOf.1 ∈ gw := (gw_t3 (List.mem_of_getElem? (i := 114) rfl) rfl)
theorem lk_V_72 : Cond.methodLink "LineRules$Inverse" 72 me_V_samePlaces.1 ∈ gw := (gw_t3 (List.mem_of_getElem? (i := 118) rfl) rfl)
theorem lk_A_141 : Cond.methodLink "LineRules" 141 me_V_cellOf.1 ∈ gw := (gw_t3 (List.mem_of_getElem? (i := 134) rfl) rfl)
theorem lk_A_144 : Cond.methodLink "LineRules" 144 me_W_count.1 ∈ gw := (gw_t3 (List.mem_of_getElem? (i := 142) rfl) rfl)
theorem lk_W_35 : Cond.methodLink "LineRules$Weights" 35 me_W_find.1 ∈ gw := (gw_t3 (List.mem_of_getElem? (i := 146) rfl) rfl)
theorem lk_W_44 : Cond.methodLink "LineRules$Weights" 44 me_Y_fillJ.1 ∈ gw := (gw_t3 (List.mem_of_getElem? (i := 150) rfl) rfl)
theorem lk_W_53 : Cond.methodLink "LineRules$Weights" 53 me_W_writeEquation.1 ∈ gw := (gw_t3 (List.mem_of_getElem? (i := 151) rfl) rfl)
theorem lk_W_57 : Cond.methodLink "LineRules$Weights" 57 me_W_tie.1 ∈ gw := (gw_t3 (List.mem_of_getElem? (i := 160) rfl) rfl)
theorem lk_W_63 : Cond.methodLink "LineRules$Weights" 63 me_W_writeWeight.1 ∈ gw := (gw_t3 (List.mem_of_getElem? (i := 175) rfl) rfl)
theorem lk_W_74 : Cond.methodLink "LineRules$Weights" 74 me_R_end.1 ∈ gw := (gw_t3 (List.mem_of_getElem? (i := 155) rfl) rfl)
theorem lk_W_78 : Cond.methodLink "LineRules$Weights" 78 me_W_addGain.1 ∈ gw := (gw_t3 (List.mem_of_getElem? (i := 156) rfl) rfl)
theorem lk_W_85 : Cond.methodLink "LineRules$Weights" 85 arraycopyName ∈ gw := (gw_t3 (List.mem_of_getElem? (i := 164) rfl) rfl)
theorem lk_W_91 : Cond.methodLink "LineRules$Weights" 91 me_W_shorten.1 ∈ gw := (gw_t3 (List.mem_of_getElem? (i := 165) rfl) rfl)
theorem lk_W_95 : Cond.methodLink "LineRules$Weights" 95 me_J_abs.1 ∈ gw := (gw_t3 (List.mem_of_getElem? (i := 169) rfl) rfl)
theorem lk_W_101 : Cond.methodLink "LineRules$Weights" 101 me_W_commonDivisor.1 ∈ gw := (gw_t3 (List.mem_of_getElem? (i := 172) rfl) rfl)
theorem lk_A_146 : Cond.methodLink "LineRules" 146 me_W_at.1 ∈ gw := (gw_t3 (List.mem_of_getElem? (i := 183) rfl) rfl)
theorem lk_W_38 : Cond.methodLink "LineRules$Weights" 38 me_R_hasState.1 ∈ gw := (gw_t3 (List.mem_of_getElem? (i := 187) rfl) rfl)
theorem lk_A_150 : Cond.methodLink "LineRules" 150 me_O_length.1 ∈ gw := (gw_t3 (List.mem_of_getElem? (i := 192) rfl) rfl)
theorem lk_O_47 : Cond.methodLink "LineRules$Orphan" 47 me_O_find.1 ∈ gw := (gw_t3 (List.mem_of_getElem? (i := 196) rfl) rfl)
theorem lk_O_50 : Cond.methodLink "LineRules$Orphan" 50 me_P_missesNothing.1 ∈ gw := (gw_t3 (List.mem_of_getElem? (i := 200) rfl) rfl)
theorem lk_O_56 : Cond.methodLink "LineRules$Orphan" 56 me_O_search.1 ∈ gw := (gw_t3 (List.mem_of_getElem? (i := 201) rfl) rfl)
theorem lk_O_60 : Cond.methodLink "LineRules$Orphan" 60 me_R_allNodes.1 ∈ gw := (gw_t3 (List.mem_of_getElem? (i := 205) rfl) rfl)
theorem lk_O_66 : Cond.methodLink "LineRules$Orphan" 66 me_O_meet.1 ∈ gw := (gw_t3 (List.mem_of_getElem? (i := 206) rfl) rfl)
theorem lk_O_70 : Cond.methodLink "LineRules$Orphan" 70 me_O_spread.1 ∈ gw := (gw_t3 (List.mem_of_getElem? (i := 210) rfl) rfl)
theorem lk_O_77 : Cond.methodLink "LineRules$Orphan" 77 me_O_write.1 ∈ gw := (gw_t3 (List.mem_of_getElem? (i := 216) rfl) rfl)
theorem lk_O_81 : Cond.methodLink "LineRules$Orphan" 81 me_Y_fillJ.1 ∈ gw := (gw_t3 (List.mem_of_getElem? (i := 214) rfl) rfl)
theorem lk_O_90 : Cond.methodLink "LineRules$Orphan" 90 me_R_behind.1 ∈ gw := (gw_t3 (List.mem_of_getElem? (i := 215) rfl) rfl)
theorem lk_A_153 : Cond.methodLink "LineRules" 153 me_O_cell.1 ∈ gw := (gw_t3 (List.mem_of_getElem? (i := 224) rfl) rfl)
theorem lk_A_156 : Cond.methodLink "LineRules" 156 me_H_exists.1 ∈ gw := (gw_t3 (List.mem_of_getElem? (i := 232) rfl) rfl)
theorem lk_H_47 : Cond.methodLink "LineRules$Past" 47 me_H_find.1 ∈ gw := (gw_t3 (List.mem_of_getElem? (i := 236) rfl) rfl)
theorem lk_H_66 : Cond.methodLink "LineRules$Past" 66 me_H_comesBackTo.1 ∈ gw := (gw_t4 (List.mem_of_getElem? (i := 0) rfl) rfl)
theorem lk_H_69 : Cond.methodLink "LineRules$Past" 69 me_H_trace.1 ∈ gw := (gw_t4 (List.mem_of_getElem? (i := 14) rfl) rfl)
theorem lk_H_83 : Cond.methodLink "LineRules$Past" 83 me_H_due.1 ∈ gw := (gw_t4 (List.mem_of_getElem? (i := 4) rfl) rfl)
theorem lk_H_87 : Cond.methodLink "LineRules$Past" 87 me_H_leadingInto.1 ∈ gw := (gw_t4 (List.mem_of_getElem? (i := 9) rfl) rfl)
theorem lk_H_76 : Cond.methodLink "LineRules$Past" 76 me_R_left.1 ∈ gw := (gw_t4 (List.mem_of_getElem? (i := 8) rfl) rfl)
theorem lk_H_91 : Cond.methodLink "LineRules$Past" 91 me_R_behind.1 ∈ gw := (gw_t4 (List.mem_of_getElem? (i := 13) rfl) rfl)
theorem lk_H_95 : Cond.methodLink "LineRules$Past" 95 me_H_leastCell.1 ∈ gw := (gw_t4 (List.mem_of_getElem? (i := 18) rfl) rfl)
theorem lk_H_105 : Cond.methodLink "LineRules$Past" 105 me_R_end.1 ∈ gw := (gw_t4 (List.mem_of_getElem? (i := 22) rfl) rfl)
theorem lk_A_159 : Cond.methodLink "LineRules" 159 me_H_cell.1 ∈ gw := (gw_t4 (List.mem_of_getElem? (i := 27) rfl) rfl)
theorem lk_H_50 : Cond.methodLink "LineRules$Past" 50 me_C_has.1 ∈ gw := (gw_t4 (List.mem_of_getElem? (i := 31) rfl) rfl)
theorem lk_A_160 : Cond.methodLink "LineRules" 160 me_H_count.1 ∈ gw := (gw_t4 (List.mem_of_getElem? (i := 36) rfl) rfl)
theorem lk_H_62 : Cond.methodLink "LineRules$Past" 62 me_H_walksBackTo.1 ∈ gw := (gw_t4 (List.mem_of_getElem? (i := 40) rfl) rfl)
theorem lk_H_111 : Cond.methodLink "LineRules$Past" 111 me_Y_fillJ.1 ∈ gw := (gw_t4 (List.mem_of_getElem? (i := 44) rfl) rfl)
theorem lk_H_117 : Cond.methodLink "LineRules$Past" 117 me_H_goOn.1 ∈ gw := (gw_t4 (List.mem_of_getElem? (i := 45) rfl) rfl)
theorem lk_H_129 : Cond.methodLink "LineRules$Past" 129 me_Y_fillR.1 ∈ gw := (gw_t4 (List.mem_of_getElem? (i := 49) rfl) rfl)
theorem lk_Y_13 : Cond.methodLink "java/util/Arrays" 13 me_Y_rangeCheck.1 ∈ gw := (gw_t4 (List.mem_of_getElem? (i := 52) rfl) rfl)
theorem lk_M_176 : Cond.methodLink "LineRulesModel" 176 me_M_readAll.1 ∈ gw := (gw_t4 (List.mem_of_getElem? (i := 234) rfl) rfl)
theorem lk_M_147 : Cond.methodLink "LineRulesModel" 147 me_M_powerOf.1 ∈ gw := (gw_t4 (List.mem_of_getElem? (i := 238) rfl) rfl)
theorem lk_M_191 : Cond.methodLink "LineRulesModel" 191 me_M_digitSum.1 ∈ gw := (gw_t5 (List.mem_of_getElem? (i := 53) rfl) rfl)
theorem lk_M_173 : Cond.methodLink "LineRulesModel" 173 me_M_work.1 ∈ gw := (gw_t5 (List.mem_of_getElem? (i := 5) rfl) rfl)
theorem lk_M_169 : Cond.methodLink "LineRulesModel" 169 me_M_readRow.1 ∈ gw := (gw_t5 (List.mem_of_getElem? (i := 1) rfl) rfl)
theorem lk_M_118 : Cond.methodLink "LineRulesModel" 118 me_M_fresh.1 ∈ gw := (gw_t5 (List.mem_of_getElem? (i := 9) rfl) rfl)
theorem lk_M_161 : Cond.methodLink "LineRulesModel" 161 me_M_begins.1 ∈ gw := (gw_t5 (List.mem_of_getElem? (i := 13) rfl) rfl)
theorem lk_M_165 : Cond.methodLink "LineRulesModel" 165 me_M_goesOn.1 ∈ gw := (gw_t5 (List.mem_of_getElem? (i := 25) rfl) rfl)
theorem lk_M_155 : Cond.methodLink "LineRulesModel" 155 me_M_endChoice.1 ∈ gw := (gw_t5 (List.mem_of_getElem? (i := 49) rfl) rfl)
theorem lk_M_141 : Cond.methodLink "LineRulesModel" 141 me_M_operand.1 ∈ gw := (gw_t5 (List.mem_of_getElem? (i := 17) rfl) rfl)
theorem lk_M_151 : Cond.methodLink "LineRulesModel" 151 me_M_open.1 ∈ gw := (gw_t5 (List.mem_of_getElem? (i := 21) rfl) rfl)
theorem lk_M_125 : Cond.methodLink "LineRulesModel" 125 me_M_endProduct.1 ∈ gw := (gw_t5 (List.mem_of_getElem? (i := 29) rfl) rfl)
theorem lk_M_128 : Cond.methodLink "LineRulesModel" 128 me_M_endSum.1 ∈ gw := (gw_t5 (List.mem_of_getElem? (i := 33) rfl) rfl)
theorem lk_M_132 : Cond.methodLink "LineRulesModel" 132 me_M_endTest.1 ∈ gw := (gw_t5 (List.mem_of_getElem? (i := 37) rfl) rfl)
theorem lk_M_135 : Cond.methodLink "LineRulesModel" 135 me_M_endBoth.1 ∈ gw := (gw_t5 (List.mem_of_getElem? (i := 41) rfl) rfl)
theorem lk_M_138 : Cond.methodLink "LineRulesModel" 138 me_M_endEither.1 ∈ gw := (gw_t5 (List.mem_of_getElem? (i := 45) rfl) rfl)
theorem lk_M_213 : Cond.methodLink "LineRulesModel" 213 me_M_turn.1 ∈ gw := (gw_t5 (List.mem_of_getElem? (i := 76) rfl) rfl)
theorem lk_M_223 : Cond.methodLink "LineRulesModel" 223 me_M_makesAll.1 ∈ gw := (gw_t5 (List.mem_of_getElem? (i := 88) rfl) rfl)
theorem lk_M_227 : Cond.methodLink "LineRulesModel" 227 me_M_losesSomewhere.1 ∈ gw := (gw_t5 (List.mem_of_getElem? (i := 92) rfl) rfl)
theorem lk_M_216 : Cond.methodLink "LineRulesModel" 216 me_M_comesFrom.1 ∈ gw := (gw_t5 (List.mem_of_getElem? (i := 96) rfl) rfl)
theorem lk_M_219 : Cond.methodLink "LineRulesModel" 219 me_M_leadsOn.1 ∈ gw := (gw_t5 (List.mem_of_getElem? (i := 100) rfl) rfl)
theorem lk_M_230 : Cond.methodLink "LineRulesModel" 230 me_M_anyPair.1 ∈ gw := (gw_t5 (List.mem_of_getElem? (i := 108) rfl) rfl)
theorem lk_M_245 : Cond.methodLink "LineRulesModel" 245 me_M_findInverse.1 ∈ gw := (gw_t5 (List.mem_of_getElem? (i := 116) rfl) rfl)
theorem lk_M_242 : Cond.methodLink "LineRulesModel" 242 me_M_tells.1 ∈ gw := (gw_t5 (List.mem_of_getElem? (i := 120) rfl) rfl)
theorem lk_M_233 : Cond.methodLink "LineRulesModel" 233 me_M_madeOf.1 ∈ gw := (gw_t5 (List.mem_of_getElem? (i := 124) rfl) rfl)
theorem lk_M_267 : Cond.methodLink "LineRulesModel" 267 me_M_findWeights.1 ∈ gw := (gw_t5 (List.mem_of_getElem? (i := 136) rfl) rfl)
theorem lk_M_258 : Cond.methodLink "LineRulesModel" 258 me_M_equation.1 ∈ gw := (gw_t5 (List.mem_of_getElem? (i := 140) rfl) rfl)
theorem lk_M_261 : Cond.methodLink "LineRulesModel" 261 me_M_keep.1 ∈ gw := (gw_t5 (List.mem_of_getElem? (i := 144) rfl) rfl)
theorem lk_M_264 : Cond.methodLink "LineRulesModel" 264 me_M_clearRow.1 ∈ gw := (gw_t5 (List.mem_of_getElem? (i := 155) rfl) rfl)
theorem lk_M_248 : Cond.methodLink "LineRulesModel" 248 me_M_divisor.1 ∈ gw := (gw_t5 (List.mem_of_getElem? (i := 152) rfl) rfl)
theorem lk_M_252 : Cond.methodLink "LineRulesModel" 252 me_M_reduce.1 ∈ gw := (gw_t5 (List.mem_of_getElem? (i := 148) rfl) rfl)
theorem lk_M_285 : Cond.methodLink "LineRulesModel" 285 me_M_findOrphan.1 ∈ gw := (gw_t5 (List.mem_of_getElem? (i := 167) rfl) rfl)
theorem lk_M_273 : Cond.methodLink "LineRulesModel" 273 me_M_surjective.1 ∈ gw := (gw_t5 (List.mem_of_getElem? (i := 171) rfl) rfl)
theorem lk_M_278 : Cond.methodLink "LineRulesModel" 278 me_M_behind.1 ∈ gw := (gw_t5 (List.mem_of_getElem? (i := 173) rfl) rfl)
theorem lk_M_282 : Cond.methodLink "LineRulesModel" 282 me_M_spell.1 ∈ gw := (gw_t5 (List.mem_of_getElem? (i := 177) rfl) rfl)
theorem lk_M_308 : Cond.methodLink "LineRulesModel" 308 me_M_findBefore.1 ∈ gw := (gw_t5 (List.mem_of_getElem? (i := 189) rfl) rfl)
theorem lk_M_298 : Cond.methodLink "LineRulesModel" 298 me_M_lookBack.1 ∈ gw := (gw_t5 (List.mem_of_getElem? (i := 193) rfl) rfl)
theorem lk_M_301 : Cond.methodLink "LineRulesModel" 301 me_M_spellRing.1 ∈ gw := (gw_t5 (List.mem_of_getElem? (i := 201) rfl) rfl)
theorem lk_M_304 : Cond.methodLink "LineRulesModel" 304 me_M_waysFrom.1 ∈ gw := (gw_t5 (List.mem_of_getElem? (i := 205) rfl) rfl)
theorem lk_M_288 : Cond.methodLink "LineRulesModel" 288 me_M_wanted.1 ∈ gw := (gw_t5 (List.mem_of_getElem? (i := 197) rfl) rfl)
theorem fl_A_10 : gF "LineRules" 10 0 0 := ⟨"LineRules", TX0, 8, rfl, by decide, inX0, (gw_t2 (List.mem_of_getElem? (i := 66) rfl) rfl), rfl⟩
theorem fl_A_19 : gF "LineRules" 19 0 1 := ⟨"LineRules", TX0, 8, rfl, by decide, inX0, (gw_t2 (List.mem_of_getElem? (i := 67) rfl) rfl), rfl⟩
theorem fl_A_28 : gF "LineRules" 28 0 2 := ⟨"LineRules", TX0, 8, rfl, by decide, inX0, (gw_t2 (List.mem_of_getElem? (i := 68) rfl) rfl), rfl⟩
theorem fl_A_35 : gF "LineRules" 35 0 3 := ⟨"LineRules", TX0, 8, rfl, by decide, inX0, (gw_t2 (List.mem_of_getElem? (i := 69) rfl) rfl), rfl⟩
theorem fl_A_44 : gF "LineRules" 44 0 4 := ⟨"LineRules", TX0, 8, rfl, by decide, inX0, (gw_t2 (List.mem_of_getElem? (i := 70) rfl) rfl), rfl⟩
theorem fl_A_51 : gF "LineRules" 51 0 5 := ⟨"LineRules", TX0, 8, rfl, by decide, inX0, (gw_t2 (List.mem_of_getElem? (i := 71) rfl) rfl), rfl⟩
theorem fl_A_58 : gF "LineRules" 58 0 6 := ⟨"LineRules", TX0, 8, rfl, by decide, inX0, (gw_t2 (List.mem_of_getElem? (i := 72) rfl) rfl), rfl⟩
theorem fl_A_67 : gF "LineRules" 67 0 7 := ⟨"LineRules", TX0, 8, rfl, by decide, inX0, (gw_t2 (List.mem_of_getElem? (i := 73) rfl) rfl), rfl⟩
theorem fl_T_9 : gF "LineRules$Text" 9 1 0 := ⟨"LineRules$Text", TX1, 9, rfl, by decide, inX1, (gw_t1 (List.mem_of_getElem? (i := 28) rfl) rfl), rfl⟩
theorem fl_T_15 : gF "LineRules$Text" 15 1 1 := ⟨"LineRules$Text", TX1, 9, rfl, by decide, inX1, (gw_t1 (List.mem_of_getElem? (i := 29) rfl) rfl), rfl⟩
theorem fl_T_19 : gF "LineRules$Text" 19 1 2 := ⟨"LineRules$Text", TX1, 9, rfl, by decide, inX1, (gw_t1 (List.mem_of_getElem? (i := 30) rfl) rfl), rfl⟩
theorem fp_T_19 : gFp "LineRules$Text" 19 1 2 .int := ⟨"LineRules$Text", TX1, 9, tyX1, rfl, by decide, inX1, (gw_t1 (List.mem_of_getElem? (i := 30) rfl) rfl), rfl, tyX1_ok, nmX1, rfl, by decide +kernel⟩
theorem fl_T_23 : gF "LineRules$Text" 23 1 3 := ⟨"LineRules$Text", TX1, 9, rfl, by decide, inX1, (gw_t1 (List.mem_of_getElem? (i := 31) rfl) rfl), rfl⟩
theorem fp_T_23 : gFp "LineRules$Text" 23 1 3 .int := ⟨"LineRules$Text", TX1, 9, tyX1, rfl, by decide, inX1, (gw_t1 (List.mem_of_getElem? (i := 31) rfl) rfl), rfl, tyX1_ok, nmX1, rfl, by decide +kernel⟩
theorem fl_T_26 : gF "LineRules$Text" 26 1 4 := ⟨"LineRules$Text", TX1, 9, rfl, by decide, inX1, (gw_t1 (List.mem_of_getElem? (i := 32) rfl) rfl), rfl⟩
theorem fp_T_26 : gFp "LineRules$Text" 26 1 4 .int := ⟨"LineRules$Text", TX1, 9, tyX1, rfl, by decide, inX1, (gw_t1 (List.mem_of_getElem? (i := 32) rfl) rfl), rfl, tyX1_ok, nmX1, rfl, by decide +kernel⟩
theorem fl_T_29 : gF "LineRules$Text" 29 1 5 := ⟨"LineRules$Text", TX1, 9, rfl, by decide, inX1, (gw_t1 (List.mem_of_getElem? (i := 33) rfl) rfl), rfl⟩
theorem fp_T_29 : gFp "LineRules$Text" 29 1 5 .char := ⟨"LineRules$Text", TX1, 9, tyX1, rfl, by decide, inX1, (gw_t1 (List.mem_of_getElem? (i := 33) rfl) rfl), rfl, tyX1_ok, nmX1, rfl, by decide +kernel⟩
theorem fl_T_33 : gF "LineRules$Text" 33 1 6 := ⟨"LineRules$Text", TX1, 9, rfl, by decide, inX1, (gw_t1 (List.mem_of_getElem? (i := 34) rfl) rfl), rfl⟩
theorem fp_T_33 : gFp "LineRules$Text" 33 1 6 .int := ⟨"LineRules$Text", TX1, 9, tyX1, rfl, by decide, inX1, (gw_t1 (List.mem_of_getElem? (i := 34) rfl) rfl), rfl, tyX1_ok, nmX1, rfl, by decide +kernel⟩
theorem fl_T_36 : gF "LineRules$Text" 36 1 7 := ⟨"LineRules$Text", TX1, 9, rfl, by decide, inX1, (gw_t1 (List.mem_of_getElem? (i := 35) rfl) rfl), rfl⟩
theorem fp_T_36 : gFp "LineRules$Text" 36 1 7 .int := ⟨"LineRules$Text", TX1, 9, tyX1, rfl, by decide, inX1, (gw_t1 (List.mem_of_getElem? (i := 35) rfl) rfl), rfl, tyX1_ok, nmX1, rfl, by decide +kernel⟩
theorem fl_T_39 : gF "LineRules$Text" 39 1 8 := ⟨"LineRules$Text", TX1, 9, rfl, by decide, inX1, (gw_t1 (List.mem_of_getElem? (i := 36) rfl) rfl), rfl⟩
theorem fp_T_39 : gFp "LineRules$Text" 39 1 8 .boolean := ⟨"LineRules$Text", TX1, 9, tyX1, rfl, by decide, inX1, (gw_t1 (List.mem_of_getElem? (i := 36) rfl) rfl), rfl, tyX1_ok, nmX1, rfl, by decide +kernel⟩
theorem fl_R_9 : gF "LineRules$Rule" 9 2 0 := ⟨"LineRules$Rule", TX2, 10, rfl, by decide, inX2, (gw_t1 (List.mem_of_getElem? (i := 64) rfl) rfl), rfl⟩
theorem fl_R_15 : gF "LineRules$Rule" 15 2 1 := ⟨"LineRules$Rule", TX2, 10, rfl, by decide, inX2, (gw_t1 (List.mem_of_getElem? (i := 72) rfl) rfl), rfl⟩
theorem fl_R_19 : gF "LineRules$Rule" 19 2 2 := ⟨"LineRules$Rule", TX2, 10, rfl, by decide, inX2, (gw_t1 (List.mem_of_getElem? (i := 73) rfl) rfl), rfl⟩
theorem fl_R_22 : gF "LineRules$Rule" 22 2 3 := ⟨"LineRules$Rule", TX2, 10, rfl, by decide, inX2, (gw_t1 (List.mem_of_getElem? (i := 75) rfl) rfl), rfl⟩
theorem fl_R_25 : gF "LineRules$Rule" 25 2 4 := ⟨"LineRules$Rule", TX2, 10, rfl, by decide, inX2, (gw_t1 (List.mem_of_getElem? (i := 77) rfl) rfl), rfl⟩
theorem fl_R_28 : gF "LineRules$Rule" 28 2 5 := ⟨"LineRules$Rule", TX2, 10, rfl, by decide, inX2, (gw_t1 (List.mem_of_getElem? (i := 79) rfl) rfl), rfl⟩
theorem fp_R_28 : gFp "LineRules$Rule" 28 2 5 .boolean := ⟨"LineRules$Rule", TX2, 10, tyX2, rfl, by decide, inX2, (gw_t1 (List.mem_of_getElem? (i := 79) rfl) rfl), rfl, tyX2_ok, nmX2, rfl, by decide +kernel⟩
theorem fl_R_32 : gF "LineRules$Rule" 32 2 6 := ⟨"LineRules$Rule", TX2, 10, rfl, by decide, inX2, (gw_t1 (List.mem_of_getElem? (i := 81) rfl) rfl), rfl⟩
theorem fp_R_32 : gFp "LineRules$Rule" 32 2 6 .int := ⟨"LineRules$Rule", TX2, 10, tyX2, rfl, by decide, inX2, (gw_t1 (List.mem_of_getElem? (i := 81) rfl) rfl), rfl, tyX2_ok, nmX2, rfl, by decide +kernel⟩
theorem fl_R_36 : gF "LineRules$Rule" 36 2 7 := ⟨"LineRules$Rule", TX2, 10, rfl, by decide, inX2, (gw_t1 (List.mem_of_getElem? (i := 89) rfl) rfl), rfl⟩
theorem fp_R_36 : gFp "LineRules$Rule" 36 2 7 .int := ⟨"LineRules$Rule", TX2, 10, tyX2, rfl, by decide, inX2, (gw_t1 (List.mem_of_getElem? (i := 89) rfl) rfl), rfl, tyX2_ok, nmX2, rfl, by decide +kernel⟩
theorem fl_R_39 : gF "LineRules$Rule" 39 2 8 := ⟨"LineRules$Rule", TX2, 10, rfl, by decide, inX2, (gw_t1 (List.mem_of_getElem? (i := 94) rfl) rfl), rfl⟩
theorem fp_R_39 : gFp "LineRules$Rule" 39 2 8 .int := ⟨"LineRules$Rule", TX2, 10, tyX2, rfl, by decide, inX2, (gw_t1 (List.mem_of_getElem? (i := 94) rfl) rfl), rfl, tyX2_ok, nmX2, rfl, by decide +kernel⟩
theorem fl_R_42 : gF "LineRules$Rule" 42 2 9 := ⟨"LineRules$Rule", TX2, 10, rfl, by decide, inX2, (gw_t1 (List.mem_of_getElem? (i := 99) rfl) rfl), rfl⟩
theorem fp_R_42 : gFp "LineRules$Rule" 42 2 9 .int := ⟨"LineRules$Rule", TX2, 10, tyX2, rfl, by decide, inX2, (gw_t1 (List.mem_of_getElem? (i := 99) rfl) rfl), rfl, tyX2_ok, nmX2, rfl, by decide +kernel⟩
theorem fl_C_9 : gF "LineRules$Ring" 9 3 0 := ⟨"LineRules$Ring", TX3, 5, rfl, by decide, inX3, (gw_t1 (List.mem_of_getElem? (i := 132) rfl) rfl), rfl⟩
theorem fl_C_15 : gF "LineRules$Ring" 15 3 1 := ⟨"LineRules$Ring", TX3, 5, rfl, by decide, inX3, (gw_t1 (List.mem_of_getElem? (i := 135) rfl) rfl), rfl⟩
theorem fp_C_15 : gFp "LineRules$Ring" 15 3 1 .int := ⟨"LineRules$Ring", TX3, 5, tyX3, rfl, by decide, inX3, (gw_t1 (List.mem_of_getElem? (i := 135) rfl) rfl), rfl, tyX3_ok, nmX3, rfl, by decide +kernel⟩
theorem fl_C_19 : gF "LineRules$Ring" 19 3 3 := ⟨"LineRules$Ring", TX3, 5, rfl, by decide, inX3, (gw_t1 (List.mem_of_getElem? (i := 139) rfl) rfl), rfl⟩
theorem fl_C_22 : gF "LineRules$Ring" 22 3 4 := ⟨"LineRules$Ring", TX3, 5, rfl, by decide, inX3, (gw_t1 (List.mem_of_getElem? (i := 140) rfl) rfl), rfl⟩
theorem fl_C_25 : gF "LineRules$Ring" 25 3 2 := ⟨"LineRules$Ring", TX3, 5, rfl, by decide, inX3, (gw_t1 (List.mem_of_getElem? (i := 138) rfl) rfl), rfl⟩
theorem fl_P_9 : gF "LineRules$Pairs" 9 4 1 := ⟨"LineRules$Pairs", TX4, 7, rfl, by decide, inX4, (gw_t1 (List.mem_of_getElem? (i := 159) rfl) rfl), rfl⟩
theorem fl_P_15 : gF "LineRules$Pairs" 15 4 2 := ⟨"LineRules$Pairs", TX4, 7, rfl, by decide, inX4, (gw_t1 (List.mem_of_getElem? (i := 160) rfl) rfl), rfl⟩
theorem fl_P_18 : gF "LineRules$Pairs" 18 4 3 := ⟨"LineRules$Pairs", TX4, 7, rfl, by decide, inX4, (gw_t1 (List.mem_of_getElem? (i := 161) rfl) rfl), rfl⟩
theorem fp_P_18 : gFp "LineRules$Pairs" 18 4 3 .boolean := ⟨"LineRules$Pairs", TX4, 7, tyX4, rfl, by decide, inX4, (gw_t1 (List.mem_of_getElem? (i := 161) rfl) rfl), rfl, tyX4_ok, nmX4, rfl, by decide +kernel⟩
theorem fl_P_22 : gF "LineRules$Pairs" 22 4 4 := ⟨"LineRules$Pairs", TX4, 7, rfl, by decide, inX4, (gw_t1 (List.mem_of_getElem? (i := 162) rfl) rfl), rfl⟩
theorem fp_P_22 : gFp "LineRules$Pairs" 22 4 4 .boolean := ⟨"LineRules$Pairs", TX4, 7, tyX4, rfl, by decide, inX4, (gw_t1 (List.mem_of_getElem? (i := 162) rfl) rfl), rfl, tyX4_ok, nmX4, rfl, by decide +kernel⟩
theorem fl_P_25 : gF "LineRules$Pairs" 25 4 5 := ⟨"LineRules$Pairs", TX4, 7, rfl, by decide, inX4, (gw_t1 (List.mem_of_getElem? (i := 163) rfl) rfl), rfl⟩
theorem fp_P_25 : gFp "LineRules$Pairs" 25 4 5 .boolean := ⟨"LineRules$Pairs", TX4, 7, tyX4, rfl, by decide, inX4, (gw_t1 (List.mem_of_getElem? (i := 163) rfl) rfl), rfl, tyX4_ok, nmX4, rfl, by decide +kernel⟩
theorem fl_P_28 : gF "LineRules$Pairs" 28 4 6 := ⟨"LineRules$Pairs", TX4, 7, rfl, by decide, inX4, (gw_t1 (List.mem_of_getElem? (i := 164) rfl) rfl), rfl⟩
theorem fp_P_28 : gFp "LineRules$Pairs" 28 4 6 .boolean := ⟨"LineRules$Pairs", TX4, 7, tyX4, rfl, by decide, inX4, (gw_t1 (List.mem_of_getElem? (i := 164) rfl) rfl), rfl, tyX4_ok, nmX4, rfl, by decide +kernel⟩
theorem fl_P_31 : gF "LineRules$Pairs" 31 4 0 := ⟨"LineRules$Pairs", TX4, 7, rfl, by decide, inX4, (gw_t1 (List.mem_of_getElem? (i := 158) rfl) rfl), rfl⟩
theorem fl_V_9 : gF "LineRules$Inverse" 9 5 2 := ⟨"LineRules$Inverse", TX5, 6, rfl, by decide, inX5, (gw_t1 (List.mem_of_getElem? (i := 188) rfl) rfl), rfl⟩
theorem fl_V_15 : gF "LineRules$Inverse" 15 5 3 := ⟨"LineRules$Inverse", TX5, 6, rfl, by decide, inX5, (gw_t1 (List.mem_of_getElem? (i := 189) rfl) rfl), rfl⟩
theorem fp_V_15 : gFp "LineRules$Inverse" 15 5 3 .boolean := ⟨"LineRules$Inverse", TX5, 6, tyX5, rfl, by decide, inX5, (gw_t1 (List.mem_of_getElem? (i := 189) rfl) rfl), rfl, tyX5_ok, nmX5, rfl, by decide +kernel⟩
theorem fl_V_19 : gF "LineRules$Inverse" 19 5 4 := ⟨"LineRules$Inverse", TX5, 6, rfl, by decide, inX5, (gw_t1 (List.mem_of_getElem? (i := 190) rfl) rfl), rfl⟩
theorem fp_V_19 : gFp "LineRules$Inverse" 19 5 4 .int := ⟨"LineRules$Inverse", TX5, 6, tyX5, rfl, by decide, inX5, (gw_t1 (List.mem_of_getElem? (i := 190) rfl) rfl), rfl, tyX5_ok, nmX5, rfl, by decide +kernel⟩
theorem fl_V_23 : gF "LineRules$Inverse" 23 5 5 := ⟨"LineRules$Inverse", TX5, 6, rfl, by decide, inX5, (gw_t1 (List.mem_of_getElem? (i := 191) rfl) rfl), rfl⟩
theorem fp_V_23 : gFp "LineRules$Inverse" 23 5 5 .int := ⟨"LineRules$Inverse", TX5, 6, tyX5, rfl, by decide, inX5, (gw_t1 (List.mem_of_getElem? (i := 191) rfl) rfl), rfl, tyX5_ok, nmX5, rfl, by decide +kernel⟩
theorem fl_V_26 : gF "LineRules$Inverse" 26 5 0 := ⟨"LineRules$Inverse", TX5, 6, rfl, by decide, inX5, (gw_t1 (List.mem_of_getElem? (i := 186) rfl) rfl), rfl⟩
theorem fl_V_30 : gF "LineRules$Inverse" 30 5 1 := ⟨"LineRules$Inverse", TX5, 6, rfl, by decide, inX5, (gw_t1 (List.mem_of_getElem? (i := 187) rfl) rfl), rfl⟩
theorem fl_W_11 : gF "LineRules$Weights" 11 6 1 := ⟨"LineRules$Weights", TX6, 6, rfl, by decide, inX6, (gw_t1 (List.mem_of_getElem? (i := 214) rfl) rfl), rfl⟩
theorem fl_W_16 : gF "LineRules$Weights" 16 6 2 := ⟨"LineRules$Weights", TX6, 6, rfl, by decide, inX6, (gw_t1 (List.mem_of_getElem? (i := 215) rfl) rfl), rfl⟩
theorem fl_W_19 : gF "LineRules$Weights" 19 6 3 := ⟨"LineRules$Weights", TX6, 6, rfl, by decide, inX6, (gw_t1 (List.mem_of_getElem? (i := 216) rfl) rfl), rfl⟩
theorem fl_W_23 : gF "LineRules$Weights" 23 6 4 := ⟨"LineRules$Weights", TX6, 6, rfl, by decide, inX6, (gw_t1 (List.mem_of_getElem? (i := 217) rfl) rfl), rfl⟩
theorem fp_W_23 : gFp "LineRules$Weights" 23 6 4 .boolean := ⟨"LineRules$Weights", TX6, 6, tyX6, rfl, by decide, inX6, (gw_t1 (List.mem_of_getElem? (i := 217) rfl) rfl), rfl, tyX6_ok, nmX6, rfl, by decide +kernel⟩
theorem fl_W_27 : gF "LineRules$Weights" 27 6 5 := ⟨"LineRules$Weights", TX6, 6, rfl, by decide, inX6, (gw_t1 (List.mem_of_getElem? (i := 218) rfl) rfl), rfl⟩
theorem fp_W_27 : gFp "LineRules$Weights" 27 6 5 .int := ⟨"LineRules$Weights", TX6, 6, tyX6, rfl, by decide, inX6, (gw_t1 (List.mem_of_getElem? (i := 218) rfl) rfl), rfl, tyX6_ok, nmX6, rfl, by decide +kernel⟩
theorem fl_W_31 : gF "LineRules$Weights" 31 6 0 := ⟨"LineRules$Weights", TX6, 6, rfl, by decide, inX6, (gw_t1 (List.mem_of_getElem? (i := 213) rfl) rfl), rfl⟩
theorem fl_O_9 : gF "LineRules$Orphan" 9 7 2 := ⟨"LineRules$Orphan", TX7, 10, rfl, by decide, inX7, (gw_t2 (List.mem_of_getElem? (i := 0) rfl) rfl), rfl⟩
theorem fl_O_15 : gF "LineRules$Orphan" 15 7 3 := ⟨"LineRules$Orphan", TX7, 10, rfl, by decide, inX7, (gw_t2 (List.mem_of_getElem? (i := 1) rfl) rfl), rfl⟩
theorem fl_O_19 : gF "LineRules$Orphan" 19 7 4 := ⟨"LineRules$Orphan", TX7, 10, rfl, by decide, inX7, (gw_t2 (List.mem_of_getElem? (i := 2) rfl) rfl), rfl⟩
theorem fl_O_22 : gF "LineRules$Orphan" 22 7 5 := ⟨"LineRules$Orphan", TX7, 10, rfl, by decide, inX7, (gw_t2 (List.mem_of_getElem? (i := 3) rfl) rfl), rfl⟩
theorem fl_O_25 : gF "LineRules$Orphan" 25 7 6 := ⟨"LineRules$Orphan", TX7, 10, rfl, by decide, inX7, (gw_t2 (List.mem_of_getElem? (i := 4) rfl) rfl), rfl⟩
theorem fl_O_28 : gF "LineRules$Orphan" 28 7 7 := ⟨"LineRules$Orphan", TX7, 10, rfl, by decide, inX7, (gw_t2 (List.mem_of_getElem? (i := 5) rfl) rfl), rfl⟩
theorem fp_O_28 : gFp "LineRules$Orphan" 28 7 7 .int := ⟨"LineRules$Orphan", TX7, 10, tyX7, rfl, by decide, inX7, (gw_t2 (List.mem_of_getElem? (i := 5) rfl) rfl), rfl, tyX7_ok, nmX7, rfl, by decide +kernel⟩
theorem fl_O_32 : gF "LineRules$Orphan" 32 7 8 := ⟨"LineRules$Orphan", TX7, 10, rfl, by decide, inX7, (gw_t2 (List.mem_of_getElem? (i := 6) rfl) rfl), rfl⟩
theorem fp_O_32 : gFp "LineRules$Orphan" 32 7 8 .boolean := ⟨"LineRules$Orphan", TX7, 10, tyX7, rfl, by decide, inX7, (gw_t2 (List.mem_of_getElem? (i := 6) rfl) rfl), rfl, tyX7_ok, nmX7, rfl, by decide +kernel⟩
theorem fl_O_36 : gF "LineRules$Orphan" 36 7 9 := ⟨"LineRules$Orphan", TX7, 10, rfl, by decide, inX7, (gw_t2 (List.mem_of_getElem? (i := 7) rfl) rfl), rfl⟩
theorem fp_O_36 : gFp "LineRules$Orphan" 36 7 9 .int := ⟨"LineRules$Orphan", TX7, 10, tyX7, rfl, by decide, inX7, (gw_t2 (List.mem_of_getElem? (i := 7) rfl) rfl), rfl, tyX7_ok, nmX7, rfl, by decide +kernel⟩
theorem fl_O_39 : gF "LineRules$Orphan" 39 7 0 := ⟨"LineRules$Orphan", TX7, 10, rfl, by decide, inX7, (gw_t1 (List.mem_of_getElem? (i := 238) rfl) rfl), rfl⟩
theorem fl_O_43 : gF "LineRules$Orphan" 43 7 1 := ⟨"LineRules$Orphan", TX7, 10, rfl, by decide, inX7, (gw_t1 (List.mem_of_getElem? (i := 239) rfl) rfl), rfl⟩
theorem fl_H_9 : gF "LineRules$Past" 9 8 2 := ⟨"LineRules$Past", TX8, 10, rfl, by decide, inX8, (gw_t2 (List.mem_of_getElem? (i := 37) rfl) rfl), rfl⟩
theorem fl_H_15 : gF "LineRules$Past" 15 8 3 := ⟨"LineRules$Past", TX8, 10, rfl, by decide, inX8, (gw_t2 (List.mem_of_getElem? (i := 38) rfl) rfl), rfl⟩
theorem fl_H_19 : gF "LineRules$Past" 19 8 4 := ⟨"LineRules$Past", TX8, 10, rfl, by decide, inX8, (gw_t2 (List.mem_of_getElem? (i := 39) rfl) rfl), rfl⟩
theorem fp_H_19 : gFp "LineRules$Past" 19 8 4 (.array .long) := ⟨"LineRules$Past", TX8, 10, tyX8, rfl, by decide, inX8, (gw_t2 (List.mem_of_getElem? (i := 39) rfl) rfl), rfl, tyX8_ok, nmX8, rfl, by decide +kernel⟩
theorem fl_H_22 : gF "LineRules$Past" 22 8 5 := ⟨"LineRules$Past", TX8, 10, rfl, by decide, inX8, (gw_t2 (List.mem_of_getElem? (i := 40) rfl) rfl), rfl⟩
theorem fp_H_22 : gFp "LineRules$Past" 22 8 5 (.array .long) := ⟨"LineRules$Past", TX8, 10, tyX8, rfl, by decide, inX8, (gw_t2 (List.mem_of_getElem? (i := 40) rfl) rfl), rfl, tyX8_ok, nmX8, rfl, by decide +kernel⟩
theorem fl_H_25 : gF "LineRules$Past" 25 8 6 := ⟨"LineRules$Past", TX8, 10, rfl, by decide, inX8, (gw_t2 (List.mem_of_getElem? (i := 41) rfl) rfl), rfl⟩
theorem fp_H_25 : gFp "LineRules$Past" 25 8 6 .boolean := ⟨"LineRules$Past", TX8, 10, tyX8, rfl, by decide, inX8, (gw_t2 (List.mem_of_getElem? (i := 41) rfl) rfl), rfl, tyX8_ok, nmX8, rfl, by decide +kernel⟩
theorem fl_H_29 : gF "LineRules$Past" 29 8 7 := ⟨"LineRules$Past", TX8, 10, rfl, by decide, inX8, (gw_t2 (List.mem_of_getElem? (i := 42) rfl) rfl), rfl⟩
theorem fp_H_29 : gFp "LineRules$Past" 29 8 7 .boolean := ⟨"LineRules$Past", TX8, 10, tyX8, rfl, by decide, inX8, (gw_t2 (List.mem_of_getElem? (i := 42) rfl) rfl), rfl, tyX8_ok, nmX8, rfl, by decide +kernel⟩
theorem fl_H_32 : gF "LineRules$Past" 32 8 8 := ⟨"LineRules$Past", TX8, 10, rfl, by decide, inX8, (gw_t2 (List.mem_of_getElem? (i := 43) rfl) rfl), rfl⟩
theorem fp_H_32 : gFp "LineRules$Past" 32 8 8 .boolean := ⟨"LineRules$Past", TX8, 10, tyX8, rfl, by decide, inX8, (gw_t2 (List.mem_of_getElem? (i := 43) rfl) rfl), rfl, tyX8_ok, nmX8, rfl, by decide +kernel⟩
theorem fl_H_35 : gF "LineRules$Past" 35 8 9 := ⟨"LineRules$Past", TX8, 10, rfl, by decide, inX8, (gw_t2 (List.mem_of_getElem? (i := 44) rfl) rfl), rfl⟩
theorem fp_H_35 : gFp "LineRules$Past" 35 8 9 .long := ⟨"LineRules$Past", TX8, 10, tyX8, rfl, by decide, inX8, (gw_t2 (List.mem_of_getElem? (i := 44) rfl) rfl), rfl, tyX8_ok, nmX8, rfl, by decide +kernel⟩
theorem fl_H_39 : gF "LineRules$Past" 39 8 0 := ⟨"LineRules$Past", TX8, 10, rfl, by decide, inX8, (gw_t2 (List.mem_of_getElem? (i := 35) rfl) rfl), rfl⟩
theorem fl_H_43 : gF "LineRules$Past" 43 8 1 := ⟨"LineRules$Past", TX8, 10, rfl, by decide, inX8, (gw_t2 (List.mem_of_getElem? (i := 36) rfl) rfl), rfl⟩
theorem fl_A_89 : gF "LineRules" 89 2 6 := ⟨"LineRules$Rule", TX2, 10, rfl, by decide, inX2, (gw_t1 (List.mem_of_getElem? (i := 82) rfl) rfl), rfl⟩
theorem fl_T_72 : gF "LineRules$Text" 72 2 8 := ⟨"LineRules$Rule", TX2, 10, rfl, by decide, inX2, (gw_t1 (List.mem_of_getElem? (i := 97) rfl) rfl), rfl⟩
theorem fl_T_75 : gF "LineRules$Text" 75 2 0 := ⟨"LineRules$Rule", TX2, 10, rfl, by decide, inX2, (gw_t1 (List.mem_of_getElem? (i := 68) rfl) rfl), rfl⟩
theorem fl_A_93 : gF "LineRules" 93 2 5 := ⟨"LineRules$Rule", TX2, 10, rfl, by decide, inX2, (gw_t1 (List.mem_of_getElem? (i := 80) rfl) rfl), rfl⟩
theorem fl_A_97 : gF "LineRules" 97 2 8 := ⟨"LineRules$Rule", TX2, 10, rfl, by decide, inX2, (gw_t1 (List.mem_of_getElem? (i := 95) rfl) rfl), rfl⟩
theorem fl_A_100 : gF "LineRules" 100 2 0 := ⟨"LineRules$Rule", TX2, 10, rfl, by decide, inX2, (gw_t1 (List.mem_of_getElem? (i := 65) rfl) rfl), rfl⟩
theorem fl_A_104 : gF "LineRules" 104 3 1 := ⟨"LineRules$Ring", TX3, 5, rfl, by decide, inX3, (gw_t1 (List.mem_of_getElem? (i := 136) rfl) rfl), rfl⟩
theorem fl_A_118 : gF "LineRules" 118 3 0 := ⟨"LineRules$Ring", TX3, 5, rfl, by decide, inX3, (gw_t1 (List.mem_of_getElem? (i := 133) rfl) rfl), rfl⟩
theorem fl_C_47 : gF "LineRules$Ring" 47 2 7 := ⟨"LineRules$Rule", TX2, 10, rfl, by decide, inX2, (gw_t1 (List.mem_of_getElem? (i := 91) rfl) rfl), rfl⟩
theorem fl_C_52 : gF "LineRules$Ring" 52 2 6 := ⟨"LineRules$Rule", TX2, 10, rfl, by decide, inX2, (gw_t1 (List.mem_of_getElem? (i := 87) rfl) rfl), rfl⟩
theorem fl_C_65 : gF "LineRules$Ring" 65 2 0 := ⟨"LineRules$Rule", TX2, 10, rfl, by decide, inX2, (gw_t1 (List.mem_of_getElem? (i := 69) rfl) rfl), rfl⟩
theorem fl_P_51 : gF "LineRules$Pairs" 51 2 9 := ⟨"LineRules$Rule", TX2, 10, rfl, by decide, inX2, (gw_t1 (List.mem_of_getElem? (i := 100) rfl) rfl), rfl⟩
theorem fl_P_67 : gF "LineRules$Pairs" 67 2 6 := ⟨"LineRules$Rule", TX2, 10, rfl, by decide, inX2, (gw_t1 (List.mem_of_getElem? (i := 85) rfl) rfl), rfl⟩
theorem fl_P_70 : gF "LineRules$Pairs" 70 2 0 := ⟨"LineRules$Rule", TX2, 10, rfl, by decide, inX2, (gw_t1 (List.mem_of_getElem? (i := 67) rfl) rfl), rfl⟩
theorem fl_V_46 : gF "LineRules$Inverse" 46 2 7 := ⟨"LineRules$Rule", TX2, 10, rfl, by decide, inX2, (gw_t1 (List.mem_of_getElem? (i := 90) rfl) rfl), rfl⟩
theorem fl_V_37 : gF "LineRules$Inverse" 37 2 6 := ⟨"LineRules$Rule", TX2, 10, rfl, by decide, inX2, (gw_t1 (List.mem_of_getElem? (i := 83) rfl) rfl), rfl⟩
theorem fl_V_76 : gF "LineRules$Inverse" 76 2 0 := ⟨"LineRules$Rule", TX2, 10, rfl, by decide, inX2, (gw_t1 (List.mem_of_getElem? (i := 70) rfl) rfl), rfl⟩
theorem fl_V_79 : gF "LineRules$Inverse" 79 2 8 := ⟨"LineRules$Rule", TX2, 10, rfl, by decide, inX2, (gw_t1 (List.mem_of_getElem? (i := 98) rfl) rfl), rfl⟩
theorem fl_W_50 : gF "LineRules$Weights" 50 2 8 := ⟨"LineRules$Rule", TX2, 10, rfl, by decide, inX2, (gw_t1 (List.mem_of_getElem? (i := 96) rfl) rfl), rfl⟩
theorem fl_W_60 : gF "LineRules$Weights" 60 2 6 := ⟨"LineRules$Rule", TX2, 10, rfl, by decide, inX2, (gw_t1 (List.mem_of_getElem? (i := 84) rfl) rfl), rfl⟩
theorem fl_W_67 : gF "LineRules$Weights" 67 2 0 := ⟨"LineRules$Rule", TX2, 10, rfl, by decide, inX2, (gw_t1 (List.mem_of_getElem? (i := 66) rfl) rfl), rfl⟩
theorem fl_W_71 : gF "LineRules$Weights" 71 2 9 := ⟨"LineRules$Rule", TX2, 10, rfl, by decide, inX2, (gw_t1 (List.mem_of_getElem? (i := 102) rfl) rfl), rfl⟩
theorem fl_W_82 : gF "LineRules$Weights" 82 2 7 := ⟨"LineRules$Rule", TX2, 10, rfl, by decide, inX2, (gw_t1 (List.mem_of_getElem? (i := 92) rfl) rfl), rfl⟩
theorem fl_O_74 : gF "LineRules$Orphan" 74 2 6 := ⟨"LineRules$Rule", TX2, 10, rfl, by decide, inX2, (gw_t1 (List.mem_of_getElem? (i := 86) rfl) rfl), rfl⟩
theorem fl_O_87 : gF "LineRules$Orphan" 87 2 9 := ⟨"LineRules$Rule", TX2, 10, rfl, by decide, inX2, (gw_t1 (List.mem_of_getElem? (i := 103) rfl) rfl), rfl⟩
theorem fl_H_56 : gF "LineRules$Past" 56 2 9 := ⟨"LineRules$Rule", TX2, 10, rfl, by decide, inX2, (gw_t1 (List.mem_of_getElem? (i := 101) rfl) rfl), rfl⟩
theorem fl_H_80 : gF "LineRules$Past" 80 3 1 := ⟨"LineRules$Ring", TX3, 5, rfl, by decide, inX3, (gw_t1 (List.mem_of_getElem? (i := 137) rfl) rfl), rfl⟩
theorem fl_H_73 : gF "LineRules$Past" 73 3 0 := ⟨"LineRules$Ring", TX3, 5, rfl, by decide, inX3, (gw_t1 (List.mem_of_getElem? (i := 134) rfl) rfl), rfl⟩
theorem fl_H_99 : gF "LineRules$Past" 99 2 7 := ⟨"LineRules$Rule", TX2, 10, rfl, by decide, inX2, (gw_t1 (List.mem_of_getElem? (i := 93) rfl) rfl), rfl⟩
theorem fl_H_102 : gF "LineRules$Past" 102 2 6 := ⟨"LineRules$Rule", TX2, 10, rfl, by decide, inX2, (gw_t1 (List.mem_of_getElem? (i := 88) rfl) rfl), rfl⟩
theorem fl_H_108 : gF "LineRules$Past" 108 2 0 := ⟨"LineRules$Rule", TX2, 10, rfl, by decide, inX2, (gw_t1 (List.mem_of_getElem? (i := 71) rfl) rfl), rfl⟩
theorem fl_H_120 : gF "LineRules$Past" 120 2 2 := ⟨"LineRules$Rule", TX2, 10, rfl, by decide, inX2, (gw_t1 (List.mem_of_getElem? (i := 74) rfl) rfl), rfl⟩
theorem fl_H_123 : gF "LineRules$Past" 123 2 3 := ⟨"LineRules$Rule", TX2, 10, rfl, by decide, inX2, (gw_t1 (List.mem_of_getElem? (i := 76) rfl) rfl), rfl⟩
theorem fl_H_126 : gF "LineRules$Past" 126 2 4 := ⟨"LineRules$Rule", TX2, 10, rfl, by decide, inX2, (gw_t1 (List.mem_of_getElem? (i := 78) rfl) rfl), rfl⟩
theorem fl_M_7 : gF "LineRulesModel" 7 9 1 := ⟨"LineRulesModel", TX9, 54, rfl, by decide, inX9, (gw_t4 (List.mem_of_getElem? (i := 63) rfl) rfl), rfl⟩
theorem fl_M_13 : gF "LineRulesModel" 13 9 6 := ⟨"LineRulesModel", TX9, 54, rfl, by decide, inX9, (gw_t4 (List.mem_of_getElem? (i := 68) rfl) rfl), rfl⟩
theorem fl_M_16 : gF "LineRulesModel" 16 9 7 := ⟨"LineRulesModel", TX9, 54, rfl, by decide, inX9, (gw_t4 (List.mem_of_getElem? (i := 69) rfl) rfl), rfl⟩
theorem fp_M_16 : gFp "LineRulesModel" 16 9 7 .int := ⟨"LineRulesModel", TX9, 54, tyX9, rfl, by decide, inX9, (gw_t4 (List.mem_of_getElem? (i := 69) rfl) rfl), rfl, tyX9_ok, nmX9, rfl, by decide +kernel⟩
theorem fl_M_20 : gF "LineRulesModel" 20 9 8 := ⟨"LineRulesModel", TX9, 54, rfl, by decide, inX9, (gw_t4 (List.mem_of_getElem? (i := 70) rfl) rfl), rfl⟩
theorem fl_M_23 : gF "LineRulesModel" 23 9 9 := ⟨"LineRulesModel", TX9, 54, rfl, by decide, inX9, (gw_t4 (List.mem_of_getElem? (i := 71) rfl) rfl), rfl⟩
theorem fl_M_26 : gF "LineRulesModel" 26 9 14 := ⟨"LineRulesModel", TX9, 54, rfl, by decide, inX9, (gw_t4 (List.mem_of_getElem? (i := 76) rfl) rfl), rfl⟩
theorem fl_M_29 : gF "LineRulesModel" 29 9 15 := ⟨"LineRulesModel", TX9, 54, rfl, by decide, inX9, (gw_t4 (List.mem_of_getElem? (i := 77) rfl) rfl), rfl⟩
theorem fl_M_32 : gF "LineRulesModel" 32 9 16 := ⟨"LineRulesModel", TX9, 54, rfl, by decide, inX9, (gw_t4 (List.mem_of_getElem? (i := 78) rfl) rfl), rfl⟩
theorem fl_M_35 : gF "LineRulesModel" 35 9 17 := ⟨"LineRulesModel", TX9, 54, rfl, by decide, inX9, (gw_t4 (List.mem_of_getElem? (i := 79) rfl) rfl), rfl⟩
theorem fl_M_38 : gF "LineRulesModel" 38 9 18 := ⟨"LineRulesModel", TX9, 54, rfl, by decide, inX9, (gw_t4 (List.mem_of_getElem? (i := 80) rfl) rfl), rfl⟩
theorem fl_M_41 : gF "LineRulesModel" 41 9 19 := ⟨"LineRulesModel", TX9, 54, rfl, by decide, inX9, (gw_t4 (List.mem_of_getElem? (i := 81) rfl) rfl), rfl⟩
theorem fl_M_45 : gF "LineRulesModel" 45 9 20 := ⟨"LineRulesModel", TX9, 54, rfl, by decide, inX9, (gw_t4 (List.mem_of_getElem? (i := 82) rfl) rfl), rfl⟩
theorem fl_M_48 : gF "LineRulesModel" 48 9 21 := ⟨"LineRulesModel", TX9, 54, rfl, by decide, inX9, (gw_t4 (List.mem_of_getElem? (i := 83) rfl) rfl), rfl⟩
theorem fl_M_51 : gF "LineRulesModel" 51 9 22 := ⟨"LineRulesModel", TX9, 54, rfl, by decide, inX9, (gw_t4 (List.mem_of_getElem? (i := 84) rfl) rfl), rfl⟩
theorem fl_M_54 : gF "LineRulesModel" 54 9 23 := ⟨"LineRulesModel", TX9, 54, rfl, by decide, inX9, (gw_t4 (List.mem_of_getElem? (i := 85) rfl) rfl), rfl⟩
theorem fl_M_57 : gF "LineRulesModel" 57 9 24 := ⟨"LineRulesModel", TX9, 54, rfl, by decide, inX9, (gw_t4 (List.mem_of_getElem? (i := 86) rfl) rfl), rfl⟩
theorem fl_M_60 : gF "LineRulesModel" 60 9 25 := ⟨"LineRulesModel", TX9, 54, rfl, by decide, inX9, (gw_t4 (List.mem_of_getElem? (i := 87) rfl) rfl), rfl⟩
theorem fl_M_63 : gF "LineRulesModel" 63 9 26 := ⟨"LineRulesModel", TX9, 54, rfl, by decide, inX9, (gw_t4 (List.mem_of_getElem? (i := 88) rfl) rfl), rfl⟩
theorem fl_M_66 : gF "LineRulesModel" 66 9 27 := ⟨"LineRulesModel", TX9, 54, rfl, by decide, inX9, (gw_t4 (List.mem_of_getElem? (i := 89) rfl) rfl), rfl⟩
theorem fl_M_69 : gF "LineRulesModel" 69 9 30 := ⟨"LineRulesModel", TX9, 54, rfl, by decide, inX9, (gw_t4 (List.mem_of_getElem? (i := 92) rfl) rfl), rfl⟩
theorem fl_M_72 : gF "LineRulesModel" 72 9 34 := ⟨"LineRulesModel", TX9, 54, rfl, by decide, inX9, (gw_t4 (List.mem_of_getElem? (i := 96) rfl) rfl), rfl⟩
theorem fl_M_75 : gF "LineRulesModel" 75 9 37 := ⟨"LineRulesModel", TX9, 54, rfl, by decide, inX9, (gw_t4 (List.mem_of_getElem? (i := 99) rfl) rfl), rfl⟩
theorem fl_M_78 : gF "LineRulesModel" 78 9 38 := ⟨"LineRulesModel", TX9, 54, rfl, by decide, inX9, (gw_t4 (List.mem_of_getElem? (i := 100) rfl) rfl), rfl⟩
theorem fl_M_81 : gF "LineRulesModel" 81 9 39 := ⟨"LineRulesModel", TX9, 54, rfl, by decide, inX9, (gw_t4 (List.mem_of_getElem? (i := 101) rfl) rfl), rfl⟩
theorem fl_M_85 : gF "LineRulesModel" 85 9 40 := ⟨"LineRulesModel", TX9, 54, rfl, by decide, inX9, (gw_t4 (List.mem_of_getElem? (i := 102) rfl) rfl), rfl⟩
theorem fl_M_88 : gF "LineRulesModel" 88 9 43 := ⟨"LineRulesModel", TX9, 54, rfl, by decide, inX9, (gw_t4 (List.mem_of_getElem? (i := 105) rfl) rfl), rfl⟩
theorem fl_M_91 : gF "LineRulesModel" 91 9 44 := ⟨"LineRulesModel", TX9, 54, rfl, by decide, inX9, (gw_t4 (List.mem_of_getElem? (i := 106) rfl) rfl), rfl⟩
theorem fl_M_94 : gF "LineRulesModel" 94 9 45 := ⟨"LineRulesModel", TX9, 54, rfl, by decide, inX9, (gw_t4 (List.mem_of_getElem? (i := 107) rfl) rfl), rfl⟩
theorem fl_M_97 : gF "LineRulesModel" 97 9 46 := ⟨"LineRulesModel", TX9, 54, rfl, by decide, inX9, (gw_t4 (List.mem_of_getElem? (i := 108) rfl) rfl), rfl⟩
theorem fl_M_100 : gF "LineRulesModel" 100 9 50 := ⟨"LineRulesModel", TX9, 54, rfl, by decide, inX9, (gw_t4 (List.mem_of_getElem? (i := 112) rfl) rfl), rfl⟩
theorem fl_M_103 : gF "LineRulesModel" 103 9 51 := ⟨"LineRulesModel", TX9, 54, rfl, by decide, inX9, (gw_t4 (List.mem_of_getElem? (i := 113) rfl) rfl), rfl⟩
theorem fl_M_106 : gF "LineRulesModel" 106 9 52 := ⟨"LineRulesModel", TX9, 54, rfl, by decide, inX9, (gw_t4 (List.mem_of_getElem? (i := 114) rfl) rfl), rfl⟩
theorem fl_M_109 : gF "LineRulesModel" 109 9 53 := ⟨"LineRulesModel", TX9, 54, rfl, by decide, inX9, (gw_t4 (List.mem_of_getElem? (i := 115) rfl) rfl), rfl⟩
theorem fl_M_112 : gF "LineRulesModel" 112 9 0 := ⟨"LineRulesModel", TX9, 54, rfl, by decide, inX9, (gw_t4 (List.mem_of_getElem? (i := 62) rfl) rfl), rfl⟩
theorem fp_M_112 : gFp "LineRulesModel" 112 9 0 .int := ⟨"LineRulesModel", TX9, 54, tyX9, rfl, by decide, inX9, (gw_t4 (List.mem_of_getElem? (i := 62) rfl) rfl), rfl, tyX9_ok, nmX9, rfl, by decide +kernel⟩
theorem fl_M_122 : gF "LineRulesModel" 122 9 10 := ⟨"LineRulesModel", TX9, 54, rfl, by decide, inX9, (gw_t4 (List.mem_of_getElem? (i := 72) rfl) rfl), rfl⟩
theorem fp_M_122 : gFp "LineRulesModel" 122 9 10 .int := ⟨"LineRulesModel", TX9, 54, tyX9, rfl, by decide, inX9, (gw_t4 (List.mem_of_getElem? (i := 72) rfl) rfl), rfl, tyX9_ok, nmX9, rfl, by decide +kernel⟩
theorem fl_M_179 : gF "LineRulesModel" 179 9 2 := ⟨"LineRulesModel", TX9, 54, rfl, by decide, inX9, (gw_t4 (List.mem_of_getElem? (i := 64) rfl) rfl), rfl⟩
theorem fp_M_179 : gFp "LineRulesModel" 179 9 2 .int := ⟨"LineRulesModel", TX9, 54, tyX9, rfl, by decide, inX9, (gw_t4 (List.mem_of_getElem? (i := 64) rfl) rfl), rfl, tyX9_ok, nmX9, rfl, by decide +kernel⟩
theorem fl_M_144 : gF "LineRulesModel" 144 9 11 := ⟨"LineRulesModel", TX9, 54, rfl, by decide, inX9, (gw_t4 (List.mem_of_getElem? (i := 73) rfl) rfl), rfl⟩
theorem fp_M_144 : gFp "LineRulesModel" 144 9 11 .int := ⟨"LineRulesModel", TX9, 54, tyX9, rfl, by decide, inX9, (gw_t4 (List.mem_of_getElem? (i := 73) rfl) rfl), rfl, tyX9_ok, nmX9, rfl, by decide +kernel⟩
theorem fl_M_182 : gF "LineRulesModel" 182 9 3 := ⟨"LineRulesModel", TX9, 54, rfl, by decide, inX9, (gw_t4 (List.mem_of_getElem? (i := 65) rfl) rfl), rfl⟩
theorem fp_M_182 : gFp "LineRulesModel" 182 9 3 .int := ⟨"LineRulesModel", TX9, 54, tyX9, rfl, by decide, inX9, (gw_t4 (List.mem_of_getElem? (i := 65) rfl) rfl), rfl, tyX9_ok, nmX9, rfl, by decide +kernel⟩
theorem fl_M_185 : gF "LineRulesModel" 185 9 5 := ⟨"LineRulesModel", TX9, 54, rfl, by decide, inX9, (gw_t4 (List.mem_of_getElem? (i := 67) rfl) rfl), rfl⟩
theorem fp_M_185 : gFp "LineRulesModel" 185 9 5 .int := ⟨"LineRulesModel", TX9, 54, tyX9, rfl, by decide, inX9, (gw_t4 (List.mem_of_getElem? (i := 67) rfl) rfl), rfl, tyX9_ok, nmX9, rfl, by decide +kernel⟩
theorem fl_M_188 : gF "LineRulesModel" 188 9 4 := ⟨"LineRulesModel", TX9, 54, rfl, by decide, inX9, (gw_t4 (List.mem_of_getElem? (i := 66) rfl) rfl), rfl⟩
theorem fp_M_188 : gFp "LineRulesModel" 188 9 4 .int := ⟨"LineRulesModel", TX9, 54, tyX9, rfl, by decide, inX9, (gw_t4 (List.mem_of_getElem? (i := 66) rfl) rfl), rfl, tyX9_ok, nmX9, rfl, by decide +kernel⟩
theorem fl_M_194 : gF "LineRulesModel" 194 9 28 := ⟨"LineRulesModel", TX9, 54, rfl, by decide, inX9, (gw_t4 (List.mem_of_getElem? (i := 90) rfl) rfl), rfl⟩
theorem fp_M_194 : gFp "LineRulesModel" 194 9 28 .int := ⟨"LineRulesModel", TX9, 54, tyX9, rfl, by decide, inX9, (gw_t4 (List.mem_of_getElem? (i := 90) rfl) rfl), rfl, tyX9_ok, nmX9, rfl, by decide +kernel⟩
theorem fl_M_197 : gF "LineRulesModel" 197 9 29 := ⟨"LineRulesModel", TX9, 54, rfl, by decide, inX9, (gw_t4 (List.mem_of_getElem? (i := 91) rfl) rfl), rfl⟩
theorem fp_M_197 : gFp "LineRulesModel" 197 9 29 .int := ⟨"LineRulesModel", TX9, 54, tyX9, rfl, by decide, inX9, (gw_t4 (List.mem_of_getElem? (i := 91) rfl) rfl), rfl, tyX9_ok, nmX9, rfl, by decide +kernel⟩
theorem fl_M_200 : gF "LineRulesModel" 200 9 31 := ⟨"LineRulesModel", TX9, 54, rfl, by decide, inX9, (gw_t4 (List.mem_of_getElem? (i := 93) rfl) rfl), rfl⟩
theorem fp_M_200 : gFp "LineRulesModel" 200 9 31 .boolean := ⟨"LineRulesModel", TX9, 54, tyX9, rfl, by decide, inX9, (gw_t4 (List.mem_of_getElem? (i := 93) rfl) rfl), rfl, tyX9_ok, nmX9, rfl, by decide +kernel⟩
theorem fl_M_204 : gF "LineRulesModel" 204 9 35 := ⟨"LineRulesModel", TX9, 54, rfl, by decide, inX9, (gw_t4 (List.mem_of_getElem? (i := 97) rfl) rfl), rfl⟩
theorem fp_M_204 : gFp "LineRulesModel" 204 9 35 .boolean := ⟨"LineRulesModel", TX9, 54, tyX9, rfl, by decide, inX9, (gw_t4 (List.mem_of_getElem? (i := 97) rfl) rfl), rfl, tyX9_ok, nmX9, rfl, by decide +kernel⟩
theorem fl_M_207 : gF "LineRulesModel" 207 9 41 := ⟨"LineRulesModel", TX9, 54, rfl, by decide, inX9, (gw_t4 (List.mem_of_getElem? (i := 103) rfl) rfl), rfl⟩
theorem fp_M_207 : gFp "LineRulesModel" 207 9 41 .boolean := ⟨"LineRulesModel", TX9, 54, tyX9, rfl, by decide, inX9, (gw_t4 (List.mem_of_getElem? (i := 103) rfl) rfl), rfl, tyX9_ok, nmX9, rfl, by decide +kernel⟩
theorem fl_M_210 : gF "LineRulesModel" 210 9 47 := ⟨"LineRulesModel", TX9, 54, rfl, by decide, inX9, (gw_t4 (List.mem_of_getElem? (i := 109) rfl) rfl), rfl⟩
theorem fp_M_210 : gFp "LineRulesModel" 210 9 47 .boolean := ⟨"LineRulesModel", TX9, 54, tyX9, rfl, by decide, inX9, (gw_t4 (List.mem_of_getElem? (i := 109) rfl) rfl), rfl, tyX9_ok, nmX9, rfl, by decide +kernel⟩
theorem fl_M_158 : gF "LineRulesModel" 158 9 12 := ⟨"LineRulesModel", TX9, 54, rfl, by decide, inX9, (gw_t4 (List.mem_of_getElem? (i := 74) rfl) rfl), rfl⟩
theorem fp_M_158 : gFp "LineRulesModel" 158 9 12 .int := ⟨"LineRulesModel", TX9, 54, tyX9, rfl, by decide, inX9, (gw_t4 (List.mem_of_getElem? (i := 74) rfl) rfl), rfl, tyX9_ok, nmX9, rfl, by decide +kernel⟩
theorem fl_M_115 : gF "LineRulesModel" 115 9 13 := ⟨"LineRulesModel", TX9, 54, rfl, by decide, inX9, (gw_t4 (List.mem_of_getElem? (i := 75) rfl) rfl), rfl⟩
theorem fp_M_115 : gFp "LineRulesModel" 115 9 13 .int := ⟨"LineRulesModel", TX9, 54, tyX9, rfl, by decide, inX9, (gw_t4 (List.mem_of_getElem? (i := 75) rfl) rfl), rfl, tyX9_ok, nmX9, rfl, by decide +kernel⟩
theorem fl_M_236 : gF "LineRulesModel" 236 9 32 := ⟨"LineRulesModel", TX9, 54, rfl, by decide, inX9, (gw_t4 (List.mem_of_getElem? (i := 94) rfl) rfl), rfl⟩
theorem fp_M_236 : gFp "LineRulesModel" 236 9 32 .int := ⟨"LineRulesModel", TX9, 54, tyX9, rfl, by decide, inX9, (gw_t4 (List.mem_of_getElem? (i := 94) rfl) rfl), rfl, tyX9_ok, nmX9, rfl, by decide +kernel⟩
theorem fl_M_239 : gF "LineRulesModel" 239 9 33 := ⟨"LineRulesModel", TX9, 54, rfl, by decide, inX9, (gw_t4 (List.mem_of_getElem? (i := 95) rfl) rfl), rfl⟩
theorem fp_M_239 : gFp "LineRulesModel" 239 9 33 .int := ⟨"LineRulesModel", TX9, 54, tyX9, rfl, by decide, inX9, (gw_t4 (List.mem_of_getElem? (i := 95) rfl) rfl), rfl, tyX9_ok, nmX9, rfl, by decide +kernel⟩
theorem fl_M_255 : gF "LineRulesModel" 255 9 36 := ⟨"LineRulesModel", TX9, 54, rfl, by decide, inX9, (gw_t4 (List.mem_of_getElem? (i := 98) rfl) rfl), rfl⟩
theorem fp_M_255 : gFp "LineRulesModel" 255 9 36 .int := ⟨"LineRulesModel", TX9, 54, tyX9, rfl, by decide, inX9, (gw_t4 (List.mem_of_getElem? (i := 98) rfl) rfl), rfl, tyX9_ok, nmX9, rfl, by decide +kernel⟩
theorem fl_M_270 : gF "LineRulesModel" 270 9 42 := ⟨"LineRulesModel", TX9, 54, rfl, by decide, inX9, (gw_t4 (List.mem_of_getElem? (i := 104) rfl) rfl), rfl⟩
theorem fp_M_270 : gFp "LineRulesModel" 270 9 42 .int := ⟨"LineRulesModel", TX9, 54, tyX9, rfl, by decide, inX9, (gw_t4 (List.mem_of_getElem? (i := 104) rfl) rfl), rfl, tyX9_ok, nmX9, rfl, by decide +kernel⟩
theorem fl_M_291 : gF "LineRulesModel" 291 9 48 := ⟨"LineRulesModel", TX9, 54, rfl, by decide, inX9, (gw_t4 (List.mem_of_getElem? (i := 110) rfl) rfl), rfl⟩
theorem fp_M_291 : gFp "LineRulesModel" 291 9 48 .boolean := ⟨"LineRulesModel", TX9, 54, tyX9, rfl, by decide, inX9, (gw_t4 (List.mem_of_getElem? (i := 110) rfl) rfl), rfl, tyX9_ok, nmX9, rfl, by decide +kernel⟩
theorem fl_M_294 : gF "LineRulesModel" 294 9 49 := ⟨"LineRulesModel", TX9, 54, rfl, by decide, inX9, (gw_t4 (List.mem_of_getElem? (i := 111) rfl) rfl), rfl⟩
theorem fp_M_294 : gFp "LineRulesModel" 294 9 49 .long := ⟨"LineRulesModel", TX9, 54, tyX9, rfl, by decide, inX9, (gw_t4 (List.mem_of_getElem? (i := 111) rfl) rfl), rfl, tyX9_ok, nmX9, rfl, by decide +kernel⟩
def lyC : gs_L := fun k => match k with
  | 0 => .inr (0, [4, 7, 13, 17, 20, 22, 34, 40])
  | 1 => .inr (1, [5, 6, 0, 0, 0, 0, 0, 0, 0])
  | 2 => .inl (3, 64, 0)
  | 3 => .inl (0, 4, 0)
  | 4 => .inr (2, [8, 9, 10, 11, 12, 0, 0, 0, 0, 0])
  | 5 => .inl (0, 256, 0)
  | 6 => .inl (1, 256, 0)
  | 7 => .inl (0, 256, 0)
  | 8 => .inl (0, 256, 0)
  | 9 => .inl (0, 5, 0)
  | 10 => .inr (3, [14, 0, 7, 15, 16])
  | 11 => .inl (0, 64, 0)
  | 12 => .inl (0, 64, 0)
  | 13 => .inl (0, 64, 0)
  | 14 => .inr (4, [7, 18, 19, 0, 0, 0, 0])
  | 15 => .inl (1, 64, 0)
  | 16 => .inl (1, 64, 0)
  | 17 => .inr (5, [7, 17, 21, 0, 0, 0])
  | 18 => .inl (0, 1024, 0)
  | 19 => .inr (6, [7, 23, 28, 33, 0, 0])
  | 20 => .inl (4, 4, 21)
  | 21 => .inl (1, 4, 0)
  | 22 => .inl (1, 4, 0)
  | 23 => .inl (1, 4, 0)
  | 24 => .inl (1, 4, 0)
  | 25 => .inl (4, 4, 26)
  | 26 => .inl (1, 4, 0)
  | 27 => .inl (1, 4, 0)
  | 28 => .inl (1, 4, 0)
  | 29 => .inl (1, 4, 0)
  | 30 => .inl (1, 4, 0)
  | 31 => .inr (7, [7, 17, 35, 36, 37, 38, 39, 0, 0, 0])
  | 32 => .inl (1, 500, 0)
  | 33 => .inl (0, 500, 0)
  | 34 => .inl (0, 500, 0)
  | 35 => .inl (1, 4, 0)
  | 36 => .inl (0, 500, 0)
  | 37 => .inr (8, [7, 13, 41, 42, 2, 2, 0, 0, 0, 1])
  | 38 => .inl (1, 65, 0)
  | 39 => .inl (0, 64, 0)
  | 40 => .inl (1, 64, 0)
  | _ => .inl (1, 64, 0)
def lyM : gs_L := fun k => match k with
  | 0 => .inr (9, [0, 4, 0, 0, 0, 0, 5, 0, 6, 7, 0, 0, 0, 0, 8, 9, 10, 11, 12, 13, 14, 15, 16, 17, 18, 19, 20, 21, 0, 0, 22, 0, 0, 0, 23, 0, 0, 24, 25, 26, 27, 0, 0, 28, 29, 30, 31, 0, 0, 1, 32, 33, 34, 35])
  | 1 => .inl (0, 64, 0)
  | 2 => .inl (0, 256, 0)
  | 3 => .inl (0, 64, 0)
  | 4 => .inl (0, 64, 0)
  | 5 => .inl (0, 6, 0)
  | 6 => .inl (0, 6, 0)
  | 7 => .inl (0, 6, 0)
  | 8 => .inl (0, 6, 0)
  | 9 => .inl (0, 6, 0)
  | 10 => .inl (2, 6, 0)
  | 11 => .inl (0, 6, 0)
  | 12 => .inl (0, 6, 0)
  | 13 => .inl (0, 6, 0)
  | 14 => .inl (0, 6, 0)
  | 15 => .inl (0, 6, 0)
  | 16 => .inl (2, 6, 0)
  | 17 => .inl (0, 6, 0)
  | 18 => .inl (2, 6, 0)
  | 19 => .inl (2, 4096, 0)
  | 20 => .inl (0, 1024, 0)
  | 21 => .inl (0, 16, 0)
  | 22 => .inl (2, 4, 0)
  | 23 => .inl (1, 16, 0)
  | 24 => .inl (1, 4, 0)
  | 25 => .inl (0, 512, 0)
  | 26 => .inl (1, 500, 0)
  | 27 => .inl (0, 500, 0)
  | 28 => .inl (0, 500, 0)
  | 29 => .inl (0, 68, 0)
  | 30 => .inl (1, 64, 0)
  | 31 => .inl (1, 64, 0)
  | _ => .inl (1, 65, 0)
theorem ly_ties {i : Int32} (h : vp_in i 4) : 21 + i.toNatClampNeg < 42 ∧ lyC (21 + i.toNatClampNeg) = .inl (1, 4, 0) := by
  obtain ⟨j, hj, rfl⟩ := vp_in_of h (by decide)
  rw [nI_clamp (by omega)]
  rcases (show j = 0 ∨ j = 1 ∨ j = 2 ∨ j = 3 by omega) with h | h | h | h <;> subst h <;> exact ⟨by decide, rfl⟩
theorem ly_basis {i : Int32} (h : vp_in i 4) : 26 + i.toNatClampNeg < 42 ∧ lyC (26 + i.toNatClampNeg) = .inl (1, 4, 0) := by
  obtain ⟨j, hj, rfl⟩ := vp_in_of h (by decide)
  rw [nI_clamp (by omega)]
  rcases (show j = 0 ∨ j = 1 ∨ j = 2 ∨ j = 3 by omega) with h | h | h | h <;> subst h <;> exact ⟨by decide, rfl⟩
