theorem gw_jj : Cond.classLink "LineRules$Weights" 9 "[[J" ∈ gw := (gw_t1 (List.mem_of_getElem? (i := 211) rfl) rfl)
theorem gw_ac_int : Cond.arrayClass .int ∈ gw := (gw_t1 (List.mem_of_getElem? (i := 57) rfl) rfl)
theorem gw_ac_long : Cond.arrayClass .long ∈ gw := (gw_t1 (List.mem_of_getElem? (i := 125) rfl) rfl)
theorem gw_ac_boolean : Cond.arrayClass .boolean ∈ gw := (gw_t4 (List.mem_of_getElem? (i := 225) rfl) rfl)
theorem gw_ac_char : Cond.arrayClass .char ∈ gw := (gw_t1 (List.mem_of_getElem? (i := 56) rfl) rfl)
theorem lo_T : Cond.methodLink "LineRules$Text" 3 objectInit ∈ gw := (gw_t1 (List.mem_of_getElem? (i := 27) rfl) rfl)
theorem fi_T_9 : gFi "LineRules$Text" 9 1 0 (.array .char) := ⟨"LineRules$Text", TX1, 9, tyX1, rfl, by decide, inX1, (gw_t1 (List.mem_of_getElem? (i := 28) rfl) rfl), rfl, tyX1_ok, nmX1, rfl, by decide +kernel⟩
theorem fi_T_15 : gFi "LineRules$Text" 15 1 1 (.array .int) := ⟨"LineRules$Text", TX1, 9, tyX1, rfl, by decide, inX1, (gw_t1 (List.mem_of_getElem? (i := 29) rfl) rfl), rfl, tyX1_ok, nmX1, rfl, by decide +kernel⟩
theorem fi_T_19 : gFi "LineRules$Text" 19 1 2 .int := ⟨"LineRules$Text", TX1, 9, tyX1, rfl, by decide, inX1, (gw_t1 (List.mem_of_getElem? (i := 30) rfl) rfl), rfl, tyX1_ok, nmX1, rfl, by decide +kernel⟩
theorem fi_T_23 : gFi "LineRules$Text" 23 1 3 .int := ⟨"LineRules$Text", TX1, 9, tyX1, rfl, by decide, inX1, (gw_t1 (List.mem_of_getElem? (i := 31) rfl) rfl), rfl, tyX1_ok, nmX1, rfl, by decide +kernel⟩
theorem fi_T_26 : gFi "LineRules$Text" 26 1 4 .int := ⟨"LineRules$Text", TX1, 9, tyX1, rfl, by decide, inX1, (gw_t1 (List.mem_of_getElem? (i := 32) rfl) rfl), rfl, tyX1_ok, nmX1, rfl, by decide +kernel⟩
theorem fi_T_29 : gFi "LineRules$Text" 29 1 5 .char := ⟨"LineRules$Text", TX1, 9, tyX1, rfl, by decide, inX1, (gw_t1 (List.mem_of_getElem? (i := 33) rfl) rfl), rfl, tyX1_ok, nmX1, rfl, by decide +kernel⟩
theorem fi_T_33 : gFi "LineRules$Text" 33 1 6 .int := ⟨"LineRules$Text", TX1, 9, tyX1, rfl, by decide, inX1, (gw_t1 (List.mem_of_getElem? (i := 34) rfl) rfl), rfl, tyX1_ok, nmX1, rfl, by decide +kernel⟩
theorem fi_T_36 : gFi "LineRules$Text" 36 1 7 .int := ⟨"LineRules$Text", TX1, 9, tyX1, rfl, by decide, inX1, (gw_t1 (List.mem_of_getElem? (i := 35) rfl) rfl), rfl, tyX1_ok, nmX1, rfl, by decide +kernel⟩
theorem fi_T_39 : gFi "LineRules$Text" 39 1 8 .boolean := ⟨"LineRules$Text", TX1, 9, tyX1, rfl, by decide, inX1, (gw_t1 (List.mem_of_getElem? (i := 36) rfl) rfl), rfl, tyX1_ok, nmX1, rfl, by decide +kernel⟩
def cw_T (v : gs_V) (h0 : Nat) (u : Nat → Nat) : va_W := [(h0, .inr (1, [.ref (u 1), .ref (u 2), .int 0, .int 2, .int 1, .int 84, .int 0, .int 0, .int 0])), (u 1, .inl (v.2.1 3, 64, .inl (fun _ => 0))), (u 2, .inl (v.2.1 0, 4, .inl (fun _ => 0)))]
abbrev rm_T : Room := { frames := 1, cells := 2, slots := 68, locals := 12 }
theorem d_T_init_0 : decode me_T_init.2.1 0 = .ok (.aload_n 0, 1) := by decide +kernel
theorem d_T_init_1 : decode me_T_init.2.1 1 = .ok (.invokespecial 3, 3) := by decide +kernel
theorem d_T_init_4 : decode me_T_init.2.1 4 = .ok (.aload_n 0, 1) := by decide +kernel
theorem d_T_init_5 : decode me_T_init.2.1 5 = .ok (.bipush 64, 2) := by decide +kernel
theorem d_T_init_7 : decode me_T_init.2.1 7 = .ok (.newarray .char, 2) := by decide +kernel
theorem d_T_init_9 : decode me_T_init.2.1 9 = .ok (.putfield 9, 3) := by decide +kernel
theorem d_T_init_12 : decode me_T_init.2.1 12 = .ok (.aload_n 0, 1) := by decide +kernel
theorem d_T_init_13 : decode me_T_init.2.1 13 = .ok (.iconst 4, 1) := by decide +kernel
theorem d_T_init_14 : decode me_T_init.2.1 14 = .ok (.newarray .int, 2) := by decide +kernel
theorem d_T_init_16 : decode me_T_init.2.1 16 = .ok (.putfield 15, 3) := by decide +kernel
theorem d_T_init_19 : decode me_T_init.2.1 19 = .ok (.aload_n 0, 1) := by decide +kernel
theorem d_T_init_20 : decode me_T_init.2.1 20 = .ok (.iconst 0, 1) := by decide +kernel
theorem d_T_init_21 : decode me_T_init.2.1 21 = .ok (.putfield 19, 3) := by decide +kernel
theorem d_T_init_24 : decode me_T_init.2.1 24 = .ok (.aload_n 0, 1) := by decide +kernel
theorem d_T_init_25 : decode me_T_init.2.1 25 = .ok (.iconst 2, 1) := by decide +kernel
theorem d_T_init_26 : decode me_T_init.2.1 26 = .ok (.putfield 23, 3) := by decide +kernel
theorem d_T_init_29 : decode me_T_init.2.1 29 = .ok (.aload_n 0, 1) := by decide +kernel
theorem d_T_init_30 : decode me_T_init.2.1 30 = .ok (.iconst 1, 1) := by decide +kernel
theorem d_T_init_31 : decode me_T_init.2.1 31 = .ok (.putfield 26, 3) := by decide +kernel
theorem d_T_init_34 : decode me_T_init.2.1 34 = .ok (.aload_n 0, 1) := by decide +kernel
theorem d_T_init_35 : decode me_T_init.2.1 35 = .ok (.bipush 84, 2) := by decide +kernel
theorem d_T_init_37 : decode me_T_init.2.1 37 = .ok (.putfield 29, 3) := by decide +kernel
theorem d_T_init_40 : decode me_T_init.2.1 40 = .ok (.aload_n 0, 1) := by decide +kernel
theorem d_T_init_41 : decode me_T_init.2.1 41 = .ok (.iconst 0, 1) := by decide +kernel
theorem d_T_init_42 : decode me_T_init.2.1 42 = .ok (.putfield 33, 3) := by decide +kernel
theorem d_T_init_45 : decode me_T_init.2.1 45 = .ok (.aload_n 0, 1) := by decide +kernel
theorem d_T_init_46 : decode me_T_init.2.1 46 = .ok (.iconst 0, 1) := by decide +kernel
theorem d_T_init_47 : decode me_T_init.2.1 47 = .ok (.putfield 36, 3) := by decide +kernel
theorem d_T_init_50 : decode me_T_init.2.1 50 = .ok (.aload_n 0, 1) := by decide +kernel
theorem d_T_init_51 : decode me_T_init.2.1 51 = .ok (.iconst 0, 1) := by decide +kernel
theorem d_T_init_52 : decode me_T_init.2.1 52 = .ok (.putfield 39, 3) := by decide +kernel
theorem d_T_init_55 : decode me_T_init.2.1 55 = .ok (.return_, 1) := by decide +kernel
set_option maxRecDepth 100000 in
set_option maxHeartbeats 4000000 in
theorem N_T {l : Launch} {v : gs_V} {h0 : Nat} : gMn l v me_T_init rm_T 2 68 [.ref h0] [(h0, .inr (1, [.null, .null, .int 0, .int 0, .int 0, .int 0, .int 0, .int 0, .int 0]))] (cw_T v h0) := by
  refine gMn_of (by decide +kernel) rfl rfl (Nat.le_of_ble_eq_true rfl) ?_
  refine n_aload d_T_init_0 0 rfl rfl ?_
  refine n_obj d_T_init_1 lo_T (by decide) (by decide) ?_
  refine n_aload d_T_init_4 0 rfl rfl ?_
  refine n_bipush d_T_init_5 (x := 64) (by decide) ?_
  refine n_newa (t := 3) (N' := 64) (a0 := (64, .inl (fun _ => 0))) d_T_init_7 gw_ac_char rfl (fun _ _ h => h) (fun _ => rfl) (by decide) (by decide) (by decide) (by decide) (by decide) (fun q7 => ?_)
  refine n_put (q0 := 0) (ws' := [(h0, .inr (1, [.ref q7, .null, .int 0, .int 0, .int 0, .int 0, .int 0, .int 0, .int 0])), (q7, .inl (v.2.1 3, 64, .inl (fun _ => 0)))]) d_T_init_9 fi_T_9 rfl rfl rfl (Nat.le_of_ble_eq_true rfl) rfl ?_
  refine n_aload d_T_init_12 0 rfl rfl ?_
  refine n_iconst d_T_init_13 (x := 4) (by decide) ?_
  refine n_newa (t := 0) (N' := 4) (a0 := (4, .inl (fun _ => 0))) d_T_init_14 gw_ac_int rfl (fun _ _ h => h) (fun _ => rfl) (by decide) (by decide) (by decide) (by decide) (by decide) (fun q14 => ?_)
  refine n_put (q0 := 0) (ws' := [(h0, .inr (1, [.ref q7, .ref q14, .int 0, .int 0, .int 0, .int 0, .int 0, .int 0, .int 0])), (q7, .inl (v.2.1 3, 64, .inl (fun _ => 0))), (q14, .inl (v.2.1 0, 4, .inl (fun _ => 0)))]) d_T_init_16 fi_T_15 rfl rfl rfl (Nat.le_of_ble_eq_true rfl) rfl ?_
  refine n_aload d_T_init_19 0 rfl rfl ?_
  refine n_iconst d_T_init_20 (x := 0) (by decide) ?_
  refine n_put (q0 := 0) (ws' := [(h0, .inr (1, [.ref q7, .ref q14, .int 0, .int 0, .int 0, .int 0, .int 0, .int 0, .int 0])), (q7, .inl (v.2.1 3, 64, .inl (fun _ => 0))), (q14, .inl (v.2.1 0, 4, .inl (fun _ => 0)))]) d_T_init_21 fi_T_19 rfl rfl rfl (Nat.le_of_ble_eq_true rfl) rfl ?_
  refine n_aload d_T_init_24 0 rfl rfl ?_
  refine n_iconst d_T_init_25 (x := 2) (by decide) ?_
  refine n_put (q0 := 0) (ws' := [(h0, .inr (1, [.ref q7, .ref q14, .int 0, .int 2, .int 0, .int 0, .int 0, .int 0, .int 0])), (q7, .inl (v.2.1 3, 64, .inl (fun _ => 0))), (q14, .inl (v.2.1 0, 4, .inl (fun _ => 0)))]) d_T_init_26 fi_T_23 rfl rfl rfl (Nat.le_of_ble_eq_true rfl) rfl ?_
  refine n_aload d_T_init_29 0 rfl rfl ?_
  refine n_iconst d_T_init_30 (x := 1) (by decide) ?_
  refine n_put (q0 := 0) (ws' := [(h0, .inr (1, [.ref q7, .ref q14, .int 0, .int 2, .int 1, .int 0, .int 0, .int 0, .int 0])), (q7, .inl (v.2.1 3, 64, .inl (fun _ => 0))), (q14, .inl (v.2.1 0, 4, .inl (fun _ => 0)))]) d_T_init_31 fi_T_26 rfl rfl rfl (Nat.le_of_ble_eq_true rfl) rfl ?_
  refine n_aload d_T_init_34 0 rfl rfl ?_
  refine n_bipush d_T_init_35 (x := 84) (by decide) ?_
  refine n_put (q0 := 0) (ws' := [(h0, .inr (1, [.ref q7, .ref q14, .int 0, .int 2, .int 1, .int 84, .int 0, .int 0, .int 0])), (q7, .inl (v.2.1 3, 64, .inl (fun _ => 0))), (q14, .inl (v.2.1 0, 4, .inl (fun _ => 0)))]) d_T_init_37 fi_T_29 rfl rfl rfl (Nat.le_of_ble_eq_true rfl) rfl ?_
  refine n_aload d_T_init_40 0 rfl rfl ?_
  refine n_iconst d_T_init_41 (x := 0) (by decide) ?_
  refine n_put (q0 := 0) (ws' := [(h0, .inr (1, [.ref q7, .ref q14, .int 0, .int 2, .int 1, .int 84, .int 0, .int 0, .int 0])), (q7, .inl (v.2.1 3, 64, .inl (fun _ => 0))), (q14, .inl (v.2.1 0, 4, .inl (fun _ => 0)))]) d_T_init_42 fi_T_33 rfl rfl rfl (Nat.le_of_ble_eq_true rfl) rfl ?_
  refine n_aload d_T_init_45 0 rfl rfl ?_
  refine n_iconst d_T_init_46 (x := 0) (by decide) ?_
  refine n_put (q0 := 0) (ws' := [(h0, .inr (1, [.ref q7, .ref q14, .int 0, .int 2, .int 1, .int 84, .int 0, .int 0, .int 0])), (q7, .inl (v.2.1 3, 64, .inl (fun _ => 0))), (q14, .inl (v.2.1 0, 4, .inl (fun _ => 0)))]) d_T_init_47 fi_T_36 rfl rfl rfl (Nat.le_of_ble_eq_true rfl) rfl ?_
  refine n_aload d_T_init_50 0 rfl rfl ?_
  refine n_iconst d_T_init_51 (x := 0) (by decide) ?_
  refine n_put (q0 := 0) (ws' := [(h0, .inr (1, [.ref q7, .ref q14, .int 0, .int 2, .int 1, .int 84, .int 0, .int 0, .int 0])), (q7, .inl (v.2.1 3, 64, .inl (fun _ => 0))), (q14, .inl (v.2.1 0, 4, .inl (fun _ => 0)))]) d_T_init_52 fi_T_39 rfl rfl rfl (Nat.le_of_ble_eq_true rfl) rfl ?_
  exact n_ret (fun k => match k with | 1 => q7 | 2 => q14 | _ => 0) d_T_init_55 rfl
theorem lo_R : Cond.methodLink "LineRules$Rule" 3 objectInit ∈ gw := (gw_t1 (List.mem_of_getElem? (i := 63) rfl) rfl)
theorem fi_R_9 : gFi "LineRules$Rule" 9 2 0 (.array .int) := ⟨"LineRules$Rule", TX2, 10, tyX2, rfl, by decide, inX2, (gw_t1 (List.mem_of_getElem? (i := 64) rfl) rfl), rfl, tyX2_ok, nmX2, rfl, by decide +kernel⟩
theorem fi_R_15 : gFi "LineRules$Rule" 15 2 1 (.array .long) := ⟨"LineRules$Rule", TX2, 10, tyX2, rfl, by decide, inX2, (gw_t1 (List.mem_of_getElem? (i := 72) rfl) rfl), rfl, tyX2_ok, nmX2, rfl, by decide +kernel⟩
theorem fi_R_19 : gFi "LineRules$Rule" 19 2 2 (.array .int) := ⟨"LineRules$Rule", TX2, 10, tyX2, rfl, by decide, inX2, (gw_t1 (List.mem_of_getElem? (i := 73) rfl) rfl), rfl, tyX2_ok, nmX2, rfl, by decide +kernel⟩
theorem fi_R_22 : gFi "LineRules$Rule" 22 2 3 (.array .int) := ⟨"LineRules$Rule", TX2, 10, tyX2, rfl, by decide, inX2, (gw_t1 (List.mem_of_getElem? (i := 75) rfl) rfl), rfl, tyX2_ok, nmX2, rfl, by decide +kernel⟩
theorem fi_R_25 : gFi "LineRules$Rule" 25 2 4 (.array .int) := ⟨"LineRules$Rule", TX2, 10, tyX2, rfl, by decide, inX2, (gw_t1 (List.mem_of_getElem? (i := 77) rfl) rfl), rfl, tyX2_ok, nmX2, rfl, by decide +kernel⟩
theorem fi_R_28 : gFi "LineRules$Rule" 28 2 5 .boolean := ⟨"LineRules$Rule", TX2, 10, tyX2, rfl, by decide, inX2, (gw_t1 (List.mem_of_getElem? (i := 79) rfl) rfl), rfl, tyX2_ok, nmX2, rfl, by decide +kernel⟩
theorem fi_R_32 : gFi "LineRules$Rule" 32 2 6 .int := ⟨"LineRules$Rule", TX2, 10, tyX2, rfl, by decide, inX2, (gw_t1 (List.mem_of_getElem? (i := 81) rfl) rfl), rfl, tyX2_ok, nmX2, rfl, by decide +kernel⟩
theorem fi_R_36 : gFi "LineRules$Rule" 36 2 7 .int := ⟨"LineRules$Rule", TX2, 10, tyX2, rfl, by decide, inX2, (gw_t1 (List.mem_of_getElem? (i := 89) rfl) rfl), rfl, tyX2_ok, nmX2, rfl, by decide +kernel⟩
theorem fi_R_39 : gFi "LineRules$Rule" 39 2 8 .int := ⟨"LineRules$Rule", TX2, 10, tyX2, rfl, by decide, inX2, (gw_t1 (List.mem_of_getElem? (i := 94) rfl) rfl), rfl, tyX2_ok, nmX2, rfl, by decide +kernel⟩
theorem fi_R_42 : gFi "LineRules$Rule" 42 2 9 .int := ⟨"LineRules$Rule", TX2, 10, tyX2, rfl, by decide, inX2, (gw_t1 (List.mem_of_getElem? (i := 99) rfl) rfl), rfl, tyX2_ok, nmX2, rfl, by decide +kernel⟩
def cw_R (v : gs_V) (h0 : Nat) (u : Nat → Nat) : va_W := [(h0, .inr (2, [.ref (u 1), .ref (u 2), .ref (u 3), .ref (u 4), .ref (u 5), .int 0, .int 2, .int 1, .int 2, .int 1])), (u 1, .inl (v.2.1 0, 256, .inl (fun _ => 0))), (u 2, .inl (v.2.1 1, 256, .inr (.inl (fun _ => 0)))), (u 3, .inl (v.2.1 0, 256, .inl (fun _ => 0))), (u 4, .inl (v.2.1 0, 256, .inl (fun _ => 0))), (u 5, .inl (v.2.1 0, 5, .inl (fun _ => 0)))]
abbrev rm_R : Room := { frames := 1, cells := 5, slots := 1029, locals := 12 }
theorem d_R_init_0 : decode me_R_init.2.1 0 = .ok (.aload_n 0, 1) := by decide +kernel
theorem d_R_init_1 : decode me_R_init.2.1 1 = .ok (.invokespecial 3, 3) := by decide +kernel
theorem d_R_init_4 : decode me_R_init.2.1 4 = .ok (.aload_n 0, 1) := by decide +kernel
theorem d_R_init_5 : decode me_R_init.2.1 5 = .ok (.sipush 256, 3) := by decide +kernel
theorem d_R_init_8 : decode me_R_init.2.1 8 = .ok (.newarray .int, 2) := by decide +kernel
theorem d_R_init_10 : decode me_R_init.2.1 10 = .ok (.putfield 9, 3) := by decide +kernel
theorem d_R_init_13 : decode me_R_init.2.1 13 = .ok (.aload_n 0, 1) := by decide +kernel
theorem d_R_init_14 : decode me_R_init.2.1 14 = .ok (.sipush 256, 3) := by decide +kernel
theorem d_R_init_17 : decode me_R_init.2.1 17 = .ok (.newarray .long, 2) := by decide +kernel
theorem d_R_init_19 : decode me_R_init.2.1 19 = .ok (.putfield 15, 3) := by decide +kernel
theorem d_R_init_22 : decode me_R_init.2.1 22 = .ok (.aload_n 0, 1) := by decide +kernel
theorem d_R_init_23 : decode me_R_init.2.1 23 = .ok (.sipush 256, 3) := by decide +kernel
theorem d_R_init_26 : decode me_R_init.2.1 26 = .ok (.newarray .int, 2) := by decide +kernel
theorem d_R_init_28 : decode me_R_init.2.1 28 = .ok (.putfield 19, 3) := by decide +kernel
theorem d_R_init_31 : decode me_R_init.2.1 31 = .ok (.aload_n 0, 1) := by decide +kernel
theorem d_R_init_32 : decode me_R_init.2.1 32 = .ok (.sipush 256, 3) := by decide +kernel
theorem d_R_init_35 : decode me_R_init.2.1 35 = .ok (.newarray .int, 2) := by decide +kernel
theorem d_R_init_37 : decode me_R_init.2.1 37 = .ok (.putfield 22, 3) := by decide +kernel
theorem d_R_init_40 : decode me_R_init.2.1 40 = .ok (.aload_n 0, 1) := by decide +kernel
theorem d_R_init_41 : decode me_R_init.2.1 41 = .ok (.iconst 5, 1) := by decide +kernel
theorem d_R_init_42 : decode me_R_init.2.1 42 = .ok (.newarray .int, 2) := by decide +kernel
theorem d_R_init_44 : decode me_R_init.2.1 44 = .ok (.putfield 25, 3) := by decide +kernel
theorem d_R_init_47 : decode me_R_init.2.1 47 = .ok (.aload_n 0, 1) := by decide +kernel
theorem d_R_init_48 : decode me_R_init.2.1 48 = .ok (.iconst 0, 1) := by decide +kernel
theorem d_R_init_49 : decode me_R_init.2.1 49 = .ok (.putfield 28, 3) := by decide +kernel
theorem d_R_init_52 : decode me_R_init.2.1 52 = .ok (.aload_n 0, 1) := by decide +kernel
theorem d_R_init_53 : decode me_R_init.2.1 53 = .ok (.iconst 2, 1) := by decide +kernel
theorem d_R_init_54 : decode me_R_init.2.1 54 = .ok (.putfield 32, 3) := by decide +kernel
theorem d_R_init_57 : decode me_R_init.2.1 57 = .ok (.aload_n 0, 1) := by decide +kernel
theorem d_R_init_58 : decode me_R_init.2.1 58 = .ok (.iconst 1, 1) := by decide +kernel
theorem d_R_init_59 : decode me_R_init.2.1 59 = .ok (.putfield 36, 3) := by decide +kernel
theorem d_R_init_62 : decode me_R_init.2.1 62 = .ok (.aload_n 0, 1) := by decide +kernel
theorem d_R_init_63 : decode me_R_init.2.1 63 = .ok (.iconst 2, 1) := by decide +kernel
theorem d_R_init_64 : decode me_R_init.2.1 64 = .ok (.putfield 39, 3) := by decide +kernel
theorem d_R_init_67 : decode me_R_init.2.1 67 = .ok (.aload_n 0, 1) := by decide +kernel
theorem d_R_init_68 : decode me_R_init.2.1 68 = .ok (.iconst 1, 1) := by decide +kernel
theorem d_R_init_69 : decode me_R_init.2.1 69 = .ok (.putfield 42, 3) := by decide +kernel
theorem d_R_init_72 : decode me_R_init.2.1 72 = .ok (.return_, 1) := by decide +kernel
set_option maxRecDepth 100000 in
set_option maxHeartbeats 4000000 in
theorem N_R {l : Launch} {v : gs_V} {h0 : Nat} : gMn l v me_R_init rm_R 5 1029 [.ref h0] [(h0, .inr (2, [.null, .null, .null, .null, .null, .int 0, .int 0, .int 0, .int 0, .int 0]))] (cw_R v h0) := by
  refine gMn_of (by decide +kernel) rfl rfl (Nat.le_of_ble_eq_true rfl) ?_
  refine n_aload d_R_init_0 0 rfl rfl ?_
  refine n_obj d_R_init_1 lo_R (by decide) (by decide) ?_
  refine n_aload d_R_init_4 0 rfl rfl ?_
  refine n_sipush d_R_init_5 (x := 256) (by decide) ?_
  refine n_newa (t := 0) (N' := 256) (a0 := (256, .inl (fun _ => 0))) d_R_init_8 gw_ac_int rfl (fun _ _ h => h) (fun _ => rfl) (by decide) (by decide) (by decide) (by decide) (by decide) (fun q8 => ?_)
  refine n_put (q0 := 0) (ws' := [(h0, .inr (2, [.ref q8, .null, .null, .null, .null, .int 0, .int 0, .int 0, .int 0, .int 0])), (q8, .inl (v.2.1 0, 256, .inl (fun _ => 0)))]) d_R_init_10 fi_R_9 rfl rfl rfl (Nat.le_of_ble_eq_true rfl) rfl ?_
  refine n_aload d_R_init_13 0 rfl rfl ?_
  refine n_sipush d_R_init_14 (x := 256) (by decide) ?_
  refine n_newa (t := 1) (N' := 256) (a0 := (256, .inr (.inl (fun _ => 0)))) d_R_init_17 gw_ac_long rfl (fun _ _ h => h) (fun _ => rfl) (by decide) (by decide) (by decide) (by decide) (by decide) (fun q17 => ?_)
  refine n_put (q0 := 0) (ws' := [(h0, .inr (2, [.ref q8, .ref q17, .null, .null, .null, .int 0, .int 0, .int 0, .int 0, .int 0])), (q8, .inl (v.2.1 0, 256, .inl (fun _ => 0))), (q17, .inl (v.2.1 1, 256, .inr (.inl (fun _ => 0))))]) d_R_init_19 fi_R_15 rfl rfl rfl (Nat.le_of_ble_eq_true rfl) rfl ?_
  refine n_aload d_R_init_22 0 rfl rfl ?_
  refine n_sipush d_R_init_23 (x := 256) (by decide) ?_
  refine n_newa (t := 0) (N' := 256) (a0 := (256, .inl (fun _ => 0))) d_R_init_26 gw_ac_int rfl (fun _ _ h => h) (fun _ => rfl) (by decide) (by decide) (by decide) (by decide) (by decide) (fun q26 => ?_)
  refine n_put (q0 := 0) (ws' := [(h0, .inr (2, [.ref q8, .ref q17, .ref q26, .null, .null, .int 0, .int 0, .int 0, .int 0, .int 0])), (q8, .inl (v.2.1 0, 256, .inl (fun _ => 0))), (q17, .inl (v.2.1 1, 256, .inr (.inl (fun _ => 0)))), (q26, .inl (v.2.1 0, 256, .inl (fun _ => 0)))]) d_R_init_28 fi_R_19 rfl rfl rfl (Nat.le_of_ble_eq_true rfl) rfl ?_
  refine n_aload d_R_init_31 0 rfl rfl ?_
  refine n_sipush d_R_init_32 (x := 256) (by decide) ?_
  refine n_newa (t := 0) (N' := 256) (a0 := (256, .inl (fun _ => 0))) d_R_init_35 gw_ac_int rfl (fun _ _ h => h) (fun _ => rfl) (by decide) (by decide) (by decide) (by decide) (by decide) (fun q35 => ?_)
  refine n_put (q0 := 0) (ws' := [(h0, .inr (2, [.ref q8, .ref q17, .ref q26, .ref q35, .null, .int 0, .int 0, .int 0, .int 0, .int 0])), (q8, .inl (v.2.1 0, 256, .inl (fun _ => 0))), (q17, .inl (v.2.1 1, 256, .inr (.inl (fun _ => 0)))), (q26, .inl (v.2.1 0, 256, .inl (fun _ => 0))), (q35, .inl (v.2.1 0, 256, .inl (fun _ => 0)))]) d_R_init_37 fi_R_22 rfl rfl rfl (Nat.le_of_ble_eq_true rfl) rfl ?_
  refine n_aload d_R_init_40 0 rfl rfl ?_
  refine n_iconst d_R_init_41 (x := 5) (by decide) ?_
  refine n_newa (t := 0) (N' := 5) (a0 := (5, .inl (fun _ => 0))) d_R_init_42 gw_ac_int rfl (fun _ _ h => h) (fun _ => rfl) (by decide) (by decide) (by decide) (by decide) (by decide) (fun q42 => ?_)
  refine n_put (q0 := 0) (ws' := [(h0, .inr (2, [.ref q8, .ref q17, .ref q26, .ref q35, .ref q42, .int 0, .int 0, .int 0, .int 0, .int 0])), (q8, .inl (v.2.1 0, 256, .inl (fun _ => 0))), (q17, .inl (v.2.1 1, 256, .inr (.inl (fun _ => 0)))), (q26, .inl (v.2.1 0, 256, .inl (fun _ => 0))), (q35, .inl (v.2.1 0, 256, .inl (fun _ => 0))), (q42, .inl (v.2.1 0, 5, .inl (fun _ => 0)))]) d_R_init_44 fi_R_25 rfl rfl rfl (Nat.le_of_ble_eq_true rfl) rfl ?_
  refine n_aload d_R_init_47 0 rfl rfl ?_
  refine n_iconst d_R_init_48 (x := 0) (by decide) ?_
  refine n_put (q0 := 0) (ws' := [(h0, .inr (2, [.ref q8, .ref q17, .ref q26, .ref q35, .ref q42, .int 0, .int 0, .int 0, .int 0, .int 0])), (q8, .inl (v.2.1 0, 256, .inl (fun _ => 0))), (q17, .inl (v.2.1 1, 256, .inr (.inl (fun _ => 0)))), (q26, .inl (v.2.1 0, 256, .inl (fun _ => 0))), (q35, .inl (v.2.1 0, 256, .inl (fun _ => 0))), (q42, .inl (v.2.1 0, 5, .inl (fun _ => 0)))]) d_R_init_49 fi_R_28 rfl rfl rfl (Nat.le_of_ble_eq_true rfl) rfl ?_
  refine n_aload d_R_init_52 0 rfl rfl ?_
  refine n_iconst d_R_init_53 (x := 2) (by decide) ?_
  refine n_put (q0 := 0) (ws' := [(h0, .inr (2, [.ref q8, .ref q17, .ref q26, .ref q35, .ref q42, .int 0, .int 2, .int 0, .int 0, .int 0])), (q8, .inl (v.2.1 0, 256, .inl (fun _ => 0))), (q17, .inl (v.2.1 1, 256, .inr (.inl (fun _ => 0)))), (q26, .inl (v.2.1 0, 256, .inl (fun _ => 0))), (q35, .inl (v.2.1 0, 256, .inl (fun _ => 0))), (q42, .inl (v.2.1 0, 5, .inl (fun _ => 0)))]) d_R_init_54 fi_R_32 rfl rfl rfl (Nat.le_of_ble_eq_true rfl) rfl ?_
  refine n_aload d_R_init_57 0 rfl rfl ?_
  refine n_iconst d_R_init_58 (x := 1) (by decide) ?_
  refine n_put (q0 := 0) (ws' := [(h0, .inr (2, [.ref q8, .ref q17, .ref q26, .ref q35, .ref q42, .int 0, .int 2, .int 1, .int 0, .int 0])), (q8, .inl (v.2.1 0, 256, .inl (fun _ => 0))), (q17, .inl (v.2.1 1, 256, .inr (.inl (fun _ => 0)))), (q26, .inl (v.2.1 0, 256, .inl (fun _ => 0))), (q35, .inl (v.2.1 0, 256, .inl (fun _ => 0))), (q42, .inl (v.2.1 0, 5, .inl (fun _ => 0)))]) d_R_init_59 fi_R_36 rfl rfl rfl (Nat.le_of_ble_eq_true rfl) rfl ?_
  refine n_aload d_R_init_62 0 rfl rfl ?_
  refine n_iconst d_R_init_63 (x := 2) (by decide) ?_
  refine n_put (q0 := 0) (ws' := [(h0, .inr (2, [.ref q8, .ref q17, .ref q26, .ref q35, .ref q42, .int 0, .int 2, .int 1, .int 2, .int 0])), (q8, .inl (v.2.1 0, 256, .inl (fun _ => 0))), (q17, .inl (v.2.1 1, 256, .inr (.inl (fun _ => 0)))), (q26, .inl (v.2.1 0, 256, .inl (fun _ => 0))), (q35, .inl (v.2.1 0, 256, .inl (fun _ => 0))), (q42, .inl (v.2.1 0, 5, .inl (fun _ => 0)))]) d_R_init_64 fi_R_39 rfl rfl rfl (Nat.le_of_ble_eq_true rfl) rfl ?_
  refine n_aload d_R_init_67 0 rfl rfl ?_
  refine n_iconst d_R_init_68 (x := 1) (by decide) ?_
  refine n_put (q0 := 0) (ws' := [(h0, .inr (2, [.ref q8, .ref q17, .ref q26, .ref q35, .ref q42, .int 0, .int 2, .int 1, .int 2, .int 1])), (q8, .inl (v.2.1 0, 256, .inl (fun _ => 0))), (q17, .inl (v.2.1 1, 256, .inr (.inl (fun _ => 0)))), (q26, .inl (v.2.1 0, 256, .inl (fun _ => 0))), (q35, .inl (v.2.1 0, 256, .inl (fun _ => 0))), (q42, .inl (v.2.1 0, 5, .inl (fun _ => 0)))]) d_R_init_69 fi_R_42 rfl rfl rfl (Nat.le_of_ble_eq_true rfl) rfl ?_
  exact n_ret (fun k => match k with | 1 => q8 | 2 => q17 | 3 => q26 | 4 => q35 | 5 => q42 | _ => 0) d_R_init_72 rfl
theorem lo_C : Cond.methodLink "LineRules$Ring" 3 objectInit ∈ gw := (gw_t1 (List.mem_of_getElem? (i := 131) rfl) rfl)
theorem fi_C_9 : gFi "LineRules$Ring" 9 3 0 (.array .int) := ⟨"LineRules$Ring", TX3, 5, tyX3, rfl, by decide, inX3, (gw_t1 (List.mem_of_getElem? (i := 132) rfl) rfl), rfl, tyX3_ok, nmX3, rfl, by decide +kernel⟩
theorem fi_C_15 : gFi "LineRules$Ring" 15 3 1 .int := ⟨"LineRules$Ring", TX3, 5, tyX3, rfl, by decide, inX3, (gw_t1 (List.mem_of_getElem? (i := 135) rfl) rfl), rfl, tyX3_ok, nmX3, rfl, by decide +kernel⟩
theorem fi_C_19 : gFi "LineRules$Ring" 19 3 3 (.array .int) := ⟨"LineRules$Ring", TX3, 5, tyX3, rfl, by decide, inX3, (gw_t1 (List.mem_of_getElem? (i := 139) rfl) rfl), rfl, tyX3_ok, nmX3, rfl, by decide +kernel⟩
theorem fi_C_22 : gFi "LineRules$Ring" 22 3 4 (.array .int) := ⟨"LineRules$Ring", TX3, 5, tyX3, rfl, by decide, inX3, (gw_t1 (List.mem_of_getElem? (i := 140) rfl) rfl), rfl, tyX3_ok, nmX3, rfl, by decide +kernel⟩
theorem fi_C_25 : gFi "LineRules$Ring" 25 3 2 (.object "LineRules$Rule") := ⟨"LineRules$Ring", TX3, 5, tyX3, rfl, by decide, inX3, (gw_t1 (List.mem_of_getElem? (i := 138) rfl) rfl), rfl, tyX3_ok, nmX3, rfl, by decide +kernel⟩
def cw_C (v : gs_V) (h0 : Nat) (a1 : Nat) (u : Nat → Nat) : va_W := [(h0, .inr (3, [.ref (u 1), .int 1, .ref a1, .ref (u 2), .ref (u 3)])), (u 1, .inl (v.2.1 0, 64, .inl (fun _ => 0))), (u 2, .inl (v.2.1 0, 64, .inl (fun _ => 0))), (u 3, .inl (v.2.1 0, 64, .inl (fun _ => 0)))]
abbrev rm_C : Room := { frames := 1, cells := 3, slots := 192, locals := 12 }
theorem d_C_init_0 : decode me_C_init.2.1 0 = .ok (.aload_n 0, 1) := by decide +kernel
theorem d_C_init_1 : decode me_C_init.2.1 1 = .ok (.invokespecial 3, 3) := by decide +kernel
theorem d_C_init_4 : decode me_C_init.2.1 4 = .ok (.aload_n 0, 1) := by decide +kernel
theorem d_C_init_5 : decode me_C_init.2.1 5 = .ok (.bipush 64, 2) := by decide +kernel
theorem d_C_init_7 : decode me_C_init.2.1 7 = .ok (.newarray .int, 2) := by decide +kernel
theorem d_C_init_9 : decode me_C_init.2.1 9 = .ok (.putfield 9, 3) := by decide +kernel
theorem d_C_init_12 : decode me_C_init.2.1 12 = .ok (.aload_n 0, 1) := by decide +kernel
theorem d_C_init_13 : decode me_C_init.2.1 13 = .ok (.iconst 1, 1) := by decide +kernel
theorem d_C_init_14 : decode me_C_init.2.1 14 = .ok (.putfield 15, 3) := by decide +kernel
theorem d_C_init_17 : decode me_C_init.2.1 17 = .ok (.aload_n 0, 1) := by decide +kernel
theorem d_C_init_18 : decode me_C_init.2.1 18 = .ok (.bipush 64, 2) := by decide +kernel
theorem d_C_init_20 : decode me_C_init.2.1 20 = .ok (.newarray .int, 2) := by decide +kernel
theorem d_C_init_22 : decode me_C_init.2.1 22 = .ok (.putfield 19, 3) := by decide +kernel
theorem d_C_init_25 : decode me_C_init.2.1 25 = .ok (.aload_n 0, 1) := by decide +kernel
theorem d_C_init_26 : decode me_C_init.2.1 26 = .ok (.bipush 64, 2) := by decide +kernel
theorem d_C_init_28 : decode me_C_init.2.1 28 = .ok (.newarray .int, 2) := by decide +kernel
theorem d_C_init_30 : decode me_C_init.2.1 30 = .ok (.putfield 22, 3) := by decide +kernel
theorem d_C_init_33 : decode me_C_init.2.1 33 = .ok (.aload_n 0, 1) := by decide +kernel
theorem d_C_init_34 : decode me_C_init.2.1 34 = .ok (.aload_n 1, 1) := by decide +kernel
theorem d_C_init_35 : decode me_C_init.2.1 35 = .ok (.putfield 25, 3) := by decide +kernel
theorem d_C_init_38 : decode me_C_init.2.1 38 = .ok (.return_, 1) := by decide +kernel
set_option maxRecDepth 100000 in
set_option maxHeartbeats 4000000 in
theorem N_C {l : Launch} {v : gs_V} {h0 a1 : Nat} : gMn l v me_C_init rm_C 3 192 [.ref h0, .ref a1] [(h0, .inr (3, [.null, .int 0, .null, .null, .null]))] (cw_C v h0 a1) := by
  refine gMn_of (by decide +kernel) rfl rfl (Nat.le_of_ble_eq_true rfl) ?_
  refine n_aload d_C_init_0 0 rfl rfl ?_
  refine n_obj d_C_init_1 lo_C (by decide) (by decide) ?_
  refine n_aload d_C_init_4 0 rfl rfl ?_
  refine n_bipush d_C_init_5 (x := 64) (by decide) ?_
  refine n_newa (t := 0) (N' := 64) (a0 := (64, .inl (fun _ => 0))) d_C_init_7 gw_ac_int rfl (fun _ _ h => h) (fun _ => rfl) (by decide) (by decide) (by decide) (by decide) (by decide) (fun q7 => ?_)
  refine n_put (q0 := 0) (ws' := [(h0, .inr (3, [.ref q7, .int 0, .null, .null, .null])), (q7, .inl (v.2.1 0, 64, .inl (fun _ => 0)))]) d_C_init_9 fi_C_9 rfl rfl rfl (Nat.le_of_ble_eq_true rfl) rfl ?_
  refine n_aload d_C_init_12 0 rfl rfl ?_
  refine n_iconst d_C_init_13 (x := 1) (by decide) ?_
  refine n_put (q0 := 0) (ws' := [(h0, .inr (3, [.ref q7, .int 1, .null, .null, .null])), (q7, .inl (v.2.1 0, 64, .inl (fun _ => 0)))]) d_C_init_14 fi_C_15 rfl rfl rfl (Nat.le_of_ble_eq_true rfl) rfl ?_
  refine n_aload d_C_init_17 0 rfl rfl ?_
  refine n_bipush d_C_init_18 (x := 64) (by decide) ?_
  refine n_newa (t := 0) (N' := 64) (a0 := (64, .inl (fun _ => 0))) d_C_init_20 gw_ac_int rfl (fun _ _ h => h) (fun _ => rfl) (by decide) (by decide) (by decide) (by decide) (by decide) (fun q20 => ?_)
  refine n_put (q0 := 0) (ws' := [(h0, .inr (3, [.ref q7, .int 1, .null, .ref q20, .null])), (q7, .inl (v.2.1 0, 64, .inl (fun _ => 0))), (q20, .inl (v.2.1 0, 64, .inl (fun _ => 0)))]) d_C_init_22 fi_C_19 rfl rfl rfl (Nat.le_of_ble_eq_true rfl) rfl ?_
  refine n_aload d_C_init_25 0 rfl rfl ?_
  refine n_bipush d_C_init_26 (x := 64) (by decide) ?_
  refine n_newa (t := 0) (N' := 64) (a0 := (64, .inl (fun _ => 0))) d_C_init_28 gw_ac_int rfl (fun _ _ h => h) (fun _ => rfl) (by decide) (by decide) (by decide) (by decide) (by decide) (fun q28 => ?_)
  refine n_put (q0 := 0) (ws' := [(h0, .inr (3, [.ref q7, .int 1, .null, .ref q20, .ref q28])), (q7, .inl (v.2.1 0, 64, .inl (fun _ => 0))), (q20, .inl (v.2.1 0, 64, .inl (fun _ => 0))), (q28, .inl (v.2.1 0, 64, .inl (fun _ => 0)))]) d_C_init_30 fi_C_22 rfl rfl rfl (Nat.le_of_ble_eq_true rfl) rfl ?_
  refine n_aload d_C_init_33 0 rfl rfl ?_
  refine n_aload d_C_init_34 1 rfl rfl ?_
  refine n_put (q0 := 0) (ws' := [(h0, .inr (3, [.ref q7, .int 1, .ref a1, .ref q20, .ref q28])), (q7, .inl (v.2.1 0, 64, .inl (fun _ => 0))), (q20, .inl (v.2.1 0, 64, .inl (fun _ => 0))), (q28, .inl (v.2.1 0, 64, .inl (fun _ => 0)))]) d_C_init_35 fi_C_25 rfl rfl rfl (Nat.le_of_ble_eq_true rfl) rfl ?_
  exact n_ret (fun k => match k with | 1 => q7 | 2 => q20 | 3 => q28 | _ => 0) d_C_init_38 rfl
theorem lo_P : Cond.methodLink "LineRules$Pairs" 3 objectInit ∈ gw := (gw_t1 (List.mem_of_getElem? (i := 157) rfl) rfl)
theorem fi_P_9 : gFi "LineRules$Pairs" 9 4 1 (.array .long) := ⟨"LineRules$Pairs", TX4, 7, tyX4, rfl, by decide, inX4, (gw_t1 (List.mem_of_getElem? (i := 159) rfl) rfl), rfl, tyX4_ok, nmX4, rfl, by decide +kernel⟩
theorem fi_P_15 : gFi "LineRules$Pairs" 15 4 2 (.array .long) := ⟨"LineRules$Pairs", TX4, 7, tyX4, rfl, by decide, inX4, (gw_t1 (List.mem_of_getElem? (i := 160) rfl) rfl), rfl, tyX4_ok, nmX4, rfl, by decide +kernel⟩
theorem fi_P_18 : gFi "LineRules$Pairs" 18 4 3 .boolean := ⟨"LineRules$Pairs", TX4, 7, tyX4, rfl, by decide, inX4, (gw_t1 (List.mem_of_getElem? (i := 161) rfl) rfl), rfl, tyX4_ok, nmX4, rfl, by decide +kernel⟩
theorem fi_P_22 : gFi "LineRules$Pairs" 22 4 4 .boolean := ⟨"LineRules$Pairs", TX4, 7, tyX4, rfl, by decide, inX4, (gw_t1 (List.mem_of_getElem? (i := 162) rfl) rfl), rfl, tyX4_ok, nmX4, rfl, by decide +kernel⟩
theorem fi_P_25 : gFi "LineRules$Pairs" 25 4 5 .boolean := ⟨"LineRules$Pairs", TX4, 7, tyX4, rfl, by decide, inX4, (gw_t1 (List.mem_of_getElem? (i := 163) rfl) rfl), rfl, tyX4_ok, nmX4, rfl, by decide +kernel⟩
theorem fi_P_28 : gFi "LineRules$Pairs" 28 4 6 .boolean := ⟨"LineRules$Pairs", TX4, 7, tyX4, rfl, by decide, inX4, (gw_t1 (List.mem_of_getElem? (i := 164) rfl) rfl), rfl, tyX4_ok, nmX4, rfl, by decide +kernel⟩
theorem fi_P_31 : gFi "LineRules$Pairs" 31 4 0 (.object "LineRules$Rule") := ⟨"LineRules$Pairs", TX4, 7, tyX4, rfl, by decide, inX4, (gw_t1 (List.mem_of_getElem? (i := 158) rfl) rfl), rfl, tyX4_ok, nmX4, rfl, by decide +kernel⟩
def cw_P (v : gs_V) (h0 : Nat) (a1 : Nat) (u : Nat → Nat) : va_W := [(h0, .inr (4, [.ref a1, .ref (u 1), .ref (u 2), .int 0, .int 0, .int 0, .int 0])), (u 1, .inl (v.2.1 1, 64, .inr (.inl (fun _ => 0)))), (u 2, .inl (v.2.1 1, 64, .inr (.inl (fun _ => 0))))]
abbrev rm_P : Room := { frames := 1, cells := 2, slots := 128, locals := 12 }
theorem d_P_init_0 : decode me_P_init.2.1 0 = .ok (.aload_n 0, 1) := by decide +kernel
theorem d_P_init_1 : decode me_P_init.2.1 1 = .ok (.invokespecial 3, 3) := by decide +kernel
theorem d_P_init_4 : decode me_P_init.2.1 4 = .ok (.aload_n 0, 1) := by decide +kernel
theorem d_P_init_5 : decode me_P_init.2.1 5 = .ok (.bipush 64, 2) := by decide +kernel
theorem d_P_init_7 : decode me_P_init.2.1 7 = .ok (.newarray .long, 2) := by decide +kernel
theorem d_P_init_9 : decode me_P_init.2.1 9 = .ok (.putfield 9, 3) := by decide +kernel
theorem d_P_init_12 : decode me_P_init.2.1 12 = .ok (.aload_n 0, 1) := by decide +kernel
theorem d_P_init_13 : decode me_P_init.2.1 13 = .ok (.bipush 64, 2) := by decide +kernel
theorem d_P_init_15 : decode me_P_init.2.1 15 = .ok (.newarray .long, 2) := by decide +kernel
theorem d_P_init_17 : decode me_P_init.2.1 17 = .ok (.putfield 15, 3) := by decide +kernel
theorem d_P_init_20 : decode me_P_init.2.1 20 = .ok (.aload_n 0, 1) := by decide +kernel
theorem d_P_init_21 : decode me_P_init.2.1 21 = .ok (.iconst 0, 1) := by decide +kernel
theorem d_P_init_22 : decode me_P_init.2.1 22 = .ok (.putfield 18, 3) := by decide +kernel
theorem d_P_init_25 : decode me_P_init.2.1 25 = .ok (.aload_n 0, 1) := by decide +kernel
theorem d_P_init_26 : decode me_P_init.2.1 26 = .ok (.iconst 0, 1) := by decide +kernel
theorem d_P_init_27 : decode me_P_init.2.1 27 = .ok (.putfield 22, 3) := by decide +kernel
theorem d_P_init_30 : decode me_P_init.2.1 30 = .ok (.aload_n 0, 1) := by decide +kernel
theorem d_P_init_31 : decode me_P_init.2.1 31 = .ok (.iconst 0, 1) := by decide +kernel
theorem d_P_init_32 : decode me_P_init.2.1 32 = .ok (.putfield 25, 3) := by decide +kernel
theorem d_P_init_35 : decode me_P_init.2.1 35 = .ok (.aload_n 0, 1) := by decide +kernel
theorem d_P_init_36 : decode me_P_init.2.1 36 = .ok (.iconst 0, 1) := by decide +kernel
theorem d_P_init_37 : decode me_P_init.2.1 37 = .ok (.putfield 28, 3) := by decide +kernel
theorem d_P_init_40 : decode me_P_init.2.1 40 = .ok (.aload_n 0, 1) := by decide +kernel
theorem d_P_init_41 : decode me_P_init.2.1 41 = .ok (.aload_n 1, 1) := by decide +kernel
theorem d_P_init_42 : decode me_P_init.2.1 42 = .ok (.putfield 31, 3) := by decide +kernel
theorem d_P_init_45 : decode me_P_init.2.1 45 = .ok (.return_, 1) := by decide +kernel
set_option maxRecDepth 100000 in
set_option maxHeartbeats 4000000 in
theorem N_P {l : Launch} {v : gs_V} {h0 a1 : Nat} : gMn l v me_P_init rm_P 2 128 [.ref h0, .ref a1] [(h0, .inr (4, [.null, .null, .null, .int 0, .int 0, .int 0, .int 0]))] (cw_P v h0 a1) := by
  refine gMn_of (by decide +kernel) rfl rfl (Nat.le_of_ble_eq_true rfl) ?_
  refine n_aload d_P_init_0 0 rfl rfl ?_
  refine n_obj d_P_init_1 lo_P (by decide) (by decide) ?_
  refine n_aload d_P_init_4 0 rfl rfl ?_
  refine n_bipush d_P_init_5 (x := 64) (by decide) ?_
  refine n_newa (t := 1) (N' := 64) (a0 := (64, .inr (.inl (fun _ => 0)))) d_P_init_7 gw_ac_long rfl (fun _ _ h => h) (fun _ => rfl) (by decide) (by decide) (by decide) (by decide) (by decide) (fun q7 => ?_)
  refine n_put (q0 := 0) (ws' := [(h0, .inr (4, [.null, .ref q7, .null, .int 0, .int 0, .int 0, .int 0])), (q7, .inl (v.2.1 1, 64, .inr (.inl (fun _ => 0))))]) d_P_init_9 fi_P_9 rfl rfl rfl (Nat.le_of_ble_eq_true rfl) rfl ?_
  refine n_aload d_P_init_12 0 rfl rfl ?_
  refine n_bipush d_P_init_13 (x := 64) (by decide) ?_
  refine n_newa (t := 1) (N' := 64) (a0 := (64, .inr (.inl (fun _ => 0)))) d_P_init_15 gw_ac_long rfl (fun _ _ h => h) (fun _ => rfl) (by decide) (by decide) (by decide) (by decide) (by decide) (fun q15 => ?_)
  refine n_put (q0 := 0) (ws' := [(h0, .inr (4, [.null, .ref q7, .ref q15, .int 0, .int 0, .int 0, .int 0])), (q7, .inl (v.2.1 1, 64, .inr (.inl (fun _ => 0)))), (q15, .inl (v.2.1 1, 64, .inr (.inl (fun _ => 0))))]) d_P_init_17 fi_P_15 rfl rfl rfl (Nat.le_of_ble_eq_true rfl) rfl ?_
  refine n_aload d_P_init_20 0 rfl rfl ?_
  refine n_iconst d_P_init_21 (x := 0) (by decide) ?_
  refine n_put (q0 := 0) (ws' := [(h0, .inr (4, [.null, .ref q7, .ref q15, .int 0, .int 0, .int 0, .int 0])), (q7, .inl (v.2.1 1, 64, .inr (.inl (fun _ => 0)))), (q15, .inl (v.2.1 1, 64, .inr (.inl (fun _ => 0))))]) d_P_init_22 fi_P_18 rfl rfl rfl (Nat.le_of_ble_eq_true rfl) rfl ?_
  refine n_aload d_P_init_25 0 rfl rfl ?_
  refine n_iconst d_P_init_26 (x := 0) (by decide) ?_
  refine n_put (q0 := 0) (ws' := [(h0, .inr (4, [.null, .ref q7, .ref q15, .int 0, .int 0, .int 0, .int 0])), (q7, .inl (v.2.1 1, 64, .inr (.inl (fun _ => 0)))), (q15, .inl (v.2.1 1, 64, .inr (.inl (fun _ => 0))))]) d_P_init_27 fi_P_22 rfl rfl rfl (Nat.le_of_ble_eq_true rfl) rfl ?_
  refine n_aload d_P_init_30 0 rfl rfl ?_
  refine n_iconst d_P_init_31 (x := 0) (by decide) ?_
  refine n_put (q0 := 0) (ws' := [(h0, .inr (4, [.null, .ref q7, .ref q15, .int 0, .int 0, .int 0, .int 0])), (q7, .inl (v.2.1 1, 64, .inr (.inl (fun _ => 0)))), (q15, .inl (v.2.1 1, 64, .inr (.inl (fun _ => 0))))]) d_P_init_32 fi_P_25 rfl rfl rfl (Nat.le_of_ble_eq_true rfl) rfl ?_
  refine n_aload d_P_init_35 0 rfl rfl ?_
  refine n_iconst d_P_init_36 (x := 0) (by decide) ?_
  refine n_put (q0 := 0) (ws' := [(h0, .inr (4, [.null, .ref q7, .ref q15, .int 0, .int 0, .int 0, .int 0])), (q7, .inl (v.2.1 1, 64, .inr (.inl (fun _ => 0)))), (q15, .inl (v.2.1 1, 64, .inr (.inl (fun _ => 0))))]) d_P_init_37 fi_P_28 rfl rfl rfl (Nat.le_of_ble_eq_true rfl) rfl ?_
  refine n_aload d_P_init_40 0 rfl rfl ?_
  refine n_aload d_P_init_41 1 rfl rfl ?_
  refine n_put (q0 := 0) (ws' := [(h0, .inr (4, [.ref a1, .ref q7, .ref q15, .int 0, .int 0, .int 0, .int 0])), (q7, .inl (v.2.1 1, 64, .inr (.inl (fun _ => 0)))), (q15, .inl (v.2.1 1, 64, .inr (.inl (fun _ => 0))))]) d_P_init_42 fi_P_31 rfl rfl rfl (Nat.le_of_ble_eq_true rfl) rfl ?_
  exact n_ret (fun k => match k with | 1 => q7 | 2 => q15 | _ => 0) d_P_init_45 rfl
theorem lo_V : Cond.methodLink "LineRules$Inverse" 3 objectInit ∈ gw := (gw_t1 (List.mem_of_getElem? (i := 185) rfl) rfl)
theorem fi_V_9 : gFi "LineRules$Inverse" 9 5 2 (.array .int) := ⟨"LineRules$Inverse", TX5, 6, tyX5, rfl, by decide, inX5, (gw_t1 (List.mem_of_getElem? (i := 188) rfl) rfl), rfl, tyX5_ok, nmX5, rfl, by decide +kernel⟩
theorem fi_V_15 : gFi "LineRules$Inverse" 15 5 3 .boolean := ⟨"LineRules$Inverse", TX5, 6, tyX5, rfl, by decide, inX5, (gw_t1 (List.mem_of_getElem? (i := 189) rfl) rfl), rfl, tyX5_ok, nmX5, rfl, by decide +kernel⟩
theorem fi_V_19 : gFi "LineRules$Inverse" 19 5 4 .int := ⟨"LineRules$Inverse", TX5, 6, tyX5, rfl, by decide, inX5, (gw_t1 (List.mem_of_getElem? (i := 190) rfl) rfl), rfl, tyX5_ok, nmX5, rfl, by decide +kernel⟩
theorem fi_V_23 : gFi "LineRules$Inverse" 23 5 5 .int := ⟨"LineRules$Inverse", TX5, 6, tyX5, rfl, by decide, inX5, (gw_t1 (List.mem_of_getElem? (i := 191) rfl) rfl), rfl, tyX5_ok, nmX5, rfl, by decide +kernel⟩
theorem fi_V_26 : gFi "LineRules$Inverse" 26 5 0 (.object "LineRules$Rule") := ⟨"LineRules$Inverse", TX5, 6, tyX5, rfl, by decide, inX5, (gw_t1 (List.mem_of_getElem? (i := 186) rfl) rfl), rfl, tyX5_ok, nmX5, rfl, by decide +kernel⟩
theorem fi_V_30 : gFi "LineRules$Inverse" 30 5 1 (.object "LineRules$Pairs") := ⟨"LineRules$Inverse", TX5, 6, tyX5, rfl, by decide, inX5, (gw_t1 (List.mem_of_getElem? (i := 187) rfl) rfl), rfl, tyX5_ok, nmX5, rfl, by decide +kernel⟩
def cw_V (v : gs_V) (h0 : Nat) (a1 a2 : Nat) (u : Nat → Nat) : va_W := [(h0, .inr (5, [.ref a1, .ref a2, .ref (u 1), .int 0, .int 0, .int 0])), (u 1, .inl (v.2.1 0, 1024, .inl (fun _ => 0)))]
abbrev rm_V : Room := { frames := 1, cells := 1, slots := 1024, locals := 12 }
theorem d_V_init_0 : decode me_V_init.2.1 0 = .ok (.aload_n 0, 1) := by decide +kernel
theorem d_V_init_1 : decode me_V_init.2.1 1 = .ok (.invokespecial 3, 3) := by decide +kernel
theorem d_V_init_4 : decode me_V_init.2.1 4 = .ok (.aload_n 0, 1) := by decide +kernel
theorem d_V_init_5 : decode me_V_init.2.1 5 = .ok (.sipush 1024, 3) := by decide +kernel
theorem d_V_init_8 : decode me_V_init.2.1 8 = .ok (.newarray .int, 2) := by decide +kernel
theorem d_V_init_10 : decode me_V_init.2.1 10 = .ok (.putfield 9, 3) := by decide +kernel
theorem d_V_init_13 : decode me_V_init.2.1 13 = .ok (.aload_n 0, 1) := by decide +kernel
theorem d_V_init_14 : decode me_V_init.2.1 14 = .ok (.iconst 0, 1) := by decide +kernel
theorem d_V_init_15 : decode me_V_init.2.1 15 = .ok (.putfield 15, 3) := by decide +kernel
theorem d_V_init_18 : decode me_V_init.2.1 18 = .ok (.aload_n 0, 1) := by decide +kernel
theorem d_V_init_19 : decode me_V_init.2.1 19 = .ok (.iconst 0, 1) := by decide +kernel
theorem d_V_init_20 : decode me_V_init.2.1 20 = .ok (.putfield 19, 3) := by decide +kernel
theorem d_V_init_23 : decode me_V_init.2.1 23 = .ok (.aload_n 0, 1) := by decide +kernel
theorem d_V_init_24 : decode me_V_init.2.1 24 = .ok (.iconst 0, 1) := by decide +kernel
theorem d_V_init_25 : decode me_V_init.2.1 25 = .ok (.putfield 23, 3) := by decide +kernel
theorem d_V_init_28 : decode me_V_init.2.1 28 = .ok (.aload_n 0, 1) := by decide +kernel
theorem d_V_init_29 : decode me_V_init.2.1 29 = .ok (.aload_n 1, 1) := by decide +kernel
theorem d_V_init_30 : decode me_V_init.2.1 30 = .ok (.putfield 26, 3) := by decide +kernel
theorem d_V_init_33 : decode me_V_init.2.1 33 = .ok (.aload_n 0, 1) := by decide +kernel
theorem d_V_init_34 : decode me_V_init.2.1 34 = .ok (.aload_n 2, 1) := by decide +kernel
theorem d_V_init_35 : decode me_V_init.2.1 35 = .ok (.putfield 30, 3) := by decide +kernel
theorem d_V_init_38 : decode me_V_init.2.1 38 = .ok (.return_, 1) := by decide +kernel
set_option maxRecDepth 100000 in
set_option maxHeartbeats 4000000 in
theorem N_V {l : Launch} {v : gs_V} {h0 a1 a2 : Nat} : gMn l v me_V_init rm_V 1 1024 [.ref h0, .ref a1, .ref a2] [(h0, .inr (5, [.null, .null, .null, .int 0, .int 0, .int 0]))] (cw_V v h0 a1 a2) := by
  refine gMn_of (by decide +kernel) rfl rfl (Nat.le_of_ble_eq_true rfl) ?_
  refine n_aload d_V_init_0 0 rfl rfl ?_
  refine n_obj d_V_init_1 lo_V (by decide) (by decide) ?_
  refine n_aload d_V_init_4 0 rfl rfl ?_
  refine n_sipush d_V_init_5 (x := 1024) (by decide) ?_
  refine n_newa (t := 0) (N' := 1024) (a0 := (1024, .inl (fun _ => 0))) d_V_init_8 gw_ac_int rfl (fun _ _ h => h) (fun _ => rfl) (by decide) (by decide) (by decide) (by decide) (by decide) (fun q8 => ?_)
  refine n_put (q0 := 0) (ws' := [(h0, .inr (5, [.null, .null, .ref q8, .int 0, .int 0, .int 0])), (q8, .inl (v.2.1 0, 1024, .inl (fun _ => 0)))]) d_V_init_10 fi_V_9 rfl rfl rfl (Nat.le_of_ble_eq_true rfl) rfl ?_
  refine n_aload d_V_init_13 0 rfl rfl ?_
  refine n_iconst d_V_init_14 (x := 0) (by decide) ?_
  refine n_put (q0 := 0) (ws' := [(h0, .inr (5, [.null, .null, .ref q8, .int 0, .int 0, .int 0])), (q8, .inl (v.2.1 0, 1024, .inl (fun _ => 0)))]) d_V_init_15 fi_V_15 rfl rfl rfl (Nat.le_of_ble_eq_true rfl) rfl ?_
  refine n_aload d_V_init_18 0 rfl rfl ?_
  refine n_iconst d_V_init_19 (x := 0) (by decide) ?_
  refine n_put (q0 := 0) (ws' := [(h0, .inr (5, [.null, .null, .ref q8, .int 0, .int 0, .int 0])), (q8, .inl (v.2.1 0, 1024, .inl (fun _ => 0)))]) d_V_init_20 fi_V_19 rfl rfl rfl (Nat.le_of_ble_eq_true rfl) rfl ?_
  refine n_aload d_V_init_23 0 rfl rfl ?_
  refine n_iconst d_V_init_24 (x := 0) (by decide) ?_
  refine n_put (q0 := 0) (ws' := [(h0, .inr (5, [.null, .null, .ref q8, .int 0, .int 0, .int 0])), (q8, .inl (v.2.1 0, 1024, .inl (fun _ => 0)))]) d_V_init_25 fi_V_23 rfl rfl rfl (Nat.le_of_ble_eq_true rfl) rfl ?_
  refine n_aload d_V_init_28 0 rfl rfl ?_
  refine n_aload d_V_init_29 1 rfl rfl ?_
  refine n_put (q0 := 0) (ws' := [(h0, .inr (5, [.ref a1, .null, .ref q8, .int 0, .int 0, .int 0])), (q8, .inl (v.2.1 0, 1024, .inl (fun _ => 0)))]) d_V_init_30 fi_V_26 rfl rfl rfl (Nat.le_of_ble_eq_true rfl) rfl ?_
  refine n_aload d_V_init_33 0 rfl rfl ?_
  refine n_aload d_V_init_34 2 rfl rfl ?_
  refine n_put (q0 := 0) (ws' := [(h0, .inr (5, [.ref a1, .ref a2, .ref q8, .int 0, .int 0, .int 0])), (q8, .inl (v.2.1 0, 1024, .inl (fun _ => 0)))]) d_V_init_35 fi_V_30 rfl rfl rfl (Nat.le_of_ble_eq_true rfl) rfl ?_
  exact n_ret (fun k => match k with | 1 => q8 | _ => 0) d_V_init_38 rfl
theorem lo_W : Cond.methodLink "LineRules$Weights" 3 objectInit ∈ gw := (gw_t1 (List.mem_of_getElem? (i := 210) rfl) rfl)
theorem fi_W_11 : gFi "LineRules$Weights" 11 6 1 (.array (.array .long)) := ⟨"LineRules$Weights", TX6, 6, tyX6, rfl, by decide, inX6, (gw_t1 (List.mem_of_getElem? (i := 214) rfl) rfl), rfl, tyX6_ok, nmX6, rfl, by decide +kernel⟩
theorem fi_W_16 : gFi "LineRules$Weights" 16 6 2 (.array (.array .long)) := ⟨"LineRules$Weights", TX6, 6, tyX6, rfl, by decide, inX6, (gw_t1 (List.mem_of_getElem? (i := 215) rfl) rfl), rfl, tyX6_ok, nmX6, rfl, by decide +kernel⟩
theorem fi_W_19 : gFi "LineRules$Weights" 19 6 3 (.array .long) := ⟨"LineRules$Weights", TX6, 6, tyX6, rfl, by decide, inX6, (gw_t1 (List.mem_of_getElem? (i := 216) rfl) rfl), rfl, tyX6_ok, nmX6, rfl, by decide +kernel⟩
theorem fi_W_23 : gFi "LineRules$Weights" 23 6 4 .boolean := ⟨"LineRules$Weights", TX6, 6, tyX6, rfl, by decide, inX6, (gw_t1 (List.mem_of_getElem? (i := 217) rfl) rfl), rfl, tyX6_ok, nmX6, rfl, by decide +kernel⟩
theorem fi_W_27 : gFi "LineRules$Weights" 27 6 5 .int := ⟨"LineRules$Weights", TX6, 6, tyX6, rfl, by decide, inX6, (gw_t1 (List.mem_of_getElem? (i := 218) rfl) rfl), rfl, tyX6_ok, nmX6, rfl, by decide +kernel⟩
theorem fi_W_31 : gFi "LineRules$Weights" 31 6 0 (.object "LineRules$Rule") := ⟨"LineRules$Weights", TX6, 6, tyX6, rfl, by decide, inX6, (gw_t1 (List.mem_of_getElem? (i := 213) rfl) rfl), rfl, tyX6_ok, nmX6, rfl, by decide +kernel⟩
def cw_W (v : gs_V) (h0 : Nat) (a1 : Nat) (u : Nat → Nat) : va_W := [(h0, .inr (6, [.ref a1, .ref (u 1), .ref (u 2), .ref (u 3), .int 0, .int 0])), (u 1, .inl (v.2.1 4, 4, .inr (.inr (.inr (.inr (fun i => some (u 1 + 1 + i))))))), (u 1 + 1, .inl (v.2.1 1, 4, .inr (.inl (fun _ => 0)))), (u 1 + 2, .inl (v.2.1 1, 4, .inr (.inl (fun _ => 0)))), (u 1 + 3, .inl (v.2.1 1, 4, .inr (.inl (fun _ => 0)))), (u 1 + 4, .inl (v.2.1 1, 4, .inr (.inl (fun _ => 0)))), (u 2, .inl (v.2.1 4, 4, .inr (.inr (.inr (.inr (fun i => some (u 2 + 1 + i))))))), (u 2 + 1, .inl (v.2.1 1, 4, .inr (.inl (fun _ => 0)))), (u 2 + 2, .inl (v.2.1 1, 4, .inr (.inl (fun _ => 0)))), (u 2 + 3, .inl (v.2.1 1, 4, .inr (.inl (fun _ => 0)))), (u 2 + 4, .inl (v.2.1 1, 4, .inr (.inl (fun _ => 0)))), (u 3, .inl (v.2.1 1, 4, .inr (.inl (fun _ => 0))))]
abbrev rm_W : Room := { frames := 1, cells := 11, slots := 44, locals := 12 }
theorem d_W_init_0 : decode me_W_init.2.1 0 = .ok (.aload_n 0, 1) := by decide +kernel
theorem d_W_init_1 : decode me_W_init.2.1 1 = .ok (.invokespecial 3, 3) := by decide +kernel
theorem d_W_init_4 : decode me_W_init.2.1 4 = .ok (.aload_n 0, 1) := by decide +kernel
theorem d_W_init_5 : decode me_W_init.2.1 5 = .ok (.iconst 4, 1) := by decide +kernel
theorem d_W_init_6 : decode me_W_init.2.1 6 = .ok (.iconst 4, 1) := by decide +kernel
theorem d_W_init_7 : decode me_W_init.2.1 7 = .ok (.multianewarray 9 2, 4) := by decide +kernel
theorem d_W_init_11 : decode me_W_init.2.1 11 = .ok (.putfield 11, 3) := by decide +kernel
theorem d_W_init_14 : decode me_W_init.2.1 14 = .ok (.aload_n 0, 1) := by decide +kernel
theorem d_W_init_15 : decode me_W_init.2.1 15 = .ok (.iconst 4, 1) := by decide +kernel
theorem d_W_init_16 : decode me_W_init.2.1 16 = .ok (.iconst 4, 1) := by decide +kernel
theorem d_W_init_17 : decode me_W_init.2.1 17 = .ok (.multianewarray 9 2, 4) := by decide +kernel
theorem d_W_init_21 : decode me_W_init.2.1 21 = .ok (.putfield 16, 3) := by decide +kernel
theorem d_W_init_24 : decode me_W_init.2.1 24 = .ok (.aload_n 0, 1) := by decide +kernel
theorem d_W_init_25 : decode me_W_init.2.1 25 = .ok (.iconst 4, 1) := by decide +kernel
theorem d_W_init_26 : decode me_W_init.2.1 26 = .ok (.newarray .long, 2) := by decide +kernel
theorem d_W_init_28 : decode me_W_init.2.1 28 = .ok (.putfield 19, 3) := by decide +kernel
theorem d_W_init_31 : decode me_W_init.2.1 31 = .ok (.aload_n 0, 1) := by decide +kernel
theorem d_W_init_32 : decode me_W_init.2.1 32 = .ok (.iconst 0, 1) := by decide +kernel
theorem d_W_init_33 : decode me_W_init.2.1 33 = .ok (.putfield 23, 3) := by decide +kernel
theorem d_W_init_36 : decode me_W_init.2.1 36 = .ok (.aload_n 0, 1) := by decide +kernel
theorem d_W_init_37 : decode me_W_init.2.1 37 = .ok (.iconst 0, 1) := by decide +kernel
theorem d_W_init_38 : decode me_W_init.2.1 38 = .ok (.putfield 27, 3) := by decide +kernel
theorem d_W_init_41 : decode me_W_init.2.1 41 = .ok (.aload_n 0, 1) := by decide +kernel
theorem d_W_init_42 : decode me_W_init.2.1 42 = .ok (.aload_n 1, 1) := by decide +kernel
theorem d_W_init_43 : decode me_W_init.2.1 43 = .ok (.putfield 31, 3) := by decide +kernel
theorem d_W_init_46 : decode me_W_init.2.1 46 = .ok (.return_, 1) := by decide +kernel
set_option maxRecDepth 100000 in
set_option maxHeartbeats 4000000 in
theorem N_W {l : Launch} {v : gs_V} {h0 a1 : Nat} : gMn l v me_W_init rm_W 11 44 [.ref h0, .ref a1] [(h0, .inr (6, [.null, .null, .null, .null, .int 0, .int 0]))] (cw_W v h0 a1) := by
  refine gMn_of (by decide +kernel) rfl rfl (Nat.le_of_ble_eq_true rfl) ?_
  refine n_aload d_W_init_0 0 rfl rfl ?_
  refine n_obj d_W_init_1 lo_W (by decide) (by decide) ?_
  refine n_aload d_W_init_4 0 rfl rfl ?_
  refine n_iconst d_W_init_5 (x := 4) (by decide) ?_
  refine n_iconst d_W_init_6 (x := 4) (by decide) ?_
  refine n_mna rfl rfl d_W_init_7 gw_jj gw_ac_long (by decide) (by decide) (fun q7 => ?_)
  refine n_put (q0 := 0) (ws' := [(h0, .inr (6, [.null, .ref q7, .null, .null, .int 0, .int 0])), (q7, .inl (v.2.1 4, 4, .inr (.inr (.inr (.inr (fun i => some (q7 + 1 + i))))))), (q7 + 1, .inl (v.2.1 1, 4, .inr (.inl (fun _ => 0)))), (q7 + 2, .inl (v.2.1 1, 4, .inr (.inl (fun _ => 0)))), (q7 + 3, .inl (v.2.1 1, 4, .inr (.inl (fun _ => 0)))), (q7 + 4, .inl (v.2.1 1, 4, .inr (.inl (fun _ => 0))))]) d_W_init_11 fi_W_11 rfl rfl rfl (Nat.le_of_ble_eq_true rfl) rfl ?_
  refine n_aload d_W_init_14 0 rfl rfl ?_
  refine n_iconst d_W_init_15 (x := 4) (by decide) ?_
  refine n_iconst d_W_init_16 (x := 4) (by decide) ?_
  refine n_mna rfl rfl d_W_init_17 gw_jj gw_ac_long (by decide) (by decide) (fun q17 => ?_)
  refine n_put (q0 := 0) (ws' := [(h0, .inr (6, [.null, .ref q7, .ref q17, .null, .int 0, .int 0])), (q7, .inl (v.2.1 4, 4, .inr (.inr (.inr (.inr (fun i => some (q7 + 1 + i))))))), (q7 + 1, .inl (v.2.1 1, 4, .inr (.inl (fun _ => 0)))), (q7 + 2, .inl (v.2.1 1, 4, .inr (.inl (fun _ => 0)))), (q7 + 3, .inl (v.2.1 1, 4, .inr (.inl (fun _ => 0)))), (q7 + 4, .inl (v.2.1 1, 4, .inr (.inl (fun _ => 0)))), (q17, .inl (v.2.1 4, 4, .inr (.inr (.inr (.inr (fun i => some (q17 + 1 + i))))))), (q17 + 1, .inl (v.2.1 1, 4, .inr (.inl (fun _ => 0)))), (q17 + 2, .inl (v.2.1 1, 4, .inr (.inl (fun _ => 0)))), (q17 + 3, .inl (v.2.1 1, 4, .inr (.inl (fun _ => 0)))), (q17 + 4, .inl (v.2.1 1, 4, .inr (.inl (fun _ => 0))))]) d_W_init_21 fi_W_16 rfl rfl rfl (Nat.le_of_ble_eq_true rfl) rfl ?_
  refine n_aload d_W_init_24 0 rfl rfl ?_
  refine n_iconst d_W_init_25 (x := 4) (by decide) ?_
  refine n_newa (t := 1) (N' := 4) (a0 := (4, .inr (.inl (fun _ => 0)))) d_W_init_26 gw_ac_long rfl (fun _ _ h => h) (fun _ => rfl) (by decide) (by decide) (by decide) (by decide) (by decide) (fun q26 => ?_)
  refine n_put (q0 := 0) (ws' := [(h0, .inr (6, [.null, .ref q7, .ref q17, .ref q26, .int 0, .int 0])), (q7, .inl (v.2.1 4, 4, .inr (.inr (.inr (.inr (fun i => some (q7 + 1 + i))))))), (q7 + 1, .inl (v.2.1 1, 4, .inr (.inl (fun _ => 0)))), (q7 + 2, .inl (v.2.1 1, 4, .inr (.inl (fun _ => 0)))), (q7 + 3, .inl (v.2.1 1, 4, .inr (.inl (fun _ => 0)))), (q7 + 4, .inl (v.2.1 1, 4, .inr (.inl (fun _ => 0)))), (q17, .inl (v.2.1 4, 4, .inr (.inr (.inr (.inr (fun i => some (q17 + 1 + i))))))), (q17 + 1, .inl (v.2.1 1, 4, .inr (.inl (fun _ => 0)))), (q17 + 2, .inl (v.2.1 1, 4, .inr (.inl (fun _ => 0)))), (q17 + 3, .inl (v.2.1 1, 4, .inr (.inl (fun _ => 0)))), (q17 + 4, .inl (v.2.1 1, 4, .inr (.inl (fun _ => 0)))), (q26, .inl (v.2.1 1, 4, .inr (.inl (fun _ => 0))))]) d_W_init_28 fi_W_19 rfl rfl rfl (Nat.le_of_ble_eq_true rfl) rfl ?_
  refine n_aload d_W_init_31 0 rfl rfl ?_
  refine n_iconst d_W_init_32 (x := 0) (by decide) ?_
  refine n_put (q0 := 0) (ws' := [(h0, .inr (6, [.null, .ref q7, .ref q17, .ref q26, .int 0, .int 0])), (q7, .inl (v.2.1 4, 4, .inr (.inr (.inr (.inr (fun i => some (q7 + 1 + i))))))), (q7 + 1, .inl (v.2.1 1, 4, .inr (.inl (fun _ => 0)))), (q7 + 2, .inl (v.2.1 1, 4, .inr (.inl (fun _ => 0)))), (q7 + 3, .inl (v.2.1 1, 4, .inr (.inl (fun _ => 0)))), (q7 + 4, .inl (v.2.1 1, 4, .inr (.inl (fun _ => 0)))), (q17, .inl (v.2.1 4, 4, .inr (.inr (.inr (.inr (fun i => some (q17 + 1 + i))))))), (q17 + 1, .inl (v.2.1 1, 4, .inr (.inl (fun _ => 0)))), (q17 + 2, .inl (v.2.1 1, 4, .inr (.inl (fun _ => 0)))), (q17 + 3, .inl (v.2.1 1, 4, .inr (.inl (fun _ => 0)))), (q17 + 4, .inl (v.2.1 1, 4, .inr (.inl (fun _ => 0)))), (q26, .inl (v.2.1 1, 4, .inr (.inl (fun _ => 0))))]) d_W_init_33 fi_W_23 rfl rfl rfl (Nat.le_of_ble_eq_true rfl) rfl ?_
  refine n_aload d_W_init_36 0 rfl rfl ?_
  refine n_iconst d_W_init_37 (x := 0) (by decide) ?_
  refine n_put (q0 := 0) (ws' := [(h0, .inr (6, [.null, .ref q7, .ref q17, .ref q26, .int 0, .int 0])), (q7, .inl (v.2.1 4, 4, .inr (.inr (.inr (.inr (fun i => some (q7 + 1 + i))))))), (q7 + 1, .inl (v.2.1 1, 4, .inr (.inl (fun _ => 0)))), (q7 + 2, .inl (v.2.1 1, 4, .inr (.inl (fun _ => 0)))), (q7 + 3, .inl (v.2.1 1, 4, .inr (.inl (fun _ => 0)))), (q7 + 4, .inl (v.2.1 1, 4, .inr (.inl (fun _ => 0)))), (q17, .inl (v.2.1 4, 4, .inr (.inr (.inr (.inr (fun i => some (q17 + 1 + i))))))), (q17 + 1, .inl (v.2.1 1, 4, .inr (.inl (fun _ => 0)))), (q17 + 2, .inl (v.2.1 1, 4, .inr (.inl (fun _ => 0)))), (q17 + 3, .inl (v.2.1 1, 4, .inr (.inl (fun _ => 0)))), (q17 + 4, .inl (v.2.1 1, 4, .inr (.inl (fun _ => 0)))), (q26, .inl (v.2.1 1, 4, .inr (.inl (fun _ => 0))))]) d_W_init_38 fi_W_27 rfl rfl rfl (Nat.le_of_ble_eq_true rfl) rfl ?_
  refine n_aload d_W_init_41 0 rfl rfl ?_
  refine n_aload d_W_init_42 1 rfl rfl ?_
  refine n_put (q0 := 0) (ws' := [(h0, .inr (6, [.ref a1, .ref q7, .ref q17, .ref q26, .int 0, .int 0])), (q7, .inl (v.2.1 4, 4, .inr (.inr (.inr (.inr (fun i => some (q7 + 1 + i))))))), (q7 + 1, .inl (v.2.1 1, 4, .inr (.inl (fun _ => 0)))), (q7 + 2, .inl (v.2.1 1, 4, .inr (.inl (fun _ => 0)))), (q7 + 3, .inl (v.2.1 1, 4, .inr (.inl (fun _ => 0)))), (q7 + 4, .inl (v.2.1 1, 4, .inr (.inl (fun _ => 0)))), (q17, .inl (v.2.1 4, 4, .inr (.inr (.inr (.inr (fun i => some (q17 + 1 + i))))))), (q17 + 1, .inl (v.2.1 1, 4, .inr (.inl (fun _ => 0)))), (q17 + 2, .inl (v.2.1 1, 4, .inr (.inl (fun _ => 0)))), (q17 + 3, .inl (v.2.1 1, 4, .inr (.inl (fun _ => 0)))), (q17 + 4, .inl (v.2.1 1, 4, .inr (.inl (fun _ => 0)))), (q26, .inl (v.2.1 1, 4, .inr (.inl (fun _ => 0))))]) d_W_init_43 fi_W_31 rfl rfl rfl (Nat.le_of_ble_eq_true rfl) rfl ?_
  exact n_ret (fun k => match k with | 1 => q7 | 2 => q17 | 3 => q26 | _ => 0) d_W_init_46 rfl
theorem lo_O : Cond.methodLink "LineRules$Orphan" 3 objectInit ∈ gw := (gw_t1 (List.mem_of_getElem? (i := 237) rfl) rfl)
theorem fi_O_9 : gFi "LineRules$Orphan" 9 7 2 (.array .long) := ⟨"LineRules$Orphan", TX7, 10, tyX7, rfl, by decide, inX7, (gw_t2 (List.mem_of_getElem? (i := 0) rfl) rfl), rfl, tyX7_ok, nmX7, rfl, by decide +kernel⟩
theorem fi_O_15 : gFi "LineRules$Orphan" 15 7 3 (.array .int) := ⟨"LineRules$Orphan", TX7, 10, tyX7, rfl, by decide, inX7, (gw_t2 (List.mem_of_getElem? (i := 1) rfl) rfl), rfl, tyX7_ok, nmX7, rfl, by decide +kernel⟩
theorem fi_O_19 : gFi "LineRules$Orphan" 19 7 4 (.array .int) := ⟨"LineRules$Orphan", TX7, 10, tyX7, rfl, by decide, inX7, (gw_t2 (List.mem_of_getElem? (i := 2) rfl) rfl), rfl, tyX7_ok, nmX7, rfl, by decide +kernel⟩
theorem fi_O_22 : gFi "LineRules$Orphan" 22 7 5 (.array .long) := ⟨"LineRules$Orphan", TX7, 10, tyX7, rfl, by decide, inX7, (gw_t2 (List.mem_of_getElem? (i := 3) rfl) rfl), rfl, tyX7_ok, nmX7, rfl, by decide +kernel⟩
theorem fi_O_25 : gFi "LineRules$Orphan" 25 7 6 (.array .int) := ⟨"LineRules$Orphan", TX7, 10, tyX7, rfl, by decide, inX7, (gw_t2 (List.mem_of_getElem? (i := 4) rfl) rfl), rfl, tyX7_ok, nmX7, rfl, by decide +kernel⟩
theorem fi_O_28 : gFi "LineRules$Orphan" 28 7 7 .int := ⟨"LineRules$Orphan", TX7, 10, tyX7, rfl, by decide, inX7, (gw_t2 (List.mem_of_getElem? (i := 5) rfl) rfl), rfl, tyX7_ok, nmX7, rfl, by decide +kernel⟩
theorem fi_O_32 : gFi "LineRules$Orphan" 32 7 8 .boolean := ⟨"LineRules$Orphan", TX7, 10, tyX7, rfl, by decide, inX7, (gw_t2 (List.mem_of_getElem? (i := 6) rfl) rfl), rfl, tyX7_ok, nmX7, rfl, by decide +kernel⟩
theorem fi_O_36 : gFi "LineRules$Orphan" 36 7 9 .int := ⟨"LineRules$Orphan", TX7, 10, tyX7, rfl, by decide, inX7, (gw_t2 (List.mem_of_getElem? (i := 7) rfl) rfl), rfl, tyX7_ok, nmX7, rfl, by decide +kernel⟩
theorem fi_O_39 : gFi "LineRules$Orphan" 39 7 0 (.object "LineRules$Rule") := ⟨"LineRules$Orphan", TX7, 10, tyX7, rfl, by decide, inX7, (gw_t1 (List.mem_of_getElem? (i := 238) rfl) rfl), rfl, tyX7_ok, nmX7, rfl, by decide +kernel⟩
theorem fi_O_43 : gFi "LineRules$Orphan" 43 7 1 (.object "LineRules$Pairs") := ⟨"LineRules$Orphan", TX7, 10, tyX7, rfl, by decide, inX7, (gw_t1 (List.mem_of_getElem? (i := 239) rfl) rfl), rfl, tyX7_ok, nmX7, rfl, by decide +kernel⟩
def cw_O (v : gs_V) (h0 : Nat) (a1 a2 : Nat) (u : Nat → Nat) : va_W := [(h0, .inr (7, [.ref a1, .ref a2, .ref (u 1), .ref (u 2), .ref (u 3), .ref (u 4), .ref (u 5), .int 0, .int 0, .int 0])), (u 1, .inl (v.2.1 1, 500, .inr (.inl (fun _ => 0)))), (u 2, .inl (v.2.1 0, 500, .inl (fun _ => 0))), (u 3, .inl (v.2.1 0, 500, .inl (fun _ => 0))), (u 4, .inl (v.2.1 1, 4, .inr (.inl (fun _ => 0)))), (u 5, .inl (v.2.1 0, 500, .inl (fun _ => 0)))]
abbrev rm_O : Room := { frames := 1, cells := 5, slots := 2004, locals := 12 }
theorem d_O_init_0 : decode me_O_init.2.1 0 = .ok (.aload_n 0, 1) := by decide +kernel
theorem d_O_init_1 : decode me_O_init.2.1 1 = .ok (.invokespecial 3, 3) := by decide +kernel
theorem d_O_init_4 : decode me_O_init.2.1 4 = .ok (.aload_n 0, 1) := by decide +kernel
theorem d_O_init_5 : decode me_O_init.2.1 5 = .ok (.sipush 500, 3) := by decide +kernel
theorem d_O_init_8 : decode me_O_init.2.1 8 = .ok (.newarray .long, 2) := by decide +kernel
theorem d_O_init_10 : decode me_O_init.2.1 10 = .ok (.putfield 9, 3) := by decide +kernel
theorem d_O_init_13 : decode me_O_init.2.1 13 = .ok (.aload_n 0, 1) := by decide +kernel
theorem d_O_init_14 : decode me_O_init.2.1 14 = .ok (.sipush 500, 3) := by decide +kernel
theorem d_O_init_17 : decode me_O_init.2.1 17 = .ok (.newarray .int, 2) := by decide +kernel
theorem d_O_init_19 : decode me_O_init.2.1 19 = .ok (.putfield 15, 3) := by decide +kernel
theorem d_O_init_22 : decode me_O_init.2.1 22 = .ok (.aload_n 0, 1) := by decide +kernel
theorem d_O_init_23 : decode me_O_init.2.1 23 = .ok (.sipush 500, 3) := by decide +kernel
theorem d_O_init_26 : decode me_O_init.2.1 26 = .ok (.newarray .int, 2) := by decide +kernel
theorem d_O_init_28 : decode me_O_init.2.1 28 = .ok (.putfield 19, 3) := by decide +kernel
theorem d_O_init_31 : decode me_O_init.2.1 31 = .ok (.aload_n 0, 1) := by decide +kernel
theorem d_O_init_32 : decode me_O_init.2.1 32 = .ok (.iconst 4, 1) := by decide +kernel
theorem d_O_init_33 : decode me_O_init.2.1 33 = .ok (.newarray .long, 2) := by decide +kernel
theorem d_O_init_35 : decode me_O_init.2.1 35 = .ok (.putfield 22, 3) := by decide +kernel
theorem d_O_init_38 : decode me_O_init.2.1 38 = .ok (.aload_n 0, 1) := by decide +kernel
theorem d_O_init_39 : decode me_O_init.2.1 39 = .ok (.sipush 500, 3) := by decide +kernel
theorem d_O_init_42 : decode me_O_init.2.1 42 = .ok (.newarray .int, 2) := by decide +kernel
theorem d_O_init_44 : decode me_O_init.2.1 44 = .ok (.putfield 25, 3) := by decide +kernel
theorem d_O_init_47 : decode me_O_init.2.1 47 = .ok (.aload_n 0, 1) := by decide +kernel
theorem d_O_init_48 : decode me_O_init.2.1 48 = .ok (.iconst 0, 1) := by decide +kernel
theorem d_O_init_49 : decode me_O_init.2.1 49 = .ok (.putfield 28, 3) := by decide +kernel
theorem d_O_init_52 : decode me_O_init.2.1 52 = .ok (.aload_n 0, 1) := by decide +kernel
theorem d_O_init_53 : decode me_O_init.2.1 53 = .ok (.iconst 0, 1) := by decide +kernel
theorem d_O_init_54 : decode me_O_init.2.1 54 = .ok (.putfield 32, 3) := by decide +kernel
theorem d_O_init_57 : decode me_O_init.2.1 57 = .ok (.aload_n 0, 1) := by decide +kernel
theorem d_O_init_58 : decode me_O_init.2.1 58 = .ok (.iconst 0, 1) := by decide +kernel
theorem d_O_init_59 : decode me_O_init.2.1 59 = .ok (.putfield 36, 3) := by decide +kernel
theorem d_O_init_62 : decode me_O_init.2.1 62 = .ok (.aload_n 0, 1) := by decide +kernel
theorem d_O_init_63 : decode me_O_init.2.1 63 = .ok (.aload_n 1, 1) := by decide +kernel
theorem d_O_init_64 : decode me_O_init.2.1 64 = .ok (.putfield 39, 3) := by decide +kernel
theorem d_O_init_67 : decode me_O_init.2.1 67 = .ok (.aload_n 0, 1) := by decide +kernel
theorem d_O_init_68 : decode me_O_init.2.1 68 = .ok (.aload_n 2, 1) := by decide +kernel
theorem d_O_init_69 : decode me_O_init.2.1 69 = .ok (.putfield 43, 3) := by decide +kernel
theorem d_O_init_72 : decode me_O_init.2.1 72 = .ok (.return_, 1) := by decide +kernel
set_option maxRecDepth 100000 in
set_option maxHeartbeats 4000000 in
theorem N_O {l : Launch} {v : gs_V} {h0 a1 a2 : Nat} : gMn l v me_O_init rm_O 5 2004 [.ref h0, .ref a1, .ref a2] [(h0, .inr (7, [.null, .null, .null, .null, .null, .null, .null, .int 0, .int 0, .int 0]))] (cw_O v h0 a1 a2) := by
  refine gMn_of (by decide +kernel) rfl rfl (Nat.le_of_ble_eq_true rfl) ?_
  refine n_aload d_O_init_0 0 rfl rfl ?_
  refine n_obj d_O_init_1 lo_O (by decide) (by decide) ?_
  refine n_aload d_O_init_4 0 rfl rfl ?_
  refine n_sipush d_O_init_5 (x := 500) (by decide) ?_
  refine n_newa (t := 1) (N' := 500) (a0 := (500, .inr (.inl (fun _ => 0)))) d_O_init_8 gw_ac_long rfl (fun _ _ h => h) (fun _ => rfl) (by decide) (by decide) (by decide) (by decide) (by decide) (fun q8 => ?_)
  refine n_put (q0 := 0) (ws' := [(h0, .inr (7, [.null, .null, .ref q8, .null, .null, .null, .null, .int 0, .int 0, .int 0])), (q8, .inl (v.2.1 1, 500, .inr (.inl (fun _ => 0))))]) d_O_init_10 fi_O_9 rfl rfl rfl (Nat.le_of_ble_eq_true rfl) rfl ?_
  refine n_aload d_O_init_13 0 rfl rfl ?_
  refine n_sipush d_O_init_14 (x := 500) (by decide) ?_
  refine n_newa (t := 0) (N' := 500) (a0 := (500, .inl (fun _ => 0))) d_O_init_17 gw_ac_int rfl (fun _ _ h => h) (fun _ => rfl) (by decide) (by decide) (by decide) (by decide) (by decide) (fun q17 => ?_)
  refine n_put (q0 := 0) (ws' := [(h0, .inr (7, [.null, .null, .ref q8, .ref q17, .null, .null, .null, .int 0, .int 0, .int 0])), (q8, .inl (v.2.1 1, 500, .inr (.inl (fun _ => 0)))), (q17, .inl (v.2.1 0, 500, .inl (fun _ => 0)))]) d_O_init_19 fi_O_15 rfl rfl rfl (Nat.le_of_ble_eq_true rfl) rfl ?_
  refine n_aload d_O_init_22 0 rfl rfl ?_
  refine n_sipush d_O_init_23 (x := 500) (by decide) ?_
  refine n_newa (t := 0) (N' := 500) (a0 := (500, .inl (fun _ => 0))) d_O_init_26 gw_ac_int rfl (fun _ _ h => h) (fun _ => rfl) (by decide) (by decide) (by decide) (by decide) (by decide) (fun q26 => ?_)
  refine n_put (q0 := 0) (ws' := [(h0, .inr (7, [.null, .null, .ref q8, .ref q17, .ref q26, .null, .null, .int 0, .int 0, .int 0])), (q8, .inl (v.2.1 1, 500, .inr (.inl (fun _ => 0)))), (q17, .inl (v.2.1 0, 500, .inl (fun _ => 0))), (q26, .inl (v.2.1 0, 500, .inl (fun _ => 0)))]) d_O_init_28 fi_O_19 rfl rfl rfl (Nat.le_of_ble_eq_true rfl) rfl ?_
  refine n_aload d_O_init_31 0 rfl rfl ?_
  refine n_iconst d_O_init_32 (x := 4) (by decide) ?_
  refine n_newa (t := 1) (N' := 4) (a0 := (4, .inr (.inl (fun _ => 0)))) d_O_init_33 gw_ac_long rfl (fun _ _ h => h) (fun _ => rfl) (by decide) (by decide) (by decide) (by decide) (by decide) (fun q33 => ?_)
  refine n_put (q0 := 0) (ws' := [(h0, .inr (7, [.null, .null, .ref q8, .ref q17, .ref q26, .ref q33, .null, .int 0, .int 0, .int 0])), (q8, .inl (v.2.1 1, 500, .inr (.inl (fun _ => 0)))), (q17, .inl (v.2.1 0, 500, .inl (fun _ => 0))), (q26, .inl (v.2.1 0, 500, .inl (fun _ => 0))), (q33, .inl (v.2.1 1, 4, .inr (.inl (fun _ => 0))))]) d_O_init_35 fi_O_22 rfl rfl rfl (Nat.le_of_ble_eq_true rfl) rfl ?_
  refine n_aload d_O_init_38 0 rfl rfl ?_
  refine n_sipush d_O_init_39 (x := 500) (by decide) ?_
  refine n_newa (t := 0) (N' := 500) (a0 := (500, .inl (fun _ => 0))) d_O_init_42 gw_ac_int rfl (fun _ _ h => h) (fun _ => rfl) (by decide) (by decide) (by decide) (by decide) (by decide) (fun q42 => ?_)
  refine n_put (q0 := 0) (ws' := [(h0, .inr (7, [.null, .null, .ref q8, .ref q17, .ref q26, .ref q33, .ref q42, .int 0, .int 0, .int 0])), (q8, .inl (v.2.1 1, 500, .inr (.inl (fun _ => 0)))), (q17, .inl (v.2.1 0, 500, .inl (fun _ => 0))), (q26, .inl (v.2.1 0, 500, .inl (fun _ => 0))), (q33, .inl (v.2.1 1, 4, .inr (.inl (fun _ => 0)))), (q42, .inl (v.2.1 0, 500, .inl (fun _ => 0)))]) d_O_init_44 fi_O_25 rfl rfl rfl (Nat.le_of_ble_eq_true rfl) rfl ?_
  refine n_aload d_O_init_47 0 rfl rfl ?_
  refine n_iconst d_O_init_48 (x := 0) (by decide) ?_
  refine n_put (q0 := 0) (ws' := [(h0, .inr (7, [.null, .null, .ref q8, .ref q17, .ref q26, .ref q33, .ref q42, .int 0, .int 0, .int 0])), (q8, .inl (v.2.1 1, 500, .inr (.inl (fun _ => 0)))), (q17, .inl (v.2.1 0, 500, .inl (fun _ => 0))), (q26, .inl (v.2.1 0, 500, .inl (fun _ => 0))), (q33, .inl (v.2.1 1, 4, .inr (.inl (fun _ => 0)))), (q42, .inl (v.2.1 0, 500, .inl (fun _ => 0)))]) d_O_init_49 fi_O_28 rfl rfl rfl (Nat.le_of_ble_eq_true rfl) rfl ?_
  refine n_aload d_O_init_52 0 rfl rfl ?_
  refine n_iconst d_O_init_53 (x := 0) (by decide) ?_
  refine n_put (q0 := 0) (ws' := [(h0, .inr (7, [.null, .null, .ref q8, .ref q17, .ref q26, .ref q33, .ref q42, .int 0, .int 0, .int 0])), (q8, .inl (v.2.1 1, 500, .inr (.inl (fun _ => 0)))), (q17, .inl (v.2.1 0, 500, .inl (fun _ => 0))), (q26, .inl (v.2.1 0, 500, .inl (fun _ => 0))), (q33, .inl (v.2.1 1, 4, .inr (.inl (fun _ => 0)))), (q42, .inl (v.2.1 0, 500, .inl (fun _ => 0)))]) d_O_init_54 fi_O_32 rfl rfl rfl (Nat.le_of_ble_eq_true rfl) rfl ?_
  refine n_aload d_O_init_57 0 rfl rfl ?_
  refine n_iconst d_O_init_58 (x := 0) (by decide) ?_
  refine n_put (q0 := 0) (ws' := [(h0, .inr (7, [.null, .null, .ref q8, .ref q17, .ref q26, .ref q33, .ref q42, .int 0, .int 0, .int 0])), (q8, .inl (v.2.1 1, 500, .inr (.inl (fun _ => 0)))), (q17, .inl (v.2.1 0, 500, .inl (fun _ => 0))), (q26, .inl (v.2.1 0, 500, .inl (fun _ => 0))), (q33, .inl (v.2.1 1, 4, .inr (.inl (fun _ => 0)))), (q42, .inl (v.2.1 0, 500, .inl (fun _ => 0)))]) d_O_init_59 fi_O_36 rfl rfl rfl (Nat.le_of_ble_eq_true rfl) rfl ?_
  refine n_aload d_O_init_62 0 rfl rfl ?_
  refine n_aload d_O_init_63 1 rfl rfl ?_
  refine n_put (q0 := 0) (ws' := [(h0, .inr (7, [.ref a1, .null, .ref q8, .ref q17, .ref q26, .ref q33, .ref q42, .int 0, .int 0, .int 0])), (q8, .inl (v.2.1 1, 500, .inr (.inl (fun _ => 0)))), (q17, .inl (v.2.1 0, 500, .inl (fun _ => 0))), (q26, .inl (v.2.1 0, 500, .inl (fun _ => 0))), (q33, .inl (v.2.1 1, 4, .inr (.inl (fun _ => 0)))), (q42, .inl (v.2.1 0, 500, .inl (fun _ => 0)))]) d_O_init_64 fi_O_39 rfl rfl rfl (Nat.le_of_ble_eq_true rfl) rfl ?_
  refine n_aload d_O_init_67 0 rfl rfl ?_
  refine n_aload d_O_init_68 2 rfl rfl ?_
  refine n_put (q0 := 0) (ws' := [(h0, .inr (7, [.ref a1, .ref a2, .ref q8, .ref q17, .ref q26, .ref q33, .ref q42, .int 0, .int 0, .int 0])), (q8, .inl (v.2.1 1, 500, .inr (.inl (fun _ => 0)))), (q17, .inl (v.2.1 0, 500, .inl (fun _ => 0))), (q26, .inl (v.2.1 0, 500, .inl (fun _ => 0))), (q33, .inl (v.2.1 1, 4, .inr (.inl (fun _ => 0)))), (q42, .inl (v.2.1 0, 500, .inl (fun _ => 0)))]) d_O_init_69 fi_O_43 rfl rfl rfl (Nat.le_of_ble_eq_true rfl) rfl ?_
  exact n_ret (fun k => match k with | 1 => q8 | 2 => q17 | 3 => q26 | 4 => q33 | 5 => q42 | _ => 0) d_O_init_72 rfl
theorem lo_H : Cond.methodLink "LineRules$Past" 3 objectInit ∈ gw := (gw_t2 (List.mem_of_getElem? (i := 34) rfl) rfl)
theorem fi_H_9 : gFi "LineRules$Past" 9 8 2 (.array .long) := ⟨"LineRules$Past", TX8, 10, tyX8, rfl, by decide, inX8, (gw_t2 (List.mem_of_getElem? (i := 37) rfl) rfl), rfl, tyX8_ok, nmX8, rfl, by decide +kernel⟩
theorem fi_H_15 : gFi "LineRules$Past" 15 8 3 (.array .int) := ⟨"LineRules$Past", TX8, 10, tyX8, rfl, by decide, inX8, (gw_t2 (List.mem_of_getElem? (i := 38) rfl) rfl), rfl, tyX8_ok, nmX8, rfl, by decide +kernel⟩
theorem fi_H_19 : gFi "LineRules$Past" 19 8 4 (.array .long) := ⟨"LineRules$Past", TX8, 10, tyX8, rfl, by decide, inX8, (gw_t2 (List.mem_of_getElem? (i := 39) rfl) rfl), rfl, tyX8_ok, nmX8, rfl, by decide +kernel⟩
theorem fi_H_22 : gFi "LineRules$Past" 22 8 5 (.array .long) := ⟨"LineRules$Past", TX8, 10, tyX8, rfl, by decide, inX8, (gw_t2 (List.mem_of_getElem? (i := 40) rfl) rfl), rfl, tyX8_ok, nmX8, rfl, by decide +kernel⟩
theorem fi_H_25 : gFi "LineRules$Past" 25 8 6 .boolean := ⟨"LineRules$Past", TX8, 10, tyX8, rfl, by decide, inX8, (gw_t2 (List.mem_of_getElem? (i := 41) rfl) rfl), rfl, tyX8_ok, nmX8, rfl, by decide +kernel⟩
theorem fi_H_29 : gFi "LineRules$Past" 29 8 7 .boolean := ⟨"LineRules$Past", TX8, 10, tyX8, rfl, by decide, inX8, (gw_t2 (List.mem_of_getElem? (i := 42) rfl) rfl), rfl, tyX8_ok, nmX8, rfl, by decide +kernel⟩
theorem fi_H_32 : gFi "LineRules$Past" 32 8 8 .boolean := ⟨"LineRules$Past", TX8, 10, tyX8, rfl, by decide, inX8, (gw_t2 (List.mem_of_getElem? (i := 43) rfl) rfl), rfl, tyX8_ok, nmX8, rfl, by decide +kernel⟩
theorem fi_H_35 : gFi "LineRules$Past" 35 8 9 .long := ⟨"LineRules$Past", TX8, 10, tyX8, rfl, by decide, inX8, (gw_t2 (List.mem_of_getElem? (i := 44) rfl) rfl), rfl, tyX8_ok, nmX8, rfl, by decide +kernel⟩
theorem fi_H_39 : gFi "LineRules$Past" 39 8 0 (.object "LineRules$Rule") := ⟨"LineRules$Past", TX8, 10, tyX8, rfl, by decide, inX8, (gw_t2 (List.mem_of_getElem? (i := 35) rfl) rfl), rfl, tyX8_ok, nmX8, rfl, by decide +kernel⟩
theorem fi_H_43 : gFi "LineRules$Past" 43 8 1 (.object "LineRules$Ring") := ⟨"LineRules$Past", TX8, 10, tyX8, rfl, by decide, inX8, (gw_t2 (List.mem_of_getElem? (i := 36) rfl) rfl), rfl, tyX8_ok, nmX8, rfl, by decide +kernel⟩
def cw_H (v : gs_V) (h0 : Nat) (a1 a2 : Nat) (u : Nat → Nat) : va_W := [(h0, .inr (8, [.ref a1, .ref a2, .ref (u 1), .ref (u 2), .ref (u 3), .ref (u 4), .int 0, .int 0, .int 0, .long 0])), (u 1, .inl (v.2.1 1, 65, .inr (.inl (fun _ => 0)))), (u 2, .inl (v.2.1 0, 64, .inl (fun _ => 0))), (u 3, .inl (v.2.1 1, 64, .inr (.inl (fun _ => 0)))), (u 4, .inl (v.2.1 1, 64, .inr (.inl (fun _ => 0))))]
abbrev rm_H : Room := { frames := 1, cells := 4, slots := 257, locals := 12 }
theorem d_H_init_0 : decode me_H_init.2.1 0 = .ok (.aload_n 0, 1) := by decide +kernel
theorem d_H_init_1 : decode me_H_init.2.1 1 = .ok (.invokespecial 3, 3) := by decide +kernel
theorem d_H_init_4 : decode me_H_init.2.1 4 = .ok (.aload_n 0, 1) := by decide +kernel
theorem d_H_init_5 : decode me_H_init.2.1 5 = .ok (.bipush 65, 2) := by decide +kernel
theorem d_H_init_7 : decode me_H_init.2.1 7 = .ok (.newarray .long, 2) := by decide +kernel
theorem d_H_init_9 : decode me_H_init.2.1 9 = .ok (.putfield 9, 3) := by decide +kernel
theorem d_H_init_12 : decode me_H_init.2.1 12 = .ok (.aload_n 0, 1) := by decide +kernel
theorem d_H_init_13 : decode me_H_init.2.1 13 = .ok (.bipush 64, 2) := by decide +kernel
theorem d_H_init_15 : decode me_H_init.2.1 15 = .ok (.newarray .int, 2) := by decide +kernel
theorem d_H_init_17 : decode me_H_init.2.1 17 = .ok (.putfield 15, 3) := by decide +kernel
theorem d_H_init_20 : decode me_H_init.2.1 20 = .ok (.aload_n 0, 1) := by decide +kernel
theorem d_H_init_21 : decode me_H_init.2.1 21 = .ok (.bipush 64, 2) := by decide +kernel
theorem d_H_init_23 : decode me_H_init.2.1 23 = .ok (.newarray .long, 2) := by decide +kernel
theorem d_H_init_25 : decode me_H_init.2.1 25 = .ok (.putfield 19, 3) := by decide +kernel
theorem d_H_init_28 : decode me_H_init.2.1 28 = .ok (.aload_n 0, 1) := by decide +kernel
theorem d_H_init_29 : decode me_H_init.2.1 29 = .ok (.bipush 64, 2) := by decide +kernel
theorem d_H_init_31 : decode me_H_init.2.1 31 = .ok (.newarray .long, 2) := by decide +kernel
theorem d_H_init_33 : decode me_H_init.2.1 33 = .ok (.putfield 22, 3) := by decide +kernel
theorem d_H_init_36 : decode me_H_init.2.1 36 = .ok (.aload_n 0, 1) := by decide +kernel
theorem d_H_init_37 : decode me_H_init.2.1 37 = .ok (.iconst 0, 1) := by decide +kernel
theorem d_H_init_38 : decode me_H_init.2.1 38 = .ok (.putfield 25, 3) := by decide +kernel
theorem d_H_init_41 : decode me_H_init.2.1 41 = .ok (.aload_n 0, 1) := by decide +kernel
theorem d_H_init_42 : decode me_H_init.2.1 42 = .ok (.iconst 0, 1) := by decide +kernel
theorem d_H_init_43 : decode me_H_init.2.1 43 = .ok (.putfield 29, 3) := by decide +kernel
theorem d_H_init_46 : decode me_H_init.2.1 46 = .ok (.aload_n 0, 1) := by decide +kernel
theorem d_H_init_47 : decode me_H_init.2.1 47 = .ok (.iconst 0, 1) := by decide +kernel
theorem d_H_init_48 : decode me_H_init.2.1 48 = .ok (.putfield 32, 3) := by decide +kernel
theorem d_H_init_51 : decode me_H_init.2.1 51 = .ok (.aload_n 0, 1) := by decide +kernel
theorem d_H_init_52 : decode me_H_init.2.1 52 = .ok (.lconst 0, 1) := by decide +kernel
theorem d_H_init_53 : decode me_H_init.2.1 53 = .ok (.putfield 35, 3) := by decide +kernel
theorem d_H_init_56 : decode me_H_init.2.1 56 = .ok (.aload_n 0, 1) := by decide +kernel
theorem d_H_init_57 : decode me_H_init.2.1 57 = .ok (.aload_n 1, 1) := by decide +kernel
theorem d_H_init_58 : decode me_H_init.2.1 58 = .ok (.putfield 39, 3) := by decide +kernel
theorem d_H_init_61 : decode me_H_init.2.1 61 = .ok (.aload_n 0, 1) := by decide +kernel
theorem d_H_init_62 : decode me_H_init.2.1 62 = .ok (.aload_n 2, 1) := by decide +kernel
theorem d_H_init_63 : decode me_H_init.2.1 63 = .ok (.putfield 43, 3) := by decide +kernel
theorem d_H_init_66 : decode me_H_init.2.1 66 = .ok (.return_, 1) := by decide +kernel
set_option maxRecDepth 100000 in
set_option maxHeartbeats 4000000 in
theorem N_H {l : Launch} {v : gs_V} {h0 a1 a2 : Nat} : gMn l v me_H_init rm_H 4 257 [.ref h0, .ref a1, .ref a2] [(h0, .inr (8, [.null, .null, .null, .null, .null, .null, .int 0, .int 0, .int 0, .long 0]))] (cw_H v h0 a1 a2) := by
  refine gMn_of (by decide +kernel) rfl rfl (Nat.le_of_ble_eq_true rfl) ?_
  refine n_aload d_H_init_0 0 rfl rfl ?_
  refine n_obj d_H_init_1 lo_H (by decide) (by decide) ?_
  refine n_aload d_H_init_4 0 rfl rfl ?_
  refine n_bipush d_H_init_5 (x := 65) (by decide) ?_
  refine n_newa (t := 1) (N' := 65) (a0 := (65, .inr (.inl (fun _ => 0)))) d_H_init_7 gw_ac_long rfl (fun _ _ h => h) (fun _ => rfl) (by decide) (by decide) (by decide) (by decide) (by decide) (fun q7 => ?_)
  refine n_put (q0 := 0) (ws' := [(h0, .inr (8, [.null, .null, .ref q7, .null, .null, .null, .int 0, .int 0, .int 0, .long 0])), (q7, .inl (v.2.1 1, 65, .inr (.inl (fun _ => 0))))]) d_H_init_9 fi_H_9 rfl rfl rfl (Nat.le_of_ble_eq_true rfl) rfl ?_
  refine n_aload d_H_init_12 0 rfl rfl ?_
  refine n_bipush d_H_init_13 (x := 64) (by decide) ?_
  refine n_newa (t := 0) (N' := 64) (a0 := (64, .inl (fun _ => 0))) d_H_init_15 gw_ac_int rfl (fun _ _ h => h) (fun _ => rfl) (by decide) (by decide) (by decide) (by decide) (by decide) (fun q15 => ?_)
  refine n_put (q0 := 0) (ws' := [(h0, .inr (8, [.null, .null, .ref q7, .ref q15, .null, .null, .int 0, .int 0, .int 0, .long 0])), (q7, .inl (v.2.1 1, 65, .inr (.inl (fun _ => 0)))), (q15, .inl (v.2.1 0, 64, .inl (fun _ => 0)))]) d_H_init_17 fi_H_15 rfl rfl rfl (Nat.le_of_ble_eq_true rfl) rfl ?_
  refine n_aload d_H_init_20 0 rfl rfl ?_
  refine n_bipush d_H_init_21 (x := 64) (by decide) ?_
  refine n_newa (t := 1) (N' := 64) (a0 := (64, .inr (.inl (fun _ => 0)))) d_H_init_23 gw_ac_long rfl (fun _ _ h => h) (fun _ => rfl) (by decide) (by decide) (by decide) (by decide) (by decide) (fun q23 => ?_)
  refine n_put (q0 := 0) (ws' := [(h0, .inr (8, [.null, .null, .ref q7, .ref q15, .ref q23, .null, .int 0, .int 0, .int 0, .long 0])), (q7, .inl (v.2.1 1, 65, .inr (.inl (fun _ => 0)))), (q15, .inl (v.2.1 0, 64, .inl (fun _ => 0))), (q23, .inl (v.2.1 1, 64, .inr (.inl (fun _ => 0))))]) d_H_init_25 fi_H_19 rfl rfl rfl (Nat.le_of_ble_eq_true rfl) rfl ?_
  refine n_aload d_H_init_28 0 rfl rfl ?_
  refine n_bipush d_H_init_29 (x := 64) (by decide) ?_
  refine n_newa (t := 1) (N' := 64) (a0 := (64, .inr (.inl (fun _ => 0)))) d_H_init_31 gw_ac_long rfl (fun _ _ h => h) (fun _ => rfl) (by decide) (by decide) (by decide) (by decide) (by decide) (fun q31 => ?_)
  refine n_put (q0 := 0) (ws' := [(h0, .inr (8, [.null, .null, .ref q7, .ref q15, .ref q23, .ref q31, .int 0, .int 0, .int 0, .long 0])), (q7, .inl (v.2.1 1, 65, .inr (.inl (fun _ => 0)))), (q15, .inl (v.2.1 0, 64, .inl (fun _ => 0))), (q23, .inl (v.2.1 1, 64, .inr (.inl (fun _ => 0)))), (q31, .inl (v.2.1 1, 64, .inr (.inl (fun _ => 0))))]) d_H_init_33 fi_H_22 rfl rfl rfl (Nat.le_of_ble_eq_true rfl) rfl ?_
  refine n_aload d_H_init_36 0 rfl rfl ?_
  refine n_iconst d_H_init_37 (x := 0) (by decide) ?_
  refine n_put (q0 := 0) (ws' := [(h0, .inr (8, [.null, .null, .ref q7, .ref q15, .ref q23, .ref q31, .int 0, .int 0, .int 0, .long 0])), (q7, .inl (v.2.1 1, 65, .inr (.inl (fun _ => 0)))), (q15, .inl (v.2.1 0, 64, .inl (fun _ => 0))), (q23, .inl (v.2.1 1, 64, .inr (.inl (fun _ => 0)))), (q31, .inl (v.2.1 1, 64, .inr (.inl (fun _ => 0))))]) d_H_init_38 fi_H_25 rfl rfl rfl (Nat.le_of_ble_eq_true rfl) rfl ?_
  refine n_aload d_H_init_41 0 rfl rfl ?_
  refine n_iconst d_H_init_42 (x := 0) (by decide) ?_
  refine n_put (q0 := 0) (ws' := [(h0, .inr (8, [.null, .null, .ref q7, .ref q15, .ref q23, .ref q31, .int 0, .int 0, .int 0, .long 0])), (q7, .inl (v.2.1 1, 65, .inr (.inl (fun _ => 0)))), (q15, .inl (v.2.1 0, 64, .inl (fun _ => 0))), (q23, .inl (v.2.1 1, 64, .inr (.inl (fun _ => 0)))), (q31, .inl (v.2.1 1, 64, .inr (.inl (fun _ => 0))))]) d_H_init_43 fi_H_29 rfl rfl rfl (Nat.le_of_ble_eq_true rfl) rfl ?_
  refine n_aload d_H_init_46 0 rfl rfl ?_
  refine n_iconst d_H_init_47 (x := 0) (by decide) ?_
  refine n_put (q0 := 0) (ws' := [(h0, .inr (8, [.null, .null, .ref q7, .ref q15, .ref q23, .ref q31, .int 0, .int 0, .int 0, .long 0])), (q7, .inl (v.2.1 1, 65, .inr (.inl (fun _ => 0)))), (q15, .inl (v.2.1 0, 64, .inl (fun _ => 0))), (q23, .inl (v.2.1 1, 64, .inr (.inl (fun _ => 0)))), (q31, .inl (v.2.1 1, 64, .inr (.inl (fun _ => 0))))]) d_H_init_48 fi_H_32 rfl rfl rfl (Nat.le_of_ble_eq_true rfl) rfl ?_
  refine n_aload d_H_init_51 0 rfl rfl ?_
  refine n_lconst d_H_init_52 (x := 0) (by decide) ?_
  refine n_put (q0 := 0) (ws' := [(h0, .inr (8, [.null, .null, .ref q7, .ref q15, .ref q23, .ref q31, .int 0, .int 0, .int 0, .long 0])), (q7, .inl (v.2.1 1, 65, .inr (.inl (fun _ => 0)))), (q15, .inl (v.2.1 0, 64, .inl (fun _ => 0))), (q23, .inl (v.2.1 1, 64, .inr (.inl (fun _ => 0)))), (q31, .inl (v.2.1 1, 64, .inr (.inl (fun _ => 0))))]) d_H_init_53 fi_H_35 rfl rfl rfl (Nat.le_of_ble_eq_true rfl) rfl ?_
  refine n_aload d_H_init_56 0 rfl rfl ?_
  refine n_aload d_H_init_57 1 rfl rfl ?_
  refine n_put (q0 := 0) (ws' := [(h0, .inr (8, [.ref a1, .null, .ref q7, .ref q15, .ref q23, .ref q31, .int 0, .int 0, .int 0, .long 0])), (q7, .inl (v.2.1 1, 65, .inr (.inl (fun _ => 0)))), (q15, .inl (v.2.1 0, 64, .inl (fun _ => 0))), (q23, .inl (v.2.1 1, 64, .inr (.inl (fun _ => 0)))), (q31, .inl (v.2.1 1, 64, .inr (.inl (fun _ => 0))))]) d_H_init_58 fi_H_39 rfl rfl rfl (Nat.le_of_ble_eq_true rfl) rfl ?_
  refine n_aload d_H_init_61 0 rfl rfl ?_
  refine n_aload d_H_init_62 2 rfl rfl ?_
  refine n_put (q0 := 0) (ws' := [(h0, .inr (8, [.ref a1, .ref a2, .ref q7, .ref q15, .ref q23, .ref q31, .int 0, .int 0, .int 0, .long 0])), (q7, .inl (v.2.1 1, 65, .inr (.inl (fun _ => 0)))), (q15, .inl (v.2.1 0, 64, .inl (fun _ => 0))), (q23, .inl (v.2.1 1, 64, .inr (.inl (fun _ => 0)))), (q31, .inl (v.2.1 1, 64, .inr (.inl (fun _ => 0))))]) d_H_init_63 fi_H_43 rfl rfl rfl (Nat.le_of_ble_eq_true rfl) rfl ?_
  exact n_ret (fun k => match k with | 1 => q7 | 2 => q15 | 3 => q23 | 4 => q31 | _ => 0) d_H_init_66 rfl
theorem lo_M : Cond.methodLink "LineRulesModel" 1 objectInit ∈ gw := (gw_t4 (List.mem_of_getElem? (i := 61) rfl) rfl)
theorem fi_M_7 : gFi "LineRulesModel" 7 9 1 (.array .int) := ⟨"LineRulesModel", TX9, 54, tyX9, rfl, by decide, inX9, (gw_t4 (List.mem_of_getElem? (i := 63) rfl) rfl), rfl, tyX9_ok, nmX9, rfl, by decide +kernel⟩
theorem fi_M_13 : gFi "LineRulesModel" 13 9 6 (.array .int) := ⟨"LineRulesModel", TX9, 54, tyX9, rfl, by decide, inX9, (gw_t4 (List.mem_of_getElem? (i := 68) rfl) rfl), rfl, tyX9_ok, nmX9, rfl, by decide +kernel⟩
theorem fi_M_16 : gFi "LineRulesModel" 16 9 7 .int := ⟨"LineRulesModel", TX9, 54, tyX9, rfl, by decide, inX9, (gw_t4 (List.mem_of_getElem? (i := 69) rfl) rfl), rfl, tyX9_ok, nmX9, rfl, by decide +kernel⟩
theorem fi_M_20 : gFi "LineRulesModel" 20 9 8 (.array .int) := ⟨"LineRulesModel", TX9, 54, tyX9, rfl, by decide, inX9, (gw_t4 (List.mem_of_getElem? (i := 70) rfl) rfl), rfl, tyX9_ok, nmX9, rfl, by decide +kernel⟩
theorem fi_M_23 : gFi "LineRulesModel" 23 9 9 (.array .int) := ⟨"LineRulesModel", TX9, 54, tyX9, rfl, by decide, inX9, (gw_t4 (List.mem_of_getElem? (i := 71) rfl) rfl), rfl, tyX9_ok, nmX9, rfl, by decide +kernel⟩
theorem fi_M_26 : gFi "LineRulesModel" 26 9 14 (.array .int) := ⟨"LineRulesModel", TX9, 54, tyX9, rfl, by decide, inX9, (gw_t4 (List.mem_of_getElem? (i := 76) rfl) rfl), rfl, tyX9_ok, nmX9, rfl, by decide +kernel⟩
theorem fi_M_29 : gFi "LineRulesModel" 29 9 15 (.array .int) := ⟨"LineRulesModel", TX9, 54, tyX9, rfl, by decide, inX9, (gw_t4 (List.mem_of_getElem? (i := 77) rfl) rfl), rfl, tyX9_ok, nmX9, rfl, by decide +kernel⟩
theorem fi_M_32 : gFi "LineRulesModel" 32 9 16 (.array .int) := ⟨"LineRulesModel", TX9, 54, tyX9, rfl, by decide, inX9, (gw_t4 (List.mem_of_getElem? (i := 78) rfl) rfl), rfl, tyX9_ok, nmX9, rfl, by decide +kernel⟩
theorem fi_M_35 : gFi "LineRulesModel" 35 9 17 (.array .int) := ⟨"LineRulesModel", TX9, 54, tyX9, rfl, by decide, inX9, (gw_t4 (List.mem_of_getElem? (i := 79) rfl) rfl), rfl, tyX9_ok, nmX9, rfl, by decide +kernel⟩
theorem fi_M_38 : gFi "LineRulesModel" 38 9 18 (.array .int) := ⟨"LineRulesModel", TX9, 54, tyX9, rfl, by decide, inX9, (gw_t4 (List.mem_of_getElem? (i := 80) rfl) rfl), rfl, tyX9_ok, nmX9, rfl, by decide +kernel⟩
theorem fi_M_41 : gFi "LineRulesModel" 41 9 19 (.array .boolean) := ⟨"LineRulesModel", TX9, 54, tyX9, rfl, by decide, inX9, (gw_t4 (List.mem_of_getElem? (i := 81) rfl) rfl), rfl, tyX9_ok, nmX9, rfl, by decide +kernel⟩
theorem fi_M_45 : gFi "LineRulesModel" 45 9 20 (.array .int) := ⟨"LineRulesModel", TX9, 54, tyX9, rfl, by decide, inX9, (gw_t4 (List.mem_of_getElem? (i := 82) rfl) rfl), rfl, tyX9_ok, nmX9, rfl, by decide +kernel⟩
theorem fi_M_48 : gFi "LineRulesModel" 48 9 21 (.array .int) := ⟨"LineRulesModel", TX9, 54, tyX9, rfl, by decide, inX9, (gw_t4 (List.mem_of_getElem? (i := 83) rfl) rfl), rfl, tyX9_ok, nmX9, rfl, by decide +kernel⟩
theorem fi_M_51 : gFi "LineRulesModel" 51 9 22 (.array .int) := ⟨"LineRulesModel", TX9, 54, tyX9, rfl, by decide, inX9, (gw_t4 (List.mem_of_getElem? (i := 84) rfl) rfl), rfl, tyX9_ok, nmX9, rfl, by decide +kernel⟩
theorem fi_M_54 : gFi "LineRulesModel" 54 9 23 (.array .int) := ⟨"LineRulesModel", TX9, 54, tyX9, rfl, by decide, inX9, (gw_t4 (List.mem_of_getElem? (i := 85) rfl) rfl), rfl, tyX9_ok, nmX9, rfl, by decide +kernel⟩
theorem fi_M_57 : gFi "LineRulesModel" 57 9 24 (.array .int) := ⟨"LineRulesModel", TX9, 54, tyX9, rfl, by decide, inX9, (gw_t4 (List.mem_of_getElem? (i := 86) rfl) rfl), rfl, tyX9_ok, nmX9, rfl, by decide +kernel⟩
theorem fi_M_60 : gFi "LineRulesModel" 60 9 25 (.array .boolean) := ⟨"LineRulesModel", TX9, 54, tyX9, rfl, by decide, inX9, (gw_t4 (List.mem_of_getElem? (i := 87) rfl) rfl), rfl, tyX9_ok, nmX9, rfl, by decide +kernel⟩
theorem fi_M_63 : gFi "LineRulesModel" 63 9 26 (.array .int) := ⟨"LineRulesModel", TX9, 54, tyX9, rfl, by decide, inX9, (gw_t4 (List.mem_of_getElem? (i := 88) rfl) rfl), rfl, tyX9_ok, nmX9, rfl, by decide +kernel⟩
theorem fi_M_66 : gFi "LineRulesModel" 66 9 27 (.array .boolean) := ⟨"LineRulesModel", TX9, 54, tyX9, rfl, by decide, inX9, (gw_t4 (List.mem_of_getElem? (i := 89) rfl) rfl), rfl, tyX9_ok, nmX9, rfl, by decide +kernel⟩
theorem fi_M_69 : gFi "LineRulesModel" 69 9 30 (.array .boolean) := ⟨"LineRulesModel", TX9, 54, tyX9, rfl, by decide, inX9, (gw_t4 (List.mem_of_getElem? (i := 92) rfl) rfl), rfl, tyX9_ok, nmX9, rfl, by decide +kernel⟩
theorem fi_M_72 : gFi "LineRulesModel" 72 9 34 (.array .int) := ⟨"LineRulesModel", TX9, 54, tyX9, rfl, by decide, inX9, (gw_t4 (List.mem_of_getElem? (i := 96) rfl) rfl), rfl, tyX9_ok, nmX9, rfl, by decide +kernel⟩
theorem fi_M_75 : gFi "LineRulesModel" 75 9 37 (.array .int) := ⟨"LineRulesModel", TX9, 54, tyX9, rfl, by decide, inX9, (gw_t4 (List.mem_of_getElem? (i := 99) rfl) rfl), rfl, tyX9_ok, nmX9, rfl, by decide +kernel⟩
theorem fi_M_78 : gFi "LineRulesModel" 78 9 38 (.array .boolean) := ⟨"LineRulesModel", TX9, 54, tyX9, rfl, by decide, inX9, (gw_t4 (List.mem_of_getElem? (i := 100) rfl) rfl), rfl, tyX9_ok, nmX9, rfl, by decide +kernel⟩
theorem fi_M_81 : gFi "LineRulesModel" 81 9 39 (.array .long) := ⟨"LineRulesModel", TX9, 54, tyX9, rfl, by decide, inX9, (gw_t4 (List.mem_of_getElem? (i := 101) rfl) rfl), rfl, tyX9_ok, nmX9, rfl, by decide +kernel⟩
theorem fi_M_85 : gFi "LineRulesModel" 85 9 40 (.array .long) := ⟨"LineRulesModel", TX9, 54, tyX9, rfl, by decide, inX9, (gw_t4 (List.mem_of_getElem? (i := 102) rfl) rfl), rfl, tyX9_ok, nmX9, rfl, by decide +kernel⟩
theorem fi_M_88 : gFi "LineRulesModel" 88 9 43 (.array .int) := ⟨"LineRulesModel", TX9, 54, tyX9, rfl, by decide, inX9, (gw_t4 (List.mem_of_getElem? (i := 105) rfl) rfl), rfl, tyX9_ok, nmX9, rfl, by decide +kernel⟩
theorem fi_M_91 : gFi "LineRulesModel" 91 9 44 (.array .long) := ⟨"LineRulesModel", TX9, 54, tyX9, rfl, by decide, inX9, (gw_t4 (List.mem_of_getElem? (i := 106) rfl) rfl), rfl, tyX9_ok, nmX9, rfl, by decide +kernel⟩
theorem fi_M_94 : gFi "LineRulesModel" 94 9 45 (.array .int) := ⟨"LineRulesModel", TX9, 54, tyX9, rfl, by decide, inX9, (gw_t4 (List.mem_of_getElem? (i := 107) rfl) rfl), rfl, tyX9_ok, nmX9, rfl, by decide +kernel⟩
theorem fi_M_97 : gFi "LineRulesModel" 97 9 46 (.array .int) := ⟨"LineRulesModel", TX9, 54, tyX9, rfl, by decide, inX9, (gw_t4 (List.mem_of_getElem? (i := 108) rfl) rfl), rfl, tyX9_ok, nmX9, rfl, by decide +kernel⟩
theorem fi_M_100 : gFi "LineRulesModel" 100 9 50 (.array .int) := ⟨"LineRulesModel", TX9, 54, tyX9, rfl, by decide, inX9, (gw_t4 (List.mem_of_getElem? (i := 112) rfl) rfl), rfl, tyX9_ok, nmX9, rfl, by decide +kernel⟩
theorem fi_M_103 : gFi "LineRulesModel" 103 9 51 (.array .long) := ⟨"LineRulesModel", TX9, 54, tyX9, rfl, by decide, inX9, (gw_t4 (List.mem_of_getElem? (i := 113) rfl) rfl), rfl, tyX9_ok, nmX9, rfl, by decide +kernel⟩
theorem fi_M_106 : gFi "LineRulesModel" 106 9 52 (.array .long) := ⟨"LineRulesModel", TX9, 54, tyX9, rfl, by decide, inX9, (gw_t4 (List.mem_of_getElem? (i := 114) rfl) rfl), rfl, tyX9_ok, nmX9, rfl, by decide +kernel⟩
theorem fi_M_109 : gFi "LineRulesModel" 109 9 53 (.array .long) := ⟨"LineRulesModel", TX9, 54, tyX9, rfl, by decide, inX9, (gw_t4 (List.mem_of_getElem? (i := 115) rfl) rfl), rfl, tyX9_ok, nmX9, rfl, by decide +kernel⟩
abbrev rm_M : Room := { frames := 1, cells := 32, slots := 7965, locals := 12 }
theorem d_M_init_0 : decode me_M_init.2.1 0 = .ok (.aload_n 0, 1) := by decide +kernel
theorem d_M_init_1 : decode me_M_init.2.1 1 = .ok (.invokespecial 1, 3) := by decide +kernel
theorem d_M_init_4 : decode me_M_init.2.1 4 = .ok (.aload_n 0, 1) := by decide +kernel
theorem d_M_init_5 : decode me_M_init.2.1 5 = .ok (.bipush 64, 2) := by decide +kernel
theorem d_M_init_7 : decode me_M_init.2.1 7 = .ok (.newarray .int, 2) := by decide +kernel
theorem d_M_init_9 : decode me_M_init.2.1 9 = .ok (.putfield 7, 3) := by decide +kernel
theorem d_M_init_12 : decode me_M_init.2.1 12 = .ok (.aload_n 0, 1) := by decide +kernel
theorem d_M_init_13 : decode me_M_init.2.1 13 = .ok (.sipush 256, 3) := by decide +kernel
theorem d_M_init_16 : decode me_M_init.2.1 16 = .ok (.newarray .int, 2) := by decide +kernel
theorem d_M_init_18 : decode me_M_init.2.1 18 = .ok (.putfield 13, 3) := by decide +kernel
theorem d_M_init_21 : decode me_M_init.2.1 21 = .ok (.aload_n 0, 1) := by decide +kernel
theorem d_M_init_22 : decode me_M_init.2.1 22 = .ok (.iconst 1, 1) := by decide +kernel
theorem d_M_init_23 : decode me_M_init.2.1 23 = .ok (.putfield 16, 3) := by decide +kernel
theorem d_M_init_26 : decode me_M_init.2.1 26 = .ok (.aload_n 0, 1) := by decide +kernel
theorem d_M_init_27 : decode me_M_init.2.1 27 = .ok (.bipush 64, 2) := by decide +kernel
theorem d_M_init_29 : decode me_M_init.2.1 29 = .ok (.newarray .int, 2) := by decide +kernel
theorem d_M_init_31 : decode me_M_init.2.1 31 = .ok (.putfield 20, 3) := by decide +kernel
theorem d_M_init_34 : decode me_M_init.2.1 34 = .ok (.aload_n 0, 1) := by decide +kernel
theorem d_M_init_35 : decode me_M_init.2.1 35 = .ok (.bipush 64, 2) := by decide +kernel
theorem d_M_init_37 : decode me_M_init.2.1 37 = .ok (.newarray .int, 2) := by decide +kernel
theorem d_M_init_39 : decode me_M_init.2.1 39 = .ok (.putfield 23, 3) := by decide +kernel
theorem d_M_init_42 : decode me_M_init.2.1 42 = .ok (.aload_n 0, 1) := by decide +kernel
theorem d_M_init_43 : decode me_M_init.2.1 43 = .ok (.bipush 6, 2) := by decide +kernel
theorem d_M_init_45 : decode me_M_init.2.1 45 = .ok (.newarray .int, 2) := by decide +kernel
theorem d_M_init_47 : decode me_M_init.2.1 47 = .ok (.putfield 26, 3) := by decide +kernel
theorem d_M_init_50 : decode me_M_init.2.1 50 = .ok (.aload_n 0, 1) := by decide +kernel
theorem d_M_init_51 : decode me_M_init.2.1 51 = .ok (.bipush 6, 2) := by decide +kernel
theorem d_M_init_53 : decode me_M_init.2.1 53 = .ok (.newarray .int, 2) := by decide +kernel
theorem d_M_init_55 : decode me_M_init.2.1 55 = .ok (.putfield 29, 3) := by decide +kernel
theorem d_M_init_58 : decode me_M_init.2.1 58 = .ok (.aload_n 0, 1) := by decide +kernel
theorem d_M_init_59 : decode me_M_init.2.1 59 = .ok (.bipush 6, 2) := by decide +kernel
theorem d_M_init_61 : decode me_M_init.2.1 61 = .ok (.newarray .int, 2) := by decide +kernel
theorem d_M_init_63 : decode me_M_init.2.1 63 = .ok (.putfield 32, 3) := by decide +kernel
theorem d_M_init_66 : decode me_M_init.2.1 66 = .ok (.aload_n 0, 1) := by decide +kernel
theorem d_M_init_67 : decode me_M_init.2.1 67 = .ok (.bipush 6, 2) := by decide +kernel
theorem d_M_init_69 : decode me_M_init.2.1 69 = .ok (.newarray .int, 2) := by decide +kernel
theorem d_M_init_71 : decode me_M_init.2.1 71 = .ok (.putfield 35, 3) := by decide +kernel
theorem d_M_init_74 : decode me_M_init.2.1 74 = .ok (.aload_n 0, 1) := by decide +kernel
theorem d_M_init_75 : decode me_M_init.2.1 75 = .ok (.bipush 6, 2) := by decide +kernel
theorem d_M_init_77 : decode me_M_init.2.1 77 = .ok (.newarray .int, 2) := by decide +kernel
theorem d_M_init_79 : decode me_M_init.2.1 79 = .ok (.putfield 38, 3) := by decide +kernel
theorem d_M_init_82 : decode me_M_init.2.1 82 = .ok (.aload_n 0, 1) := by decide +kernel
theorem d_M_init_83 : decode me_M_init.2.1 83 = .ok (.bipush 6, 2) := by decide +kernel
theorem d_M_init_85 : decode me_M_init.2.1 85 = .ok (.newarray .boolean, 2) := by decide +kernel
theorem d_M_init_87 : decode me_M_init.2.1 87 = .ok (.putfield 41, 3) := by decide +kernel
theorem d_M_init_90 : decode me_M_init.2.1 90 = .ok (.aload_n 0, 1) := by decide +kernel
theorem d_M_init_91 : decode me_M_init.2.1 91 = .ok (.bipush 6, 2) := by decide +kernel
theorem d_M_init_93 : decode me_M_init.2.1 93 = .ok (.newarray .int, 2) := by decide +kernel
theorem d_M_init_95 : decode me_M_init.2.1 95 = .ok (.putfield 45, 3) := by decide +kernel
theorem d_M_init_98 : decode me_M_init.2.1 98 = .ok (.aload_n 0, 1) := by decide +kernel
theorem d_M_init_99 : decode me_M_init.2.1 99 = .ok (.bipush 6, 2) := by decide +kernel
theorem d_M_init_101 : decode me_M_init.2.1 101 = .ok (.newarray .int, 2) := by decide +kernel
theorem d_M_init_103 : decode me_M_init.2.1 103 = .ok (.putfield 48, 3) := by decide +kernel
theorem d_M_init_106 : decode me_M_init.2.1 106 = .ok (.aload_n 0, 1) := by decide +kernel
theorem d_M_init_107 : decode me_M_init.2.1 107 = .ok (.bipush 6, 2) := by decide +kernel
theorem d_M_init_109 : decode me_M_init.2.1 109 = .ok (.newarray .int, 2) := by decide +kernel
theorem d_M_init_111 : decode me_M_init.2.1 111 = .ok (.putfield 51, 3) := by decide +kernel
theorem d_M_init_114 : decode me_M_init.2.1 114 = .ok (.aload_n 0, 1) := by decide +kernel
theorem d_M_init_115 : decode me_M_init.2.1 115 = .ok (.bipush 6, 2) := by decide +kernel
theorem d_M_init_117 : decode me_M_init.2.1 117 = .ok (.newarray .int, 2) := by decide +kernel
theorem d_M_init_119 : decode me_M_init.2.1 119 = .ok (.putfield 54, 3) := by decide +kernel
theorem d_M_init_122 : decode me_M_init.2.1 122 = .ok (.aload_n 0, 1) := by decide +kernel
theorem d_M_init_123 : decode me_M_init.2.1 123 = .ok (.bipush 6, 2) := by decide +kernel
theorem d_M_init_125 : decode me_M_init.2.1 125 = .ok (.newarray .int, 2) := by decide +kernel
theorem d_M_init_127 : decode me_M_init.2.1 127 = .ok (.putfield 57, 3) := by decide +kernel
theorem d_M_init_130 : decode me_M_init.2.1 130 = .ok (.aload_n 0, 1) := by decide +kernel
theorem d_M_init_131 : decode me_M_init.2.1 131 = .ok (.bipush 6, 2) := by decide +kernel
theorem d_M_init_133 : decode me_M_init.2.1 133 = .ok (.newarray .boolean, 2) := by decide +kernel
theorem d_M_init_135 : decode me_M_init.2.1 135 = .ok (.putfield 60, 3) := by decide +kernel
theorem d_M_init_138 : decode me_M_init.2.1 138 = .ok (.aload_n 0, 1) := by decide +kernel
theorem d_M_init_139 : decode me_M_init.2.1 139 = .ok (.bipush 6, 2) := by decide +kernel
theorem d_M_init_141 : decode me_M_init.2.1 141 = .ok (.newarray .int, 2) := by decide +kernel
theorem d_M_init_143 : decode me_M_init.2.1 143 = .ok (.putfield 63, 3) := by decide +kernel
theorem d_M_init_146 : decode me_M_init.2.1 146 = .ok (.aload_n 0, 1) := by decide +kernel
theorem d_M_init_147 : decode me_M_init.2.1 147 = .ok (.bipush 6, 2) := by decide +kernel
theorem d_M_init_149 : decode me_M_init.2.1 149 = .ok (.newarray .boolean, 2) := by decide +kernel
theorem d_M_init_151 : decode me_M_init.2.1 151 = .ok (.putfield 66, 3) := by decide +kernel
theorem d_M_init_154 : decode me_M_init.2.1 154 = .ok (.aload_n 0, 1) := by decide +kernel
theorem d_M_init_155 : decode me_M_init.2.1 155 = .ok (.sipush 4096, 3) := by decide +kernel
theorem d_M_init_158 : decode me_M_init.2.1 158 = .ok (.newarray .boolean, 2) := by decide +kernel
theorem d_M_init_160 : decode me_M_init.2.1 160 = .ok (.putfield 69, 3) := by decide +kernel
theorem d_M_init_163 : decode me_M_init.2.1 163 = .ok (.aload_n 0, 1) := by decide +kernel
theorem d_M_init_164 : decode me_M_init.2.1 164 = .ok (.sipush 1024, 3) := by decide +kernel
theorem d_M_init_167 : decode me_M_init.2.1 167 = .ok (.newarray .int, 2) := by decide +kernel
theorem d_M_init_169 : decode me_M_init.2.1 169 = .ok (.putfield 72, 3) := by decide +kernel
theorem d_M_init_172 : decode me_M_init.2.1 172 = .ok (.aload_n 0, 1) := by decide +kernel
theorem d_M_init_173 : decode me_M_init.2.1 173 = .ok (.bipush 16, 2) := by decide +kernel
theorem d_M_init_175 : decode me_M_init.2.1 175 = .ok (.newarray .int, 2) := by decide +kernel
theorem d_M_init_177 : decode me_M_init.2.1 177 = .ok (.putfield 75, 3) := by decide +kernel
theorem d_M_init_180 : decode me_M_init.2.1 180 = .ok (.aload_n 0, 1) := by decide +kernel
theorem d_M_init_181 : decode me_M_init.2.1 181 = .ok (.iconst 4, 1) := by decide +kernel
theorem d_M_init_182 : decode me_M_init.2.1 182 = .ok (.newarray .boolean, 2) := by decide +kernel
theorem d_M_init_184 : decode me_M_init.2.1 184 = .ok (.putfield 78, 3) := by decide +kernel
theorem d_M_init_187 : decode me_M_init.2.1 187 = .ok (.aload_n 0, 1) := by decide +kernel
theorem d_M_init_188 : decode me_M_init.2.1 188 = .ok (.bipush 16, 2) := by decide +kernel
theorem d_M_init_190 : decode me_M_init.2.1 190 = .ok (.newarray .long, 2) := by decide +kernel
theorem d_M_init_192 : decode me_M_init.2.1 192 = .ok (.putfield 81, 3) := by decide +kernel
theorem d_M_init_195 : decode me_M_init.2.1 195 = .ok (.aload_n 0, 1) := by decide +kernel
theorem d_M_init_196 : decode me_M_init.2.1 196 = .ok (.iconst 4, 1) := by decide +kernel
theorem d_M_init_197 : decode me_M_init.2.1 197 = .ok (.newarray .long, 2) := by decide +kernel
theorem d_M_init_199 : decode me_M_init.2.1 199 = .ok (.putfield 85, 3) := by decide +kernel
theorem d_M_init_202 : decode me_M_init.2.1 202 = .ok (.aload_n 0, 1) := by decide +kernel
theorem d_M_init_203 : decode me_M_init.2.1 203 = .ok (.sipush 512, 3) := by decide +kernel
theorem d_M_init_206 : decode me_M_init.2.1 206 = .ok (.newarray .int, 2) := by decide +kernel
theorem d_M_init_208 : decode me_M_init.2.1 208 = .ok (.putfield 88, 3) := by decide +kernel
theorem d_M_init_211 : decode me_M_init.2.1 211 = .ok (.aload_n 0, 1) := by decide +kernel
theorem d_M_init_212 : decode me_M_init.2.1 212 = .ok (.sipush 500, 3) := by decide +kernel
theorem d_M_init_215 : decode me_M_init.2.1 215 = .ok (.newarray .long, 2) := by decide +kernel
theorem d_M_init_217 : decode me_M_init.2.1 217 = .ok (.putfield 91, 3) := by decide +kernel
theorem d_M_init_220 : decode me_M_init.2.1 220 = .ok (.aload_n 0, 1) := by decide +kernel
theorem d_M_init_221 : decode me_M_init.2.1 221 = .ok (.sipush 500, 3) := by decide +kernel
theorem d_M_init_224 : decode me_M_init.2.1 224 = .ok (.newarray .int, 2) := by decide +kernel
theorem d_M_init_226 : decode me_M_init.2.1 226 = .ok (.putfield 94, 3) := by decide +kernel
theorem d_M_init_229 : decode me_M_init.2.1 229 = .ok (.aload_n 0, 1) := by decide +kernel
theorem d_M_init_230 : decode me_M_init.2.1 230 = .ok (.sipush 500, 3) := by decide +kernel
theorem d_M_init_233 : decode me_M_init.2.1 233 = .ok (.newarray .int, 2) := by decide +kernel
theorem d_M_init_235 : decode me_M_init.2.1 235 = .ok (.putfield 97, 3) := by decide +kernel
theorem d_M_init_238 : decode me_M_init.2.1 238 = .ok (.aload_n 0, 1) := by decide +kernel
theorem d_M_init_239 : decode me_M_init.2.1 239 = .ok (.bipush 68, 2) := by decide +kernel
theorem d_M_init_241 : decode me_M_init.2.1 241 = .ok (.newarray .int, 2) := by decide +kernel
theorem d_M_init_243 : decode me_M_init.2.1 243 = .ok (.putfield 100, 3) := by decide +kernel
theorem d_M_init_246 : decode me_M_init.2.1 246 = .ok (.aload_n 0, 1) := by decide +kernel
theorem d_M_init_247 : decode me_M_init.2.1 247 = .ok (.bipush 64, 2) := by decide +kernel
theorem d_M_init_249 : decode me_M_init.2.1 249 = .ok (.newarray .long, 2) := by decide +kernel
theorem d_M_init_251 : decode me_M_init.2.1 251 = .ok (.putfield 103, 3) := by decide +kernel
theorem d_M_init_254 : decode me_M_init.2.1 254 = .ok (.aload_n 0, 1) := by decide +kernel
theorem d_M_init_255 : decode me_M_init.2.1 255 = .ok (.bipush 64, 2) := by decide +kernel
theorem d_M_init_257 : decode me_M_init.2.1 257 = .ok (.newarray .long, 2) := by decide +kernel
theorem d_M_init_259 : decode me_M_init.2.1 259 = .ok (.putfield 106, 3) := by decide +kernel
theorem d_M_init_262 : decode me_M_init.2.1 262 = .ok (.aload_n 0, 1) := by decide +kernel
theorem d_M_init_263 : decode me_M_init.2.1 263 = .ok (.bipush 65, 2) := by decide +kernel
theorem d_M_init_265 : decode me_M_init.2.1 265 = .ok (.newarray .long, 2) := by decide +kernel
theorem d_M_init_267 : decode me_M_init.2.1 267 = .ok (.putfield 109, 3) := by decide +kernel
theorem d_M_init_270 : decode me_M_init.2.1 270 = .ok (.return_, 1) := by decide +kernel
set_option maxRecDepth 100000 in
set_option maxHeartbeats 4000000 in
def gs_ad (h0 : Nat) (u : Nat → Nat) : Nat → Nat := fun k => if k = 0 then h0 else u k
def sgM : gs_S := (fun k => if k = 0 then (fun j => if j = 7 then 1 else 0) else fun _ => 0, fun _ => fun _ => 0, fun _ => fun _ => 0)
set_option maxRecDepth 100000 in
set_option maxHeartbeats 4000000 in
theorem N_M {l : Launch} {v : gs_V} {h0 : Nat} : gMn l v me_M_init rm_M 32 7965 [.ref h0] [(h0, .inr (9, [.int 0, .null, .int 0, .int 0, .int 0, .int 0, .null, .int 0, .null, .null, .int 0, .int 0, .int 0, .int 0, .null, .null, .null, .null, .null, .null, .null, .null, .null, .null, .null, .null, .null, .null, .int 0, .int 0, .null, .int 0, .int 0, .int 0, .null, .int 0, .int 0, .null, .null, .null, .null, .int 0, .int 0, .null, .null, .null, .null, .int 0, .int 0, .long 0, .null, .null, .null, .null]))] (fun u => gs_w (v.1, v.2.1, gs_ad h0 u) lyM 33 sgM) := by
  refine gMn_of (by decide +kernel) rfl rfl (Nat.le_of_ble_eq_true rfl) ?_
  refine n_aload d_M_init_0 0 rfl rfl ?_
  refine n_obj d_M_init_1 lo_M (by decide) (by decide) ?_
  refine n_aload d_M_init_4 0 rfl rfl ?_
  refine n_bipush d_M_init_5 (x := 64) (by decide) ?_
  refine n_newa (t := 0) (N' := 64) (a0 := (64, .inl (fun _ => 0))) d_M_init_7 gw_ac_int rfl (fun _ _ h => h) (fun _ => rfl) (by decide) (by decide) (by decide) (by decide) (by decide) (fun q7 => ?_)
  refine n_put (q0 := 0) (ws' := [(h0, .inr (9, [.int 0, .ref q7, .int 0, .int 0, .int 0, .int 0, .null, .int 0, .null, .null, .int 0, .int 0, .int 0, .int 0, .null, .null, .null, .null, .null, .null, .null, .null, .null, .null, .null, .null, .null, .null, .int 0, .int 0, .null, .int 0, .int 0, .int 0, .null, .int 0, .int 0, .null, .null, .null, .null, .int 0, .int 0, .null, .null, .null, .null, .int 0, .int 0, .long 0, .null, .null, .null, .null])), (q7, .inl (v.2.1 0, 64, .inl (fun _ => 0)))]) d_M_init_9 fi_M_7 rfl rfl rfl (Nat.le_of_ble_eq_true rfl) rfl ?_
  refine n_aload d_M_init_12 0 rfl rfl ?_
  refine n_sipush d_M_init_13 (x := 256) (by decide) ?_
  refine n_newa (t := 0) (N' := 256) (a0 := (256, .inl (fun _ => 0))) d_M_init_16 gw_ac_int rfl (fun _ _ h => h) (fun _ => rfl) (by decide) (by decide) (by decide) (by decide) (by decide) (fun q16 => ?_)
  refine n_put (q0 := 0) (ws' := [(h0, .inr (9, [.int 0, .ref q7, .int 0, .int 0, .int 0, .int 0, .ref q16, .int 0, .null, .null, .int 0, .int 0, .int 0, .int 0, .null, .null, .null, .null, .null, .null, .null, .null, .null, .null, .null, .null, .null, .null, .int 0, .int 0, .null, .int 0, .int 0, .int 0, .null, .int 0, .int 0, .null, .null, .null, .null, .int 0, .int 0, .null, .null, .null, .null, .int 0, .int 0, .long 0, .null, .null, .null, .null])), (q7, .inl (v.2.1 0, 64, .inl (fun _ => 0))), (q16, .inl (v.2.1 0, 256, .inl (fun _ => 0)))]) d_M_init_18 fi_M_13 rfl rfl rfl (Nat.le_of_ble_eq_true rfl) rfl ?_
  refine n_aload d_M_init_21 0 rfl rfl ?_
  refine n_iconst d_M_init_22 (x := 1) (by decide) ?_
  refine n_put (q0 := 0) (ws' := [(h0, .inr (9, [.int 0, .ref q7, .int 0, .int 0, .int 0, .int 0, .ref q16, .int 1, .null, .null, .int 0, .int 0, .int 0, .int 0, .null, .null, .null, .null, .null, .null, .null, .null, .null, .null, .null, .null, .null, .null, .int 0, .int 0, .null, .int 0, .int 0, .int 0, .null, .int 0, .int 0, .null, .null, .null, .null, .int 0, .int 0, .null, .null, .null, .null, .int 0, .int 0, .long 0, .null, .null, .null, .null])), (q7, .inl (v.2.1 0, 64, .inl (fun _ => 0))), (q16, .inl (v.2.1 0, 256, .inl (fun _ => 0)))]) d_M_init_23 fi_M_16 rfl rfl rfl (Nat.le_of_ble_eq_true rfl) rfl ?_
  refine n_aload d_M_init_26 0 rfl rfl ?_
  refine n_bipush d_M_init_27 (x := 64) (by decide) ?_
  refine n_newa (t := 0) (N' := 64) (a0 := (64, .inl (fun _ => 0))) d_M_init_29 gw_ac_int rfl (fun _ _ h => h) (fun _ => rfl) (by decide) (by decide) (by decide) (by decide) (by decide) (fun q29 => ?_)
  refine n_put (q0 := 0) (ws' := [(h0, .inr (9, [.int 0, .ref q7, .int 0, .int 0, .int 0, .int 0, .ref q16, .int 1, .ref q29, .null, .int 0, .int 0, .int 0, .int 0, .null, .null, .null, .null, .null, .null, .null, .null, .null, .null, .null, .null, .null, .null, .int 0, .int 0, .null, .int 0, .int 0, .int 0, .null, .int 0, .int 0, .null, .null, .null, .null, .int 0, .int 0, .null, .null, .null, .null, .int 0, .int 0, .long 0, .null, .null, .null, .null])), (q7, .inl (v.2.1 0, 64, .inl (fun _ => 0))), (q16, .inl (v.2.1 0, 256, .inl (fun _ => 0))), (q29, .inl (v.2.1 0, 64, .inl (fun _ => 0)))]) d_M_init_31 fi_M_20 rfl rfl rfl (Nat.le_of_ble_eq_true rfl) rfl ?_
  refine n_aload d_M_init_34 0 rfl rfl ?_
  refine n_bipush d_M_init_35 (x := 64) (by decide) ?_
  refine n_newa (t := 0) (N' := 64) (a0 := (64, .inl (fun _ => 0))) d_M_init_37 gw_ac_int rfl (fun _ _ h => h) (fun _ => rfl) (by decide) (by decide) (by decide) (by decide) (by decide) (fun q37 => ?_)
  refine n_put (q0 := 0) (ws' := [(h0, .inr (9, [.int 0, .ref q7, .int 0, .int 0, .int 0, .int 0, .ref q16, .int 1, .ref q29, .ref q37, .int 0, .int 0, .int 0, .int 0, .null, .null, .null, .null, .null, .null, .null, .null, .null, .null, .null, .null, .null, .null, .int 0, .int 0, .null, .int 0, .int 0, .int 0, .null, .int 0, .int 0, .null, .null, .null, .null, .int 0, .int 0, .null, .null, .null, .null, .int 0, .int 0, .long 0, .null, .null, .null, .null])), (q7, .inl (v.2.1 0, 64, .inl (fun _ => 0))), (q16, .inl (v.2.1 0, 256, .inl (fun _ => 0))), (q29, .inl (v.2.1 0, 64, .inl (fun _ => 0))), (q37, .inl (v.2.1 0, 64, .inl (fun _ => 0)))]) d_M_init_39 fi_M_23 rfl rfl rfl (Nat.le_of_ble_eq_true rfl) rfl ?_
  refine n_aload d_M_init_42 0 rfl rfl ?_
  refine n_bipush d_M_init_43 (x := 6) (by decide) ?_
  refine n_newa (t := 0) (N' := 6) (a0 := (6, .inl (fun _ => 0))) d_M_init_45 gw_ac_int rfl (fun _ _ h => h) (fun _ => rfl) (by decide) (by decide) (by decide) (by decide) (by decide) (fun q45 => ?_)
  refine n_put (q0 := 0) (ws' := [(h0, .inr (9, [.int 0, .ref q7, .int 0, .int 0, .int 0, .int 0, .ref q16, .int 1, .ref q29, .ref q37, .int 0, .int 0, .int 0, .int 0, .ref q45, .null, .null, .null, .null, .null, .null, .null, .null, .null, .null, .null, .null, .null, .int 0, .int 0, .null, .int 0, .int 0, .int 0, .null, .int 0, .int 0, .null, .null, .null, .null, .int 0, .int 0, .null, .null, .null, .null, .int 0, .int 0, .long 0, .null, .null, .null, .null])), (q7, .inl (v.2.1 0, 64, .inl (fun _ => 0))), (q16, .inl (v.2.1 0, 256, .inl (fun _ => 0))), (q29, .inl (v.2.1 0, 64, .inl (fun _ => 0))), (q37, .inl (v.2.1 0, 64, .inl (fun _ => 0))), (q45, .inl (v.2.1 0, 6, .inl (fun _ => 0)))]) d_M_init_47 fi_M_26 rfl rfl rfl (Nat.le_of_ble_eq_true rfl) rfl ?_
  refine n_aload d_M_init_50 0 rfl rfl ?_
  refine n_bipush d_M_init_51 (x := 6) (by decide) ?_
  refine n_newa (t := 0) (N' := 6) (a0 := (6, .inl (fun _ => 0))) d_M_init_53 gw_ac_int rfl (fun _ _ h => h) (fun _ => rfl) (by decide) (by decide) (by decide) (by decide) (by decide) (fun q53 => ?_)
  refine n_put (q0 := 0) (ws' := [(h0, .inr (9, [.int 0, .ref q7, .int 0, .int 0, .int 0, .int 0, .ref q16, .int 1, .ref q29, .ref q37, .int 0, .int 0, .int 0, .int 0, .ref q45, .ref q53, .null, .null, .null, .null, .null, .null, .null, .null, .null, .null, .null, .null, .int 0, .int 0, .null, .int 0, .int 0, .int 0, .null, .int 0, .int 0, .null, .null, .null, .null, .int 0, .int 0, .null, .null, .null, .null, .int 0, .int 0, .long 0, .null, .null, .null, .null])), (q7, .inl (v.2.1 0, 64, .inl (fun _ => 0))), (q16, .inl (v.2.1 0, 256, .inl (fun _ => 0))), (q29, .inl (v.2.1 0, 64, .inl (fun _ => 0))), (q37, .inl (v.2.1 0, 64, .inl (fun _ => 0))), (q45, .inl (v.2.1 0, 6, .inl (fun _ => 0))), (q53, .inl (v.2.1 0, 6, .inl (fun _ => 0)))]) d_M_init_55 fi_M_29 rfl rfl rfl (Nat.le_of_ble_eq_true rfl) rfl ?_
  refine n_aload d_M_init_58 0 rfl rfl ?_
  refine n_bipush d_M_init_59 (x := 6) (by decide) ?_
  refine n_newa (t := 0) (N' := 6) (a0 := (6, .inl (fun _ => 0))) d_M_init_61 gw_ac_int rfl (fun _ _ h => h) (fun _ => rfl) (by decide) (by decide) (by decide) (by decide) (by decide) (fun q61 => ?_)
  refine n_put (q0 := 0) (ws' := [(h0, .inr (9, [.int 0, .ref q7, .int 0, .int 0, .int 0, .int 0, .ref q16, .int 1, .ref q29, .ref q37, .int 0, .int 0, .int 0, .int 0, .ref q45, .ref q53, .ref q61, .null, .null, .null, .null, .null, .null, .null, .null, .null, .null, .null, .int 0, .int 0, .null, .int 0, .int 0, .int 0, .null, .int 0, .int 0, .null, .null, .null, .null, .int 0, .int 0, .null, .null, .null, .null, .int 0, .int 0, .long 0, .null, .null, .null, .null])), (q7, .inl (v.2.1 0, 64, .inl (fun _ => 0))), (q16, .inl (v.2.1 0, 256, .inl (fun _ => 0))), (q29, .inl (v.2.1 0, 64, .inl (fun _ => 0))), (q37, .inl (v.2.1 0, 64, .inl (fun _ => 0))), (q45, .inl (v.2.1 0, 6, .inl (fun _ => 0))), (q53, .inl (v.2.1 0, 6, .inl (fun _ => 0))), (q61, .inl (v.2.1 0, 6, .inl (fun _ => 0)))]) d_M_init_63 fi_M_32 rfl rfl rfl (Nat.le_of_ble_eq_true rfl) rfl ?_
  refine n_aload d_M_init_66 0 rfl rfl ?_
  refine n_bipush d_M_init_67 (x := 6) (by decide) ?_
  refine n_newa (t := 0) (N' := 6) (a0 := (6, .inl (fun _ => 0))) d_M_init_69 gw_ac_int rfl (fun _ _ h => h) (fun _ => rfl) (by decide) (by decide) (by decide) (by decide) (by decide) (fun q69 => ?_)
  refine n_put (q0 := 0) (ws' := [(h0, .inr (9, [.int 0, .ref q7, .int 0, .int 0, .int 0, .int 0, .ref q16, .int 1, .ref q29, .ref q37, .int 0, .int 0, .int 0, .int 0, .ref q45, .ref q53, .ref q61, .ref q69, .null, .null, .null, .null, .null, .null, .null, .null, .null, .null, .int 0, .int 0, .null, .int 0, .int 0, .int 0, .null, .int 0, .int 0, .null, .null, .null, .null, .int 0, .int 0, .null, .null, .null, .null, .int 0, .int 0, .long 0, .null, .null, .null, .null])), (q7, .inl (v.2.1 0, 64, .inl (fun _ => 0))), (q16, .inl (v.2.1 0, 256, .inl (fun _ => 0))), (q29, .inl (v.2.1 0, 64, .inl (fun _ => 0))), (q37, .inl (v.2.1 0, 64, .inl (fun _ => 0))), (q45, .inl (v.2.1 0, 6, .inl (fun _ => 0))), (q53, .inl (v.2.1 0, 6, .inl (fun _ => 0))), (q61, .inl (v.2.1 0, 6, .inl (fun _ => 0))), (q69, .inl (v.2.1 0, 6, .inl (fun _ => 0)))]) d_M_init_71 fi_M_35 rfl rfl rfl (Nat.le_of_ble_eq_true rfl) rfl ?_
  refine n_aload d_M_init_74 0 rfl rfl ?_
  refine n_bipush d_M_init_75 (x := 6) (by decide) ?_
  refine n_newa (t := 0) (N' := 6) (a0 := (6, .inl (fun _ => 0))) d_M_init_77 gw_ac_int rfl (fun _ _ h => h) (fun _ => rfl) (by decide) (by decide) (by decide) (by decide) (by decide) (fun q77 => ?_)
  refine n_put (q0 := 0) (ws' := [(h0, .inr (9, [.int 0, .ref q7, .int 0, .int 0, .int 0, .int 0, .ref q16, .int 1, .ref q29, .ref q37, .int 0, .int 0, .int 0, .int 0, .ref q45, .ref q53, .ref q61, .ref q69, .ref q77, .null, .null, .null, .null, .null, .null, .null, .null, .null, .int 0, .int 0, .null, .int 0, .int 0, .int 0, .null, .int 0, .int 0, .null, .null, .null, .null, .int 0, .int 0, .null, .null, .null, .null, .int 0, .int 0, .long 0, .null, .null, .null, .null])), (q7, .inl (v.2.1 0, 64, .inl (fun _ => 0))), (q16, .inl (v.2.1 0, 256, .inl (fun _ => 0))), (q29, .inl (v.2.1 0, 64, .inl (fun _ => 0))), (q37, .inl (v.2.1 0, 64, .inl (fun _ => 0))), (q45, .inl (v.2.1 0, 6, .inl (fun _ => 0))), (q53, .inl (v.2.1 0, 6, .inl (fun _ => 0))), (q61, .inl (v.2.1 0, 6, .inl (fun _ => 0))), (q69, .inl (v.2.1 0, 6, .inl (fun _ => 0))), (q77, .inl (v.2.1 0, 6, .inl (fun _ => 0)))]) d_M_init_79 fi_M_38 rfl rfl rfl (Nat.le_of_ble_eq_true rfl) rfl ?_
  refine n_aload d_M_init_82 0 rfl rfl ?_
  refine n_bipush d_M_init_83 (x := 6) (by decide) ?_
  refine n_newa (t := 2) (N' := 6) (a0 := (6, .inl (fun _ => 0))) d_M_init_85 gw_ac_boolean rfl (fun _ _ h => h) (fun _ => rfl) (by decide) (by decide) (by decide) (by decide) (by decide) (fun q85 => ?_)
  refine n_put (q0 := 0) (ws' := [(h0, .inr (9, [.int 0, .ref q7, .int 0, .int 0, .int 0, .int 0, .ref q16, .int 1, .ref q29, .ref q37, .int 0, .int 0, .int 0, .int 0, .ref q45, .ref q53, .ref q61, .ref q69, .ref q77, .ref q85, .null, .null, .null, .null, .null, .null, .null, .null, .int 0, .int 0, .null, .int 0, .int 0, .int 0, .null, .int 0, .int 0, .null, .null, .null, .null, .int 0, .int 0, .null, .null, .null, .null, .int 0, .int 0, .long 0, .null, .null, .null, .null])), (q7, .inl (v.2.1 0, 64, .inl (fun _ => 0))), (q16, .inl (v.2.1 0, 256, .inl (fun _ => 0))), (q29, .inl (v.2.1 0, 64, .inl (fun _ => 0))), (q37, .inl (v.2.1 0, 64, .inl (fun _ => 0))), (q45, .inl (v.2.1 0, 6, .inl (fun _ => 0))), (q53, .inl (v.2.1 0, 6, .inl (fun _ => 0))), (q61, .inl (v.2.1 0, 6, .inl (fun _ => 0))), (q69, .inl (v.2.1 0, 6, .inl (fun _ => 0))), (q77, .inl (v.2.1 0, 6, .inl (fun _ => 0))), (q85, .inl (v.2.1 2, 6, .inl (fun _ => 0)))]) d_M_init_87 fi_M_41 rfl rfl rfl (Nat.le_of_ble_eq_true rfl) rfl ?_
  refine n_aload d_M_init_90 0 rfl rfl ?_
  refine n_bipush d_M_init_91 (x := 6) (by decide) ?_
  refine n_newa (t := 0) (N' := 6) (a0 := (6, .inl (fun _ => 0))) d_M_init_93 gw_ac_int rfl (fun _ _ h => h) (fun _ => rfl) (by decide) (by decide) (by decide) (by decide) (by decide) (fun q93 => ?_)
  refine n_put (q0 := 0) (ws' := [(h0, .inr (9, [.int 0, .ref q7, .int 0, .int 0, .int 0, .int 0, .ref q16, .int 1, .ref q29, .ref q37, .int 0, .int 0, .int 0, .int 0, .ref q45, .ref q53, .ref q61, .ref q69, .ref q77, .ref q85, .ref q93, .null, .null, .null, .null, .null, .null, .null, .int 0, .int 0, .null, .int 0, .int 0, .int 0, .null, .int 0, .int 0, .null, .null, .null, .null, .int 0, .int 0, .null, .null, .null, .null, .int 0, .int 0, .long 0, .null, .null, .null, .null])), (q7, .inl (v.2.1 0, 64, .inl (fun _ => 0))), (q16, .inl (v.2.1 0, 256, .inl (fun _ => 0))), (q29, .inl (v.2.1 0, 64, .inl (fun _ => 0))), (q37, .inl (v.2.1 0, 64, .inl (fun _ => 0))), (q45, .inl (v.2.1 0, 6, .inl (fun _ => 0))), (q53, .inl (v.2.1 0, 6, .inl (fun _ => 0))), (q61, .inl (v.2.1 0, 6, .inl (fun _ => 0))), (q69, .inl (v.2.1 0, 6, .inl (fun _ => 0))), (q77, .inl (v.2.1 0, 6, .inl (fun _ => 0))), (q85, .inl (v.2.1 2, 6, .inl (fun _ => 0))), (q93, .inl (v.2.1 0, 6, .inl (fun _ => 0)))]) d_M_init_95 fi_M_45 rfl rfl rfl (Nat.le_of_ble_eq_true rfl) rfl ?_
  refine n_aload d_M_init_98 0 rfl rfl ?_
  refine n_bipush d_M_init_99 (x := 6) (by decide) ?_
  refine n_newa (t := 0) (N' := 6) (a0 := (6, .inl (fun _ => 0))) d_M_init_101 gw_ac_int rfl (fun _ _ h => h) (fun _ => rfl) (by decide) (by decide) (by decide) (by decide) (by decide) (fun q101 => ?_)
  refine n_put (q0 := 0) (ws' := [(h0, .inr (9, [.int 0, .ref q7, .int 0, .int 0, .int 0, .int 0, .ref q16, .int 1, .ref q29, .ref q37, .int 0, .int 0, .int 0, .int 0, .ref q45, .ref q53, .ref q61, .ref q69, .ref q77, .ref q85, .ref q93, .ref q101, .null, .null, .null, .null, .null, .null, .int 0, .int 0, .null, .int 0, .int 0, .int 0, .null, .int 0, .int 0, .null, .null, .null, .null, .int 0, .int 0, .null, .null, .null, .null, .int 0, .int 0, .long 0, .null, .null, .null, .null])), (q7, .inl (v.2.1 0, 64, .inl (fun _ => 0))), (q16, .inl (v.2.1 0, 256, .inl (fun _ => 0))), (q29, .inl (v.2.1 0, 64, .inl (fun _ => 0))), (q37, .inl (v.2.1 0, 64, .inl (fun _ => 0))), (q45, .inl (v.2.1 0, 6, .inl (fun _ => 0))), (q53, .inl (v.2.1 0, 6, .inl (fun _ => 0))), (q61, .inl (v.2.1 0, 6, .inl (fun _ => 0))), (q69, .inl (v.2.1 0, 6, .inl (fun _ => 0))), (q77, .inl (v.2.1 0, 6, .inl (fun _ => 0))), (q85, .inl (v.2.1 2, 6, .inl (fun _ => 0))), (q93, .inl (v.2.1 0, 6, .inl (fun _ => 0))), (q101, .inl (v.2.1 0, 6, .inl (fun _ => 0)))]) d_M_init_103 fi_M_48 rfl rfl rfl (Nat.le_of_ble_eq_true rfl) rfl ?_
  refine n_aload d_M_init_106 0 rfl rfl ?_
  refine n_bipush d_M_init_107 (x := 6) (by decide) ?_
  refine n_newa (t := 0) (N' := 6) (a0 := (6, .inl (fun _ => 0))) d_M_init_109 gw_ac_int rfl (fun _ _ h => h) (fun _ => rfl) (by decide) (by decide) (by decide) (by decide) (by decide) (fun q109 => ?_)
  refine n_put (q0 := 0) (ws' := [(h0, .inr (9, [.int 0, .ref q7, .int 0, .int 0, .int 0, .int 0, .ref q16, .int 1, .ref q29, .ref q37, .int 0, .int 0, .int 0, .int 0, .ref q45, .ref q53, .ref q61, .ref q69, .ref q77, .ref q85, .ref q93, .ref q101, .ref q109, .null, .null, .null, .null, .null, .int 0, .int 0, .null, .int 0, .int 0, .int 0, .null, .int 0, .int 0, .null, .null, .null, .null, .int 0, .int 0, .null, .null, .null, .null, .int 0, .int 0, .long 0, .null, .null, .null, .null])), (q7, .inl (v.2.1 0, 64, .inl (fun _ => 0))), (q16, .inl (v.2.1 0, 256, .inl (fun _ => 0))), (q29, .inl (v.2.1 0, 64, .inl (fun _ => 0))), (q37, .inl (v.2.1 0, 64, .inl (fun _ => 0))), (q45, .inl (v.2.1 0, 6, .inl (fun _ => 0))), (q53, .inl (v.2.1 0, 6, .inl (fun _ => 0))), (q61, .inl (v.2.1 0, 6, .inl (fun _ => 0))), (q69, .inl (v.2.1 0, 6, .inl (fun _ => 0))), (q77, .inl (v.2.1 0, 6, .inl (fun _ => 0))), (q85, .inl (v.2.1 2, 6, .inl (fun _ => 0))), (q93, .inl (v.2.1 0, 6, .inl (fun _ => 0))), (q101, .inl (v.2.1 0, 6, .inl (fun _ => 0))), (q109, .inl (v.2.1 0, 6, .inl (fun _ => 0)))]) d_M_init_111 fi_M_51 rfl rfl rfl (Nat.le_of_ble_eq_true rfl) rfl ?_
  refine n_aload d_M_init_114 0 rfl rfl ?_
  refine n_bipush d_M_init_115 (x := 6) (by decide) ?_
  refine n_newa (t := 0) (N' := 6) (a0 := (6, .inl (fun _ => 0))) d_M_init_117 gw_ac_int rfl (fun _ _ h => h) (fun _ => rfl) (by decide) (by decide) (by decide) (by decide) (by decide) (fun q117 => ?_)
  refine n_put (q0 := 0) (ws' := [(h0, .inr (9, [.int 0, .ref q7, .int 0, .int 0, .int 0, .int 0, .ref q16, .int 1, .ref q29, .ref q37, .int 0, .int 0, .int 0, .int 0, .ref q45, .ref q53, .ref q61, .ref q69, .ref q77, .ref q85, .ref q93, .ref q101, .ref q109, .ref q117, .null, .null, .null, .null, .int 0, .int 0, .null, .int 0, .int 0, .int 0, .null, .int 0, .int 0, .null, .null, .null, .null, .int 0, .int 0, .null, .null, .null, .null, .int 0, .int 0, .long 0, .null, .null, .null, .null])), (q7, .inl (v.2.1 0, 64, .inl (fun _ => 0))), (q16, .inl (v.2.1 0, 256, .inl (fun _ => 0))), (q29, .inl (v.2.1 0, 64, .inl (fun _ => 0))), (q37, .inl (v.2.1 0, 64, .inl (fun _ => 0))), (q45, .inl (v.2.1 0, 6, .inl (fun _ => 0))), (q53, .inl (v.2.1 0, 6, .inl (fun _ => 0))), (q61, .inl (v.2.1 0, 6, .inl (fun _ => 0))), (q69, .inl (v.2.1 0, 6, .inl (fun _ => 0))), (q77, .inl (v.2.1 0, 6, .inl (fun _ => 0))), (q85, .inl (v.2.1 2, 6, .inl (fun _ => 0))), (q93, .inl (v.2.1 0, 6, .inl (fun _ => 0))), (q101, .inl (v.2.1 0, 6, .inl (fun _ => 0))), (q109, .inl (v.2.1 0, 6, .inl (fun _ => 0))), (q117, .inl (v.2.1 0, 6, .inl (fun _ => 0)))]) d_M_init_119 fi_M_54 rfl rfl rfl (Nat.le_of_ble_eq_true rfl) rfl ?_
  refine n_aload d_M_init_122 0 rfl rfl ?_
  refine n_bipush d_M_init_123 (x := 6) (by decide) ?_
  refine n_newa (t := 0) (N' := 6) (a0 := (6, .inl (fun _ => 0))) d_M_init_125 gw_ac_int rfl (fun _ _ h => h) (fun _ => rfl) (by decide) (by decide) (by decide) (by decide) (by decide) (fun q125 => ?_)
  refine n_put (q0 := 0) (ws' := [(h0, .inr (9, [.int 0, .ref q7, .int 0, .int 0, .int 0, .int 0, .ref q16, .int 1, .ref q29, .ref q37, .int 0, .int 0, .int 0, .int 0, .ref q45, .ref q53, .ref q61, .ref q69, .ref q77, .ref q85, .ref q93, .ref q101, .ref q109, .ref q117, .ref q125, .null, .null, .null, .int 0, .int 0, .null, .int 0, .int 0, .int 0, .null, .int 0, .int 0, .null, .null, .null, .null, .int 0, .int 0, .null, .null, .null, .null, .int 0, .int 0, .long 0, .null, .null, .null, .null])), (q7, .inl (v.2.1 0, 64, .inl (fun _ => 0))), (q16, .inl (v.2.1 0, 256, .inl (fun _ => 0))), (q29, .inl (v.2.1 0, 64, .inl (fun _ => 0))), (q37, .inl (v.2.1 0, 64, .inl (fun _ => 0))), (q45, .inl (v.2.1 0, 6, .inl (fun _ => 0))), (q53, .inl (v.2.1 0, 6, .inl (fun _ => 0))), (q61, .inl (v.2.1 0, 6, .inl (fun _ => 0))), (q69, .inl (v.2.1 0, 6, .inl (fun _ => 0))), (q77, .inl (v.2.1 0, 6, .inl (fun _ => 0))), (q85, .inl (v.2.1 2, 6, .inl (fun _ => 0))), (q93, .inl (v.2.1 0, 6, .inl (fun _ => 0))), (q101, .inl (v.2.1 0, 6, .inl (fun _ => 0))), (q109, .inl (v.2.1 0, 6, .inl (fun _ => 0))), (q117, .inl (v.2.1 0, 6, .inl (fun _ => 0))), (q125, .inl (v.2.1 0, 6, .inl (fun _ => 0)))]) d_M_init_127 fi_M_57 rfl rfl rfl (Nat.le_of_ble_eq_true rfl) rfl ?_
  refine n_aload d_M_init_130 0 rfl rfl ?_
  refine n_bipush d_M_init_131 (x := 6) (by decide) ?_
  refine n_newa (t := 2) (N' := 6) (a0 := (6, .inl (fun _ => 0))) d_M_init_133 gw_ac_boolean rfl (fun _ _ h => h) (fun _ => rfl) (by decide) (by decide) (by decide) (by decide) (by decide) (fun q133 => ?_)
  refine n_put (q0 := 0) (ws' := [(h0, .inr (9, [.int 0, .ref q7, .int 0, .int 0, .int 0, .int 0, .ref q16, .int 1, .ref q29, .ref q37, .int 0, .int 0, .int 0, .int 0, .ref q45, .ref q53, .ref q61, .ref q69, .ref q77, .ref q85, .ref q93, .ref q101, .ref q109, .ref q117, .ref q125, .ref q133, .null, .null, .int 0, .int 0, .null, .int 0, .int 0, .int 0, .null, .int 0, .int 0, .null, .null, .null, .null, .int 0, .int 0, .null, .null, .null, .null, .int 0, .int 0, .long 0, .null, .null, .null, .null])), (q7, .inl (v.2.1 0, 64, .inl (fun _ => 0))), (q16, .inl (v.2.1 0, 256, .inl (fun _ => 0))), (q29, .inl (v.2.1 0, 64, .inl (fun _ => 0))), (q37, .inl (v.2.1 0, 64, .inl (fun _ => 0))), (q45, .inl (v.2.1 0, 6, .inl (fun _ => 0))), (q53, .inl (v.2.1 0, 6, .inl (fun _ => 0))), (q61, .inl (v.2.1 0, 6, .inl (fun _ => 0))), (q69, .inl (v.2.1 0, 6, .inl (fun _ => 0))), (q77, .inl (v.2.1 0, 6, .inl (fun _ => 0))), (q85, .inl (v.2.1 2, 6, .inl (fun _ => 0))), (q93, .inl (v.2.1 0, 6, .inl (fun _ => 0))), (q101, .inl (v.2.1 0, 6, .inl (fun _ => 0))), (q109, .inl (v.2.1 0, 6, .inl (fun _ => 0))), (q117, .inl (v.2.1 0, 6, .inl (fun _ => 0))), (q125, .inl (v.2.1 0, 6, .inl (fun _ => 0))), (q133, .inl (v.2.1 2, 6, .inl (fun _ => 0)))]) d_M_init_135 fi_M_60 rfl rfl rfl (Nat.le_of_ble_eq_true rfl) rfl ?_
  refine n_aload d_M_init_138 0 rfl rfl ?_
  refine n_bipush d_M_init_139 (x := 6) (by decide) ?_
  refine n_newa (t := 0) (N' := 6) (a0 := (6, .inl (fun _ => 0))) d_M_init_141 gw_ac_int rfl (fun _ _ h => h) (fun _ => rfl) (by decide) (by decide) (by decide) (by decide) (by decide) (fun q141 => ?_)
  refine n_put (q0 := 0) (ws' := [(h0, .inr (9, [.int 0, .ref q7, .int 0, .int 0, .int 0, .int 0, .ref q16, .int 1, .ref q29, .ref q37, .int 0, .int 0, .int 0, .int 0, .ref q45, .ref q53, .ref q61, .ref q69, .ref q77, .ref q85, .ref q93, .ref q101, .ref q109, .ref q117, .ref q125, .ref q133, .ref q141, .null, .int 0, .int 0, .null, .int 0, .int 0, .int 0, .null, .int 0, .int 0, .null, .null, .null, .null, .int 0, .int 0, .null, .null, .null, .null, .int 0, .int 0, .long 0, .null, .null, .null, .null])), (q7, .inl (v.2.1 0, 64, .inl (fun _ => 0))), (q16, .inl (v.2.1 0, 256, .inl (fun _ => 0))), (q29, .inl (v.2.1 0, 64, .inl (fun _ => 0))), (q37, .inl (v.2.1 0, 64, .inl (fun _ => 0))), (q45, .inl (v.2.1 0, 6, .inl (fun _ => 0))), (q53, .inl (v.2.1 0, 6, .inl (fun _ => 0))), (q61, .inl (v.2.1 0, 6, .inl (fun _ => 0))), (q69, .inl (v.2.1 0, 6, .inl (fun _ => 0))), (q77, .inl (v.2.1 0, 6, .inl (fun _ => 0))), (q85, .inl (v.2.1 2, 6, .inl (fun _ => 0))), (q93, .inl (v.2.1 0, 6, .inl (fun _ => 0))), (q101, .inl (v.2.1 0, 6, .inl (fun _ => 0))), (q109, .inl (v.2.1 0, 6, .inl (fun _ => 0))), (q117, .inl (v.2.1 0, 6, .inl (fun _ => 0))), (q125, .inl (v.2.1 0, 6, .inl (fun _ => 0))), (q133, .inl (v.2.1 2, 6, .inl (fun _ => 0))), (q141, .inl (v.2.1 0, 6, .inl (fun _ => 0)))]) d_M_init_143 fi_M_63 rfl rfl rfl (Nat.le_of_ble_eq_true rfl) rfl ?_
  refine n_aload d_M_init_146 0 rfl rfl ?_
  refine n_bipush d_M_init_147 (x := 6) (by decide) ?_
  refine n_newa (t := 2) (N' := 6) (a0 := (6, .inl (fun _ => 0))) d_M_init_149 gw_ac_boolean rfl (fun _ _ h => h) (fun _ => rfl) (by decide) (by decide) (by decide) (by decide) (by decide) (fun q149 => ?_)
  refine n_put (q0 := 0) (ws' := [(h0, .inr (9, [.int 0, .ref q7, .int 0, .int 0, .int 0, .int 0, .ref q16, .int 1, .ref q29, .ref q37, .int 0, .int 0, .int 0, .int 0, .ref q45, .ref q53, .ref q61, .ref q69, .ref q77, .ref q85, .ref q93, .ref q101, .ref q109, .ref q117, .ref q125, .ref q133, .ref q141, .ref q149, .int 0, .int 0, .null, .int 0, .int 0, .int 0, .null, .int 0, .int 0, .null, .null, .null, .null, .int 0, .int 0, .null, .null, .null, .null, .int 0, .int 0, .long 0, .null, .null, .null, .null])), (q7, .inl (v.2.1 0, 64, .inl (fun _ => 0))), (q16, .inl (v.2.1 0, 256, .inl (fun _ => 0))), (q29, .inl (v.2.1 0, 64, .inl (fun _ => 0))), (q37, .inl (v.2.1 0, 64, .inl (fun _ => 0))), (q45, .inl (v.2.1 0, 6, .inl (fun _ => 0))), (q53, .inl (v.2.1 0, 6, .inl (fun _ => 0))), (q61, .inl (v.2.1 0, 6, .inl (fun _ => 0))), (q69, .inl (v.2.1 0, 6, .inl (fun _ => 0))), (q77, .inl (v.2.1 0, 6, .inl (fun _ => 0))), (q85, .inl (v.2.1 2, 6, .inl (fun _ => 0))), (q93, .inl (v.2.1 0, 6, .inl (fun _ => 0))), (q101, .inl (v.2.1 0, 6, .inl (fun _ => 0))), (q109, .inl (v.2.1 0, 6, .inl (fun _ => 0))), (q117, .inl (v.2.1 0, 6, .inl (fun _ => 0))), (q125, .inl (v.2.1 0, 6, .inl (fun _ => 0))), (q133, .inl (v.2.1 2, 6, .inl (fun _ => 0))), (q141, .inl (v.2.1 0, 6, .inl (fun _ => 0))), (q149, .inl (v.2.1 2, 6, .inl (fun _ => 0)))]) d_M_init_151 fi_M_66 rfl rfl rfl (Nat.le_of_ble_eq_true rfl) rfl ?_
  refine n_aload d_M_init_154 0 rfl rfl ?_
  refine n_sipush d_M_init_155 (x := 4096) (by decide) ?_
  refine n_newa (t := 2) (N' := 4096) (a0 := (4096, .inl (fun _ => 0))) d_M_init_158 gw_ac_boolean rfl (fun _ _ h => h) (fun _ => rfl) (by decide) (by decide) (by decide) (by decide) (by decide) (fun q158 => ?_)
  refine n_put (q0 := 0) (ws' := [(h0, .inr (9, [.int 0, .ref q7, .int 0, .int 0, .int 0, .int 0, .ref q16, .int 1, .ref q29, .ref q37, .int 0, .int 0, .int 0, .int 0, .ref q45, .ref q53, .ref q61, .ref q69, .ref q77, .ref q85, .ref q93, .ref q101, .ref q109, .ref q117, .ref q125, .ref q133, .ref q141, .ref q149, .int 0, .int 0, .ref q158, .int 0, .int 0, .int 0, .null, .int 0, .int 0, .null, .null, .null, .null, .int 0, .int 0, .null, .null, .null, .null, .int 0, .int 0, .long 0, .null, .null, .null, .null])), (q7, .inl (v.2.1 0, 64, .inl (fun _ => 0))), (q16, .inl (v.2.1 0, 256, .inl (fun _ => 0))), (q29, .inl (v.2.1 0, 64, .inl (fun _ => 0))), (q37, .inl (v.2.1 0, 64, .inl (fun _ => 0))), (q45, .inl (v.2.1 0, 6, .inl (fun _ => 0))), (q53, .inl (v.2.1 0, 6, .inl (fun _ => 0))), (q61, .inl (v.2.1 0, 6, .inl (fun _ => 0))), (q69, .inl (v.2.1 0, 6, .inl (fun _ => 0))), (q77, .inl (v.2.1 0, 6, .inl (fun _ => 0))), (q85, .inl (v.2.1 2, 6, .inl (fun _ => 0))), (q93, .inl (v.2.1 0, 6, .inl (fun _ => 0))), (q101, .inl (v.2.1 0, 6, .inl (fun _ => 0))), (q109, .inl (v.2.1 0, 6, .inl (fun _ => 0))), (q117, .inl (v.2.1 0, 6, .inl (fun _ => 0))), (q125, .inl (v.2.1 0, 6, .inl (fun _ => 0))), (q133, .inl (v.2.1 2, 6, .inl (fun _ => 0))), (q141, .inl (v.2.1 0, 6, .inl (fun _ => 0))), (q149, .inl (v.2.1 2, 6, .inl (fun _ => 0))), (q158, .inl (v.2.1 2, 4096, .inl (fun _ => 0)))]) d_M_init_160 fi_M_69 rfl rfl rfl (Nat.le_of_ble_eq_true rfl) rfl ?_
  refine n_aload d_M_init_163 0 rfl rfl ?_
  refine n_sipush d_M_init_164 (x := 1024) (by decide) ?_
  refine n_newa (t := 0) (N' := 1024) (a0 := (1024, .inl (fun _ => 0))) d_M_init_167 gw_ac_int rfl (fun _ _ h => h) (fun _ => rfl) (by decide) (by decide) (by decide) (by decide) (by decide) (fun q167 => ?_)
  refine n_put (q0 := 0) (ws' := [(h0, .inr (9, [.int 0, .ref q7, .int 0, .int 0, .int 0, .int 0, .ref q16, .int 1, .ref q29, .ref q37, .int 0, .int 0, .int 0, .int 0, .ref q45, .ref q53, .ref q61, .ref q69, .ref q77, .ref q85, .ref q93, .ref q101, .ref q109, .ref q117, .ref q125, .ref q133, .ref q141, .ref q149, .int 0, .int 0, .ref q158, .int 0, .int 0, .int 0, .ref q167, .int 0, .int 0, .null, .null, .null, .null, .int 0, .int 0, .null, .null, .null, .null, .int 0, .int 0, .long 0, .null, .null, .null, .null])), (q7, .inl (v.2.1 0, 64, .inl (fun _ => 0))), (q16, .inl (v.2.1 0, 256, .inl (fun _ => 0))), (q29, .inl (v.2.1 0, 64, .inl (fun _ => 0))), (q37, .inl (v.2.1 0, 64, .inl (fun _ => 0))), (q45, .inl (v.2.1 0, 6, .inl (fun _ => 0))), (q53, .inl (v.2.1 0, 6, .inl (fun _ => 0))), (q61, .inl (v.2.1 0, 6, .inl (fun _ => 0))), (q69, .inl (v.2.1 0, 6, .inl (fun _ => 0))), (q77, .inl (v.2.1 0, 6, .inl (fun _ => 0))), (q85, .inl (v.2.1 2, 6, .inl (fun _ => 0))), (q93, .inl (v.2.1 0, 6, .inl (fun _ => 0))), (q101, .inl (v.2.1 0, 6, .inl (fun _ => 0))), (q109, .inl (v.2.1 0, 6, .inl (fun _ => 0))), (q117, .inl (v.2.1 0, 6, .inl (fun _ => 0))), (q125, .inl (v.2.1 0, 6, .inl (fun _ => 0))), (q133, .inl (v.2.1 2, 6, .inl (fun _ => 0))), (q141, .inl (v.2.1 0, 6, .inl (fun _ => 0))), (q149, .inl (v.2.1 2, 6, .inl (fun _ => 0))), (q158, .inl (v.2.1 2, 4096, .inl (fun _ => 0))), (q167, .inl (v.2.1 0, 1024, .inl (fun _ => 0)))]) d_M_init_169 fi_M_72 rfl rfl rfl (Nat.le_of_ble_eq_true rfl) rfl ?_
  refine n_aload d_M_init_172 0 rfl rfl ?_
  refine n_bipush d_M_init_173 (x := 16) (by decide) ?_
  refine n_newa (t := 0) (N' := 16) (a0 := (16, .inl (fun _ => 0))) d_M_init_175 gw_ac_int rfl (fun _ _ h => h) (fun _ => rfl) (by decide) (by decide) (by decide) (by decide) (by decide) (fun q175 => ?_)
  refine n_put (q0 := 0) (ws' := [(h0, .inr (9, [.int 0, .ref q7, .int 0, .int 0, .int 0, .int 0, .ref q16, .int 1, .ref q29, .ref q37, .int 0, .int 0, .int 0, .int 0, .ref q45, .ref q53, .ref q61, .ref q69, .ref q77, .ref q85, .ref q93, .ref q101, .ref q109, .ref q117, .ref q125, .ref q133, .ref q141, .ref q149, .int 0, .int 0, .ref q158, .int 0, .int 0, .int 0, .ref q167, .int 0, .int 0, .ref q175, .null, .null, .null, .int 0, .int 0, .null, .null, .null, .null, .int 0, .int 0, .long 0, .null, .null, .null, .null])), (q7, .inl (v.2.1 0, 64, .inl (fun _ => 0))), (q16, .inl (v.2.1 0, 256, .inl (fun _ => 0))), (q29, .inl (v.2.1 0, 64, .inl (fun _ => 0))), (q37, .inl (v.2.1 0, 64, .inl (fun _ => 0))), (q45, .inl (v.2.1 0, 6, .inl (fun _ => 0))), (q53, .inl (v.2.1 0, 6, .inl (fun _ => 0))), (q61, .inl (v.2.1 0, 6, .inl (fun _ => 0))), (q69, .inl (v.2.1 0, 6, .inl (fun _ => 0))), (q77, .inl (v.2.1 0, 6, .inl (fun _ => 0))), (q85, .inl (v.2.1 2, 6, .inl (fun _ => 0))), (q93, .inl (v.2.1 0, 6, .inl (fun _ => 0))), (q101, .inl (v.2.1 0, 6, .inl (fun _ => 0))), (q109, .inl (v.2.1 0, 6, .inl (fun _ => 0))), (q117, .inl (v.2.1 0, 6, .inl (fun _ => 0))), (q125, .inl (v.2.1 0, 6, .inl (fun _ => 0))), (q133, .inl (v.2.1 2, 6, .inl (fun _ => 0))), (q141, .inl (v.2.1 0, 6, .inl (fun _ => 0))), (q149, .inl (v.2.1 2, 6, .inl (fun _ => 0))), (q158, .inl (v.2.1 2, 4096, .inl (fun _ => 0))), (q167, .inl (v.2.1 0, 1024, .inl (fun _ => 0))), (q175, .inl (v.2.1 0, 16, .inl (fun _ => 0)))]) d_M_init_177 fi_M_75 rfl rfl rfl (Nat.le_of_ble_eq_true rfl) rfl ?_
  refine n_aload d_M_init_180 0 rfl rfl ?_
  refine n_iconst d_M_init_181 (x := 4) (by decide) ?_
  refine n_newa (t := 2) (N' := 4) (a0 := (4, .inl (fun _ => 0))) d_M_init_182 gw_ac_boolean rfl (fun _ _ h => h) (fun _ => rfl) (by decide) (by decide) (by decide) (by decide) (by decide) (fun q182 => ?_)
  refine n_put (q0 := 0) (ws' := [(h0, .inr (9, [.int 0, .ref q7, .int 0, .int 0, .int 0, .int 0, .ref q16, .int 1, .ref q29, .ref q37, .int 0, .int 0, .int 0, .int 0, .ref q45, .ref q53, .ref q61, .ref q69, .ref q77, .ref q85, .ref q93, .ref q101, .ref q109, .ref q117, .ref q125, .ref q133, .ref q141, .ref q149, .int 0, .int 0, .ref q158, .int 0, .int 0, .int 0, .ref q167, .int 0, .int 0, .ref q175, .ref q182, .null, .null, .int 0, .int 0, .null, .null, .null, .null, .int 0, .int 0, .long 0, .null, .null, .null, .null])), (q7, .inl (v.2.1 0, 64, .inl (fun _ => 0))), (q16, .inl (v.2.1 0, 256, .inl (fun _ => 0))), (q29, .inl (v.2.1 0, 64, .inl (fun _ => 0))), (q37, .inl (v.2.1 0, 64, .inl (fun _ => 0))), (q45, .inl (v.2.1 0, 6, .inl (fun _ => 0))), (q53, .inl (v.2.1 0, 6, .inl (fun _ => 0))), (q61, .inl (v.2.1 0, 6, .inl (fun _ => 0))), (q69, .inl (v.2.1 0, 6, .inl (fun _ => 0))), (q77, .inl (v.2.1 0, 6, .inl (fun _ => 0))), (q85, .inl (v.2.1 2, 6, .inl (fun _ => 0))), (q93, .inl (v.2.1 0, 6, .inl (fun _ => 0))), (q101, .inl (v.2.1 0, 6, .inl (fun _ => 0))), (q109, .inl (v.2.1 0, 6, .inl (fun _ => 0))), (q117, .inl (v.2.1 0, 6, .inl (fun _ => 0))), (q125, .inl (v.2.1 0, 6, .inl (fun _ => 0))), (q133, .inl (v.2.1 2, 6, .inl (fun _ => 0))), (q141, .inl (v.2.1 0, 6, .inl (fun _ => 0))), (q149, .inl (v.2.1 2, 6, .inl (fun _ => 0))), (q158, .inl (v.2.1 2, 4096, .inl (fun _ => 0))), (q167, .inl (v.2.1 0, 1024, .inl (fun _ => 0))), (q175, .inl (v.2.1 0, 16, .inl (fun _ => 0))), (q182, .inl (v.2.1 2, 4, .inl (fun _ => 0)))]) d_M_init_184 fi_M_78 rfl rfl rfl (Nat.le_of_ble_eq_true rfl) rfl ?_
  refine n_aload d_M_init_187 0 rfl rfl ?_
  refine n_bipush d_M_init_188 (x := 16) (by decide) ?_
  refine n_newa (t := 1) (N' := 16) (a0 := (16, .inr (.inl (fun _ => 0)))) d_M_init_190 gw_ac_long rfl (fun _ _ h => h) (fun _ => rfl) (by decide) (by decide) (by decide) (by decide) (by decide) (fun q190 => ?_)
  refine n_put (q0 := 0) (ws' := [(h0, .inr (9, [.int 0, .ref q7, .int 0, .int 0, .int 0, .int 0, .ref q16, .int 1, .ref q29, .ref q37, .int 0, .int 0, .int 0, .int 0, .ref q45, .ref q53, .ref q61, .ref q69, .ref q77, .ref q85, .ref q93, .ref q101, .ref q109, .ref q117, .ref q125, .ref q133, .ref q141, .ref q149, .int 0, .int 0, .ref q158, .int 0, .int 0, .int 0, .ref q167, .int 0, .int 0, .ref q175, .ref q182, .ref q190, .null, .int 0, .int 0, .null, .null, .null, .null, .int 0, .int 0, .long 0, .null, .null, .null, .null])), (q7, .inl (v.2.1 0, 64, .inl (fun _ => 0))), (q16, .inl (v.2.1 0, 256, .inl (fun _ => 0))), (q29, .inl (v.2.1 0, 64, .inl (fun _ => 0))), (q37, .inl (v.2.1 0, 64, .inl (fun _ => 0))), (q45, .inl (v.2.1 0, 6, .inl (fun _ => 0))), (q53, .inl (v.2.1 0, 6, .inl (fun _ => 0))), (q61, .inl (v.2.1 0, 6, .inl (fun _ => 0))), (q69, .inl (v.2.1 0, 6, .inl (fun _ => 0))), (q77, .inl (v.2.1 0, 6, .inl (fun _ => 0))), (q85, .inl (v.2.1 2, 6, .inl (fun _ => 0))), (q93, .inl (v.2.1 0, 6, .inl (fun _ => 0))), (q101, .inl (v.2.1 0, 6, .inl (fun _ => 0))), (q109, .inl (v.2.1 0, 6, .inl (fun _ => 0))), (q117, .inl (v.2.1 0, 6, .inl (fun _ => 0))), (q125, .inl (v.2.1 0, 6, .inl (fun _ => 0))), (q133, .inl (v.2.1 2, 6, .inl (fun _ => 0))), (q141, .inl (v.2.1 0, 6, .inl (fun _ => 0))), (q149, .inl (v.2.1 2, 6, .inl (fun _ => 0))), (q158, .inl (v.2.1 2, 4096, .inl (fun _ => 0))), (q167, .inl (v.2.1 0, 1024, .inl (fun _ => 0))), (q175, .inl (v.2.1 0, 16, .inl (fun _ => 0))), (q182, .inl (v.2.1 2, 4, .inl (fun _ => 0))), (q190, .inl (v.2.1 1, 16, .inr (.inl (fun _ => 0))))]) d_M_init_192 fi_M_81 rfl rfl rfl (Nat.le_of_ble_eq_true rfl) rfl ?_
  refine n_aload d_M_init_195 0 rfl rfl ?_
  refine n_iconst d_M_init_196 (x := 4) (by decide) ?_
  refine n_newa (t := 1) (N' := 4) (a0 := (4, .inr (.inl (fun _ => 0)))) d_M_init_197 gw_ac_long rfl (fun _ _ h => h) (fun _ => rfl) (by decide) (by decide) (by decide) (by decide) (by decide) (fun q197 => ?_)
  refine n_put (q0 := 0) (ws' := [(h0, .inr (9, [.int 0, .ref q7, .int 0, .int 0, .int 0, .int 0, .ref q16, .int 1, .ref q29, .ref q37, .int 0, .int 0, .int 0, .int 0, .ref q45, .ref q53, .ref q61, .ref q69, .ref q77, .ref q85, .ref q93, .ref q101, .ref q109, .ref q117, .ref q125, .ref q133, .ref q141, .ref q149, .int 0, .int 0, .ref q158, .int 0, .int 0, .int 0, .ref q167, .int 0, .int 0, .ref q175, .ref q182, .ref q190, .ref q197, .int 0, .int 0, .null, .null, .null, .null, .int 0, .int 0, .long 0, .null, .null, .null, .null])), (q7, .inl (v.2.1 0, 64, .inl (fun _ => 0))), (q16, .inl (v.2.1 0, 256, .inl (fun _ => 0))), (q29, .inl (v.2.1 0, 64, .inl (fun _ => 0))), (q37, .inl (v.2.1 0, 64, .inl (fun _ => 0))), (q45, .inl (v.2.1 0, 6, .inl (fun _ => 0))), (q53, .inl (v.2.1 0, 6, .inl (fun _ => 0))), (q61, .inl (v.2.1 0, 6, .inl (fun _ => 0))), (q69, .inl (v.2.1 0, 6, .inl (fun _ => 0))), (q77, .inl (v.2.1 0, 6, .inl (fun _ => 0))), (q85, .inl (v.2.1 2, 6, .inl (fun _ => 0))), (q93, .inl (v.2.1 0, 6, .inl (fun _ => 0))), (q101, .inl (v.2.1 0, 6, .inl (fun _ => 0))), (q109, .inl (v.2.1 0, 6, .inl (fun _ => 0))), (q117, .inl (v.2.1 0, 6, .inl (fun _ => 0))), (q125, .inl (v.2.1 0, 6, .inl (fun _ => 0))), (q133, .inl (v.2.1 2, 6, .inl (fun _ => 0))), (q141, .inl (v.2.1 0, 6, .inl (fun _ => 0))), (q149, .inl (v.2.1 2, 6, .inl (fun _ => 0))), (q158, .inl (v.2.1 2, 4096, .inl (fun _ => 0))), (q167, .inl (v.2.1 0, 1024, .inl (fun _ => 0))), (q175, .inl (v.2.1 0, 16, .inl (fun _ => 0))), (q182, .inl (v.2.1 2, 4, .inl (fun _ => 0))), (q190, .inl (v.2.1 1, 16, .inr (.inl (fun _ => 0)))), (q197, .inl (v.2.1 1, 4, .inr (.inl (fun _ => 0))))]) d_M_init_199 fi_M_85 rfl rfl rfl (Nat.le_of_ble_eq_true rfl) rfl ?_
  refine n_aload d_M_init_202 0 rfl rfl ?_
  refine n_sipush d_M_init_203 (x := 512) (by decide) ?_
  refine n_newa (t := 0) (N' := 512) (a0 := (512, .inl (fun _ => 0))) d_M_init_206 gw_ac_int rfl (fun _ _ h => h) (fun _ => rfl) (by decide) (by decide) (by decide) (by decide) (by decide) (fun q206 => ?_)
  refine n_put (q0 := 0) (ws' := [(h0, .inr (9, [.int 0, .ref q7, .int 0, .int 0, .int 0, .int 0, .ref q16, .int 1, .ref q29, .ref q37, .int 0, .int 0, .int 0, .int 0, .ref q45, .ref q53, .ref q61, .ref q69, .ref q77, .ref q85, .ref q93, .ref q101, .ref q109, .ref q117, .ref q125, .ref q133, .ref q141, .ref q149, .int 0, .int 0, .ref q158, .int 0, .int 0, .int 0, .ref q167, .int 0, .int 0, .ref q175, .ref q182, .ref q190, .ref q197, .int 0, .int 0, .ref q206, .null, .null, .null, .int 0, .int 0, .long 0, .null, .null, .null, .null])), (q7, .inl (v.2.1 0, 64, .inl (fun _ => 0))), (q16, .inl (v.2.1 0, 256, .inl (fun _ => 0))), (q29, .inl (v.2.1 0, 64, .inl (fun _ => 0))), (q37, .inl (v.2.1 0, 64, .inl (fun _ => 0))), (q45, .inl (v.2.1 0, 6, .inl (fun _ => 0))), (q53, .inl (v.2.1 0, 6, .inl (fun _ => 0))), (q61, .inl (v.2.1 0, 6, .inl (fun _ => 0))), (q69, .inl (v.2.1 0, 6, .inl (fun _ => 0))), (q77, .inl (v.2.1 0, 6, .inl (fun _ => 0))), (q85, .inl (v.2.1 2, 6, .inl (fun _ => 0))), (q93, .inl (v.2.1 0, 6, .inl (fun _ => 0))), (q101, .inl (v.2.1 0, 6, .inl (fun _ => 0))), (q109, .inl (v.2.1 0, 6, .inl (fun _ => 0))), (q117, .inl (v.2.1 0, 6, .inl (fun _ => 0))), (q125, .inl (v.2.1 0, 6, .inl (fun _ => 0))), (q133, .inl (v.2.1 2, 6, .inl (fun _ => 0))), (q141, .inl (v.2.1 0, 6, .inl (fun _ => 0))), (q149, .inl (v.2.1 2, 6, .inl (fun _ => 0))), (q158, .inl (v.2.1 2, 4096, .inl (fun _ => 0))), (q167, .inl (v.2.1 0, 1024, .inl (fun _ => 0))), (q175, .inl (v.2.1 0, 16, .inl (fun _ => 0))), (q182, .inl (v.2.1 2, 4, .inl (fun _ => 0))), (q190, .inl (v.2.1 1, 16, .inr (.inl (fun _ => 0)))), (q197, .inl (v.2.1 1, 4, .inr (.inl (fun _ => 0)))), (q206, .inl (v.2.1 0, 512, .inl (fun _ => 0)))]) d_M_init_208 fi_M_88 rfl rfl rfl (Nat.le_of_ble_eq_true rfl) rfl ?_
  refine n_aload d_M_init_211 0 rfl rfl ?_
  refine n_sipush d_M_init_212 (x := 500) (by decide) ?_
  refine n_newa (t := 1) (N' := 500) (a0 := (500, .inr (.inl (fun _ => 0)))) d_M_init_215 gw_ac_long rfl (fun _ _ h => h) (fun _ => rfl) (by decide) (by decide) (by decide) (by decide) (by decide) (fun q215 => ?_)
  refine n_put (q0 := 0) (ws' := [(h0, .inr (9, [.int 0, .ref q7, .int 0, .int 0, .int 0, .int 0, .ref q16, .int 1, .ref q29, .ref q37, .int 0, .int 0, .int 0, .int 0, .ref q45, .ref q53, .ref q61, .ref q69, .ref q77, .ref q85, .ref q93, .ref q101, .ref q109, .ref q117, .ref q125, .ref q133, .ref q141, .ref q149, .int 0, .int 0, .ref q158, .int 0, .int 0, .int 0, .ref q167, .int 0, .int 0, .ref q175, .ref q182, .ref q190, .ref q197, .int 0, .int 0, .ref q206, .ref q215, .null, .null, .int 0, .int 0, .long 0, .null, .null, .null, .null])), (q7, .inl (v.2.1 0, 64, .inl (fun _ => 0))), (q16, .inl (v.2.1 0, 256, .inl (fun _ => 0))), (q29, .inl (v.2.1 0, 64, .inl (fun _ => 0))), (q37, .inl (v.2.1 0, 64, .inl (fun _ => 0))), (q45, .inl (v.2.1 0, 6, .inl (fun _ => 0))), (q53, .inl (v.2.1 0, 6, .inl (fun _ => 0))), (q61, .inl (v.2.1 0, 6, .inl (fun _ => 0))), (q69, .inl (v.2.1 0, 6, .inl (fun _ => 0))), (q77, .inl (v.2.1 0, 6, .inl (fun _ => 0))), (q85, .inl (v.2.1 2, 6, .inl (fun _ => 0))), (q93, .inl (v.2.1 0, 6, .inl (fun _ => 0))), (q101, .inl (v.2.1 0, 6, .inl (fun _ => 0))), (q109, .inl (v.2.1 0, 6, .inl (fun _ => 0))), (q117, .inl (v.2.1 0, 6, .inl (fun _ => 0))), (q125, .inl (v.2.1 0, 6, .inl (fun _ => 0))), (q133, .inl (v.2.1 2, 6, .inl (fun _ => 0))), (q141, .inl (v.2.1 0, 6, .inl (fun _ => 0))), (q149, .inl (v.2.1 2, 6, .inl (fun _ => 0))), (q158, .inl (v.2.1 2, 4096, .inl (fun _ => 0))), (q167, .inl (v.2.1 0, 1024, .inl (fun _ => 0))), (q175, .inl (v.2.1 0, 16, .inl (fun _ => 0))), (q182, .inl (v.2.1 2, 4, .inl (fun _ => 0))), (q190, .inl (v.2.1 1, 16, .inr (.inl (fun _ => 0)))), (q197, .inl (v.2.1 1, 4, .inr (.inl (fun _ => 0)))), (q206, .inl (v.2.1 0, 512, .inl (fun _ => 0))), (q215, .inl (v.2.1 1, 500, .inr (.inl (fun _ => 0))))]) d_M_init_217 fi_M_91 rfl rfl rfl (Nat.le_of_ble_eq_true rfl) rfl ?_
  refine n_aload d_M_init_220 0 rfl rfl ?_
  refine n_sipush d_M_init_221 (x := 500) (by decide) ?_
  refine n_newa (t := 0) (N' := 500) (a0 := (500, .inl (fun _ => 0))) d_M_init_224 gw_ac_int rfl (fun _ _ h => h) (fun _ => rfl) (by decide) (by decide) (by decide) (by decide) (by decide) (fun q224 => ?_)
  refine n_put (q0 := 0) (ws' := [(h0, .inr (9, [.int 0, .ref q7, .int 0, .int 0, .int 0, .int 0, .ref q16, .int 1, .ref q29, .ref q37, .int 0, .int 0, .int 0, .int 0, .ref q45, .ref q53, .ref q61, .ref q69, .ref q77, .ref q85, .ref q93, .ref q101, .ref q109, .ref q117, .ref q125, .ref q133, .ref q141, .ref q149, .int 0, .int 0, .ref q158, .int 0, .int 0, .int 0, .ref q167, .int 0, .int 0, .ref q175, .ref q182, .ref q190, .ref q197, .int 0, .int 0, .ref q206, .ref q215, .ref q224, .null, .int 0, .int 0, .long 0, .null, .null, .null, .null])), (q7, .inl (v.2.1 0, 64, .inl (fun _ => 0))), (q16, .inl (v.2.1 0, 256, .inl (fun _ => 0))), (q29, .inl (v.2.1 0, 64, .inl (fun _ => 0))), (q37, .inl (v.2.1 0, 64, .inl (fun _ => 0))), (q45, .inl (v.2.1 0, 6, .inl (fun _ => 0))), (q53, .inl (v.2.1 0, 6, .inl (fun _ => 0))), (q61, .inl (v.2.1 0, 6, .inl (fun _ => 0))), (q69, .inl (v.2.1 0, 6, .inl (fun _ => 0))), (q77, .inl (v.2.1 0, 6, .inl (fun _ => 0))), (q85, .inl (v.2.1 2, 6, .inl (fun _ => 0))), (q93, .inl (v.2.1 0, 6, .inl (fun _ => 0))), (q101, .inl (v.2.1 0, 6, .inl (fun _ => 0))), (q109, .inl (v.2.1 0, 6, .inl (fun _ => 0))), (q117, .inl (v.2.1 0, 6, .inl (fun _ => 0))), (q125, .inl (v.2.1 0, 6, .inl (fun _ => 0))), (q133, .inl (v.2.1 2, 6, .inl (fun _ => 0))), (q141, .inl (v.2.1 0, 6, .inl (fun _ => 0))), (q149, .inl (v.2.1 2, 6, .inl (fun _ => 0))), (q158, .inl (v.2.1 2, 4096, .inl (fun _ => 0))), (q167, .inl (v.2.1 0, 1024, .inl (fun _ => 0))), (q175, .inl (v.2.1 0, 16, .inl (fun _ => 0))), (q182, .inl (v.2.1 2, 4, .inl (fun _ => 0))), (q190, .inl (v.2.1 1, 16, .inr (.inl (fun _ => 0)))), (q197, .inl (v.2.1 1, 4, .inr (.inl (fun _ => 0)))), (q206, .inl (v.2.1 0, 512, .inl (fun _ => 0))), (q215, .inl (v.2.1 1, 500, .inr (.inl (fun _ => 0)))), (q224, .inl (v.2.1 0, 500, .inl (fun _ => 0)))]) d_M_init_226 fi_M_94 rfl rfl rfl (Nat.le_of_ble_eq_true rfl) rfl ?_
  refine n_aload d_M_init_229 0 rfl rfl ?_
  refine n_sipush d_M_init_230 (x := 500) (by decide) ?_
  refine n_newa (t := 0) (N' := 500) (a0 := (500, .inl (fun _ => 0))) d_M_init_233 gw_ac_int rfl (fun _ _ h => h) (fun _ => rfl) (by decide) (by decide) (by decide) (by decide) (by decide) (fun q233 => ?_)
  refine n_put (q0 := 0) (ws' := [(h0, .inr (9, [.int 0, .ref q7, .int 0, .int 0, .int 0, .int 0, .ref q16, .int 1, .ref q29, .ref q37, .int 0, .int 0, .int 0, .int 0, .ref q45, .ref q53, .ref q61, .ref q69, .ref q77, .ref q85, .ref q93, .ref q101, .ref q109, .ref q117, .ref q125, .ref q133, .ref q141, .ref q149, .int 0, .int 0, .ref q158, .int 0, .int 0, .int 0, .ref q167, .int 0, .int 0, .ref q175, .ref q182, .ref q190, .ref q197, .int 0, .int 0, .ref q206, .ref q215, .ref q224, .ref q233, .int 0, .int 0, .long 0, .null, .null, .null, .null])), (q7, .inl (v.2.1 0, 64, .inl (fun _ => 0))), (q16, .inl (v.2.1 0, 256, .inl (fun _ => 0))), (q29, .inl (v.2.1 0, 64, .inl (fun _ => 0))), (q37, .inl (v.2.1 0, 64, .inl (fun _ => 0))), (q45, .inl (v.2.1 0, 6, .inl (fun _ => 0))), (q53, .inl (v.2.1 0, 6, .inl (fun _ => 0))), (q61, .inl (v.2.1 0, 6, .inl (fun _ => 0))), (q69, .inl (v.2.1 0, 6, .inl (fun _ => 0))), (q77, .inl (v.2.1 0, 6, .inl (fun _ => 0))), (q85, .inl (v.2.1 2, 6, .inl (fun _ => 0))), (q93, .inl (v.2.1 0, 6, .inl (fun _ => 0))), (q101, .inl (v.2.1 0, 6, .inl (fun _ => 0))), (q109, .inl (v.2.1 0, 6, .inl (fun _ => 0))), (q117, .inl (v.2.1 0, 6, .inl (fun _ => 0))), (q125, .inl (v.2.1 0, 6, .inl (fun _ => 0))), (q133, .inl (v.2.1 2, 6, .inl (fun _ => 0))), (q141, .inl (v.2.1 0, 6, .inl (fun _ => 0))), (q149, .inl (v.2.1 2, 6, .inl (fun _ => 0))), (q158, .inl (v.2.1 2, 4096, .inl (fun _ => 0))), (q167, .inl (v.2.1 0, 1024, .inl (fun _ => 0))), (q175, .inl (v.2.1 0, 16, .inl (fun _ => 0))), (q182, .inl (v.2.1 2, 4, .inl (fun _ => 0))), (q190, .inl (v.2.1 1, 16, .inr (.inl (fun _ => 0)))), (q197, .inl (v.2.1 1, 4, .inr (.inl (fun _ => 0)))), (q206, .inl (v.2.1 0, 512, .inl (fun _ => 0))), (q215, .inl (v.2.1 1, 500, .inr (.inl (fun _ => 0)))), (q224, .inl (v.2.1 0, 500, .inl (fun _ => 0))), (q233, .inl (v.2.1 0, 500, .inl (fun _ => 0)))]) d_M_init_235 fi_M_97 rfl rfl rfl (Nat.le_of_ble_eq_true rfl) rfl ?_
  refine n_aload d_M_init_238 0 rfl rfl ?_
  refine n_bipush d_M_init_239 (x := 68) (by decide) ?_
  refine n_newa (t := 0) (N' := 68) (a0 := (68, .inl (fun _ => 0))) d_M_init_241 gw_ac_int rfl (fun _ _ h => h) (fun _ => rfl) (by decide) (by decide) (by decide) (by decide) (by decide) (fun q241 => ?_)
  refine n_put (q0 := 0) (ws' := [(h0, .inr (9, [.int 0, .ref q7, .int 0, .int 0, .int 0, .int 0, .ref q16, .int 1, .ref q29, .ref q37, .int 0, .int 0, .int 0, .int 0, .ref q45, .ref q53, .ref q61, .ref q69, .ref q77, .ref q85, .ref q93, .ref q101, .ref q109, .ref q117, .ref q125, .ref q133, .ref q141, .ref q149, .int 0, .int 0, .ref q158, .int 0, .int 0, .int 0, .ref q167, .int 0, .int 0, .ref q175, .ref q182, .ref q190, .ref q197, .int 0, .int 0, .ref q206, .ref q215, .ref q224, .ref q233, .int 0, .int 0, .long 0, .ref q241, .null, .null, .null])), (q7, .inl (v.2.1 0, 64, .inl (fun _ => 0))), (q16, .inl (v.2.1 0, 256, .inl (fun _ => 0))), (q29, .inl (v.2.1 0, 64, .inl (fun _ => 0))), (q37, .inl (v.2.1 0, 64, .inl (fun _ => 0))), (q45, .inl (v.2.1 0, 6, .inl (fun _ => 0))), (q53, .inl (v.2.1 0, 6, .inl (fun _ => 0))), (q61, .inl (v.2.1 0, 6, .inl (fun _ => 0))), (q69, .inl (v.2.1 0, 6, .inl (fun _ => 0))), (q77, .inl (v.2.1 0, 6, .inl (fun _ => 0))), (q85, .inl (v.2.1 2, 6, .inl (fun _ => 0))), (q93, .inl (v.2.1 0, 6, .inl (fun _ => 0))), (q101, .inl (v.2.1 0, 6, .inl (fun _ => 0))), (q109, .inl (v.2.1 0, 6, .inl (fun _ => 0))), (q117, .inl (v.2.1 0, 6, .inl (fun _ => 0))), (q125, .inl (v.2.1 0, 6, .inl (fun _ => 0))), (q133, .inl (v.2.1 2, 6, .inl (fun _ => 0))), (q141, .inl (v.2.1 0, 6, .inl (fun _ => 0))), (q149, .inl (v.2.1 2, 6, .inl (fun _ => 0))), (q158, .inl (v.2.1 2, 4096, .inl (fun _ => 0))), (q167, .inl (v.2.1 0, 1024, .inl (fun _ => 0))), (q175, .inl (v.2.1 0, 16, .inl (fun _ => 0))), (q182, .inl (v.2.1 2, 4, .inl (fun _ => 0))), (q190, .inl (v.2.1 1, 16, .inr (.inl (fun _ => 0)))), (q197, .inl (v.2.1 1, 4, .inr (.inl (fun _ => 0)))), (q206, .inl (v.2.1 0, 512, .inl (fun _ => 0))), (q215, .inl (v.2.1 1, 500, .inr (.inl (fun _ => 0)))), (q224, .inl (v.2.1 0, 500, .inl (fun _ => 0))), (q233, .inl (v.2.1 0, 500, .inl (fun _ => 0))), (q241, .inl (v.2.1 0, 68, .inl (fun _ => 0)))]) d_M_init_243 fi_M_100 rfl rfl rfl (Nat.le_of_ble_eq_true rfl) rfl ?_
  refine n_aload d_M_init_246 0 rfl rfl ?_
  refine n_bipush d_M_init_247 (x := 64) (by decide) ?_
  refine n_newa (t := 1) (N' := 64) (a0 := (64, .inr (.inl (fun _ => 0)))) d_M_init_249 gw_ac_long rfl (fun _ _ h => h) (fun _ => rfl) (by decide) (by decide) (by decide) (by decide) (by decide) (fun q249 => ?_)
  refine n_put (q0 := 0) (ws' := [(h0, .inr (9, [.int 0, .ref q7, .int 0, .int 0, .int 0, .int 0, .ref q16, .int 1, .ref q29, .ref q37, .int 0, .int 0, .int 0, .int 0, .ref q45, .ref q53, .ref q61, .ref q69, .ref q77, .ref q85, .ref q93, .ref q101, .ref q109, .ref q117, .ref q125, .ref q133, .ref q141, .ref q149, .int 0, .int 0, .ref q158, .int 0, .int 0, .int 0, .ref q167, .int 0, .int 0, .ref q175, .ref q182, .ref q190, .ref q197, .int 0, .int 0, .ref q206, .ref q215, .ref q224, .ref q233, .int 0, .int 0, .long 0, .ref q241, .ref q249, .null, .null])), (q7, .inl (v.2.1 0, 64, .inl (fun _ => 0))), (q16, .inl (v.2.1 0, 256, .inl (fun _ => 0))), (q29, .inl (v.2.1 0, 64, .inl (fun _ => 0))), (q37, .inl (v.2.1 0, 64, .inl (fun _ => 0))), (q45, .inl (v.2.1 0, 6, .inl (fun _ => 0))), (q53, .inl (v.2.1 0, 6, .inl (fun _ => 0))), (q61, .inl (v.2.1 0, 6, .inl (fun _ => 0))), (q69, .inl (v.2.1 0, 6, .inl (fun _ => 0))), (q77, .inl (v.2.1 0, 6, .inl (fun _ => 0))), (q85, .inl (v.2.1 2, 6, .inl (fun _ => 0))), (q93, .inl (v.2.1 0, 6, .inl (fun _ => 0))), (q101, .inl (v.2.1 0, 6, .inl (fun _ => 0))), (q109, .inl (v.2.1 0, 6, .inl (fun _ => 0))), (q117, .inl (v.2.1 0, 6, .inl (fun _ => 0))), (q125, .inl (v.2.1 0, 6, .inl (fun _ => 0))), (q133, .inl (v.2.1 2, 6, .inl (fun _ => 0))), (q141, .inl (v.2.1 0, 6, .inl (fun _ => 0))), (q149, .inl (v.2.1 2, 6, .inl (fun _ => 0))), (q158, .inl (v.2.1 2, 4096, .inl (fun _ => 0))), (q167, .inl (v.2.1 0, 1024, .inl (fun _ => 0))), (q175, .inl (v.2.1 0, 16, .inl (fun _ => 0))), (q182, .inl (v.2.1 2, 4, .inl (fun _ => 0))), (q190, .inl (v.2.1 1, 16, .inr (.inl (fun _ => 0)))), (q197, .inl (v.2.1 1, 4, .inr (.inl (fun _ => 0)))), (q206, .inl (v.2.1 0, 512, .inl (fun _ => 0))), (q215, .inl (v.2.1 1, 500, .inr (.inl (fun _ => 0)))), (q224, .inl (v.2.1 0, 500, .inl (fun _ => 0))), (q233, .inl (v.2.1 0, 500, .inl (fun _ => 0))), (q241, .inl (v.2.1 0, 68, .inl (fun _ => 0))), (q249, .inl (v.2.1 1, 64, .inr (.inl (fun _ => 0))))]) d_M_init_251 fi_M_103 rfl rfl rfl (Nat.le_of_ble_eq_true rfl) rfl ?_
  refine n_aload d_M_init_254 0 rfl rfl ?_
  refine n_bipush d_M_init_255 (x := 64) (by decide) ?_
  refine n_newa (t := 1) (N' := 64) (a0 := (64, .inr (.inl (fun _ => 0)))) d_M_init_257 gw_ac_long rfl (fun _ _ h => h) (fun _ => rfl) (by decide) (by decide) (by decide) (by decide) (by decide) (fun q257 => ?_)
  refine n_put (q0 := 0) (ws' := [(h0, .inr (9, [.int 0, .ref q7, .int 0, .int 0, .int 0, .int 0, .ref q16, .int 1, .ref q29, .ref q37, .int 0, .int 0, .int 0, .int 0, .ref q45, .ref q53, .ref q61, .ref q69, .ref q77, .ref q85, .ref q93, .ref q101, .ref q109, .ref q117, .ref q125, .ref q133, .ref q141, .ref q149, .int 0, .int 0, .ref q158, .int 0, .int 0, .int 0, .ref q167, .int 0, .int 0, .ref q175, .ref q182, .ref q190, .ref q197, .int 0, .int 0, .ref q206, .ref q215, .ref q224, .ref q233, .int 0, .int 0, .long 0, .ref q241, .ref q249, .ref q257, .null])), (q7, .inl (v.2.1 0, 64, .inl (fun _ => 0))), (q16, .inl (v.2.1 0, 256, .inl (fun _ => 0))), (q29, .inl (v.2.1 0, 64, .inl (fun _ => 0))), (q37, .inl (v.2.1 0, 64, .inl (fun _ => 0))), (q45, .inl (v.2.1 0, 6, .inl (fun _ => 0))), (q53, .inl (v.2.1 0, 6, .inl (fun _ => 0))), (q61, .inl (v.2.1 0, 6, .inl (fun _ => 0))), (q69, .inl (v.2.1 0, 6, .inl (fun _ => 0))), (q77, .inl (v.2.1 0, 6, .inl (fun _ => 0))), (q85, .inl (v.2.1 2, 6, .inl (fun _ => 0))), (q93, .inl (v.2.1 0, 6, .inl (fun _ => 0))), (q101, .inl (v.2.1 0, 6, .inl (fun _ => 0))), (q109, .inl (v.2.1 0, 6, .inl (fun _ => 0))), (q117, .inl (v.2.1 0, 6, .inl (fun _ => 0))), (q125, .inl (v.2.1 0, 6, .inl (fun _ => 0))), (q133, .inl (v.2.1 2, 6, .inl (fun _ => 0))), (q141, .inl (v.2.1 0, 6, .inl (fun _ => 0))), (q149, .inl (v.2.1 2, 6, .inl (fun _ => 0))), (q158, .inl (v.2.1 2, 4096, .inl (fun _ => 0))), (q167, .inl (v.2.1 0, 1024, .inl (fun _ => 0))), (q175, .inl (v.2.1 0, 16, .inl (fun _ => 0))), (q182, .inl (v.2.1 2, 4, .inl (fun _ => 0))), (q190, .inl (v.2.1 1, 16, .inr (.inl (fun _ => 0)))), (q197, .inl (v.2.1 1, 4, .inr (.inl (fun _ => 0)))), (q206, .inl (v.2.1 0, 512, .inl (fun _ => 0))), (q215, .inl (v.2.1 1, 500, .inr (.inl (fun _ => 0)))), (q224, .inl (v.2.1 0, 500, .inl (fun _ => 0))), (q233, .inl (v.2.1 0, 500, .inl (fun _ => 0))), (q241, .inl (v.2.1 0, 68, .inl (fun _ => 0))), (q249, .inl (v.2.1 1, 64, .inr (.inl (fun _ => 0)))), (q257, .inl (v.2.1 1, 64, .inr (.inl (fun _ => 0))))]) d_M_init_259 fi_M_106 rfl rfl rfl (Nat.le_of_ble_eq_true rfl) rfl ?_
  refine n_aload d_M_init_262 0 rfl rfl ?_
  refine n_bipush d_M_init_263 (x := 65) (by decide) ?_
  refine n_newa (t := 1) (N' := 65) (a0 := (65, .inr (.inl (fun _ => 0)))) d_M_init_265 gw_ac_long rfl (fun _ _ h => h) (fun _ => rfl) (by decide) (by decide) (by decide) (by decide) (by decide) (fun q265 => ?_)
  refine n_put (q0 := 0) (ws' := [(h0, .inr (9, [.int 0, .ref q7, .int 0, .int 0, .int 0, .int 0, .ref q16, .int 1, .ref q29, .ref q37, .int 0, .int 0, .int 0, .int 0, .ref q45, .ref q53, .ref q61, .ref q69, .ref q77, .ref q85, .ref q93, .ref q101, .ref q109, .ref q117, .ref q125, .ref q133, .ref q141, .ref q149, .int 0, .int 0, .ref q158, .int 0, .int 0, .int 0, .ref q167, .int 0, .int 0, .ref q175, .ref q182, .ref q190, .ref q197, .int 0, .int 0, .ref q206, .ref q215, .ref q224, .ref q233, .int 0, .int 0, .long 0, .ref q241, .ref q249, .ref q257, .ref q265])), (q7, .inl (v.2.1 0, 64, .inl (fun _ => 0))), (q16, .inl (v.2.1 0, 256, .inl (fun _ => 0))), (q29, .inl (v.2.1 0, 64, .inl (fun _ => 0))), (q37, .inl (v.2.1 0, 64, .inl (fun _ => 0))), (q45, .inl (v.2.1 0, 6, .inl (fun _ => 0))), (q53, .inl (v.2.1 0, 6, .inl (fun _ => 0))), (q61, .inl (v.2.1 0, 6, .inl (fun _ => 0))), (q69, .inl (v.2.1 0, 6, .inl (fun _ => 0))), (q77, .inl (v.2.1 0, 6, .inl (fun _ => 0))), (q85, .inl (v.2.1 2, 6, .inl (fun _ => 0))), (q93, .inl (v.2.1 0, 6, .inl (fun _ => 0))), (q101, .inl (v.2.1 0, 6, .inl (fun _ => 0))), (q109, .inl (v.2.1 0, 6, .inl (fun _ => 0))), (q117, .inl (v.2.1 0, 6, .inl (fun _ => 0))), (q125, .inl (v.2.1 0, 6, .inl (fun _ => 0))), (q133, .inl (v.2.1 2, 6, .inl (fun _ => 0))), (q141, .inl (v.2.1 0, 6, .inl (fun _ => 0))), (q149, .inl (v.2.1 2, 6, .inl (fun _ => 0))), (q158, .inl (v.2.1 2, 4096, .inl (fun _ => 0))), (q167, .inl (v.2.1 0, 1024, .inl (fun _ => 0))), (q175, .inl (v.2.1 0, 16, .inl (fun _ => 0))), (q182, .inl (v.2.1 2, 4, .inl (fun _ => 0))), (q190, .inl (v.2.1 1, 16, .inr (.inl (fun _ => 0)))), (q197, .inl (v.2.1 1, 4, .inr (.inl (fun _ => 0)))), (q206, .inl (v.2.1 0, 512, .inl (fun _ => 0))), (q215, .inl (v.2.1 1, 500, .inr (.inl (fun _ => 0)))), (q224, .inl (v.2.1 0, 500, .inl (fun _ => 0))), (q233, .inl (v.2.1 0, 500, .inl (fun _ => 0))), (q241, .inl (v.2.1 0, 68, .inl (fun _ => 0))), (q249, .inl (v.2.1 1, 64, .inr (.inl (fun _ => 0)))), (q257, .inl (v.2.1 1, 64, .inr (.inl (fun _ => 0)))), (q265, .inl (v.2.1 1, 65, .inr (.inl (fun _ => 0))))]) d_M_init_267 fi_M_109 rfl rfl rfl (Nat.le_of_ble_eq_true rfl) rfl ?_
  exact n_ret (fun k => match k with | 1 => q7 | 2 => q16 | 3 => q29 | 4 => q37 | 5 => q45 | 6 => q53 | 7 => q61 | 8 => q69 | 9 => q77 | 10 => q85 | 11 => q93 | 12 => q101 | 13 => q109 | 14 => q117 | 15 => q125 | 16 => q133 | 17 => q141 | 18 => q149 | 19 => q158 | 20 => q167 | 21 => q175 | 22 => q182 | 23 => q190 | 24 => q197 | 25 => q206 | 26 => q215 | 27 => q224 | 28 => q233 | 29 => q241 | 30 => q249 | 31 => q257 | 32 => q265 | _ => 0) d_M_init_270 rfl
theorem d_A_init_0 : decode me_A_init.2.1 0 = .ok (.aload_n 0, 1) := by decide +kernel
theorem d_A_init_1 : decode me_A_init.2.1 1 = .ok (.invokespecial 1, 3) := by decide +kernel
theorem d_A_init_4 : decode me_A_init.2.1 4 = .ok (.aload_n 0, 1) := by decide +kernel
theorem d_A_init_5 : decode me_A_init.2.1 5 = .ok (.new 7, 3) := by decide +kernel
theorem d_A_init_8 : decode me_A_init.2.1 8 = .ok (.dup, 1) := by decide +kernel
theorem d_A_init_9 : decode me_A_init.2.1 9 = .ok (.invokespecial 9, 3) := by decide +kernel
theorem d_A_init_12 : decode me_A_init.2.1 12 = .ok (.putfield 10, 3) := by decide +kernel
theorem d_A_init_15 : decode me_A_init.2.1 15 = .ok (.aload_n 0, 1) := by decide +kernel
theorem d_A_init_16 : decode me_A_init.2.1 16 = .ok (.new 16, 3) := by decide +kernel
theorem d_A_init_19 : decode me_A_init.2.1 19 = .ok (.dup, 1) := by decide +kernel
theorem d_A_init_20 : decode me_A_init.2.1 20 = .ok (.invokespecial 18, 3) := by decide +kernel
theorem d_A_init_23 : decode me_A_init.2.1 23 = .ok (.putfield 19, 3) := by decide +kernel
theorem d_A_init_26 : decode me_A_init.2.1 26 = .ok (.aload_n 0, 1) := by decide +kernel
theorem d_A_init_27 : decode me_A_init.2.1 27 = .ok (.new 23, 3) := by decide +kernel
theorem d_A_init_30 : decode me_A_init.2.1 30 = .ok (.dup, 1) := by decide +kernel
theorem d_A_init_31 : decode me_A_init.2.1 31 = .ok (.aload_n 0, 1) := by decide +kernel
theorem d_A_init_32 : decode me_A_init.2.1 32 = .ok (.getfield 19, 3) := by decide +kernel
theorem d_A_init_35 : decode me_A_init.2.1 35 = .ok (.invokespecial 25, 3) := by decide +kernel
theorem d_A_init_38 : decode me_A_init.2.1 38 = .ok (.putfield 28, 3) := by decide +kernel
theorem d_A_init_41 : decode me_A_init.2.1 41 = .ok (.aload_n 0, 1) := by decide +kernel
theorem d_A_init_42 : decode me_A_init.2.1 42 = .ok (.new 32, 3) := by decide +kernel
theorem d_A_init_45 : decode me_A_init.2.1 45 = .ok (.dup, 1) := by decide +kernel
theorem d_A_init_46 : decode me_A_init.2.1 46 = .ok (.aload_n 0, 1) := by decide +kernel
theorem d_A_init_47 : decode me_A_init.2.1 47 = .ok (.getfield 19, 3) := by decide +kernel
theorem d_A_init_50 : decode me_A_init.2.1 50 = .ok (.invokespecial 34, 3) := by decide +kernel
theorem d_A_init_53 : decode me_A_init.2.1 53 = .ok (.putfield 35, 3) := by decide +kernel
theorem d_A_init_56 : decode me_A_init.2.1 56 = .ok (.aload_n 0, 1) := by decide +kernel
theorem d_A_init_57 : decode me_A_init.2.1 57 = .ok (.new 39, 3) := by decide +kernel
theorem d_A_init_60 : decode me_A_init.2.1 60 = .ok (.dup, 1) := by decide +kernel
theorem d_A_init_61 : decode me_A_init.2.1 61 = .ok (.aload_n 0, 1) := by decide +kernel
theorem d_A_init_62 : decode me_A_init.2.1 62 = .ok (.getfield 19, 3) := by decide +kernel
theorem d_A_init_65 : decode me_A_init.2.1 65 = .ok (.aload_n 0, 1) := by decide +kernel
theorem d_A_init_66 : decode me_A_init.2.1 66 = .ok (.getfield 35, 3) := by decide +kernel
theorem d_A_init_69 : decode me_A_init.2.1 69 = .ok (.invokespecial 41, 3) := by decide +kernel
theorem d_A_init_72 : decode me_A_init.2.1 72 = .ok (.putfield 44, 3) := by decide +kernel
theorem d_A_init_75 : decode me_A_init.2.1 75 = .ok (.aload_n 0, 1) := by decide +kernel
theorem d_A_init_76 : decode me_A_init.2.1 76 = .ok (.new 48, 3) := by decide +kernel
theorem d_A_init_79 : decode me_A_init.2.1 79 = .ok (.dup, 1) := by decide +kernel
theorem d_A_init_80 : decode me_A_init.2.1 80 = .ok (.aload_n 0, 1) := by decide +kernel
theorem d_A_init_81 : decode me_A_init.2.1 81 = .ok (.getfield 19, 3) := by decide +kernel
theorem d_A_init_84 : decode me_A_init.2.1 84 = .ok (.invokespecial 50, 3) := by decide +kernel
theorem d_A_init_87 : decode me_A_init.2.1 87 = .ok (.putfield 51, 3) := by decide +kernel
theorem d_A_init_90 : decode me_A_init.2.1 90 = .ok (.aload_n 0, 1) := by decide +kernel
theorem d_A_init_91 : decode me_A_init.2.1 91 = .ok (.new 55, 3) := by decide +kernel
theorem d_A_init_94 : decode me_A_init.2.1 94 = .ok (.dup, 1) := by decide +kernel
theorem d_A_init_95 : decode me_A_init.2.1 95 = .ok (.aload_n 0, 1) := by decide +kernel
theorem d_A_init_96 : decode me_A_init.2.1 96 = .ok (.getfield 19, 3) := by decide +kernel
theorem d_A_init_99 : decode me_A_init.2.1 99 = .ok (.aload_n 0, 1) := by decide +kernel
theorem d_A_init_100 : decode me_A_init.2.1 100 = .ok (.getfield 35, 3) := by decide +kernel
theorem d_A_init_103 : decode me_A_init.2.1 103 = .ok (.invokespecial 57, 3) := by decide +kernel
theorem d_A_init_106 : decode me_A_init.2.1 106 = .ok (.putfield 58, 3) := by decide +kernel
theorem d_A_init_109 : decode me_A_init.2.1 109 = .ok (.aload_n 0, 1) := by decide +kernel
theorem d_A_init_110 : decode me_A_init.2.1 110 = .ok (.new 62, 3) := by decide +kernel
theorem d_A_init_113 : decode me_A_init.2.1 113 = .ok (.dup, 1) := by decide +kernel
theorem d_A_init_114 : decode me_A_init.2.1 114 = .ok (.aload_n 0, 1) := by decide +kernel
theorem d_A_init_115 : decode me_A_init.2.1 115 = .ok (.getfield 19, 3) := by decide +kernel
theorem d_A_init_118 : decode me_A_init.2.1 118 = .ok (.aload_n 0, 1) := by decide +kernel
theorem d_A_init_119 : decode me_A_init.2.1 119 = .ok (.getfield 28, 3) := by decide +kernel
theorem d_A_init_122 : decode me_A_init.2.1 122 = .ok (.invokespecial 64, 3) := by decide +kernel
theorem d_A_init_125 : decode me_A_init.2.1 125 = .ok (.putfield 67, 3) := by decide +kernel
theorem d_A_init_128 : decode me_A_init.2.1 128 = .ok (.return_, 1) := by decide +kernel
theorem lo_A : Cond.methodLink "LineRules" 1 objectInit ∈ gw := (gw_t1 (List.mem_of_getElem? (i := 19) rfl) rfl)
theorem nw_A_7 : gNw "LineRules" 7 1 9 tyX1 := ⟨"LineRules$Text", TX1, rfl, inX1, tyX1_ok, (gw_t1 (List.mem_of_getElem? (i := 22) rfl) rfl), (gw_t1 (List.mem_of_getElem? (i := 23) rfl) rfl), (gw_t1 (List.mem_of_getElem? (i := 2) rfl) rfl)⟩
theorem im_T : Cond.instanceMethod me_T_init.1 ∈ gw := (gw_t1 (List.mem_of_getElem? (i := 25) rfl) rfl)
theorem fi_A_10 : gFi "LineRules" 10 0 0 (.object "LineRules$Text") := ⟨"LineRules", TX0, 8, tyX0, rfl, by decide, inX0, (gw_t2 (List.mem_of_getElem? (i := 66) rfl) rfl), rfl, tyX0_ok, nmX0, rfl, by decide +kernel⟩
theorem nw_A_16 : gNw "LineRules" 16 2 10 tyX2 := ⟨"LineRules$Rule", TX2, rfl, inX2, tyX2_ok, (gw_t1 (List.mem_of_getElem? (i := 58) rfl) rfl), (gw_t1 (List.mem_of_getElem? (i := 59) rfl) rfl), (gw_t1 (List.mem_of_getElem? (i := 3) rfl) rfl)⟩
theorem im_R : Cond.instanceMethod me_R_init.1 ∈ gw := (gw_t1 (List.mem_of_getElem? (i := 61) rfl) rfl)
theorem fi_A_19 : gFi "LineRules" 19 0 1 (.object "LineRules$Rule") := ⟨"LineRules", TX0, 8, tyX0, rfl, by decide, inX0, (gw_t2 (List.mem_of_getElem? (i := 67) rfl) rfl), rfl, tyX0_ok, nmX0, rfl, by decide +kernel⟩
theorem nw_A_23 : gNw "LineRules" 23 3 5 tyX3 := ⟨"LineRules$Ring", TX3, rfl, inX3, tyX3_ok, (gw_t1 (List.mem_of_getElem? (i := 126) rfl) rfl), (gw_t1 (List.mem_of_getElem? (i := 127) rfl) rfl), (gw_t1 (List.mem_of_getElem? (i := 4) rfl) rfl)⟩
theorem im_C : Cond.instanceMethod me_C_init.1 ∈ gw := (gw_t1 (List.mem_of_getElem? (i := 129) rfl) rfl)
theorem fi_A_28 : gFi "LineRules" 28 0 2 (.object "LineRules$Ring") := ⟨"LineRules", TX0, 8, tyX0, rfl, by decide, inX0, (gw_t2 (List.mem_of_getElem? (i := 68) rfl) rfl), rfl, tyX0_ok, nmX0, rfl, by decide +kernel⟩
theorem nw_A_32 : gNw "LineRules" 32 4 7 tyX4 := ⟨"LineRules$Pairs", TX4, rfl, inX4, tyX4_ok, (gw_t1 (List.mem_of_getElem? (i := 152) rfl) rfl), (gw_t1 (List.mem_of_getElem? (i := 153) rfl) rfl), (gw_t1 (List.mem_of_getElem? (i := 5) rfl) rfl)⟩
theorem im_P : Cond.instanceMethod me_P_init.1 ∈ gw := (gw_t1 (List.mem_of_getElem? (i := 155) rfl) rfl)
theorem fi_A_35 : gFi "LineRules" 35 0 3 (.object "LineRules$Pairs") := ⟨"LineRules", TX0, 8, tyX0, rfl, by decide, inX0, (gw_t2 (List.mem_of_getElem? (i := 69) rfl) rfl), rfl, tyX0_ok, nmX0, rfl, by decide +kernel⟩
theorem nw_A_39 : gNw "LineRules" 39 5 6 tyX5 := ⟨"LineRules$Inverse", TX5, rfl, inX5, tyX5_ok, (gw_t1 (List.mem_of_getElem? (i := 180) rfl) rfl), (gw_t1 (List.mem_of_getElem? (i := 181) rfl) rfl), (gw_t1 (List.mem_of_getElem? (i := 6) rfl) rfl)⟩
theorem im_V : Cond.instanceMethod me_V_init.1 ∈ gw := (gw_t1 (List.mem_of_getElem? (i := 183) rfl) rfl)
theorem fi_A_44 : gFi "LineRules" 44 0 4 (.object "LineRules$Inverse") := ⟨"LineRules", TX0, 8, tyX0, rfl, by decide, inX0, (gw_t2 (List.mem_of_getElem? (i := 70) rfl) rfl), rfl, tyX0_ok, nmX0, rfl, by decide +kernel⟩
theorem nw_A_48 : gNw "LineRules" 48 6 6 tyX6 := ⟨"LineRules$Weights", TX6, rfl, inX6, tyX6_ok, (gw_t1 (List.mem_of_getElem? (i := 205) rfl) rfl), (gw_t1 (List.mem_of_getElem? (i := 206) rfl) rfl), (gw_t1 (List.mem_of_getElem? (i := 7) rfl) rfl)⟩
theorem im_W : Cond.instanceMethod me_W_init.1 ∈ gw := (gw_t1 (List.mem_of_getElem? (i := 208) rfl) rfl)
theorem fi_A_51 : gFi "LineRules" 51 0 5 (.object "LineRules$Weights") := ⟨"LineRules", TX0, 8, tyX0, rfl, by decide, inX0, (gw_t2 (List.mem_of_getElem? (i := 71) rfl) rfl), rfl, tyX0_ok, nmX0, rfl, by decide +kernel⟩
theorem nw_A_55 : gNw "LineRules" 55 7 10 tyX7 := ⟨"LineRules$Orphan", TX7, rfl, inX7, tyX7_ok, (gw_t1 (List.mem_of_getElem? (i := 232) rfl) rfl), (gw_t1 (List.mem_of_getElem? (i := 233) rfl) rfl), (gw_t1 (List.mem_of_getElem? (i := 8) rfl) rfl)⟩
theorem im_O : Cond.instanceMethod me_O_init.1 ∈ gw := (gw_t1 (List.mem_of_getElem? (i := 235) rfl) rfl)
theorem fi_A_58 : gFi "LineRules" 58 0 6 (.object "LineRules$Orphan") := ⟨"LineRules", TX0, 8, tyX0, rfl, by decide, inX0, (gw_t2 (List.mem_of_getElem? (i := 72) rfl) rfl), rfl, tyX0_ok, nmX0, rfl, by decide +kernel⟩
theorem nw_A_62 : gNw "LineRules" 62 8 10 tyX8 := ⟨"LineRules$Past", TX8, rfl, inX8, tyX8_ok, (gw_t2 (List.mem_of_getElem? (i := 29) rfl) rfl), (gw_t2 (List.mem_of_getElem? (i := 30) rfl) rfl), (gw_t1 (List.mem_of_getElem? (i := 9) rfl) rfl)⟩
theorem im_H : Cond.instanceMethod me_H_init.1 ∈ gw := (gw_t2 (List.mem_of_getElem? (i := 32) rfl) rfl)
theorem fi_A_67 : gFi "LineRules" 67 0 7 (.object "LineRules$Past") := ⟨"LineRules", TX0, 8, tyX0, rfl, by decide, inX0, (gw_t2 (List.mem_of_getElem? (i := 73) rfl) rfl), rfl, tyX0_ok, nmX0, rfl, by decide +kernel⟩
abbrev rm_A : Room := { frames := 2, cells := 41, slots := 4809, locals := 60 }
def sgC : gs_S := (fun k => if k = 1 then (fun j => if j = 3 then 2 else if j = 4 then 1 else if j = 5 then 84 else 0) else if k = 4 then (fun j => if j = 6 then 2 else if j = 7 then 1 else if j = 8 then 2 else if j = 9 then 1 else 0) else if k = 10 then (fun j => if j = 1 then 1 else 0) else fun _ => 0, fun _ => fun _ => 0, fun k => if k = 37 then (fun j => if j = 4 then 40 else if j = 5 then 41 else 0) else fun _ => 0)
set_option maxRecDepth 100000 in
set_option maxHeartbeats 4000000 in
theorem N_A {l : Launch} {v : gs_V} {h0 : Nat} : gMn l v me_A_init rm_A 41 4809 [.ref h0] [(h0, .inr (0, [.null, .null, .null, .null, .null, .null, .null, .null]))] (fun u => gs_w (v.1, v.2.1, gs_ad h0 u) lyC 42 sgC) := by
  refine gMn_of (by decide +kernel) rfl rfl (Nat.le_of_ble_eq_true rfl) ?_
  refine n_aload d_A_init_0 0 rfl rfl ?_
  refine n_obj d_A_init_1 lo_A (by decide) (by decide) ?_
  refine n_aload d_A_init_4 0 rfl rfl ?_
  refine n_new (fs := [.null, .null, .int 0, .int 0, .int 0, .int 0, .int 0, .int 0, .int 0]) d_A_init_5 nw_A_7 (by decide +kernel) (by decide) (by decide) (fun q5 => ?_)
  refine n_dup d_A_init_8 rfl ?_
  refine n_callI (av := []) (rest := [.ref q5, .ref h0]) (ws0 := [(q5, .inr (1, [.null, .null, .int 0, .int 0, .int 0, .int 0, .int 0, .int 0, .int 0]))]) (wr := [(h0, .inr (0, [.null, .null, .null, .null, .null, .null, .null, .null]))]) [1] [0] d_A_init_9 Y_T_init (Or.inr ⟨"LineRules", lk_A_9⟩) rfl rfl im_T ⟨rfl, rfl, by decide, by decide⟩ rfl (Nat.le_of_ble_eq_true rfl) rfl ⟨by decide, by decide⟩ rfl rfl (by decide) (by decide) (by decide) N_T (fun u9 => ?_)
  refine n_put (q0 := 0) (ws' := [(h0, .inr (0, [.ref q5, .null, .null, .null, .null, .null, .null, .null])), (q5, .inr (1, [.ref (u9 1), .ref (u9 2), .int 0, .int 2, .int 1, .int 84, .int 0, .int 0, .int 0])), (u9 1, .inl (v.2.1 3, 64, .inl (fun _ => 0))), (u9 2, .inl (v.2.1 0, 4, .inl (fun _ => 0)))]) d_A_init_12 fi_A_10 rfl rfl rfl (Nat.le_of_ble_eq_true rfl) rfl ?_
  refine n_aload d_A_init_15 0 rfl rfl ?_
  refine n_new (fs := [.null, .null, .null, .null, .null, .int 0, .int 0, .int 0, .int 0, .int 0]) d_A_init_16 nw_A_16 (by decide +kernel) (by decide) (by decide) (fun q16 => ?_)
  refine n_dup d_A_init_19 rfl ?_
  refine n_callI (av := []) (rest := [.ref q16, .ref h0]) (ws0 := [(q16, .inr (2, [.null, .null, .null, .null, .null, .int 0, .int 0, .int 0, .int 0, .int 0]))]) (wr := [(h0, .inr (0, [.ref q5, .null, .null, .null, .null, .null, .null, .null])), (q5, .inr (1, [.ref (u9 1), .ref (u9 2), .int 0, .int 2, .int 1, .int 84, .int 0, .int 0, .int 0])), (u9 1, .inl (v.2.1 3, 64, .inl (fun _ => 0))), (u9 2, .inl (v.2.1 0, 4, .inl (fun _ => 0)))]) [4] [0, 1, 2, 3] d_A_init_20 Y_R_init (Or.inr ⟨"LineRules", lk_A_18⟩) rfl rfl im_R ⟨rfl, rfl, by decide, by decide⟩ rfl (Nat.le_of_ble_eq_true rfl) rfl ⟨by decide, by decide⟩ rfl rfl (by decide) (by decide) (by decide) N_R (fun u20 => ?_)
  refine n_put (q0 := 0) (ws' := [(h0, .inr (0, [.ref q5, .ref q16, .null, .null, .null, .null, .null, .null])), (q5, .inr (1, [.ref (u9 1), .ref (u9 2), .int 0, .int 2, .int 1, .int 84, .int 0, .int 0, .int 0])), (u9 1, .inl (v.2.1 3, 64, .inl (fun _ => 0))), (u9 2, .inl (v.2.1 0, 4, .inl (fun _ => 0))), (q16, .inr (2, [.ref (u20 1), .ref (u20 2), .ref (u20 3), .ref (u20 4), .ref (u20 5), .int 0, .int 2, .int 1, .int 2, .int 1])), (u20 1, .inl (v.2.1 0, 256, .inl (fun _ => 0))), (u20 2, .inl (v.2.1 1, 256, .inr (.inl (fun _ => 0)))), (u20 3, .inl (v.2.1 0, 256, .inl (fun _ => 0))), (u20 4, .inl (v.2.1 0, 256, .inl (fun _ => 0))), (u20 5, .inl (v.2.1 0, 5, .inl (fun _ => 0)))]) d_A_init_23 fi_A_19 rfl rfl rfl (Nat.le_of_ble_eq_true rfl) rfl ?_
  refine n_aload d_A_init_26 0 rfl rfl ?_
  refine n_new (fs := [.null, .int 0, .null, .null, .null]) d_A_init_27 nw_A_23 (by decide +kernel) (by decide) (by decide) (fun q27 => ?_)
  refine n_dup d_A_init_30 rfl ?_
  refine n_aload d_A_init_31 0 rfl rfl ?_
  refine n_get (q0 := 0) d_A_init_32 fl_A_19 rfl rfl ?_
  refine n_callI (av := [.ref q16]) (rest := [.ref q27, .ref h0]) (ws0 := [(q27, .inr (3, [.null, .int 0, .null, .null, .null]))]) (wr := [(h0, .inr (0, [.ref q5, .ref q16, .null, .null, .null, .null, .null, .null])), (q5, .inr (1, [.ref (u9 1), .ref (u9 2), .int 0, .int 2, .int 1, .int 84, .int 0, .int 0, .int 0])), (u9 1, .inl (v.2.1 3, 64, .inl (fun _ => 0))), (u9 2, .inl (v.2.1 0, 4, .inl (fun _ => 0))), (q16, .inr (2, [.ref (u20 1), .ref (u20 2), .ref (u20 3), .ref (u20 4), .ref (u20 5), .int 0, .int 2, .int 1, .int 2, .int 1])), (u20 1, .inl (v.2.1 0, 256, .inl (fun _ => 0))), (u20 2, .inl (v.2.1 1, 256, .inr (.inl (fun _ => 0)))), (u20 3, .inl (v.2.1 0, 256, .inl (fun _ => 0))), (u20 4, .inl (v.2.1 0, 256, .inl (fun _ => 0))), (u20 5, .inl (v.2.1 0, 5, .inl (fun _ => 0)))]) [10] [0, 1, 2, 3, 4, 5, 6, 7, 8, 9] d_A_init_35 Y_C_init (Or.inl lk_A_25) rfl rfl im_C ⟨rfl, rfl, by decide, by decide⟩ rfl (Nat.le_of_ble_eq_true rfl) rfl ⟨by decide, by decide⟩ rfl rfl (by decide) (by decide) (by decide) N_C (fun u35 => ?_)
  refine n_put (q0 := 0) (ws' := [(h0, .inr (0, [.ref q5, .ref q16, .ref q27, .null, .null, .null, .null, .null])), (q5, .inr (1, [.ref (u9 1), .ref (u9 2), .int 0, .int 2, .int 1, .int 84, .int 0, .int 0, .int 0])), (u9 1, .inl (v.2.1 3, 64, .inl (fun _ => 0))), (u9 2, .inl (v.2.1 0, 4, .inl (fun _ => 0))), (q16, .inr (2, [.ref (u20 1), .ref (u20 2), .ref (u20 3), .ref (u20 4), .ref (u20 5), .int 0, .int 2, .int 1, .int 2, .int 1])), (u20 1, .inl (v.2.1 0, 256, .inl (fun _ => 0))), (u20 2, .inl (v.2.1 1, 256, .inr (.inl (fun _ => 0)))), (u20 3, .inl (v.2.1 0, 256, .inl (fun _ => 0))), (u20 4, .inl (v.2.1 0, 256, .inl (fun _ => 0))), (u20 5, .inl (v.2.1 0, 5, .inl (fun _ => 0))), (q27, .inr (3, [.ref (u35 1), .int 1, .ref q16, .ref (u35 2), .ref (u35 3)])), (u35 1, .inl (v.2.1 0, 64, .inl (fun _ => 0))), (u35 2, .inl (v.2.1 0, 64, .inl (fun _ => 0))), (u35 3, .inl (v.2.1 0, 64, .inl (fun _ => 0)))]) d_A_init_38 fi_A_28 rfl rfl rfl (Nat.le_of_ble_eq_true rfl) rfl ?_
  refine n_aload d_A_init_41 0 rfl rfl ?_
  refine n_new (fs := [.null, .null, .null, .int 0, .int 0, .int 0, .int 0]) d_A_init_42 nw_A_32 (by decide +kernel) (by decide) (by decide) (fun q42 => ?_)
  refine n_dup d_A_init_45 rfl ?_
  refine n_aload d_A_init_46 0 rfl rfl ?_
  refine n_get (q0 := 0) d_A_init_47 fl_A_19 rfl rfl ?_
  refine n_callI (av := [.ref q16]) (rest := [.ref q42, .ref h0]) (ws0 := [(q42, .inr (4, [.null, .null, .null, .int 0, .int 0, .int 0, .int 0]))]) (wr := [(h0, .inr (0, [.ref q5, .ref q16, .ref q27, .null, .null, .null, .null, .null])), (q5, .inr (1, [.ref (u9 1), .ref (u9 2), .int 0, .int 2, .int 1, .int 84, .int 0, .int 0, .int 0])), (u9 1, .inl (v.2.1 3, 64, .inl (fun _ => 0))), (u9 2, .inl (v.2.1 0, 4, .inl (fun _ => 0))), (q16, .inr (2, [.ref (u20 1), .ref (u20 2), .ref (u20 3), .ref (u20 4), .ref (u20 5), .int 0, .int 2, .int 1, .int 2, .int 1])), (u20 1, .inl (v.2.1 0, 256, .inl (fun _ => 0))), (u20 2, .inl (v.2.1 1, 256, .inr (.inl (fun _ => 0)))), (u20 3, .inl (v.2.1 0, 256, .inl (fun _ => 0))), (u20 4, .inl (v.2.1 0, 256, .inl (fun _ => 0))), (u20 5, .inl (v.2.1 0, 5, .inl (fun _ => 0))), (q27, .inr (3, [.ref (u35 1), .int 1, .ref q16, .ref (u35 2), .ref (u35 3)])), (u35 1, .inl (v.2.1 0, 64, .inl (fun _ => 0))), (u35 2, .inl (v.2.1 0, 64, .inl (fun _ => 0))), (u35 3, .inl (v.2.1 0, 64, .inl (fun _ => 0)))]) [14] [0, 1, 2, 3, 4, 5, 6, 7, 8, 9, 10, 11, 12, 13] d_A_init_50 Y_P_init (Or.inl lk_A_34) rfl rfl im_P ⟨rfl, rfl, by decide, by decide⟩ rfl (Nat.le_of_ble_eq_true rfl) rfl ⟨by decide, by decide⟩ rfl rfl (by decide) (by decide) (by decide) N_P (fun u50 => ?_)
  refine n_put (q0 := 0) (ws' := [(h0, .inr (0, [.ref q5, .ref q16, .ref q27, .ref q42, .null, .null, .null, .null])), (q5, .inr (1, [.ref (u9 1), .ref (u9 2), .int 0, .int 2, .int 1, .int 84, .int 0, .int 0, .int 0])), (u9 1, .inl (v.2.1 3, 64, .inl (fun _ => 0))), (u9 2, .inl (v.2.1 0, 4, .inl (fun _ => 0))), (q16, .inr (2, [.ref (u20 1), .ref (u20 2), .ref (u20 3), .ref (u20 4), .ref (u20 5), .int 0, .int 2, .int 1, .int 2, .int 1])), (u20 1, .inl (v.2.1 0, 256, .inl (fun _ => 0))), (u20 2, .inl (v.2.1 1, 256, .inr (.inl (fun _ => 0)))), (u20 3, .inl (v.2.1 0, 256, .inl (fun _ => 0))), (u20 4, .inl (v.2.1 0, 256, .inl (fun _ => 0))), (u20 5, .inl (v.2.1 0, 5, .inl (fun _ => 0))), (q27, .inr (3, [.ref (u35 1), .int 1, .ref q16, .ref (u35 2), .ref (u35 3)])), (u35 1, .inl (v.2.1 0, 64, .inl (fun _ => 0))), (u35 2, .inl (v.2.1 0, 64, .inl (fun _ => 0))), (u35 3, .inl (v.2.1 0, 64, .inl (fun _ => 0))), (q42, .inr (4, [.ref q16, .ref (u50 1), .ref (u50 2), .int 0, .int 0, .int 0, .int 0])), (u50 1, .inl (v.2.1 1, 64, .inr (.inl (fun _ => 0)))), (u50 2, .inl (v.2.1 1, 64, .inr (.inl (fun _ => 0))))]) d_A_init_53 fi_A_35 rfl rfl rfl (Nat.le_of_ble_eq_true rfl) rfl ?_
  refine n_aload d_A_init_56 0 rfl rfl ?_
  refine n_new (fs := [.null, .null, .null, .int 0, .int 0, .int 0]) d_A_init_57 nw_A_39 (by decide +kernel) (by decide) (by decide) (fun q57 => ?_)
  refine n_dup d_A_init_60 rfl ?_
  refine n_aload d_A_init_61 0 rfl rfl ?_
  refine n_get (q0 := 0) d_A_init_62 fl_A_19 rfl rfl ?_
  refine n_aload d_A_init_65 0 rfl rfl ?_
  refine n_get (q0 := 0) d_A_init_66 fl_A_35 rfl rfl ?_
  refine n_callI (av := [.ref q16, .ref q42]) (rest := [.ref q57, .ref h0]) (ws0 := [(q57, .inr (5, [.null, .null, .null, .int 0, .int 0, .int 0]))]) (wr := [(h0, .inr (0, [.ref q5, .ref q16, .ref q27, .ref q42, .null, .null, .null, .null])), (q5, .inr (1, [.ref (u9 1), .ref (u9 2), .int 0, .int 2, .int 1, .int 84, .int 0, .int 0, .int 0])), (u9 1, .inl (v.2.1 3, 64, .inl (fun _ => 0))), (u9 2, .inl (v.2.1 0, 4, .inl (fun _ => 0))), (q16, .inr (2, [.ref (u20 1), .ref (u20 2), .ref (u20 3), .ref (u20 4), .ref (u20 5), .int 0, .int 2, .int 1, .int 2, .int 1])), (u20 1, .inl (v.2.1 0, 256, .inl (fun _ => 0))), (u20 2, .inl (v.2.1 1, 256, .inr (.inl (fun _ => 0)))), (u20 3, .inl (v.2.1 0, 256, .inl (fun _ => 0))), (u20 4, .inl (v.2.1 0, 256, .inl (fun _ => 0))), (u20 5, .inl (v.2.1 0, 5, .inl (fun _ => 0))), (q27, .inr (3, [.ref (u35 1), .int 1, .ref q16, .ref (u35 2), .ref (u35 3)])), (u35 1, .inl (v.2.1 0, 64, .inl (fun _ => 0))), (u35 2, .inl (v.2.1 0, 64, .inl (fun _ => 0))), (u35 3, .inl (v.2.1 0, 64, .inl (fun _ => 0))), (q42, .inr (4, [.ref q16, .ref (u50 1), .ref (u50 2), .int 0, .int 0, .int 0, .int 0])), (u50 1, .inl (v.2.1 1, 64, .inr (.inl (fun _ => 0)))), (u50 2, .inl (v.2.1 1, 64, .inr (.inl (fun _ => 0))))]) [17] [0, 1, 2, 3, 4, 5, 6, 7, 8, 9, 10, 11, 12, 13, 14, 15, 16] d_A_init_69 Y_V_init (Or.inl lk_A_41) rfl rfl im_V ⟨rfl, rfl, by decide, by decide⟩ rfl (Nat.le_of_ble_eq_true rfl) rfl ⟨by decide, by decide⟩ rfl rfl (by decide) (by decide) (by decide) N_V (fun u69 => ?_)
  refine n_put (q0 := 0) (ws' := [(h0, .inr (0, [.ref q5, .ref q16, .ref q27, .ref q42, .ref q57, .null, .null, .null])), (q5, .inr (1, [.ref (u9 1), .ref (u9 2), .int 0, .int 2, .int 1, .int 84, .int 0, .int 0, .int 0])), (u9 1, .inl (v.2.1 3, 64, .inl (fun _ => 0))), (u9 2, .inl (v.2.1 0, 4, .inl (fun _ => 0))), (q16, .inr (2, [.ref (u20 1), .ref (u20 2), .ref (u20 3), .ref (u20 4), .ref (u20 5), .int 0, .int 2, .int 1, .int 2, .int 1])), (u20 1, .inl (v.2.1 0, 256, .inl (fun _ => 0))), (u20 2, .inl (v.2.1 1, 256, .inr (.inl (fun _ => 0)))), (u20 3, .inl (v.2.1 0, 256, .inl (fun _ => 0))), (u20 4, .inl (v.2.1 0, 256, .inl (fun _ => 0))), (u20 5, .inl (v.2.1 0, 5, .inl (fun _ => 0))), (q27, .inr (3, [.ref (u35 1), .int 1, .ref q16, .ref (u35 2), .ref (u35 3)])), (u35 1, .inl (v.2.1 0, 64, .inl (fun _ => 0))), (u35 2, .inl (v.2.1 0, 64, .inl (fun _ => 0))), (u35 3, .inl (v.2.1 0, 64, .inl (fun _ => 0))), (q42, .inr (4, [.ref q16, .ref (u50 1), .ref (u50 2), .int 0, .int 0, .int 0, .int 0])), (u50 1, .inl (v.2.1 1, 64, .inr (.inl (fun _ => 0)))), (u50 2, .inl (v.2.1 1, 64, .inr (.inl (fun _ => 0)))), (q57, .inr (5, [.ref q16, .ref q42, .ref (u69 1), .int 0, .int 0, .int 0])), (u69 1, .inl (v.2.1 0, 1024, .inl (fun _ => 0)))]) d_A_init_72 fi_A_44 rfl rfl rfl (Nat.le_of_ble_eq_true rfl) rfl ?_
  refine n_aload d_A_init_75 0 rfl rfl ?_
  refine n_new (fs := [.null, .null, .null, .null, .int 0, .int 0]) d_A_init_76 nw_A_48 (by decide +kernel) (by decide) (by decide) (fun q76 => ?_)
  refine n_dup d_A_init_79 rfl ?_
  refine n_aload d_A_init_80 0 rfl rfl ?_
  refine n_get (q0 := 0) d_A_init_81 fl_A_19 rfl rfl ?_
  refine n_callI (av := [.ref q16]) (rest := [.ref q76, .ref h0]) (ws0 := [(q76, .inr (6, [.null, .null, .null, .null, .int 0, .int 0]))]) (wr := [(h0, .inr (0, [.ref q5, .ref q16, .ref q27, .ref q42, .ref q57, .null, .null, .null])), (q5, .inr (1, [.ref (u9 1), .ref (u9 2), .int 0, .int 2, .int 1, .int 84, .int 0, .int 0, .int 0])), (u9 1, .inl (v.2.1 3, 64, .inl (fun _ => 0))), (u9 2, .inl (v.2.1 0, 4, .inl (fun _ => 0))), (q16, .inr (2, [.ref (u20 1), .ref (u20 2), .ref (u20 3), .ref (u20 4), .ref (u20 5), .int 0, .int 2, .int 1, .int 2, .int 1])), (u20 1, .inl (v.2.1 0, 256, .inl (fun _ => 0))), (u20 2, .inl (v.2.1 1, 256, .inr (.inl (fun _ => 0)))), (u20 3, .inl (v.2.1 0, 256, .inl (fun _ => 0))), (u20 4, .inl (v.2.1 0, 256, .inl (fun _ => 0))), (u20 5, .inl (v.2.1 0, 5, .inl (fun _ => 0))), (q27, .inr (3, [.ref (u35 1), .int 1, .ref q16, .ref (u35 2), .ref (u35 3)])), (u35 1, .inl (v.2.1 0, 64, .inl (fun _ => 0))), (u35 2, .inl (v.2.1 0, 64, .inl (fun _ => 0))), (u35 3, .inl (v.2.1 0, 64, .inl (fun _ => 0))), (q42, .inr (4, [.ref q16, .ref (u50 1), .ref (u50 2), .int 0, .int 0, .int 0, .int 0])), (u50 1, .inl (v.2.1 1, 64, .inr (.inl (fun _ => 0)))), (u50 2, .inl (v.2.1 1, 64, .inr (.inl (fun _ => 0)))), (q57, .inr (5, [.ref q16, .ref q42, .ref (u69 1), .int 0, .int 0, .int 0])), (u69 1, .inl (v.2.1 0, 1024, .inl (fun _ => 0)))]) [19] [0, 1, 2, 3, 4, 5, 6, 7, 8, 9, 10, 11, 12, 13, 14, 15, 16, 17, 18] d_A_init_84 Y_W_init (Or.inl lk_A_50) rfl rfl im_W ⟨rfl, rfl, by decide, by decide⟩ rfl (Nat.le_of_ble_eq_true rfl) rfl ⟨by decide, by decide⟩ rfl rfl (by decide) (by decide) (by decide) N_W (fun u84 => ?_)
  refine n_put (q0 := 0) (ws' := [(h0, .inr (0, [.ref q5, .ref q16, .ref q27, .ref q42, .ref q57, .ref q76, .null, .null])), (q5, .inr (1, [.ref (u9 1), .ref (u9 2), .int 0, .int 2, .int 1, .int 84, .int 0, .int 0, .int 0])), (u9 1, .inl (v.2.1 3, 64, .inl (fun _ => 0))), (u9 2, .inl (v.2.1 0, 4, .inl (fun _ => 0))), (q16, .inr (2, [.ref (u20 1), .ref (u20 2), .ref (u20 3), .ref (u20 4), .ref (u20 5), .int 0, .int 2, .int 1, .int 2, .int 1])), (u20 1, .inl (v.2.1 0, 256, .inl (fun _ => 0))), (u20 2, .inl (v.2.1 1, 256, .inr (.inl (fun _ => 0)))), (u20 3, .inl (v.2.1 0, 256, .inl (fun _ => 0))), (u20 4, .inl (v.2.1 0, 256, .inl (fun _ => 0))), (u20 5, .inl (v.2.1 0, 5, .inl (fun _ => 0))), (q27, .inr (3, [.ref (u35 1), .int 1, .ref q16, .ref (u35 2), .ref (u35 3)])), (u35 1, .inl (v.2.1 0, 64, .inl (fun _ => 0))), (u35 2, .inl (v.2.1 0, 64, .inl (fun _ => 0))), (u35 3, .inl (v.2.1 0, 64, .inl (fun _ => 0))), (q42, .inr (4, [.ref q16, .ref (u50 1), .ref (u50 2), .int 0, .int 0, .int 0, .int 0])), (u50 1, .inl (v.2.1 1, 64, .inr (.inl (fun _ => 0)))), (u50 2, .inl (v.2.1 1, 64, .inr (.inl (fun _ => 0)))), (q57, .inr (5, [.ref q16, .ref q42, .ref (u69 1), .int 0, .int 0, .int 0])), (u69 1, .inl (v.2.1 0, 1024, .inl (fun _ => 0))), (q76, .inr (6, [.ref q16, .ref (u84 1), .ref (u84 2), .ref (u84 3), .int 0, .int 0])), (u84 1, .inl (v.2.1 4, 4, .inr (.inr (.inr (.inr (fun i => some (u84 1 + 1 + i))))))), (u84 1 + 1, .inl (v.2.1 1, 4, .inr (.inl (fun _ => 0)))), (u84 1 + 2, .inl (v.2.1 1, 4, .inr (.inl (fun _ => 0)))), (u84 1 + 3, .inl (v.2.1 1, 4, .inr (.inl (fun _ => 0)))), (u84 1 + 4, .inl (v.2.1 1, 4, .inr (.inl (fun _ => 0)))), (u84 2, .inl (v.2.1 4, 4, .inr (.inr (.inr (.inr (fun i => some (u84 2 + 1 + i))))))), (u84 2 + 1, .inl (v.2.1 1, 4, .inr (.inl (fun _ => 0)))), (u84 2 + 2, .inl (v.2.1 1, 4, .inr (.inl (fun _ => 0)))), (u84 2 + 3, .inl (v.2.1 1, 4, .inr (.inl (fun _ => 0)))), (u84 2 + 4, .inl (v.2.1 1, 4, .inr (.inl (fun _ => 0)))), (u84 3, .inl (v.2.1 1, 4, .inr (.inl (fun _ => 0))))]) d_A_init_87 fi_A_51 rfl rfl rfl (Nat.le_of_ble_eq_true rfl) rfl ?_
  refine n_aload d_A_init_90 0 rfl rfl ?_
  refine n_new (fs := [.null, .null, .null, .null, .null, .null, .null, .int 0, .int 0, .int 0]) d_A_init_91 nw_A_55 (by decide +kernel) (by decide) (by decide) (fun q91 => ?_)
  refine n_dup d_A_init_94 rfl ?_
  refine n_aload d_A_init_95 0 rfl rfl ?_
  refine n_get (q0 := 0) d_A_init_96 fl_A_19 rfl rfl ?_
  refine n_aload d_A_init_99 0 rfl rfl ?_
  refine n_get (q0 := 0) d_A_init_100 fl_A_35 rfl rfl ?_
  refine n_callI (av := [.ref q16, .ref q42]) (rest := [.ref q91, .ref h0]) (ws0 := [(q91, .inr (7, [.null, .null, .null, .null, .null, .null, .null, .int 0, .int 0, .int 0]))]) (wr := [(h0, .inr (0, [.ref q5, .ref q16, .ref q27, .ref q42, .ref q57, .ref q76, .null, .null])), (q5, .inr (1, [.ref (u9 1), .ref (u9 2), .int 0, .int 2, .int 1, .int 84, .int 0, .int 0, .int 0])), (u9 1, .inl (v.2.1 3, 64, .inl (fun _ => 0))), (u9 2, .inl (v.2.1 0, 4, .inl (fun _ => 0))), (q16, .inr (2, [.ref (u20 1), .ref (u20 2), .ref (u20 3), .ref (u20 4), .ref (u20 5), .int 0, .int 2, .int 1, .int 2, .int 1])), (u20 1, .inl (v.2.1 0, 256, .inl (fun _ => 0))), (u20 2, .inl (v.2.1 1, 256, .inr (.inl (fun _ => 0)))), (u20 3, .inl (v.2.1 0, 256, .inl (fun _ => 0))), (u20 4, .inl (v.2.1 0, 256, .inl (fun _ => 0))), (u20 5, .inl (v.2.1 0, 5, .inl (fun _ => 0))), (q27, .inr (3, [.ref (u35 1), .int 1, .ref q16, .ref (u35 2), .ref (u35 3)])), (u35 1, .inl (v.2.1 0, 64, .inl (fun _ => 0))), (u35 2, .inl (v.2.1 0, 64, .inl (fun _ => 0))), (u35 3, .inl (v.2.1 0, 64, .inl (fun _ => 0))), (q42, .inr (4, [.ref q16, .ref (u50 1), .ref (u50 2), .int 0, .int 0, .int 0, .int 0])), (u50 1, .inl (v.2.1 1, 64, .inr (.inl (fun _ => 0)))), (u50 2, .inl (v.2.1 1, 64, .inr (.inl (fun _ => 0)))), (q57, .inr (5, [.ref q16, .ref q42, .ref (u69 1), .int 0, .int 0, .int 0])), (u69 1, .inl (v.2.1 0, 1024, .inl (fun _ => 0))), (q76, .inr (6, [.ref q16, .ref (u84 1), .ref (u84 2), .ref (u84 3), .int 0, .int 0])), (u84 1, .inl (v.2.1 4, 4, .inr (.inr (.inr (.inr (fun i => some (u84 1 + 1 + i))))))), (u84 1 + 1, .inl (v.2.1 1, 4, .inr (.inl (fun _ => 0)))), (u84 1 + 2, .inl (v.2.1 1, 4, .inr (.inl (fun _ => 0)))), (u84 1 + 3, .inl (v.2.1 1, 4, .inr (.inl (fun _ => 0)))), (u84 1 + 4, .inl (v.2.1 1, 4, .inr (.inl (fun _ => 0)))), (u84 2, .inl (v.2.1 4, 4, .inr (.inr (.inr (.inr (fun i => some (u84 2 + 1 + i))))))), (u84 2 + 1, .inl (v.2.1 1, 4, .inr (.inl (fun _ => 0)))), (u84 2 + 2, .inl (v.2.1 1, 4, .inr (.inl (fun _ => 0)))), (u84 2 + 3, .inl (v.2.1 1, 4, .inr (.inl (fun _ => 0)))), (u84 2 + 4, .inl (v.2.1 1, 4, .inr (.inl (fun _ => 0)))), (u84 3, .inl (v.2.1 1, 4, .inr (.inl (fun _ => 0))))]) [31] [0, 1, 2, 3, 4, 5, 6, 7, 8, 9, 10, 11, 12, 13, 14, 15, 16, 17, 18, 19, 20, 21, 22, 23, 24, 25, 26, 27, 28, 29, 30] d_A_init_103 Y_O_init (Or.inl lk_A_57) rfl rfl im_O ⟨rfl, rfl, by decide, by decide⟩ rfl (Nat.le_of_ble_eq_true rfl) rfl ⟨by decide, by decide⟩ rfl rfl (by decide) (by decide) (by decide) N_O (fun u103 => ?_)
  refine n_put (q0 := 0) (ws' := [(h0, .inr (0, [.ref q5, .ref q16, .ref q27, .ref q42, .ref q57, .ref q76, .ref q91, .null])), (q5, .inr (1, [.ref (u9 1), .ref (u9 2), .int 0, .int 2, .int 1, .int 84, .int 0, .int 0, .int 0])), (u9 1, .inl (v.2.1 3, 64, .inl (fun _ => 0))), (u9 2, .inl (v.2.1 0, 4, .inl (fun _ => 0))), (q16, .inr (2, [.ref (u20 1), .ref (u20 2), .ref (u20 3), .ref (u20 4), .ref (u20 5), .int 0, .int 2, .int 1, .int 2, .int 1])), (u20 1, .inl (v.2.1 0, 256, .inl (fun _ => 0))), (u20 2, .inl (v.2.1 1, 256, .inr (.inl (fun _ => 0)))), (u20 3, .inl (v.2.1 0, 256, .inl (fun _ => 0))), (u20 4, .inl (v.2.1 0, 256, .inl (fun _ => 0))), (u20 5, .inl (v.2.1 0, 5, .inl (fun _ => 0))), (q27, .inr (3, [.ref (u35 1), .int 1, .ref q16, .ref (u35 2), .ref (u35 3)])), (u35 1, .inl (v.2.1 0, 64, .inl (fun _ => 0))), (u35 2, .inl (v.2.1 0, 64, .inl (fun _ => 0))), (u35 3, .inl (v.2.1 0, 64, .inl (fun _ => 0))), (q42, .inr (4, [.ref q16, .ref (u50 1), .ref (u50 2), .int 0, .int 0, .int 0, .int 0])), (u50 1, .inl (v.2.1 1, 64, .inr (.inl (fun _ => 0)))), (u50 2, .inl (v.2.1 1, 64, .inr (.inl (fun _ => 0)))), (q57, .inr (5, [.ref q16, .ref q42, .ref (u69 1), .int 0, .int 0, .int 0])), (u69 1, .inl (v.2.1 0, 1024, .inl (fun _ => 0))), (q76, .inr (6, [.ref q16, .ref (u84 1), .ref (u84 2), .ref (u84 3), .int 0, .int 0])), (u84 1, .inl (v.2.1 4, 4, .inr (.inr (.inr (.inr (fun i => some (u84 1 + 1 + i))))))), (u84 1 + 1, .inl (v.2.1 1, 4, .inr (.inl (fun _ => 0)))), (u84 1 + 2, .inl (v.2.1 1, 4, .inr (.inl (fun _ => 0)))), (u84 1 + 3, .inl (v.2.1 1, 4, .inr (.inl (fun _ => 0)))), (u84 1 + 4, .inl (v.2.1 1, 4, .inr (.inl (fun _ => 0)))), (u84 2, .inl (v.2.1 4, 4, .inr (.inr (.inr (.inr (fun i => some (u84 2 + 1 + i))))))), (u84 2 + 1, .inl (v.2.1 1, 4, .inr (.inl (fun _ => 0)))), (u84 2 + 2, .inl (v.2.1 1, 4, .inr (.inl (fun _ => 0)))), (u84 2 + 3, .inl (v.2.1 1, 4, .inr (.inl (fun _ => 0)))), (u84 2 + 4, .inl (v.2.1 1, 4, .inr (.inl (fun _ => 0)))), (u84 3, .inl (v.2.1 1, 4, .inr (.inl (fun _ => 0)))), (q91, .inr (7, [.ref q16, .ref q42, .ref (u103 1), .ref (u103 2), .ref (u103 3), .ref (u103 4), .ref (u103 5), .int 0, .int 0, .int 0])), (u103 1, .inl (v.2.1 1, 500, .inr (.inl (fun _ => 0)))), (u103 2, .inl (v.2.1 0, 500, .inl (fun _ => 0))), (u103 3, .inl (v.2.1 0, 500, .inl (fun _ => 0))), (u103 4, .inl (v.2.1 1, 4, .inr (.inl (fun _ => 0)))), (u103 5, .inl (v.2.1 0, 500, .inl (fun _ => 0)))]) d_A_init_106 fi_A_58 rfl rfl rfl (Nat.le_of_ble_eq_true rfl) rfl ?_
  refine n_aload d_A_init_109 0 rfl rfl ?_
  refine n_new (fs := [.null, .null, .null, .null, .null, .null, .int 0, .int 0, .int 0, .long 0]) d_A_init_110 nw_A_62 (by decide +kernel) (by decide) (by decide) (fun q110 => ?_)
  refine n_dup d_A_init_113 rfl ?_
  refine n_aload d_A_init_114 0 rfl rfl ?_
  refine n_get (q0 := 0) d_A_init_115 fl_A_19 rfl rfl ?_
  refine n_aload d_A_init_118 0 rfl rfl ?_
  refine n_get (q0 := 0) d_A_init_119 fl_A_28 rfl rfl ?_
  refine n_callI (av := [.ref q16, .ref q27]) (rest := [.ref q110, .ref h0]) (ws0 := [(q110, .inr (8, [.null, .null, .null, .null, .null, .null, .int 0, .int 0, .int 0, .long 0]))]) (wr := [(h0, .inr (0, [.ref q5, .ref q16, .ref q27, .ref q42, .ref q57, .ref q76, .ref q91, .null])), (q5, .inr (1, [.ref (u9 1), .ref (u9 2), .int 0, .int 2, .int 1, .int 84, .int 0, .int 0, .int 0])), (u9 1, .inl (v.2.1 3, 64, .inl (fun _ => 0))), (u9 2, .inl (v.2.1 0, 4, .inl (fun _ => 0))), (q16, .inr (2, [.ref (u20 1), .ref (u20 2), .ref (u20 3), .ref (u20 4), .ref (u20 5), .int 0, .int 2, .int 1, .int 2, .int 1])), (u20 1, .inl (v.2.1 0, 256, .inl (fun _ => 0))), (u20 2, .inl (v.2.1 1, 256, .inr (.inl (fun _ => 0)))), (u20 3, .inl (v.2.1 0, 256, .inl (fun _ => 0))), (u20 4, .inl (v.2.1 0, 256, .inl (fun _ => 0))), (u20 5, .inl (v.2.1 0, 5, .inl (fun _ => 0))), (q27, .inr (3, [.ref (u35 1), .int 1, .ref q16, .ref (u35 2), .ref (u35 3)])), (u35 1, .inl (v.2.1 0, 64, .inl (fun _ => 0))), (u35 2, .inl (v.2.1 0, 64, .inl (fun _ => 0))), (u35 3, .inl (v.2.1 0, 64, .inl (fun _ => 0))), (q42, .inr (4, [.ref q16, .ref (u50 1), .ref (u50 2), .int 0, .int 0, .int 0, .int 0])), (u50 1, .inl (v.2.1 1, 64, .inr (.inl (fun _ => 0)))), (u50 2, .inl (v.2.1 1, 64, .inr (.inl (fun _ => 0)))), (q57, .inr (5, [.ref q16, .ref q42, .ref (u69 1), .int 0, .int 0, .int 0])), (u69 1, .inl (v.2.1 0, 1024, .inl (fun _ => 0))), (q76, .inr (6, [.ref q16, .ref (u84 1), .ref (u84 2), .ref (u84 3), .int 0, .int 0])), (u84 1, .inl (v.2.1 4, 4, .inr (.inr (.inr (.inr (fun i => some (u84 1 + 1 + i))))))), (u84 1 + 1, .inl (v.2.1 1, 4, .inr (.inl (fun _ => 0)))), (u84 1 + 2, .inl (v.2.1 1, 4, .inr (.inl (fun _ => 0)))), (u84 1 + 3, .inl (v.2.1 1, 4, .inr (.inl (fun _ => 0)))), (u84 1 + 4, .inl (v.2.1 1, 4, .inr (.inl (fun _ => 0)))), (u84 2, .inl (v.2.1 4, 4, .inr (.inr (.inr (.inr (fun i => some (u84 2 + 1 + i))))))), (u84 2 + 1, .inl (v.2.1 1, 4, .inr (.inl (fun _ => 0)))), (u84 2 + 2, .inl (v.2.1 1, 4, .inr (.inl (fun _ => 0)))), (u84 2 + 3, .inl (v.2.1 1, 4, .inr (.inl (fun _ => 0)))), (u84 2 + 4, .inl (v.2.1 1, 4, .inr (.inl (fun _ => 0)))), (u84 3, .inl (v.2.1 1, 4, .inr (.inl (fun _ => 0)))), (q91, .inr (7, [.ref q16, .ref q42, .ref (u103 1), .ref (u103 2), .ref (u103 3), .ref (u103 4), .ref (u103 5), .int 0, .int 0, .int 0])), (u103 1, .inl (v.2.1 1, 500, .inr (.inl (fun _ => 0)))), (u103 2, .inl (v.2.1 0, 500, .inl (fun _ => 0))), (u103 3, .inl (v.2.1 0, 500, .inl (fun _ => 0))), (u103 4, .inl (v.2.1 1, 4, .inr (.inl (fun _ => 0)))), (u103 5, .inl (v.2.1 0, 500, .inl (fun _ => 0)))]) [37] [0, 1, 2, 3, 4, 5, 6, 7, 8, 9, 10, 11, 12, 13, 14, 15, 16, 17, 18, 19, 20, 21, 22, 23, 24, 25, 26, 27, 28, 29, 30, 31, 32, 33, 34, 35, 36] d_A_init_122 Y_H_init (Or.inl lk_A_64) rfl rfl im_H ⟨rfl, rfl, by decide, by decide⟩ rfl (Nat.le_of_ble_eq_true rfl) rfl ⟨by decide, by decide⟩ rfl rfl (by decide) (by decide) (by decide) N_H (fun u122 => ?_)
  refine n_put (q0 := 0) (ws' := [(h0, .inr (0, [.ref q5, .ref q16, .ref q27, .ref q42, .ref q57, .ref q76, .ref q91, .ref q110])), (q5, .inr (1, [.ref (u9 1), .ref (u9 2), .int 0, .int 2, .int 1, .int 84, .int 0, .int 0, .int 0])), (u9 1, .inl (v.2.1 3, 64, .inl (fun _ => 0))), (u9 2, .inl (v.2.1 0, 4, .inl (fun _ => 0))), (q16, .inr (2, [.ref (u20 1), .ref (u20 2), .ref (u20 3), .ref (u20 4), .ref (u20 5), .int 0, .int 2, .int 1, .int 2, .int 1])), (u20 1, .inl (v.2.1 0, 256, .inl (fun _ => 0))), (u20 2, .inl (v.2.1 1, 256, .inr (.inl (fun _ => 0)))), (u20 3, .inl (v.2.1 0, 256, .inl (fun _ => 0))), (u20 4, .inl (v.2.1 0, 256, .inl (fun _ => 0))), (u20 5, .inl (v.2.1 0, 5, .inl (fun _ => 0))), (q27, .inr (3, [.ref (u35 1), .int 1, .ref q16, .ref (u35 2), .ref (u35 3)])), (u35 1, .inl (v.2.1 0, 64, .inl (fun _ => 0))), (u35 2, .inl (v.2.1 0, 64, .inl (fun _ => 0))), (u35 3, .inl (v.2.1 0, 64, .inl (fun _ => 0))), (q42, .inr (4, [.ref q16, .ref (u50 1), .ref (u50 2), .int 0, .int 0, .int 0, .int 0])), (u50 1, .inl (v.2.1 1, 64, .inr (.inl (fun _ => 0)))), (u50 2, .inl (v.2.1 1, 64, .inr (.inl (fun _ => 0)))), (q57, .inr (5, [.ref q16, .ref q42, .ref (u69 1), .int 0, .int 0, .int 0])), (u69 1, .inl (v.2.1 0, 1024, .inl (fun _ => 0))), (q76, .inr (6, [.ref q16, .ref (u84 1), .ref (u84 2), .ref (u84 3), .int 0, .int 0])), (u84 1, .inl (v.2.1 4, 4, .inr (.inr (.inr (.inr (fun i => some (u84 1 + 1 + i))))))), (u84 1 + 1, .inl (v.2.1 1, 4, .inr (.inl (fun _ => 0)))), (u84 1 + 2, .inl (v.2.1 1, 4, .inr (.inl (fun _ => 0)))), (u84 1 + 3, .inl (v.2.1 1, 4, .inr (.inl (fun _ => 0)))), (u84 1 + 4, .inl (v.2.1 1, 4, .inr (.inl (fun _ => 0)))), (u84 2, .inl (v.2.1 4, 4, .inr (.inr (.inr (.inr (fun i => some (u84 2 + 1 + i))))))), (u84 2 + 1, .inl (v.2.1 1, 4, .inr (.inl (fun _ => 0)))), (u84 2 + 2, .inl (v.2.1 1, 4, .inr (.inl (fun _ => 0)))), (u84 2 + 3, .inl (v.2.1 1, 4, .inr (.inl (fun _ => 0)))), (u84 2 + 4, .inl (v.2.1 1, 4, .inr (.inl (fun _ => 0)))), (u84 3, .inl (v.2.1 1, 4, .inr (.inl (fun _ => 0)))), (q91, .inr (7, [.ref q16, .ref q42, .ref (u103 1), .ref (u103 2), .ref (u103 3), .ref (u103 4), .ref (u103 5), .int 0, .int 0, .int 0])), (u103 1, .inl (v.2.1 1, 500, .inr (.inl (fun _ => 0)))), (u103 2, .inl (v.2.1 0, 500, .inl (fun _ => 0))), (u103 3, .inl (v.2.1 0, 500, .inl (fun _ => 0))), (u103 4, .inl (v.2.1 1, 4, .inr (.inl (fun _ => 0)))), (u103 5, .inl (v.2.1 0, 500, .inl (fun _ => 0))), (q110, .inr (8, [.ref q16, .ref q27, .ref (u122 1), .ref (u122 2), .ref (u122 3), .ref (u122 4), .int 0, .int 0, .int 0, .long 0])), (u122 1, .inl (v.2.1 1, 65, .inr (.inl (fun _ => 0)))), (u122 2, .inl (v.2.1 0, 64, .inl (fun _ => 0))), (u122 3, .inl (v.2.1 1, 64, .inr (.inl (fun _ => 0)))), (u122 4, .inl (v.2.1 1, 64, .inr (.inl (fun _ => 0))))]) d_A_init_125 fi_A_67 rfl rfl rfl (Nat.le_of_ble_eq_true rfl) rfl ?_
  refine n_tie (q0 := 20) (g := fun i => some (gs_ad h0 (fun k => match k with | 1 => q5 | 2 => u9 1 | 3 => u9 2 | 4 => q16 | 5 => u20 1 | 6 => u20 2 | 7 => u20 3 | 8 => u20 4 | 9 => u20 5 | 10 => q27 | 11 => u35 1 | 12 => u35 2 | 13 => u35 3 | 14 => q42 | 15 => u50 1 | 16 => u50 2 | 17 => q57 | 18 => u69 1 | 19 => q76 | 20 => u84 1 | 21 => u84 1 + 1 | 22 => u84 1 + 2 | 23 => u84 1 + 3 | 24 => u84 1 + 4 | 25 => u84 2 | 26 => u84 2 + 1 | 27 => u84 2 + 2 | 28 => u84 2 + 3 | 29 => u84 2 + 4 | 30 => u84 3 | 31 => q91 | 32 => u103 1 | 33 => u103 2 | 34 => u103 3 | 35 => u103 4 | 36 => u103 5 | 37 => q110 | 38 => u122 1 | 39 => u122 2 | 40 => u122 3 | 41 => u122 4 | _ => 0) (21 + i))) rfl (fun i hi => by rcases (show i = 0 ∨ i = 1 ∨ i = 2 ∨ i = 3 by omega) with h | h | h | h <;> subst h <;> rfl) rfl ?_
  refine n_tie (q0 := 25) (g := fun i => some (gs_ad h0 (fun k => match k with | 1 => q5 | 2 => u9 1 | 3 => u9 2 | 4 => q16 | 5 => u20 1 | 6 => u20 2 | 7 => u20 3 | 8 => u20 4 | 9 => u20 5 | 10 => q27 | 11 => u35 1 | 12 => u35 2 | 13 => u35 3 | 14 => q42 | 15 => u50 1 | 16 => u50 2 | 17 => q57 | 18 => u69 1 | 19 => q76 | 20 => u84 1 | 21 => u84 1 + 1 | 22 => u84 1 + 2 | 23 => u84 1 + 3 | 24 => u84 1 + 4 | 25 => u84 2 | 26 => u84 2 + 1 | 27 => u84 2 + 2 | 28 => u84 2 + 3 | 29 => u84 2 + 4 | 30 => u84 3 | 31 => q91 | 32 => u103 1 | 33 => u103 2 | 34 => u103 3 | 35 => u103 4 | 36 => u103 5 | 37 => q110 | 38 => u122 1 | 39 => u122 2 | 40 => u122 3 | 41 => u122 4 | _ => 0) (26 + i))) rfl (fun i hi => by rcases (show i = 0 ∨ i = 1 ∨ i = 2 ∨ i = 3 by omega) with h | h | h | h <;> subst h <;> rfl) rfl ?_
  exact n_ret (fun k => match k with | 1 => q5 | 2 => u9 1 | 3 => u9 2 | 4 => q16 | 5 => u20 1 | 6 => u20 2 | 7 => u20 3 | 8 => u20 4 | 9 => u20 5 | 10 => q27 | 11 => u35 1 | 12 => u35 2 | 13 => u35 3 | 14 => q42 | 15 => u50 1 | 16 => u50 2 | 17 => q57 | 18 => u69 1 | 19 => q76 | 20 => u84 1 | 21 => u84 1 + 1 | 22 => u84 1 + 2 | 23 => u84 1 + 3 | 24 => u84 1 + 4 | 25 => u84 2 | 26 => u84 2 + 1 | 27 => u84 2 + 2 | 28 => u84 2 + 3 | 29 => u84 2 + 4 | 30 => u84 3 | 31 => q91 | 32 => u103 1 | 33 => u103 2 | 34 => u103 3 | 35 => u103 4 | 36 => u103 5 | 37 => q110 | 38 => u122 1 | 39 => u122 2 | 40 => u122 3 | 41 => u122 4 | _ => 0) d_A_init_128 rfl
