theorem mt_1 : ∀ w ∈ tables_1_1, w ∈ lw_tbl := fun w h => List.mem_append_right _ (List.mem_append_left _ h)
theorem mt_2 : ∀ w ∈ tables_1_2, w ∈ lw_tbl := fun w h => List.mem_append_right _ (List.mem_append_right _ (List.mem_append_left _ h))
theorem mt_3 : ∀ w ∈ tables_1_3, w ∈ lw_tbl := fun w h => List.mem_append_right _ (List.mem_append_right _ (List.mem_append_right _ (List.mem_append_left _ h)))
theorem mt_4 : ∀ w ∈ tables_1_4, w ∈ lw_tbl := fun w h => List.mem_append_right _ (List.mem_append_right _ (List.mem_append_right _ (List.mem_append_right _ (List.mem_append_left _ h))))
theorem mt_5 : ∀ w ∈ tables_1_5, w ∈ lw_tbl := fun w h => List.mem_append_right _ (List.mem_append_right _ (List.mem_append_right _ (List.mem_append_right _ (List.mem_append_right _ (List.mem_append_left _ h)))))
theorem mt_6 : ∀ w ∈ tables_1_6, w ∈ lw_tbl := fun w h => List.mem_append_right _ (List.mem_append_right _ (List.mem_append_right _ (List.mem_append_right _ (List.mem_append_right _ (List.mem_append_right _ (List.mem_append_left _ h))))))
theorem mt_7 : ∀ w ∈ tables_1_7, w ∈ lw_tbl := fun w h => List.mem_append_right _ (List.mem_append_right _ (List.mem_append_right _ (List.mem_append_right _ (List.mem_append_right _ (List.mem_append_right _ (List.mem_append_right _ (List.mem_append_left _ h)))))))
theorem mt_8 : ∀ w ∈ tables_1_8, w ∈ lw_tbl := fun w h => List.mem_append_right _ (List.mem_append_right _ (List.mem_append_right _ (List.mem_append_right _ (List.mem_append_right _ (List.mem_append_right _ (List.mem_append_right _ (List.mem_append_right _ (h))))))))
set_option maxRecDepth 100000 in
theorem inX0 : ∀ w ∈ wsX00, w ∈ lw_tbl := by decide +kernel
set_option maxRecDepth 100000 in
theorem inX1 : ∀ w ∈ wsX10, w ∈ lw_tbl := by decide +kernel
set_option maxRecDepth 100000 in
theorem inX2 : ∀ w ∈ wsX20, w ∈ lw_tbl := by decide +kernel
set_option maxRecDepth 100000 in
theorem inX3 : ∀ w ∈ wsX30, w ∈ lw_tbl := by decide +kernel
set_option maxRecDepth 100000 in
theorem inX4 : ∀ w ∈ wsX40, w ∈ lw_tbl := by decide +kernel
set_option maxRecDepth 100000 in
theorem inX5 : ∀ w ∈ wsX50, w ∈ lw_tbl := by decide +kernel
set_option maxRecDepth 100000 in
theorem inX6 : ∀ w ∈ wsX60, w ∈ lw_tbl := by decide +kernel
set_option maxRecDepth 100000 in
theorem inX7 : ∀ w ∈ wsX70, w ∈ lw_tbl := by decide +kernel
set_option maxRecDepth 100000 in
theorem inX8 : ∀ w ∈ wsX80, w ∈ lw_tbl := by decide +kernel
set_option maxRecDepth 100000 in
theorem inX9 : ∀ w ∈ wsX90, w ∈ lw_tbl := by decide +kernel
set_option maxRecDepth 100000 in
theorem inX10 : ∀ w ∈ wsX100, w ∈ lw_tbl := by decide +kernel
set_option maxRecDepth 100000 in
theorem inX11 : ∀ w ∈ wsX110, w ∈ lw_tbl := by decide +kernel
theorem mc_0 : Cond.code yX10_init cX10_init 1 none ∈ lw_tbl := mt_1 _ (List.mem_of_getElem? (i := 25) rfl)
theorem mc_1 : Cond.instantiable RX2 4 ∈ lw_tbl := mt_1 _ (List.mem_of_getElem? (i := 36) rfl)
theorem mc_2 : Cond.classLink RX9 9 RX2 ∈ lw_tbl := mt_1 _ (List.mem_of_getElem? (i := 35) rfl)
theorem mc_3 : Cond.methodLink RX9 3 objectInit ∈ lw_tbl := mt_1 _ (List.mem_of_getElem? (i := 34) rfl)
theorem mc_4 : Cond.code yX9_init cX9_init 1 none ∈ lw_tbl := mt_1 _ (List.mem_of_getElem? (i := 33) rfl)
theorem mc_5 : Cond.instanceMethod yX9_init ∈ lw_tbl := mt_1 _ (List.mem_of_getElem? (i := 32) rfl)
theorem mc_6 : Cond.fieldLink RX10 33 "AheadStore" "hindsight" "LAheadStore$Hindsight;" ∈ lw_tbl := mt_2 _ (List.mem_of_getElem? (i := 121) rfl)
theorem mc_7 : Cond.initialized RX1 ∈ lw_tbl := mt_1 _ (List.mem_of_getElem? (i := 12) rfl)
theorem mc_8 : Cond.instantiable RX1 1 ∈ lw_tbl := mt_2 _ (List.mem_of_getElem? (i := 107) rfl)
theorem mc_9 : Cond.classLink RX10 30 RX1 ∈ lw_tbl := mt_2 _ (List.mem_of_getElem? (i := 106) rfl)
theorem mc_10 : Cond.fieldLink RX10 26 "AheadStore" "recovery" "LAheadStore$Recovery;" ∈ lw_tbl := mt_2 _ (List.mem_of_getElem? (i := 120) rfl)
theorem mc_11 : Cond.initialized RX4 ∈ lw_tbl := mt_1 _ (List.mem_of_getElem? (i := 11) rfl)
theorem mc_12 : Cond.instantiable RX4 7 ∈ lw_tbl := mt_2 _ (List.mem_of_getElem? (i := 75) rfl)
theorem mc_13 : Cond.classLink RX10 23 RX4 ∈ lw_tbl := mt_2 _ (List.mem_of_getElem? (i := 74) rfl)
theorem mc_14 : Cond.fieldLink RX10 19 "AheadStore" "tape" "LAheadStore$Tape;" ∈ lw_tbl := mt_2 _ (List.mem_of_getElem? (i := 119) rfl)
theorem mc_15 : Cond.initialized RX8 ∈ lw_tbl := mt_1 _ (List.mem_of_getElem? (i := 10) rfl)
theorem mc_16 : Cond.instantiable RX8 9 ∈ lw_tbl := mt_2 _ (List.mem_of_getElem? (i := 35) rfl)
theorem mc_17 : Cond.classLink RX10 16 RX8 ∈ lw_tbl := mt_2 _ (List.mem_of_getElem? (i := 34) rfl)
theorem mc_18 : Cond.fieldLink RX10 10 "AheadStore" "now" "LAheadStore$World;" ∈ lw_tbl := mt_2 _ (List.mem_of_getElem? (i := 118) rfl)
theorem mc_19 : Cond.initialized RX9 ∈ lw_tbl := mt_1 _ (List.mem_of_getElem? (i := 2) rfl)
theorem mc_20 : Cond.instantiable RX9 11 ∈ lw_tbl := mt_1 _ (List.mem_of_getElem? (i := 30) rfl)
theorem mc_21 : Cond.classLink RX10 7 RX9 ∈ lw_tbl := mt_1 _ (List.mem_of_getElem? (i := 29) rfl)
theorem mc_22 : Cond.code objectInit ⟨#[0xb1]⟩ 1 none ∈ lw_tbl := mt_1 _ (List.mem_of_getElem? (i := 28) rfl)
theorem mc_23 : Cond.instanceMethod objectInit ∈ lw_tbl := mt_1 _ (List.mem_of_getElem? (i := 27) rfl)
theorem mc_24 : Cond.methodLink RX10 1 objectInit ∈ lw_tbl := mt_1 _ (List.mem_of_getElem? (i := 26) rfl)
set_option maxRecDepth 100000 in
theorem mT_wsX10_init_r1 : ∀ w ∈ wsX10_init_r1, w ∈ lw_tbl := by
  unfold wsX10_init_r1
  exact List.forall_mem_cons.mpr ⟨mc_24, List.forall_mem_cons.mpr ⟨mc_23, List.forall_mem_cons.mpr ⟨mc_22, List.forall_mem_cons.mpr ⟨mc_21, List.forall_mem_cons.mpr ⟨mc_20, List.forall_mem_cons.mpr ⟨mc_19, List.forall_mem_cons.mpr ⟨mc_18, List.forall_mem_cons.mpr ⟨mc_17, List.forall_mem_cons.mpr ⟨mc_16, List.forall_mem_cons.mpr ⟨mc_15, List.forall_mem_cons.mpr ⟨mc_14, List.forall_mem_cons.mpr ⟨mc_13, List.forall_mem_cons.mpr ⟨mc_12, List.forall_mem_cons.mpr ⟨mc_11, List.forall_mem_cons.mpr ⟨mc_10, List.forall_mem_cons.mpr ⟨mc_9, List.forall_mem_cons.mpr ⟨mc_8, List.forall_mem_cons.mpr ⟨mc_7, List.forall_mem_cons.mpr ⟨mc_6, List.forall_mem_cons.mpr ⟨mc_5, List.forall_mem_cons.mpr ⟨mc_4, List.forall_mem_cons.mpr ⟨mc_3, List.forall_mem_cons.mpr ⟨mc_2, List.forall_mem_cons.mpr ⟨mc_1, fun _ h => absurd h List.not_mem_nil⟩⟩⟩⟩⟩⟩⟩⟩⟩⟩⟩⟩⟩⟩⟩⟩⟩⟩⟩⟩⟩⟩⟩⟩
theorem mc_25 : Cond.fieldLink RX9 57 "AheadStore$World" "master" "I" ∈ lw_tbl := mt_2 _ (List.mem_of_getElem? (i := 2) rfl)
theorem mc_26 : Cond.fieldLink RX9 53 "AheadStore$World" "up" "Z" ∈ lw_tbl := mt_1 _ (List.mem_of_getElem? (i := 239) rfl)
theorem mc_27 : Cond.fieldLink RX9 49 "AheadStore$World" "script" "LAheadStore$Script;" ∈ lw_tbl := mt_1 _ (List.mem_of_getElem? (i := 237) rfl)
theorem mc_28 : Cond.initialized RX6 ∈ lw_tbl := mt_1 _ (List.mem_of_getElem? (i := 9) rfl)
theorem mc_29 : Cond.instantiable RX6 3 ∈ lw_tbl := mt_1 _ (List.mem_of_getElem? (i := 205) rfl)
theorem mc_30 : Cond.classLink RX9 46 RX6 ∈ lw_tbl := mt_1 _ (List.mem_of_getElem? (i := 204) rfl)
theorem mc_31 : Cond.fieldLink RX9 42 "AheadStore$World" "standby" "LAheadStore$Standby;" ∈ lw_tbl := mt_1 _ (List.mem_of_getElem? (i := 234) rfl)
theorem mc_32 : Cond.initialized RX7 ∈ lw_tbl := mt_1 _ (List.mem_of_getElem? (i := 8) rfl)
theorem mc_33 : Cond.instantiable RX7 4 ∈ lw_tbl := mt_1 _ (List.mem_of_getElem? (i := 179) rfl)
theorem mc_34 : Cond.classLink RX9 39 RX7 ∈ lw_tbl := mt_1 _ (List.mem_of_getElem? (i := 178) rfl)
theorem mc_35 : Cond.fieldLink RX9 35 "AheadStore$World" "claims" "LAheadStore$Claims;" ∈ lw_tbl := mt_1 _ (List.mem_of_getElem? (i := 232) rfl)
theorem mc_36 : Cond.initialized RX0 ∈ lw_tbl := mt_1 _ (List.mem_of_getElem? (i := 7) rfl)
theorem mc_37 : Cond.instantiable RX0 7 ∈ lw_tbl := mt_1 _ (List.mem_of_getElem? (i := 143) rfl)
theorem mc_38 : Cond.classLink RX9 32 RX0 ∈ lw_tbl := mt_1 _ (List.mem_of_getElem? (i := 142) rfl)
theorem mc_39 : Cond.fieldLink RX9 28 "AheadStore$World" "roster" "LAheadStore$Roster;" ∈ lw_tbl := mt_1 _ (List.mem_of_getElem? (i := 229) rfl)
theorem mc_40 : Cond.initialized RX5 ∈ lw_tbl := mt_1 _ (List.mem_of_getElem? (i := 6) rfl)
theorem mc_41 : Cond.instantiable RX5 3 ∈ lw_tbl := mt_1 _ (List.mem_of_getElem? (i := 118) rfl)
theorem mc_42 : Cond.classLink RX9 25 RX5 ∈ lw_tbl := mt_1 _ (List.mem_of_getElem? (i := 117) rfl)
theorem mc_43 : Cond.fieldLink RX9 21 "AheadStore$World" "pages" "LAheadStore$Pages;" ∈ lw_tbl := mt_1 _ (List.mem_of_getElem? (i := 226) rfl)
theorem mc_44 : Cond.initialized RX3 ∈ lw_tbl := mt_1 _ (List.mem_of_getElem? (i := 4) rfl)
theorem mc_45 : Cond.instantiable RX3 12 ∈ lw_tbl := mt_1 _ (List.mem_of_getElem? (i := 63) rfl)
theorem mc_46 : Cond.classLink RX9 18 RX3 ∈ lw_tbl := mt_1 _ (List.mem_of_getElem? (i := 62) rfl)
theorem mc_47 : Cond.fieldLink RX9 12 "AheadStore$World" "journal" "LAheadStore$Journal;" ∈ lw_tbl := mt_1 _ (List.mem_of_getElem? (i := 223) rfl)
theorem mc_48 : Cond.initialized RX2 ∈ lw_tbl := mt_1 _ (List.mem_of_getElem? (i := 3) rfl)
set_option maxRecDepth 100000 in
theorem mT_wsX10_init_r2 : ∀ w ∈ wsX10_init_r2, w ∈ lw_tbl := by
  unfold wsX10_init_r2
  exact List.forall_mem_cons.mpr ⟨mc_48, List.forall_mem_cons.mpr ⟨mc_47, List.forall_mem_cons.mpr ⟨mc_46, List.forall_mem_cons.mpr ⟨mc_45, List.forall_mem_cons.mpr ⟨mc_44, List.forall_mem_cons.mpr ⟨mc_43, List.forall_mem_cons.mpr ⟨mc_42, List.forall_mem_cons.mpr ⟨mc_41, List.forall_mem_cons.mpr ⟨mc_40, List.forall_mem_cons.mpr ⟨mc_39, List.forall_mem_cons.mpr ⟨mc_38, List.forall_mem_cons.mpr ⟨mc_37, List.forall_mem_cons.mpr ⟨mc_36, List.forall_mem_cons.mpr ⟨mc_35, List.forall_mem_cons.mpr ⟨mc_34, List.forall_mem_cons.mpr ⟨mc_33, List.forall_mem_cons.mpr ⟨mc_32, List.forall_mem_cons.mpr ⟨mc_31, List.forall_mem_cons.mpr ⟨mc_30, List.forall_mem_cons.mpr ⟨mc_29, List.forall_mem_cons.mpr ⟨mc_28, List.forall_mem_cons.mpr ⟨mc_27, List.forall_mem_cons.mpr ⟨mc_26, List.forall_mem_cons.mpr ⟨mc_25, fun _ h => absurd h List.not_mem_nil⟩⟩⟩⟩⟩⟩⟩⟩⟩⟩⟩⟩⟩⟩⟩⟩⟩⟩⟩⟩⟩⟩⟩⟩
theorem mc_49 : Cond.fieldLink RX3 37 "AheadStore$Pages" "stamps" "[I" ∈ lw_tbl := mt_1 _ (List.mem_of_getElem? (i := 84) rfl)
theorem mc_50 : Cond.fieldLink RX3 34 "AheadStore$Pages" "copies" "[I" ∈ lw_tbl := mt_1 _ (List.mem_of_getElem? (i := 83) rfl)
theorem mc_51 : Cond.fieldLink RX3 31 "AheadStore$Pages" "held" "[I" ∈ lw_tbl := mt_1 _ (List.mem_of_getElem? (i := 82) rfl)
theorem mc_52 : Cond.fieldLink RX3 28 "AheadStore$Pages" "frameCount" "I" ∈ lw_tbl := mt_1 _ (List.mem_of_getElem? (i := 80) rfl)
theorem mc_53 : Cond.fieldLink RX3 24 "AheadStore$Pages" "lost" "I" ∈ lw_tbl := mt_1 _ (List.mem_of_getElem? (i := 78) rfl)
theorem mc_54 : Cond.fieldLink RX3 21 "AheadStore$Pages" "archiveStamps" "[I" ∈ lw_tbl := mt_1 _ (List.mem_of_getElem? (i := 76) rfl)
theorem mc_55 : Cond.fieldLink RX3 18 "AheadStore$Pages" "archive" "[I" ∈ lw_tbl := mt_1 _ (List.mem_of_getElem? (i := 75) rfl)
theorem mc_56 : Cond.fieldLink RX3 15 "AheadStore$Pages" "diskStamps" "[I" ∈ lw_tbl := mt_1 _ (List.mem_of_getElem? (i := 73) rfl)
theorem mc_57 : Cond.fieldLink RX3 9 "AheadStore$Pages" "disk" "[I" ∈ lw_tbl := mt_1 _ (List.mem_of_getElem? (i := 71) rfl)
theorem mc_58 : Cond.methodLink RX3 3 objectInit ∈ lw_tbl := mt_1 _ (List.mem_of_getElem? (i := 67) rfl)
theorem mc_59 : Cond.code yX3_init cX3_init 1 none ∈ lw_tbl := mt_1 _ (List.mem_of_getElem? (i := 66) rfl)
theorem mc_60 : Cond.instanceMethod yX3_init ∈ lw_tbl := mt_1 _ (List.mem_of_getElem? (i := 65) rfl)
theorem mc_61 : Cond.methodLink RX9 20 yX3_init ∈ lw_tbl := mt_1 _ (List.mem_of_getElem? (i := 64) rfl)
theorem mc_62 : Cond.fieldLink RX2 22 "AheadStore$Journal" "pen" "I" ∈ lw_tbl := mt_1 _ (List.mem_of_getElem? (i := 51) rfl)
theorem mc_63 : Cond.fieldLink RX2 19 "AheadStore$Journal" "flushedPlace" "I" ∈ lw_tbl := mt_1 _ (List.mem_of_getElem? (i := 47) rfl)
theorem mc_64 : Cond.fieldLink RX2 15 "AheadStore$Journal" "endPlace" "I" ∈ lw_tbl := mt_1 _ (List.mem_of_getElem? (i := 42) rfl)
theorem mc_65 : Cond.fieldLink RX2 9 "AheadStore$Journal" "row" "[I" ∈ lw_tbl := mt_1 _ (List.mem_of_getElem? (i := 41) rfl)
theorem mc_66 : Cond.arrayClass .int ∈ lw_tbl := mt_1 _ (List.mem_of_getElem? (i := 61) rfl)
theorem mc_67 : Cond.methodLink RX2 3 objectInit ∈ lw_tbl := mt_1 _ (List.mem_of_getElem? (i := 40) rfl)
theorem mc_68 : Cond.code yX2_init cX2_init 1 none ∈ lw_tbl := mt_1 _ (List.mem_of_getElem? (i := 39) rfl)
theorem mc_69 : Cond.instanceMethod yX2_init ∈ lw_tbl := mt_1 _ (List.mem_of_getElem? (i := 38) rfl)
theorem mc_70 : Cond.fieldLink RX9 67 "AheadStore$World" "crashes" "I" ∈ lw_tbl := mt_2 _ (List.mem_of_getElem? (i := 9) rfl)
theorem mc_71 : Cond.fieldLink RX9 64 "AheadStore$World" "redone" "I" ∈ lw_tbl := mt_2 _ (List.mem_of_getElem? (i := 6) rfl)
theorem mc_72 : Cond.fieldLink RX9 61 "AheadStore$World" "openCheck" "I" ∈ lw_tbl := mt_2 _ (List.mem_of_getElem? (i := 4) rfl)
set_option maxRecDepth 100000 in
theorem mT_wsX10_init_r3 : ∀ w ∈ wsX10_init_r3, w ∈ lw_tbl := by
  unfold wsX10_init_r3
  exact List.forall_mem_cons.mpr ⟨mc_72, List.forall_mem_cons.mpr ⟨mc_71, List.forall_mem_cons.mpr ⟨mc_70, List.forall_mem_cons.mpr ⟨mc_69, List.forall_mem_cons.mpr ⟨mc_68, List.forall_mem_cons.mpr ⟨mc_67, List.forall_mem_cons.mpr ⟨mc_66, List.forall_mem_cons.mpr ⟨mc_65, List.forall_mem_cons.mpr ⟨mc_64, List.forall_mem_cons.mpr ⟨mc_63, List.forall_mem_cons.mpr ⟨mc_62, List.forall_mem_cons.mpr ⟨mc_61, List.forall_mem_cons.mpr ⟨mc_60, List.forall_mem_cons.mpr ⟨mc_59, List.forall_mem_cons.mpr ⟨mc_58, List.forall_mem_cons.mpr ⟨mc_57, List.forall_mem_cons.mpr ⟨mc_56, List.forall_mem_cons.mpr ⟨mc_55, List.forall_mem_cons.mpr ⟨mc_54, List.forall_mem_cons.mpr ⟨mc_53, List.forall_mem_cons.mpr ⟨mc_52, List.forall_mem_cons.mpr ⟨mc_51, List.forall_mem_cons.mpr ⟨mc_50, List.forall_mem_cons.mpr ⟨mc_49, fun _ h => absurd h List.not_mem_nil⟩⟩⟩⟩⟩⟩⟩⟩⟩⟩⟩⟩⟩⟩⟩⟩⟩⟩⟩⟩⟩⟩⟩⟩
theorem mc_73 : Cond.instanceMethod yX7_init ∈ lw_tbl := mt_1 _ (List.mem_of_getElem? (i := 181) rfl)
theorem mc_74 : Cond.fieldLink RX0 30 "AheadStore$Claims" "tops" "[I" ∈ lw_tbl := mt_1 _ (List.mem_of_getElem? (i := 162) rfl)
theorem mc_75 : Cond.fieldLink RX0 27 "AheadStore$Claims" "saves" "[I" ∈ lw_tbl := mt_1 _ (List.mem_of_getElem? (i := 161) rfl)
theorem mc_76 : Cond.fieldLink RX0 24 "AheadStore$Claims" "topCount" "[I" ∈ lw_tbl := mt_1 _ (List.mem_of_getElem? (i := 158) rfl)
theorem mc_77 : Cond.fieldLink RX0 21 "AheadStore$Claims" "saveCount" "[I" ∈ lw_tbl := mt_1 _ (List.mem_of_getElem? (i := 155) rfl)
theorem mc_78 : Cond.fieldLink RX0 18 "AheadStore$Claims" "waits" "[I" ∈ lw_tbl := mt_1 _ (List.mem_of_getElem? (i := 152) rfl)
theorem mc_79 : Cond.fieldLink RX0 15 "AheadStore$Claims" "added" "[I" ∈ lw_tbl := mt_1 _ (List.mem_of_getElem? (i := 150) rfl)
theorem mc_80 : Cond.fieldLink RX0 9 "AheadStore$Claims" "wrote" "[I" ∈ lw_tbl := mt_1 _ (List.mem_of_getElem? (i := 148) rfl)
theorem mc_81 : Cond.methodLink RX0 3 objectInit ∈ lw_tbl := mt_1 _ (List.mem_of_getElem? (i := 147) rfl)
theorem mc_82 : Cond.code yX0_init cX0_init 1 none ∈ lw_tbl := mt_1 _ (List.mem_of_getElem? (i := 146) rfl)
theorem mc_83 : Cond.instanceMethod yX0_init ∈ lw_tbl := mt_1 _ (List.mem_of_getElem? (i := 145) rfl)
theorem mc_84 : Cond.fieldLink RX5 18 "AheadStore$Roster" "cursor" "[I" ∈ lw_tbl := mt_1 _ (List.mem_of_getElem? (i := 130) rfl)
theorem mc_85 : Cond.fieldLink RX5 15 "AheadStore$Roster" "last" "[I" ∈ lw_tbl := mt_1 _ (List.mem_of_getElem? (i := 127) rfl)
theorem mc_86 : Cond.fieldLink RX5 9 "AheadStore$Roster" "is" "[I" ∈ lw_tbl := mt_1 _ (List.mem_of_getElem? (i := 123) rfl)
theorem mc_87 : Cond.methodLink RX5 3 objectInit ∈ lw_tbl := mt_1 _ (List.mem_of_getElem? (i := 122) rfl)
theorem mc_88 : Cond.code yX5_init cX5_init 1 none ∈ lw_tbl := mt_1 _ (List.mem_of_getElem? (i := 121) rfl)
theorem mc_89 : Cond.instanceMethod yX5_init ∈ lw_tbl := mt_1 _ (List.mem_of_getElem? (i := 120) rfl)
theorem mc_90 : Cond.code yJ7_fill_53178 cJ7_fill_53178 4 none ∈ lw_tbl := mt_1 _ (List.mem_of_getElem? (i := 70) rfl)
theorem mc_91 : Cond.initialized RJ7 ∈ lw_tbl := mt_1 _ (List.mem_of_getElem? (i := 5) rfl)
theorem mc_92 : Cond.static yJ7_fill_53178 ∈ lw_tbl := mt_1 _ (List.mem_of_getElem? (i := 69) rfl)
theorem mc_93 : Cond.methodLink RX3 49 yJ7_fill_53178 ∈ lw_tbl := mt_1 _ (List.mem_of_getElem? (i := 68) rfl)
theorem mc_94 : Cond.fieldLink RX3 46 "AheadStore$Pages" "clock" "I" ∈ lw_tbl := mt_1 _ (List.mem_of_getElem? (i := 91) rfl)
theorem mc_95 : Cond.fieldLink RX3 43 "AheadStore$Pages" "uses" "[I" ∈ lw_tbl := mt_1 _ (List.mem_of_getElem? (i := 90) rfl)
theorem mc_96 : Cond.fieldLink RX3 40 "AheadStore$Pages" "recs" "[I" ∈ lw_tbl := mt_1 _ (List.mem_of_getElem? (i := 87) rfl)
set_option maxRecDepth 100000 in
theorem mT_wsX10_init_r4 : ∀ w ∈ wsX10_init_r4, w ∈ lw_tbl := by
  unfold wsX10_init_r4
  exact List.forall_mem_cons.mpr ⟨mc_96, List.forall_mem_cons.mpr ⟨mc_95, List.forall_mem_cons.mpr ⟨mc_94, List.forall_mem_cons.mpr ⟨mc_93, List.forall_mem_cons.mpr ⟨mc_92, List.forall_mem_cons.mpr ⟨mc_91, List.forall_mem_cons.mpr ⟨mc_90, List.forall_mem_cons.mpr ⟨mc_89, List.forall_mem_cons.mpr ⟨mc_88, List.forall_mem_cons.mpr ⟨mc_87, List.forall_mem_cons.mpr ⟨mc_86, List.forall_mem_cons.mpr ⟨mc_85, List.forall_mem_cons.mpr ⟨mc_84, List.forall_mem_cons.mpr ⟨mc_83, List.forall_mem_cons.mpr ⟨mc_82, List.forall_mem_cons.mpr ⟨mc_81, List.forall_mem_cons.mpr ⟨mc_80, List.forall_mem_cons.mpr ⟨mc_79, List.forall_mem_cons.mpr ⟨mc_78, List.forall_mem_cons.mpr ⟨mc_77, List.forall_mem_cons.mpr ⟨mc_76, List.forall_mem_cons.mpr ⟨mc_75, List.forall_mem_cons.mpr ⟨mc_74, List.forall_mem_cons.mpr ⟨mc_73, fun _ h => absurd h List.not_mem_nil⟩⟩⟩⟩⟩⟩⟩⟩⟩⟩⟩⟩⟩⟩⟩⟩⟩⟩⟩⟩⟩⟩⟩⟩
theorem mc_97 : Cond.fieldLink RX8 38 "AheadStore$Tape" "tokenPlace" "I" ∈ lw_tbl := mt_2 _ (List.mem_of_getElem? (i := 53) rfl)
theorem mc_98 : Cond.fieldLink RX8 35 "AheadStore$Tape" "token" "I" ∈ lw_tbl := mt_2 _ (List.mem_of_getElem? (i := 52) rfl)
theorem mc_99 : Cond.fieldLink RX8 32 "AheadStore$Tape" "place" "I" ∈ lw_tbl := mt_2 _ (List.mem_of_getElem? (i := 51) rfl)
theorem mc_100 : Cond.fieldLink RX8 28 "AheadStore$Tape" "draft" "LAheadStore$Script;" ∈ lw_tbl := mt_2 _ (List.mem_of_getElem? (i := 49) rfl)
theorem mc_101 : Cond.classLink RX8 25 RX6 ∈ lw_tbl := mt_2 _ (List.mem_of_getElem? (i := 40) rfl)
theorem mc_102 : Cond.fieldLink RX8 22 "AheadStore$Tape" "faultPlace" "I" ∈ lw_tbl := mt_2 _ (List.mem_of_getElem? (i := 47) rfl)
theorem mc_103 : Cond.fieldLink RX8 19 "AheadStore$Tape" "fault" "I" ∈ lw_tbl := mt_2 _ (List.mem_of_getElem? (i := 45) rfl)
theorem mc_104 : Cond.fieldLink RX8 15 "AheadStore$Tape" "size" "I" ∈ lw_tbl := mt_2 _ (List.mem_of_getElem? (i := 43) rfl)
theorem mc_105 : Cond.fieldLink RX8 9 "AheadStore$Tape" "bytes" "[I" ∈ lw_tbl := mt_2 _ (List.mem_of_getElem? (i := 42) rfl)
theorem mc_106 : Cond.methodLink RX8 3 objectInit ∈ lw_tbl := mt_2 _ (List.mem_of_getElem? (i := 39) rfl)
theorem mc_107 : Cond.code yX8_init cX8_init 1 none ∈ lw_tbl := mt_2 _ (List.mem_of_getElem? (i := 38) rfl)
theorem mc_108 : Cond.instanceMethod yX8_init ∈ lw_tbl := mt_2 _ (List.mem_of_getElem? (i := 37) rfl)
theorem mc_109 : Cond.fieldLink RX6 19 "AheadStore$Script" "ran" "I" ∈ lw_tbl := mt_1 _ (List.mem_of_getElem? (i := 214) rfl)
theorem mc_110 : Cond.fieldLink RX6 15 "AheadStore$Script" "size" "I" ∈ lw_tbl := mt_1 _ (List.mem_of_getElem? (i := 211) rfl)
theorem mc_111 : Cond.fieldLink RX6 9 "AheadStore$Script" "parts" "[I" ∈ lw_tbl := mt_1 _ (List.mem_of_getElem? (i := 210) rfl)
theorem mc_112 : Cond.methodLink RX6 3 objectInit ∈ lw_tbl := mt_1 _ (List.mem_of_getElem? (i := 209) rfl)
theorem mc_113 : Cond.code yX6_init cX6_init 1 none ∈ lw_tbl := mt_1 _ (List.mem_of_getElem? (i := 208) rfl)
theorem mc_114 : Cond.instanceMethod yX6_init ∈ lw_tbl := mt_1 _ (List.mem_of_getElem? (i := 207) rfl)
theorem mc_115 : Cond.fieldLink RX7 22 "AheadStore$Standby" "done" "I" ∈ lw_tbl := mt_1 _ (List.mem_of_getElem? (i := 192) rfl)
theorem mc_116 : Cond.fieldLink RX7 18 "AheadStore$Standby" "received" "I" ∈ lw_tbl := mt_1 _ (List.mem_of_getElem? (i := 189) rfl)
theorem mc_117 : Cond.fieldLink RX7 15 "AheadStore$Standby" "stamps" "[I" ∈ lw_tbl := mt_1 _ (List.mem_of_getElem? (i := 187) rfl)
theorem mc_118 : Cond.fieldLink RX7 9 "AheadStore$Standby" "row" "[I" ∈ lw_tbl := mt_1 _ (List.mem_of_getElem? (i := 184) rfl)
theorem mc_119 : Cond.methodLink RX7 3 objectInit ∈ lw_tbl := mt_1 _ (List.mem_of_getElem? (i := 183) rfl)
theorem mc_120 : Cond.code yX7_init cX7_init 1 none ∈ lw_tbl := mt_1 _ (List.mem_of_getElem? (i := 182) rfl)
set_option maxRecDepth 100000 in
theorem mT_wsX10_init_r5 : ∀ w ∈ wsX10_init_r5, w ∈ lw_tbl := by
  unfold wsX10_init_r5
  exact List.forall_mem_cons.mpr ⟨mc_120, List.forall_mem_cons.mpr ⟨mc_119, List.forall_mem_cons.mpr ⟨mc_118, List.forall_mem_cons.mpr ⟨mc_117, List.forall_mem_cons.mpr ⟨mc_116, List.forall_mem_cons.mpr ⟨mc_115, List.forall_mem_cons.mpr ⟨mc_114, List.forall_mem_cons.mpr ⟨mc_113, List.forall_mem_cons.mpr ⟨mc_112, List.forall_mem_cons.mpr ⟨mc_111, List.forall_mem_cons.mpr ⟨mc_110, List.forall_mem_cons.mpr ⟨mc_109, List.forall_mem_cons.mpr ⟨mc_108, List.forall_mem_cons.mpr ⟨mc_107, List.forall_mem_cons.mpr ⟨mc_106, List.forall_mem_cons.mpr ⟨mc_105, List.forall_mem_cons.mpr ⟨mc_104, List.forall_mem_cons.mpr ⟨mc_103, List.forall_mem_cons.mpr ⟨mc_102, List.forall_mem_cons.mpr ⟨mc_101, List.forall_mem_cons.mpr ⟨mc_100, List.forall_mem_cons.mpr ⟨mc_99, List.forall_mem_cons.mpr ⟨mc_98, List.forall_mem_cons.mpr ⟨mc_97, fun _ h => absurd h List.not_mem_nil⟩⟩⟩⟩⟩⟩⟩⟩⟩⟩⟩⟩⟩⟩⟩⟩⟩⟩⟩⟩⟩⟩⟩⟩
theorem mc_121 : Cond.fieldLink RX1 12 "AheadStore$Hindsight" "roster" "LAheadStore$Roster;" ∈ lw_tbl := mt_2 _ (List.mem_of_getElem? (i := 114) rfl)
theorem mc_122 : Cond.classLink RX1 9 RX5 ∈ lw_tbl := mt_2 _ (List.mem_of_getElem? (i := 112) rfl)
theorem mc_123 : Cond.methodLink RX1 3 objectInit ∈ lw_tbl := mt_2 _ (List.mem_of_getElem? (i := 111) rfl)
theorem mc_124 : Cond.code yX1_init cX1_init 1 none ∈ lw_tbl := mt_2 _ (List.mem_of_getElem? (i := 110) rfl)
theorem mc_125 : Cond.instanceMethod yX1_init ∈ lw_tbl := mt_2 _ (List.mem_of_getElem? (i := 109) rfl)
theorem mc_126 : Cond.fieldLink RX4 32 "AheadStore$Recovery" "redoneInAll" "I" ∈ lw_tbl := mt_2 _ (List.mem_of_getElem? (i := 89) rfl)
theorem mc_127 : Cond.fieldLink RX4 29 "AheadStore$Recovery" "ended" "I" ∈ lw_tbl := mt_2 _ (List.mem_of_getElem? (i := 87) rfl)
theorem mc_128 : Cond.fieldLink RX4 26 "AheadStore$Recovery" "compensated" "I" ∈ lw_tbl := mt_2 _ (List.mem_of_getElem? (i := 85) rfl)
theorem mc_129 : Cond.fieldLink RX4 23 "AheadStore$Recovery" "losers" "I" ∈ lw_tbl := mt_2 _ (List.mem_of_getElem? (i := 83) rfl)
theorem mc_130 : Cond.fieldLink RX4 19 "AheadStore$Recovery" "analysed" "Z" ∈ lw_tbl := mt_2 _ (List.mem_of_getElem? (i := 82) rfl)
theorem mc_131 : Cond.fieldLink RX4 15 "AheadStore$Recovery" "written" "I" ∈ lw_tbl := mt_2 _ (List.mem_of_getElem? (i := 81) rfl)
theorem mc_132 : Cond.fieldLink RX4 9 "AheadStore$Recovery" "unclean" "[I" ∈ lw_tbl := mt_2 _ (List.mem_of_getElem? (i := 80) rfl)
theorem mc_133 : Cond.methodLink RX4 3 objectInit ∈ lw_tbl := mt_2 _ (List.mem_of_getElem? (i := 79) rfl)
theorem mc_134 : Cond.code yX4_init cX4_init 1 none ∈ lw_tbl := mt_2 _ (List.mem_of_getElem? (i := 78) rfl)
theorem mc_135 : Cond.instanceMethod yX4_init ∈ lw_tbl := mt_2 _ (List.mem_of_getElem? (i := 77) rfl)
theorem mc_136 : Cond.fieldLink RX8 41 "AheadStore$Tape" "value" "I" ∈ lw_tbl := mt_2 _ (List.mem_of_getElem? (i := 54) rfl)
set_option maxRecDepth 100000 in
theorem mT_wsX10_init_r6 : ∀ w ∈ wsX10_init_r6, w ∈ lw_tbl := by
  unfold wsX10_init_r6
  exact List.forall_mem_cons.mpr ⟨mc_136, List.forall_mem_cons.mpr ⟨mc_135, List.forall_mem_cons.mpr ⟨mc_134, List.forall_mem_cons.mpr ⟨mc_133, List.forall_mem_cons.mpr ⟨mc_132, List.forall_mem_cons.mpr ⟨mc_131, List.forall_mem_cons.mpr ⟨mc_130, List.forall_mem_cons.mpr ⟨mc_129, List.forall_mem_cons.mpr ⟨mc_128, List.forall_mem_cons.mpr ⟨mc_127, List.forall_mem_cons.mpr ⟨mc_126, List.forall_mem_cons.mpr ⟨mc_125, List.forall_mem_cons.mpr ⟨mc_124, List.forall_mem_cons.mpr ⟨mc_123, List.forall_mem_cons.mpr ⟨mc_122, List.forall_mem_cons.mpr ⟨mc_121, fun _ h => absurd h List.not_mem_nil⟩⟩⟩⟩⟩⟩⟩⟩⟩⟩⟩⟩⟩⟩⟩⟩
set_option maxRecDepth 100000 in
theorem mT_wsX10_init : ∀ w ∈ wsX10_init, w ∈ lw_tbl := by
  unfold wsX10_init
  exact List.forall_mem_cons.mpr ⟨mc_0, List.forall_mem_append.mpr ⟨List.forall_mem_append.mpr ⟨List.forall_mem_append.mpr ⟨List.forall_mem_append.mpr ⟨List.forall_mem_append.mpr ⟨List.forall_mem_append.mpr ⟨List.forall_mem_append.mpr ⟨List.forall_mem_append.mpr ⟨List.forall_mem_append.mpr ⟨List.forall_mem_append.mpr ⟨List.forall_mem_append.mpr ⟨List.forall_mem_append.mpr ⟨mT_wsX10_init_r1, List.forall_mem_append.mpr ⟨mT_wsX10_init_r2, List.forall_mem_append.mpr ⟨mT_wsX10_init_r3, List.forall_mem_append.mpr ⟨mT_wsX10_init_r4, List.forall_mem_append.mpr ⟨mT_wsX10_init_r5, mT_wsX10_init_r6⟩⟩⟩⟩⟩, inX9⟩, inX10⟩, inX8⟩, inX4⟩, inX1⟩, inX2⟩, inX3⟩, inX5⟩, inX0⟩, inX7⟩, inX6⟩⟩
set_option maxRecDepth 100000 in
theorem gT_X10_init : GoodIn lw_tbl wsX10_init := goodIn_sub mT_wsX10_init (by decide +kernel)
theorem mc_137 : Cond.methodLink RL 9 yX10_init ∈ lw_tbl := mt_1 _ (List.mem_of_getElem? (i := 23) rfl)
theorem lk9_25 : Cond.methodLink RL 9 yX10_init ∈ lw_tbl := mc_137
theorem mc_138 : Cond.instanceMethod yX10_init ∈ lw_tbl := mt_1 _ (List.mem_of_getElem? (i := 24) rfl)
theorem lk9_24 : Cond.instanceMethod yX10_init ∈ lw_tbl := mc_138
theorem mc_139 : Cond.initialized RX10 ∈ lw_tbl := mt_1 _ (List.mem_of_getElem? (i := 1) rfl)
theorem lk9_16 : Cond.initialized RX10 ∈ lw_tbl := mc_139
theorem mc_140 : Cond.code yX11_init cX11_init 1 none ∈ lw_tbl := mt_5 _ (List.mem_of_getElem? (i := 173) rfl)
theorem mc_141 : Cond.fieldLink RX11 41 "AheadStoreModel" "images" "[I" ∈ lw_tbl := mt_5 _ (List.mem_of_getElem? (i := 202) rfl)
theorem mc_142 : Cond.fieldLink RX11 38 "AheadStoreModel" "plans" "[I" ∈ lw_tbl := mt_5 _ (List.mem_of_getElem? (i := 200) rfl)
theorem mc_143 : Cond.fieldLink RX11 34 "AheadStoreModel" "faultPlace" "I" ∈ lw_tbl := mt_5 _ (List.mem_of_getElem? (i := 198) rfl)
theorem mc_144 : Cond.fieldLink RX11 31 "AheadStoreModel" "words" "[I" ∈ lw_tbl := mt_5 _ (List.mem_of_getElem? (i := 194) rfl)
theorem mc_145 : Cond.fieldLink RX11 28 "AheadStoreModel" "tape" "[I" ∈ lw_tbl := mt_5 _ (List.mem_of_getElem? (i := 188) rfl)
theorem mc_146 : Cond.fieldLink RX11 25 "AheadStoreModel" "latest" "[I" ∈ lw_tbl := mt_5 _ (List.mem_of_getElem? (i := 187) rfl)
theorem mc_147 : Cond.fieldLink RX11 22 "AheadStoreModel" "isThere" "[I" ∈ lw_tbl := mt_5 _ (List.mem_of_getElem? (i := 186) rfl)
theorem mc_148 : Cond.fieldLink RX11 19 "AheadStoreModel" "thoughtRow" "[I" ∈ lw_tbl := mt_5 _ (List.mem_of_getElem? (i := 185) rfl)
theorem mc_149 : Cond.fieldLink RX11 16 "AheadStoreModel" "unclean" "[I" ∈ lw_tbl := mt_5 _ (List.mem_of_getElem? (i := 179) rfl)
theorem mc_150 : Cond.fieldLink RX11 13 "AheadStoreModel" "waiting" "[I" ∈ lw_tbl := mt_5 _ (List.mem_of_getElem? (i := 177) rfl)
theorem mc_151 : Cond.fieldLink RX11 7 "AheadStoreModel" "now" "[I" ∈ lw_tbl := mt_5 _ (List.mem_of_getElem? (i := 176) rfl)
theorem mc_152 : Cond.methodLink RX11 1 objectInit ∈ lw_tbl := mt_5 _ (List.mem_of_getElem? (i := 174) rfl)
set_option maxRecDepth 100000 in
theorem mT_wsX11_init : ∀ w ∈ wsX11_init, w ∈ lw_tbl := by
  unfold wsX11_init
  exact List.forall_mem_cons.mpr ⟨mc_140, List.forall_mem_append.mpr ⟨List.forall_mem_cons.mpr ⟨mc_152, List.forall_mem_cons.mpr ⟨mc_23, List.forall_mem_cons.mpr ⟨mc_22, List.forall_mem_cons.mpr ⟨mc_66, List.forall_mem_cons.mpr ⟨mc_151, List.forall_mem_cons.mpr ⟨mc_150, List.forall_mem_cons.mpr ⟨mc_149, List.forall_mem_cons.mpr ⟨mc_148, List.forall_mem_cons.mpr ⟨mc_147, List.forall_mem_cons.mpr ⟨mc_146, List.forall_mem_cons.mpr ⟨mc_145, List.forall_mem_cons.mpr ⟨mc_144, List.forall_mem_cons.mpr ⟨mc_143, List.forall_mem_cons.mpr ⟨mc_142, List.forall_mem_cons.mpr ⟨mc_141, fun _ h => absurd h List.not_mem_nil⟩⟩⟩⟩⟩⟩⟩⟩⟩⟩⟩⟩⟩⟩⟩, inX11⟩⟩
set_option maxRecDepth 100000 in
theorem gT_X11_init : GoodIn lw_tbl wsX11_init := goodIn_sub mT_wsX11_init (by decide +kernel)
theorem mc_153 : Cond.methodLink RL 12 yX11_init ∈ lw_tbl := mt_5 _ (List.mem_of_getElem? (i := 171) rfl)
theorem lk12_26 : Cond.methodLink RL 12 yX11_init ∈ lw_tbl := mc_153
theorem mc_154 : Cond.instanceMethod yX11_init ∈ lw_tbl := mt_5 _ (List.mem_of_getElem? (i := 172) rfl)
theorem lk12_24 : Cond.instanceMethod yX11_init ∈ lw_tbl := mc_154
theorem mc_155 : Cond.initialized RX11 ∈ lw_tbl := mt_1 _ (List.mem_of_getElem? (i := 13) rfl)
theorem lk12_16 : Cond.initialized RX11 ∈ lw_tbl := mc_155
theorem mc_156 : Cond.code yX10_frames cX10_frames 2 (some .boolean) ∈ lw_tbl := mt_2 _ (List.mem_of_getElem? (i := 140) rfl)
theorem mc_157 : Cond.code yX3_holdsAny cX3_holdsAny 2 (some .boolean) ∈ lw_tbl := mt_2 _ (List.mem_of_getElem? (i := 144) rfl)
theorem mc_158 : Cond.selects RX3 yX3_holdsAny yX3_holdsAny ∈ lw_tbl := mt_2 _ (List.mem_of_getElem? (i := 143) rfl)
theorem mc_159 : Cond.instanceMethod yX3_holdsAny ∈ lw_tbl := mt_2 _ (List.mem_of_getElem? (i := 142) rfl)
theorem mc_160 : Cond.methodLink RX10 45 yX3_holdsAny ∈ lw_tbl := mt_2 _ (List.mem_of_getElem? (i := 141) rfl)
theorem mc_161 : Cond.fieldLink RX10 51 "AheadStore$Pages" "frameCount" "I" ∈ lw_tbl := mt_1 _ (List.mem_of_getElem? (i := 81) rfl)
theorem mc_162 : Cond.fieldLink RX10 41 "AheadStore$World" "pages" "LAheadStore$Pages;" ∈ lw_tbl := mt_1 _ (List.mem_of_getElem? (i := 227) rfl)
theorem mc_163 : Cond.fieldLink RX10 37 "AheadStore$World" "up" "Z" ∈ lw_tbl := mt_2 _ (List.mem_of_getElem? (i := 0) rfl)
set_option maxRecDepth 100000 in
theorem mT_wsX10_frames : ∀ w ∈ wsX10_frames, w ∈ lw_tbl := by
  unfold wsX10_frames
  exact List.forall_mem_cons.mpr ⟨mc_156, List.forall_mem_append.mpr ⟨List.forall_mem_append.mpr ⟨List.forall_mem_append.mpr ⟨List.forall_mem_cons.mpr ⟨mc_18, List.forall_mem_cons.mpr ⟨mc_163, List.forall_mem_cons.mpr ⟨mc_162, List.forall_mem_cons.mpr ⟨mc_161, List.forall_mem_cons.mpr ⟨mc_160, List.forall_mem_cons.mpr ⟨mc_159, List.forall_mem_cons.mpr ⟨mc_158, List.forall_mem_cons.mpr ⟨mc_44, List.forall_mem_cons.mpr ⟨mc_157, List.forall_mem_cons.mpr ⟨mc_51, fun _ h => absurd h List.not_mem_nil⟩⟩⟩⟩⟩⟩⟩⟩⟩⟩, inX10⟩, inX9⟩, inX3⟩⟩
theorem mc_164 : Cond.selects RX10 yX10_frames yX10_frames ∈ lw_tbl := mt_2 _ (List.mem_of_getElem? (i := 139) rfl)
theorem mc_165 : Cond.instanceMethod yX10_frames ∈ lw_tbl := mt_2 _ (List.mem_of_getElem? (i := 138) rfl)
theorem mc_166 : Cond.methodLink RL 13 yX10_frames ∈ lw_tbl := mt_2 _ (List.mem_of_getElem? (i := 137) rfl)
set_option maxRecDepth 100000 in
theorem gT_X10_frames : GoodIn lw_tbl (wsV RL 13 RX10 yX10_frames wsX10_frames) := goodIn_sub (List.forall_mem_append.mpr ⟨List.forall_mem_cons.mpr ⟨mc_166, List.forall_mem_cons.mpr ⟨mc_165, List.forall_mem_cons.mpr ⟨mc_164, List.forall_mem_cons.mpr ⟨mc_139, fun _ h => absurd h List.not_mem_nil⟩⟩⟩⟩, mT_wsX10_frames⟩) (by decide +kernel)
theorem mc_167 : Cond.code yX11_frames cX11_frames 3 (some .boolean) ∈ lw_tbl := mt_7 _ (List.mem_of_getElem? (i := 27) rfl)
theorem mc_168 : Cond.code yX11_frameAt cX11_frameAt 2 (some .int) ∈ lw_tbl := mt_6 _ (List.mem_of_getElem? (i := 83) rfl)
theorem mc_169 : Cond.selects RX11 yX11_frameAt yX11_frameAt ∈ lw_tbl := List.mem_append_left _ (List.mem_map.mpr ⟨(yX11_frameAt, 28), List.mem_of_getElem? (i := 39) rfl, rfl⟩)
theorem mc_170 : Cond.instanceMethod yX11_frameAt ∈ lw_tbl := mt_6 _ (List.mem_of_getElem? (i := 82) rfl)
theorem mc_171 : Cond.methodLink RX11 62 yX11_frameAt ∈ lw_tbl := mt_6 _ (List.mem_of_getElem? (i := 80) rfl)
theorem mc_172 : Cond.code yX11_frameMany cX11_frameMany 1 (some .int) ∈ lw_tbl := mt_6 _ (List.mem_of_getElem? (i := 79) rfl)
theorem mc_173 : Cond.selects RX11 yX11_frameMany yX11_frameMany ∈ lw_tbl := List.mem_append_left _ (List.mem_map.mpr ⟨(yX11_frameMany, 28), List.mem_of_getElem? (i := 38) rfl, rfl⟩)
theorem mc_174 : Cond.instanceMethod yX11_frameMany ∈ lw_tbl := mt_6 _ (List.mem_of_getElem? (i := 78) rfl)
theorem mc_175 : Cond.methodLink RX11 59 yX11_frameMany ∈ lw_tbl := mt_6 _ (List.mem_of_getElem? (i := 76) rfl)
theorem mc_176 : Cond.code yX11_isIn cX11_isIn 4 (some .boolean) ∈ lw_tbl := mt_6 _ (List.mem_of_getElem? (i := 35) rfl)
theorem mc_177 : Cond.selects RX11 yX11_isIn yX11_isIn ∈ lw_tbl := List.mem_append_left _ (List.mem_map.mpr ⟨(yX11_isIn, 28), List.mem_of_getElem? (i := 27) rfl, rfl⟩)
theorem mc_178 : Cond.instanceMethod yX11_isIn ∈ lw_tbl := mt_6 _ (List.mem_of_getElem? (i := 34) rfl)
theorem mc_179 : Cond.methodLink RX11 110 yX11_isIn ∈ lw_tbl := mt_6 _ (List.mem_of_getElem? (i := 32) rfl)
theorem mc_180 : Cond.code yX11_isUp cX11_isUp 1 (some .boolean) ∈ lw_tbl := mt_6 _ (List.mem_of_getElem? (i := 31) rfl)
theorem mc_181 : Cond.selects RX11 yX11_isUp yX11_isUp ∈ lw_tbl := List.mem_append_left _ (List.mem_map.mpr ⟨(yX11_isUp, 28), List.mem_of_getElem? (i := 26) rfl, rfl⟩)
theorem mc_182 : Cond.instanceMethod yX11_isUp ∈ lw_tbl := mt_6 _ (List.mem_of_getElem? (i := 30) rfl)
theorem mc_183 : Cond.methodLink RX11 124 yX11_isUp ∈ lw_tbl := mt_6 _ (List.mem_of_getElem? (i := 28) rfl)
theorem mc_184 : Cond.fieldLink RX11 44 "AheadStoreModel" "told" "I" ∈ lw_tbl := mt_5 _ (List.mem_of_getElem? (i := 175) rfl)
set_option maxRecDepth 100000 in
theorem mT_wsX11_frames : ∀ w ∈ wsX11_frames, w ∈ lw_tbl := by
  unfold wsX11_frames
  exact List.forall_mem_cons.mpr ⟨mc_167, List.forall_mem_append.mpr ⟨List.forall_mem_cons.mpr ⟨mc_184, List.forall_mem_cons.mpr ⟨mc_151, List.forall_mem_cons.mpr ⟨mc_183, List.forall_mem_cons.mpr ⟨mc_182, List.forall_mem_cons.mpr ⟨mc_181, List.forall_mem_cons.mpr ⟨mc_155, List.forall_mem_cons.mpr ⟨mc_180, List.forall_mem_cons.mpr ⟨mc_179, List.forall_mem_cons.mpr ⟨mc_178, List.forall_mem_cons.mpr ⟨mc_177, List.forall_mem_cons.mpr ⟨mc_176, List.forall_mem_cons.mpr ⟨mc_175, List.forall_mem_cons.mpr ⟨mc_174, List.forall_mem_cons.mpr ⟨mc_173, List.forall_mem_cons.mpr ⟨mc_172, List.forall_mem_cons.mpr ⟨mc_171, List.forall_mem_cons.mpr ⟨mc_170, List.forall_mem_cons.mpr ⟨mc_169, List.forall_mem_cons.mpr ⟨mc_168, fun _ h => absurd h List.not_mem_nil⟩⟩⟩⟩⟩⟩⟩⟩⟩⟩⟩⟩⟩⟩⟩⟩⟩⟩⟩, inX11⟩⟩
theorem mc_185 : Cond.selects RX11 yX11_frames yX11_frames ∈ lw_tbl := mt_7 _ (List.mem_of_getElem? (i := 26) rfl)
theorem mc_186 : Cond.instanceMethod yX11_frames ∈ lw_tbl := mt_7 _ (List.mem_of_getElem? (i := 25) rfl)
theorem mc_187 : Cond.methodLink RL 17 yX11_frames ∈ lw_tbl := mt_7 _ (List.mem_of_getElem? (i := 24) rfl)
set_option maxRecDepth 100000 in
theorem gT_X11_frames : GoodIn lw_tbl (wsV RL 17 RX11 yX11_frames wsX11_frames) := goodIn_sub (List.forall_mem_append.mpr ⟨List.forall_mem_cons.mpr ⟨mc_187, List.forall_mem_cons.mpr ⟨mc_186, List.forall_mem_cons.mpr ⟨mc_185, List.forall_mem_cons.mpr ⟨mc_155, fun _ h => absurd h List.not_mem_nil⟩⟩⟩⟩, mT_wsX11_frames⟩) (by decide +kernel)
theorem mc_188 : Cond.code yX10_act cX10_act 3 (some .boolean) ∈ lw_tbl := mt_2 _ (List.mem_of_getElem? (i := 148) rfl)
theorem mc_189 : Cond.methodLink RX9 88 yX2_start ∈ lw_tbl := mt_2 _ (List.mem_of_getElem? (i := 164) rfl)
theorem mc_190 : Cond.fieldLink RX9 85 "AheadStore$Roster" "last" "[I" ∈ lw_tbl := mt_1 _ (List.mem_of_getElem? (i := 128) rfl)
theorem mc_191 : Cond.code yX9_note cX9_note 3 (some .int) ∈ lw_tbl := mt_2 _ (List.mem_of_getElem? (i := 163) rfl)
theorem mc_192 : Cond.selects RX9 yX9_note yX9_note ∈ lw_tbl := mt_2 _ (List.mem_of_getElem? (i := 162) rfl)
theorem mc_193 : Cond.instanceMethod yX9_note ∈ lw_tbl := mt_2 _ (List.mem_of_getElem? (i := 161) rfl)
theorem mc_194 : Cond.methodLink RX9 96 yX9_note ∈ lw_tbl := mt_2 _ (List.mem_of_getElem? (i := 160) rfl)
theorem mc_195 : Cond.fieldLink RX9 70 "AheadStore$Journal" "endPlace" "I" ∈ lw_tbl := mt_1 _ (List.mem_of_getElem? (i := 43) rfl)
theorem mc_196 : Cond.code yX9_isFull cX9_isFull 1 (some .boolean) ∈ lw_tbl := mt_2 _ (List.mem_of_getElem? (i := 159) rfl)
theorem mc_197 : Cond.selects RX9 yX9_isFull yX9_isFull ∈ lw_tbl := List.mem_append_left _ (List.mem_map.mpr ⟨(yX9_isFull, 11), List.mem_of_getElem? (i := 0) rfl, rfl⟩)
theorem mc_198 : Cond.instanceMethod yX9_isFull ∈ lw_tbl := mt_2 _ (List.mem_of_getElem? (i := 158) rfl)
theorem mc_199 : Cond.methodLink RX9 107 yX9_isFull ∈ lw_tbl := mt_2 _ (List.mem_of_getElem? (i := 156) rfl)
theorem mc_200 : Cond.code yX10_isParty cX10_isParty 1 (some .boolean) ∈ lw_tbl := mt_2 _ (List.mem_of_getElem? (i := 155) rfl)
theorem mc_201 : Cond.static yX10_isParty ∈ lw_tbl := mt_2 _ (List.mem_of_getElem? (i := 154) rfl)
theorem mc_202 : Cond.fieldLink RX9 77 "AheadStore$Roster" "is" "[I" ∈ lw_tbl := mt_1 _ (List.mem_of_getElem? (i := 124) rfl)
theorem mc_203 : Cond.code yX9_begin cX9_begin 2 (some .boolean) ∈ lw_tbl := mt_2 _ (List.mem_of_getElem? (i := 152) rfl)
theorem mc_204 : Cond.selects RX9 yX9_begin yX9_begin ∈ lw_tbl := mt_2 _ (List.mem_of_getElem? (i := 151) rfl)
theorem mc_205 : Cond.instanceMethod yX9_begin ∈ lw_tbl := mt_2 _ (List.mem_of_getElem? (i := 150) rfl)
theorem mc_206 : Cond.methodLink RX10 55 yX9_begin ∈ lw_tbl := mt_2 _ (List.mem_of_getElem? (i := 149) rfl)
set_option maxRecDepth 100000 in
theorem mT_wsX10_act_r1 : ∀ w ∈ wsX10_act_r1, w ∈ lw_tbl := by
  unfold wsX10_act_r1
  exact List.forall_mem_cons.mpr ⟨mc_18, List.forall_mem_cons.mpr ⟨mc_206, List.forall_mem_cons.mpr ⟨mc_205, List.forall_mem_cons.mpr ⟨mc_204, List.forall_mem_cons.mpr ⟨mc_19, List.forall_mem_cons.mpr ⟨mc_203, List.forall_mem_cons.mpr ⟨mc_26, List.forall_mem_cons.mpr ⟨mc_39, List.forall_mem_cons.mpr ⟨mc_202, List.forall_mem_cons.mpr ⟨mc_201, List.forall_mem_cons.mpr ⟨mc_139, List.forall_mem_cons.mpr ⟨mc_200, List.forall_mem_cons.mpr ⟨mc_199, List.forall_mem_cons.mpr ⟨mc_198, List.forall_mem_cons.mpr ⟨mc_197, List.forall_mem_cons.mpr ⟨mc_196, List.forall_mem_cons.mpr ⟨mc_47, List.forall_mem_cons.mpr ⟨mc_195, List.forall_mem_cons.mpr ⟨mc_194, List.forall_mem_cons.mpr ⟨mc_193, List.forall_mem_cons.mpr ⟨mc_192, List.forall_mem_cons.mpr ⟨mc_191, List.forall_mem_cons.mpr ⟨mc_190, List.forall_mem_cons.mpr ⟨mc_189, fun _ h => absurd h List.not_mem_nil⟩⟩⟩⟩⟩⟩⟩⟩⟩⟩⟩⟩⟩⟩⟩⟩⟩⟩⟩⟩⟩⟩⟩⟩
theorem mc_207 : Cond.code yX9_commit cX9_commit 2 (some .boolean) ∈ lw_tbl := mt_2 _ (List.mem_of_getElem? (i := 183) rfl)
theorem mc_208 : Cond.selects RX9 yX9_commit yX9_commit ∈ lw_tbl := mt_2 _ (List.mem_of_getElem? (i := 182) rfl)
theorem mc_209 : Cond.instanceMethod yX9_commit ∈ lw_tbl := mt_2 _ (List.mem_of_getElem? (i := 181) rfl)
theorem mc_210 : Cond.methodLink RX10 59 yX9_commit ∈ lw_tbl := mt_2 _ (List.mem_of_getElem? (i := 180) rfl)
theorem mc_211 : Cond.code yX2_seal cX2_seal 4 (some .int) ∈ lw_tbl := mt_2 _ (List.mem_of_getElem? (i := 179) rfl)
theorem mc_212 : Cond.selects RX2 yX2_seal yX2_seal ∈ lw_tbl := mt_2 _ (List.mem_of_getElem? (i := 178) rfl)
theorem mc_213 : Cond.instanceMethod yX2_seal ∈ lw_tbl := mt_2 _ (List.mem_of_getElem? (i := 177) rfl)
theorem mc_214 : Cond.methodLink RX9 81 yX2_seal ∈ lw_tbl := mt_2 _ (List.mem_of_getElem? (i := 176) rfl)
theorem mc_215 : Cond.code yX9_finish cX9_finish 3 (some .int) ∈ lw_tbl := mt_2 _ (List.mem_of_getElem? (i := 175) rfl)
theorem mc_216 : Cond.selects RX9 yX9_finish yX9_finish ∈ lw_tbl := List.mem_append_left _ (List.mem_map.mpr ⟨(yX9_finish, 11), List.mem_of_getElem? (i := 1) rfl, rfl⟩)
theorem mc_217 : Cond.instanceMethod yX9_finish ∈ lw_tbl := mt_2 _ (List.mem_of_getElem? (i := 174) rfl)
theorem mc_218 : Cond.methodLink RX9 92 yX9_finish ∈ lw_tbl := mt_2 _ (List.mem_of_getElem? (i := 172) rfl)
theorem mc_219 : Cond.code yX2_put cX2_put 2 none ∈ lw_tbl := mt_2 _ (List.mem_of_getElem? (i := 171) rfl)
theorem mc_220 : Cond.selects RX2 yX2_put yX2_put ∈ lw_tbl := mt_2 _ (List.mem_of_getElem? (i := 170) rfl)
theorem mc_221 : Cond.instanceMethod yX2_put ∈ lw_tbl := mt_2 _ (List.mem_of_getElem? (i := 169) rfl)
theorem mc_222 : Cond.methodLink RX2 58 yX2_put ∈ lw_tbl := mt_2 _ (List.mem_of_getElem? (i := 168) rfl)
theorem mc_223 : Cond.code yX2_start cX2_start 4 none ∈ lw_tbl := mt_2 _ (List.mem_of_getElem? (i := 167) rfl)
theorem mc_224 : Cond.selects RX2 yX2_start yX2_start ∈ lw_tbl := mt_2 _ (List.mem_of_getElem? (i := 166) rfl)
theorem mc_225 : Cond.instanceMethod yX2_start ∈ lw_tbl := mt_2 _ (List.mem_of_getElem? (i := 165) rfl)
set_option maxRecDepth 100000 in
theorem mT_wsX10_act_r2 : ∀ w ∈ wsX10_act_r2, w ∈ lw_tbl := by
  unfold wsX10_act_r2
  exact List.forall_mem_cons.mpr ⟨mc_225, List.forall_mem_cons.mpr ⟨mc_224, List.forall_mem_cons.mpr ⟨mc_48, List.forall_mem_cons.mpr ⟨mc_223, List.forall_mem_cons.mpr ⟨mc_64, List.forall_mem_cons.mpr ⟨mc_62, List.forall_mem_cons.mpr ⟨mc_222, List.forall_mem_cons.mpr ⟨mc_221, List.forall_mem_cons.mpr ⟨mc_220, List.forall_mem_cons.mpr ⟨mc_219, List.forall_mem_cons.mpr ⟨mc_65, List.forall_mem_cons.mpr ⟨mc_218, List.forall_mem_cons.mpr ⟨mc_217, List.forall_mem_cons.mpr ⟨mc_216, List.forall_mem_cons.mpr ⟨mc_215, List.forall_mem_cons.mpr ⟨mc_214, List.forall_mem_cons.mpr ⟨mc_213, List.forall_mem_cons.mpr ⟨mc_212, List.forall_mem_cons.mpr ⟨mc_211, List.forall_mem_cons.mpr ⟨mc_210, List.forall_mem_cons.mpr ⟨mc_209, List.forall_mem_cons.mpr ⟨mc_208, List.forall_mem_cons.mpr ⟨mc_207, List.forall_mem_cons.mpr ⟨mc_35, fun _ h => absurd h List.not_mem_nil⟩⟩⟩⟩⟩⟩⟩⟩⟩⟩⟩⟩⟩⟩⟩⟩⟩⟩⟩⟩⟩⟩⟩⟩
theorem mc_226 : Cond.code yX5_remove cX5_remove 2 none ∈ lw_tbl := mt_2 _ (List.mem_of_getElem? (i := 203) rfl)
theorem mc_227 : Cond.selects RX5 yX5_remove yX5_remove ∈ lw_tbl := mt_2 _ (List.mem_of_getElem? (i := 202) rfl)
theorem mc_228 : Cond.instanceMethod yX5_remove ∈ lw_tbl := mt_2 _ (List.mem_of_getElem? (i := 201) rfl)
theorem mc_229 : Cond.methodLink RX9 100 yX5_remove ∈ lw_tbl := mt_2 _ (List.mem_of_getElem? (i := 200) rfl)
theorem mc_230 : Cond.code yX9_endOf cX9_endOf 2 none ∈ lw_tbl := mt_2 _ (List.mem_of_getElem? (i := 199) rfl)
theorem mc_231 : Cond.selects RX9 yX9_endOf yX9_endOf ∈ lw_tbl := mt_2 _ (List.mem_of_getElem? (i := 198) rfl)
theorem mc_232 : Cond.instanceMethod yX9_endOf ∈ lw_tbl := mt_2 _ (List.mem_of_getElem? (i := 197) rfl)
theorem mc_233 : Cond.methodLink RX9 120 yX9_endOf ∈ lw_tbl := mt_2 _ (List.mem_of_getElem? (i := 196) rfl)
theorem mc_234 : Cond.code yX2_byteAt cX2_byteAt 2 (some .int) ∈ lw_tbl := mt_2 _ (List.mem_of_getElem? (i := 195) rfl)
theorem mc_235 : Cond.selects RX2 yX2_byteAt yX2_byteAt ∈ lw_tbl := mt_2 _ (List.mem_of_getElem? (i := 194) rfl)
theorem mc_236 : Cond.instanceMethod yX2_byteAt ∈ lw_tbl := mt_2 _ (List.mem_of_getElem? (i := 193) rfl)
theorem mc_237 : Cond.methodLink RX2 25 yX2_byteAt ∈ lw_tbl := mt_2 _ (List.mem_of_getElem? (i := 192) rfl)
theorem mc_238 : Cond.code yX2_flushThrough cX2_flushThrough 3 none ∈ lw_tbl := mt_2 _ (List.mem_of_getElem? (i := 191) rfl)
theorem mc_239 : Cond.selects RX2 yX2_flushThrough yX2_flushThrough ∈ lw_tbl := mt_2 _ (List.mem_of_getElem? (i := 190) rfl)
theorem mc_240 : Cond.instanceMethod yX2_flushThrough ∈ lw_tbl := mt_2 _ (List.mem_of_getElem? (i := 189) rfl)
theorem mc_241 : Cond.methodLink RX9 117 yX2_flushThrough ∈ lw_tbl := mt_2 _ (List.mem_of_getElem? (i := 188) rfl)
theorem mc_242 : Cond.code yX9_isRunning cX9_isRunning 2 (some .boolean) ∈ lw_tbl := mt_2 _ (List.mem_of_getElem? (i := 187) rfl)
theorem mc_243 : Cond.selects RX9 yX9_isRunning yX9_isRunning ∈ lw_tbl := List.mem_append_left _ (List.mem_map.mpr ⟨(yX9_isRunning, 11), List.mem_of_getElem? (i := 2) rfl, rfl⟩)
theorem mc_244 : Cond.instanceMethod yX9_isRunning ∈ lw_tbl := mt_2 _ (List.mem_of_getElem? (i := 186) rfl)
theorem mc_245 : Cond.methodLink RX9 111 yX9_isRunning ∈ lw_tbl := mt_2 _ (List.mem_of_getElem? (i := 184) rfl)
theorem mc_246 : Cond.fieldLink RX9 114 "AheadStore$Claims" "topCount" "[I" ∈ lw_tbl := mt_1 _ (List.mem_of_getElem? (i := 159) rfl)
set_option maxRecDepth 100000 in
theorem mT_wsX10_act_r3 : ∀ w ∈ wsX10_act_r3, w ∈ lw_tbl := by
  unfold wsX10_act_r3
  exact List.forall_mem_cons.mpr ⟨mc_246, List.forall_mem_cons.mpr ⟨mc_245, List.forall_mem_cons.mpr ⟨mc_244, List.forall_mem_cons.mpr ⟨mc_243, List.forall_mem_cons.mpr ⟨mc_242, List.forall_mem_cons.mpr ⟨mc_241, List.forall_mem_cons.mpr ⟨mc_240, List.forall_mem_cons.mpr ⟨mc_239, List.forall_mem_cons.mpr ⟨mc_238, List.forall_mem_cons.mpr ⟨mc_63, List.forall_mem_cons.mpr ⟨mc_237, List.forall_mem_cons.mpr ⟨mc_236, List.forall_mem_cons.mpr ⟨mc_235, List.forall_mem_cons.mpr ⟨mc_234, List.forall_mem_cons.mpr ⟨mc_233, List.forall_mem_cons.mpr ⟨mc_232, List.forall_mem_cons.mpr ⟨mc_231, List.forall_mem_cons.mpr ⟨mc_230, List.forall_mem_cons.mpr ⟨mc_229, List.forall_mem_cons.mpr ⟨mc_228, List.forall_mem_cons.mpr ⟨mc_227, List.forall_mem_cons.mpr ⟨mc_40, List.forall_mem_cons.mpr ⟨mc_226, List.forall_mem_cons.mpr ⟨mc_86, fun _ h => absurd h List.not_mem_nil⟩⟩⟩⟩⟩⟩⟩⟩⟩⟩⟩⟩⟩⟩⟩⟩⟩⟩⟩⟩⟩⟩⟩⟩
theorem mc_247 : Cond.methodLink RX10 65 yX9_openTop ∈ lw_tbl := mt_2 _ (List.mem_of_getElem? (i := 217) rfl)
theorem mc_248 : Cond.methodLink RX9 126 yX0_dropMarks ∈ lw_tbl := mt_2 _ (List.mem_of_getElem? (i := 216) rfl)
theorem mc_249 : Cond.fieldLink RX9 129 "AheadStore$Claims" "waits" "[I" ∈ lw_tbl := mt_1 _ (List.mem_of_getElem? (i := 153) rfl)
theorem mc_250 : Cond.fieldLink RX9 123 "AheadStore$Roster" "cursor" "[I" ∈ lw_tbl := mt_1 _ (List.mem_of_getElem? (i := 133) rfl)
theorem mc_251 : Cond.code yX9_abort cX9_abort 2 (some .boolean) ∈ lw_tbl := mt_2 _ (List.mem_of_getElem? (i := 215) rfl)
theorem mc_252 : Cond.selects RX9 yX9_abort yX9_abort ∈ lw_tbl := mt_2 _ (List.mem_of_getElem? (i := 214) rfl)
theorem mc_253 : Cond.instanceMethod yX9_abort ∈ lw_tbl := mt_2 _ (List.mem_of_getElem? (i := 213) rfl)
theorem mc_254 : Cond.methodLink RX10 62 yX9_abort ∈ lw_tbl := mt_2 _ (List.mem_of_getElem? (i := 212) rfl)
theorem mc_255 : Cond.code yX0_dropMarks cX0_dropMarks 2 none ∈ lw_tbl := mt_2 _ (List.mem_of_getElem? (i := 211) rfl)
theorem mc_256 : Cond.selects RX0 yX0_dropMarks yX0_dropMarks ∈ lw_tbl := mt_2 _ (List.mem_of_getElem? (i := 210) rfl)
theorem mc_257 : Cond.instanceMethod yX0_dropMarks ∈ lw_tbl := mt_2 _ (List.mem_of_getElem? (i := 209) rfl)
theorem mc_258 : Cond.methodLink RX0 37 yX0_dropMarks ∈ lw_tbl := mt_2 _ (List.mem_of_getElem? (i := 208) rfl)
theorem mc_259 : Cond.code yX0_forget cX0_forget 4 none ∈ lw_tbl := mt_2 _ (List.mem_of_getElem? (i := 207) rfl)
theorem mc_260 : Cond.selects RX0 yX0_forget yX0_forget ∈ lw_tbl := mt_2 _ (List.mem_of_getElem? (i := 206) rfl)
theorem mc_261 : Cond.instanceMethod yX0_forget ∈ lw_tbl := mt_2 _ (List.mem_of_getElem? (i := 205) rfl)
theorem mc_262 : Cond.methodLink RX9 104 yX0_forget ∈ lw_tbl := mt_2 _ (List.mem_of_getElem? (i := 204) rfl)
set_option maxRecDepth 100000 in
theorem mT_wsX10_act_r4 : ∀ w ∈ wsX10_act_r4, w ∈ lw_tbl := by
  unfold wsX10_act_r4
  exact List.forall_mem_cons.mpr ⟨mc_85, List.forall_mem_cons.mpr ⟨mc_84, List.forall_mem_cons.mpr ⟨mc_262, List.forall_mem_cons.mpr ⟨mc_261, List.forall_mem_cons.mpr ⟨mc_260, List.forall_mem_cons.mpr ⟨mc_36, List.forall_mem_cons.mpr ⟨mc_259, List.forall_mem_cons.mpr ⟨mc_78, List.forall_mem_cons.mpr ⟨mc_80, List.forall_mem_cons.mpr ⟨mc_79, List.forall_mem_cons.mpr ⟨mc_258, List.forall_mem_cons.mpr ⟨mc_257, List.forall_mem_cons.mpr ⟨mc_256, List.forall_mem_cons.mpr ⟨mc_255, List.forall_mem_cons.mpr ⟨mc_77, List.forall_mem_cons.mpr ⟨mc_76, List.forall_mem_cons.mpr ⟨mc_254, List.forall_mem_cons.mpr ⟨mc_253, List.forall_mem_cons.mpr ⟨mc_252, List.forall_mem_cons.mpr ⟨mc_251, List.forall_mem_cons.mpr ⟨mc_250, List.forall_mem_cons.mpr ⟨mc_249, List.forall_mem_cons.mpr ⟨mc_248, List.forall_mem_cons.mpr ⟨mc_247, fun _ h => absurd h List.not_mem_nil⟩⟩⟩⟩⟩⟩⟩⟩⟩⟩⟩⟩⟩⟩⟩⟩⟩⟩⟩⟩⟩⟩⟩⟩
theorem mc_263 : Cond.code yX2_putPair cX2_putPair 2 none ∈ lw_tbl := mt_2 _ (List.mem_of_getElem? (i := 236) rfl)
theorem mc_264 : Cond.selects RX2 yX2_putPair yX2_putPair ∈ lw_tbl := mt_2 _ (List.mem_of_getElem? (i := 235) rfl)
theorem mc_265 : Cond.instanceMethod yX2_putPair ∈ lw_tbl := mt_2 _ (List.mem_of_getElem? (i := 234) rfl)
theorem mc_266 : Cond.methodLink RX9 139 yX2_putPair ∈ lw_tbl := mt_2 _ (List.mem_of_getElem? (i := 233) rfl)
theorem mc_267 : Cond.code yX0_takeTop cX0_takeTop 2 (some .int) ∈ lw_tbl := mt_2 _ (List.mem_of_getElem? (i := 232) rfl)
theorem mc_268 : Cond.selects RX0 yX0_takeTop yX0_takeTop ∈ lw_tbl := mt_2 _ (List.mem_of_getElem? (i := 231) rfl)
theorem mc_269 : Cond.instanceMethod yX0_takeTop ∈ lw_tbl := mt_2 _ (List.mem_of_getElem? (i := 230) rfl)
theorem mc_270 : Cond.methodLink RX9 136 yX0_takeTop ∈ lw_tbl := mt_2 _ (List.mem_of_getElem? (i := 229) rfl)
theorem mc_271 : Cond.code yX9_closeTop cX9_closeTop 2 (some .boolean) ∈ lw_tbl := mt_2 _ (List.mem_of_getElem? (i := 228) rfl)
theorem mc_272 : Cond.selects RX9 yX9_closeTop yX9_closeTop ∈ lw_tbl := mt_2 _ (List.mem_of_getElem? (i := 227) rfl)
theorem mc_273 : Cond.instanceMethod yX9_closeTop ∈ lw_tbl := mt_2 _ (List.mem_of_getElem? (i := 226) rfl)
theorem mc_274 : Cond.methodLink RX10 68 yX9_closeTop ∈ lw_tbl := mt_2 _ (List.mem_of_getElem? (i := 225) rfl)
theorem mc_275 : Cond.code yX0_putTop cX0_putTop 3 (some .boolean) ∈ lw_tbl := mt_2 _ (List.mem_of_getElem? (i := 224) rfl)
theorem mc_276 : Cond.selects RX0 yX0_putTop yX0_putTop ∈ lw_tbl := mt_2 _ (List.mem_of_getElem? (i := 223) rfl)
theorem mc_277 : Cond.instanceMethod yX0_putTop ∈ lw_tbl := mt_2 _ (List.mem_of_getElem? (i := 222) rfl)
theorem mc_278 : Cond.methodLink RX9 132 yX0_putTop ∈ lw_tbl := mt_2 _ (List.mem_of_getElem? (i := 221) rfl)
theorem mc_279 : Cond.code yX9_openTop cX9_openTop 2 (some .boolean) ∈ lw_tbl := mt_2 _ (List.mem_of_getElem? (i := 220) rfl)
theorem mc_280 : Cond.selects RX9 yX9_openTop yX9_openTop ∈ lw_tbl := mt_2 _ (List.mem_of_getElem? (i := 219) rfl)
theorem mc_281 : Cond.instanceMethod yX9_openTop ∈ lw_tbl := mt_2 _ (List.mem_of_getElem? (i := 218) rfl)
set_option maxRecDepth 100000 in
theorem mT_wsX10_act_r5 : ∀ w ∈ wsX10_act_r5, w ∈ lw_tbl := by
  unfold wsX10_act_r5
  exact List.forall_mem_cons.mpr ⟨mc_281, List.forall_mem_cons.mpr ⟨mc_280, List.forall_mem_cons.mpr ⟨mc_279, List.forall_mem_cons.mpr ⟨mc_278, List.forall_mem_cons.mpr ⟨mc_277, List.forall_mem_cons.mpr ⟨mc_276, List.forall_mem_cons.mpr ⟨mc_275, List.forall_mem_cons.mpr ⟨mc_74, List.forall_mem_cons.mpr ⟨mc_274, List.forall_mem_cons.mpr ⟨mc_273, List.forall_mem_cons.mpr ⟨mc_272, List.forall_mem_cons.mpr ⟨mc_271, List.forall_mem_cons.mpr ⟨mc_270, List.forall_mem_cons.mpr ⟨mc_269, List.forall_mem_cons.mpr ⟨mc_268, List.forall_mem_cons.mpr ⟨mc_267, List.forall_mem_cons.mpr ⟨mc_266, List.forall_mem_cons.mpr ⟨mc_265, List.forall_mem_cons.mpr ⟨mc_264, List.forall_mem_cons.mpr ⟨mc_263, fun _ h => absurd h List.not_mem_nil⟩⟩⟩⟩⟩⟩⟩⟩⟩⟩⟩⟩⟩⟩⟩⟩⟩⟩⟩⟩
set_option maxRecDepth 100000 in
theorem mT_wsX10_act : ∀ w ∈ wsX10_act, w ∈ lw_tbl := by
  unfold wsX10_act
  exact List.forall_mem_cons.mpr ⟨mc_188, List.forall_mem_append.mpr ⟨List.forall_mem_append.mpr ⟨List.forall_mem_append.mpr ⟨List.forall_mem_append.mpr ⟨List.forall_mem_append.mpr ⟨List.forall_mem_append.mpr ⟨mT_wsX10_act_r1, List.forall_mem_append.mpr ⟨mT_wsX10_act_r2, List.forall_mem_append.mpr ⟨mT_wsX10_act_r3, List.forall_mem_append.mpr ⟨mT_wsX10_act_r4, mT_wsX10_act_r5⟩⟩⟩⟩, inX10⟩, inX9⟩, inX5⟩, inX2⟩, inX0⟩⟩
theorem mc_282 : Cond.selects RX10 yX10_act yX10_act ∈ lw_tbl := mt_2 _ (List.mem_of_getElem? (i := 147) rfl)
theorem mc_283 : Cond.instanceMethod yX10_act ∈ lw_tbl := mt_2 _ (List.mem_of_getElem? (i := 146) rfl)
theorem mc_284 : Cond.methodLink RL 18 yX10_act ∈ lw_tbl := mt_2 _ (List.mem_of_getElem? (i := 145) rfl)
set_option maxRecDepth 100000 in
theorem gT_X10_act : GoodIn lw_tbl (wsV RL 18 RX10 yX10_act wsX10_act) := goodIn_sub (List.forall_mem_append.mpr ⟨List.forall_mem_cons.mpr ⟨mc_284, List.forall_mem_cons.mpr ⟨mc_283, List.forall_mem_cons.mpr ⟨mc_282, List.forall_mem_cons.mpr ⟨mc_139, fun _ h => absurd h List.not_mem_nil⟩⟩⟩⟩, mT_wsX10_act⟩) (by decide +kernel)
theorem mc_285 : Cond.code yX11_act cX11_act 3 (some .boolean) ∈ lw_tbl := mt_6 _ (List.mem_of_getElem? (i := 175) rfl)
theorem mc_286 : Cond.methodLink RX11 51 yX11_txAt ∈ lw_tbl := mt_6 _ (List.mem_of_getElem? (i := 40) rfl)
theorem mc_287 : Cond.code yX11_isOf cX11_isOf 2 (some .int) ∈ lw_tbl := mt_6 _ (List.mem_of_getElem? (i := 39) rfl)
theorem mc_288 : Cond.selects RX11 yX11_isOf yX11_isOf ∈ lw_tbl := List.mem_append_left _ (List.mem_map.mpr ⟨(yX11_isOf, 28), List.mem_of_getElem? (i := 28) rfl, rfl⟩)
theorem mc_289 : Cond.instanceMethod yX11_isOf ∈ lw_tbl := mt_6 _ (List.mem_of_getElem? (i := 38) rfl)
theorem mc_290 : Cond.methodLink RX11 128 yX11_isOf ∈ lw_tbl := mt_6 _ (List.mem_of_getElem? (i := 36) rfl)
theorem mc_291 : Cond.code yX11_canGo cX11_canGo 3 (some .boolean) ∈ lw_tbl := mt_6 _ (List.mem_of_getElem? (i := 27) rfl)
theorem mc_292 : Cond.selects RX11 yX11_canGo yX11_canGo ∈ lw_tbl := List.mem_append_left _ (List.mem_map.mpr ⟨(yX11_canGo, 28), List.mem_of_getElem? (i := 25) rfl, rfl⟩)
theorem mc_293 : Cond.instanceMethod yX11_canGo ∈ lw_tbl := mt_6 _ (List.mem_of_getElem? (i := 26) rfl)
theorem mc_294 : Cond.methodLink RX11 141 yX11_canGo ∈ lw_tbl := mt_6 _ (List.mem_of_getElem? (i := 24) rfl)
theorem mc_295 : Cond.code yX11_begins cX11_begins 2 (some .boolean) ∈ lw_tbl := mt_6 _ (List.mem_of_getElem? (i := 179) rfl)
theorem mc_296 : Cond.selects RX11 yX11_begins yX11_begins ∈ lw_tbl := List.mem_append_left _ (List.mem_map.mpr ⟨(yX11_begins, 28), List.mem_of_getElem? (i := 59) rfl, rfl⟩)
theorem mc_297 : Cond.instanceMethod yX11_begins ∈ lw_tbl := mt_6 _ (List.mem_of_getElem? (i := 178) rfl)
theorem mc_298 : Cond.methodLink RX11 176 yX11_begins ∈ lw_tbl := mt_6 _ (List.mem_of_getElem? (i := 176) rfl)
set_option maxRecDepth 100000 in
theorem mT_wsX11_act_r1 : ∀ w ∈ wsX11_act_r1, w ∈ lw_tbl := by
  unfold wsX11_act_r1
  exact List.forall_mem_cons.mpr ⟨mc_184, List.forall_mem_cons.mpr ⟨mc_298, List.forall_mem_cons.mpr ⟨mc_297, List.forall_mem_cons.mpr ⟨mc_296, List.forall_mem_cons.mpr ⟨mc_155, List.forall_mem_cons.mpr ⟨mc_295, List.forall_mem_cons.mpr ⟨mc_151, List.forall_mem_cons.mpr ⟨mc_294, List.forall_mem_cons.mpr ⟨mc_293, List.forall_mem_cons.mpr ⟨mc_292, List.forall_mem_cons.mpr ⟨mc_291, List.forall_mem_cons.mpr ⟨mc_183, List.forall_mem_cons.mpr ⟨mc_182, List.forall_mem_cons.mpr ⟨mc_181, List.forall_mem_cons.mpr ⟨mc_180, List.forall_mem_cons.mpr ⟨mc_179, List.forall_mem_cons.mpr ⟨mc_178, List.forall_mem_cons.mpr ⟨mc_177, List.forall_mem_cons.mpr ⟨mc_176, List.forall_mem_cons.mpr ⟨mc_290, List.forall_mem_cons.mpr ⟨mc_289, List.forall_mem_cons.mpr ⟨mc_288, List.forall_mem_cons.mpr ⟨mc_287, List.forall_mem_cons.mpr ⟨mc_286, fun _ h => absurd h List.not_mem_nil⟩⟩⟩⟩⟩⟩⟩⟩⟩⟩⟩⟩⟩⟩⟩⟩⟩⟩⟩⟩⟩⟩⟩⟩
theorem mc_299 : Cond.code yX11_lays cX11_lays 2 none ∈ lw_tbl := mt_6 _ (List.mem_of_getElem? (i := 115) rfl)
theorem mc_300 : Cond.selects RX11 yX11_lays yX11_lays ∈ lw_tbl := List.mem_append_left _ (List.mem_map.mpr ⟨(yX11_lays, 28), List.mem_of_getElem? (i := 47) rfl, rfl⟩)
theorem mc_301 : Cond.instanceMethod yX11_lays ∈ lw_tbl := mt_6 _ (List.mem_of_getElem? (i := 114) rfl)
theorem mc_302 : Cond.methodLink RX11 90 yX11_lays ∈ lw_tbl := mt_6 _ (List.mem_of_getElem? (i := 112) rfl)
theorem mc_303 : Cond.fieldLink RX11 87 "AheadStoreModel" "laidAt" "I" ∈ lw_tbl := mt_5 _ (List.mem_of_getElem? (i := 178) rfl)
theorem mc_304 : Cond.code yX11_opens cX11_opens 4 none ∈ lw_tbl := mt_6 _ (List.mem_of_getElem? (i := 111) rfl)
theorem mc_305 : Cond.selects RX11 yX11_opens yX11_opens ∈ lw_tbl := List.mem_append_left _ (List.mem_map.mpr ⟨(yX11_opens, 28), List.mem_of_getElem? (i := 46) rfl, rfl⟩)
theorem mc_306 : Cond.instanceMethod yX11_opens ∈ lw_tbl := mt_6 _ (List.mem_of_getElem? (i := 110) rfl)
theorem mc_307 : Cond.methodLink RX11 103 yX11_opens ∈ lw_tbl := mt_6 _ (List.mem_of_getElem? (i := 108) rfl)
theorem mc_308 : Cond.code yX11_laysPlain cX11_laysPlain 3 (some .int) ∈ lw_tbl := mt_6 _ (List.mem_of_getElem? (i := 183) rfl)
theorem mc_309 : Cond.selects RX11 yX11_laysPlain yX11_laysPlain ∈ lw_tbl := List.mem_append_left _ (List.mem_map.mpr ⟨(yX11_laysPlain, 28), List.mem_of_getElem? (i := 60) rfl, rfl⟩)
theorem mc_310 : Cond.instanceMethod yX11_laysPlain ∈ lw_tbl := mt_6 _ (List.mem_of_getElem? (i := 182) rfl)
theorem mc_311 : Cond.methodLink RX11 170 yX11_laysPlain ∈ lw_tbl := mt_6 _ (List.mem_of_getElem? (i := 180) rfl)
theorem mc_312 : Cond.code yX11_end1 cX11_end1 1 (some .int) ∈ lw_tbl := mt_6 _ (List.mem_of_getElem? (i := 51) rfl)
theorem mc_313 : Cond.selects RX11 yX11_end1 yX11_end1 ∈ lw_tbl := List.mem_append_left _ (List.mem_map.mpr ⟨(yX11_end1, 28), List.mem_of_getElem? (i := 31) rfl, rfl⟩)
theorem mc_314 : Cond.instanceMethod yX11_end1 ∈ lw_tbl := mt_6 _ (List.mem_of_getElem? (i := 50) rfl)
theorem mc_315 : Cond.methodLink RX11 47 yX11_end1 ∈ lw_tbl := mt_6 _ (List.mem_of_getElem? (i := 48) rfl)
theorem mc_316 : Cond.code yX11_isFull cX11_isFull 1 (some .boolean) ∈ lw_tbl := mt_6 _ (List.mem_of_getElem? (i := 47) rfl)
theorem mc_317 : Cond.selects RX11 yX11_isFull yX11_isFull ∈ lw_tbl := List.mem_append_left _ (List.mem_map.mpr ⟨(yX11_isFull, 28), List.mem_of_getElem? (i := 30) rfl, rfl⟩)
theorem mc_318 : Cond.instanceMethod yX11_isFull ∈ lw_tbl := mt_6 _ (List.mem_of_getElem? (i := 46) rfl)
theorem mc_319 : Cond.methodLink RX11 144 yX11_isFull ∈ lw_tbl := mt_6 _ (List.mem_of_getElem? (i := 44) rfl)
theorem mc_320 : Cond.code yX11_txAt cX11_txAt 2 (some .int) ∈ lw_tbl := mt_6 _ (List.mem_of_getElem? (i := 43) rfl)
theorem mc_321 : Cond.selects RX11 yX11_txAt yX11_txAt ∈ lw_tbl := List.mem_append_left _ (List.mem_map.mpr ⟨(yX11_txAt, 28), List.mem_of_getElem? (i := 29) rfl, rfl⟩)
theorem mc_322 : Cond.instanceMethod yX11_txAt ∈ lw_tbl := mt_6 _ (List.mem_of_getElem? (i := 42) rfl)
set_option maxRecDepth 100000 in
theorem mT_wsX11_act_r2 : ∀ w ∈ wsX11_act_r2, w ∈ lw_tbl := by
  unfold wsX11_act_r2
  exact List.forall_mem_cons.mpr ⟨mc_322, List.forall_mem_cons.mpr ⟨mc_321, List.forall_mem_cons.mpr ⟨mc_320, List.forall_mem_cons.mpr ⟨mc_319, List.forall_mem_cons.mpr ⟨mc_318, List.forall_mem_cons.mpr ⟨mc_317, List.forall_mem_cons.mpr ⟨mc_316, List.forall_mem_cons.mpr ⟨mc_315, List.forall_mem_cons.mpr ⟨mc_314, List.forall_mem_cons.mpr ⟨mc_313, List.forall_mem_cons.mpr ⟨mc_312, List.forall_mem_cons.mpr ⟨mc_311, List.forall_mem_cons.mpr ⟨mc_310, List.forall_mem_cons.mpr ⟨mc_309, List.forall_mem_cons.mpr ⟨mc_308, List.forall_mem_cons.mpr ⟨mc_307, List.forall_mem_cons.mpr ⟨mc_306, List.forall_mem_cons.mpr ⟨mc_305, List.forall_mem_cons.mpr ⟨mc_304, List.forall_mem_cons.mpr ⟨mc_303, List.forall_mem_cons.mpr ⟨mc_302, List.forall_mem_cons.mpr ⟨mc_301, List.forall_mem_cons.mpr ⟨mc_300, List.forall_mem_cons.mpr ⟨mc_299, fun _ h => absurd h List.not_mem_nil⟩⟩⟩⟩⟩⟩⟩⟩⟩⟩⟩⟩⟩⟩⟩⟩⟩⟩⟩⟩⟩⟩⟩⟩
theorem mc_323 : Cond.code yX11_commits cX11_commits 2 (some .boolean) ∈ lw_tbl := mt_6 _ (List.mem_of_getElem? (i := 187) rfl)
theorem mc_324 : Cond.selects RX11 yX11_commits yX11_commits ∈ lw_tbl := List.mem_append_left _ (List.mem_map.mpr ⟨(yX11_commits, 28), List.mem_of_getElem? (i := 61) rfl, rfl⟩)
theorem mc_325 : Cond.instanceMethod yX11_commits ∈ lw_tbl := mt_6 _ (List.mem_of_getElem? (i := 186) rfl)
theorem mc_326 : Cond.methodLink RX11 179 yX11_commits ∈ lw_tbl := mt_6 _ (List.mem_of_getElem? (i := 184) rfl)
theorem mc_327 : Cond.code yX11_isEnd cX11_isEnd 2 none ∈ lw_tbl := mt_6 _ (List.mem_of_getElem? (i := 131) rfl)
theorem mc_328 : Cond.selects RX11 yX11_isEnd yX11_isEnd ∈ lw_tbl := List.mem_append_left _ (List.mem_map.mpr ⟨(yX11_isEnd, 28), List.mem_of_getElem? (i := 51) rfl, rfl⟩)
theorem mc_329 : Cond.instanceMethod yX11_isEnd ∈ lw_tbl := mt_6 _ (List.mem_of_getElem? (i := 130) rfl)
theorem mc_330 : Cond.methodLink RX11 100 yX11_isEnd ∈ lw_tbl := mt_6 _ (List.mem_of_getElem? (i := 128) rfl)
theorem mc_331 : Cond.code yX11_logByte cX11_logByte 2 (some .int) ∈ lw_tbl := mt_6 _ (List.mem_of_getElem? (i := 99) rfl)
theorem mc_332 : Cond.selects RX11 yX11_logByte yX11_logByte ∈ lw_tbl := List.mem_append_left _ (List.mem_map.mpr ⟨(yX11_logByte, 28), List.mem_of_getElem? (i := 43) rfl, rfl⟩)
theorem mc_333 : Cond.instanceMethod yX11_logByte ∈ lw_tbl := mt_6 _ (List.mem_of_getElem? (i := 98) rfl)
theorem mc_334 : Cond.methodLink RX11 65 yX11_logByte ∈ lw_tbl := mt_6 _ (List.mem_of_getElem? (i := 96) rfl)
theorem mc_335 : Cond.code yX11_checkOf cX11_checkOf 5 (some .int) ∈ lw_tbl := mt_6 _ (List.mem_of_getElem? (i := 127) rfl)
theorem mc_336 : Cond.selects RX11 yX11_checkOf yX11_checkOf ∈ lw_tbl := List.mem_append_left _ (List.mem_map.mpr ⟨(yX11_checkOf, 28), List.mem_of_getElem? (i := 50) rfl, rfl⟩)
theorem mc_337 : Cond.instanceMethod yX11_checkOf ∈ lw_tbl := mt_6 _ (List.mem_of_getElem? (i := 126) rfl)
theorem mc_338 : Cond.methodLink RX11 96 yX11_checkOf ∈ lw_tbl := mt_6 _ (List.mem_of_getElem? (i := 124) rfl)
theorem mc_339 : Cond.code yX11_closes cX11_closes 3 (some .int) ∈ lw_tbl := mt_6 _ (List.mem_of_getElem? (i := 123) rfl)
theorem mc_340 : Cond.selects RX11 yX11_closes yX11_closes ∈ lw_tbl := List.mem_append_left _ (List.mem_map.mpr ⟨(yX11_closes, 28), List.mem_of_getElem? (i := 49) rfl, rfl⟩)
theorem mc_341 : Cond.instanceMethod yX11_closes ∈ lw_tbl := mt_6 _ (List.mem_of_getElem? (i := 122) rfl)
theorem mc_342 : Cond.methodLink RX11 107 yX11_closes ∈ lw_tbl := mt_6 _ (List.mem_of_getElem? (i := 120) rfl)
theorem mc_343 : Cond.code yX11_laysTwo cX11_laysTwo 2 none ∈ lw_tbl := mt_6 _ (List.mem_of_getElem? (i := 119) rfl)
theorem mc_344 : Cond.selects RX11 yX11_laysTwo yX11_laysTwo ∈ lw_tbl := List.mem_append_left _ (List.mem_map.mpr ⟨(yX11_laysTwo, 28), List.mem_of_getElem? (i := 48) rfl, rfl⟩)
theorem mc_345 : Cond.instanceMethod yX11_laysTwo ∈ lw_tbl := mt_6 _ (List.mem_of_getElem? (i := 118) rfl)
theorem mc_346 : Cond.methodLink RX11 93 yX11_laysTwo ∈ lw_tbl := mt_6 _ (List.mem_of_getElem? (i := 116) rfl)
set_option maxRecDepth 100000 in
theorem mT_wsX11_act_r3 : ∀ w ∈ wsX11_act_r3, w ∈ lw_tbl := by
  unfold wsX11_act_r3
  exact List.forall_mem_cons.mpr ⟨mc_346, List.forall_mem_cons.mpr ⟨mc_345, List.forall_mem_cons.mpr ⟨mc_344, List.forall_mem_cons.mpr ⟨mc_343, List.forall_mem_cons.mpr ⟨mc_342, List.forall_mem_cons.mpr ⟨mc_341, List.forall_mem_cons.mpr ⟨mc_340, List.forall_mem_cons.mpr ⟨mc_339, List.forall_mem_cons.mpr ⟨mc_338, List.forall_mem_cons.mpr ⟨mc_337, List.forall_mem_cons.mpr ⟨mc_336, List.forall_mem_cons.mpr ⟨mc_335, List.forall_mem_cons.mpr ⟨mc_334, List.forall_mem_cons.mpr ⟨mc_333, List.forall_mem_cons.mpr ⟨mc_332, List.forall_mem_cons.mpr ⟨mc_331, List.forall_mem_cons.mpr ⟨mc_330, List.forall_mem_cons.mpr ⟨mc_329, List.forall_mem_cons.mpr ⟨mc_328, List.forall_mem_cons.mpr ⟨mc_327, List.forall_mem_cons.mpr ⟨mc_326, List.forall_mem_cons.mpr ⟨mc_325, List.forall_mem_cons.mpr ⟨mc_324, List.forall_mem_cons.mpr ⟨mc_323, fun _ h => absurd h List.not_mem_nil⟩⟩⟩⟩⟩⟩⟩⟩⟩⟩⟩⟩⟩⟩⟩⟩⟩⟩⟩⟩⟩⟩⟩⟩
theorem mc_347 : Cond.code yX11_opensTop cX11_opensTop 2 (some .boolean) ∈ lw_tbl := mt_6 _ (List.mem_of_getElem? (i := 199) rfl)
theorem mc_348 : Cond.selects RX11 yX11_opensTop yX11_opensTop ∈ lw_tbl := List.mem_append_left _ (List.mem_map.mpr ⟨(yX11_opensTop, 28), List.mem_of_getElem? (i := 64) rfl, rfl⟩)
theorem mc_349 : Cond.instanceMethod yX11_opensTop ∈ lw_tbl := mt_6 _ (List.mem_of_getElem? (i := 198) rfl)
theorem mc_350 : Cond.methodLink RX11 185 yX11_opensTop ∈ lw_tbl := mt_6 _ (List.mem_of_getElem? (i := 196) rfl)
theorem mc_351 : Cond.code yX11_aborts cX11_aborts 3 (some .boolean) ∈ lw_tbl := mt_6 _ (List.mem_of_getElem? (i := 195) rfl)
theorem mc_352 : Cond.selects RX11 yX11_aborts yX11_aborts ∈ lw_tbl := List.mem_append_left _ (List.mem_map.mpr ⟨(yX11_aborts, 28), List.mem_of_getElem? (i := 63) rfl, rfl⟩)
theorem mc_353 : Cond.instanceMethod yX11_aborts ∈ lw_tbl := mt_6 _ (List.mem_of_getElem? (i := 194) rfl)
theorem mc_354 : Cond.methodLink RX11 182 yX11_aborts ∈ lw_tbl := mt_6 _ (List.mem_of_getElem? (i := 192) rfl)
theorem mc_355 : Cond.code yX11_isGone cX11_isGone 3 none ∈ lw_tbl := mt_6 _ (List.mem_of_getElem? (i := 191) rfl)
theorem mc_356 : Cond.selects RX11 yX11_isGone yX11_isGone ∈ lw_tbl := List.mem_append_left _ (List.mem_map.mpr ⟨(yX11_isGone, 28), List.mem_of_getElem? (i := 62) rfl, rfl⟩)
theorem mc_357 : Cond.instanceMethod yX11_isGone ∈ lw_tbl := mt_6 _ (List.mem_of_getElem? (i := 190) rfl)
theorem mc_358 : Cond.methodLink RX11 173 yX11_isGone ∈ lw_tbl := mt_6 _ (List.mem_of_getElem? (i := 188) rfl)
theorem mc_359 : Cond.code yX11_isFlushed cX11_isFlushed 2 none ∈ lw_tbl := mt_6 _ (List.mem_of_getElem? (i := 107) rfl)
theorem mc_360 : Cond.selects RX11 yX11_isFlushed yX11_isFlushed ∈ lw_tbl := List.mem_append_left _ (List.mem_map.mpr ⟨(yX11_isFlushed, 28), List.mem_of_getElem? (i := 45) rfl, rfl⟩)
theorem mc_361 : Cond.instanceMethod yX11_isFlushed ∈ lw_tbl := mt_6 _ (List.mem_of_getElem? (i := 106) rfl)
theorem mc_362 : Cond.methodLink RX11 71 yX11_isFlushed ∈ lw_tbl := mt_6 _ (List.mem_of_getElem? (i := 104) rfl)
theorem mc_363 : Cond.code yX11_flushed cX11_flushed 1 (some .int) ∈ lw_tbl := mt_6 _ (List.mem_of_getElem? (i := 103) rfl)
theorem mc_364 : Cond.selects RX11 yX11_flushed yX11_flushed ∈ lw_tbl := List.mem_append_left _ (List.mem_map.mpr ⟨(yX11_flushed, 28), List.mem_of_getElem? (i := 44) rfl, rfl⟩)
theorem mc_365 : Cond.instanceMethod yX11_flushed ∈ lw_tbl := mt_6 _ (List.mem_of_getElem? (i := 102) rfl)
theorem mc_366 : Cond.methodLink RX11 68 yX11_flushed ∈ lw_tbl := mt_6 _ (List.mem_of_getElem? (i := 100) rfl)
theorem mc_367 : Cond.code yX11_flushesThrough cX11_flushesThrough 3 none ∈ lw_tbl := mt_6 _ (List.mem_of_getElem? (i := 95) rfl)
theorem mc_368 : Cond.selects RX11 yX11_flushesThrough yX11_flushesThrough ∈ lw_tbl := List.mem_append_left _ (List.mem_map.mpr ⟨(yX11_flushesThrough, 28), List.mem_of_getElem? (i := 42) rfl, rfl⟩)
theorem mc_369 : Cond.instanceMethod yX11_flushesThrough ∈ lw_tbl := mt_6 _ (List.mem_of_getElem? (i := 94) rfl)
theorem mc_370 : Cond.methodLink RX11 75 yX11_flushesThrough ∈ lw_tbl := mt_6 _ (List.mem_of_getElem? (i := 92) rfl)
set_option maxRecDepth 100000 in
theorem mT_wsX11_act_r4 : ∀ w ∈ wsX11_act_r4, w ∈ lw_tbl := by
  unfold wsX11_act_r4
  exact List.forall_mem_cons.mpr ⟨mc_370, List.forall_mem_cons.mpr ⟨mc_369, List.forall_mem_cons.mpr ⟨mc_368, List.forall_mem_cons.mpr ⟨mc_367, List.forall_mem_cons.mpr ⟨mc_366, List.forall_mem_cons.mpr ⟨mc_365, List.forall_mem_cons.mpr ⟨mc_364, List.forall_mem_cons.mpr ⟨mc_363, List.forall_mem_cons.mpr ⟨mc_362, List.forall_mem_cons.mpr ⟨mc_361, List.forall_mem_cons.mpr ⟨mc_360, List.forall_mem_cons.mpr ⟨mc_359, List.forall_mem_cons.mpr ⟨mc_358, List.forall_mem_cons.mpr ⟨mc_357, List.forall_mem_cons.mpr ⟨mc_356, List.forall_mem_cons.mpr ⟨mc_355, List.forall_mem_cons.mpr ⟨mc_354, List.forall_mem_cons.mpr ⟨mc_353, List.forall_mem_cons.mpr ⟨mc_352, List.forall_mem_cons.mpr ⟨mc_351, List.forall_mem_cons.mpr ⟨mc_350, List.forall_mem_cons.mpr ⟨mc_349, List.forall_mem_cons.mpr ⟨mc_348, List.forall_mem_cons.mpr ⟨mc_347, fun _ h => absurd h List.not_mem_nil⟩⟩⟩⟩⟩⟩⟩⟩⟩⟩⟩⟩⟩⟩⟩⟩⟩⟩⟩⟩⟩⟩⟩⟩
theorem mc_371 : Cond.code yX11_closesTop cX11_closesTop 3 (some .boolean) ∈ lw_tbl := mt_6 _ (List.mem_of_getElem? (i := 203) rfl)
theorem mc_372 : Cond.selects RX11 yX11_closesTop yX11_closesTop ∈ lw_tbl := List.mem_append_left _ (List.mem_map.mpr ⟨(yX11_closesTop, 28), List.mem_of_getElem? (i := 65) rfl, rfl⟩)
theorem mc_373 : Cond.instanceMethod yX11_closesTop ∈ lw_tbl := mt_6 _ (List.mem_of_getElem? (i := 202) rfl)
theorem mc_374 : Cond.methodLink RX11 188 yX11_closesTop ∈ lw_tbl := mt_6 _ (List.mem_of_getElem? (i := 200) rfl)
set_option maxRecDepth 100000 in
theorem mT_wsX11_act_r5 : ∀ w ∈ wsX11_act_r5, w ∈ lw_tbl := by
  unfold wsX11_act_r5
  exact List.forall_mem_cons.mpr ⟨mc_374, List.forall_mem_cons.mpr ⟨mc_373, List.forall_mem_cons.mpr ⟨mc_372, List.forall_mem_cons.mpr ⟨mc_371, fun _ h => absurd h List.not_mem_nil⟩⟩⟩⟩
set_option maxRecDepth 100000 in
theorem mT_wsX11_act : ∀ w ∈ wsX11_act, w ∈ lw_tbl := by
  unfold wsX11_act
  exact List.forall_mem_cons.mpr ⟨mc_285, List.forall_mem_append.mpr ⟨List.forall_mem_append.mpr ⟨mT_wsX11_act_r1, List.forall_mem_append.mpr ⟨mT_wsX11_act_r2, List.forall_mem_append.mpr ⟨mT_wsX11_act_r3, List.forall_mem_append.mpr ⟨mT_wsX11_act_r4, mT_wsX11_act_r5⟩⟩⟩⟩, inX11⟩⟩
theorem mc_375 : Cond.selects RX11 yX11_act yX11_act ∈ lw_tbl := mt_6 _ (List.mem_of_getElem? (i := 174) rfl)
theorem mc_376 : Cond.instanceMethod yX11_act ∈ lw_tbl := mt_6 _ (List.mem_of_getElem? (i := 173) rfl)
theorem mc_377 : Cond.methodLink RL 22 yX11_act ∈ lw_tbl := mt_6 _ (List.mem_of_getElem? (i := 172) rfl)
set_option maxRecDepth 100000 in
theorem gT_X11_act : GoodIn lw_tbl (wsV RL 22 RX11 yX11_act wsX11_act) := goodIn_sub (List.forall_mem_append.mpr ⟨List.forall_mem_cons.mpr ⟨mc_377, List.forall_mem_cons.mpr ⟨mc_376, List.forall_mem_cons.mpr ⟨mc_375, List.forall_mem_cons.mpr ⟨mc_155, fun _ h => absurd h List.not_mem_nil⟩⟩⟩⟩, mT_wsX11_act⟩) (by decide +kernel)
theorem mc_378 : Cond.code yX10_write cX10_write 4 (some .boolean) ∈ lw_tbl := mt_3 _ (List.mem_of_getElem? (i := 0) rfl)
theorem mc_379 : Cond.code yX9_change cX9_change 8 (some .boolean) ∈ lw_tbl := mt_3 _ (List.mem_of_getElem? (i := 4) rfl)
theorem mc_380 : Cond.selects RX9 yX9_change yX9_change ∈ lw_tbl := mt_3 _ (List.mem_of_getElem? (i := 3) rfl)
theorem mc_381 : Cond.instanceMethod yX9_change ∈ lw_tbl := mt_3 _ (List.mem_of_getElem? (i := 2) rfl)
theorem mc_382 : Cond.methodLink RX10 71 yX9_change ∈ lw_tbl := mt_3 _ (List.mem_of_getElem? (i := 1) rfl)
set_option maxRecDepth 100000 in
theorem mT_wsX10_write_r1 : ∀ w ∈ wsX10_write_r1, w ∈ lw_tbl := by
  unfold wsX10_write_r1
  exact List.forall_mem_cons.mpr ⟨mc_18, List.forall_mem_cons.mpr ⟨mc_382, List.forall_mem_cons.mpr ⟨mc_381, List.forall_mem_cons.mpr ⟨mc_380, List.forall_mem_cons.mpr ⟨mc_19, List.forall_mem_cons.mpr ⟨mc_379, List.forall_mem_cons.mpr ⟨mc_43, List.forall_mem_cons.mpr ⟨mc_35, List.forall_mem_cons.mpr ⟨mc_249, List.forall_mem_cons.mpr ⟨mc_47, List.forall_mem_cons.mpr ⟨mc_39, List.forall_mem_cons.mpr ⟨mc_190, List.forall_mem_cons.mpr ⟨mc_245, List.forall_mem_cons.mpr ⟨mc_244, List.forall_mem_cons.mpr ⟨mc_243, List.forall_mem_cons.mpr ⟨mc_242, List.forall_mem_cons.mpr ⟨mc_202, List.forall_mem_cons.mpr ⟨mc_201, List.forall_mem_cons.mpr ⟨mc_139, List.forall_mem_cons.mpr ⟨mc_200, List.forall_mem_cons.mpr ⟨mc_199, List.forall_mem_cons.mpr ⟨mc_198, List.forall_mem_cons.mpr ⟨mc_197, List.forall_mem_cons.mpr ⟨mc_196, fun _ h => absurd h List.not_mem_nil⟩⟩⟩⟩⟩⟩⟩⟩⟩⟩⟩⟩⟩⟩⟩⟩⟩⟩⟩⟩⟩⟩⟩⟩
theorem mc_383 : Cond.static arraycopyName ∈ lw_tbl := mt_3 _ (List.mem_of_getElem? (i := 34) rfl)
theorem mc_384 : Cond.native arraycopyName ∈ lw_tbl := mt_3 _ (List.mem_of_getElem? (i := 35) rfl)
theorem mc_385 : Cond.methodLink RX3 67 arraycopyName ∈ lw_tbl := mt_3 _ (List.mem_of_getElem? (i := 33) rfl)
theorem mc_386 : Cond.code yX3_fetch cX3_fetch 4 (some .int) ∈ lw_tbl := mt_3 _ (List.mem_of_getElem? (i := 16) rfl)
theorem mc_387 : Cond.selects RX3 yX3_fetch yX3_fetch ∈ lw_tbl := mt_3 _ (List.mem_of_getElem? (i := 15) rfl)
theorem mc_388 : Cond.instanceMethod yX3_fetch ∈ lw_tbl := mt_3 _ (List.mem_of_getElem? (i := 14) rfl)
theorem mc_389 : Cond.methodLink RX9 149 yX3_fetch ∈ lw_tbl := mt_3 _ (List.mem_of_getElem? (i := 13) rfl)
theorem mc_390 : Cond.code yX0_othersInTheWay cX0_othersInTheWay 5 (some .int) ∈ lw_tbl := mt_3 _ (List.mem_of_getElem? (i := 12) rfl)
theorem mc_391 : Cond.selects RX0 yX0_othersInTheWay yX0_othersInTheWay ∈ lw_tbl := mt_3 _ (List.mem_of_getElem? (i := 11) rfl)
theorem mc_392 : Cond.instanceMethod yX0_othersInTheWay ∈ lw_tbl := mt_3 _ (List.mem_of_getElem? (i := 10) rfl)
theorem mc_393 : Cond.methodLink RX9 145 yX0_othersInTheWay ∈ lw_tbl := mt_3 _ (List.mem_of_getElem? (i := 9) rfl)
theorem mc_394 : Cond.code yX3_isLost cX3_isLost 2 (some .boolean) ∈ lw_tbl := mt_3 _ (List.mem_of_getElem? (i := 8) rfl)
theorem mc_395 : Cond.selects RX3 yX3_isLost yX3_isLost ∈ lw_tbl := mt_3 _ (List.mem_of_getElem? (i := 7) rfl)
theorem mc_396 : Cond.instanceMethod yX3_isLost ∈ lw_tbl := mt_3 _ (List.mem_of_getElem? (i := 6) rfl)
theorem mc_397 : Cond.methodLink RX9 142 yX3_isLost ∈ lw_tbl := mt_3 _ (List.mem_of_getElem? (i := 5) rfl)
set_option maxRecDepth 100000 in
theorem mT_wsX10_write_r2 : ∀ w ∈ wsX10_write_r2, w ∈ lw_tbl := by
  unfold wsX10_write_r2
  exact List.forall_mem_cons.mpr ⟨mc_195, List.forall_mem_cons.mpr ⟨mc_397, List.forall_mem_cons.mpr ⟨mc_396, List.forall_mem_cons.mpr ⟨mc_395, List.forall_mem_cons.mpr ⟨mc_44, List.forall_mem_cons.mpr ⟨mc_394, List.forall_mem_cons.mpr ⟨mc_53, List.forall_mem_cons.mpr ⟨mc_393, List.forall_mem_cons.mpr ⟨mc_392, List.forall_mem_cons.mpr ⟨mc_391, List.forall_mem_cons.mpr ⟨mc_36, List.forall_mem_cons.mpr ⟨mc_390, List.forall_mem_cons.mpr ⟨mc_80, List.forall_mem_cons.mpr ⟨mc_79, List.forall_mem_cons.mpr ⟨mc_389, List.forall_mem_cons.mpr ⟨mc_388, List.forall_mem_cons.mpr ⟨mc_387, List.forall_mem_cons.mpr ⟨mc_386, List.forall_mem_cons.mpr ⟨mc_96, List.forall_mem_cons.mpr ⟨mc_57, List.forall_mem_cons.mpr ⟨mc_50, List.forall_mem_cons.mpr ⟨mc_385, List.forall_mem_cons.mpr ⟨mc_384, List.forall_mem_cons.mpr ⟨mc_383, fun _ h => absurd h List.not_mem_nil⟩⟩⟩⟩⟩⟩⟩⟩⟩⟩⟩⟩⟩⟩⟩⟩⟩⟩⟩⟩⟩⟩⟩⟩
theorem mc_398 : Cond.methodLink RX3 77 yX2_flushThrough ∈ lw_tbl := mt_3 _ (List.mem_of_getElem? (i := 32) rfl)
theorem mc_399 : Cond.code yX10_isPage cX10_isPage 1 (some .boolean) ∈ lw_tbl := mt_3 _ (List.mem_of_getElem? (i := 31) rfl)
theorem mc_400 : Cond.static yX10_isPage ∈ lw_tbl := mt_3 _ (List.mem_of_getElem? (i := 30) rfl)
theorem mc_401 : Cond.code yX3_writeOut cX3_writeOut 4 none ∈ lw_tbl := mt_3 _ (List.mem_of_getElem? (i := 28) rfl)
theorem mc_402 : Cond.selects RX3 yX3_writeOut yX3_writeOut ∈ lw_tbl := mt_3 _ (List.mem_of_getElem? (i := 27) rfl)
theorem mc_403 : Cond.instanceMethod yX3_writeOut ∈ lw_tbl := mt_3 _ (List.mem_of_getElem? (i := 26) rfl)
theorem mc_404 : Cond.methodLink RX3 63 yX3_writeOut ∈ lw_tbl := mt_3 _ (List.mem_of_getElem? (i := 25) rfl)
theorem mc_405 : Cond.code yX3_frameToTake cX3_frameToTake 3 (some .int) ∈ lw_tbl := mt_3 _ (List.mem_of_getElem? (i := 24) rfl)
theorem mc_406 : Cond.selects RX3 yX3_frameToTake yX3_frameToTake ∈ lw_tbl := List.mem_append_left _ (List.mem_map.mpr ⟨(yX3_frameToTake, 12), List.mem_of_getElem? (i := 3) rfl, rfl⟩)
theorem mc_407 : Cond.instanceMethod yX3_frameToTake ∈ lw_tbl := mt_3 _ (List.mem_of_getElem? (i := 23) rfl)
theorem mc_408 : Cond.methodLink RX3 59 yX3_frameToTake ∈ lw_tbl := mt_3 _ (List.mem_of_getElem? (i := 21) rfl)
theorem mc_409 : Cond.code yX3_frameOf cX3_frameOf 3 (some .int) ∈ lw_tbl := mt_3 _ (List.mem_of_getElem? (i := 20) rfl)
theorem mc_410 : Cond.selects RX3 yX3_frameOf yX3_frameOf ∈ lw_tbl := mt_3 _ (List.mem_of_getElem? (i := 19) rfl)
theorem mc_411 : Cond.instanceMethod yX3_frameOf ∈ lw_tbl := mt_3 _ (List.mem_of_getElem? (i := 18) rfl)
theorem mc_412 : Cond.methodLink RX3 55 yX3_frameOf ∈ lw_tbl := mt_3 _ (List.mem_of_getElem? (i := 17) rfl)
theorem mc_413 : Cond.initialized "java/lang/System" ∈ lw_tbl := mt_1 _ (List.mem_of_getElem? (i := 14) rfl)
set_option maxRecDepth 100000 in
theorem mT_wsX10_write_r3 : ∀ w ∈ wsX10_write_r3, w ∈ lw_tbl := by
  unfold wsX10_write_r3
  exact List.forall_mem_cons.mpr ⟨mc_413, List.forall_mem_cons.mpr ⟨mc_51, List.forall_mem_cons.mpr ⟨mc_49, List.forall_mem_cons.mpr ⟨mc_56, List.forall_mem_cons.mpr ⟨mc_94, List.forall_mem_cons.mpr ⟨mc_95, List.forall_mem_cons.mpr ⟨mc_412, List.forall_mem_cons.mpr ⟨mc_411, List.forall_mem_cons.mpr ⟨mc_410, List.forall_mem_cons.mpr ⟨mc_409, List.forall_mem_cons.mpr ⟨mc_52, List.forall_mem_cons.mpr ⟨mc_408, List.forall_mem_cons.mpr ⟨mc_407, List.forall_mem_cons.mpr ⟨mc_406, List.forall_mem_cons.mpr ⟨mc_405, List.forall_mem_cons.mpr ⟨mc_404, List.forall_mem_cons.mpr ⟨mc_403, List.forall_mem_cons.mpr ⟨mc_402, List.forall_mem_cons.mpr ⟨mc_401, List.forall_mem_cons.mpr ⟨mc_400, List.forall_mem_cons.mpr ⟨mc_399, List.forall_mem_cons.mpr ⟨mc_398, List.forall_mem_cons.mpr ⟨mc_240, List.forall_mem_cons.mpr ⟨mc_239, fun _ h => absurd h List.not_mem_nil⟩⟩⟩⟩⟩⟩⟩⟩⟩⟩⟩⟩⟩⟩⟩⟩⟩⟩⟩⟩⟩⟩⟩⟩
theorem mc_414 : Cond.code yX3_byteNow cX3_byteNow 3 (some .int) ∈ lw_tbl := mt_3 _ (List.mem_of_getElem? (i := 40) rfl)
theorem mc_415 : Cond.selects RX3 yX3_byteNow yX3_byteNow ∈ lw_tbl := mt_3 _ (List.mem_of_getElem? (i := 39) rfl)
theorem mc_416 : Cond.instanceMethod yX3_byteNow ∈ lw_tbl := mt_3 _ (List.mem_of_getElem? (i := 38) rfl)
theorem mc_417 : Cond.methodLink RX9 156 yX3_byteNow ∈ lw_tbl := mt_3 _ (List.mem_of_getElem? (i := 37) rfl)
theorem mc_418 : Cond.methodLink RX9 153 yX2_put ∈ lw_tbl := mt_3 _ (List.mem_of_getElem? (i := 36) rfl)
set_option maxRecDepth 100000 in
theorem mT_wsX10_write_r4 : ∀ w ∈ wsX10_write_r4, w ∈ lw_tbl := by
  unfold wsX10_write_r4
  exact List.forall_mem_cons.mpr ⟨mc_48, List.forall_mem_cons.mpr ⟨mc_238, List.forall_mem_cons.mpr ⟨mc_63, List.forall_mem_cons.mpr ⟨mc_237, List.forall_mem_cons.mpr ⟨mc_236, List.forall_mem_cons.mpr ⟨mc_235, List.forall_mem_cons.mpr ⟨mc_234, List.forall_mem_cons.mpr ⟨mc_64, List.forall_mem_cons.mpr ⟨mc_65, List.forall_mem_cons.mpr ⟨mc_189, List.forall_mem_cons.mpr ⟨mc_225, List.forall_mem_cons.mpr ⟨mc_224, List.forall_mem_cons.mpr ⟨mc_223, List.forall_mem_cons.mpr ⟨mc_62, List.forall_mem_cons.mpr ⟨mc_222, List.forall_mem_cons.mpr ⟨mc_221, List.forall_mem_cons.mpr ⟨mc_220, List.forall_mem_cons.mpr ⟨mc_219, List.forall_mem_cons.mpr ⟨mc_418, List.forall_mem_cons.mpr ⟨mc_417, List.forall_mem_cons.mpr ⟨mc_416, List.forall_mem_cons.mpr ⟨mc_415, List.forall_mem_cons.mpr ⟨mc_414, List.forall_mem_cons.mpr ⟨mc_218, fun _ h => absurd h List.not_mem_nil⟩⟩⟩⟩⟩⟩⟩⟩⟩⟩⟩⟩⟩⟩⟩⟩⟩⟩⟩⟩⟩⟩⟩⟩
theorem mc_419 : Cond.code yX0_claim cX0_claim 4 none ∈ lw_tbl := mt_3 _ (List.mem_of_getElem? (i := 56) rfl)
theorem mc_420 : Cond.selects RX0 yX0_claim yX0_claim ∈ lw_tbl := mt_3 _ (List.mem_of_getElem? (i := 55) rfl)
theorem mc_421 : Cond.instanceMethod yX0_claim ∈ lw_tbl := mt_3 _ (List.mem_of_getElem? (i := 54) rfl)
theorem mc_422 : Cond.methodLink RX9 163 yX0_claim ∈ lw_tbl := mt_3 _ (List.mem_of_getElem? (i := 53) rfl)
theorem mc_423 : Cond.code yX2_done cX2_done 3 (some .int) ∈ lw_tbl := mt_3 _ (List.mem_of_getElem? (i := 52) rfl)
theorem mc_424 : Cond.selects RX2 yX2_done yX2_done ∈ lw_tbl := mt_3 _ (List.mem_of_getElem? (i := 51) rfl)
theorem mc_425 : Cond.instanceMethod yX2_done ∈ lw_tbl := mt_3 _ (List.mem_of_getElem? (i := 50) rfl)
theorem mc_426 : Cond.methodLink RX3 86 yX2_done ∈ lw_tbl := mt_3 _ (List.mem_of_getElem? (i := 49) rfl)
theorem mc_427 : Cond.code yX2_addressAt cX2_addressAt 2 (some .int) ∈ lw_tbl := mt_3 _ (List.mem_of_getElem? (i := 48) rfl)
theorem mc_428 : Cond.selects RX2 yX2_addressAt yX2_addressAt ∈ lw_tbl := mt_3 _ (List.mem_of_getElem? (i := 47) rfl)
theorem mc_429 : Cond.instanceMethod yX2_addressAt ∈ lw_tbl := mt_3 _ (List.mem_of_getElem? (i := 46) rfl)
theorem mc_430 : Cond.methodLink RX3 83 yX2_addressAt ∈ lw_tbl := mt_3 _ (List.mem_of_getElem? (i := 45) rfl)
theorem mc_431 : Cond.code yX3_doIn cX3_doIn 5 none ∈ lw_tbl := mt_3 _ (List.mem_of_getElem? (i := 44) rfl)
theorem mc_432 : Cond.selects RX3 yX3_doIn yX3_doIn ∈ lw_tbl := mt_3 _ (List.mem_of_getElem? (i := 43) rfl)
theorem mc_433 : Cond.instanceMethod yX3_doIn ∈ lw_tbl := mt_3 _ (List.mem_of_getElem? (i := 42) rfl)
theorem mc_434 : Cond.methodLink RX9 159 yX3_doIn ∈ lw_tbl := mt_3 _ (List.mem_of_getElem? (i := 41) rfl)
set_option maxRecDepth 100000 in
theorem mT_wsX10_write_r5 : ∀ w ∈ wsX10_write_r5, w ∈ lw_tbl := by
  unfold wsX10_write_r5
  exact List.forall_mem_cons.mpr ⟨mc_217, List.forall_mem_cons.mpr ⟨mc_216, List.forall_mem_cons.mpr ⟨mc_215, List.forall_mem_cons.mpr ⟨mc_214, List.forall_mem_cons.mpr ⟨mc_213, List.forall_mem_cons.mpr ⟨mc_212, List.forall_mem_cons.mpr ⟨mc_211, List.forall_mem_cons.mpr ⟨mc_434, List.forall_mem_cons.mpr ⟨mc_433, List.forall_mem_cons.mpr ⟨mc_432, List.forall_mem_cons.mpr ⟨mc_431, List.forall_mem_cons.mpr ⟨mc_430, List.forall_mem_cons.mpr ⟨mc_429, List.forall_mem_cons.mpr ⟨mc_428, List.forall_mem_cons.mpr ⟨mc_427, List.forall_mem_cons.mpr ⟨mc_426, List.forall_mem_cons.mpr ⟨mc_425, List.forall_mem_cons.mpr ⟨mc_424, List.forall_mem_cons.mpr ⟨mc_423, List.forall_mem_cons.mpr ⟨mc_422, List.forall_mem_cons.mpr ⟨mc_421, List.forall_mem_cons.mpr ⟨mc_420, List.forall_mem_cons.mpr ⟨mc_419, fun _ h => absurd h List.not_mem_nil⟩⟩⟩⟩⟩⟩⟩⟩⟩⟩⟩⟩⟩⟩⟩⟩⟩⟩⟩⟩⟩⟩⟩
set_option maxRecDepth 100000 in
theorem mT_wsX10_write : ∀ w ∈ wsX10_write, w ∈ lw_tbl := by
  unfold wsX10_write
  exact List.forall_mem_cons.mpr ⟨mc_378, List.forall_mem_append.mpr ⟨List.forall_mem_append.mpr ⟨List.forall_mem_append.mpr ⟨List.forall_mem_append.mpr ⟨List.forall_mem_append.mpr ⟨List.forall_mem_append.mpr ⟨List.forall_mem_append.mpr ⟨mT_wsX10_write_r1, List.forall_mem_append.mpr ⟨mT_wsX10_write_r2, List.forall_mem_append.mpr ⟨mT_wsX10_write_r3, List.forall_mem_append.mpr ⟨mT_wsX10_write_r4, mT_wsX10_write_r5⟩⟩⟩⟩, inX10⟩, inX9⟩, inX0⟩, inX5⟩, inX2⟩, inX3⟩⟩
theorem mc_435 : Cond.selects RX10 yX10_write yX10_write ∈ lw_tbl := mt_2 _ (List.mem_of_getElem? (i := 239) rfl)
theorem mc_436 : Cond.instanceMethod yX10_write ∈ lw_tbl := mt_2 _ (List.mem_of_getElem? (i := 238) rfl)
theorem mc_437 : Cond.methodLink RL 23 yX10_write ∈ lw_tbl := mt_2 _ (List.mem_of_getElem? (i := 237) rfl)
set_option maxRecDepth 100000 in
theorem gT_X10_write : GoodIn lw_tbl (wsV RL 23 RX10 yX10_write wsX10_write) := goodIn_sub (List.forall_mem_append.mpr ⟨List.forall_mem_cons.mpr ⟨mc_437, List.forall_mem_cons.mpr ⟨mc_436, List.forall_mem_cons.mpr ⟨mc_435, List.forall_mem_cons.mpr ⟨mc_139, fun _ h => absurd h List.not_mem_nil⟩⟩⟩⟩, mT_wsX10_write⟩) (by decide +kernel)
theorem mc_438 : Cond.code yX11_write cX11_write 4 (some .boolean) ∈ lw_tbl := mt_6 _ (List.mem_of_getElem? (i := 23) rfl)
set_option maxRecDepth 100000 in
theorem mT_wsX11_write_r1 : ∀ w ∈ wsX11_write_r1, w ∈ lw_tbl := by
  unfold wsX11_write_r1
  exact List.forall_mem_cons.mpr ⟨mc_184, List.forall_mem_cons.mpr ⟨mc_151, List.forall_mem_cons.mpr ⟨mc_294, List.forall_mem_cons.mpr ⟨mc_293, List.forall_mem_cons.mpr ⟨mc_292, List.forall_mem_cons.mpr ⟨mc_155, List.forall_mem_cons.mpr ⟨mc_291, List.forall_mem_cons.mpr ⟨mc_183, List.forall_mem_cons.mpr ⟨mc_182, List.forall_mem_cons.mpr ⟨mc_181, List.forall_mem_cons.mpr ⟨mc_180, List.forall_mem_cons.mpr ⟨mc_179, List.forall_mem_cons.mpr ⟨mc_178, List.forall_mem_cons.mpr ⟨mc_177, List.forall_mem_cons.mpr ⟨mc_176, List.forall_mem_cons.mpr ⟨mc_290, List.forall_mem_cons.mpr ⟨mc_289, List.forall_mem_cons.mpr ⟨mc_288, List.forall_mem_cons.mpr ⟨mc_287, List.forall_mem_cons.mpr ⟨mc_286, List.forall_mem_cons.mpr ⟨mc_322, List.forall_mem_cons.mpr ⟨mc_321, List.forall_mem_cons.mpr ⟨mc_320, List.forall_mem_cons.mpr ⟨mc_319, fun _ h => absurd h List.not_mem_nil⟩⟩⟩⟩⟩⟩⟩⟩⟩⟩⟩⟩⟩⟩⟩⟩⟩⟩⟩⟩⟩⟩⟩⟩
theorem mc_439 : Cond.methodLink RX11 131 yX11_fetches ∈ lw_tbl := mt_6 _ (List.mem_of_getElem? (i := 68) rfl)
theorem mc_440 : Cond.code yX11_doesChange cX11_doesChange 8 none ∈ lw_tbl := mt_6 _ (List.mem_of_getElem? (i := 67) rfl)
theorem mc_441 : Cond.selects RX11 yX11_doesChange yX11_doesChange ∈ lw_tbl := List.mem_append_left _ (List.mem_map.mpr ⟨(yX11_doesChange, 28), List.mem_of_getElem? (i := 35) rfl, rfl⟩)
theorem mc_442 : Cond.instanceMethod yX11_doesChange ∈ lw_tbl := mt_6 _ (List.mem_of_getElem? (i := 66) rfl)
theorem mc_443 : Cond.methodLink RX11 153 yX11_doesChange ∈ lw_tbl := mt_6 _ (List.mem_of_getElem? (i := 64) rfl)
theorem mc_444 : Cond.code yX11_waitsFor cX11_waitsFor 4 (some .boolean) ∈ lw_tbl := mt_6 _ (List.mem_of_getElem? (i := 63) rfl)
theorem mc_445 : Cond.selects RX11 yX11_waitsFor yX11_waitsFor ∈ lw_tbl := List.mem_append_left _ (List.mem_map.mpr ⟨(yX11_waitsFor, 28), List.mem_of_getElem? (i := 34) rfl, rfl⟩)
theorem mc_446 : Cond.instanceMethod yX11_waitsFor ∈ lw_tbl := mt_6 _ (List.mem_of_getElem? (i := 62) rfl)
theorem mc_447 : Cond.methodLink RX11 150 yX11_waitsFor ∈ lw_tbl := mt_6 _ (List.mem_of_getElem? (i := 60) rfl)
theorem mc_448 : Cond.code yX11_has cX11_has 3 (some .boolean) ∈ lw_tbl := mt_6 _ (List.mem_of_getElem? (i := 59) rfl)
theorem mc_449 : Cond.selects RX11 yX11_has yX11_has ∈ lw_tbl := List.mem_append_left _ (List.mem_map.mpr ⟨(yX11_has, 28), List.mem_of_getElem? (i := 33) rfl, rfl⟩)
theorem mc_450 : Cond.instanceMethod yX11_has ∈ lw_tbl := mt_6 _ (List.mem_of_getElem? (i := 58) rfl)
theorem mc_451 : Cond.methodLink RX11 55 yX11_has ∈ lw_tbl := mt_6 _ (List.mem_of_getElem? (i := 56) rfl)
theorem mc_452 : Cond.code yX11_isLostPage cX11_isLostPage 2 (some .boolean) ∈ lw_tbl := mt_6 _ (List.mem_of_getElem? (i := 55) rfl)
theorem mc_453 : Cond.selects RX11 yX11_isLostPage yX11_isLostPage ∈ lw_tbl := List.mem_append_left _ (List.mem_map.mpr ⟨(yX11_isLostPage, 28), List.mem_of_getElem? (i := 32) rfl, rfl⟩)
theorem mc_454 : Cond.instanceMethod yX11_isLostPage ∈ lw_tbl := mt_6 _ (List.mem_of_getElem? (i := 54) rfl)
theorem mc_455 : Cond.methodLink RX11 147 yX11_isLostPage ∈ lw_tbl := mt_6 _ (List.mem_of_getElem? (i := 52) rfl)
set_option maxRecDepth 100000 in
theorem mT_wsX11_write_r2 : ∀ w ∈ wsX11_write_r2, w ∈ lw_tbl := by
  unfold wsX11_write_r2
  exact List.forall_mem_cons.mpr ⟨mc_318, List.forall_mem_cons.mpr ⟨mc_317, List.forall_mem_cons.mpr ⟨mc_316, List.forall_mem_cons.mpr ⟨mc_315, List.forall_mem_cons.mpr ⟨mc_314, List.forall_mem_cons.mpr ⟨mc_313, List.forall_mem_cons.mpr ⟨mc_312, List.forall_mem_cons.mpr ⟨mc_455, List.forall_mem_cons.mpr ⟨mc_454, List.forall_mem_cons.mpr ⟨mc_453, List.forall_mem_cons.mpr ⟨mc_452, List.forall_mem_cons.mpr ⟨mc_451, List.forall_mem_cons.mpr ⟨mc_450, List.forall_mem_cons.mpr ⟨mc_449, List.forall_mem_cons.mpr ⟨mc_448, List.forall_mem_cons.mpr ⟨mc_447, List.forall_mem_cons.mpr ⟨mc_446, List.forall_mem_cons.mpr ⟨mc_445, List.forall_mem_cons.mpr ⟨mc_444, List.forall_mem_cons.mpr ⟨mc_443, List.forall_mem_cons.mpr ⟨mc_442, List.forall_mem_cons.mpr ⟨mc_441, List.forall_mem_cons.mpr ⟨mc_440, List.forall_mem_cons.mpr ⟨mc_439, fun _ h => absurd h List.not_mem_nil⟩⟩⟩⟩⟩⟩⟩⟩⟩⟩⟩⟩⟩⟩⟩⟩⟩⟩⟩⟩⟩⟩⟩⟩
theorem mc_456 : Cond.code yX11_isWritten cX11_isWritten 5 none ∈ lw_tbl := mt_6 _ (List.mem_of_getElem? (i := 91) rfl)
theorem mc_457 : Cond.selects RX11 yX11_isWritten yX11_isWritten ∈ lw_tbl := List.mem_append_left _ (List.mem_map.mpr ⟨(yX11_isWritten, 28), List.mem_of_getElem? (i := 41) rfl, rfl⟩)
theorem mc_458 : Cond.instanceMethod yX11_isWritten ∈ lw_tbl := mt_6 _ (List.mem_of_getElem? (i := 90) rfl)
theorem mc_459 : Cond.methodLink RX11 84 yX11_isWritten ∈ lw_tbl := mt_6 _ (List.mem_of_getElem? (i := 88) rfl)
theorem mc_460 : Cond.code yX11_leastUsed cX11_leastUsed 3 (some .int) ∈ lw_tbl := mt_6 _ (List.mem_of_getElem? (i := 87) rfl)
theorem mc_461 : Cond.selects RX11 yX11_leastUsed yX11_leastUsed ∈ lw_tbl := List.mem_append_left _ (List.mem_map.mpr ⟨(yX11_leastUsed, 28), List.mem_of_getElem? (i := 40) rfl, rfl⟩)
theorem mc_462 : Cond.instanceMethod yX11_leastUsed ∈ lw_tbl := mt_6 _ (List.mem_of_getElem? (i := 86) rfl)
theorem mc_463 : Cond.methodLink RX11 81 yX11_leastUsed ∈ lw_tbl := mt_6 _ (List.mem_of_getElem? (i := 84) rfl)
theorem mc_464 : Cond.code yX11_frameOf cX11_frameOf 3 (some .int) ∈ lw_tbl := mt_6 _ (List.mem_of_getElem? (i := 75) rfl)
theorem mc_465 : Cond.selects RX11 yX11_frameOf yX11_frameOf ∈ lw_tbl := List.mem_append_left _ (List.mem_map.mpr ⟨(yX11_frameOf, 28), List.mem_of_getElem? (i := 37) rfl, rfl⟩)
theorem mc_466 : Cond.instanceMethod yX11_frameOf ∈ lw_tbl := mt_6 _ (List.mem_of_getElem? (i := 74) rfl)
theorem mc_467 : Cond.methodLink RX11 78 yX11_frameOf ∈ lw_tbl := mt_6 _ (List.mem_of_getElem? (i := 72) rfl)
theorem mc_468 : Cond.code yX11_fetches cX11_fetches 5 (some .int) ∈ lw_tbl := mt_6 _ (List.mem_of_getElem? (i := 71) rfl)
theorem mc_469 : Cond.selects RX11 yX11_fetches yX11_fetches ∈ lw_tbl := List.mem_append_left _ (List.mem_map.mpr ⟨(yX11_fetches, 28), List.mem_of_getElem? (i := 36) rfl, rfl⟩)
theorem mc_470 : Cond.instanceMethod yX11_fetches ∈ lw_tbl := mt_6 _ (List.mem_of_getElem? (i := 70) rfl)
set_option maxRecDepth 100000 in
theorem mT_wsX11_write_r3 : ∀ w ∈ wsX11_write_r3, w ∈ lw_tbl := by
  unfold wsX11_write_r3
  exact List.forall_mem_cons.mpr ⟨mc_470, List.forall_mem_cons.mpr ⟨mc_469, List.forall_mem_cons.mpr ⟨mc_468, List.forall_mem_cons.mpr ⟨mc_467, List.forall_mem_cons.mpr ⟨mc_466, List.forall_mem_cons.mpr ⟨mc_465, List.forall_mem_cons.mpr ⟨mc_464, List.forall_mem_cons.mpr ⟨mc_175, List.forall_mem_cons.mpr ⟨mc_174, List.forall_mem_cons.mpr ⟨mc_173, List.forall_mem_cons.mpr ⟨mc_172, List.forall_mem_cons.mpr ⟨mc_171, List.forall_mem_cons.mpr ⟨mc_170, List.forall_mem_cons.mpr ⟨mc_169, List.forall_mem_cons.mpr ⟨mc_168, List.forall_mem_cons.mpr ⟨mc_463, List.forall_mem_cons.mpr ⟨mc_462, List.forall_mem_cons.mpr ⟨mc_461, List.forall_mem_cons.mpr ⟨mc_460, List.forall_mem_cons.mpr ⟨mc_459, List.forall_mem_cons.mpr ⟨mc_458, List.forall_mem_cons.mpr ⟨mc_457, List.forall_mem_cons.mpr ⟨mc_456, List.forall_mem_cons.mpr ⟨mc_370, fun _ h => absurd h List.not_mem_nil⟩⟩⟩⟩⟩⟩⟩⟩⟩⟩⟩⟩⟩⟩⟩⟩⟩⟩⟩⟩⟩⟩⟩⟩
set_option maxRecDepth 100000 in
theorem mT_wsX11_write_r4 : ∀ w ∈ wsX11_write_r4, w ∈ lw_tbl := by
  unfold wsX11_write_r4
  exact List.forall_mem_cons.mpr ⟨mc_369, List.forall_mem_cons.mpr ⟨mc_368, List.forall_mem_cons.mpr ⟨mc_367, List.forall_mem_cons.mpr ⟨mc_334, List.forall_mem_cons.mpr ⟨mc_333, List.forall_mem_cons.mpr ⟨mc_332, List.forall_mem_cons.mpr ⟨mc_331, List.forall_mem_cons.mpr ⟨mc_366, List.forall_mem_cons.mpr ⟨mc_365, List.forall_mem_cons.mpr ⟨mc_364, List.forall_mem_cons.mpr ⟨mc_363, List.forall_mem_cons.mpr ⟨mc_362, List.forall_mem_cons.mpr ⟨mc_361, List.forall_mem_cons.mpr ⟨mc_360, List.forall_mem_cons.mpr ⟨mc_359, List.forall_mem_cons.mpr ⟨mc_307, List.forall_mem_cons.mpr ⟨mc_306, List.forall_mem_cons.mpr ⟨mc_305, List.forall_mem_cons.mpr ⟨mc_304, List.forall_mem_cons.mpr ⟨mc_303, List.forall_mem_cons.mpr ⟨mc_302, List.forall_mem_cons.mpr ⟨mc_301, List.forall_mem_cons.mpr ⟨mc_300, List.forall_mem_cons.mpr ⟨mc_299, fun _ h => absurd h List.not_mem_nil⟩⟩⟩⟩⟩⟩⟩⟩⟩⟩⟩⟩⟩⟩⟩⟩⟩⟩⟩⟩⟩⟩⟩⟩
theorem mc_471 : Cond.code yX11_becomes cX11_becomes 5 none ∈ lw_tbl := mt_6 _ (List.mem_of_getElem? (i := 139) rfl)
theorem mc_472 : Cond.selects RX11 yX11_becomes yX11_becomes ∈ lw_tbl := List.mem_append_left _ (List.mem_map.mpr ⟨(yX11_becomes, 28), List.mem_of_getElem? (i := 53) rfl, rfl⟩)
theorem mc_473 : Cond.instanceMethod yX11_becomes ∈ lw_tbl := mt_6 _ (List.mem_of_getElem? (i := 138) rfl)
theorem mc_474 : Cond.methodLink RX11 137 yX11_becomes ∈ lw_tbl := mt_6 _ (List.mem_of_getElem? (i := 136) rfl)
theorem mc_475 : Cond.code yX11_doneBy cX11_doneBy 3 (some .int) ∈ lw_tbl := mt_6 _ (List.mem_of_getElem? (i := 135) rfl)
theorem mc_476 : Cond.selects RX11 yX11_doneBy yX11_doneBy ∈ lw_tbl := List.mem_append_left _ (List.mem_map.mpr ⟨(yX11_doneBy, 28), List.mem_of_getElem? (i := 52) rfl, rfl⟩)
theorem mc_477 : Cond.instanceMethod yX11_doneBy ∈ lw_tbl := mt_6 _ (List.mem_of_getElem? (i := 134) rfl)
theorem mc_478 : Cond.methodLink RX11 134 yX11_doneBy ∈ lw_tbl := mt_6 _ (List.mem_of_getElem? (i := 132) rfl)
set_option maxRecDepth 100000 in
theorem mT_wsX11_write_r5 : ∀ w ∈ wsX11_write_r5, w ∈ lw_tbl := by
  unfold wsX11_write_r5
  exact List.forall_mem_cons.mpr ⟨mc_346, List.forall_mem_cons.mpr ⟨mc_345, List.forall_mem_cons.mpr ⟨mc_344, List.forall_mem_cons.mpr ⟨mc_343, List.forall_mem_cons.mpr ⟨mc_342, List.forall_mem_cons.mpr ⟨mc_341, List.forall_mem_cons.mpr ⟨mc_340, List.forall_mem_cons.mpr ⟨mc_339, List.forall_mem_cons.mpr ⟨mc_338, List.forall_mem_cons.mpr ⟨mc_337, List.forall_mem_cons.mpr ⟨mc_336, List.forall_mem_cons.mpr ⟨mc_335, List.forall_mem_cons.mpr ⟨mc_330, List.forall_mem_cons.mpr ⟨mc_329, List.forall_mem_cons.mpr ⟨mc_328, List.forall_mem_cons.mpr ⟨mc_327, List.forall_mem_cons.mpr ⟨mc_478, List.forall_mem_cons.mpr ⟨mc_477, List.forall_mem_cons.mpr ⟨mc_476, List.forall_mem_cons.mpr ⟨mc_475, List.forall_mem_cons.mpr ⟨mc_474, List.forall_mem_cons.mpr ⟨mc_473, List.forall_mem_cons.mpr ⟨mc_472, List.forall_mem_cons.mpr ⟨mc_471, fun _ h => absurd h List.not_mem_nil⟩⟩⟩⟩⟩⟩⟩⟩⟩⟩⟩⟩⟩⟩⟩⟩⟩⟩⟩⟩⟩⟩⟩⟩
set_option maxRecDepth 100000 in
theorem mT_wsX11_write : ∀ w ∈ wsX11_write, w ∈ lw_tbl := by
  unfold wsX11_write
  exact List.forall_mem_cons.mpr ⟨mc_438, List.forall_mem_append.mpr ⟨List.forall_mem_append.mpr ⟨mT_wsX11_write_r1, List.forall_mem_append.mpr ⟨mT_wsX11_write_r2, List.forall_mem_append.mpr ⟨mT_wsX11_write_r3, List.forall_mem_append.mpr ⟨mT_wsX11_write_r4, mT_wsX11_write_r5⟩⟩⟩⟩, inX11⟩⟩
theorem mc_479 : Cond.selects RX11 yX11_write yX11_write ∈ lw_tbl := mt_6 _ (List.mem_of_getElem? (i := 22) rfl)
theorem mc_480 : Cond.instanceMethod yX11_write ∈ lw_tbl := mt_6 _ (List.mem_of_getElem? (i := 21) rfl)
theorem mc_481 : Cond.methodLink RL 27 yX11_write ∈ lw_tbl := mt_6 _ (List.mem_of_getElem? (i := 20) rfl)
set_option maxRecDepth 100000 in
theorem gT_X11_write : GoodIn lw_tbl (wsV RL 27 RX11 yX11_write wsX11_write) := goodIn_sub (List.forall_mem_append.mpr ⟨List.forall_mem_cons.mpr ⟨mc_481, List.forall_mem_cons.mpr ⟨mc_480, List.forall_mem_cons.mpr ⟨mc_479, List.forall_mem_cons.mpr ⟨mc_155, fun _ h => absurd h List.not_mem_nil⟩⟩⟩⟩, mT_wsX11_write⟩) (by decide +kernel)
theorem mc_482 : Cond.code yX10_add cX10_add 4 (some .boolean) ∈ lw_tbl := mt_3 _ (List.mem_of_getElem? (i := 60) rfl)
set_option maxRecDepth 100000 in
theorem mT_wsX10_add_r1 : ∀ w ∈ wsX10_add_r1, w ∈ lw_tbl := by
  unfold wsX10_add_r1
  exact List.forall_mem_cons.mpr ⟨mc_18, List.forall_mem_cons.mpr ⟨mc_382, List.forall_mem_cons.mpr ⟨mc_381, List.forall_mem_cons.mpr ⟨mc_380, List.forall_mem_cons.mpr ⟨mc_19, List.forall_mem_cons.mpr ⟨mc_379, List.forall_mem_cons.mpr ⟨mc_43, List.forall_mem_cons.mpr ⟨mc_35, List.forall_mem_cons.mpr ⟨mc_249, List.forall_mem_cons.mpr ⟨mc_47, List.forall_mem_cons.mpr ⟨mc_39, List.forall_mem_cons.mpr ⟨mc_190, List.forall_mem_cons.mpr ⟨mc_245, List.forall_mem_cons.mpr ⟨mc_244, List.forall_mem_cons.mpr ⟨mc_243, List.forall_mem_cons.mpr ⟨mc_242, List.forall_mem_cons.mpr ⟨mc_202, List.forall_mem_cons.mpr ⟨mc_201, List.forall_mem_cons.mpr ⟨mc_139, List.forall_mem_cons.mpr ⟨mc_200, List.forall_mem_cons.mpr ⟨mc_199, List.forall_mem_cons.mpr ⟨mc_198, List.forall_mem_cons.mpr ⟨mc_197, List.forall_mem_cons.mpr ⟨mc_196, fun _ h => absurd h List.not_mem_nil⟩⟩⟩⟩⟩⟩⟩⟩⟩⟩⟩⟩⟩⟩⟩⟩⟩⟩⟩⟩⟩⟩⟩⟩
set_option maxRecDepth 100000 in
theorem mT_wsX10_add_r2 : ∀ w ∈ wsX10_add_r2, w ∈ lw_tbl := by
  unfold wsX10_add_r2
  exact List.forall_mem_cons.mpr ⟨mc_195, List.forall_mem_cons.mpr ⟨mc_397, List.forall_mem_cons.mpr ⟨mc_396, List.forall_mem_cons.mpr ⟨mc_395, List.forall_mem_cons.mpr ⟨mc_44, List.forall_mem_cons.mpr ⟨mc_394, List.forall_mem_cons.mpr ⟨mc_53, List.forall_mem_cons.mpr ⟨mc_393, List.forall_mem_cons.mpr ⟨mc_392, List.forall_mem_cons.mpr ⟨mc_391, List.forall_mem_cons.mpr ⟨mc_36, List.forall_mem_cons.mpr ⟨mc_390, List.forall_mem_cons.mpr ⟨mc_80, List.forall_mem_cons.mpr ⟨mc_79, List.forall_mem_cons.mpr ⟨mc_389, List.forall_mem_cons.mpr ⟨mc_388, List.forall_mem_cons.mpr ⟨mc_387, List.forall_mem_cons.mpr ⟨mc_386, List.forall_mem_cons.mpr ⟨mc_96, List.forall_mem_cons.mpr ⟨mc_57, List.forall_mem_cons.mpr ⟨mc_50, List.forall_mem_cons.mpr ⟨mc_385, List.forall_mem_cons.mpr ⟨mc_384, List.forall_mem_cons.mpr ⟨mc_383, fun _ h => absurd h List.not_mem_nil⟩⟩⟩⟩⟩⟩⟩⟩⟩⟩⟩⟩⟩⟩⟩⟩⟩⟩⟩⟩⟩⟩⟩⟩
set_option maxRecDepth 100000 in
theorem mT_wsX10_add_r3 : ∀ w ∈ wsX10_add_r3, w ∈ lw_tbl := by
  unfold wsX10_add_r3
  exact List.forall_mem_cons.mpr ⟨mc_413, List.forall_mem_cons.mpr ⟨mc_51, List.forall_mem_cons.mpr ⟨mc_49, List.forall_mem_cons.mpr ⟨mc_56, List.forall_mem_cons.mpr ⟨mc_94, List.forall_mem_cons.mpr ⟨mc_95, List.forall_mem_cons.mpr ⟨mc_412, List.forall_mem_cons.mpr ⟨mc_411, List.forall_mem_cons.mpr ⟨mc_410, List.forall_mem_cons.mpr ⟨mc_409, List.forall_mem_cons.mpr ⟨mc_52, List.forall_mem_cons.mpr ⟨mc_408, List.forall_mem_cons.mpr ⟨mc_407, List.forall_mem_cons.mpr ⟨mc_406, List.forall_mem_cons.mpr ⟨mc_405, List.forall_mem_cons.mpr ⟨mc_404, List.forall_mem_cons.mpr ⟨mc_403, List.forall_mem_cons.mpr ⟨mc_402, List.forall_mem_cons.mpr ⟨mc_401, List.forall_mem_cons.mpr ⟨mc_400, List.forall_mem_cons.mpr ⟨mc_399, List.forall_mem_cons.mpr ⟨mc_398, List.forall_mem_cons.mpr ⟨mc_240, List.forall_mem_cons.mpr ⟨mc_239, fun _ h => absurd h List.not_mem_nil⟩⟩⟩⟩⟩⟩⟩⟩⟩⟩⟩⟩⟩⟩⟩⟩⟩⟩⟩⟩⟩⟩⟩⟩
set_option maxRecDepth 100000 in
theorem mT_wsX10_add_r4 : ∀ w ∈ wsX10_add_r4, w ∈ lw_tbl := by
  unfold wsX10_add_r4
  exact List.forall_mem_cons.mpr ⟨mc_48, List.forall_mem_cons.mpr ⟨mc_238, List.forall_mem_cons.mpr ⟨mc_63, List.forall_mem_cons.mpr ⟨mc_237, List.forall_mem_cons.mpr ⟨mc_236, List.forall_mem_cons.mpr ⟨mc_235, List.forall_mem_cons.mpr ⟨mc_234, List.forall_mem_cons.mpr ⟨mc_64, List.forall_mem_cons.mpr ⟨mc_65, List.forall_mem_cons.mpr ⟨mc_189, List.forall_mem_cons.mpr ⟨mc_225, List.forall_mem_cons.mpr ⟨mc_224, List.forall_mem_cons.mpr ⟨mc_223, List.forall_mem_cons.mpr ⟨mc_62, List.forall_mem_cons.mpr ⟨mc_222, List.forall_mem_cons.mpr ⟨mc_221, List.forall_mem_cons.mpr ⟨mc_220, List.forall_mem_cons.mpr ⟨mc_219, List.forall_mem_cons.mpr ⟨mc_418, List.forall_mem_cons.mpr ⟨mc_417, List.forall_mem_cons.mpr ⟨mc_416, List.forall_mem_cons.mpr ⟨mc_415, List.forall_mem_cons.mpr ⟨mc_414, List.forall_mem_cons.mpr ⟨mc_218, fun _ h => absurd h List.not_mem_nil⟩⟩⟩⟩⟩⟩⟩⟩⟩⟩⟩⟩⟩⟩⟩⟩⟩⟩⟩⟩⟩⟩⟩⟩
set_option maxRecDepth 100000 in
theorem mT_wsX10_add_r5 : ∀ w ∈ wsX10_add_r5, w ∈ lw_tbl := by
  unfold wsX10_add_r5
  exact List.forall_mem_cons.mpr ⟨mc_217, List.forall_mem_cons.mpr ⟨mc_216, List.forall_mem_cons.mpr ⟨mc_215, List.forall_mem_cons.mpr ⟨mc_214, List.forall_mem_cons.mpr ⟨mc_213, List.forall_mem_cons.mpr ⟨mc_212, List.forall_mem_cons.mpr ⟨mc_211, List.forall_mem_cons.mpr ⟨mc_434, List.forall_mem_cons.mpr ⟨mc_433, List.forall_mem_cons.mpr ⟨mc_432, List.forall_mem_cons.mpr ⟨mc_431, List.forall_mem_cons.mpr ⟨mc_430, List.forall_mem_cons.mpr ⟨mc_429, List.forall_mem_cons.mpr ⟨mc_428, List.forall_mem_cons.mpr ⟨mc_427, List.forall_mem_cons.mpr ⟨mc_426, List.forall_mem_cons.mpr ⟨mc_425, List.forall_mem_cons.mpr ⟨mc_424, List.forall_mem_cons.mpr ⟨mc_423, List.forall_mem_cons.mpr ⟨mc_422, List.forall_mem_cons.mpr ⟨mc_421, List.forall_mem_cons.mpr ⟨mc_420, List.forall_mem_cons.mpr ⟨mc_419, fun _ h => absurd h List.not_mem_nil⟩⟩⟩⟩⟩⟩⟩⟩⟩⟩⟩⟩⟩⟩⟩⟩⟩⟩⟩⟩⟩⟩⟩
set_option maxRecDepth 100000 in
theorem mT_wsX10_add : ∀ w ∈ wsX10_add, w ∈ lw_tbl := by
  unfold wsX10_add
  exact List.forall_mem_cons.mpr ⟨mc_482, List.forall_mem_append.mpr ⟨List.forall_mem_append.mpr ⟨List.forall_mem_append.mpr ⟨List.forall_mem_append.mpr ⟨List.forall_mem_append.mpr ⟨List.forall_mem_append.mpr ⟨List.forall_mem_append.mpr ⟨mT_wsX10_add_r1, List.forall_mem_append.mpr ⟨mT_wsX10_add_r2, List.forall_mem_append.mpr ⟨mT_wsX10_add_r3, List.forall_mem_append.mpr ⟨mT_wsX10_add_r4, mT_wsX10_add_r5⟩⟩⟩⟩, inX10⟩, inX9⟩, inX0⟩, inX5⟩, inX2⟩, inX3⟩⟩
theorem mc_483 : Cond.selects RX10 yX10_add yX10_add ∈ lw_tbl := mt_3 _ (List.mem_of_getElem? (i := 59) rfl)
theorem mc_484 : Cond.instanceMethod yX10_add ∈ lw_tbl := mt_3 _ (List.mem_of_getElem? (i := 58) rfl)
theorem mc_485 : Cond.methodLink RL 28 yX10_add ∈ lw_tbl := mt_3 _ (List.mem_of_getElem? (i := 57) rfl)
set_option maxRecDepth 100000 in
theorem gT_X10_add : GoodIn lw_tbl (wsV RL 28 RX10 yX10_add wsX10_add) := goodIn_sub (List.forall_mem_append.mpr ⟨List.forall_mem_cons.mpr ⟨mc_485, List.forall_mem_cons.mpr ⟨mc_484, List.forall_mem_cons.mpr ⟨mc_483, List.forall_mem_cons.mpr ⟨mc_139, fun _ h => absurd h List.not_mem_nil⟩⟩⟩⟩, mT_wsX10_add⟩) (by decide +kernel)
theorem mc_486 : Cond.code yX11_add cX11_add 4 (some .boolean) ∈ lw_tbl := mt_6 _ (List.mem_of_getElem? (i := 143) rfl)
set_option maxRecDepth 100000 in
theorem mT_wsX11_add_r1 : ∀ w ∈ wsX11_add_r1, w ∈ lw_tbl := by
  unfold wsX11_add_r1
  exact List.forall_mem_cons.mpr ⟨mc_184, List.forall_mem_cons.mpr ⟨mc_151, List.forall_mem_cons.mpr ⟨mc_294, List.forall_mem_cons.mpr ⟨mc_293, List.forall_mem_cons.mpr ⟨mc_292, List.forall_mem_cons.mpr ⟨mc_155, List.forall_mem_cons.mpr ⟨mc_291, List.forall_mem_cons.mpr ⟨mc_183, List.forall_mem_cons.mpr ⟨mc_182, List.forall_mem_cons.mpr ⟨mc_181, List.forall_mem_cons.mpr ⟨mc_180, List.forall_mem_cons.mpr ⟨mc_179, List.forall_mem_cons.mpr ⟨mc_178, List.forall_mem_cons.mpr ⟨mc_177, List.forall_mem_cons.mpr ⟨mc_176, List.forall_mem_cons.mpr ⟨mc_290, List.forall_mem_cons.mpr ⟨mc_289, List.forall_mem_cons.mpr ⟨mc_288, List.forall_mem_cons.mpr ⟨mc_287, List.forall_mem_cons.mpr ⟨mc_286, List.forall_mem_cons.mpr ⟨mc_322, List.forall_mem_cons.mpr ⟨mc_321, List.forall_mem_cons.mpr ⟨mc_320, List.forall_mem_cons.mpr ⟨mc_319, fun _ h => absurd h List.not_mem_nil⟩⟩⟩⟩⟩⟩⟩⟩⟩⟩⟩⟩⟩⟩⟩⟩⟩⟩⟩⟩⟩⟩⟩⟩
set_option maxRecDepth 100000 in
theorem mT_wsX11_add_r2 : ∀ w ∈ wsX11_add_r2, w ∈ lw_tbl := by
  unfold wsX11_add_r2
  exact List.forall_mem_cons.mpr ⟨mc_318, List.forall_mem_cons.mpr ⟨mc_317, List.forall_mem_cons.mpr ⟨mc_316, List.forall_mem_cons.mpr ⟨mc_315, List.forall_mem_cons.mpr ⟨mc_314, List.forall_mem_cons.mpr ⟨mc_313, List.forall_mem_cons.mpr ⟨mc_312, List.forall_mem_cons.mpr ⟨mc_455, List.forall_mem_cons.mpr ⟨mc_454, List.forall_mem_cons.mpr ⟨mc_453, List.forall_mem_cons.mpr ⟨mc_452, List.forall_mem_cons.mpr ⟨mc_451, List.forall_mem_cons.mpr ⟨mc_450, List.forall_mem_cons.mpr ⟨mc_449, List.forall_mem_cons.mpr ⟨mc_448, List.forall_mem_cons.mpr ⟨mc_447, List.forall_mem_cons.mpr ⟨mc_446, List.forall_mem_cons.mpr ⟨mc_445, List.forall_mem_cons.mpr ⟨mc_444, List.forall_mem_cons.mpr ⟨mc_443, List.forall_mem_cons.mpr ⟨mc_442, List.forall_mem_cons.mpr ⟨mc_441, List.forall_mem_cons.mpr ⟨mc_440, List.forall_mem_cons.mpr ⟨mc_439, fun _ h => absurd h List.not_mem_nil⟩⟩⟩⟩⟩⟩⟩⟩⟩⟩⟩⟩⟩⟩⟩⟩⟩⟩⟩⟩⟩⟩⟩⟩
set_option maxRecDepth 100000 in
theorem mT_wsX11_add_r3 : ∀ w ∈ wsX11_add_r3, w ∈ lw_tbl := by
  unfold wsX11_add_r3
  exact List.forall_mem_cons.mpr ⟨mc_470, List.forall_mem_cons.mpr ⟨mc_469, List.forall_mem_cons.mpr ⟨mc_468, List.forall_mem_cons.mpr ⟨mc_467, List.forall_mem_cons.mpr ⟨mc_466, List.forall_mem_cons.mpr ⟨mc_465, List.forall_mem_cons.mpr ⟨mc_464, List.forall_mem_cons.mpr ⟨mc_175, List.forall_mem_cons.mpr ⟨mc_174, List.forall_mem_cons.mpr ⟨mc_173, List.forall_mem_cons.mpr ⟨mc_172, List.forall_mem_cons.mpr ⟨mc_171, List.forall_mem_cons.mpr ⟨mc_170, List.forall_mem_cons.mpr ⟨mc_169, List.forall_mem_cons.mpr ⟨mc_168, List.forall_mem_cons.mpr ⟨mc_463, List.forall_mem_cons.mpr ⟨mc_462, List.forall_mem_cons.mpr ⟨mc_461, List.forall_mem_cons.mpr ⟨mc_460, List.forall_mem_cons.mpr ⟨mc_459, List.forall_mem_cons.mpr ⟨mc_458, List.forall_mem_cons.mpr ⟨mc_457, List.forall_mem_cons.mpr ⟨mc_456, List.forall_mem_cons.mpr ⟨mc_370, fun _ h => absurd h List.not_mem_nil⟩⟩⟩⟩⟩⟩⟩⟩⟩⟩⟩⟩⟩⟩⟩⟩⟩⟩⟩⟩⟩⟩⟩⟩
set_option maxRecDepth 100000 in
theorem mT_wsX11_add_r4 : ∀ w ∈ wsX11_add_r4, w ∈ lw_tbl := by
  unfold wsX11_add_r4
  exact List.forall_mem_cons.mpr ⟨mc_369, List.forall_mem_cons.mpr ⟨mc_368, List.forall_mem_cons.mpr ⟨mc_367, List.forall_mem_cons.mpr ⟨mc_334, List.forall_mem_cons.mpr ⟨mc_333, List.forall_mem_cons.mpr ⟨mc_332, List.forall_mem_cons.mpr ⟨mc_331, List.forall_mem_cons.mpr ⟨mc_366, List.forall_mem_cons.mpr ⟨mc_365, List.forall_mem_cons.mpr ⟨mc_364, List.forall_mem_cons.mpr ⟨mc_363, List.forall_mem_cons.mpr ⟨mc_362, List.forall_mem_cons.mpr ⟨mc_361, List.forall_mem_cons.mpr ⟨mc_360, List.forall_mem_cons.mpr ⟨mc_359, List.forall_mem_cons.mpr ⟨mc_307, List.forall_mem_cons.mpr ⟨mc_306, List.forall_mem_cons.mpr ⟨mc_305, List.forall_mem_cons.mpr ⟨mc_304, List.forall_mem_cons.mpr ⟨mc_303, List.forall_mem_cons.mpr ⟨mc_302, List.forall_mem_cons.mpr ⟨mc_301, List.forall_mem_cons.mpr ⟨mc_300, List.forall_mem_cons.mpr ⟨mc_299, fun _ h => absurd h List.not_mem_nil⟩⟩⟩⟩⟩⟩⟩⟩⟩⟩⟩⟩⟩⟩⟩⟩⟩⟩⟩⟩⟩⟩⟩⟩
set_option maxRecDepth 100000 in
theorem mT_wsX11_add_r5 : ∀ w ∈ wsX11_add_r5, w ∈ lw_tbl := by
  unfold wsX11_add_r5
  exact List.forall_mem_cons.mpr ⟨mc_346, List.forall_mem_cons.mpr ⟨mc_345, List.forall_mem_cons.mpr ⟨mc_344, List.forall_mem_cons.mpr ⟨mc_343, List.forall_mem_cons.mpr ⟨mc_342, List.forall_mem_cons.mpr ⟨mc_341, List.forall_mem_cons.mpr ⟨mc_340, List.forall_mem_cons.mpr ⟨mc_339, List.forall_mem_cons.mpr ⟨mc_338, List.forall_mem_cons.mpr ⟨mc_337, List.forall_mem_cons.mpr ⟨mc_336, List.forall_mem_cons.mpr ⟨mc_335, List.forall_mem_cons.mpr ⟨mc_330, List.forall_mem_cons.mpr ⟨mc_329, List.forall_mem_cons.mpr ⟨mc_328, List.forall_mem_cons.mpr ⟨mc_327, List.forall_mem_cons.mpr ⟨mc_478, List.forall_mem_cons.mpr ⟨mc_477, List.forall_mem_cons.mpr ⟨mc_476, List.forall_mem_cons.mpr ⟨mc_475, List.forall_mem_cons.mpr ⟨mc_474, List.forall_mem_cons.mpr ⟨mc_473, List.forall_mem_cons.mpr ⟨mc_472, List.forall_mem_cons.mpr ⟨mc_471, fun _ h => absurd h List.not_mem_nil⟩⟩⟩⟩⟩⟩⟩⟩⟩⟩⟩⟩⟩⟩⟩⟩⟩⟩⟩⟩⟩⟩⟩⟩
set_option maxRecDepth 100000 in
theorem mT_wsX11_add : ∀ w ∈ wsX11_add, w ∈ lw_tbl := by
  unfold wsX11_add
  exact List.forall_mem_cons.mpr ⟨mc_486, List.forall_mem_append.mpr ⟨List.forall_mem_append.mpr ⟨mT_wsX11_add_r1, List.forall_mem_append.mpr ⟨mT_wsX11_add_r2, List.forall_mem_append.mpr ⟨mT_wsX11_add_r3, List.forall_mem_append.mpr ⟨mT_wsX11_add_r4, mT_wsX11_add_r5⟩⟩⟩⟩, inX11⟩⟩
theorem mc_487 : Cond.selects RX11 yX11_add yX11_add ∈ lw_tbl := mt_6 _ (List.mem_of_getElem? (i := 142) rfl)
theorem mc_488 : Cond.instanceMethod yX11_add ∈ lw_tbl := mt_6 _ (List.mem_of_getElem? (i := 141) rfl)
theorem mc_489 : Cond.methodLink RL 31 yX11_add ∈ lw_tbl := mt_6 _ (List.mem_of_getElem? (i := 140) rfl)
set_option maxRecDepth 100000 in
theorem gT_X11_add : GoodIn lw_tbl (wsV RL 31 RX11 yX11_add wsX11_add) := goodIn_sub (List.forall_mem_append.mpr ⟨List.forall_mem_cons.mpr ⟨mc_489, List.forall_mem_cons.mpr ⟨mc_488, List.forall_mem_cons.mpr ⟨mc_487, List.forall_mem_cons.mpr ⟨mc_155, fun _ h => absurd h List.not_mem_nil⟩⟩⟩⟩, mT_wsX11_add⟩) (by decide +kernel)
theorem mc_490 : Cond.code yX10_save cX10_save 2 (some .int) ∈ lw_tbl := mt_3 _ (List.mem_of_getElem? (i := 64) rfl)
theorem mc_491 : Cond.code yX0_putSave cX0_putSave 3 (some .boolean) ∈ lw_tbl := mt_3 _ (List.mem_of_getElem? (i := 72) rfl)
theorem mc_492 : Cond.selects RX0 yX0_putSave yX0_putSave ∈ lw_tbl := mt_3 _ (List.mem_of_getElem? (i := 71) rfl)
theorem mc_493 : Cond.instanceMethod yX0_putSave ∈ lw_tbl := mt_3 _ (List.mem_of_getElem? (i := 70) rfl)
theorem mc_494 : Cond.methodLink RX9 166 yX0_putSave ∈ lw_tbl := mt_3 _ (List.mem_of_getElem? (i := 69) rfl)
theorem mc_495 : Cond.fieldLink RX9 169 "AheadStore$Claims" "saveCount" "[I" ∈ lw_tbl := mt_1 _ (List.mem_of_getElem? (i := 156) rfl)
theorem mc_496 : Cond.code yX9_putSave cX9_putSave 2 (some .int) ∈ lw_tbl := mt_3 _ (List.mem_of_getElem? (i := 68) rfl)
theorem mc_497 : Cond.selects RX9 yX9_putSave yX9_putSave ∈ lw_tbl := mt_3 _ (List.mem_of_getElem? (i := 67) rfl)
theorem mc_498 : Cond.instanceMethod yX9_putSave ∈ lw_tbl := mt_3 _ (List.mem_of_getElem? (i := 66) rfl)
theorem mc_499 : Cond.methodLink RX10 75 yX9_putSave ∈ lw_tbl := mt_3 _ (List.mem_of_getElem? (i := 65) rfl)
set_option maxRecDepth 100000 in
theorem mT_wsX10_save_r1 : ∀ w ∈ wsX10_save_r1, w ∈ lw_tbl := by
  unfold wsX10_save_r1
  exact List.forall_mem_cons.mpr ⟨mc_18, List.forall_mem_cons.mpr ⟨mc_499, List.forall_mem_cons.mpr ⟨mc_498, List.forall_mem_cons.mpr ⟨mc_497, List.forall_mem_cons.mpr ⟨mc_19, List.forall_mem_cons.mpr ⟨mc_496, List.forall_mem_cons.mpr ⟨mc_35, List.forall_mem_cons.mpr ⟨mc_39, List.forall_mem_cons.mpr ⟨mc_190, List.forall_mem_cons.mpr ⟨mc_495, List.forall_mem_cons.mpr ⟨mc_245, List.forall_mem_cons.mpr ⟨mc_244, List.forall_mem_cons.mpr ⟨mc_243, List.forall_mem_cons.mpr ⟨mc_242, List.forall_mem_cons.mpr ⟨mc_202, List.forall_mem_cons.mpr ⟨mc_201, List.forall_mem_cons.mpr ⟨mc_139, List.forall_mem_cons.mpr ⟨mc_200, List.forall_mem_cons.mpr ⟨mc_494, List.forall_mem_cons.mpr ⟨mc_493, List.forall_mem_cons.mpr ⟨mc_492, List.forall_mem_cons.mpr ⟨mc_36, List.forall_mem_cons.mpr ⟨mc_491, List.forall_mem_cons.mpr ⟨mc_77, fun _ h => absurd h List.not_mem_nil⟩⟩⟩⟩⟩⟩⟩⟩⟩⟩⟩⟩⟩⟩⟩⟩⟩⟩⟩⟩⟩⟩⟩⟩
set_option maxRecDepth 100000 in
theorem mT_wsX10_save_r2 : ∀ w ∈ wsX10_save_r2, w ∈ lw_tbl := by
  unfold wsX10_save_r2
  exact List.forall_mem_cons.mpr ⟨mc_75, fun _ h => absurd h List.not_mem_nil⟩
set_option maxRecDepth 100000 in
theorem mT_wsX10_save : ∀ w ∈ wsX10_save, w ∈ lw_tbl := by
  unfold wsX10_save
  exact List.forall_mem_cons.mpr ⟨mc_490, List.forall_mem_append.mpr ⟨List.forall_mem_append.mpr ⟨List.forall_mem_append.mpr ⟨List.forall_mem_append.mpr ⟨List.forall_mem_append.mpr ⟨mT_wsX10_save_r1, mT_wsX10_save_r2⟩, inX10⟩, inX9⟩, inX5⟩, inX0⟩⟩
theorem mc_500 : Cond.selects RX10 yX10_save yX10_save ∈ lw_tbl := mt_3 _ (List.mem_of_getElem? (i := 63) rfl)
theorem mc_501 : Cond.instanceMethod yX10_save ∈ lw_tbl := mt_3 _ (List.mem_of_getElem? (i := 62) rfl)
theorem mc_502 : Cond.methodLink RL 32 yX10_save ∈ lw_tbl := mt_3 _ (List.mem_of_getElem? (i := 61) rfl)
set_option maxRecDepth 100000 in
theorem gT_X10_save : GoodIn lw_tbl (wsV RL 32 RX10 yX10_save wsX10_save) := goodIn_sub (List.forall_mem_append.mpr ⟨List.forall_mem_cons.mpr ⟨mc_502, List.forall_mem_cons.mpr ⟨mc_501, List.forall_mem_cons.mpr ⟨mc_500, List.forall_mem_cons.mpr ⟨mc_139, fun _ h => absurd h List.not_mem_nil⟩⟩⟩⟩, mT_wsX10_save⟩) (by decide +kernel)
theorem mc_503 : Cond.code yX11_save cX11_save 3 (some .int) ∈ lw_tbl := mt_6 _ (List.mem_of_getElem? (i := 147) rfl)
set_option maxRecDepth 100000 in
theorem mT_wsX11_save : ∀ w ∈ wsX11_save, w ∈ lw_tbl := by
  unfold wsX11_save
  exact List.forall_mem_cons.mpr ⟨mc_503, List.forall_mem_append.mpr ⟨List.forall_mem_cons.mpr ⟨mc_184, List.forall_mem_cons.mpr ⟨mc_151, List.forall_mem_cons.mpr ⟨mc_294, List.forall_mem_cons.mpr ⟨mc_293, List.forall_mem_cons.mpr ⟨mc_292, List.forall_mem_cons.mpr ⟨mc_155, List.forall_mem_cons.mpr ⟨mc_291, List.forall_mem_cons.mpr ⟨mc_183, List.forall_mem_cons.mpr ⟨mc_182, List.forall_mem_cons.mpr ⟨mc_181, List.forall_mem_cons.mpr ⟨mc_180, List.forall_mem_cons.mpr ⟨mc_179, List.forall_mem_cons.mpr ⟨mc_178, List.forall_mem_cons.mpr ⟨mc_177, List.forall_mem_cons.mpr ⟨mc_176, List.forall_mem_cons.mpr ⟨mc_290, List.forall_mem_cons.mpr ⟨mc_289, List.forall_mem_cons.mpr ⟨mc_288, List.forall_mem_cons.mpr ⟨mc_287, List.forall_mem_cons.mpr ⟨mc_286, List.forall_mem_cons.mpr ⟨mc_322, List.forall_mem_cons.mpr ⟨mc_321, List.forall_mem_cons.mpr ⟨mc_320, fun _ h => absurd h List.not_mem_nil⟩⟩⟩⟩⟩⟩⟩⟩⟩⟩⟩⟩⟩⟩⟩⟩⟩⟩⟩⟩⟩⟩⟩, inX11⟩⟩
theorem mc_504 : Cond.selects RX11 yX11_save yX11_save ∈ lw_tbl := mt_6 _ (List.mem_of_getElem? (i := 146) rfl)
theorem mc_505 : Cond.instanceMethod yX11_save ∈ lw_tbl := mt_6 _ (List.mem_of_getElem? (i := 145) rfl)
theorem mc_506 : Cond.methodLink RL 36 yX11_save ∈ lw_tbl := mt_6 _ (List.mem_of_getElem? (i := 144) rfl)
set_option maxRecDepth 100000 in
theorem gT_X11_save : GoodIn lw_tbl (wsV RL 36 RX11 yX11_save wsX11_save) := goodIn_sub (List.forall_mem_append.mpr ⟨List.forall_mem_cons.mpr ⟨mc_506, List.forall_mem_cons.mpr ⟨mc_505, List.forall_mem_cons.mpr ⟨mc_504, List.forall_mem_cons.mpr ⟨mc_155, fun _ h => absurd h List.not_mem_nil⟩⟩⟩⟩, mT_wsX11_save⟩) (by decide +kernel)
theorem mc_507 : Cond.code yX10_back cX10_back 3 (some .int) ∈ lw_tbl := mt_3 _ (List.mem_of_getElem? (i := 76) rfl)
theorem mc_508 : Cond.selects RX0 yX0_saved yX0_saved ∈ lw_tbl := mt_3 _ (List.mem_of_getElem? (i := 83) rfl)
theorem mc_509 : Cond.instanceMethod yX0_saved ∈ lw_tbl := mt_3 _ (List.mem_of_getElem? (i := 82) rfl)
theorem mc_510 : Cond.methodLink RX9 172 yX0_saved ∈ lw_tbl := mt_3 _ (List.mem_of_getElem? (i := 81) rfl)
theorem mc_511 : Cond.constant RX9 175 (1000000) ∈ lw_tbl := mt_3 _ (List.mem_of_getElem? (i := 85) rfl)
theorem mc_512 : Cond.code yX9_goBack cX9_goBack 7 (some .int) ∈ lw_tbl := mt_3 _ (List.mem_of_getElem? (i := 80) rfl)
theorem mc_513 : Cond.selects RX9 yX9_goBack yX9_goBack ∈ lw_tbl := mt_3 _ (List.mem_of_getElem? (i := 79) rfl)
theorem mc_514 : Cond.instanceMethod yX9_goBack ∈ lw_tbl := mt_3 _ (List.mem_of_getElem? (i := 78) rfl)
theorem mc_515 : Cond.methodLink RX10 79 yX9_goBack ∈ lw_tbl := mt_3 _ (List.mem_of_getElem? (i := 77) rfl)
set_option maxRecDepth 100000 in
theorem mT_wsX10_back_r1 : ∀ w ∈ wsX10_back_r1, w ∈ lw_tbl := by
  unfold wsX10_back_r1
  exact List.forall_mem_cons.mpr ⟨mc_18, List.forall_mem_cons.mpr ⟨mc_515, List.forall_mem_cons.mpr ⟨mc_514, List.forall_mem_cons.mpr ⟨mc_513, List.forall_mem_cons.mpr ⟨mc_19, List.forall_mem_cons.mpr ⟨mc_512, List.forall_mem_cons.mpr ⟨mc_35, List.forall_mem_cons.mpr ⟨mc_495, List.forall_mem_cons.mpr ⟨mc_39, List.forall_mem_cons.mpr ⟨mc_190, List.forall_mem_cons.mpr ⟨mc_511, List.forall_mem_cons.mpr ⟨mc_47, List.forall_mem_cons.mpr ⟨mc_249, List.forall_mem_cons.mpr ⟨mc_245, List.forall_mem_cons.mpr ⟨mc_244, List.forall_mem_cons.mpr ⟨mc_243, List.forall_mem_cons.mpr ⟨mc_242, List.forall_mem_cons.mpr ⟨mc_202, List.forall_mem_cons.mpr ⟨mc_201, List.forall_mem_cons.mpr ⟨mc_139, List.forall_mem_cons.mpr ⟨mc_200, List.forall_mem_cons.mpr ⟨mc_510, List.forall_mem_cons.mpr ⟨mc_509, List.forall_mem_cons.mpr ⟨mc_508, fun _ h => absurd h List.not_mem_nil⟩⟩⟩⟩⟩⟩⟩⟩⟩⟩⟩⟩⟩⟩⟩⟩⟩⟩⟩⟩⟩⟩⟩⟩
theorem mc_516 : Cond.methodLink RX9 192 yX2_byteAt ∈ lw_tbl := mt_3 _ (List.mem_of_getElem? (i := 95) rfl)
theorem mc_517 : Cond.methodLink RX9 189 yX2_addressAt ∈ lw_tbl := mt_3 _ (List.mem_of_getElem? (i := 94) rfl)
theorem mc_518 : Cond.code yX9_compensate cX9_compensate 6 none ∈ lw_tbl := mt_3 _ (List.mem_of_getElem? (i := 93) rfl)
theorem mc_519 : Cond.selects RX9 yX9_compensate yX9_compensate ∈ lw_tbl := mt_3 _ (List.mem_of_getElem? (i := 92) rfl)
theorem mc_520 : Cond.instanceMethod yX9_compensate ∈ lw_tbl := mt_3 _ (List.mem_of_getElem? (i := 91) rfl)
theorem mc_521 : Cond.methodLink RX9 179 yX9_compensate ∈ lw_tbl := mt_3 _ (List.mem_of_getElem? (i := 90) rfl)
theorem mc_522 : Cond.code yX2_undoable cX2_undoable 3 (some .boolean) ∈ lw_tbl := mt_3 _ (List.mem_of_getElem? (i := 89) rfl)
theorem mc_523 : Cond.selects RX2 yX2_undoable yX2_undoable ∈ lw_tbl := mt_3 _ (List.mem_of_getElem? (i := 88) rfl)
theorem mc_524 : Cond.instanceMethod yX2_undoable ∈ lw_tbl := mt_3 _ (List.mem_of_getElem? (i := 87) rfl)
theorem mc_525 : Cond.methodLink RX9 176 yX2_undoable ∈ lw_tbl := mt_3 _ (List.mem_of_getElem? (i := 86) rfl)
theorem mc_526 : Cond.code yX0_saved cX0_saved 3 (some .int) ∈ lw_tbl := mt_3 _ (List.mem_of_getElem? (i := 84) rfl)
set_option maxRecDepth 100000 in
theorem mT_wsX10_back_r2 : ∀ w ∈ wsX10_back_r2, w ∈ lw_tbl := by
  unfold wsX10_back_r2
  exact List.forall_mem_cons.mpr ⟨mc_36, List.forall_mem_cons.mpr ⟨mc_526, List.forall_mem_cons.mpr ⟨mc_75, List.forall_mem_cons.mpr ⟨mc_525, List.forall_mem_cons.mpr ⟨mc_524, List.forall_mem_cons.mpr ⟨mc_523, List.forall_mem_cons.mpr ⟨mc_48, List.forall_mem_cons.mpr ⟨mc_522, List.forall_mem_cons.mpr ⟨mc_237, List.forall_mem_cons.mpr ⟨mc_236, List.forall_mem_cons.mpr ⟨mc_235, List.forall_mem_cons.mpr ⟨mc_234, List.forall_mem_cons.mpr ⟨mc_64, List.forall_mem_cons.mpr ⟨mc_65, List.forall_mem_cons.mpr ⟨mc_521, List.forall_mem_cons.mpr ⟨mc_520, List.forall_mem_cons.mpr ⟨mc_519, List.forall_mem_cons.mpr ⟨mc_518, List.forall_mem_cons.mpr ⟨mc_43, List.forall_mem_cons.mpr ⟨mc_517, List.forall_mem_cons.mpr ⟨mc_429, List.forall_mem_cons.mpr ⟨mc_428, List.forall_mem_cons.mpr ⟨mc_427, List.forall_mem_cons.mpr ⟨mc_516, fun _ h => absurd h List.not_mem_nil⟩⟩⟩⟩⟩⟩⟩⟩⟩⟩⟩⟩⟩⟩⟩⟩⟩⟩⟩⟩⟩⟩⟩⟩
set_option maxRecDepth 100000 in
theorem mT_wsX10_back_r3 : ∀ w ∈ wsX10_back_r3, w ∈ lw_tbl := by
  unfold wsX10_back_r3
  exact List.forall_mem_cons.mpr ⟨mc_389, List.forall_mem_cons.mpr ⟨mc_388, List.forall_mem_cons.mpr ⟨mc_387, List.forall_mem_cons.mpr ⟨mc_44, List.forall_mem_cons.mpr ⟨mc_386, List.forall_mem_cons.mpr ⟨mc_96, List.forall_mem_cons.mpr ⟨mc_57, List.forall_mem_cons.mpr ⟨mc_50, List.forall_mem_cons.mpr ⟨mc_385, List.forall_mem_cons.mpr ⟨mc_384, List.forall_mem_cons.mpr ⟨mc_383, List.forall_mem_cons.mpr ⟨mc_413, List.forall_mem_cons.mpr ⟨mc_51, List.forall_mem_cons.mpr ⟨mc_49, List.forall_mem_cons.mpr ⟨mc_56, List.forall_mem_cons.mpr ⟨mc_94, List.forall_mem_cons.mpr ⟨mc_95, List.forall_mem_cons.mpr ⟨mc_412, List.forall_mem_cons.mpr ⟨mc_411, List.forall_mem_cons.mpr ⟨mc_410, List.forall_mem_cons.mpr ⟨mc_409, List.forall_mem_cons.mpr ⟨mc_52, List.forall_mem_cons.mpr ⟨mc_408, List.forall_mem_cons.mpr ⟨mc_407, fun _ h => absurd h List.not_mem_nil⟩⟩⟩⟩⟩⟩⟩⟩⟩⟩⟩⟩⟩⟩⟩⟩⟩⟩⟩⟩⟩⟩⟩⟩
theorem mc_527 : Cond.methodLink RX9 195 yX2_pairAt ∈ lw_tbl := mt_3 _ (List.mem_of_getElem? (i := 96) rfl)
set_option maxRecDepth 100000 in
theorem mT_wsX10_back_r4 : ∀ w ∈ wsX10_back_r4, w ∈ lw_tbl := by
  unfold wsX10_back_r4
  exact List.forall_mem_cons.mpr ⟨mc_406, List.forall_mem_cons.mpr ⟨mc_405, List.forall_mem_cons.mpr ⟨mc_404, List.forall_mem_cons.mpr ⟨mc_403, List.forall_mem_cons.mpr ⟨mc_402, List.forall_mem_cons.mpr ⟨mc_401, List.forall_mem_cons.mpr ⟨mc_400, List.forall_mem_cons.mpr ⟨mc_399, List.forall_mem_cons.mpr ⟨mc_398, List.forall_mem_cons.mpr ⟨mc_240, List.forall_mem_cons.mpr ⟨mc_239, List.forall_mem_cons.mpr ⟨mc_238, List.forall_mem_cons.mpr ⟨mc_63, List.forall_mem_cons.mpr ⟨mc_189, List.forall_mem_cons.mpr ⟨mc_225, List.forall_mem_cons.mpr ⟨mc_224, List.forall_mem_cons.mpr ⟨mc_223, List.forall_mem_cons.mpr ⟨mc_62, List.forall_mem_cons.mpr ⟨mc_222, List.forall_mem_cons.mpr ⟨mc_221, List.forall_mem_cons.mpr ⟨mc_220, List.forall_mem_cons.mpr ⟨mc_219, List.forall_mem_cons.mpr ⟨mc_418, List.forall_mem_cons.mpr ⟨mc_527, fun _ h => absurd h List.not_mem_nil⟩⟩⟩⟩⟩⟩⟩⟩⟩⟩⟩⟩⟩⟩⟩⟩⟩⟩⟩⟩⟩⟩⟩⟩
theorem mc_528 : Cond.code yX2_pairAt cX2_pairAt 2 (some .int) ∈ lw_tbl := mt_3 _ (List.mem_of_getElem? (i := 99) rfl)
theorem mc_529 : Cond.selects RX2 yX2_pairAt yX2_pairAt ∈ lw_tbl := mt_3 _ (List.mem_of_getElem? (i := 98) rfl)
theorem mc_530 : Cond.instanceMethod yX2_pairAt ∈ lw_tbl := mt_3 _ (List.mem_of_getElem? (i := 97) rfl)
set_option maxRecDepth 100000 in
theorem mT_wsX10_back_r5 : ∀ w ∈ wsX10_back_r5, w ∈ lw_tbl := by
  unfold wsX10_back_r5
  exact List.forall_mem_cons.mpr ⟨mc_530, List.forall_mem_cons.mpr ⟨mc_529, List.forall_mem_cons.mpr ⟨mc_528, List.forall_mem_cons.mpr ⟨mc_266, List.forall_mem_cons.mpr ⟨mc_265, List.forall_mem_cons.mpr ⟨mc_264, List.forall_mem_cons.mpr ⟨mc_263, List.forall_mem_cons.mpr ⟨mc_218, List.forall_mem_cons.mpr ⟨mc_217, List.forall_mem_cons.mpr ⟨mc_216, List.forall_mem_cons.mpr ⟨mc_215, List.forall_mem_cons.mpr ⟨mc_214, List.forall_mem_cons.mpr ⟨mc_213, List.forall_mem_cons.mpr ⟨mc_212, List.forall_mem_cons.mpr ⟨mc_211, List.forall_mem_cons.mpr ⟨mc_434, List.forall_mem_cons.mpr ⟨mc_433, List.forall_mem_cons.mpr ⟨mc_432, List.forall_mem_cons.mpr ⟨mc_431, List.forall_mem_cons.mpr ⟨mc_430, List.forall_mem_cons.mpr ⟨mc_426, List.forall_mem_cons.mpr ⟨mc_425, List.forall_mem_cons.mpr ⟨mc_424, List.forall_mem_cons.mpr ⟨mc_423, fun _ h => absurd h List.not_mem_nil⟩⟩⟩⟩⟩⟩⟩⟩⟩⟩⟩⟩⟩⟩⟩⟩⟩⟩⟩⟩⟩⟩⟩⟩
theorem mc_531 : Cond.methodLink RX0 33 yX0_saved ∈ lw_tbl := mt_3 _ (List.mem_of_getElem? (i := 109) rfl)
theorem mc_532 : Cond.code yX0_cutBack cX0_cutBack 5 none ∈ lw_tbl := mt_3 _ (List.mem_of_getElem? (i := 108) rfl)
theorem mc_533 : Cond.selects RX0 yX0_cutBack yX0_cutBack ∈ lw_tbl := mt_3 _ (List.mem_of_getElem? (i := 107) rfl)
theorem mc_534 : Cond.instanceMethod yX0_cutBack ∈ lw_tbl := mt_3 _ (List.mem_of_getElem? (i := 106) rfl)
theorem mc_535 : Cond.methodLink RX9 186 yX0_cutBack ∈ lw_tbl := mt_3 _ (List.mem_of_getElem? (i := 105) rfl)
theorem mc_536 : Cond.methodLink RX2 35 yX2_pairAt ∈ lw_tbl := mt_3 _ (List.mem_of_getElem? (i := 104) rfl)
theorem mc_537 : Cond.code yX2_onward cX2_onward 2 (some .int) ∈ lw_tbl := mt_3 _ (List.mem_of_getElem? (i := 103) rfl)
theorem mc_538 : Cond.selects RX2 yX2_onward yX2_onward ∈ lw_tbl := mt_3 _ (List.mem_of_getElem? (i := 102) rfl)
theorem mc_539 : Cond.instanceMethod yX2_onward ∈ lw_tbl := mt_3 _ (List.mem_of_getElem? (i := 101) rfl)
theorem mc_540 : Cond.methodLink RX9 183 yX2_onward ∈ lw_tbl := mt_3 _ (List.mem_of_getElem? (i := 100) rfl)
set_option maxRecDepth 100000 in
theorem mT_wsX10_back_r6 : ∀ w ∈ wsX10_back_r6, w ∈ lw_tbl := by
  unfold wsX10_back_r6
  exact List.forall_mem_cons.mpr ⟨mc_540, List.forall_mem_cons.mpr ⟨mc_539, List.forall_mem_cons.mpr ⟨mc_538, List.forall_mem_cons.mpr ⟨mc_537, List.forall_mem_cons.mpr ⟨mc_536, List.forall_mem_cons.mpr ⟨mc_535, List.forall_mem_cons.mpr ⟨mc_534, List.forall_mem_cons.mpr ⟨mc_533, List.forall_mem_cons.mpr ⟨mc_532, List.forall_mem_cons.mpr ⟨mc_77, List.forall_mem_cons.mpr ⟨mc_76, List.forall_mem_cons.mpr ⟨mc_74, List.forall_mem_cons.mpr ⟨mc_531, fun _ h => absurd h List.not_mem_nil⟩⟩⟩⟩⟩⟩⟩⟩⟩⟩⟩⟩⟩
set_option maxRecDepth 100000 in
theorem mT_wsX10_back : ∀ w ∈ wsX10_back, w ∈ lw_tbl := by
  unfold wsX10_back
  exact List.forall_mem_cons.mpr ⟨mc_507, List.forall_mem_append.mpr ⟨List.forall_mem_append.mpr ⟨List.forall_mem_append.mpr ⟨List.forall_mem_append.mpr ⟨List.forall_mem_append.mpr ⟨List.forall_mem_append.mpr ⟨List.forall_mem_append.mpr ⟨mT_wsX10_back_r1, List.forall_mem_append.mpr ⟨mT_wsX10_back_r2, List.forall_mem_append.mpr ⟨mT_wsX10_back_r3, List.forall_mem_append.mpr ⟨mT_wsX10_back_r4, List.forall_mem_append.mpr ⟨mT_wsX10_back_r5, mT_wsX10_back_r6⟩⟩⟩⟩⟩, inX10⟩, inX9⟩, inX0⟩, inX5⟩, inX2⟩, inX3⟩⟩
theorem mc_541 : Cond.selects RX10 yX10_back yX10_back ∈ lw_tbl := mt_3 _ (List.mem_of_getElem? (i := 75) rfl)
theorem mc_542 : Cond.instanceMethod yX10_back ∈ lw_tbl := mt_3 _ (List.mem_of_getElem? (i := 74) rfl)
theorem mc_543 : Cond.methodLink RL 37 yX10_back ∈ lw_tbl := mt_3 _ (List.mem_of_getElem? (i := 73) rfl)
set_option maxRecDepth 100000 in
theorem gT_X10_back : GoodIn lw_tbl (wsV RL 37 RX10 yX10_back wsX10_back) := goodIn_sub (List.forall_mem_append.mpr ⟨List.forall_mem_cons.mpr ⟨mc_543, List.forall_mem_cons.mpr ⟨mc_542, List.forall_mem_cons.mpr ⟨mc_541, List.forall_mem_cons.mpr ⟨mc_139, fun _ h => absurd h List.not_mem_nil⟩⟩⟩⟩, mT_wsX10_back⟩) (by decide +kernel)
theorem mc_544 : Cond.code yX11_back cX11_back 7 (some .int) ∈ lw_tbl := mt_6 _ (List.mem_of_getElem? (i := 151) rfl)
theorem mc_545 : Cond.methodLink RX11 160 yX11_isUndoable ∈ lw_tbl := mt_6 _ (List.mem_of_getElem? (i := 152) rfl)
set_option maxRecDepth 100000 in
theorem mT_wsX11_back_r1 : ∀ w ∈ wsX11_back_r1, w ∈ lw_tbl := by
  unfold wsX11_back_r1
  exact List.forall_mem_cons.mpr ⟨mc_184, List.forall_mem_cons.mpr ⟨mc_151, List.forall_mem_cons.mpr ⟨mc_294, List.forall_mem_cons.mpr ⟨mc_293, List.forall_mem_cons.mpr ⟨mc_292, List.forall_mem_cons.mpr ⟨mc_155, List.forall_mem_cons.mpr ⟨mc_291, List.forall_mem_cons.mpr ⟨mc_183, List.forall_mem_cons.mpr ⟨mc_182, List.forall_mem_cons.mpr ⟨mc_181, List.forall_mem_cons.mpr ⟨mc_180, List.forall_mem_cons.mpr ⟨mc_179, List.forall_mem_cons.mpr ⟨mc_178, List.forall_mem_cons.mpr ⟨mc_177, List.forall_mem_cons.mpr ⟨mc_176, List.forall_mem_cons.mpr ⟨mc_290, List.forall_mem_cons.mpr ⟨mc_289, List.forall_mem_cons.mpr ⟨mc_288, List.forall_mem_cons.mpr ⟨mc_287, List.forall_mem_cons.mpr ⟨mc_286, List.forall_mem_cons.mpr ⟨mc_322, List.forall_mem_cons.mpr ⟨mc_321, List.forall_mem_cons.mpr ⟨mc_320, List.forall_mem_cons.mpr ⟨mc_545, fun _ h => absurd h List.not_mem_nil⟩⟩⟩⟩⟩⟩⟩⟩⟩⟩⟩⟩⟩⟩⟩⟩⟩⟩⟩⟩⟩⟩⟩⟩
theorem mc_546 : Cond.code yX11_addressIn cX11_addressIn 2 (some .int) ∈ lw_tbl := mt_6 _ (List.mem_of_getElem? (i := 163) rfl)
theorem mc_547 : Cond.selects RX11 yX11_addressIn yX11_addressIn ∈ lw_tbl := List.mem_append_left _ (List.mem_map.mpr ⟨(yX11_addressIn, 28), List.mem_of_getElem? (i := 56) rfl, rfl⟩)
theorem mc_548 : Cond.instanceMethod yX11_addressIn ∈ lw_tbl := mt_6 _ (List.mem_of_getElem? (i := 162) rfl)
theorem mc_549 : Cond.methodLink RX11 157 yX11_addressIn ∈ lw_tbl := mt_6 _ (List.mem_of_getElem? (i := 160) rfl)
theorem mc_550 : Cond.code yX11_stepsBack cX11_stepsBack 8 none ∈ lw_tbl := mt_6 _ (List.mem_of_getElem? (i := 159) rfl)
theorem mc_551 : Cond.selects RX11 yX11_stepsBack yX11_stepsBack ∈ lw_tbl := List.mem_append_left _ (List.mem_map.mpr ⟨(yX11_stepsBack, 28), List.mem_of_getElem? (i := 55) rfl, rfl⟩)
theorem mc_552 : Cond.instanceMethod yX11_stepsBack ∈ lw_tbl := mt_6 _ (List.mem_of_getElem? (i := 158) rfl)
theorem mc_553 : Cond.methodLink RX11 163 yX11_stepsBack ∈ lw_tbl := mt_6 _ (List.mem_of_getElem? (i := 156) rfl)
theorem mc_554 : Cond.code yX11_isUndoable cX11_isUndoable 2 (some .boolean) ∈ lw_tbl := mt_6 _ (List.mem_of_getElem? (i := 155) rfl)
theorem mc_555 : Cond.selects RX11 yX11_isUndoable yX11_isUndoable ∈ lw_tbl := List.mem_append_left _ (List.mem_map.mpr ⟨(yX11_isUndoable, 28), List.mem_of_getElem? (i := 54) rfl, rfl⟩)
theorem mc_556 : Cond.instanceMethod yX11_isUndoable ∈ lw_tbl := mt_6 _ (List.mem_of_getElem? (i := 154) rfl)
set_option maxRecDepth 100000 in
theorem mT_wsX11_back_r2 : ∀ w ∈ wsX11_back_r2, w ∈ lw_tbl := by
  unfold wsX11_back_r2
  exact List.forall_mem_cons.mpr ⟨mc_556, List.forall_mem_cons.mpr ⟨mc_555, List.forall_mem_cons.mpr ⟨mc_554, List.forall_mem_cons.mpr ⟨mc_334, List.forall_mem_cons.mpr ⟨mc_333, List.forall_mem_cons.mpr ⟨mc_332, List.forall_mem_cons.mpr ⟨mc_331, List.forall_mem_cons.mpr ⟨mc_553, List.forall_mem_cons.mpr ⟨mc_552, List.forall_mem_cons.mpr ⟨mc_551, List.forall_mem_cons.mpr ⟨mc_550, List.forall_mem_cons.mpr ⟨mc_549, List.forall_mem_cons.mpr ⟨mc_548, List.forall_mem_cons.mpr ⟨mc_547, List.forall_mem_cons.mpr ⟨mc_546, List.forall_mem_cons.mpr ⟨mc_439, List.forall_mem_cons.mpr ⟨mc_470, List.forall_mem_cons.mpr ⟨mc_469, List.forall_mem_cons.mpr ⟨mc_468, List.forall_mem_cons.mpr ⟨mc_467, List.forall_mem_cons.mpr ⟨mc_466, List.forall_mem_cons.mpr ⟨mc_465, List.forall_mem_cons.mpr ⟨mc_464, List.forall_mem_cons.mpr ⟨mc_175, fun _ h => absurd h List.not_mem_nil⟩⟩⟩⟩⟩⟩⟩⟩⟩⟩⟩⟩⟩⟩⟩⟩⟩⟩⟩⟩⟩⟩⟩⟩
set_option maxRecDepth 100000 in
theorem mT_wsX11_back_r3 : ∀ w ∈ wsX11_back_r3, w ∈ lw_tbl := by
  unfold wsX11_back_r3
  exact List.forall_mem_cons.mpr ⟨mc_174, List.forall_mem_cons.mpr ⟨mc_173, List.forall_mem_cons.mpr ⟨mc_172, List.forall_mem_cons.mpr ⟨mc_171, List.forall_mem_cons.mpr ⟨mc_170, List.forall_mem_cons.mpr ⟨mc_169, List.forall_mem_cons.mpr ⟨mc_168, List.forall_mem_cons.mpr ⟨mc_463, List.forall_mem_cons.mpr ⟨mc_462, List.forall_mem_cons.mpr ⟨mc_461, List.forall_mem_cons.mpr ⟨mc_460, List.forall_mem_cons.mpr ⟨mc_459, List.forall_mem_cons.mpr ⟨mc_458, List.forall_mem_cons.mpr ⟨mc_457, List.forall_mem_cons.mpr ⟨mc_456, List.forall_mem_cons.mpr ⟨mc_370, List.forall_mem_cons.mpr ⟨mc_369, List.forall_mem_cons.mpr ⟨mc_368, List.forall_mem_cons.mpr ⟨mc_367, List.forall_mem_cons.mpr ⟨mc_315, List.forall_mem_cons.mpr ⟨mc_314, List.forall_mem_cons.mpr ⟨mc_313, List.forall_mem_cons.mpr ⟨mc_312, List.forall_mem_cons.mpr ⟨mc_366, fun _ h => absurd h List.not_mem_nil⟩⟩⟩⟩⟩⟩⟩⟩⟩⟩⟩⟩⟩⟩⟩⟩⟩⟩⟩⟩⟩⟩⟩⟩
theorem mc_557 : Cond.code yX11_two cX11_two 2 (some .int) ∈ lw_tbl := mt_6 _ (List.mem_of_getElem? (i := 167) rfl)
theorem mc_558 : Cond.selects RX11 yX11_two yX11_two ∈ lw_tbl := List.mem_append_left _ (List.mem_map.mpr ⟨(yX11_two, 28), List.mem_of_getElem? (i := 57) rfl, rfl⟩)
theorem mc_559 : Cond.instanceMethod yX11_two ∈ lw_tbl := mt_6 _ (List.mem_of_getElem? (i := 166) rfl)
theorem mc_560 : Cond.methodLink RX11 121 yX11_two ∈ lw_tbl := mt_6 _ (List.mem_of_getElem? (i := 164) rfl)
set_option maxRecDepth 100000 in
theorem mT_wsX11_back_r4 : ∀ w ∈ wsX11_back_r4, w ∈ lw_tbl := by
  unfold wsX11_back_r4
  exact List.forall_mem_cons.mpr ⟨mc_365, List.forall_mem_cons.mpr ⟨mc_364, List.forall_mem_cons.mpr ⟨mc_363, List.forall_mem_cons.mpr ⟨mc_362, List.forall_mem_cons.mpr ⟨mc_361, List.forall_mem_cons.mpr ⟨mc_360, List.forall_mem_cons.mpr ⟨mc_359, List.forall_mem_cons.mpr ⟨mc_307, List.forall_mem_cons.mpr ⟨mc_306, List.forall_mem_cons.mpr ⟨mc_305, List.forall_mem_cons.mpr ⟨mc_304, List.forall_mem_cons.mpr ⟨mc_303, List.forall_mem_cons.mpr ⟨mc_302, List.forall_mem_cons.mpr ⟨mc_301, List.forall_mem_cons.mpr ⟨mc_300, List.forall_mem_cons.mpr ⟨mc_299, List.forall_mem_cons.mpr ⟨mc_346, List.forall_mem_cons.mpr ⟨mc_345, List.forall_mem_cons.mpr ⟨mc_344, List.forall_mem_cons.mpr ⟨mc_343, List.forall_mem_cons.mpr ⟨mc_560, List.forall_mem_cons.mpr ⟨mc_559, List.forall_mem_cons.mpr ⟨mc_558, List.forall_mem_cons.mpr ⟨mc_557, fun _ h => absurd h List.not_mem_nil⟩⟩⟩⟩⟩⟩⟩⟩⟩⟩⟩⟩⟩⟩⟩⟩⟩⟩⟩⟩⟩⟩⟩⟩
theorem mc_561 : Cond.code yX11_behind cX11_behind 2 (some .int) ∈ lw_tbl := mt_6 _ (List.mem_of_getElem? (i := 171) rfl)
theorem mc_562 : Cond.selects RX11 yX11_behind yX11_behind ∈ lw_tbl := List.mem_append_left _ (List.mem_map.mpr ⟨(yX11_behind, 28), List.mem_of_getElem? (i := 58) rfl, rfl⟩)
theorem mc_563 : Cond.instanceMethod yX11_behind ∈ lw_tbl := mt_6 _ (List.mem_of_getElem? (i := 170) rfl)
theorem mc_564 : Cond.methodLink RX11 167 yX11_behind ∈ lw_tbl := mt_6 _ (List.mem_of_getElem? (i := 168) rfl)
set_option maxRecDepth 100000 in
theorem mT_wsX11_back_r5 : ∀ w ∈ wsX11_back_r5, w ∈ lw_tbl := by
  unfold wsX11_back_r5
  exact List.forall_mem_cons.mpr ⟨mc_342, List.forall_mem_cons.mpr ⟨mc_341, List.forall_mem_cons.mpr ⟨mc_340, List.forall_mem_cons.mpr ⟨mc_339, List.forall_mem_cons.mpr ⟨mc_338, List.forall_mem_cons.mpr ⟨mc_337, List.forall_mem_cons.mpr ⟨mc_336, List.forall_mem_cons.mpr ⟨mc_335, List.forall_mem_cons.mpr ⟨mc_330, List.forall_mem_cons.mpr ⟨mc_329, List.forall_mem_cons.mpr ⟨mc_328, List.forall_mem_cons.mpr ⟨mc_327, List.forall_mem_cons.mpr ⟨mc_478, List.forall_mem_cons.mpr ⟨mc_477, List.forall_mem_cons.mpr ⟨mc_476, List.forall_mem_cons.mpr ⟨mc_475, List.forall_mem_cons.mpr ⟨mc_474, List.forall_mem_cons.mpr ⟨mc_473, List.forall_mem_cons.mpr ⟨mc_472, List.forall_mem_cons.mpr ⟨mc_471, List.forall_mem_cons.mpr ⟨mc_564, List.forall_mem_cons.mpr ⟨mc_563, List.forall_mem_cons.mpr ⟨mc_562, List.forall_mem_cons.mpr ⟨mc_561, fun _ h => absurd h List.not_mem_nil⟩⟩⟩⟩⟩⟩⟩⟩⟩⟩⟩⟩⟩⟩⟩⟩⟩⟩⟩⟩⟩⟩⟩⟩
set_option maxRecDepth 100000 in
theorem mT_wsX11_back : ∀ w ∈ wsX11_back, w ∈ lw_tbl := by
  unfold wsX11_back
  exact List.forall_mem_cons.mpr ⟨mc_544, List.forall_mem_append.mpr ⟨List.forall_mem_append.mpr ⟨mT_wsX11_back_r1, List.forall_mem_append.mpr ⟨mT_wsX11_back_r2, List.forall_mem_append.mpr ⟨mT_wsX11_back_r3, List.forall_mem_append.mpr ⟨mT_wsX11_back_r4, mT_wsX11_back_r5⟩⟩⟩⟩, inX11⟩⟩
theorem mc_565 : Cond.selects RX11 yX11_back yX11_back ∈ lw_tbl := mt_6 _ (List.mem_of_getElem? (i := 150) rfl)
theorem mc_566 : Cond.instanceMethod yX11_back ∈ lw_tbl := mt_6 _ (List.mem_of_getElem? (i := 149) rfl)
theorem mc_567 : Cond.methodLink RL 41 yX11_back ∈ lw_tbl := mt_6 _ (List.mem_of_getElem? (i := 148) rfl)
set_option maxRecDepth 100000 in
theorem gT_X11_back : GoodIn lw_tbl (wsV RL 41 RX11 yX11_back wsX11_back) := goodIn_sub (List.forall_mem_append.mpr ⟨List.forall_mem_cons.mpr ⟨mc_567, List.forall_mem_cons.mpr ⟨mc_566, List.forall_mem_cons.mpr ⟨mc_565, List.forall_mem_cons.mpr ⟨mc_155, fun _ h => absurd h List.not_mem_nil⟩⟩⟩⟩, mT_wsX11_back⟩) (by decide +kernel)
theorem mc_568 : Cond.code yX10_roll cX10_roll 3 (some .int) ∈ lw_tbl := mt_3 _ (List.mem_of_getElem? (i := 113) rfl)
theorem mc_569 : Cond.methodLink RX2 39 yX2_undoable ∈ lw_tbl := mt_3 _ (List.mem_of_getElem? (i := 123) rfl)
theorem mc_570 : Cond.constant RX2 38 (1000000) ∈ lw_tbl := mt_3 _ (List.mem_of_getElem? (i := 122) rfl)
theorem mc_571 : Cond.code yX2_nextUndoable cX2_nextUndoable 4 (some .int) ∈ lw_tbl := mt_3 _ (List.mem_of_getElem? (i := 121) rfl)
theorem mc_572 : Cond.selects RX2 yX2_nextUndoable yX2_nextUndoable ∈ lw_tbl := mt_3 _ (List.mem_of_getElem? (i := 120) rfl)
theorem mc_573 : Cond.instanceMethod yX2_nextUndoable ∈ lw_tbl := mt_3 _ (List.mem_of_getElem? (i := 119) rfl)
theorem mc_574 : Cond.methodLink RX9 198 yX2_nextUndoable ∈ lw_tbl := mt_3 _ (List.mem_of_getElem? (i := 118) rfl)
theorem mc_575 : Cond.code yX9_rollBack cX9_rollBack 6 (some .int) ∈ lw_tbl := mt_3 _ (List.mem_of_getElem? (i := 117) rfl)
theorem mc_576 : Cond.selects RX9 yX9_rollBack yX9_rollBack ∈ lw_tbl := mt_3 _ (List.mem_of_getElem? (i := 116) rfl)
theorem mc_577 : Cond.instanceMethod yX9_rollBack ∈ lw_tbl := mt_3 _ (List.mem_of_getElem? (i := 115) rfl)
theorem mc_578 : Cond.methodLink RX10 83 yX9_rollBack ∈ lw_tbl := mt_3 _ (List.mem_of_getElem? (i := 114) rfl)
set_option maxRecDepth 100000 in
theorem mT_wsX10_roll_r1 : ∀ w ∈ wsX10_roll_r1, w ∈ lw_tbl := by
  unfold wsX10_roll_r1
  exact List.forall_mem_cons.mpr ⟨mc_18, List.forall_mem_cons.mpr ⟨mc_578, List.forall_mem_cons.mpr ⟨mc_577, List.forall_mem_cons.mpr ⟨mc_576, List.forall_mem_cons.mpr ⟨mc_19, List.forall_mem_cons.mpr ⟨mc_575, List.forall_mem_cons.mpr ⟨mc_39, List.forall_mem_cons.mpr ⟨mc_202, List.forall_mem_cons.mpr ⟨mc_47, List.forall_mem_cons.mpr ⟨mc_250, List.forall_mem_cons.mpr ⟨mc_201, List.forall_mem_cons.mpr ⟨mc_139, List.forall_mem_cons.mpr ⟨mc_200, List.forall_mem_cons.mpr ⟨mc_574, List.forall_mem_cons.mpr ⟨mc_573, List.forall_mem_cons.mpr ⟨mc_572, List.forall_mem_cons.mpr ⟨mc_48, List.forall_mem_cons.mpr ⟨mc_571, List.forall_mem_cons.mpr ⟨mc_570, List.forall_mem_cons.mpr ⟨mc_569, List.forall_mem_cons.mpr ⟨mc_524, List.forall_mem_cons.mpr ⟨mc_523, List.forall_mem_cons.mpr ⟨mc_522, List.forall_mem_cons.mpr ⟨mc_237, fun _ h => absurd h List.not_mem_nil⟩⟩⟩⟩⟩⟩⟩⟩⟩⟩⟩⟩⟩⟩⟩⟩⟩⟩⟩⟩⟩⟩⟩⟩
theorem mc_579 : Cond.methodLink RX2 43 yX2_onward ∈ lw_tbl := mt_3 _ (List.mem_of_getElem? (i := 124) rfl)
set_option maxRecDepth 100000 in
theorem mT_wsX10_roll_r2 : ∀ w ∈ wsX10_roll_r2, w ∈ lw_tbl := by
  unfold wsX10_roll_r2
  exact List.forall_mem_cons.mpr ⟨mc_236, List.forall_mem_cons.mpr ⟨mc_235, List.forall_mem_cons.mpr ⟨mc_234, List.forall_mem_cons.mpr ⟨mc_64, List.forall_mem_cons.mpr ⟨mc_65, List.forall_mem_cons.mpr ⟨mc_579, List.forall_mem_cons.mpr ⟨mc_539, List.forall_mem_cons.mpr ⟨mc_538, List.forall_mem_cons.mpr ⟨mc_537, List.forall_mem_cons.mpr ⟨mc_536, List.forall_mem_cons.mpr ⟨mc_530, List.forall_mem_cons.mpr ⟨mc_529, List.forall_mem_cons.mpr ⟨mc_528, List.forall_mem_cons.mpr ⟨mc_233, List.forall_mem_cons.mpr ⟨mc_232, List.forall_mem_cons.mpr ⟨mc_231, List.forall_mem_cons.mpr ⟨mc_230, List.forall_mem_cons.mpr ⟨mc_35, List.forall_mem_cons.mpr ⟨mc_194, List.forall_mem_cons.mpr ⟨mc_193, List.forall_mem_cons.mpr ⟨mc_192, List.forall_mem_cons.mpr ⟨mc_191, List.forall_mem_cons.mpr ⟨mc_190, List.forall_mem_cons.mpr ⟨mc_189, fun _ h => absurd h List.not_mem_nil⟩⟩⟩⟩⟩⟩⟩⟩⟩⟩⟩⟩⟩⟩⟩⟩⟩⟩⟩⟩⟩⟩⟩⟩
set_option maxRecDepth 100000 in
theorem mT_wsX10_roll_r3 : ∀ w ∈ wsX10_roll_r3, w ∈ lw_tbl := by
  unfold wsX10_roll_r3
  exact List.forall_mem_cons.mpr ⟨mc_225, List.forall_mem_cons.mpr ⟨mc_224, List.forall_mem_cons.mpr ⟨mc_223, List.forall_mem_cons.mpr ⟨mc_62, List.forall_mem_cons.mpr ⟨mc_222, List.forall_mem_cons.mpr ⟨mc_221, List.forall_mem_cons.mpr ⟨mc_220, List.forall_mem_cons.mpr ⟨mc_219, List.forall_mem_cons.mpr ⟨mc_218, List.forall_mem_cons.mpr ⟨mc_217, List.forall_mem_cons.mpr ⟨mc_216, List.forall_mem_cons.mpr ⟨mc_215, List.forall_mem_cons.mpr ⟨mc_214, List.forall_mem_cons.mpr ⟨mc_213, List.forall_mem_cons.mpr ⟨mc_212, List.forall_mem_cons.mpr ⟨mc_211, List.forall_mem_cons.mpr ⟨mc_229, List.forall_mem_cons.mpr ⟨mc_228, List.forall_mem_cons.mpr ⟨mc_227, List.forall_mem_cons.mpr ⟨mc_40, List.forall_mem_cons.mpr ⟨mc_226, List.forall_mem_cons.mpr ⟨mc_86, List.forall_mem_cons.mpr ⟨mc_85, List.forall_mem_cons.mpr ⟨mc_84, fun _ h => absurd h List.not_mem_nil⟩⟩⟩⟩⟩⟩⟩⟩⟩⟩⟩⟩⟩⟩⟩⟩⟩⟩⟩⟩⟩⟩⟩⟩
set_option maxRecDepth 100000 in
theorem mT_wsX10_roll_r4 : ∀ w ∈ wsX10_roll_r4, w ∈ lw_tbl := by
  unfold wsX10_roll_r4
  exact List.forall_mem_cons.mpr ⟨mc_262, List.forall_mem_cons.mpr ⟨mc_261, List.forall_mem_cons.mpr ⟨mc_260, List.forall_mem_cons.mpr ⟨mc_36, List.forall_mem_cons.mpr ⟨mc_259, List.forall_mem_cons.mpr ⟨mc_78, List.forall_mem_cons.mpr ⟨mc_80, List.forall_mem_cons.mpr ⟨mc_79, List.forall_mem_cons.mpr ⟨mc_258, List.forall_mem_cons.mpr ⟨mc_257, List.forall_mem_cons.mpr ⟨mc_256, List.forall_mem_cons.mpr ⟨mc_255, List.forall_mem_cons.mpr ⟨mc_77, List.forall_mem_cons.mpr ⟨mc_76, List.forall_mem_cons.mpr ⟨mc_521, List.forall_mem_cons.mpr ⟨mc_520, List.forall_mem_cons.mpr ⟨mc_519, List.forall_mem_cons.mpr ⟨mc_518, List.forall_mem_cons.mpr ⟨mc_43, List.forall_mem_cons.mpr ⟨mc_517, List.forall_mem_cons.mpr ⟨mc_429, List.forall_mem_cons.mpr ⟨mc_428, List.forall_mem_cons.mpr ⟨mc_427, List.forall_mem_cons.mpr ⟨mc_516, fun _ h => absurd h List.not_mem_nil⟩⟩⟩⟩⟩⟩⟩⟩⟩⟩⟩⟩⟩⟩⟩⟩⟩⟩⟩⟩⟩⟩⟩⟩
set_option maxRecDepth 100000 in
theorem mT_wsX10_roll_r5 : ∀ w ∈ wsX10_roll_r5, w ∈ lw_tbl := by
  unfold wsX10_roll_r5
  exact List.forall_mem_cons.mpr ⟨mc_389, List.forall_mem_cons.mpr ⟨mc_388, List.forall_mem_cons.mpr ⟨mc_387, List.forall_mem_cons.mpr ⟨mc_44, List.forall_mem_cons.mpr ⟨mc_386, List.forall_mem_cons.mpr ⟨mc_96, List.forall_mem_cons.mpr ⟨mc_57, List.forall_mem_cons.mpr ⟨mc_50, List.forall_mem_cons.mpr ⟨mc_385, List.forall_mem_cons.mpr ⟨mc_384, List.forall_mem_cons.mpr ⟨mc_383, List.forall_mem_cons.mpr ⟨mc_413, List.forall_mem_cons.mpr ⟨mc_51, List.forall_mem_cons.mpr ⟨mc_49, List.forall_mem_cons.mpr ⟨mc_56, List.forall_mem_cons.mpr ⟨mc_94, List.forall_mem_cons.mpr ⟨mc_95, List.forall_mem_cons.mpr ⟨mc_412, List.forall_mem_cons.mpr ⟨mc_411, List.forall_mem_cons.mpr ⟨mc_410, List.forall_mem_cons.mpr ⟨mc_409, List.forall_mem_cons.mpr ⟨mc_52, List.forall_mem_cons.mpr ⟨mc_408, List.forall_mem_cons.mpr ⟨mc_407, fun _ h => absurd h List.not_mem_nil⟩⟩⟩⟩⟩⟩⟩⟩⟩⟩⟩⟩⟩⟩⟩⟩⟩⟩⟩⟩⟩⟩⟩⟩
set_option maxRecDepth 100000 in
theorem mT_wsX10_roll_r6 : ∀ w ∈ wsX10_roll_r6, w ∈ lw_tbl := by
  unfold wsX10_roll_r6
  exact List.forall_mem_cons.mpr ⟨mc_406, List.forall_mem_cons.mpr ⟨mc_405, List.forall_mem_cons.mpr ⟨mc_404, List.forall_mem_cons.mpr ⟨mc_403, List.forall_mem_cons.mpr ⟨mc_402, List.forall_mem_cons.mpr ⟨mc_401, List.forall_mem_cons.mpr ⟨mc_400, List.forall_mem_cons.mpr ⟨mc_399, List.forall_mem_cons.mpr ⟨mc_398, List.forall_mem_cons.mpr ⟨mc_240, List.forall_mem_cons.mpr ⟨mc_239, List.forall_mem_cons.mpr ⟨mc_238, List.forall_mem_cons.mpr ⟨mc_63, List.forall_mem_cons.mpr ⟨mc_418, List.forall_mem_cons.mpr ⟨mc_527, List.forall_mem_cons.mpr ⟨mc_266, List.forall_mem_cons.mpr ⟨mc_265, List.forall_mem_cons.mpr ⟨mc_264, List.forall_mem_cons.mpr ⟨mc_263, List.forall_mem_cons.mpr ⟨mc_434, List.forall_mem_cons.mpr ⟨mc_433, List.forall_mem_cons.mpr ⟨mc_432, List.forall_mem_cons.mpr ⟨mc_431, List.forall_mem_cons.mpr ⟨mc_430, fun _ h => absurd h List.not_mem_nil⟩⟩⟩⟩⟩⟩⟩⟩⟩⟩⟩⟩⟩⟩⟩⟩⟩⟩⟩⟩⟩⟩⟩⟩
set_option maxRecDepth 100000 in
theorem mT_wsX10_roll_r7 : ∀ w ∈ wsX10_roll_r7, w ∈ lw_tbl := by
  unfold wsX10_roll_r7
  exact List.forall_mem_cons.mpr ⟨mc_426, List.forall_mem_cons.mpr ⟨mc_425, List.forall_mem_cons.mpr ⟨mc_424, List.forall_mem_cons.mpr ⟨mc_423, List.forall_mem_cons.mpr ⟨mc_540, fun _ h => absurd h List.not_mem_nil⟩⟩⟩⟩⟩
set_option maxRecDepth 100000 in
theorem mT_wsX10_roll : ∀ w ∈ wsX10_roll, w ∈ lw_tbl := by
  unfold wsX10_roll
  exact List.forall_mem_cons.mpr ⟨mc_568, List.forall_mem_append.mpr ⟨List.forall_mem_append.mpr ⟨List.forall_mem_append.mpr ⟨List.forall_mem_append.mpr ⟨List.forall_mem_append.mpr ⟨List.forall_mem_append.mpr ⟨List.forall_mem_append.mpr ⟨mT_wsX10_roll_r1, List.forall_mem_append.mpr ⟨mT_wsX10_roll_r2, List.forall_mem_append.mpr ⟨mT_wsX10_roll_r3, List.forall_mem_append.mpr ⟨mT_wsX10_roll_r4, List.forall_mem_append.mpr ⟨mT_wsX10_roll_r5, List.forall_mem_append.mpr ⟨mT_wsX10_roll_r6, mT_wsX10_roll_r7⟩⟩⟩⟩⟩⟩, inX10⟩, inX9⟩, inX5⟩, inX2⟩, inX0⟩, inX3⟩⟩
theorem mc_580 : Cond.selects RX10 yX10_roll yX10_roll ∈ lw_tbl := mt_3 _ (List.mem_of_getElem? (i := 112) rfl)
theorem mc_581 : Cond.instanceMethod yX10_roll ∈ lw_tbl := mt_3 _ (List.mem_of_getElem? (i := 111) rfl)
theorem mc_582 : Cond.methodLink RL 42 yX10_roll ∈ lw_tbl := mt_3 _ (List.mem_of_getElem? (i := 110) rfl)
set_option maxRecDepth 100000 in
theorem gT_X10_roll : GoodIn lw_tbl (wsV RL 42 RX10 yX10_roll wsX10_roll) := goodIn_sub (List.forall_mem_append.mpr ⟨List.forall_mem_cons.mpr ⟨mc_582, List.forall_mem_cons.mpr ⟨mc_581, List.forall_mem_cons.mpr ⟨mc_580, List.forall_mem_cons.mpr ⟨mc_139, fun _ h => absurd h List.not_mem_nil⟩⟩⟩⟩, mT_wsX10_roll⟩) (by decide +kernel)
theorem mc_583 : Cond.code yX11_roll cX11_roll 5 (some .int) ∈ lw_tbl := mt_6 _ (List.mem_of_getElem? (i := 207) rfl)
set_option maxRecDepth 100000 in
theorem mT_wsX11_roll_r1 : ∀ w ∈ wsX11_roll_r1, w ∈ lw_tbl := by
  unfold wsX11_roll_r1
  exact List.forall_mem_cons.mpr ⟨mc_184, List.forall_mem_cons.mpr ⟨mc_151, List.forall_mem_cons.mpr ⟨mc_179, List.forall_mem_cons.mpr ⟨mc_178, List.forall_mem_cons.mpr ⟨mc_177, List.forall_mem_cons.mpr ⟨mc_155, List.forall_mem_cons.mpr ⟨mc_176, List.forall_mem_cons.mpr ⟨mc_294, List.forall_mem_cons.mpr ⟨mc_293, List.forall_mem_cons.mpr ⟨mc_292, List.forall_mem_cons.mpr ⟨mc_291, List.forall_mem_cons.mpr ⟨mc_183, List.forall_mem_cons.mpr ⟨mc_182, List.forall_mem_cons.mpr ⟨mc_181, List.forall_mem_cons.mpr ⟨mc_180, List.forall_mem_cons.mpr ⟨mc_290, List.forall_mem_cons.mpr ⟨mc_289, List.forall_mem_cons.mpr ⟨mc_288, List.forall_mem_cons.mpr ⟨mc_287, List.forall_mem_cons.mpr ⟨mc_286, List.forall_mem_cons.mpr ⟨mc_322, List.forall_mem_cons.mpr ⟨mc_321, List.forall_mem_cons.mpr ⟨mc_320, List.forall_mem_cons.mpr ⟨mc_545, fun _ h => absurd h List.not_mem_nil⟩⟩⟩⟩⟩⟩⟩⟩⟩⟩⟩⟩⟩⟩⟩⟩⟩⟩⟩⟩⟩⟩⟩⟩
set_option maxRecDepth 100000 in
theorem mT_wsX11_roll_r2 : ∀ w ∈ wsX11_roll_r2, w ∈ lw_tbl := by
  unfold wsX11_roll_r2
  exact List.forall_mem_cons.mpr ⟨mc_556, List.forall_mem_cons.mpr ⟨mc_555, List.forall_mem_cons.mpr ⟨mc_554, List.forall_mem_cons.mpr ⟨mc_334, List.forall_mem_cons.mpr ⟨mc_333, List.forall_mem_cons.mpr ⟨mc_332, List.forall_mem_cons.mpr ⟨mc_331, List.forall_mem_cons.mpr ⟨mc_564, List.forall_mem_cons.mpr ⟨mc_563, List.forall_mem_cons.mpr ⟨mc_562, List.forall_mem_cons.mpr ⟨mc_561, List.forall_mem_cons.mpr ⟨mc_560, List.forall_mem_cons.mpr ⟨mc_559, List.forall_mem_cons.mpr ⟨mc_558, List.forall_mem_cons.mpr ⟨mc_557, List.forall_mem_cons.mpr ⟨mc_311, List.forall_mem_cons.mpr ⟨mc_310, List.forall_mem_cons.mpr ⟨mc_309, List.forall_mem_cons.mpr ⟨mc_308, List.forall_mem_cons.mpr ⟨mc_307, List.forall_mem_cons.mpr ⟨mc_306, List.forall_mem_cons.mpr ⟨mc_305, List.forall_mem_cons.mpr ⟨mc_304, List.forall_mem_cons.mpr ⟨mc_303, fun _ h => absurd h List.not_mem_nil⟩⟩⟩⟩⟩⟩⟩⟩⟩⟩⟩⟩⟩⟩⟩⟩⟩⟩⟩⟩⟩⟩⟩⟩
set_option maxRecDepth 100000 in
theorem mT_wsX11_roll_r3 : ∀ w ∈ wsX11_roll_r3, w ∈ lw_tbl := by
  unfold wsX11_roll_r3
  exact List.forall_mem_cons.mpr ⟨mc_315, List.forall_mem_cons.mpr ⟨mc_314, List.forall_mem_cons.mpr ⟨mc_313, List.forall_mem_cons.mpr ⟨mc_312, List.forall_mem_cons.mpr ⟨mc_302, List.forall_mem_cons.mpr ⟨mc_301, List.forall_mem_cons.mpr ⟨mc_300, List.forall_mem_cons.mpr ⟨mc_299, List.forall_mem_cons.mpr ⟨mc_346, List.forall_mem_cons.mpr ⟨mc_345, List.forall_mem_cons.mpr ⟨mc_344, List.forall_mem_cons.mpr ⟨mc_343, List.forall_mem_cons.mpr ⟨mc_342, List.forall_mem_cons.mpr ⟨mc_341, List.forall_mem_cons.mpr ⟨mc_340, List.forall_mem_cons.mpr ⟨mc_339, List.forall_mem_cons.mpr ⟨mc_338, List.forall_mem_cons.mpr ⟨mc_337, List.forall_mem_cons.mpr ⟨mc_336, List.forall_mem_cons.mpr ⟨mc_335, List.forall_mem_cons.mpr ⟨mc_330, List.forall_mem_cons.mpr ⟨mc_329, List.forall_mem_cons.mpr ⟨mc_328, List.forall_mem_cons.mpr ⟨mc_327, fun _ h => absurd h List.not_mem_nil⟩⟩⟩⟩⟩⟩⟩⟩⟩⟩⟩⟩⟩⟩⟩⟩⟩⟩⟩⟩⟩⟩⟩⟩
set_option maxRecDepth 100000 in
theorem mT_wsX11_roll_r4 : ∀ w ∈ wsX11_roll_r4, w ∈ lw_tbl := by
  unfold wsX11_roll_r4
  exact List.forall_mem_cons.mpr ⟨mc_358, List.forall_mem_cons.mpr ⟨mc_357, List.forall_mem_cons.mpr ⟨mc_356, List.forall_mem_cons.mpr ⟨mc_355, List.forall_mem_cons.mpr ⟨mc_553, List.forall_mem_cons.mpr ⟨mc_552, List.forall_mem_cons.mpr ⟨mc_551, List.forall_mem_cons.mpr ⟨mc_550, List.forall_mem_cons.mpr ⟨mc_549, List.forall_mem_cons.mpr ⟨mc_548, List.forall_mem_cons.mpr ⟨mc_547, List.forall_mem_cons.mpr ⟨mc_546, List.forall_mem_cons.mpr ⟨mc_439, List.forall_mem_cons.mpr ⟨mc_470, List.forall_mem_cons.mpr ⟨mc_469, List.forall_mem_cons.mpr ⟨mc_468, List.forall_mem_cons.mpr ⟨mc_467, List.forall_mem_cons.mpr ⟨mc_466, List.forall_mem_cons.mpr ⟨mc_465, List.forall_mem_cons.mpr ⟨mc_464, List.forall_mem_cons.mpr ⟨mc_175, List.forall_mem_cons.mpr ⟨mc_174, List.forall_mem_cons.mpr ⟨mc_173, List.forall_mem_cons.mpr ⟨mc_172, fun _ h => absurd h List.not_mem_nil⟩⟩⟩⟩⟩⟩⟩⟩⟩⟩⟩⟩⟩⟩⟩⟩⟩⟩⟩⟩⟩⟩⟩⟩
set_option maxRecDepth 100000 in
theorem mT_wsX11_roll_r5 : ∀ w ∈ wsX11_roll_r5, w ∈ lw_tbl := by
  unfold wsX11_roll_r5
  exact List.forall_mem_cons.mpr ⟨mc_171, List.forall_mem_cons.mpr ⟨mc_170, List.forall_mem_cons.mpr ⟨mc_169, List.forall_mem_cons.mpr ⟨mc_168, List.forall_mem_cons.mpr ⟨mc_463, List.forall_mem_cons.mpr ⟨mc_462, List.forall_mem_cons.mpr ⟨mc_461, List.forall_mem_cons.mpr ⟨mc_460, List.forall_mem_cons.mpr ⟨mc_459, List.forall_mem_cons.mpr ⟨mc_458, List.forall_mem_cons.mpr ⟨mc_457, List.forall_mem_cons.mpr ⟨mc_456, List.forall_mem_cons.mpr ⟨mc_370, List.forall_mem_cons.mpr ⟨mc_369, List.forall_mem_cons.mpr ⟨mc_368, List.forall_mem_cons.mpr ⟨mc_367, List.forall_mem_cons.mpr ⟨mc_366, List.forall_mem_cons.mpr ⟨mc_365, List.forall_mem_cons.mpr ⟨mc_364, List.forall_mem_cons.mpr ⟨mc_363, List.forall_mem_cons.mpr ⟨mc_362, List.forall_mem_cons.mpr ⟨mc_361, List.forall_mem_cons.mpr ⟨mc_360, List.forall_mem_cons.mpr ⟨mc_359, fun _ h => absurd h List.not_mem_nil⟩⟩⟩⟩⟩⟩⟩⟩⟩⟩⟩⟩⟩⟩⟩⟩⟩⟩⟩⟩⟩⟩⟩⟩
set_option maxRecDepth 100000 in
theorem mT_wsX11_roll_r6 : ∀ w ∈ wsX11_roll_r6, w ∈ lw_tbl := by
  unfold wsX11_roll_r6
  exact List.forall_mem_cons.mpr ⟨mc_478, List.forall_mem_cons.mpr ⟨mc_477, List.forall_mem_cons.mpr ⟨mc_476, List.forall_mem_cons.mpr ⟨mc_475, List.forall_mem_cons.mpr ⟨mc_474, List.forall_mem_cons.mpr ⟨mc_473, List.forall_mem_cons.mpr ⟨mc_472, List.forall_mem_cons.mpr ⟨mc_471, fun _ h => absurd h List.not_mem_nil⟩⟩⟩⟩⟩⟩⟩⟩
set_option maxRecDepth 100000 in
theorem mT_wsX11_roll : ∀ w ∈ wsX11_roll, w ∈ lw_tbl := by
  unfold wsX11_roll
  exact List.forall_mem_cons.mpr ⟨mc_583, List.forall_mem_append.mpr ⟨List.forall_mem_append.mpr ⟨mT_wsX11_roll_r1, List.forall_mem_append.mpr ⟨mT_wsX11_roll_r2, List.forall_mem_append.mpr ⟨mT_wsX11_roll_r3, List.forall_mem_append.mpr ⟨mT_wsX11_roll_r4, List.forall_mem_append.mpr ⟨mT_wsX11_roll_r5, mT_wsX11_roll_r6⟩⟩⟩⟩⟩, inX11⟩⟩
theorem mc_584 : Cond.selects RX11 yX11_roll yX11_roll ∈ lw_tbl := mt_6 _ (List.mem_of_getElem? (i := 206) rfl)
theorem mc_585 : Cond.instanceMethod yX11_roll ∈ lw_tbl := mt_6 _ (List.mem_of_getElem? (i := 205) rfl)
theorem mc_586 : Cond.methodLink RL 45 yX11_roll ∈ lw_tbl := mt_6 _ (List.mem_of_getElem? (i := 204) rfl)
set_option maxRecDepth 100000 in
theorem gT_X11_roll : GoodIn lw_tbl (wsV RL 45 RX11 yX11_roll wsX11_roll) := goodIn_sub (List.forall_mem_append.mpr ⟨List.forall_mem_cons.mpr ⟨mc_586, List.forall_mem_cons.mpr ⟨mc_585, List.forall_mem_cons.mpr ⟨mc_584, List.forall_mem_cons.mpr ⟨mc_155, fun _ h => absurd h List.not_mem_nil⟩⟩⟩⟩, mT_wsX11_roll⟩) (by decide +kernel)
theorem mc_587 : Cond.code yX10_keep cX10_keep 3 (some .boolean) ∈ lw_tbl := mt_3 _ (List.mem_of_getElem? (i := 128) rfl)
theorem mc_588 : Cond.methodLink RX2 49 yX2_lengthDue ∈ lw_tbl := mt_3 _ (List.mem_of_getElem? (i := 141) rfl)
theorem mc_589 : Cond.code yX2_wholeAt cX2_wholeAt 6 (some .boolean) ∈ lw_tbl := mt_3 _ (List.mem_of_getElem? (i := 140) rfl)
theorem mc_590 : Cond.selects RX2 yX2_wholeAt yX2_wholeAt ∈ lw_tbl := mt_3 _ (List.mem_of_getElem? (i := 139) rfl)
theorem mc_591 : Cond.instanceMethod yX2_wholeAt ∈ lw_tbl := mt_3 _ (List.mem_of_getElem? (i := 138) rfl)
theorem mc_592 : Cond.methodLink RX2 52 yX2_wholeAt ∈ lw_tbl := mt_3 _ (List.mem_of_getElem? (i := 137) rfl)
theorem mc_593 : Cond.code yX2_beginsAt cX2_beginsAt 3 (some .boolean) ∈ lw_tbl := mt_3 _ (List.mem_of_getElem? (i := 136) rfl)
theorem mc_594 : Cond.selects RX2 yX2_beginsAt yX2_beginsAt ∈ lw_tbl := mt_3 _ (List.mem_of_getElem? (i := 135) rfl)
theorem mc_595 : Cond.instanceMethod yX2_beginsAt ∈ lw_tbl := mt_3 _ (List.mem_of_getElem? (i := 134) rfl)
theorem mc_596 : Cond.methodLink RX9 204 yX2_beginsAt ∈ lw_tbl := mt_3 _ (List.mem_of_getElem? (i := 133) rfl)
theorem mc_597 : Cond.code yX9_flush cX9_flush 2 (some .boolean) ∈ lw_tbl := mt_3 _ (List.mem_of_getElem? (i := 132) rfl)
theorem mc_598 : Cond.selects RX9 yX9_flush yX9_flush ∈ lw_tbl := mt_3 _ (List.mem_of_getElem? (i := 131) rfl)
theorem mc_599 : Cond.instanceMethod yX9_flush ∈ lw_tbl := mt_3 _ (List.mem_of_getElem? (i := 130) rfl)
theorem mc_600 : Cond.methodLink RX10 86 yX9_flush ∈ lw_tbl := mt_3 _ (List.mem_of_getElem? (i := 129) rfl)
set_option maxRecDepth 100000 in
theorem mT_wsX10_keep_r1 : ∀ w ∈ wsX10_keep_r1, w ∈ lw_tbl := by
  unfold wsX10_keep_r1
  exact List.forall_mem_cons.mpr ⟨mc_18, List.forall_mem_cons.mpr ⟨mc_600, List.forall_mem_cons.mpr ⟨mc_599, List.forall_mem_cons.mpr ⟨mc_598, List.forall_mem_cons.mpr ⟨mc_19, List.forall_mem_cons.mpr ⟨mc_597, List.forall_mem_cons.mpr ⟨mc_26, List.forall_mem_cons.mpr ⟨mc_47, List.forall_mem_cons.mpr ⟨mc_596, List.forall_mem_cons.mpr ⟨mc_595, List.forall_mem_cons.mpr ⟨mc_594, List.forall_mem_cons.mpr ⟨mc_48, List.forall_mem_cons.mpr ⟨mc_593, List.forall_mem_cons.mpr ⟨mc_64, List.forall_mem_cons.mpr ⟨mc_592, List.forall_mem_cons.mpr ⟨mc_591, List.forall_mem_cons.mpr ⟨mc_590, List.forall_mem_cons.mpr ⟨mc_589, List.forall_mem_cons.mpr ⟨mc_65, List.forall_mem_cons.mpr ⟨mc_237, List.forall_mem_cons.mpr ⟨mc_236, List.forall_mem_cons.mpr ⟨mc_235, List.forall_mem_cons.mpr ⟨mc_234, List.forall_mem_cons.mpr ⟨mc_588, fun _ h => absurd h List.not_mem_nil⟩⟩⟩⟩⟩⟩⟩⟩⟩⟩⟩⟩⟩⟩⟩⟩⟩⟩⟩⟩⟩⟩⟩⟩
theorem mc_601 : Cond.code yX9_writePage cX9_writePage 3 (some .boolean) ∈ lw_tbl := mt_3 _ (List.mem_of_getElem? (i := 161) rfl)
theorem mc_602 : Cond.selects RX9 yX9_writePage yX9_writePage ∈ lw_tbl := mt_3 _ (List.mem_of_getElem? (i := 160) rfl)
theorem mc_603 : Cond.instanceMethod yX9_writePage ∈ lw_tbl := mt_3 _ (List.mem_of_getElem? (i := 159) rfl)
theorem mc_604 : Cond.methodLink RX10 89 yX9_writePage ∈ lw_tbl := mt_3 _ (List.mem_of_getElem? (i := 158) rfl)
theorem mc_605 : Cond.code yX2_flushAll cX2_flushAll 1 none ∈ lw_tbl := mt_3 _ (List.mem_of_getElem? (i := 157) rfl)
theorem mc_606 : Cond.selects RX2 yX2_flushAll yX2_flushAll ∈ lw_tbl := mt_3 _ (List.mem_of_getElem? (i := 156) rfl)
theorem mc_607 : Cond.instanceMethod yX2_flushAll ∈ lw_tbl := mt_3 _ (List.mem_of_getElem? (i := 155) rfl)
theorem mc_608 : Cond.methodLink RX9 207 yX2_flushAll ∈ lw_tbl := mt_3 _ (List.mem_of_getElem? (i := 154) rfl)
theorem mc_609 : Cond.code Lib.Math.max.name Lib.Math.max.code 2 (some .int) ∈ lw_tbl := mt_3 _ (List.mem_of_getElem? (i := 153) rfl)
theorem mc_610 : Cond.initialized "java/lang/Math" ∈ lw_tbl := mt_1 _ (List.mem_of_getElem? (i := 15) rfl)
theorem mc_611 : Cond.static Lib.Math.max.name ∈ lw_tbl := mt_3 _ (List.mem_of_getElem? (i := 152) rfl)
theorem mc_612 : Cond.methodLink RX2 29 Lib.Math.max.name ∈ lw_tbl := mt_3 _ (List.mem_of_getElem? (i := 151) rfl)
theorem mc_613 : Cond.code yX2_behind cX2_behind 2 (some .int) ∈ lw_tbl := mt_3 _ (List.mem_of_getElem? (i := 150) rfl)
theorem mc_614 : Cond.selects RX2 yX2_behind yX2_behind ∈ lw_tbl := mt_3 _ (List.mem_of_getElem? (i := 149) rfl)
theorem mc_615 : Cond.instanceMethod yX2_behind ∈ lw_tbl := mt_3 _ (List.mem_of_getElem? (i := 148) rfl)
theorem mc_616 : Cond.methodLink RX2 55 yX2_behind ∈ lw_tbl := mt_3 _ (List.mem_of_getElem? (i := 147) rfl)
theorem mc_617 : Cond.code yX2_lengthDue cX2_lengthDue 4 (some .int) ∈ lw_tbl := mt_3 _ (List.mem_of_getElem? (i := 144) rfl)
theorem mc_618 : Cond.selects RX2 yX2_lengthDue yX2_lengthDue ∈ lw_tbl := List.mem_append_left _ (List.mem_map.mpr ⟨(yX2_lengthDue, 4), List.mem_of_getElem? (i := 4) rfl, rfl⟩)
theorem mc_619 : Cond.instanceMethod yX2_lengthDue ∈ lw_tbl := mt_3 _ (List.mem_of_getElem? (i := 143) rfl)
set_option maxRecDepth 100000 in
theorem mT_wsX10_keep_r2 : ∀ w ∈ wsX10_keep_r2, w ∈ lw_tbl := by
  unfold wsX10_keep_r2
  exact List.forall_mem_cons.mpr ⟨mc_619, List.forall_mem_cons.mpr ⟨mc_618, List.forall_mem_cons.mpr ⟨mc_617, List.forall_mem_cons.mpr ⟨mc_616, List.forall_mem_cons.mpr ⟨mc_615, List.forall_mem_cons.mpr ⟨mc_614, List.forall_mem_cons.mpr ⟨mc_613, List.forall_mem_cons.mpr ⟨mc_612, List.forall_mem_cons.mpr ⟨mc_611, List.forall_mem_cons.mpr ⟨mc_610, List.forall_mem_cons.mpr ⟨mc_609, List.forall_mem_cons.mpr ⟨mc_608, List.forall_mem_cons.mpr ⟨mc_607, List.forall_mem_cons.mpr ⟨mc_606, List.forall_mem_cons.mpr ⟨mc_605, List.forall_mem_cons.mpr ⟨mc_63, List.forall_mem_cons.mpr ⟨mc_241, List.forall_mem_cons.mpr ⟨mc_240, List.forall_mem_cons.mpr ⟨mc_239, List.forall_mem_cons.mpr ⟨mc_238, List.forall_mem_cons.mpr ⟨mc_604, List.forall_mem_cons.mpr ⟨mc_603, List.forall_mem_cons.mpr ⟨mc_602, List.forall_mem_cons.mpr ⟨mc_601, fun _ h => absurd h List.not_mem_nil⟩⟩⟩⟩⟩⟩⟩⟩⟩⟩⟩⟩⟩⟩⟩⟩⟩⟩⟩⟩⟩⟩⟩⟩
theorem mc_620 : Cond.methodLink RX9 219 yX3_writeOut ∈ lw_tbl := mt_3 _ (List.mem_of_getElem? (i := 164) rfl)
theorem mc_621 : Cond.methodLink RX9 213 yX3_frameOf ∈ lw_tbl := mt_3 _ (List.mem_of_getElem? (i := 163) rfl)
theorem mc_622 : Cond.fieldLink RX9 216 "AheadStore$Pages" "recs" "[I" ∈ lw_tbl := mt_1 _ (List.mem_of_getElem? (i := 88) rfl)
set_option maxRecDepth 100000 in
theorem mT_wsX10_keep_r3 : ∀ w ∈ wsX10_keep_r3, w ∈ lw_tbl := by
  unfold wsX10_keep_r3
  exact List.forall_mem_cons.mpr ⟨mc_43, List.forall_mem_cons.mpr ⟨mc_622, List.forall_mem_cons.mpr ⟨mc_400, List.forall_mem_cons.mpr ⟨mc_139, List.forall_mem_cons.mpr ⟨mc_399, List.forall_mem_cons.mpr ⟨mc_621, List.forall_mem_cons.mpr ⟨mc_411, List.forall_mem_cons.mpr ⟨mc_410, List.forall_mem_cons.mpr ⟨mc_44, List.forall_mem_cons.mpr ⟨mc_409, List.forall_mem_cons.mpr ⟨mc_52, List.forall_mem_cons.mpr ⟨mc_51, List.forall_mem_cons.mpr ⟨mc_620, List.forall_mem_cons.mpr ⟨mc_403, List.forall_mem_cons.mpr ⟨mc_402, List.forall_mem_cons.mpr ⟨mc_401, List.forall_mem_cons.mpr ⟨mc_49, List.forall_mem_cons.mpr ⟨mc_50, List.forall_mem_cons.mpr ⟨mc_57, List.forall_mem_cons.mpr ⟨mc_385, List.forall_mem_cons.mpr ⟨mc_384, List.forall_mem_cons.mpr ⟨mc_383, List.forall_mem_cons.mpr ⟨mc_413, List.forall_mem_cons.mpr ⟨mc_56, fun _ h => absurd h List.not_mem_nil⟩⟩⟩⟩⟩⟩⟩⟩⟩⟩⟩⟩⟩⟩⟩⟩⟩⟩⟩⟩⟩⟩⟩⟩
theorem mc_623 : Cond.code yX9_checkBegins cX9_checkBegins 1 (some .boolean) ∈ lw_tbl := mt_3 _ (List.mem_of_getElem? (i := 168) rfl)
theorem mc_624 : Cond.selects RX9 yX9_checkBegins yX9_checkBegins ∈ lw_tbl := mt_3 _ (List.mem_of_getElem? (i := 167) rfl)
theorem mc_625 : Cond.instanceMethod yX9_checkBegins ∈ lw_tbl := mt_3 _ (List.mem_of_getElem? (i := 166) rfl)
theorem mc_626 : Cond.methodLink RX10 92 yX9_checkBegins ∈ lw_tbl := mt_3 _ (List.mem_of_getElem? (i := 165) rfl)
set_option maxRecDepth 100000 in
theorem mT_wsX10_keep_r4 : ∀ w ∈ wsX10_keep_r4, w ∈ lw_tbl := by
  unfold wsX10_keep_r4
  exact List.forall_mem_cons.mpr ⟨mc_96, List.forall_mem_cons.mpr ⟨mc_398, List.forall_mem_cons.mpr ⟨mc_626, List.forall_mem_cons.mpr ⟨mc_625, List.forall_mem_cons.mpr ⟨mc_624, List.forall_mem_cons.mpr ⟨mc_623, List.forall_mem_cons.mpr ⟨mc_72, List.forall_mem_cons.mpr ⟨mc_199, List.forall_mem_cons.mpr ⟨mc_198, List.forall_mem_cons.mpr ⟨mc_197, List.forall_mem_cons.mpr ⟨mc_196, List.forall_mem_cons.mpr ⟨mc_195, List.forall_mem_cons.mpr ⟨mc_189, List.forall_mem_cons.mpr ⟨mc_225, List.forall_mem_cons.mpr ⟨mc_224, List.forall_mem_cons.mpr ⟨mc_223, List.forall_mem_cons.mpr ⟨mc_62, List.forall_mem_cons.mpr ⟨mc_222, List.forall_mem_cons.mpr ⟨mc_221, List.forall_mem_cons.mpr ⟨mc_220, List.forall_mem_cons.mpr ⟨mc_219, List.forall_mem_cons.mpr ⟨mc_214, List.forall_mem_cons.mpr ⟨mc_213, List.forall_mem_cons.mpr ⟨mc_212, fun _ h => absurd h List.not_mem_nil⟩⟩⟩⟩⟩⟩⟩⟩⟩⟩⟩⟩⟩⟩⟩⟩⟩⟩⟩⟩⟩⟩⟩⟩
theorem mc_627 : Cond.constant RJ6 267 (252645135) ∈ lw_tbl := mt_3 _ (List.mem_of_getElem? (i := 182) rfl)
theorem mc_628 : Cond.constant RJ6 266 (858993459) ∈ lw_tbl := mt_3 _ (List.mem_of_getElem? (i := 181) rfl)
theorem mc_629 : Cond.constant RJ6 265 (1431655765) ∈ lw_tbl := mt_3 _ (List.mem_of_getElem? (i := 180) rfl)
theorem mc_630 : Cond.code yJ6_bitCount_0f7a4 cJ6_bitCount_0f7a4 1 (some .int) ∈ lw_tbl := mt_3 _ (List.mem_of_getElem? (i := 179) rfl)
theorem mc_631 : Cond.initialized RJ6 ∈ lw_tbl := mt_1 _ (List.mem_of_getElem? (i := 16) rfl)
theorem mc_632 : Cond.static yJ6_bitCount_0f7a4 ∈ lw_tbl := mt_3 _ (List.mem_of_getElem? (i := 178) rfl)
theorem mc_633 : Cond.methodLink RX9 226 yJ6_bitCount_0f7a4 ∈ lw_tbl := mt_3 _ (List.mem_of_getElem? (i := 177) rfl)
theorem mc_634 : Cond.code yX5_allThatAre cX5_allThatAre 4 (some .int) ∈ lw_tbl := mt_3 _ (List.mem_of_getElem? (i := 176) rfl)
theorem mc_635 : Cond.selects RX5 yX5_allThatAre yX5_allThatAre ∈ lw_tbl := mt_3 _ (List.mem_of_getElem? (i := 175) rfl)
theorem mc_636 : Cond.instanceMethod yX5_allThatAre ∈ lw_tbl := mt_3 _ (List.mem_of_getElem? (i := 174) rfl)
theorem mc_637 : Cond.methodLink RX9 223 yX5_allThatAre ∈ lw_tbl := mt_3 _ (List.mem_of_getElem? (i := 173) rfl)
theorem mc_638 : Cond.code yX9_checkEnds cX9_checkEnds 4 (some .boolean) ∈ lw_tbl := mt_3 _ (List.mem_of_getElem? (i := 172) rfl)
theorem mc_639 : Cond.selects RX9 yX9_checkEnds yX9_checkEnds ∈ lw_tbl := mt_3 _ (List.mem_of_getElem? (i := 171) rfl)
theorem mc_640 : Cond.instanceMethod yX9_checkEnds ∈ lw_tbl := mt_3 _ (List.mem_of_getElem? (i := 170) rfl)
theorem mc_641 : Cond.methodLink RX10 95 yX9_checkEnds ∈ lw_tbl := mt_3 _ (List.mem_of_getElem? (i := 169) rfl)
set_option maxRecDepth 100000 in
theorem mT_wsX10_keep_r5 : ∀ w ∈ wsX10_keep_r5, w ∈ lw_tbl := by
  unfold wsX10_keep_r5
  exact List.forall_mem_cons.mpr ⟨mc_211, List.forall_mem_cons.mpr ⟨mc_641, List.forall_mem_cons.mpr ⟨mc_640, List.forall_mem_cons.mpr ⟨mc_639, List.forall_mem_cons.mpr ⟨mc_638, List.forall_mem_cons.mpr ⟨mc_39, List.forall_mem_cons.mpr ⟨mc_202, List.forall_mem_cons.mpr ⟨mc_190, List.forall_mem_cons.mpr ⟨mc_25, List.forall_mem_cons.mpr ⟨mc_637, List.forall_mem_cons.mpr ⟨mc_636, List.forall_mem_cons.mpr ⟨mc_635, List.forall_mem_cons.mpr ⟨mc_40, List.forall_mem_cons.mpr ⟨mc_634, List.forall_mem_cons.mpr ⟨mc_86, List.forall_mem_cons.mpr ⟨mc_633, List.forall_mem_cons.mpr ⟨mc_632, List.forall_mem_cons.mpr ⟨mc_631, List.forall_mem_cons.mpr ⟨mc_630, List.forall_mem_cons.mpr ⟨mc_629, List.forall_mem_cons.mpr ⟨mc_628, List.forall_mem_cons.mpr ⟨mc_627, List.forall_mem_cons.mpr ⟨mc_418, List.forall_mem_cons.mpr ⟨mc_266, fun _ h => absurd h List.not_mem_nil⟩⟩⟩⟩⟩⟩⟩⟩⟩⟩⟩⟩⟩⟩⟩⟩⟩⟩⟩⟩⟩⟩⟩⟩
theorem mc_642 : Cond.instanceMethod yX9_losePage ∈ lw_tbl := mt_3 _ (List.mem_of_getElem? (i := 196) rfl)
theorem mc_643 : Cond.methodLink RX10 101 yX9_losePage ∈ lw_tbl := mt_3 _ (List.mem_of_getElem? (i := 195) rfl)
theorem mc_644 : Cond.code yX3_dump cX3_dump 2 none ∈ lw_tbl := mt_3 _ (List.mem_of_getElem? (i := 194) rfl)
theorem mc_645 : Cond.selects RX3 yX3_dump yX3_dump ∈ lw_tbl := mt_3 _ (List.mem_of_getElem? (i := 193) rfl)
theorem mc_646 : Cond.instanceMethod yX3_dump ∈ lw_tbl := mt_3 _ (List.mem_of_getElem? (i := 192) rfl)
theorem mc_647 : Cond.methodLink RX9 234 yX3_dump ∈ lw_tbl := mt_3 _ (List.mem_of_getElem? (i := 191) rfl)
theorem mc_648 : Cond.code yX9_dumpPage cX9_dumpPage 2 (some .boolean) ∈ lw_tbl := mt_3 _ (List.mem_of_getElem? (i := 190) rfl)
theorem mc_649 : Cond.selects RX9 yX9_dumpPage yX9_dumpPage ∈ lw_tbl := mt_3 _ (List.mem_of_getElem? (i := 189) rfl)
theorem mc_650 : Cond.instanceMethod yX9_dumpPage ∈ lw_tbl := mt_3 _ (List.mem_of_getElem? (i := 188) rfl)
theorem mc_651 : Cond.methodLink RX10 98 yX9_dumpPage ∈ lw_tbl := mt_3 _ (List.mem_of_getElem? (i := 187) rfl)
theorem mc_652 : Cond.code yX3_uncleanCount cX3_uncleanCount 3 (some .int) ∈ lw_tbl := mt_3 _ (List.mem_of_getElem? (i := 186) rfl)
theorem mc_653 : Cond.selects RX3 yX3_uncleanCount yX3_uncleanCount ∈ lw_tbl := mt_3 _ (List.mem_of_getElem? (i := 185) rfl)
theorem mc_654 : Cond.instanceMethod yX3_uncleanCount ∈ lw_tbl := mt_3 _ (List.mem_of_getElem? (i := 184) rfl)
theorem mc_655 : Cond.methodLink RX9 231 yX3_uncleanCount ∈ lw_tbl := mt_3 _ (List.mem_of_getElem? (i := 183) rfl)
set_option maxRecDepth 100000 in
theorem mT_wsX10_keep_r6 : ∀ w ∈ wsX10_keep_r6, w ∈ lw_tbl := by
  unfold wsX10_keep_r6
  exact List.forall_mem_cons.mpr ⟨mc_265, List.forall_mem_cons.mpr ⟨mc_264, List.forall_mem_cons.mpr ⟨mc_263, List.forall_mem_cons.mpr ⟨mc_655, List.forall_mem_cons.mpr ⟨mc_654, List.forall_mem_cons.mpr ⟨mc_653, List.forall_mem_cons.mpr ⟨mc_652, List.forall_mem_cons.mpr ⟨mc_651, List.forall_mem_cons.mpr ⟨mc_650, List.forall_mem_cons.mpr ⟨mc_649, List.forall_mem_cons.mpr ⟨mc_648, List.forall_mem_cons.mpr ⟨mc_397, List.forall_mem_cons.mpr ⟨mc_396, List.forall_mem_cons.mpr ⟨mc_395, List.forall_mem_cons.mpr ⟨mc_394, List.forall_mem_cons.mpr ⟨mc_53, List.forall_mem_cons.mpr ⟨mc_647, List.forall_mem_cons.mpr ⟨mc_646, List.forall_mem_cons.mpr ⟨mc_645, List.forall_mem_cons.mpr ⟨mc_644, List.forall_mem_cons.mpr ⟨mc_55, List.forall_mem_cons.mpr ⟨mc_54, List.forall_mem_cons.mpr ⟨mc_643, List.forall_mem_cons.mpr ⟨mc_642, fun _ h => absurd h List.not_mem_nil⟩⟩⟩⟩⟩⟩⟩⟩⟩⟩⟩⟩⟩⟩⟩⟩⟩⟩⟩⟩⟩⟩⟩⟩
theorem mc_656 : Cond.methodLink RX3 90 yX2_flushAll ∈ lw_tbl := mt_3 _ (List.mem_of_getElem? (i := 215) rfl)
theorem mc_657 : Cond.fieldLink RX3 93 "AheadStore$Journal" "endPlace" "I" ∈ lw_tbl := mt_1 _ (List.mem_of_getElem? (i := 45) rfl)
theorem mc_658 : Cond.code yX3_restore cX3_restore 5 none ∈ lw_tbl := mt_3 _ (List.mem_of_getElem? (i := 214) rfl)
theorem mc_659 : Cond.selects RX3 yX3_restore yX3_restore ∈ lw_tbl := mt_3 _ (List.mem_of_getElem? (i := 213) rfl)
theorem mc_660 : Cond.instanceMethod yX3_restore ∈ lw_tbl := mt_3 _ (List.mem_of_getElem? (i := 212) rfl)
theorem mc_661 : Cond.methodLink RX9 243 yX3_restore ∈ lw_tbl := mt_3 _ (List.mem_of_getElem? (i := 211) rfl)
theorem mc_662 : Cond.code yX9_restorePage cX9_restorePage 2 (some .boolean) ∈ lw_tbl := mt_3 _ (List.mem_of_getElem? (i := 210) rfl)
theorem mc_663 : Cond.selects RX9 yX9_restorePage yX9_restorePage ∈ lw_tbl := mt_3 _ (List.mem_of_getElem? (i := 209) rfl)
theorem mc_664 : Cond.instanceMethod yX9_restorePage ∈ lw_tbl := mt_3 _ (List.mem_of_getElem? (i := 208) rfl)
theorem mc_665 : Cond.methodLink RX10 104 yX9_restorePage ∈ lw_tbl := mt_3 _ (List.mem_of_getElem? (i := 207) rfl)
theorem mc_666 : Cond.code yX3_lose cX3_lose 3 none ∈ lw_tbl := mt_3 _ (List.mem_of_getElem? (i := 206) rfl)
theorem mc_667 : Cond.selects RX3 yX3_lose yX3_lose ∈ lw_tbl := mt_3 _ (List.mem_of_getElem? (i := 205) rfl)
theorem mc_668 : Cond.instanceMethod yX3_lose ∈ lw_tbl := mt_3 _ (List.mem_of_getElem? (i := 204) rfl)
theorem mc_669 : Cond.methodLink RX9 240 yX3_lose ∈ lw_tbl := mt_3 _ (List.mem_of_getElem? (i := 203) rfl)
theorem mc_670 : Cond.code yX0_anyIn cX0_anyIn 3 (some .boolean) ∈ lw_tbl := mt_3 _ (List.mem_of_getElem? (i := 202) rfl)
theorem mc_671 : Cond.selects RX0 yX0_anyIn yX0_anyIn ∈ lw_tbl := mt_3 _ (List.mem_of_getElem? (i := 201) rfl)
theorem mc_672 : Cond.instanceMethod yX0_anyIn ∈ lw_tbl := mt_3 _ (List.mem_of_getElem? (i := 200) rfl)
theorem mc_673 : Cond.methodLink RX9 237 yX0_anyIn ∈ lw_tbl := mt_3 _ (List.mem_of_getElem? (i := 199) rfl)
theorem mc_674 : Cond.code yX9_losePage cX9_losePage 2 (some .boolean) ∈ lw_tbl := mt_3 _ (List.mem_of_getElem? (i := 198) rfl)
theorem mc_675 : Cond.selects RX9 yX9_losePage yX9_losePage ∈ lw_tbl := mt_3 _ (List.mem_of_getElem? (i := 197) rfl)
set_option maxRecDepth 100000 in
theorem mT_wsX10_keep_r7 : ∀ w ∈ wsX10_keep_r7, w ∈ lw_tbl := by
  unfold wsX10_keep_r7
  exact List.forall_mem_cons.mpr ⟨mc_675, List.forall_mem_cons.mpr ⟨mc_674, List.forall_mem_cons.mpr ⟨mc_35, List.forall_mem_cons.mpr ⟨mc_673, List.forall_mem_cons.mpr ⟨mc_672, List.forall_mem_cons.mpr ⟨mc_671, List.forall_mem_cons.mpr ⟨mc_36, List.forall_mem_cons.mpr ⟨mc_670, List.forall_mem_cons.mpr ⟨mc_80, List.forall_mem_cons.mpr ⟨mc_79, List.forall_mem_cons.mpr ⟨mc_669, List.forall_mem_cons.mpr ⟨mc_668, List.forall_mem_cons.mpr ⟨mc_667, List.forall_mem_cons.mpr ⟨mc_666, List.forall_mem_cons.mpr ⟨mc_665, List.forall_mem_cons.mpr ⟨mc_664, List.forall_mem_cons.mpr ⟨mc_663, List.forall_mem_cons.mpr ⟨mc_662, List.forall_mem_cons.mpr ⟨mc_661, List.forall_mem_cons.mpr ⟨mc_660, List.forall_mem_cons.mpr ⟨mc_659, List.forall_mem_cons.mpr ⟨mc_658, List.forall_mem_cons.mpr ⟨mc_657, List.forall_mem_cons.mpr ⟨mc_656, fun _ h => absurd h List.not_mem_nil⟩⟩⟩⟩⟩⟩⟩⟩⟩⟩⟩⟩⟩⟩⟩⟩⟩⟩⟩⟩⟩⟩⟩⟩
theorem mc_676 : Cond.methodLink RX3 102 yX2_behind ∈ lw_tbl := mt_3 _ (List.mem_of_getElem? (i := 221) rfl)
theorem mc_677 : Cond.code yX2_touches cX2_touches 3 (some .boolean) ∈ lw_tbl := mt_3 _ (List.mem_of_getElem? (i := 220) rfl)
theorem mc_678 : Cond.selects RX2 yX2_touches yX2_touches ∈ lw_tbl := mt_3 _ (List.mem_of_getElem? (i := 219) rfl)
theorem mc_679 : Cond.instanceMethod yX2_touches ∈ lw_tbl := mt_3 _ (List.mem_of_getElem? (i := 218) rfl)
theorem mc_680 : Cond.methodLink RX3 99 yX2_touches ∈ lw_tbl := mt_3 _ (List.mem_of_getElem? (i := 217) rfl)
theorem mc_681 : Cond.methodLink RX3 96 yX2_wholeAt ∈ lw_tbl := mt_3 _ (List.mem_of_getElem? (i := 216) rfl)
set_option maxRecDepth 100000 in
theorem mT_wsX10_keep_r8 : ∀ w ∈ wsX10_keep_r8, w ∈ lw_tbl := by
  unfold wsX10_keep_r8
  exact List.forall_mem_cons.mpr ⟨mc_681, List.forall_mem_cons.mpr ⟨mc_430, List.forall_mem_cons.mpr ⟨mc_429, List.forall_mem_cons.mpr ⟨mc_428, List.forall_mem_cons.mpr ⟨mc_427, List.forall_mem_cons.mpr ⟨mc_680, List.forall_mem_cons.mpr ⟨mc_679, List.forall_mem_cons.mpr ⟨mc_678, List.forall_mem_cons.mpr ⟨mc_677, List.forall_mem_cons.mpr ⟨mc_426, List.forall_mem_cons.mpr ⟨mc_425, List.forall_mem_cons.mpr ⟨mc_424, List.forall_mem_cons.mpr ⟨mc_423, List.forall_mem_cons.mpr ⟨mc_676, fun _ h => absurd h List.not_mem_nil⟩⟩⟩⟩⟩⟩⟩⟩⟩⟩⟩⟩⟩⟩
set_option maxRecDepth 100000 in
theorem mT_wsX10_keep : ∀ w ∈ wsX10_keep, w ∈ lw_tbl := by
  unfold wsX10_keep
  exact List.forall_mem_cons.mpr ⟨mc_587, List.forall_mem_append.mpr ⟨List.forall_mem_append.mpr ⟨List.forall_mem_append.mpr ⟨List.forall_mem_append.mpr ⟨List.forall_mem_append.mpr ⟨List.forall_mem_append.mpr ⟨List.forall_mem_append.mpr ⟨mT_wsX10_keep_r1, List.forall_mem_append.mpr ⟨mT_wsX10_keep_r2, List.forall_mem_append.mpr ⟨mT_wsX10_keep_r3, List.forall_mem_append.mpr ⟨mT_wsX10_keep_r4, List.forall_mem_append.mpr ⟨mT_wsX10_keep_r5, List.forall_mem_append.mpr ⟨mT_wsX10_keep_r6, List.forall_mem_append.mpr ⟨mT_wsX10_keep_r7, mT_wsX10_keep_r8⟩⟩⟩⟩⟩⟩⟩, inX10⟩, inX9⟩, inX2⟩, inX3⟩, inX5⟩, inX0⟩⟩
theorem mc_682 : Cond.selects RX10 yX10_keep yX10_keep ∈ lw_tbl := mt_3 _ (List.mem_of_getElem? (i := 127) rfl)
theorem mc_683 : Cond.instanceMethod yX10_keep ∈ lw_tbl := mt_3 _ (List.mem_of_getElem? (i := 126) rfl)
theorem mc_684 : Cond.methodLink RL 46 yX10_keep ∈ lw_tbl := mt_3 _ (List.mem_of_getElem? (i := 125) rfl)
set_option maxRecDepth 100000 in
theorem gT_X10_keep : GoodIn lw_tbl (wsV RL 46 RX10 yX10_keep wsX10_keep) := goodIn_sub (List.forall_mem_append.mpr ⟨List.forall_mem_cons.mpr ⟨mc_684, List.forall_mem_cons.mpr ⟨mc_683, List.forall_mem_cons.mpr ⟨mc_682, List.forall_mem_cons.mpr ⟨mc_139, fun _ h => absurd h List.not_mem_nil⟩⟩⟩⟩, mT_wsX10_keep⟩) (by decide +kernel)
theorem mc_685 : Cond.code yX11_keep cX11_keep 3 (some .boolean) ∈ lw_tbl := mt_6 _ (List.mem_of_getElem? (i := 211) rfl)
theorem mc_686 : Cond.code yX11_checks cX11_checks 1 (some .boolean) ∈ lw_tbl := mt_6 _ (List.mem_of_getElem? (i := 215) rfl)
theorem mc_687 : Cond.selects RX11 yX11_checks yX11_checks ∈ lw_tbl := List.mem_append_left _ (List.mem_map.mpr ⟨(yX11_checks, 28), List.mem_of_getElem? (i := 66) rfl, rfl⟩)
theorem mc_688 : Cond.instanceMethod yX11_checks ∈ lw_tbl := mt_6 _ (List.mem_of_getElem? (i := 214) rfl)
theorem mc_689 : Cond.methodLink RX11 212 yX11_checks ∈ lw_tbl := mt_6 _ (List.mem_of_getElem? (i := 212) rfl)
set_option maxRecDepth 100000 in
theorem mT_wsX11_keep_r1 : ∀ w ∈ wsX11_keep_r1, w ∈ lw_tbl := by
  unfold wsX11_keep_r1
  exact List.forall_mem_cons.mpr ⟨mc_184, List.forall_mem_cons.mpr ⟨mc_183, List.forall_mem_cons.mpr ⟨mc_182, List.forall_mem_cons.mpr ⟨mc_181, List.forall_mem_cons.mpr ⟨mc_155, List.forall_mem_cons.mpr ⟨mc_180, List.forall_mem_cons.mpr ⟨mc_151, List.forall_mem_cons.mpr ⟨mc_179, List.forall_mem_cons.mpr ⟨mc_178, List.forall_mem_cons.mpr ⟨mc_177, List.forall_mem_cons.mpr ⟨mc_176, List.forall_mem_cons.mpr ⟨mc_689, List.forall_mem_cons.mpr ⟨mc_688, List.forall_mem_cons.mpr ⟨mc_687, List.forall_mem_cons.mpr ⟨mc_686, List.forall_mem_cons.mpr ⟨mc_319, List.forall_mem_cons.mpr ⟨mc_318, List.forall_mem_cons.mpr ⟨mc_317, List.forall_mem_cons.mpr ⟨mc_316, List.forall_mem_cons.mpr ⟨mc_315, List.forall_mem_cons.mpr ⟨mc_314, List.forall_mem_cons.mpr ⟨mc_313, List.forall_mem_cons.mpr ⟨mc_312, List.forall_mem_cons.mpr ⟨mc_311, fun _ h => absurd h List.not_mem_nil⟩⟩⟩⟩⟩⟩⟩⟩⟩⟩⟩⟩⟩⟩⟩⟩⟩⟩⟩⟩⟩⟩⟩⟩
set_option maxRecDepth 100000 in
theorem mT_wsX11_keep_r2 : ∀ w ∈ wsX11_keep_r2, w ∈ lw_tbl := by
  unfold wsX11_keep_r2
  exact List.forall_mem_cons.mpr ⟨mc_310, List.forall_mem_cons.mpr ⟨mc_309, List.forall_mem_cons.mpr ⟨mc_308, List.forall_mem_cons.mpr ⟨mc_307, List.forall_mem_cons.mpr ⟨mc_306, List.forall_mem_cons.mpr ⟨mc_305, List.forall_mem_cons.mpr ⟨mc_304, List.forall_mem_cons.mpr ⟨mc_303, List.forall_mem_cons.mpr ⟨mc_302, List.forall_mem_cons.mpr ⟨mc_301, List.forall_mem_cons.mpr ⟨mc_300, List.forall_mem_cons.mpr ⟨mc_299, List.forall_mem_cons.mpr ⟨mc_286, List.forall_mem_cons.mpr ⟨mc_322, List.forall_mem_cons.mpr ⟨mc_321, List.forall_mem_cons.mpr ⟨mc_320, List.forall_mem_cons.mpr ⟨mc_346, List.forall_mem_cons.mpr ⟨mc_345, List.forall_mem_cons.mpr ⟨mc_344, List.forall_mem_cons.mpr ⟨mc_343, List.forall_mem_cons.mpr ⟨mc_342, List.forall_mem_cons.mpr ⟨mc_341, List.forall_mem_cons.mpr ⟨mc_340, List.forall_mem_cons.mpr ⟨mc_339, fun _ h => absurd h List.not_mem_nil⟩⟩⟩⟩⟩⟩⟩⟩⟩⟩⟩⟩⟩⟩⟩⟩⟩⟩⟩⟩⟩⟩⟩⟩
theorem mc_690 : Cond.code yX11_txMany cX11_txMany 3 (some .int) ∈ lw_tbl := mt_6 _ (List.mem_of_getElem? (i := 223) rfl)
theorem mc_691 : Cond.selects RX11 yX11_txMany yX11_txMany ∈ lw_tbl := List.mem_append_left _ (List.mem_map.mpr ⟨(yX11_txMany, 28), List.mem_of_getElem? (i := 68) rfl, rfl⟩)
theorem mc_692 : Cond.instanceMethod yX11_txMany ∈ lw_tbl := mt_6 _ (List.mem_of_getElem? (i := 222) rfl)
theorem mc_693 : Cond.methodLink RX11 191 yX11_txMany ∈ lw_tbl := mt_6 _ (List.mem_of_getElem? (i := 220) rfl)
theorem mc_694 : Cond.code yX11_overs cX11_overs 3 (some .boolean) ∈ lw_tbl := mt_6 _ (List.mem_of_getElem? (i := 219) rfl)
theorem mc_695 : Cond.selects RX11 yX11_overs yX11_overs ∈ lw_tbl := List.mem_append_left _ (List.mem_map.mpr ⟨(yX11_overs, 28), List.mem_of_getElem? (i := 67) rfl, rfl⟩)
theorem mc_696 : Cond.instanceMethod yX11_overs ∈ lw_tbl := mt_6 _ (List.mem_of_getElem? (i := 218) rfl)
theorem mc_697 : Cond.methodLink RX11 215 yX11_overs ∈ lw_tbl := mt_6 _ (List.mem_of_getElem? (i := 216) rfl)
set_option maxRecDepth 100000 in
theorem mT_wsX11_keep_r3 : ∀ w ∈ wsX11_keep_r3, w ∈ lw_tbl := by
  unfold wsX11_keep_r3
  exact List.forall_mem_cons.mpr ⟨mc_338, List.forall_mem_cons.mpr ⟨mc_337, List.forall_mem_cons.mpr ⟨mc_336, List.forall_mem_cons.mpr ⟨mc_335, List.forall_mem_cons.mpr ⟨mc_334, List.forall_mem_cons.mpr ⟨mc_333, List.forall_mem_cons.mpr ⟨mc_332, List.forall_mem_cons.mpr ⟨mc_331, List.forall_mem_cons.mpr ⟨mc_330, List.forall_mem_cons.mpr ⟨mc_329, List.forall_mem_cons.mpr ⟨mc_328, List.forall_mem_cons.mpr ⟨mc_327, List.forall_mem_cons.mpr ⟨mc_697, List.forall_mem_cons.mpr ⟨mc_696, List.forall_mem_cons.mpr ⟨mc_695, List.forall_mem_cons.mpr ⟨mc_694, List.forall_mem_cons.mpr ⟨mc_693, List.forall_mem_cons.mpr ⟨mc_692, List.forall_mem_cons.mpr ⟨mc_691, List.forall_mem_cons.mpr ⟨mc_690, List.forall_mem_cons.mpr ⟨mc_290, List.forall_mem_cons.mpr ⟨mc_289, List.forall_mem_cons.mpr ⟨mc_288, List.forall_mem_cons.mpr ⟨mc_287, fun _ h => absurd h List.not_mem_nil⟩⟩⟩⟩⟩⟩⟩⟩⟩⟩⟩⟩⟩⟩⟩⟩⟩⟩⟩⟩⟩⟩⟩⟩
theorem mc_698 : Cond.code yX11_uncleanMany cX11_uncleanMany 3 (some .int) ∈ lw_tbl := mt_6 _ (List.mem_of_getElem? (i := 227) rfl)
theorem mc_699 : Cond.selects RX11 yX11_uncleanMany yX11_uncleanMany ∈ lw_tbl := List.mem_append_left _ (List.mem_map.mpr ⟨(yX11_uncleanMany, 28), List.mem_of_getElem? (i := 69) rfl, rfl⟩)
theorem mc_700 : Cond.instanceMethod yX11_uncleanMany ∈ lw_tbl := mt_6 _ (List.mem_of_getElem? (i := 226) rfl)
theorem mc_701 : Cond.methodLink RX11 194 yX11_uncleanMany ∈ lw_tbl := mt_6 _ (List.mem_of_getElem? (i := 224) rfl)
set_option maxRecDepth 100000 in
theorem mT_wsX11_keep_r4 : ∀ w ∈ wsX11_keep_r4, w ∈ lw_tbl := by
  unfold wsX11_keep_r4
  exact List.forall_mem_cons.mpr ⟨mc_701, List.forall_mem_cons.mpr ⟨mc_700, List.forall_mem_cons.mpr ⟨mc_699, List.forall_mem_cons.mpr ⟨mc_698, List.forall_mem_cons.mpr ⟨mc_175, List.forall_mem_cons.mpr ⟨mc_174, List.forall_mem_cons.mpr ⟨mc_173, List.forall_mem_cons.mpr ⟨mc_172, List.forall_mem_cons.mpr ⟨mc_171, List.forall_mem_cons.mpr ⟨mc_170, List.forall_mem_cons.mpr ⟨mc_169, List.forall_mem_cons.mpr ⟨mc_168, List.forall_mem_cons.mpr ⟨mc_467, List.forall_mem_cons.mpr ⟨mc_466, List.forall_mem_cons.mpr ⟨mc_465, List.forall_mem_cons.mpr ⟨mc_464, List.forall_mem_cons.mpr ⟨mc_370, List.forall_mem_cons.mpr ⟨mc_369, List.forall_mem_cons.mpr ⟨mc_368, List.forall_mem_cons.mpr ⟨mc_367, List.forall_mem_cons.mpr ⟨mc_366, List.forall_mem_cons.mpr ⟨mc_365, List.forall_mem_cons.mpr ⟨mc_364, List.forall_mem_cons.mpr ⟨mc_363, fun _ h => absurd h List.not_mem_nil⟩⟩⟩⟩⟩⟩⟩⟩⟩⟩⟩⟩⟩⟩⟩⟩⟩⟩⟩⟩⟩⟩⟩⟩
theorem mc_702 : Cond.code yX11_canLose cX11_canLose 3 (some .boolean) ∈ lw_tbl := mt_6 _ (List.mem_of_getElem? (i := 235) rfl)
theorem mc_703 : Cond.selects RX11 yX11_canLose yX11_canLose ∈ lw_tbl := List.mem_append_left _ (List.mem_map.mpr ⟨(yX11_canLose, 28), List.mem_of_getElem? (i := 71) rfl, rfl⟩)
theorem mc_704 : Cond.instanceMethod yX11_canLose ∈ lw_tbl := mt_6 _ (List.mem_of_getElem? (i := 234) rfl)
theorem mc_705 : Cond.methodLink RX11 200 yX11_canLose ∈ lw_tbl := mt_6 _ (List.mem_of_getElem? (i := 232) rfl)
theorem mc_706 : Cond.code yX11_keepsPage cX11_keepsPage 5 (some .boolean) ∈ lw_tbl := mt_6 _ (List.mem_of_getElem? (i := 231) rfl)
theorem mc_707 : Cond.selects RX11 yX11_keepsPage yX11_keepsPage ∈ lw_tbl := List.mem_append_left _ (List.mem_map.mpr ⟨(yX11_keepsPage, 28), List.mem_of_getElem? (i := 70) rfl, rfl⟩)
theorem mc_708 : Cond.instanceMethod yX11_keepsPage ∈ lw_tbl := mt_6 _ (List.mem_of_getElem? (i := 230) rfl)
theorem mc_709 : Cond.methodLink RX11 218 yX11_keepsPage ∈ lw_tbl := mt_6 _ (List.mem_of_getElem? (i := 228) rfl)
set_option maxRecDepth 100000 in
theorem mT_wsX11_keep_r5 : ∀ w ∈ wsX11_keep_r5, w ∈ lw_tbl := by
  unfold wsX11_keep_r5
  exact List.forall_mem_cons.mpr ⟨mc_362, List.forall_mem_cons.mpr ⟨mc_361, List.forall_mem_cons.mpr ⟨mc_360, List.forall_mem_cons.mpr ⟨mc_359, List.forall_mem_cons.mpr ⟨mc_709, List.forall_mem_cons.mpr ⟨mc_708, List.forall_mem_cons.mpr ⟨mc_707, List.forall_mem_cons.mpr ⟨mc_706, List.forall_mem_cons.mpr ⟨mc_459, List.forall_mem_cons.mpr ⟨mc_458, List.forall_mem_cons.mpr ⟨mc_457, List.forall_mem_cons.mpr ⟨mc_456, List.forall_mem_cons.mpr ⟨mc_455, List.forall_mem_cons.mpr ⟨mc_454, List.forall_mem_cons.mpr ⟨mc_453, List.forall_mem_cons.mpr ⟨mc_452, List.forall_mem_cons.mpr ⟨mc_451, List.forall_mem_cons.mpr ⟨mc_450, List.forall_mem_cons.mpr ⟨mc_449, List.forall_mem_cons.mpr ⟨mc_448, List.forall_mem_cons.mpr ⟨mc_705, List.forall_mem_cons.mpr ⟨mc_704, List.forall_mem_cons.mpr ⟨mc_703, List.forall_mem_cons.mpr ⟨mc_702, fun _ h => absurd h List.not_mem_nil⟩⟩⟩⟩⟩⟩⟩⟩⟩⟩⟩⟩⟩⟩⟩⟩⟩⟩⟩⟩⟩⟩⟩⟩
theorem mc_710 : Cond.code yX11_isChange cX11_isChange 2 (some .boolean) ∈ lw_tbl := mt_7 _ (List.mem_of_getElem? (i := 19) rfl)
theorem mc_711 : Cond.selects RX11 yX11_isChange yX11_isChange ∈ lw_tbl := List.mem_append_left _ (List.mem_map.mpr ⟨(yX11_isChange, 28), List.mem_of_getElem? (i := 77) rfl, rfl⟩)
theorem mc_712 : Cond.instanceMethod yX11_isChange ∈ lw_tbl := mt_7 _ (List.mem_of_getElem? (i := 18) rfl)
theorem mc_713 : Cond.methodLink RX11 197 yX11_isChange ∈ lw_tbl := mt_7 _ (List.mem_of_getElem? (i := 16) rfl)
theorem mc_714 : Cond.code yX11_longFor cX11_longFor 4 (some .int) ∈ lw_tbl := mt_7 _ (List.mem_of_getElem? (i := 15) rfl)
theorem mc_715 : Cond.selects RX11 yX11_longFor yX11_longFor ∈ lw_tbl := List.mem_append_left _ (List.mem_map.mpr ⟨(yX11_longFor, 28), List.mem_of_getElem? (i := 76) rfl, rfl⟩)
theorem mc_716 : Cond.instanceMethod yX11_longFor ∈ lw_tbl := mt_7 _ (List.mem_of_getElem? (i := 14) rfl)
theorem mc_717 : Cond.methodLink RX11 114 yX11_longFor ∈ lw_tbl := mt_7 _ (List.mem_of_getElem? (i := 12) rfl)
theorem mc_718 : Cond.code yX11_isWhole cX11_isWhole 3 (some .boolean) ∈ lw_tbl := mt_7 _ (List.mem_of_getElem? (i := 11) rfl)
theorem mc_719 : Cond.selects RX11 yX11_isWhole yX11_isWhole ∈ lw_tbl := List.mem_append_left _ (List.mem_map.mpr ⟨(yX11_isWhole, 28), List.mem_of_getElem? (i := 75) rfl, rfl⟩)
theorem mc_720 : Cond.instanceMethod yX11_isWhole ∈ lw_tbl := mt_7 _ (List.mem_of_getElem? (i := 10) rfl)
theorem mc_721 : Cond.methodLink RX11 117 yX11_isWhole ∈ lw_tbl := mt_7 _ (List.mem_of_getElem? (i := 8) rfl)
theorem mc_722 : Cond.code yX11_restores cX11_restores 3 none ∈ lw_tbl := mt_7 _ (List.mem_of_getElem? (i := 7) rfl)
theorem mc_723 : Cond.selects RX11 yX11_restores yX11_restores ∈ lw_tbl := List.mem_append_left _ (List.mem_map.mpr ⟨(yX11_restores, 28), List.mem_of_getElem? (i := 74) rfl, rfl⟩)
theorem mc_724 : Cond.instanceMethod yX11_restores ∈ lw_tbl := mt_7 _ (List.mem_of_getElem? (i := 6) rfl)
theorem mc_725 : Cond.methodLink RX11 209 yX11_restores ∈ lw_tbl := mt_7 _ (List.mem_of_getElem? (i := 4) rfl)
theorem mc_726 : Cond.code yX11_loses cX11_loses 3 none ∈ lw_tbl := mt_7 _ (List.mem_of_getElem? (i := 3) rfl)
theorem mc_727 : Cond.selects RX11 yX11_loses yX11_loses ∈ lw_tbl := List.mem_append_left _ (List.mem_map.mpr ⟨(yX11_loses, 28), List.mem_of_getElem? (i := 73) rfl, rfl⟩)
theorem mc_728 : Cond.instanceMethod yX11_loses ∈ lw_tbl := mt_7 _ (List.mem_of_getElem? (i := 2) rfl)
theorem mc_729 : Cond.methodLink RX11 206 yX11_loses ∈ lw_tbl := mt_7 _ (List.mem_of_getElem? (i := 0) rfl)
theorem mc_730 : Cond.code yX11_dumps cX11_dumps 3 none ∈ lw_tbl := mt_6 _ (List.mem_of_getElem? (i := 239) rfl)
theorem mc_731 : Cond.selects RX11 yX11_dumps yX11_dumps ∈ lw_tbl := List.mem_append_left _ (List.mem_map.mpr ⟨(yX11_dumps, 28), List.mem_of_getElem? (i := 72) rfl, rfl⟩)
theorem mc_732 : Cond.instanceMethod yX11_dumps ∈ lw_tbl := mt_6 _ (List.mem_of_getElem? (i := 238) rfl)
theorem mc_733 : Cond.methodLink RX11 203 yX11_dumps ∈ lw_tbl := mt_6 _ (List.mem_of_getElem? (i := 236) rfl)
set_option maxRecDepth 100000 in
theorem mT_wsX11_keep_r6 : ∀ w ∈ wsX11_keep_r6, w ∈ lw_tbl := by
  unfold wsX11_keep_r6
  exact List.forall_mem_cons.mpr ⟨mc_733, List.forall_mem_cons.mpr ⟨mc_732, List.forall_mem_cons.mpr ⟨mc_731, List.forall_mem_cons.mpr ⟨mc_730, List.forall_mem_cons.mpr ⟨mc_729, List.forall_mem_cons.mpr ⟨mc_728, List.forall_mem_cons.mpr ⟨mc_727, List.forall_mem_cons.mpr ⟨mc_726, List.forall_mem_cons.mpr ⟨mc_725, List.forall_mem_cons.mpr ⟨mc_724, List.forall_mem_cons.mpr ⟨mc_723, List.forall_mem_cons.mpr ⟨mc_722, List.forall_mem_cons.mpr ⟨mc_721, List.forall_mem_cons.mpr ⟨mc_720, List.forall_mem_cons.mpr ⟨mc_719, List.forall_mem_cons.mpr ⟨mc_718, List.forall_mem_cons.mpr ⟨mc_717, List.forall_mem_cons.mpr ⟨mc_716, List.forall_mem_cons.mpr ⟨mc_715, List.forall_mem_cons.mpr ⟨mc_714, List.forall_mem_cons.mpr ⟨mc_713, List.forall_mem_cons.mpr ⟨mc_712, List.forall_mem_cons.mpr ⟨mc_711, List.forall_mem_cons.mpr ⟨mc_710, fun _ h => absurd h List.not_mem_nil⟩⟩⟩⟩⟩⟩⟩⟩⟩⟩⟩⟩⟩⟩⟩⟩⟩⟩⟩⟩⟩⟩⟩⟩
theorem mc_734 : Cond.code yX11_isRecord cX11_isRecord 3 (some .boolean) ∈ lw_tbl := mt_7 _ (List.mem_of_getElem? (i := 23) rfl)
theorem mc_735 : Cond.selects RX11 yX11_isRecord yX11_isRecord ∈ lw_tbl := List.mem_append_left _ (List.mem_map.mpr ⟨(yX11_isRecord, 28), List.mem_of_getElem? (i := 78) rfl, rfl⟩)
theorem mc_736 : Cond.instanceMethod yX11_isRecord ∈ lw_tbl := mt_7 _ (List.mem_of_getElem? (i := 22) rfl)
theorem mc_737 : Cond.methodLink RX11 221 yX11_isRecord ∈ lw_tbl := mt_7 _ (List.mem_of_getElem? (i := 20) rfl)
set_option maxRecDepth 100000 in
theorem mT_wsX11_keep_r7 : ∀ w ∈ wsX11_keep_r7, w ∈ lw_tbl := by
  unfold wsX11_keep_r7
  exact List.forall_mem_cons.mpr ⟨mc_549, List.forall_mem_cons.mpr ⟨mc_548, List.forall_mem_cons.mpr ⟨mc_547, List.forall_mem_cons.mpr ⟨mc_546, List.forall_mem_cons.mpr ⟨mc_478, List.forall_mem_cons.mpr ⟨mc_477, List.forall_mem_cons.mpr ⟨mc_476, List.forall_mem_cons.mpr ⟨mc_475, List.forall_mem_cons.mpr ⟨mc_737, List.forall_mem_cons.mpr ⟨mc_736, List.forall_mem_cons.mpr ⟨mc_735, List.forall_mem_cons.mpr ⟨mc_734, fun _ h => absurd h List.not_mem_nil⟩⟩⟩⟩⟩⟩⟩⟩⟩⟩⟩⟩
set_option maxRecDepth 100000 in
theorem mT_wsX11_keep : ∀ w ∈ wsX11_keep, w ∈ lw_tbl := by
  unfold wsX11_keep
  exact List.forall_mem_cons.mpr ⟨mc_685, List.forall_mem_append.mpr ⟨List.forall_mem_append.mpr ⟨mT_wsX11_keep_r1, List.forall_mem_append.mpr ⟨mT_wsX11_keep_r2, List.forall_mem_append.mpr ⟨mT_wsX11_keep_r3, List.forall_mem_append.mpr ⟨mT_wsX11_keep_r4, List.forall_mem_append.mpr ⟨mT_wsX11_keep_r5, List.forall_mem_append.mpr ⟨mT_wsX11_keep_r6, mT_wsX11_keep_r7⟩⟩⟩⟩⟩⟩, inX11⟩⟩
theorem mc_738 : Cond.selects RX11 yX11_keep yX11_keep ∈ lw_tbl := mt_6 _ (List.mem_of_getElem? (i := 210) rfl)
theorem mc_739 : Cond.instanceMethod yX11_keep ∈ lw_tbl := mt_6 _ (List.mem_of_getElem? (i := 209) rfl)
theorem mc_740 : Cond.methodLink RL 49 yX11_keep ∈ lw_tbl := mt_6 _ (List.mem_of_getElem? (i := 208) rfl)
set_option maxRecDepth 100000 in
theorem gT_X11_keep : GoodIn lw_tbl (wsV RL 49 RX11 yX11_keep wsX11_keep) := goodIn_sub (List.forall_mem_append.mpr ⟨List.forall_mem_cons.mpr ⟨mc_740, List.forall_mem_cons.mpr ⟨mc_739, List.forall_mem_cons.mpr ⟨mc_738, List.forall_mem_cons.mpr ⟨mc_155, fun _ h => absurd h List.not_mem_nil⟩⟩⟩⟩, mT_wsX11_keep⟩) (by decide +kernel)
theorem mc_741 : Cond.code yX10_crash cX10_crash 2 (some .boolean) ∈ lw_tbl := mt_3 _ (List.mem_of_getElem? (i := 225) rfl)
theorem mc_742 : Cond.selects RX2 yX2_endAt yX2_endAt ∈ lw_tbl := mt_3 _ (List.mem_of_getElem? (i := 235) rfl)
theorem mc_743 : Cond.instanceMethod yX2_endAt ∈ lw_tbl := mt_3 _ (List.mem_of_getElem? (i := 234) rfl)
theorem mc_744 : Cond.methodLink RX9 254 yX2_endAt ∈ lw_tbl := mt_3 _ (List.mem_of_getElem? (i := 233) rfl)
theorem mc_745 : Cond.code Lib.Math.min.name Lib.Math.min.code 2 (some .int) ∈ lw_tbl := mt_3 _ (List.mem_of_getElem? (i := 232) rfl)
theorem mc_746 : Cond.static Lib.Math.min.name ∈ lw_tbl := mt_3 _ (List.mem_of_getElem? (i := 231) rfl)
theorem mc_747 : Cond.methodLink RX9 249 Lib.Math.min.name ∈ lw_tbl := mt_3 _ (List.mem_of_getElem? (i := 230) rfl)
theorem mc_748 : Cond.fieldLink RX9 246 "AheadStore$Journal" "flushedPlace" "I" ∈ lw_tbl := mt_1 _ (List.mem_of_getElem? (i := 50) rfl)
theorem mc_749 : Cond.code yX9_fall cX9_fall 2 none ∈ lw_tbl := mt_3 _ (List.mem_of_getElem? (i := 229) rfl)
theorem mc_750 : Cond.selects RX9 yX9_fall yX9_fall ∈ lw_tbl := mt_3 _ (List.mem_of_getElem? (i := 228) rfl)
theorem mc_751 : Cond.instanceMethod yX9_fall ∈ lw_tbl := mt_3 _ (List.mem_of_getElem? (i := 227) rfl)
theorem mc_752 : Cond.methodLink RX10 107 yX9_fall ∈ lw_tbl := mt_3 _ (List.mem_of_getElem? (i := 226) rfl)
set_option maxRecDepth 100000 in
theorem mT_wsX10_crash_r1 : ∀ w ∈ wsX10_crash_r1, w ∈ lw_tbl := by
  unfold wsX10_crash_r1
  exact List.forall_mem_cons.mpr ⟨mc_18, List.forall_mem_cons.mpr ⟨mc_163, List.forall_mem_cons.mpr ⟨mc_752, List.forall_mem_cons.mpr ⟨mc_751, List.forall_mem_cons.mpr ⟨mc_750, List.forall_mem_cons.mpr ⟨mc_19, List.forall_mem_cons.mpr ⟨mc_749, List.forall_mem_cons.mpr ⟨mc_47, List.forall_mem_cons.mpr ⟨mc_195, List.forall_mem_cons.mpr ⟨mc_748, List.forall_mem_cons.mpr ⟨mc_747, List.forall_mem_cons.mpr ⟨mc_746, List.forall_mem_cons.mpr ⟨mc_610, List.forall_mem_cons.mpr ⟨mc_745, List.forall_mem_cons.mpr ⟨mc_43, List.forall_mem_cons.mpr ⟨mc_39, List.forall_mem_cons.mpr ⟨mc_35, List.forall_mem_cons.mpr ⟨mc_72, List.forall_mem_cons.mpr ⟨mc_26, List.forall_mem_cons.mpr ⟨mc_70, List.forall_mem_cons.mpr ⟨mc_744, List.forall_mem_cons.mpr ⟨mc_743, List.forall_mem_cons.mpr ⟨mc_742, List.forall_mem_cons.mpr ⟨mc_48, fun _ h => absurd h List.not_mem_nil⟩⟩⟩⟩⟩⟩⟩⟩⟩⟩⟩⟩⟩⟩⟩⟩⟩⟩⟩⟩⟩⟩⟩⟩
theorem mc_753 : Cond.methodLink RX9 263 yX0_clear ∈ lw_tbl := mt_4 _ (List.mem_of_getElem? (i := 6) rfl)
theorem mc_754 : Cond.methodLink RX5 21 yJ7_fill_53178 ∈ lw_tbl := mt_4 _ (List.mem_of_getElem? (i := 5) rfl)
theorem mc_755 : Cond.code yX5_clear cX5_clear 1 none ∈ lw_tbl := mt_4 _ (List.mem_of_getElem? (i := 4) rfl)
theorem mc_756 : Cond.selects RX5 yX5_clear yX5_clear ∈ lw_tbl := mt_4 _ (List.mem_of_getElem? (i := 3) rfl)
theorem mc_757 : Cond.instanceMethod yX5_clear ∈ lw_tbl := mt_4 _ (List.mem_of_getElem? (i := 2) rfl)
theorem mc_758 : Cond.methodLink RX9 260 yX5_clear ∈ lw_tbl := mt_4 _ (List.mem_of_getElem? (i := 1) rfl)
theorem mc_759 : Cond.code yX3_emptyFrames cX3_emptyFrames 1 none ∈ lw_tbl := mt_4 _ (List.mem_of_getElem? (i := 0) rfl)
theorem mc_760 : Cond.selects RX3 yX3_emptyFrames yX3_emptyFrames ∈ lw_tbl := mt_3 _ (List.mem_of_getElem? (i := 239) rfl)
theorem mc_761 : Cond.instanceMethod yX3_emptyFrames ∈ lw_tbl := mt_3 _ (List.mem_of_getElem? (i := 238) rfl)
theorem mc_762 : Cond.methodLink RX9 257 yX3_emptyFrames ∈ lw_tbl := mt_3 _ (List.mem_of_getElem? (i := 237) rfl)
theorem mc_763 : Cond.code yX2_endAt cX2_endAt 2 none ∈ lw_tbl := mt_3 _ (List.mem_of_getElem? (i := 236) rfl)
set_option maxRecDepth 100000 in
theorem mT_wsX10_crash_r2 : ∀ w ∈ wsX10_crash_r2, w ∈ lw_tbl := by
  unfold wsX10_crash_r2
  exact List.forall_mem_cons.mpr ⟨mc_763, List.forall_mem_cons.mpr ⟨mc_64, List.forall_mem_cons.mpr ⟨mc_63, List.forall_mem_cons.mpr ⟨mc_762, List.forall_mem_cons.mpr ⟨mc_761, List.forall_mem_cons.mpr ⟨mc_760, List.forall_mem_cons.mpr ⟨mc_44, List.forall_mem_cons.mpr ⟨mc_759, List.forall_mem_cons.mpr ⟨mc_51, List.forall_mem_cons.mpr ⟨mc_96, List.forall_mem_cons.mpr ⟨mc_93, List.forall_mem_cons.mpr ⟨mc_92, List.forall_mem_cons.mpr ⟨mc_91, List.forall_mem_cons.mpr ⟨mc_90, List.forall_mem_cons.mpr ⟨mc_758, List.forall_mem_cons.mpr ⟨mc_757, List.forall_mem_cons.mpr ⟨mc_756, List.forall_mem_cons.mpr ⟨mc_40, List.forall_mem_cons.mpr ⟨mc_755, List.forall_mem_cons.mpr ⟨mc_86, List.forall_mem_cons.mpr ⟨mc_85, List.forall_mem_cons.mpr ⟨mc_84, List.forall_mem_cons.mpr ⟨mc_754, List.forall_mem_cons.mpr ⟨mc_753, fun _ h => absurd h List.not_mem_nil⟩⟩⟩⟩⟩⟩⟩⟩⟩⟩⟩⟩⟩⟩⟩⟩⟩⟩⟩⟩⟩⟩⟩⟩
theorem mc_764 : Cond.methodLink RX0 41 yJ7_fill_53178 ∈ lw_tbl := mt_4 _ (List.mem_of_getElem? (i := 10) rfl)
theorem mc_765 : Cond.code yX0_clear cX0_clear 1 none ∈ lw_tbl := mt_4 _ (List.mem_of_getElem? (i := 9) rfl)
theorem mc_766 : Cond.selects RX0 yX0_clear yX0_clear ∈ lw_tbl := mt_4 _ (List.mem_of_getElem? (i := 8) rfl)
theorem mc_767 : Cond.instanceMethod yX0_clear ∈ lw_tbl := mt_4 _ (List.mem_of_getElem? (i := 7) rfl)
set_option maxRecDepth 100000 in
theorem mT_wsX10_crash_r3 : ∀ w ∈ wsX10_crash_r3, w ∈ lw_tbl := by
  unfold wsX10_crash_r3
  exact List.forall_mem_cons.mpr ⟨mc_767, List.forall_mem_cons.mpr ⟨mc_766, List.forall_mem_cons.mpr ⟨mc_36, List.forall_mem_cons.mpr ⟨mc_765, List.forall_mem_cons.mpr ⟨mc_80, List.forall_mem_cons.mpr ⟨mc_79, List.forall_mem_cons.mpr ⟨mc_78, List.forall_mem_cons.mpr ⟨mc_77, List.forall_mem_cons.mpr ⟨mc_76, List.forall_mem_cons.mpr ⟨mc_764, fun _ h => absurd h List.not_mem_nil⟩⟩⟩⟩⟩⟩⟩⟩⟩⟩
set_option maxRecDepth 100000 in
theorem mT_wsX10_crash : ∀ w ∈ wsX10_crash, w ∈ lw_tbl := by
  unfold wsX10_crash
  exact List.forall_mem_cons.mpr ⟨mc_741, List.forall_mem_append.mpr ⟨List.forall_mem_append.mpr ⟨List.forall_mem_append.mpr ⟨List.forall_mem_append.mpr ⟨List.forall_mem_append.mpr ⟨List.forall_mem_append.mpr ⟨List.forall_mem_append.mpr ⟨mT_wsX10_crash_r1, List.forall_mem_append.mpr ⟨mT_wsX10_crash_r2, mT_wsX10_crash_r3⟩⟩, inX10⟩, inX9⟩, inX2⟩, inX3⟩, inX5⟩, inX0⟩⟩
theorem mc_768 : Cond.selects RX10 yX10_crash yX10_crash ∈ lw_tbl := mt_3 _ (List.mem_of_getElem? (i := 224) rfl)
theorem mc_769 : Cond.instanceMethod yX10_crash ∈ lw_tbl := mt_3 _ (List.mem_of_getElem? (i := 223) rfl)
theorem mc_770 : Cond.methodLink RL 50 yX10_crash ∈ lw_tbl := mt_3 _ (List.mem_of_getElem? (i := 222) rfl)
set_option maxRecDepth 100000 in
theorem gT_X10_crash : GoodIn lw_tbl (wsV RL 50 RX10 yX10_crash wsX10_crash) := goodIn_sub (List.forall_mem_append.mpr ⟨List.forall_mem_cons.mpr ⟨mc_770, List.forall_mem_cons.mpr ⟨mc_769, List.forall_mem_cons.mpr ⟨mc_768, List.forall_mem_cons.mpr ⟨mc_139, fun _ h => absurd h List.not_mem_nil⟩⟩⟩⟩, mT_wsX10_crash⟩) (by decide +kernel)
theorem mc_771 : Cond.code yX11_crash cX11_crash 2 (some .boolean) ∈ lw_tbl := mt_7 _ (List.mem_of_getElem? (i := 31) rfl)
theorem mc_772 : Cond.methodLink RX11 224 yX11_lesser ∈ lw_tbl := mt_7 _ (List.mem_of_getElem? (i := 36) rfl)
theorem mc_773 : Cond.code yX11_crashes cX11_crashes 3 none ∈ lw_tbl := mt_7 _ (List.mem_of_getElem? (i := 35) rfl)
theorem mc_774 : Cond.selects RX11 yX11_crashes yX11_crashes ∈ lw_tbl := List.mem_append_left _ (List.mem_map.mpr ⟨(yX11_crashes, 28), List.mem_of_getElem? (i := 79) rfl, rfl⟩)
theorem mc_775 : Cond.instanceMethod yX11_crashes ∈ lw_tbl := mt_7 _ (List.mem_of_getElem? (i := 34) rfl)
theorem mc_776 : Cond.methodLink RX11 227 yX11_crashes ∈ lw_tbl := mt_7 _ (List.mem_of_getElem? (i := 32) rfl)
set_option maxRecDepth 100000 in
theorem mT_wsX11_crash_r1 : ∀ w ∈ wsX11_crash_r1, w ∈ lw_tbl := by
  unfold wsX11_crash_r1
  exact List.forall_mem_cons.mpr ⟨mc_184, List.forall_mem_cons.mpr ⟨mc_183, List.forall_mem_cons.mpr ⟨mc_182, List.forall_mem_cons.mpr ⟨mc_181, List.forall_mem_cons.mpr ⟨mc_155, List.forall_mem_cons.mpr ⟨mc_180, List.forall_mem_cons.mpr ⟨mc_151, List.forall_mem_cons.mpr ⟨mc_179, List.forall_mem_cons.mpr ⟨mc_178, List.forall_mem_cons.mpr ⟨mc_177, List.forall_mem_cons.mpr ⟨mc_176, List.forall_mem_cons.mpr ⟨mc_776, List.forall_mem_cons.mpr ⟨mc_775, List.forall_mem_cons.mpr ⟨mc_774, List.forall_mem_cons.mpr ⟨mc_773, List.forall_mem_cons.mpr ⟨mc_315, List.forall_mem_cons.mpr ⟨mc_314, List.forall_mem_cons.mpr ⟨mc_313, List.forall_mem_cons.mpr ⟨mc_312, List.forall_mem_cons.mpr ⟨mc_366, List.forall_mem_cons.mpr ⟨mc_365, List.forall_mem_cons.mpr ⟨mc_364, List.forall_mem_cons.mpr ⟨mc_363, List.forall_mem_cons.mpr ⟨mc_772, fun _ h => absurd h List.not_mem_nil⟩⟩⟩⟩⟩⟩⟩⟩⟩⟩⟩⟩⟩⟩⟩⟩⟩⟩⟩⟩⟩⟩⟩⟩
theorem mc_777 : Cond.code yX11_lesser cX11_lesser 3 (some .int) ∈ lw_tbl := mt_7 _ (List.mem_of_getElem? (i := 39) rfl)
theorem mc_778 : Cond.selects RX11 yX11_lesser yX11_lesser ∈ lw_tbl := List.mem_append_left _ (List.mem_map.mpr ⟨(yX11_lesser, 28), List.mem_of_getElem? (i := 80) rfl, rfl⟩)
theorem mc_779 : Cond.instanceMethod yX11_lesser ∈ lw_tbl := mt_7 _ (List.mem_of_getElem? (i := 38) rfl)
set_option maxRecDepth 100000 in
theorem mT_wsX11_crash_r2 : ∀ w ∈ wsX11_crash_r2, w ∈ lw_tbl := by
  unfold wsX11_crash_r2
  exact List.forall_mem_cons.mpr ⟨mc_779, List.forall_mem_cons.mpr ⟨mc_778, List.forall_mem_cons.mpr ⟨mc_777, List.forall_mem_cons.mpr ⟨mc_330, List.forall_mem_cons.mpr ⟨mc_329, List.forall_mem_cons.mpr ⟨mc_328, List.forall_mem_cons.mpr ⟨mc_327, List.forall_mem_cons.mpr ⟨mc_362, List.forall_mem_cons.mpr ⟨mc_361, List.forall_mem_cons.mpr ⟨mc_360, List.forall_mem_cons.mpr ⟨mc_359, List.forall_mem_cons.mpr ⟨mc_358, List.forall_mem_cons.mpr ⟨mc_357, List.forall_mem_cons.mpr ⟨mc_356, List.forall_mem_cons.mpr ⟨mc_355, List.forall_mem_cons.mpr ⟨mc_286, List.forall_mem_cons.mpr ⟨mc_322, List.forall_mem_cons.mpr ⟨mc_321, List.forall_mem_cons.mpr ⟨mc_320, fun _ h => absurd h List.not_mem_nil⟩⟩⟩⟩⟩⟩⟩⟩⟩⟩⟩⟩⟩⟩⟩⟩⟩⟩⟩
set_option maxRecDepth 100000 in
theorem mT_wsX11_crash : ∀ w ∈ wsX11_crash, w ∈ lw_tbl := by
  unfold wsX11_crash
  exact List.forall_mem_cons.mpr ⟨mc_771, List.forall_mem_append.mpr ⟨List.forall_mem_append.mpr ⟨mT_wsX11_crash_r1, mT_wsX11_crash_r2⟩, inX11⟩⟩
theorem mc_780 : Cond.selects RX11 yX11_crash yX11_crash ∈ lw_tbl := mt_7 _ (List.mem_of_getElem? (i := 30) rfl)
theorem mc_781 : Cond.instanceMethod yX11_crash ∈ lw_tbl := mt_7 _ (List.mem_of_getElem? (i := 29) rfl)
theorem mc_782 : Cond.methodLink RL 53 yX11_crash ∈ lw_tbl := mt_7 _ (List.mem_of_getElem? (i := 28) rfl)
set_option maxRecDepth 100000 in
theorem gT_X11_crash : GoodIn lw_tbl (wsV RL 53 RX11 yX11_crash wsX11_crash) := goodIn_sub (List.forall_mem_append.mpr ⟨List.forall_mem_cons.mpr ⟨mc_782, List.forall_mem_cons.mpr ⟨mc_781, List.forall_mem_cons.mpr ⟨mc_780, List.forall_mem_cons.mpr ⟨mc_155, fun _ h => absurd h List.not_mem_nil⟩⟩⟩⟩, mT_wsX11_crash⟩) (by decide +kernel)
theorem mc_783 : Cond.code yX10_recover cX10_recover 2 (some .int) ∈ lw_tbl := mt_4 _ (List.mem_of_getElem? (i := 14) rfl)
theorem mc_784 : Cond.methodLink RX4 54 yX3_restore ∈ lw_tbl := mt_4 _ (List.mem_of_getElem? (i := 20) rfl)
theorem mc_785 : Cond.methodLink RX4 44 yX3_isLost ∈ lw_tbl := mt_4 _ (List.mem_of_getElem? (i := 19) rfl)
theorem mc_786 : Cond.fieldLink RX4 69 "AheadStore$World" "up" "Z" ∈ lw_tbl := mt_2 _ (List.mem_of_getElem? (i := 1) rfl)
theorem mc_787 : Cond.fieldLink RX4 50 "AheadStore$World" "journal" "LAheadStore$Journal;" ∈ lw_tbl := mt_1 _ (List.mem_of_getElem? (i := 224) rfl)
theorem mc_788 : Cond.fieldLink RX4 40 "AheadStore$World" "pages" "LAheadStore$Pages;" ∈ lw_tbl := mt_1 _ (List.mem_of_getElem? (i := 228) rfl)
theorem mc_789 : Cond.fieldLink RX4 35 "AheadStore$World" "redone" "I" ∈ lw_tbl := mt_2 _ (List.mem_of_getElem? (i := 7) rfl)
theorem mc_790 : Cond.code yX4_attempt cX4_attempt 4 (some .int) ∈ lw_tbl := mt_4 _ (List.mem_of_getElem? (i := 18) rfl)
theorem mc_791 : Cond.selects RX4 yX4_attempt yX4_attempt ∈ lw_tbl := mt_4 _ (List.mem_of_getElem? (i := 17) rfl)
theorem mc_792 : Cond.instanceMethod yX4_attempt ∈ lw_tbl := mt_4 _ (List.mem_of_getElem? (i := 16) rfl)
theorem mc_793 : Cond.methodLink RX10 111 yX4_attempt ∈ lw_tbl := mt_4 _ (List.mem_of_getElem? (i := 15) rfl)
set_option maxRecDepth 100000 in
theorem mT_wsX10_recover_r1 : ∀ w ∈ wsX10_recover_r1, w ∈ lw_tbl := by
  unfold wsX10_recover_r1
  exact List.forall_mem_cons.mpr ⟨mc_18, List.forall_mem_cons.mpr ⟨mc_163, List.forall_mem_cons.mpr ⟨mc_10, List.forall_mem_cons.mpr ⟨mc_793, List.forall_mem_cons.mpr ⟨mc_792, List.forall_mem_cons.mpr ⟨mc_791, List.forall_mem_cons.mpr ⟨mc_11, List.forall_mem_cons.mpr ⟨mc_790, List.forall_mem_cons.mpr ⟨mc_131, List.forall_mem_cons.mpr ⟨mc_789, List.forall_mem_cons.mpr ⟨mc_788, List.forall_mem_cons.mpr ⟨mc_787, List.forall_mem_cons.mpr ⟨mc_126, List.forall_mem_cons.mpr ⟨mc_786, List.forall_mem_cons.mpr ⟨mc_785, List.forall_mem_cons.mpr ⟨mc_396, List.forall_mem_cons.mpr ⟨mc_395, List.forall_mem_cons.mpr ⟨mc_44, List.forall_mem_cons.mpr ⟨mc_394, List.forall_mem_cons.mpr ⟨mc_53, List.forall_mem_cons.mpr ⟨mc_784, List.forall_mem_cons.mpr ⟨mc_660, List.forall_mem_cons.mpr ⟨mc_659, List.forall_mem_cons.mpr ⟨mc_658, fun _ h => absurd h List.not_mem_nil⟩⟩⟩⟩⟩⟩⟩⟩⟩⟩⟩⟩⟩⟩⟩⟩⟩⟩⟩⟩⟩⟩⟩⟩
set_option maxRecDepth 100000 in
theorem mT_wsX10_recover_r2 : ∀ w ∈ wsX10_recover_r2, w ∈ lw_tbl := by
  unfold wsX10_recover_r2
  exact List.forall_mem_cons.mpr ⟨mc_55, List.forall_mem_cons.mpr ⟨mc_57, List.forall_mem_cons.mpr ⟨mc_385, List.forall_mem_cons.mpr ⟨mc_384, List.forall_mem_cons.mpr ⟨mc_383, List.forall_mem_cons.mpr ⟨mc_413, List.forall_mem_cons.mpr ⟨mc_56, List.forall_mem_cons.mpr ⟨mc_54, List.forall_mem_cons.mpr ⟨mc_657, List.forall_mem_cons.mpr ⟨mc_656, List.forall_mem_cons.mpr ⟨mc_607, List.forall_mem_cons.mpr ⟨mc_606, List.forall_mem_cons.mpr ⟨mc_48, List.forall_mem_cons.mpr ⟨mc_605, List.forall_mem_cons.mpr ⟨mc_64, List.forall_mem_cons.mpr ⟨mc_63, List.forall_mem_cons.mpr ⟨mc_681, List.forall_mem_cons.mpr ⟨mc_591, List.forall_mem_cons.mpr ⟨mc_590, List.forall_mem_cons.mpr ⟨mc_589, List.forall_mem_cons.mpr ⟨mc_65, List.forall_mem_cons.mpr ⟨mc_237, List.forall_mem_cons.mpr ⟨mc_236, List.forall_mem_cons.mpr ⟨mc_235, fun _ h => absurd h List.not_mem_nil⟩⟩⟩⟩⟩⟩⟩⟩⟩⟩⟩⟩⟩⟩⟩⟩⟩⟩⟩⟩⟩⟩⟩⟩
set_option maxRecDepth 100000 in
theorem mT_wsX10_recover_r3 : ∀ w ∈ wsX10_recover_r3, w ∈ lw_tbl := by
  unfold wsX10_recover_r3
  exact List.forall_mem_cons.mpr ⟨mc_234, List.forall_mem_cons.mpr ⟨mc_588, List.forall_mem_cons.mpr ⟨mc_619, List.forall_mem_cons.mpr ⟨mc_618, List.forall_mem_cons.mpr ⟨mc_617, List.forall_mem_cons.mpr ⟨mc_430, List.forall_mem_cons.mpr ⟨mc_429, List.forall_mem_cons.mpr ⟨mc_428, List.forall_mem_cons.mpr ⟨mc_427, List.forall_mem_cons.mpr ⟨mc_680, List.forall_mem_cons.mpr ⟨mc_679, List.forall_mem_cons.mpr ⟨mc_678, List.forall_mem_cons.mpr ⟨mc_677, List.forall_mem_cons.mpr ⟨mc_426, List.forall_mem_cons.mpr ⟨mc_425, List.forall_mem_cons.mpr ⟨mc_424, List.forall_mem_cons.mpr ⟨mc_423, List.forall_mem_cons.mpr ⟨mc_676, List.forall_mem_cons.mpr ⟨mc_615, List.forall_mem_cons.mpr ⟨mc_614, List.forall_mem_cons.mpr ⟨mc_613, List.forall_mem_cons.mpr ⟨mc_612, List.forall_mem_cons.mpr ⟨mc_611, List.forall_mem_cons.mpr ⟨mc_610, fun _ h => absurd h List.not_mem_nil⟩⟩⟩⟩⟩⟩⟩⟩⟩⟩⟩⟩⟩⟩⟩⟩⟩⟩⟩⟩⟩⟩⟩⟩
theorem mc_794 : Cond.code yX9_firstFrom cX9_firstFrom 1 (some .int) ∈ lw_tbl := mt_4 _ (List.mem_of_getElem? (i := 29) rfl)
theorem mc_795 : Cond.selects RX9 yX9_firstFrom yX9_firstFrom ∈ lw_tbl := mt_4 _ (List.mem_of_getElem? (i := 28) rfl)
theorem mc_796 : Cond.instanceMethod yX9_firstFrom ∈ lw_tbl := mt_4 _ (List.mem_of_getElem? (i := 27) rfl)
theorem mc_797 : Cond.methodLink RX4 82 yX9_firstFrom ∈ lw_tbl := mt_4 _ (List.mem_of_getElem? (i := 26) rfl)
theorem mc_798 : Cond.methodLink RX4 76 yJ7_fill_53178 ∈ lw_tbl := mt_4 _ (List.mem_of_getElem? (i := 25) rfl)
theorem mc_799 : Cond.methodLink RX4 136 Lib.Math.min.name ∈ lw_tbl := mt_4 _ (List.mem_of_getElem? (i := 58) rfl)
theorem mc_800 : Cond.fieldLink RX4 131 "AheadStore$Standby" "received" "I" ∈ lw_tbl := mt_1 _ (List.mem_of_getElem? (i := 190) rfl)
theorem mc_801 : Cond.fieldLink RX4 127 "AheadStore$World" "standby" "LAheadStore$Standby;" ∈ lw_tbl := mt_1 _ (List.mem_of_getElem? (i := 235) rfl)
theorem mc_802 : Cond.fieldLink RX4 94 "AheadStore$World" "roster" "LAheadStore$Roster;" ∈ lw_tbl := mt_1 _ (List.mem_of_getElem? (i := 230) rfl)
theorem mc_803 : Cond.fieldLink RX4 86 "AheadStore$Journal" "endPlace" "I" ∈ lw_tbl := mt_1 _ (List.mem_of_getElem? (i := 44) rfl)
theorem mc_804 : Cond.code yX4_analyse cX4_analyse 4 none ∈ lw_tbl := mt_4 _ (List.mem_of_getElem? (i := 24) rfl)
theorem mc_805 : Cond.selects RX4 yX4_analyse yX4_analyse ∈ lw_tbl := List.mem_append_left _ (List.mem_map.mpr ⟨(yX4_analyse, 7), List.mem_of_getElem? (i := 5) rfl, rfl⟩)
theorem mc_806 : Cond.instanceMethod yX4_analyse ∈ lw_tbl := mt_4 _ (List.mem_of_getElem? (i := 23) rfl)
theorem mc_807 : Cond.methodLink RX4 58 yX4_analyse ∈ lw_tbl := mt_4 _ (List.mem_of_getElem? (i := 21) rfl)
set_option maxRecDepth 100000 in
theorem mT_wsX10_recover_r4 : ∀ w ∈ wsX10_recover_r4, w ∈ lw_tbl := by
  unfold wsX10_recover_r4
  exact List.forall_mem_cons.mpr ⟨mc_609, List.forall_mem_cons.mpr ⟨mc_807, List.forall_mem_cons.mpr ⟨mc_806, List.forall_mem_cons.mpr ⟨mc_805, List.forall_mem_cons.mpr ⟨mc_804, List.forall_mem_cons.mpr ⟨mc_132, List.forall_mem_cons.mpr ⟨mc_803, List.forall_mem_cons.mpr ⟨mc_802, List.forall_mem_cons.mpr ⟨mc_801, List.forall_mem_cons.mpr ⟨mc_800, List.forall_mem_cons.mpr ⟨mc_799, List.forall_mem_cons.mpr ⟨mc_746, List.forall_mem_cons.mpr ⟨mc_745, List.forall_mem_cons.mpr ⟨mc_130, List.forall_mem_cons.mpr ⟨mc_129, List.forall_mem_cons.mpr ⟨mc_798, List.forall_mem_cons.mpr ⟨mc_92, List.forall_mem_cons.mpr ⟨mc_91, List.forall_mem_cons.mpr ⟨mc_90, List.forall_mem_cons.mpr ⟨mc_797, List.forall_mem_cons.mpr ⟨mc_796, List.forall_mem_cons.mpr ⟨mc_795, List.forall_mem_cons.mpr ⟨mc_19, List.forall_mem_cons.mpr ⟨mc_794, fun _ h => absurd h List.not_mem_nil⟩⟩⟩⟩⟩⟩⟩⟩⟩⟩⟩⟩⟩⟩⟩⟩⟩⟩⟩⟩⟩⟩⟩⟩
theorem mc_808 : Cond.methodLink RX5 41 yX5_remove ∈ lw_tbl := mt_4 _ (List.mem_of_getElem? (i := 42) rfl)
theorem mc_809 : Cond.methodLink RX5 45 yX2_pairAt ∈ lw_tbl := mt_4 _ (List.mem_of_getElem? (i := 41) rfl)
theorem mc_810 : Cond.code yX5_learnAll cX5_learnAll 7 none ∈ lw_tbl := mt_4 _ (List.mem_of_getElem? (i := 39) rfl)
theorem mc_811 : Cond.selects RX5 yX5_learnAll yX5_learnAll ∈ lw_tbl := List.mem_append_left _ (List.mem_map.mpr ⟨(yX5_learnAll, 3), List.mem_of_getElem? (i := 6) rfl, rfl⟩)
theorem mc_812 : Cond.instanceMethod yX5_learnAll ∈ lw_tbl := mt_4 _ (List.mem_of_getElem? (i := 38) rfl)
theorem mc_813 : Cond.methodLink RX5 33 yX5_learnAll ∈ lw_tbl := mt_4 _ (List.mem_of_getElem? (i := 36) rfl)
theorem mc_814 : Cond.methodLink RX5 27 yX2_byteAt ∈ lw_tbl := mt_4 _ (List.mem_of_getElem? (i := 35) rfl)
theorem mc_815 : Cond.code yX5_learn cX5_learn 5 none ∈ lw_tbl := mt_4 _ (List.mem_of_getElem? (i := 34) rfl)
theorem mc_816 : Cond.selects RX5 yX5_learn yX5_learn ∈ lw_tbl := mt_4 _ (List.mem_of_getElem? (i := 33) rfl)
theorem mc_817 : Cond.instanceMethod yX5_learn ∈ lw_tbl := mt_4 _ (List.mem_of_getElem? (i := 32) rfl)
theorem mc_818 : Cond.methodLink RX4 98 yX5_learn ∈ lw_tbl := mt_4 _ (List.mem_of_getElem? (i := 31) rfl)
theorem mc_819 : Cond.methodLink RX4 91 yX2_wholeAt ∈ lw_tbl := mt_4 _ (List.mem_of_getElem? (i := 30) rfl)
set_option maxRecDepth 100000 in
theorem mT_wsX10_recover_r5 : ∀ w ∈ wsX10_recover_r5, w ∈ lw_tbl := by
  unfold wsX10_recover_r5
  exact List.forall_mem_cons.mpr ⟨mc_25, List.forall_mem_cons.mpr ⟨mc_819, List.forall_mem_cons.mpr ⟨mc_818, List.forall_mem_cons.mpr ⟨mc_817, List.forall_mem_cons.mpr ⟨mc_816, List.forall_mem_cons.mpr ⟨mc_40, List.forall_mem_cons.mpr ⟨mc_815, List.forall_mem_cons.mpr ⟨mc_86, List.forall_mem_cons.mpr ⟨mc_85, List.forall_mem_cons.mpr ⟨mc_814, List.forall_mem_cons.mpr ⟨mc_813, List.forall_mem_cons.mpr ⟨mc_812, List.forall_mem_cons.mpr ⟨mc_811, List.forall_mem_cons.mpr ⟨mc_810, List.forall_mem_cons.mpr ⟨mc_201, List.forall_mem_cons.mpr ⟨mc_139, List.forall_mem_cons.mpr ⟨mc_200, List.forall_mem_cons.mpr ⟨mc_809, List.forall_mem_cons.mpr ⟨mc_530, List.forall_mem_cons.mpr ⟨mc_529, List.forall_mem_cons.mpr ⟨mc_528, List.forall_mem_cons.mpr ⟨mc_808, List.forall_mem_cons.mpr ⟨mc_228, List.forall_mem_cons.mpr ⟨mc_227, fun _ h => absurd h List.not_mem_nil⟩⟩⟩⟩⟩⟩⟩⟩⟩⟩⟩⟩⟩⟩⟩⟩⟩⟩⟩⟩⟩⟩⟩⟩
theorem mc_820 : Cond.selects RX5 yX5_startUndo yX5_startUndo ∈ lw_tbl := mt_4 _ (List.mem_of_getElem? (i := 61) rfl)
theorem mc_821 : Cond.instanceMethod yX5_startUndo ∈ lw_tbl := mt_4 _ (List.mem_of_getElem? (i := 60) rfl)
theorem mc_822 : Cond.methodLink RX4 142 yX5_startUndo ∈ lw_tbl := mt_4 _ (List.mem_of_getElem? (i := 59) rfl)
theorem mc_823 : Cond.methodLink RX4 124 yX2_endAt ∈ lw_tbl := mt_4 _ (List.mem_of_getElem? (i := 57) rfl)
theorem mc_824 : Cond.methodLink RX4 121 yX2_behind ∈ lw_tbl := mt_4 _ (List.mem_of_getElem? (i := 56) rfl)
theorem mc_825 : Cond.methodLink RX4 151 yX2_pairAt ∈ lw_tbl := mt_4 _ (List.mem_of_getElem? (i := 55) rfl)
theorem mc_826 : Cond.code yX4_markTold cX4_markTold 5 none ∈ lw_tbl := mt_4 _ (List.mem_of_getElem? (i := 54) rfl)
theorem mc_827 : Cond.selects RX4 yX4_markTold yX4_markTold ∈ lw_tbl := List.mem_append_left _ (List.mem_map.mpr ⟨(yX4_markTold, 7), List.mem_of_getElem? (i := 8) rfl, rfl⟩)
theorem mc_828 : Cond.instanceMethod yX4_markTold ∈ lw_tbl := mt_4 _ (List.mem_of_getElem? (i := 53) rfl)
theorem mc_829 : Cond.methodLink RX4 118 yX4_markTold ∈ lw_tbl := mt_4 _ (List.mem_of_getElem? (i := 51) rfl)
theorem mc_830 : Cond.methodLink RX4 115 yX2_byteAt ∈ lw_tbl := mt_4 _ (List.mem_of_getElem? (i := 50) rfl)
theorem mc_831 : Cond.code yX4_markUnclean cX4_markUnclean 3 none ∈ lw_tbl := mt_4 _ (List.mem_of_getElem? (i := 48) rfl)
theorem mc_832 : Cond.selects RX4 yX4_markUnclean yX4_markUnclean ∈ lw_tbl := List.mem_append_left _ (List.mem_map.mpr ⟨(yX4_markUnclean, 7), List.mem_of_getElem? (i := 7) rfl, rfl⟩)
theorem mc_833 : Cond.instanceMethod yX4_markUnclean ∈ lw_tbl := mt_4 _ (List.mem_of_getElem? (i := 47) rfl)
theorem mc_834 : Cond.methodLink RX4 111 yX4_markUnclean ∈ lw_tbl := mt_4 _ (List.mem_of_getElem? (i := 45) rfl)
theorem mc_835 : Cond.methodLink RX4 107 yX2_addressAt ∈ lw_tbl := mt_4 _ (List.mem_of_getElem? (i := 44) rfl)
theorem mc_836 : Cond.methodLink RX4 104 yX2_touches ∈ lw_tbl := mt_4 _ (List.mem_of_getElem? (i := 43) rfl)
set_option maxRecDepth 100000 in
theorem mT_wsX10_recover_r6 : ∀ w ∈ wsX10_recover_r6, w ∈ lw_tbl := by
  unfold wsX10_recover_r6
  exact List.forall_mem_cons.mpr ⟨mc_226, List.forall_mem_cons.mpr ⟨mc_84, List.forall_mem_cons.mpr ⟨mc_836, List.forall_mem_cons.mpr ⟨mc_835, List.forall_mem_cons.mpr ⟨mc_834, List.forall_mem_cons.mpr ⟨mc_833, List.forall_mem_cons.mpr ⟨mc_832, List.forall_mem_cons.mpr ⟨mc_831, List.forall_mem_cons.mpr ⟨mc_400, List.forall_mem_cons.mpr ⟨mc_399, List.forall_mem_cons.mpr ⟨mc_830, List.forall_mem_cons.mpr ⟨mc_829, List.forall_mem_cons.mpr ⟨mc_828, List.forall_mem_cons.mpr ⟨mc_827, List.forall_mem_cons.mpr ⟨mc_826, List.forall_mem_cons.mpr ⟨mc_825, List.forall_mem_cons.mpr ⟨mc_824, List.forall_mem_cons.mpr ⟨mc_823, List.forall_mem_cons.mpr ⟨mc_743, List.forall_mem_cons.mpr ⟨mc_742, List.forall_mem_cons.mpr ⟨mc_763, List.forall_mem_cons.mpr ⟨mc_822, List.forall_mem_cons.mpr ⟨mc_821, List.forall_mem_cons.mpr ⟨mc_820, fun _ h => absurd h List.not_mem_nil⟩⟩⟩⟩⟩⟩⟩⟩⟩⟩⟩⟩⟩⟩⟩⟩⟩⟩⟩⟩⟩⟩⟩⟩
theorem mc_837 : Cond.methodLink RX4 154 yX3_fetch ∈ lw_tbl := mt_4 _ (List.mem_of_getElem? (i := 69) rfl)
theorem mc_838 : Cond.fieldLink RX4 158 "AheadStore$Pages" "stamps" "[I" ∈ lw_tbl := mt_1 _ (List.mem_of_getElem? (i := 85) rfl)
theorem mc_839 : Cond.code yX4_redo cX4_redo 7 none ∈ lw_tbl := mt_4 _ (List.mem_of_getElem? (i := 68) rfl)
theorem mc_840 : Cond.selects RX4 yX4_redo yX4_redo ∈ lw_tbl := List.mem_append_left _ (List.mem_map.mpr ⟨(yX4_redo, 7), List.mem_of_getElem? (i := 9) rfl, rfl⟩)
theorem mc_841 : Cond.instanceMethod yX4_redo ∈ lw_tbl := mt_4 _ (List.mem_of_getElem? (i := 67) rfl)
theorem mc_842 : Cond.methodLink RX4 62 yX4_redo ∈ lw_tbl := mt_4 _ (List.mem_of_getElem? (i := 65) rfl)
theorem mc_843 : Cond.methodLink RX4 145 yX5_allThatAre ∈ lw_tbl := mt_4 _ (List.mem_of_getElem? (i := 64) rfl)
theorem mc_844 : Cond.methodLink RX5 48 arraycopyName ∈ lw_tbl := mt_4 _ (List.mem_of_getElem? (i := 63) rfl)
theorem mc_845 : Cond.code yX5_startUndo cX5_startUndo 1 none ∈ lw_tbl := mt_4 _ (List.mem_of_getElem? (i := 62) rfl)
set_option maxRecDepth 100000 in
theorem mT_wsX10_recover_r7 : ∀ w ∈ wsX10_recover_r7, w ∈ lw_tbl := by
  unfold wsX10_recover_r7
  exact List.forall_mem_cons.mpr ⟨mc_845, List.forall_mem_cons.mpr ⟨mc_844, List.forall_mem_cons.mpr ⟨mc_843, List.forall_mem_cons.mpr ⟨mc_636, List.forall_mem_cons.mpr ⟨mc_635, List.forall_mem_cons.mpr ⟨mc_634, List.forall_mem_cons.mpr ⟨mc_842, List.forall_mem_cons.mpr ⟨mc_841, List.forall_mem_cons.mpr ⟨mc_840, List.forall_mem_cons.mpr ⟨mc_839, List.forall_mem_cons.mpr ⟨mc_838, List.forall_mem_cons.mpr ⟨mc_837, List.forall_mem_cons.mpr ⟨mc_388, List.forall_mem_cons.mpr ⟨mc_387, List.forall_mem_cons.mpr ⟨mc_386, List.forall_mem_cons.mpr ⟨mc_96, List.forall_mem_cons.mpr ⟨mc_50, List.forall_mem_cons.mpr ⟨mc_51, List.forall_mem_cons.mpr ⟨mc_49, List.forall_mem_cons.mpr ⟨mc_94, List.forall_mem_cons.mpr ⟨mc_95, List.forall_mem_cons.mpr ⟨mc_412, List.forall_mem_cons.mpr ⟨mc_411, List.forall_mem_cons.mpr ⟨mc_410, fun _ h => absurd h List.not_mem_nil⟩⟩⟩⟩⟩⟩⟩⟩⟩⟩⟩⟩⟩⟩⟩⟩⟩⟩⟩⟩⟩⟩⟩⟩
theorem mc_846 : Cond.constant RX4 172 (1000000) ∈ lw_tbl := mt_4 _ (List.mem_of_getElem? (i := 81) rfl)
theorem mc_847 : Cond.fieldLink RX4 165 "AheadStore$Roster" "is" "[I" ∈ lw_tbl := mt_1 _ (List.mem_of_getElem? (i := 125) rfl)
theorem mc_848 : Cond.code yX4_undo cX4_undo 8 (some .boolean) ∈ lw_tbl := mt_4 _ (List.mem_of_getElem? (i := 74) rfl)
theorem mc_849 : Cond.selects RX4 yX4_undo yX4_undo ∈ lw_tbl := List.mem_append_left _ (List.mem_map.mpr ⟨(yX4_undo, 7), List.mem_of_getElem? (i := 10) rfl, rfl⟩)
theorem mc_850 : Cond.instanceMethod yX4_undo ∈ lw_tbl := mt_4 _ (List.mem_of_getElem? (i := 73) rfl)
theorem mc_851 : Cond.methodLink RX4 65 yX4_undo ∈ lw_tbl := mt_4 _ (List.mem_of_getElem? (i := 71) rfl)
theorem mc_852 : Cond.methodLink RX4 161 yX3_doIn ∈ lw_tbl := mt_4 _ (List.mem_of_getElem? (i := 70) rfl)
set_option maxRecDepth 100000 in
theorem mT_wsX10_recover_r8 : ∀ w ∈ wsX10_recover_r8, w ∈ lw_tbl := by
  unfold wsX10_recover_r8
  exact List.forall_mem_cons.mpr ⟨mc_409, List.forall_mem_cons.mpr ⟨mc_52, List.forall_mem_cons.mpr ⟨mc_408, List.forall_mem_cons.mpr ⟨mc_407, List.forall_mem_cons.mpr ⟨mc_406, List.forall_mem_cons.mpr ⟨mc_405, List.forall_mem_cons.mpr ⟨mc_404, List.forall_mem_cons.mpr ⟨mc_403, List.forall_mem_cons.mpr ⟨mc_402, List.forall_mem_cons.mpr ⟨mc_401, List.forall_mem_cons.mpr ⟨mc_398, List.forall_mem_cons.mpr ⟨mc_240, List.forall_mem_cons.mpr ⟨mc_239, List.forall_mem_cons.mpr ⟨mc_238, List.forall_mem_cons.mpr ⟨mc_852, List.forall_mem_cons.mpr ⟨mc_433, List.forall_mem_cons.mpr ⟨mc_432, List.forall_mem_cons.mpr ⟨mc_431, List.forall_mem_cons.mpr ⟨mc_851, List.forall_mem_cons.mpr ⟨mc_850, List.forall_mem_cons.mpr ⟨mc_849, List.forall_mem_cons.mpr ⟨mc_848, List.forall_mem_cons.mpr ⟨mc_847, List.forall_mem_cons.mpr ⟨mc_846, fun _ h => absurd h List.not_mem_nil⟩⟩⟩⟩⟩⟩⟩⟩⟩⟩⟩⟩⟩⟩⟩⟩⟩⟩⟩⟩⟩⟩⟩⟩
theorem mc_853 : Cond.methodLink RX4 191 yX9_endOf ∈ lw_tbl := mt_4 _ (List.mem_of_getElem? (i := 79) rfl)
theorem mc_854 : Cond.code yX4_endOne cX4_endOne 3 none ∈ lw_tbl := mt_4 _ (List.mem_of_getElem? (i := 78) rfl)
theorem mc_855 : Cond.selects RX4 yX4_endOne yX4_endOne ∈ lw_tbl := List.mem_append_left _ (List.mem_map.mpr ⟨(yX4_endOne, 7), List.mem_of_getElem? (i := 11) rfl, rfl⟩)
theorem mc_856 : Cond.instanceMethod yX4_endOne ∈ lw_tbl := mt_4 _ (List.mem_of_getElem? (i := 77) rfl)
theorem mc_857 : Cond.methodLink RX4 168 yX4_endOne ∈ lw_tbl := mt_4 _ (List.mem_of_getElem? (i := 75) rfl)
theorem mc_858 : Cond.fieldLink RX4 176 "AheadStore$Roster" "cursor" "[I" ∈ lw_tbl := mt_1 _ (List.mem_of_getElem? (i := 132) rfl)
set_option maxRecDepth 100000 in
theorem mT_wsX10_recover_r9 : ∀ w ∈ wsX10_recover_r9, w ∈ lw_tbl := by
  unfold wsX10_recover_r9
  exact List.forall_mem_cons.mpr ⟨mc_858, List.forall_mem_cons.mpr ⟨mc_128, List.forall_mem_cons.mpr ⟨mc_857, List.forall_mem_cons.mpr ⟨mc_856, List.forall_mem_cons.mpr ⟨mc_855, List.forall_mem_cons.mpr ⟨mc_854, List.forall_mem_cons.mpr ⟨mc_127, List.forall_mem_cons.mpr ⟨mc_853, List.forall_mem_cons.mpr ⟨mc_232, List.forall_mem_cons.mpr ⟨mc_231, List.forall_mem_cons.mpr ⟨mc_230, List.forall_mem_cons.mpr ⟨mc_39, List.forall_mem_cons.mpr ⟨mc_35, List.forall_mem_cons.mpr ⟨mc_194, List.forall_mem_cons.mpr ⟨mc_193, List.forall_mem_cons.mpr ⟨mc_192, List.forall_mem_cons.mpr ⟨mc_191, List.forall_mem_cons.mpr ⟨mc_47, List.forall_mem_cons.mpr ⟨mc_190, List.forall_mem_cons.mpr ⟨mc_189, List.forall_mem_cons.mpr ⟨mc_225, List.forall_mem_cons.mpr ⟨mc_224, List.forall_mem_cons.mpr ⟨mc_223, List.forall_mem_cons.mpr ⟨mc_62, fun _ h => absurd h List.not_mem_nil⟩⟩⟩⟩⟩⟩⟩⟩⟩⟩⟩⟩⟩⟩⟩⟩⟩⟩⟩⟩⟩⟩⟩⟩
set_option maxRecDepth 100000 in
theorem mT_wsX10_recover_r10 : ∀ w ∈ wsX10_recover_r10, w ∈ lw_tbl := by
  unfold wsX10_recover_r10
  exact List.forall_mem_cons.mpr ⟨mc_222, List.forall_mem_cons.mpr ⟨mc_221, List.forall_mem_cons.mpr ⟨mc_220, List.forall_mem_cons.mpr ⟨mc_219, List.forall_mem_cons.mpr ⟨mc_218, List.forall_mem_cons.mpr ⟨mc_217, List.forall_mem_cons.mpr ⟨mc_216, List.forall_mem_cons.mpr ⟨mc_215, List.forall_mem_cons.mpr ⟨mc_214, List.forall_mem_cons.mpr ⟨mc_213, List.forall_mem_cons.mpr ⟨mc_212, List.forall_mem_cons.mpr ⟨mc_211, List.forall_mem_cons.mpr ⟨mc_229, List.forall_mem_cons.mpr ⟨mc_262, List.forall_mem_cons.mpr ⟨mc_261, List.forall_mem_cons.mpr ⟨mc_260, List.forall_mem_cons.mpr ⟨mc_36, List.forall_mem_cons.mpr ⟨mc_259, List.forall_mem_cons.mpr ⟨mc_78, List.forall_mem_cons.mpr ⟨mc_80, List.forall_mem_cons.mpr ⟨mc_79, List.forall_mem_cons.mpr ⟨mc_258, List.forall_mem_cons.mpr ⟨mc_257, List.forall_mem_cons.mpr ⟨mc_256, fun _ h => absurd h List.not_mem_nil⟩⟩⟩⟩⟩⟩⟩⟩⟩⟩⟩⟩⟩⟩⟩⟩⟩⟩⟩⟩⟩⟩⟩⟩
theorem mc_859 : Cond.methodLink RX4 182 yX9_compensate ∈ lw_tbl := mt_4 _ (List.mem_of_getElem? (i := 87) rfl)
theorem mc_860 : Cond.methodLink RX4 179 yX2_undoable ∈ lw_tbl := mt_4 _ (List.mem_of_getElem? (i := 86) rfl)
theorem mc_861 : Cond.code yX5_foremost cX5_foremost 4 (some .int) ∈ lw_tbl := mt_4 _ (List.mem_of_getElem? (i := 85) rfl)
theorem mc_862 : Cond.selects RX5 yX5_foremost yX5_foremost ∈ lw_tbl := mt_4 _ (List.mem_of_getElem? (i := 84) rfl)
theorem mc_863 : Cond.instanceMethod yX5_foremost ∈ lw_tbl := mt_4 _ (List.mem_of_getElem? (i := 83) rfl)
theorem mc_864 : Cond.methodLink RX4 173 yX5_foremost ∈ lw_tbl := mt_4 _ (List.mem_of_getElem? (i := 82) rfl)
theorem mc_865 : Cond.methodLink RX4 185 yX2_flushAll ∈ lw_tbl := mt_4 _ (List.mem_of_getElem? (i := 80) rfl)
set_option maxRecDepth 100000 in
theorem mT_wsX10_recover_r11 : ∀ w ∈ wsX10_recover_r11, w ∈ lw_tbl := by
  unfold wsX10_recover_r11
  exact List.forall_mem_cons.mpr ⟨mc_255, List.forall_mem_cons.mpr ⟨mc_77, List.forall_mem_cons.mpr ⟨mc_76, List.forall_mem_cons.mpr ⟨mc_865, List.forall_mem_cons.mpr ⟨mc_864, List.forall_mem_cons.mpr ⟨mc_863, List.forall_mem_cons.mpr ⟨mc_862, List.forall_mem_cons.mpr ⟨mc_861, List.forall_mem_cons.mpr ⟨mc_860, List.forall_mem_cons.mpr ⟨mc_524, List.forall_mem_cons.mpr ⟨mc_523, List.forall_mem_cons.mpr ⟨mc_522, List.forall_mem_cons.mpr ⟨mc_859, List.forall_mem_cons.mpr ⟨mc_520, List.forall_mem_cons.mpr ⟨mc_519, List.forall_mem_cons.mpr ⟨mc_518, List.forall_mem_cons.mpr ⟨mc_43, List.forall_mem_cons.mpr ⟨mc_517, List.forall_mem_cons.mpr ⟨mc_516, List.forall_mem_cons.mpr ⟨mc_389, List.forall_mem_cons.mpr ⟨mc_418, List.forall_mem_cons.mpr ⟨mc_527, List.forall_mem_cons.mpr ⟨mc_266, List.forall_mem_cons.mpr ⟨mc_265, fun _ h => absurd h List.not_mem_nil⟩⟩⟩⟩⟩⟩⟩⟩⟩⟩⟩⟩⟩⟩⟩⟩⟩⟩⟩⟩⟩⟩⟩⟩
theorem mc_866 : Cond.methodLink RX4 72 yX9_fall ∈ lw_tbl := mt_4 _ (List.mem_of_getElem? (i := 89) rfl)
theorem mc_867 : Cond.methodLink RX4 188 yX2_onward ∈ lw_tbl := mt_4 _ (List.mem_of_getElem? (i := 88) rfl)
set_option maxRecDepth 100000 in
theorem mT_wsX10_recover_r12 : ∀ w ∈ wsX10_recover_r12, w ∈ lw_tbl := by
  unfold wsX10_recover_r12
  exact List.forall_mem_cons.mpr ⟨mc_264, List.forall_mem_cons.mpr ⟨mc_263, List.forall_mem_cons.mpr ⟨mc_434, List.forall_mem_cons.mpr ⟨mc_867, List.forall_mem_cons.mpr ⟨mc_539, List.forall_mem_cons.mpr ⟨mc_538, List.forall_mem_cons.mpr ⟨mc_537, List.forall_mem_cons.mpr ⟨mc_536, List.forall_mem_cons.mpr ⟨mc_866, List.forall_mem_cons.mpr ⟨mc_751, List.forall_mem_cons.mpr ⟨mc_750, List.forall_mem_cons.mpr ⟨mc_749, List.forall_mem_cons.mpr ⟨mc_195, List.forall_mem_cons.mpr ⟨mc_748, List.forall_mem_cons.mpr ⟨mc_747, List.forall_mem_cons.mpr ⟨mc_72, List.forall_mem_cons.mpr ⟨mc_26, List.forall_mem_cons.mpr ⟨mc_70, List.forall_mem_cons.mpr ⟨mc_744, List.forall_mem_cons.mpr ⟨mc_762, List.forall_mem_cons.mpr ⟨mc_761, List.forall_mem_cons.mpr ⟨mc_760, List.forall_mem_cons.mpr ⟨mc_759, List.forall_mem_cons.mpr ⟨mc_93, fun _ h => absurd h List.not_mem_nil⟩⟩⟩⟩⟩⟩⟩⟩⟩⟩⟩⟩⟩⟩⟩⟩⟩⟩⟩⟩⟩⟩⟩⟩
set_option maxRecDepth 100000 in
theorem mT_wsX10_recover_r13 : ∀ w ∈ wsX10_recover_r13, w ∈ lw_tbl := by
  unfold wsX10_recover_r13
  exact List.forall_mem_cons.mpr ⟨mc_758, List.forall_mem_cons.mpr ⟨mc_757, List.forall_mem_cons.mpr ⟨mc_756, List.forall_mem_cons.mpr ⟨mc_755, List.forall_mem_cons.mpr ⟨mc_754, List.forall_mem_cons.mpr ⟨mc_753, List.forall_mem_cons.mpr ⟨mc_767, List.forall_mem_cons.mpr ⟨mc_766, List.forall_mem_cons.mpr ⟨mc_765, List.forall_mem_cons.mpr ⟨mc_764, fun _ h => absurd h List.not_mem_nil⟩⟩⟩⟩⟩⟩⟩⟩⟩⟩
set_option maxRecDepth 100000 in
theorem mT_wsX10_recover : ∀ w ∈ wsX10_recover, w ∈ lw_tbl := by
  unfold wsX10_recover
  exact List.forall_mem_cons.mpr ⟨mc_783, List.forall_mem_append.mpr ⟨List.forall_mem_append.mpr ⟨List.forall_mem_append.mpr ⟨List.forall_mem_append.mpr ⟨List.forall_mem_append.mpr ⟨List.forall_mem_append.mpr ⟨List.forall_mem_append.mpr ⟨List.forall_mem_append.mpr ⟨List.forall_mem_append.mpr ⟨mT_wsX10_recover_r1, List.forall_mem_append.mpr ⟨mT_wsX10_recover_r2, List.forall_mem_append.mpr ⟨mT_wsX10_recover_r3, List.forall_mem_append.mpr ⟨mT_wsX10_recover_r4, List.forall_mem_append.mpr ⟨mT_wsX10_recover_r5, List.forall_mem_append.mpr ⟨mT_wsX10_recover_r6, List.forall_mem_append.mpr ⟨mT_wsX10_recover_r7, List.forall_mem_append.mpr ⟨mT_wsX10_recover_r8, List.forall_mem_append.mpr ⟨mT_wsX10_recover_r9, List.forall_mem_append.mpr ⟨mT_wsX10_recover_r10, List.forall_mem_append.mpr ⟨mT_wsX10_recover_r11, List.forall_mem_append.mpr ⟨mT_wsX10_recover_r12, mT_wsX10_recover_r13⟩⟩⟩⟩⟩⟩⟩⟩⟩⟩⟩⟩, inX10⟩, inX9⟩, inX4⟩, inX3⟩, inX2⟩, inX7⟩, inX5⟩, inX0⟩⟩
theorem mc_868 : Cond.selects RX10 yX10_recover yX10_recover ∈ lw_tbl := mt_4 _ (List.mem_of_getElem? (i := 13) rfl)
theorem mc_869 : Cond.instanceMethod yX10_recover ∈ lw_tbl := mt_4 _ (List.mem_of_getElem? (i := 12) rfl)
theorem mc_870 : Cond.methodLink RL 54 yX10_recover ∈ lw_tbl := mt_4 _ (List.mem_of_getElem? (i := 11) rfl)
set_option maxRecDepth 100000 in
theorem gT_X10_recover : GoodIn lw_tbl (wsV RL 54 RX10 yX10_recover wsX10_recover) := goodIn_sub (List.forall_mem_append.mpr ⟨List.forall_mem_cons.mpr ⟨mc_870, List.forall_mem_cons.mpr ⟨mc_869, List.forall_mem_cons.mpr ⟨mc_868, List.forall_mem_cons.mpr ⟨mc_139, fun _ h => absurd h List.not_mem_nil⟩⟩⟩⟩, mT_wsX10_recover⟩) (by decide +kernel)
theorem mc_871 : Cond.code yX11_recover cX11_recover 2 (some .int) ∈ lw_tbl := mt_7 _ (List.mem_of_getElem? (i := 43) rfl)
theorem mc_872 : Cond.fieldLink RX11 236 "AheadStoreModel" "mayWrite" "I" ∈ lw_tbl := mt_5 _ (List.mem_of_getElem? (i := 182) rfl)
theorem mc_873 : Cond.code yX11_recovers cX11_recovers 3 none ∈ lw_tbl := mt_7 _ (List.mem_of_getElem? (i := 47) rfl)
theorem mc_874 : Cond.selects RX11 yX11_recovers yX11_recovers ∈ lw_tbl := List.mem_append_left _ (List.mem_map.mpr ⟨(yX11_recovers, 28), List.mem_of_getElem? (i := 81) rfl, rfl⟩)
theorem mc_875 : Cond.instanceMethod yX11_recovers ∈ lw_tbl := mt_7 _ (List.mem_of_getElem? (i := 46) rfl)
theorem mc_876 : Cond.methodLink RX11 266 yX11_recovers ∈ lw_tbl := mt_7 _ (List.mem_of_getElem? (i := 44) rfl)
theorem mc_877 : Cond.fieldLink RX11 239 "AheadStoreModel" "recovered" "I" ∈ lw_tbl := mt_5 _ (List.mem_of_getElem? (i := 181) rfl)
set_option maxRecDepth 100000 in
theorem mT_wsX11_recover_r1 : ∀ w ∈ wsX11_recover_r1, w ∈ lw_tbl := by
  unfold wsX11_recover_r1
  exact List.forall_mem_cons.mpr ⟨mc_184, List.forall_mem_cons.mpr ⟨mc_877, List.forall_mem_cons.mpr ⟨mc_183, List.forall_mem_cons.mpr ⟨mc_182, List.forall_mem_cons.mpr ⟨mc_181, List.forall_mem_cons.mpr ⟨mc_155, List.forall_mem_cons.mpr ⟨mc_180, List.forall_mem_cons.mpr ⟨mc_151, List.forall_mem_cons.mpr ⟨mc_179, List.forall_mem_cons.mpr ⟨mc_178, List.forall_mem_cons.mpr ⟨mc_177, List.forall_mem_cons.mpr ⟨mc_176, List.forall_mem_cons.mpr ⟨mc_876, List.forall_mem_cons.mpr ⟨mc_875, List.forall_mem_cons.mpr ⟨mc_874, List.forall_mem_cons.mpr ⟨mc_873, List.forall_mem_cons.mpr ⟨mc_872, List.forall_mem_cons.mpr ⟨mc_455, List.forall_mem_cons.mpr ⟨mc_454, List.forall_mem_cons.mpr ⟨mc_453, List.forall_mem_cons.mpr ⟨mc_452, List.forall_mem_cons.mpr ⟨mc_451, List.forall_mem_cons.mpr ⟨mc_450, List.forall_mem_cons.mpr ⟨mc_449, fun _ h => absurd h List.not_mem_nil⟩⟩⟩⟩⟩⟩⟩⟩⟩⟩⟩⟩⟩⟩⟩⟩⟩⟩⟩⟩⟩⟩⟩⟩
set_option maxRecDepth 100000 in
theorem mT_wsX11_recover_r2 : ∀ w ∈ wsX11_recover_r2, w ∈ lw_tbl := by
  unfold wsX11_recover_r2
  exact List.forall_mem_cons.mpr ⟨mc_448, List.forall_mem_cons.mpr ⟨mc_725, List.forall_mem_cons.mpr ⟨mc_724, List.forall_mem_cons.mpr ⟨mc_723, List.forall_mem_cons.mpr ⟨mc_722, List.forall_mem_cons.mpr ⟨mc_370, List.forall_mem_cons.mpr ⟨mc_369, List.forall_mem_cons.mpr ⟨mc_368, List.forall_mem_cons.mpr ⟨mc_367, List.forall_mem_cons.mpr ⟨mc_315, List.forall_mem_cons.mpr ⟨mc_314, List.forall_mem_cons.mpr ⟨mc_313, List.forall_mem_cons.mpr ⟨mc_312, List.forall_mem_cons.mpr ⟨mc_334, List.forall_mem_cons.mpr ⟨mc_333, List.forall_mem_cons.mpr ⟨mc_332, List.forall_mem_cons.mpr ⟨mc_331, List.forall_mem_cons.mpr ⟨mc_366, List.forall_mem_cons.mpr ⟨mc_365, List.forall_mem_cons.mpr ⟨mc_364, List.forall_mem_cons.mpr ⟨mc_363, List.forall_mem_cons.mpr ⟨mc_362, List.forall_mem_cons.mpr ⟨mc_361, List.forall_mem_cons.mpr ⟨mc_360, fun _ h => absurd h List.not_mem_nil⟩⟩⟩⟩⟩⟩⟩⟩⟩⟩⟩⟩⟩⟩⟩⟩⟩⟩⟩⟩⟩⟩⟩⟩
set_option maxRecDepth 100000 in
theorem mT_wsX11_recover_r3 : ∀ w ∈ wsX11_recover_r3, w ∈ lw_tbl := by
  unfold wsX11_recover_r3
  exact List.forall_mem_cons.mpr ⟨mc_359, List.forall_mem_cons.mpr ⟨mc_721, List.forall_mem_cons.mpr ⟨mc_720, List.forall_mem_cons.mpr ⟨mc_719, List.forall_mem_cons.mpr ⟨mc_718, List.forall_mem_cons.mpr ⟨mc_717, List.forall_mem_cons.mpr ⟨mc_716, List.forall_mem_cons.mpr ⟨mc_715, List.forall_mem_cons.mpr ⟨mc_714, List.forall_mem_cons.mpr ⟨mc_338, List.forall_mem_cons.mpr ⟨mc_337, List.forall_mem_cons.mpr ⟨mc_336, List.forall_mem_cons.mpr ⟨mc_335, List.forall_mem_cons.mpr ⟨mc_713, List.forall_mem_cons.mpr ⟨mc_712, List.forall_mem_cons.mpr ⟨mc_711, List.forall_mem_cons.mpr ⟨mc_710, List.forall_mem_cons.mpr ⟨mc_549, List.forall_mem_cons.mpr ⟨mc_548, List.forall_mem_cons.mpr ⟨mc_547, List.forall_mem_cons.mpr ⟨mc_546, List.forall_mem_cons.mpr ⟨mc_478, List.forall_mem_cons.mpr ⟨mc_477, List.forall_mem_cons.mpr ⟨mc_476, fun _ h => absurd h List.not_mem_nil⟩⟩⟩⟩⟩⟩⟩⟩⟩⟩⟩⟩⟩⟩⟩⟩⟩⟩⟩⟩⟩⟩⟩⟩
theorem mc_878 : Cond.code yX11_analyses cX11_analyses 9 none ∈ lw_tbl := mt_7 _ (List.mem_of_getElem? (i := 55) rfl)
theorem mc_879 : Cond.selects RX11 yX11_analyses yX11_analyses ∈ lw_tbl := List.mem_append_left _ (List.mem_map.mpr ⟨(yX11_analyses, 28), List.mem_of_getElem? (i := 83) rfl, rfl⟩)
theorem mc_880 : Cond.instanceMethod yX11_analyses ∈ lw_tbl := mt_7 _ (List.mem_of_getElem? (i := 54) rfl)
theorem mc_881 : Cond.methodLink RX11 230 yX11_analyses ∈ lw_tbl := mt_7 _ (List.mem_of_getElem? (i := 52) rfl)
theorem mc_882 : Cond.fieldLink RX11 233 "AheadStoreModel" "losers" "I" ∈ lw_tbl := mt_5 _ (List.mem_of_getElem? (i := 180) rfl)
theorem mc_883 : Cond.code yX11_analysis cX11_analysis 3 none ∈ lw_tbl := mt_7 _ (List.mem_of_getElem? (i := 51) rfl)
theorem mc_884 : Cond.selects RX11 yX11_analysis yX11_analysis ∈ lw_tbl := List.mem_append_left _ (List.mem_map.mpr ⟨(yX11_analysis, 28), List.mem_of_getElem? (i := 82) rfl, rfl⟩)
theorem mc_885 : Cond.instanceMethod yX11_analysis ∈ lw_tbl := mt_7 _ (List.mem_of_getElem? (i := 50) rfl)
theorem mc_886 : Cond.methodLink RX11 254 yX11_analysis ∈ lw_tbl := mt_7 _ (List.mem_of_getElem? (i := 48) rfl)
set_option maxRecDepth 100000 in
theorem mT_wsX11_recover_r4 : ∀ w ∈ wsX11_recover_r4, w ∈ lw_tbl := by
  unfold wsX11_recover_r4
  exact List.forall_mem_cons.mpr ⟨mc_475, List.forall_mem_cons.mpr ⟨mc_886, List.forall_mem_cons.mpr ⟨mc_885, List.forall_mem_cons.mpr ⟨mc_884, List.forall_mem_cons.mpr ⟨mc_883, List.forall_mem_cons.mpr ⟨mc_149, List.forall_mem_cons.mpr ⟨mc_882, List.forall_mem_cons.mpr ⟨mc_881, List.forall_mem_cons.mpr ⟨mc_880, List.forall_mem_cons.mpr ⟨mc_879, List.forall_mem_cons.mpr ⟨mc_878, List.forall_mem_cons.mpr ⟨mc_286, List.forall_mem_cons.mpr ⟨mc_322, List.forall_mem_cons.mpr ⟨mc_321, List.forall_mem_cons.mpr ⟨mc_320, List.forall_mem_cons.mpr ⟨mc_358, List.forall_mem_cons.mpr ⟨mc_357, List.forall_mem_cons.mpr ⟨mc_356, List.forall_mem_cons.mpr ⟨mc_355, List.forall_mem_cons.mpr ⟨mc_290, List.forall_mem_cons.mpr ⟨mc_289, List.forall_mem_cons.mpr ⟨mc_288, List.forall_mem_cons.mpr ⟨mc_287, List.forall_mem_cons.mpr ⟨mc_560, fun _ h => absurd h List.not_mem_nil⟩⟩⟩⟩⟩⟩⟩⟩⟩⟩⟩⟩⟩⟩⟩⟩⟩⟩⟩⟩⟩⟩⟩⟩
theorem mc_887 : Cond.code yX11_redoes cX11_redoes 5 none ∈ lw_tbl := mt_7 _ (List.mem_of_getElem? (i := 59) rfl)
theorem mc_888 : Cond.selects RX11 yX11_redoes yX11_redoes ∈ lw_tbl := List.mem_append_left _ (List.mem_map.mpr ⟨(yX11_redoes, 28), List.mem_of_getElem? (i := 84) rfl, rfl⟩)
theorem mc_889 : Cond.instanceMethod yX11_redoes ∈ lw_tbl := mt_7 _ (List.mem_of_getElem? (i := 58) rfl)
theorem mc_890 : Cond.methodLink RX11 257 yX11_redoes ∈ lw_tbl := mt_7 _ (List.mem_of_getElem? (i := 56) rfl)
set_option maxRecDepth 100000 in
theorem mT_wsX11_recover_r5 : ∀ w ∈ wsX11_recover_r5, w ∈ lw_tbl := by
  unfold wsX11_recover_r5
  exact List.forall_mem_cons.mpr ⟨mc_559, List.forall_mem_cons.mpr ⟨mc_558, List.forall_mem_cons.mpr ⟨mc_557, List.forall_mem_cons.mpr ⟨mc_330, List.forall_mem_cons.mpr ⟨mc_329, List.forall_mem_cons.mpr ⟨mc_328, List.forall_mem_cons.mpr ⟨mc_327, List.forall_mem_cons.mpr ⟨mc_772, List.forall_mem_cons.mpr ⟨mc_779, List.forall_mem_cons.mpr ⟨mc_778, List.forall_mem_cons.mpr ⟨mc_777, List.forall_mem_cons.mpr ⟨mc_890, List.forall_mem_cons.mpr ⟨mc_889, List.forall_mem_cons.mpr ⟨mc_888, List.forall_mem_cons.mpr ⟨mc_887, List.forall_mem_cons.mpr ⟨mc_439, List.forall_mem_cons.mpr ⟨mc_470, List.forall_mem_cons.mpr ⟨mc_469, List.forall_mem_cons.mpr ⟨mc_468, List.forall_mem_cons.mpr ⟨mc_467, List.forall_mem_cons.mpr ⟨mc_466, List.forall_mem_cons.mpr ⟨mc_465, List.forall_mem_cons.mpr ⟨mc_464, List.forall_mem_cons.mpr ⟨mc_175, fun _ h => absurd h List.not_mem_nil⟩⟩⟩⟩⟩⟩⟩⟩⟩⟩⟩⟩⟩⟩⟩⟩⟩⟩⟩⟩⟩⟩⟩⟩
theorem mc_891 : Cond.fieldLink RX11 245 "AheadStoreModel" "ended" "I" ∈ lw_tbl := mt_5 _ (List.mem_of_getElem? (i := 184) rfl)
theorem mc_892 : Cond.code yX11_ends cX11_ends 2 (some .boolean) ∈ lw_tbl := mt_7 _ (List.mem_of_getElem? (i := 63) rfl)
theorem mc_893 : Cond.selects RX11 yX11_ends yX11_ends ∈ lw_tbl := List.mem_append_left _ (List.mem_map.mpr ⟨(yX11_ends, 28), List.mem_of_getElem? (i := 85) rfl, rfl⟩)
theorem mc_894 : Cond.instanceMethod yX11_ends ∈ lw_tbl := mt_7 _ (List.mem_of_getElem? (i := 62) rfl)
theorem mc_895 : Cond.methodLink RX11 248 yX11_ends ∈ lw_tbl := mt_7 _ (List.mem_of_getElem? (i := 60) rfl)
set_option maxRecDepth 100000 in
theorem mT_wsX11_recover_r6 : ∀ w ∈ wsX11_recover_r6, w ∈ lw_tbl := by
  unfold wsX11_recover_r6
  exact List.forall_mem_cons.mpr ⟨mc_174, List.forall_mem_cons.mpr ⟨mc_173, List.forall_mem_cons.mpr ⟨mc_172, List.forall_mem_cons.mpr ⟨mc_171, List.forall_mem_cons.mpr ⟨mc_170, List.forall_mem_cons.mpr ⟨mc_169, List.forall_mem_cons.mpr ⟨mc_168, List.forall_mem_cons.mpr ⟨mc_463, List.forall_mem_cons.mpr ⟨mc_462, List.forall_mem_cons.mpr ⟨mc_461, List.forall_mem_cons.mpr ⟨mc_460, List.forall_mem_cons.mpr ⟨mc_459, List.forall_mem_cons.mpr ⟨mc_458, List.forall_mem_cons.mpr ⟨mc_457, List.forall_mem_cons.mpr ⟨mc_456, List.forall_mem_cons.mpr ⟨mc_474, List.forall_mem_cons.mpr ⟨mc_473, List.forall_mem_cons.mpr ⟨mc_472, List.forall_mem_cons.mpr ⟨mc_471, List.forall_mem_cons.mpr ⟨mc_895, List.forall_mem_cons.mpr ⟨mc_894, List.forall_mem_cons.mpr ⟨mc_893, List.forall_mem_cons.mpr ⟨mc_892, List.forall_mem_cons.mpr ⟨mc_891, fun _ h => absurd h List.not_mem_nil⟩⟩⟩⟩⟩⟩⟩⟩⟩⟩⟩⟩⟩⟩⟩⟩⟩⟩⟩⟩⟩⟩⟩⟩
theorem mc_896 : Cond.code yX11_canWrite cX11_canWrite 1 (some .boolean) ∈ lw_tbl := mt_7 _ (List.mem_of_getElem? (i := 67) rfl)
theorem mc_897 : Cond.selects RX11 yX11_canWrite yX11_canWrite ∈ lw_tbl := List.mem_append_left _ (List.mem_map.mpr ⟨(yX11_canWrite, 28), List.mem_of_getElem? (i := 86) rfl, rfl⟩)
theorem mc_898 : Cond.instanceMethod yX11_canWrite ∈ lw_tbl := mt_7 _ (List.mem_of_getElem? (i := 66) rfl)
theorem mc_899 : Cond.methodLink RX11 242 yX11_canWrite ∈ lw_tbl := mt_7 _ (List.mem_of_getElem? (i := 64) rfl)
set_option maxRecDepth 100000 in
theorem mT_wsX11_recover_r7 : ∀ w ∈ wsX11_recover_r7, w ∈ lw_tbl := by
  unfold wsX11_recover_r7
  exact List.forall_mem_cons.mpr ⟨mc_899, List.forall_mem_cons.mpr ⟨mc_898, List.forall_mem_cons.mpr ⟨mc_897, List.forall_mem_cons.mpr ⟨mc_896, List.forall_mem_cons.mpr ⟨mc_776, List.forall_mem_cons.mpr ⟨mc_775, List.forall_mem_cons.mpr ⟨mc_774, List.forall_mem_cons.mpr ⟨mc_773, List.forall_mem_cons.mpr ⟨mc_311, List.forall_mem_cons.mpr ⟨mc_310, List.forall_mem_cons.mpr ⟨mc_309, List.forall_mem_cons.mpr ⟨mc_308, List.forall_mem_cons.mpr ⟨mc_307, List.forall_mem_cons.mpr ⟨mc_306, List.forall_mem_cons.mpr ⟨mc_305, List.forall_mem_cons.mpr ⟨mc_304, List.forall_mem_cons.mpr ⟨mc_303, List.forall_mem_cons.mpr ⟨mc_302, List.forall_mem_cons.mpr ⟨mc_301, List.forall_mem_cons.mpr ⟨mc_300, List.forall_mem_cons.mpr ⟨mc_299, List.forall_mem_cons.mpr ⟨mc_346, List.forall_mem_cons.mpr ⟨mc_345, List.forall_mem_cons.mpr ⟨mc_344, fun _ h => absurd h List.not_mem_nil⟩⟩⟩⟩⟩⟩⟩⟩⟩⟩⟩⟩⟩⟩⟩⟩⟩⟩⟩⟩⟩⟩⟩⟩
theorem mc_900 : Cond.fieldLink RX11 251 "AheadStoreModel" "compensated" "I" ∈ lw_tbl := mt_5 _ (List.mem_of_getElem? (i := 183) rfl)
theorem mc_901 : Cond.code yX11_undoes cX11_undoes 3 (some .boolean) ∈ lw_tbl := mt_7 _ (List.mem_of_getElem? (i := 75) rfl)
theorem mc_902 : Cond.selects RX11 yX11_undoes yX11_undoes ∈ lw_tbl := List.mem_append_left _ (List.mem_map.mpr ⟨(yX11_undoes, 28), List.mem_of_getElem? (i := 88) rfl, rfl⟩)
theorem mc_903 : Cond.instanceMethod yX11_undoes ∈ lw_tbl := mt_7 _ (List.mem_of_getElem? (i := 74) rfl)
theorem mc_904 : Cond.methodLink RX11 263 yX11_undoes ∈ lw_tbl := mt_7 _ (List.mem_of_getElem? (i := 72) rfl)
theorem mc_905 : Cond.code yX11_nextLoser cX11_nextLoser 3 (some .int) ∈ lw_tbl := mt_7 _ (List.mem_of_getElem? (i := 71) rfl)
theorem mc_906 : Cond.selects RX11 yX11_nextLoser yX11_nextLoser ∈ lw_tbl := List.mem_append_left _ (List.mem_map.mpr ⟨(yX11_nextLoser, 28), List.mem_of_getElem? (i := 87) rfl, rfl⟩)
theorem mc_907 : Cond.instanceMethod yX11_nextLoser ∈ lw_tbl := mt_7 _ (List.mem_of_getElem? (i := 70) rfl)
theorem mc_908 : Cond.methodLink RX11 260 yX11_nextLoser ∈ lw_tbl := mt_7 _ (List.mem_of_getElem? (i := 68) rfl)
set_option maxRecDepth 100000 in
theorem mT_wsX11_recover_r8 : ∀ w ∈ wsX11_recover_r8, w ∈ lw_tbl := by
  unfold wsX11_recover_r8
  exact List.forall_mem_cons.mpr ⟨mc_343, List.forall_mem_cons.mpr ⟨mc_342, List.forall_mem_cons.mpr ⟨mc_341, List.forall_mem_cons.mpr ⟨mc_340, List.forall_mem_cons.mpr ⟨mc_339, List.forall_mem_cons.mpr ⟨mc_908, List.forall_mem_cons.mpr ⟨mc_907, List.forall_mem_cons.mpr ⟨mc_906, List.forall_mem_cons.mpr ⟨mc_905, List.forall_mem_cons.mpr ⟨mc_904, List.forall_mem_cons.mpr ⟨mc_903, List.forall_mem_cons.mpr ⟨mc_902, List.forall_mem_cons.mpr ⟨mc_901, List.forall_mem_cons.mpr ⟨mc_900, List.forall_mem_cons.mpr ⟨mc_545, List.forall_mem_cons.mpr ⟨mc_556, List.forall_mem_cons.mpr ⟨mc_555, List.forall_mem_cons.mpr ⟨mc_554, List.forall_mem_cons.mpr ⟨mc_553, List.forall_mem_cons.mpr ⟨mc_552, List.forall_mem_cons.mpr ⟨mc_551, List.forall_mem_cons.mpr ⟨mc_550, List.forall_mem_cons.mpr ⟨mc_564, List.forall_mem_cons.mpr ⟨mc_563, fun _ h => absurd h List.not_mem_nil⟩⟩⟩⟩⟩⟩⟩⟩⟩⟩⟩⟩⟩⟩⟩⟩⟩⟩⟩⟩⟩⟩⟩⟩
set_option maxRecDepth 100000 in
theorem mT_wsX11_recover_r9 : ∀ w ∈ wsX11_recover_r9, w ∈ lw_tbl := by
  unfold wsX11_recover_r9
  exact List.forall_mem_cons.mpr ⟨mc_562, List.forall_mem_cons.mpr ⟨mc_561, fun _ h => absurd h List.not_mem_nil⟩⟩
set_option maxRecDepth 100000 in
theorem mT_wsX11_recover : ∀ w ∈ wsX11_recover, w ∈ lw_tbl := by
  unfold wsX11_recover
  exact List.forall_mem_cons.mpr ⟨mc_871, List.forall_mem_append.mpr ⟨List.forall_mem_append.mpr ⟨mT_wsX11_recover_r1, List.forall_mem_append.mpr ⟨mT_wsX11_recover_r2, List.forall_mem_append.mpr ⟨mT_wsX11_recover_r3, List.forall_mem_append.mpr ⟨mT_wsX11_recover_r4, List.forall_mem_append.mpr ⟨mT_wsX11_recover_r5, List.forall_mem_append.mpr ⟨mT_wsX11_recover_r6, List.forall_mem_append.mpr ⟨mT_wsX11_recover_r7, List.forall_mem_append.mpr ⟨mT_wsX11_recover_r8, mT_wsX11_recover_r9⟩⟩⟩⟩⟩⟩⟩⟩, inX11⟩⟩
theorem mc_909 : Cond.selects RX11 yX11_recover yX11_recover ∈ lw_tbl := mt_7 _ (List.mem_of_getElem? (i := 42) rfl)
theorem mc_910 : Cond.instanceMethod yX11_recover ∈ lw_tbl := mt_7 _ (List.mem_of_getElem? (i := 41) rfl)
theorem mc_911 : Cond.methodLink RL 57 yX11_recover ∈ lw_tbl := mt_7 _ (List.mem_of_getElem? (i := 40) rfl)
set_option maxRecDepth 100000 in
theorem gT_X11_recover : GoodIn lw_tbl (wsV RL 57 RX11 yX11_recover wsX11_recover) := goodIn_sub (List.forall_mem_append.mpr ⟨List.forall_mem_cons.mpr ⟨mc_911, List.forall_mem_cons.mpr ⟨mc_910, List.forall_mem_cons.mpr ⟨mc_909, List.forall_mem_cons.mpr ⟨mc_155, fun _ h => absurd h List.not_mem_nil⟩⟩⟩⟩, mT_wsX11_recover⟩) (by decide +kernel)
theorem mc_912 : Cond.code yX10_feed cX10_feed 6 (some .int) ∈ lw_tbl := mt_4 _ (List.mem_of_getElem? (i := 93) rfl)
theorem mc_913 : Cond.code yX8_append cX8_append 3 none ∈ lw_tbl := mt_4 _ (List.mem_of_getElem? (i := 97) rfl)
theorem mc_914 : Cond.selects RX8 yX8_append yX8_append ∈ lw_tbl := mt_4 _ (List.mem_of_getElem? (i := 96) rfl)
theorem mc_915 : Cond.instanceMethod yX8_append ∈ lw_tbl := mt_4 _ (List.mem_of_getElem? (i := 95) rfl)
theorem mc_916 : Cond.methodLink RX10 118 yX8_append ∈ lw_tbl := mt_4 _ (List.mem_of_getElem? (i := 94) rfl)
theorem mc_917 : Cond.fieldLink RX10 115 "AheadStore$Tape" "size" "I" ∈ lw_tbl := mt_2 _ (List.mem_of_getElem? (i := 44) rfl)
set_option maxRecDepth 100000 in
theorem mT_wsX10_feed : ∀ w ∈ wsX10_feed, w ∈ lw_tbl := by
  unfold wsX10_feed
  exact List.forall_mem_cons.mpr ⟨mc_912, List.forall_mem_append.mpr ⟨List.forall_mem_append.mpr ⟨List.forall_mem_cons.mpr ⟨mc_14, List.forall_mem_cons.mpr ⟨mc_917, List.forall_mem_cons.mpr ⟨mc_916, List.forall_mem_cons.mpr ⟨mc_915, List.forall_mem_cons.mpr ⟨mc_914, List.forall_mem_cons.mpr ⟨mc_15, List.forall_mem_cons.mpr ⟨mc_913, List.forall_mem_cons.mpr ⟨mc_104, List.forall_mem_cons.mpr ⟨mc_105, fun _ h => absurd h List.not_mem_nil⟩⟩⟩⟩⟩⟩⟩⟩⟩, inX10⟩, inX8⟩⟩
theorem mc_918 : Cond.selects RX10 yX10_feed yX10_feed ∈ lw_tbl := mt_4 _ (List.mem_of_getElem? (i := 92) rfl)
theorem mc_919 : Cond.instanceMethod yX10_feed ∈ lw_tbl := mt_4 _ (List.mem_of_getElem? (i := 91) rfl)
theorem mc_920 : Cond.methodLink RL 58 yX10_feed ∈ lw_tbl := mt_4 _ (List.mem_of_getElem? (i := 90) rfl)
set_option maxRecDepth 100000 in
theorem gT_X10_feed : GoodIn lw_tbl (wsV RL 58 RX10 yX10_feed wsX10_feed) := goodIn_sub (List.forall_mem_append.mpr ⟨List.forall_mem_cons.mpr ⟨mc_920, List.forall_mem_cons.mpr ⟨mc_919, List.forall_mem_cons.mpr ⟨mc_918, List.forall_mem_cons.mpr ⟨mc_139, fun _ h => absurd h List.not_mem_nil⟩⟩⟩⟩, mT_wsX10_feed⟩) (by decide +kernel)
theorem mc_921 : Cond.code yX11_feed cX11_feed 6 (some .int) ∈ lw_tbl := mt_7 _ (List.mem_of_getElem? (i := 131) rfl)
theorem mc_922 : Cond.code yX11_types cX11_types 3 none ∈ lw_tbl := mt_7 _ (List.mem_of_getElem? (i := 135) rfl)
theorem mc_923 : Cond.selects RX11 yX11_types yX11_types ∈ lw_tbl := List.mem_append_left _ (List.mem_map.mpr ⟨(yX11_types, 28), List.mem_of_getElem? (i := 96) rfl, rfl⟩)
theorem mc_924 : Cond.instanceMethod yX11_types ∈ lw_tbl := mt_7 _ (List.mem_of_getElem? (i := 134) rfl)
theorem mc_925 : Cond.methodLink RX11 296 yX11_types ∈ lw_tbl := mt_7 _ (List.mem_of_getElem? (i := 132) rfl)
theorem mc_926 : Cond.fieldLink RX11 293 "AheadStoreModel" "taped" "I" ∈ lw_tbl := mt_5 _ (List.mem_of_getElem? (i := 189) rfl)
set_option maxRecDepth 100000 in
theorem mT_wsX11_feed : ∀ w ∈ wsX11_feed, w ∈ lw_tbl := by
  unfold wsX11_feed
  exact List.forall_mem_cons.mpr ⟨mc_921, List.forall_mem_append.mpr ⟨List.forall_mem_cons.mpr ⟨mc_184, List.forall_mem_cons.mpr ⟨mc_926, List.forall_mem_cons.mpr ⟨mc_925, List.forall_mem_cons.mpr ⟨mc_924, List.forall_mem_cons.mpr ⟨mc_923, List.forall_mem_cons.mpr ⟨mc_155, List.forall_mem_cons.mpr ⟨mc_922, List.forall_mem_cons.mpr ⟨mc_145, fun _ h => absurd h List.not_mem_nil⟩⟩⟩⟩⟩⟩⟩⟩, inX11⟩⟩
theorem mc_927 : Cond.selects RX11 yX11_feed yX11_feed ∈ lw_tbl := mt_7 _ (List.mem_of_getElem? (i := 130) rfl)
theorem mc_928 : Cond.instanceMethod yX11_feed ∈ lw_tbl := mt_7 _ (List.mem_of_getElem? (i := 129) rfl)
theorem mc_929 : Cond.methodLink RL 62 yX11_feed ∈ lw_tbl := mt_7 _ (List.mem_of_getElem? (i := 128) rfl)
set_option maxRecDepth 100000 in
theorem gT_X11_feed : GoodIn lw_tbl (wsV RL 62 RX11 yX11_feed wsX11_feed) := goodIn_sub (List.forall_mem_append.mpr ⟨List.forall_mem_cons.mpr ⟨mc_929, List.forall_mem_cons.mpr ⟨mc_928, List.forall_mem_cons.mpr ⟨mc_927, List.forall_mem_cons.mpr ⟨mc_155, fun _ h => absurd h List.not_mem_nil⟩⟩⟩⟩, mT_wsX11_feed⟩) (by decide +kernel)
theorem mc_930 : Cond.code yX10_end cX10_end 2 (some .boolean) ∈ lw_tbl := mt_4 _ (List.mem_of_getElem? (i := 101) rfl)
set_option maxRecDepth 100000 in
theorem mT_wsX10_end : ∀ w ∈ wsX10_end, w ∈ lw_tbl := by
  unfold wsX10_end
  exact List.forall_mem_cons.mpr ⟨mc_930, List.forall_mem_append.mpr ⟨List.forall_mem_append.mpr ⟨List.forall_mem_cons.mpr ⟨mc_14, List.forall_mem_cons.mpr ⟨mc_917, fun _ h => absurd h List.not_mem_nil⟩⟩, inX10⟩, inX8⟩⟩
theorem mc_931 : Cond.selects RX10 yX10_end yX10_end ∈ lw_tbl := mt_4 _ (List.mem_of_getElem? (i := 100) rfl)
theorem mc_932 : Cond.instanceMethod yX10_end ∈ lw_tbl := mt_4 _ (List.mem_of_getElem? (i := 99) rfl)
theorem mc_933 : Cond.methodLink RL 63 yX10_end ∈ lw_tbl := mt_4 _ (List.mem_of_getElem? (i := 98) rfl)
set_option maxRecDepth 100000 in
theorem gT_X10_end : GoodIn lw_tbl (wsV RL 63 RX10 yX10_end wsX10_end) := goodIn_sub (List.forall_mem_append.mpr ⟨List.forall_mem_cons.mpr ⟨mc_933, List.forall_mem_cons.mpr ⟨mc_932, List.forall_mem_cons.mpr ⟨mc_931, List.forall_mem_cons.mpr ⟨mc_139, fun _ h => absurd h List.not_mem_nil⟩⟩⟩⟩, mT_wsX10_end⟩) (by decide +kernel)
theorem mc_934 : Cond.code yX11_end cX11_end 2 (some .boolean) ∈ lw_tbl := mt_7 _ (List.mem_of_getElem? (i := 139) rfl)
set_option maxRecDepth 100000 in
theorem mT_wsX11_end : ∀ w ∈ wsX11_end, w ∈ lw_tbl := by
  unfold wsX11_end
  exact List.forall_mem_cons.mpr ⟨mc_934, List.forall_mem_append.mpr ⟨List.forall_mem_cons.mpr ⟨mc_184, List.forall_mem_cons.mpr ⟨mc_926, List.forall_mem_cons.mpr ⟨mc_179, List.forall_mem_cons.mpr ⟨mc_178, List.forall_mem_cons.mpr ⟨mc_177, List.forall_mem_cons.mpr ⟨mc_155, List.forall_mem_cons.mpr ⟨mc_176, fun _ h => absurd h List.not_mem_nil⟩⟩⟩⟩⟩⟩⟩, inX11⟩⟩
theorem mc_935 : Cond.selects RX11 yX11_end yX11_end ∈ lw_tbl := mt_7 _ (List.mem_of_getElem? (i := 138) rfl)
theorem mc_936 : Cond.instanceMethod yX11_end ∈ lw_tbl := mt_7 _ (List.mem_of_getElem? (i := 137) rfl)
theorem mc_937 : Cond.methodLink RL 66 yX11_end ∈ lw_tbl := mt_7 _ (List.mem_of_getElem? (i := 136) rfl)
set_option maxRecDepth 100000 in
theorem gT_X11_end : GoodIn lw_tbl (wsV RL 66 RX11 yX11_end wsX11_end) := goodIn_sub (List.forall_mem_append.mpr ⟨List.forall_mem_cons.mpr ⟨mc_937, List.forall_mem_cons.mpr ⟨mc_936, List.forall_mem_cons.mpr ⟨mc_935, List.forall_mem_cons.mpr ⟨mc_155, fun _ h => absurd h List.not_mem_nil⟩⟩⟩⟩, mT_wsX11_end⟩) (by decide +kernel)
theorem mc_938 : Cond.code yX10_plan cX10_plan 1 (some .int) ∈ lw_tbl := mt_4 _ (List.mem_of_getElem? (i := 105) rfl)
theorem mc_939 : Cond.methodLink RX8 47 yX8_nextToken ∈ lw_tbl := mt_4 _ (List.mem_of_getElem? (i := 114) rfl)
theorem mc_940 : Cond.code yX6_clear cX6_clear 1 none ∈ lw_tbl := mt_4 _ (List.mem_of_getElem? (i := 113) rfl)
theorem mc_941 : Cond.selects RX6 yX6_clear yX6_clear ∈ lw_tbl := mt_4 _ (List.mem_of_getElem? (i := 112) rfl)
theorem mc_942 : Cond.instanceMethod yX6_clear ∈ lw_tbl := mt_4 _ (List.mem_of_getElem? (i := 111) rfl)
theorem mc_943 : Cond.methodLink RX8 44 yX6_clear ∈ lw_tbl := mt_4 _ (List.mem_of_getElem? (i := 110) rfl)
theorem mc_944 : Cond.code yX8_readPlan cX8_readPlan 3 (some .boolean) ∈ lw_tbl := mt_4 _ (List.mem_of_getElem? (i := 109) rfl)
theorem mc_945 : Cond.selects RX8 yX8_readPlan yX8_readPlan ∈ lw_tbl := mt_4 _ (List.mem_of_getElem? (i := 108) rfl)
theorem mc_946 : Cond.instanceMethod yX8_readPlan ∈ lw_tbl := mt_4 _ (List.mem_of_getElem? (i := 107) rfl)
theorem mc_947 : Cond.methodLink RX10 121 yX8_readPlan ∈ lw_tbl := mt_4 _ (List.mem_of_getElem? (i := 106) rfl)
theorem mc_948 : Cond.fieldLink RX10 137 "AheadStore$Script" "size" "I" ∈ lw_tbl := mt_1 _ (List.mem_of_getElem? (i := 213) rfl)
theorem mc_949 : Cond.fieldLink RX10 128 "AheadStore$Tape" "draft" "LAheadStore$Script;" ∈ lw_tbl := mt_2 _ (List.mem_of_getElem? (i := 50) rfl)
theorem mc_950 : Cond.fieldLink RX10 124 "AheadStore$World" "script" "LAheadStore$Script;" ∈ lw_tbl := mt_1 _ (List.mem_of_getElem? (i := 238) rfl)
set_option maxRecDepth 100000 in
theorem mT_wsX10_plan_r1 : ∀ w ∈ wsX10_plan_r1, w ∈ lw_tbl := by
  unfold wsX10_plan_r1
  exact List.forall_mem_cons.mpr ⟨mc_14, List.forall_mem_cons.mpr ⟨mc_18, List.forall_mem_cons.mpr ⟨mc_950, List.forall_mem_cons.mpr ⟨mc_949, List.forall_mem_cons.mpr ⟨mc_948, List.forall_mem_cons.mpr ⟨mc_947, List.forall_mem_cons.mpr ⟨mc_946, List.forall_mem_cons.mpr ⟨mc_945, List.forall_mem_cons.mpr ⟨mc_15, List.forall_mem_cons.mpr ⟨mc_944, List.forall_mem_cons.mpr ⟨mc_103, List.forall_mem_cons.mpr ⟨mc_102, List.forall_mem_cons.mpr ⟨mc_99, List.forall_mem_cons.mpr ⟨mc_100, List.forall_mem_cons.mpr ⟨mc_98, List.forall_mem_cons.mpr ⟨mc_104, List.forall_mem_cons.mpr ⟨mc_943, List.forall_mem_cons.mpr ⟨mc_942, List.forall_mem_cons.mpr ⟨mc_941, List.forall_mem_cons.mpr ⟨mc_28, List.forall_mem_cons.mpr ⟨mc_940, List.forall_mem_cons.mpr ⟨mc_110, List.forall_mem_cons.mpr ⟨mc_109, List.forall_mem_cons.mpr ⟨mc_939, fun _ h => absurd h List.not_mem_nil⟩⟩⟩⟩⟩⟩⟩⟩⟩⟩⟩⟩⟩⟩⟩⟩⟩⟩⟩⟩⟩⟩⟩⟩
theorem mc_951 : Cond.selects RJ0 yJ0_length_8abf5 yJ0_length_8abf5 ∈ lw_tbl := mt_4 _ (List.mem_of_getElem? (i := 136) rfl)
theorem mc_952 : Cond.instanceMethod yJ0_length_8abf5 ∈ lw_tbl := mt_4 _ (List.mem_of_getElem? (i := 135) rfl)
theorem mc_953 : Cond.methodLink RX8 100 yJ0_length_8abf5 ∈ lw_tbl := mt_4 _ (List.mem_of_getElem? (i := 134) rfl)
theorem mc_954 : Cond.code yX8_wordNumber cX8_wordNumber 6 (some .int) ∈ lw_tbl := mt_4 _ (List.mem_of_getElem? (i := 132) rfl)
theorem mc_955 : Cond.selects RX8 yX8_wordNumber yX8_wordNumber ∈ lw_tbl := List.mem_append_left _ (List.mem_map.mpr ⟨(yX8_wordNumber, 9), List.mem_of_getElem? (i := 15) rfl, rfl⟩)
theorem mc_956 : Cond.instanceMethod yX8_wordNumber ∈ lw_tbl := mt_4 _ (List.mem_of_getElem? (i := 131) rfl)
theorem mc_957 : Cond.methodLink RX8 95 yX8_wordNumber ∈ lw_tbl := mt_4 _ (List.mem_of_getElem? (i := 129) rfl)
theorem mc_958 : Cond.code yX8_takeWord cX8_takeWord 1 none ∈ lw_tbl := mt_4 _ (List.mem_of_getElem? (i := 128) rfl)
theorem mc_959 : Cond.selects RX8 yX8_takeWord yX8_takeWord ∈ lw_tbl := List.mem_append_left _ (List.mem_map.mpr ⟨(yX8_takeWord, 9), List.mem_of_getElem? (i := 14) rfl, rfl⟩)
theorem mc_960 : Cond.instanceMethod yX8_takeWord ∈ lw_tbl := mt_4 _ (List.mem_of_getElem? (i := 127) rfl)
theorem mc_961 : Cond.methodLink RX8 86 yX8_takeWord ∈ lw_tbl := mt_4 _ (List.mem_of_getElem? (i := 125) rfl)
theorem mc_962 : Cond.code yX8_isLetter cX8_isLetter 1 (some .boolean) ∈ lw_tbl := mt_4 _ (List.mem_of_getElem? (i := 124) rfl)
theorem mc_963 : Cond.static yX8_isLetter ∈ lw_tbl := mt_4 _ (List.mem_of_getElem? (i := 123) rfl)
theorem mc_964 : Cond.methodLink RX8 83 yX8_isLetter ∈ lw_tbl := mt_4 _ (List.mem_of_getElem? (i := 122) rfl)
theorem mc_965 : Cond.code yX8_byteHere cX8_byteHere 1 (some .int) ∈ lw_tbl := mt_4 _ (List.mem_of_getElem? (i := 121) rfl)
theorem mc_966 : Cond.selects RX8 yX8_byteHere yX8_byteHere ∈ lw_tbl := List.mem_append_left _ (List.mem_map.mpr ⟨(yX8_byteHere, 9), List.mem_of_getElem? (i := 13) rfl, rfl⟩)
theorem mc_967 : Cond.instanceMethod yX8_byteHere ∈ lw_tbl := mt_4 _ (List.mem_of_getElem? (i := 120) rfl)
theorem mc_968 : Cond.methodLink RX8 79 yX8_byteHere ∈ lw_tbl := mt_4 _ (List.mem_of_getElem? (i := 118) rfl)
theorem mc_969 : Cond.code yX8_nextToken cX8_nextToken 2 none ∈ lw_tbl := mt_4 _ (List.mem_of_getElem? (i := 117) rfl)
theorem mc_970 : Cond.selects RX8 yX8_nextToken yX8_nextToken ∈ lw_tbl := List.mem_append_left _ (List.mem_map.mpr ⟨(yX8_nextToken, 9), List.mem_of_getElem? (i := 12) rfl, rfl⟩)
theorem mc_971 : Cond.instanceMethod yX8_nextToken ∈ lw_tbl := mt_4 _ (List.mem_of_getElem? (i := 116) rfl)
set_option maxRecDepth 100000 in
theorem mT_wsX10_plan_r2 : ∀ w ∈ wsX10_plan_r2, w ∈ lw_tbl := by
  unfold wsX10_plan_r2
  exact List.forall_mem_cons.mpr ⟨mc_971, List.forall_mem_cons.mpr ⟨mc_970, List.forall_mem_cons.mpr ⟨mc_969, List.forall_mem_cons.mpr ⟨mc_97, List.forall_mem_cons.mpr ⟨mc_968, List.forall_mem_cons.mpr ⟨mc_967, List.forall_mem_cons.mpr ⟨mc_966, List.forall_mem_cons.mpr ⟨mc_965, List.forall_mem_cons.mpr ⟨mc_105, List.forall_mem_cons.mpr ⟨mc_964, List.forall_mem_cons.mpr ⟨mc_963, List.forall_mem_cons.mpr ⟨mc_962, List.forall_mem_cons.mpr ⟨mc_961, List.forall_mem_cons.mpr ⟨mc_960, List.forall_mem_cons.mpr ⟨mc_959, List.forall_mem_cons.mpr ⟨mc_958, List.forall_mem_cons.mpr ⟨mc_136, List.forall_mem_cons.mpr ⟨mc_957, List.forall_mem_cons.mpr ⟨mc_956, List.forall_mem_cons.mpr ⟨mc_955, List.forall_mem_cons.mpr ⟨mc_954, List.forall_mem_cons.mpr ⟨mc_953, List.forall_mem_cons.mpr ⟨mc_952, List.forall_mem_cons.mpr ⟨mc_951, fun _ h => absurd h List.not_mem_nil⟩⟩⟩⟩⟩⟩⟩⟩⟩⟩⟩⟩⟩⟩⟩⟩⟩⟩⟩⟩⟩⟩⟩⟩
theorem mc_972 : Cond.code yJ0_checkIndex_df160 cJ0_checkIndex_df160 2 none ∈ lw_tbl := mt_4 _ (List.mem_of_getElem? (i := 157) rfl)
theorem mc_973 : Cond.static yJ0_checkIndex_df160 ∈ lw_tbl := mt_4 _ (List.mem_of_getElem? (i := 156) rfl)
theorem mc_974 : Cond.methodLink RJ1 9 yJ0_checkIndex_df160 ∈ lw_tbl := mt_4 _ (List.mem_of_getElem? (i := 155) rfl)
theorem mc_975 : Cond.code yJ1_charAt_3b067 cJ1_charAt_3b067 2 (some .char) ∈ lw_tbl := mt_4 _ (List.mem_of_getElem? (i := 154) rfl)
theorem mc_976 : Cond.initialized RJ1 ∈ lw_tbl := mt_1 _ (List.mem_of_getElem? (i := 18) rfl)
theorem mc_977 : Cond.static yJ1_charAt_3b067 ∈ lw_tbl := mt_4 _ (List.mem_of_getElem? (i := 153) rfl)
theorem mc_978 : Cond.methodLink RJ0 495 yJ1_charAt_3b067 ∈ lw_tbl := mt_4 _ (List.mem_of_getElem? (i := 152) rfl)
theorem mc_979 : Cond.code yJ0_isLatin1_aae02 cJ0_isLatin1_aae02 1 (some .boolean) ∈ lw_tbl := mt_4 _ (List.mem_of_getElem? (i := 151) rfl)
theorem mc_980 : Cond.selects RJ0 yJ0_isLatin1_aae02 yJ0_isLatin1_aae02 ∈ lw_tbl := mt_4 _ (List.mem_of_getElem? (i := 150) rfl)
theorem mc_981 : Cond.instanceMethod yJ0_isLatin1_aae02 ∈ lw_tbl := mt_4 _ (List.mem_of_getElem? (i := 149) rfl)
theorem mc_982 : Cond.methodLink RJ0 492 yJ0_isLatin1_aae02 ∈ lw_tbl := mt_4 _ (List.mem_of_getElem? (i := 148) rfl)
theorem mc_983 : Cond.code yJ0_charAt_5068e cJ0_charAt_5068e 2 (some .char) ∈ lw_tbl := mt_4 _ (List.mem_of_getElem? (i := 147) rfl)
theorem mc_984 : Cond.selects RJ0 yJ0_charAt_5068e yJ0_charAt_5068e ∈ lw_tbl := mt_4 _ (List.mem_of_getElem? (i := 146) rfl)
theorem mc_985 : Cond.instanceMethod yJ0_charAt_5068e ∈ lw_tbl := mt_4 _ (List.mem_of_getElem? (i := 145) rfl)
theorem mc_986 : Cond.methodLink RX8 105 yJ0_charAt_5068e ∈ lw_tbl := mt_4 _ (List.mem_of_getElem? (i := 144) rfl)
theorem mc_987 : Cond.fieldLink RJ0 15 "java/lang/String" "coder" "B" ∈ lw_tbl := mt_8 _ (List.mem_of_getElem? (i := 13) rfl)
theorem mc_988 : Cond.fieldLink RJ0 38 "java/lang/String" "COMPACT_STRINGS" "Z" ∈ lw_tbl := mt_4 _ (List.mem_of_getElem? (i := 142) rfl)
theorem mc_989 : Cond.code yJ0_coder_7d493 cJ0_coder_7d493 1 (some .byte) ∈ lw_tbl := mt_4 _ (List.mem_of_getElem? (i := 141) rfl)
theorem mc_990 : Cond.selects RJ0 yJ0_coder_7d493 yJ0_coder_7d493 ∈ lw_tbl := mt_4 _ (List.mem_of_getElem? (i := 140) rfl)
theorem mc_991 : Cond.instanceMethod yJ0_coder_7d493 ∈ lw_tbl := mt_4 _ (List.mem_of_getElem? (i := 139) rfl)
theorem mc_992 : Cond.methodLink RJ0 335 yJ0_coder_7d493 ∈ lw_tbl := mt_4 _ (List.mem_of_getElem? (i := 138) rfl)
theorem mc_993 : Cond.fieldLink RJ0 9 "java/lang/String" "value" "[B" ∈ lw_tbl := mt_8 _ (List.mem_of_getElem? (i := 12) rfl)
theorem mc_994 : Cond.code yJ0_length_8abf5 cJ0_length_8abf5 1 (some .int) ∈ lw_tbl := mt_4 _ (List.mem_of_getElem? (i := 137) rfl)
theorem mc_995 : Cond.initialized RJ0 ∈ lw_tbl := mt_1 _ (List.mem_of_getElem? (i := 17) rfl)
set_option maxRecDepth 100000 in
theorem mT_wsX10_plan_r3 : ∀ w ∈ wsX10_plan_r3, w ∈ lw_tbl := by
  unfold wsX10_plan_r3
  exact List.forall_mem_cons.mpr ⟨mc_995, List.forall_mem_cons.mpr ⟨mc_994, List.forall_mem_cons.mpr ⟨mc_993, List.forall_mem_cons.mpr ⟨mc_992, List.forall_mem_cons.mpr ⟨mc_991, List.forall_mem_cons.mpr ⟨mc_990, List.forall_mem_cons.mpr ⟨mc_989, List.forall_mem_cons.mpr ⟨mc_988, List.forall_mem_cons.mpr ⟨mc_987, List.forall_mem_cons.mpr ⟨mc_986, List.forall_mem_cons.mpr ⟨mc_985, List.forall_mem_cons.mpr ⟨mc_984, List.forall_mem_cons.mpr ⟨mc_983, List.forall_mem_cons.mpr ⟨mc_982, List.forall_mem_cons.mpr ⟨mc_981, List.forall_mem_cons.mpr ⟨mc_980, List.forall_mem_cons.mpr ⟨mc_979, List.forall_mem_cons.mpr ⟨mc_978, List.forall_mem_cons.mpr ⟨mc_977, List.forall_mem_cons.mpr ⟨mc_976, List.forall_mem_cons.mpr ⟨mc_975, List.forall_mem_cons.mpr ⟨mc_974, List.forall_mem_cons.mpr ⟨mc_973, List.forall_mem_cons.mpr ⟨mc_972, fun _ h => absurd h List.not_mem_nil⟩⟩⟩⟩⟩⟩⟩⟩⟩⟩⟩⟩⟩⟩⟩⟩⟩⟩⟩⟩⟩⟩⟩⟩
theorem mc_996 : Cond.static yX8_isDigit ∈ lw_tbl := mt_4 _ (List.mem_of_getElem? (i := 183) rfl)
theorem mc_997 : Cond.methodLink RX8 89 yX8_isDigit ∈ lw_tbl := mt_4 _ (List.mem_of_getElem? (i := 182) rfl)
theorem mc_998 : Cond.fieldLink RJ2 63 "java/lang/StringUTF16" "LO_BYTE_SHIFT" "I" ∈ lw_tbl := mt_4 _ (List.mem_of_getElem? (i := 180) rfl)
theorem mc_999 : Cond.fieldLink RJ2 59 "java/lang/StringUTF16" "HI_BYTE_SHIFT" "I" ∈ lw_tbl := mt_4 _ (List.mem_of_getElem? (i := 178) rfl)
theorem mc_1000 : Cond.fieldLink RJ2 44 "java/lang/StringUTF16" "$assertionsDisabled" "Z" ∈ lw_tbl := mt_4 _ (List.mem_of_getElem? (i := 176) rfl)
theorem mc_1001 : Cond.code yJ2_getChar_3b067 cJ2_getChar_3b067 2 (some .char) ∈ lw_tbl := mt_4 _ (List.mem_of_getElem? (i := 175) rfl)
theorem mc_1002 : Cond.static yJ2_getChar_3b067 ∈ lw_tbl := mt_4 _ (List.mem_of_getElem? (i := 174) rfl)
theorem mc_1003 : Cond.methodLink RJ2 71 yJ2_getChar_3b067 ∈ lw_tbl := mt_4 _ (List.mem_of_getElem? (i := 173) rfl)
theorem mc_1004 : Cond.methodLink RJ2 414 yJ0_checkIndex_df160 ∈ lw_tbl := mt_4 _ (List.mem_of_getElem? (i := 172) rfl)
theorem mc_1005 : Cond.code yJ2_length_9d52b cJ2_length_9d52b 1 (some .int) ∈ lw_tbl := mt_4 _ (List.mem_of_getElem? (i := 171) rfl)
theorem mc_1006 : Cond.static yJ2_length_9d52b ∈ lw_tbl := mt_4 _ (List.mem_of_getElem? (i := 170) rfl)
theorem mc_1007 : Cond.methodLink RJ2 48 yJ2_length_9d52b ∈ lw_tbl := mt_4 _ (List.mem_of_getElem? (i := 169) rfl)
theorem mc_1008 : Cond.code yJ2_checkIndex_2214a cJ2_checkIndex_2214a 2 none ∈ lw_tbl := mt_4 _ (List.mem_of_getElem? (i := 168) rfl)
theorem mc_1009 : Cond.static yJ2_checkIndex_2214a ∈ lw_tbl := mt_4 _ (List.mem_of_getElem? (i := 167) rfl)
theorem mc_1010 : Cond.methodLink RJ2 67 yJ2_checkIndex_2214a ∈ lw_tbl := mt_4 _ (List.mem_of_getElem? (i := 166) rfl)
theorem mc_1011 : Cond.code yJ2_charAt_3b067 cJ2_charAt_3b067 2 (some .char) ∈ lw_tbl := mt_4 _ (List.mem_of_getElem? (i := 165) rfl)
theorem mc_1012 : Cond.initialized RJ2 ∈ lw_tbl := mt_1 _ (List.mem_of_getElem? (i := 20) rfl)
theorem mc_1013 : Cond.static yJ2_charAt_3b067 ∈ lw_tbl := mt_4 _ (List.mem_of_getElem? (i := 164) rfl)
theorem mc_1014 : Cond.methodLink RJ0 498 yJ2_charAt_3b067 ∈ lw_tbl := mt_4 _ (List.mem_of_getElem? (i := 163) rfl)
theorem mc_1015 : Cond.code yJ3_checkIndex_8e157 cJ3_checkIndex_8e157 3 (some .int) ∈ lw_tbl := mt_4 _ (List.mem_of_getElem? (i := 162) rfl)
theorem mc_1016 : Cond.initialized RJ3 ∈ lw_tbl := mt_1 _ (List.mem_of_getElem? (i := 19) rfl)
theorem mc_1017 : Cond.static yJ3_checkIndex_8e157 ∈ lw_tbl := mt_4 _ (List.mem_of_getElem? (i := 161) rfl)
theorem mc_1018 : Cond.methodLink RJ0 1059 yJ3_checkIndex_8e157 ∈ lw_tbl := mt_4 _ (List.mem_of_getElem? (i := 160) rfl)
theorem mc_1019 : Cond.fieldLink RJ0 1053 "jdk/internal/util/Preconditions" "SIOOBE_FORMATTER" "Ljava/util/function/BiFunction;" ∈ lw_tbl := mt_4 _ (List.mem_of_getElem? (i := 158) rfl)
set_option maxRecDepth 100000 in
theorem mT_wsX10_plan_r4 : ∀ w ∈ wsX10_plan_r4, w ∈ lw_tbl := by
  unfold wsX10_plan_r4
  exact List.forall_mem_cons.mpr ⟨mc_1019, List.forall_mem_cons.mpr ⟨mc_1018, List.forall_mem_cons.mpr ⟨mc_1017, List.forall_mem_cons.mpr ⟨mc_1016, List.forall_mem_cons.mpr ⟨mc_1015, List.forall_mem_cons.mpr ⟨mc_1014, List.forall_mem_cons.mpr ⟨mc_1013, List.forall_mem_cons.mpr ⟨mc_1012, List.forall_mem_cons.mpr ⟨mc_1011, List.forall_mem_cons.mpr ⟨mc_1010, List.forall_mem_cons.mpr ⟨mc_1009, List.forall_mem_cons.mpr ⟨mc_1008, List.forall_mem_cons.mpr ⟨mc_1007, List.forall_mem_cons.mpr ⟨mc_1006, List.forall_mem_cons.mpr ⟨mc_1005, List.forall_mem_cons.mpr ⟨mc_1004, List.forall_mem_cons.mpr ⟨mc_1003, List.forall_mem_cons.mpr ⟨mc_1002, List.forall_mem_cons.mpr ⟨mc_1001, List.forall_mem_cons.mpr ⟨mc_1000, List.forall_mem_cons.mpr ⟨mc_999, List.forall_mem_cons.mpr ⟨mc_998, List.forall_mem_cons.mpr ⟨mc_997, List.forall_mem_cons.mpr ⟨mc_996, fun _ h => absurd h List.not_mem_nil⟩⟩⟩⟩⟩⟩⟩⟩⟩⟩⟩⟩⟩⟩⟩⟩⟩⟩⟩⟩⟩⟩⟩⟩
theorem mc_1020 : Cond.instanceMethod yX6_append ∈ lw_tbl := mt_4 _ (List.mem_of_getElem? (i := 212) rfl)
theorem mc_1021 : Cond.methodLink RX8 75 yX6_append ∈ lw_tbl := mt_4 _ (List.mem_of_getElem? (i := 211) rfl)
theorem mc_1022 : Cond.code yX8_readRest cX8_readRest 5 (some .boolean) ∈ lw_tbl := mt_4 _ (List.mem_of_getElem? (i := 204) rfl)
theorem mc_1023 : Cond.selects RX8 yX8_readRest yX8_readRest ∈ lw_tbl := List.mem_append_left _ (List.mem_map.mpr ⟨(yX8_readRest, 9), List.mem_of_getElem? (i := 20) rfl, rfl⟩)
theorem mc_1024 : Cond.instanceMethod yX8_readRest ∈ lw_tbl := mt_4 _ (List.mem_of_getElem? (i := 203) rfl)
theorem mc_1025 : Cond.methodLink RX8 63 yX8_readRest ∈ lw_tbl := mt_4 _ (List.mem_of_getElem? (i := 201) rfl)
theorem mc_1026 : Cond.code yX8_wrong cX8_wrong 2 (some .boolean) ∈ lw_tbl := mt_4 _ (List.mem_of_getElem? (i := 200) rfl)
theorem mc_1027 : Cond.selects RX8 yX8_wrong yX8_wrong ∈ lw_tbl := List.mem_append_left _ (List.mem_map.mpr ⟨(yX8_wrong, 9), List.mem_of_getElem? (i := 19) rfl, rfl⟩)
theorem mc_1028 : Cond.instanceMethod yX8_wrong ∈ lw_tbl := mt_4 _ (List.mem_of_getElem? (i := 199) rfl)
theorem mc_1029 : Cond.methodLink RX8 58 yX8_wrong ∈ lw_tbl := mt_4 _ (List.mem_of_getElem? (i := 197) rfl)
theorem mc_1030 : Cond.code yX8_numberWithin cX8_numberWithin 3 (some .boolean) ∈ lw_tbl := mt_4 _ (List.mem_of_getElem? (i := 196) rfl)
theorem mc_1031 : Cond.selects RX8 yX8_numberWithin yX8_numberWithin ∈ lw_tbl := List.mem_append_left _ (List.mem_map.mpr ⟨(yX8_numberWithin, 9), List.mem_of_getElem? (i := 18) rfl, rfl⟩)
theorem mc_1032 : Cond.instanceMethod yX8_numberWithin ∈ lw_tbl := mt_4 _ (List.mem_of_getElem? (i := 195) rfl)
theorem mc_1033 : Cond.methodLink RX8 54 yX8_numberWithin ∈ lw_tbl := mt_4 _ (List.mem_of_getElem? (i := 193) rfl)
theorem mc_1034 : Cond.fieldLink RX8 62 "AheadStore$Script" "size" "I" ∈ lw_tbl := mt_1 _ (List.mem_of_getElem? (i := 212) rfl)
theorem mc_1035 : Cond.code yX8_readLine cX8_readLine 2 (some .boolean) ∈ lw_tbl := mt_4 _ (List.mem_of_getElem? (i := 192) rfl)
theorem mc_1036 : Cond.selects RX8 yX8_readLine yX8_readLine ∈ lw_tbl := List.mem_append_left _ (List.mem_map.mpr ⟨(yX8_readLine, 9), List.mem_of_getElem? (i := 17) rfl, rfl⟩)
theorem mc_1037 : Cond.instanceMethod yX8_readLine ∈ lw_tbl := mt_4 _ (List.mem_of_getElem? (i := 191) rfl)
theorem mc_1038 : Cond.methodLink RX8 50 yX8_readLine ∈ lw_tbl := mt_4 _ (List.mem_of_getElem? (i := 189) rfl)
theorem mc_1039 : Cond.code yX8_takeNumber cX8_takeNumber 1 none ∈ lw_tbl := mt_4 _ (List.mem_of_getElem? (i := 188) rfl)
theorem mc_1040 : Cond.selects RX8 yX8_takeNumber yX8_takeNumber ∈ lw_tbl := List.mem_append_left _ (List.mem_map.mpr ⟨(yX8_takeNumber, 9), List.mem_of_getElem? (i := 16) rfl, rfl⟩)
theorem mc_1041 : Cond.instanceMethod yX8_takeNumber ∈ lw_tbl := mt_4 _ (List.mem_of_getElem? (i := 187) rfl)
theorem mc_1042 : Cond.methodLink RX8 92 yX8_takeNumber ∈ lw_tbl := mt_4 _ (List.mem_of_getElem? (i := 185) rfl)
theorem mc_1043 : Cond.code yX8_isDigit cX8_isDigit 1 (some .boolean) ∈ lw_tbl := mt_4 _ (List.mem_of_getElem? (i := 184) rfl)
set_option maxRecDepth 100000 in
theorem mT_wsX10_plan_r5 : ∀ w ∈ wsX10_plan_r5, w ∈ lw_tbl := by
  unfold wsX10_plan_r5
  exact List.forall_mem_cons.mpr ⟨mc_1043, List.forall_mem_cons.mpr ⟨mc_1042, List.forall_mem_cons.mpr ⟨mc_1041, List.forall_mem_cons.mpr ⟨mc_1040, List.forall_mem_cons.mpr ⟨mc_1039, List.forall_mem_cons.mpr ⟨mc_1038, List.forall_mem_cons.mpr ⟨mc_1037, List.forall_mem_cons.mpr ⟨mc_1036, List.forall_mem_cons.mpr ⟨mc_1035, List.forall_mem_cons.mpr ⟨mc_1034, List.forall_mem_cons.mpr ⟨mc_1033, List.forall_mem_cons.mpr ⟨mc_1032, List.forall_mem_cons.mpr ⟨mc_1031, List.forall_mem_cons.mpr ⟨mc_1030, List.forall_mem_cons.mpr ⟨mc_1029, List.forall_mem_cons.mpr ⟨mc_1028, List.forall_mem_cons.mpr ⟨mc_1027, List.forall_mem_cons.mpr ⟨mc_1026, List.forall_mem_cons.mpr ⟨mc_1025, List.forall_mem_cons.mpr ⟨mc_1024, List.forall_mem_cons.mpr ⟨mc_1023, List.forall_mem_cons.mpr ⟨mc_1022, List.forall_mem_cons.mpr ⟨mc_1021, List.forall_mem_cons.mpr ⟨mc_1020, fun _ h => absurd h List.not_mem_nil⟩⟩⟩⟩⟩⟩⟩⟩⟩⟩⟩⟩⟩⟩⟩⟩⟩⟩⟩⟩⟩⟩⟩⟩
theorem mc_1044 : Cond.methodLink RX6 22 arraycopyName ∈ lw_tbl := mt_4 _ (List.mem_of_getElem? (i := 219) rfl)
theorem mc_1045 : Cond.code yX6_copyFrom cX6_copyFrom 2 none ∈ lw_tbl := mt_4 _ (List.mem_of_getElem? (i := 218) rfl)
theorem mc_1046 : Cond.selects RX6 yX6_copyFrom yX6_copyFrom ∈ lw_tbl := mt_4 _ (List.mem_of_getElem? (i := 217) rfl)
theorem mc_1047 : Cond.instanceMethod yX6_copyFrom ∈ lw_tbl := mt_4 _ (List.mem_of_getElem? (i := 216) rfl)
theorem mc_1048 : Cond.methodLink RX10 131 yX6_copyFrom ∈ lw_tbl := mt_4 _ (List.mem_of_getElem? (i := 215) rfl)
theorem mc_1049 : Cond.code yX6_append cX6_append 6 none ∈ lw_tbl := mt_4 _ (List.mem_of_getElem? (i := 214) rfl)
theorem mc_1050 : Cond.selects RX6 yX6_append yX6_append ∈ lw_tbl := mt_4 _ (List.mem_of_getElem? (i := 213) rfl)
set_option maxRecDepth 100000 in
theorem mT_wsX10_plan_r6 : ∀ w ∈ wsX10_plan_r6, w ∈ lw_tbl := by
  unfold wsX10_plan_r6
  exact List.forall_mem_cons.mpr ⟨mc_1050, List.forall_mem_cons.mpr ⟨mc_1049, List.forall_mem_cons.mpr ⟨mc_111, List.forall_mem_cons.mpr ⟨mc_1048, List.forall_mem_cons.mpr ⟨mc_1047, List.forall_mem_cons.mpr ⟨mc_1046, List.forall_mem_cons.mpr ⟨mc_1045, List.forall_mem_cons.mpr ⟨mc_1044, List.forall_mem_cons.mpr ⟨mc_384, List.forall_mem_cons.mpr ⟨mc_383, List.forall_mem_cons.mpr ⟨mc_413, fun _ h => absurd h List.not_mem_nil⟩⟩⟩⟩⟩⟩⟩⟩⟩⟩⟩
set_option maxRecDepth 100000 in
theorem mT_wsX10_plan : ∀ w ∈ wsX10_plan, w ∈ lw_tbl := by
  unfold wsX10_plan
  exact List.forall_mem_cons.mpr ⟨mc_938, List.forall_mem_append.mpr ⟨List.forall_mem_append.mpr ⟨List.forall_mem_append.mpr ⟨List.forall_mem_append.mpr ⟨List.forall_mem_append.mpr ⟨mT_wsX10_plan_r1, List.forall_mem_append.mpr ⟨mT_wsX10_plan_r2, List.forall_mem_append.mpr ⟨mT_wsX10_plan_r3, List.forall_mem_append.mpr ⟨mT_wsX10_plan_r4, List.forall_mem_append.mpr ⟨mT_wsX10_plan_r5, mT_wsX10_plan_r6⟩⟩⟩⟩⟩, inX10⟩, inX9⟩, inX8⟩, inX6⟩⟩
theorem mc_1051 : Cond.selects RX10 yX10_plan yX10_plan ∈ lw_tbl := mt_4 _ (List.mem_of_getElem? (i := 104) rfl)
theorem mc_1052 : Cond.instanceMethod yX10_plan ∈ lw_tbl := mt_4 _ (List.mem_of_getElem? (i := 103) rfl)
theorem mc_1053 : Cond.methodLink RL 67 yX10_plan ∈ lw_tbl := mt_4 _ (List.mem_of_getElem? (i := 102) rfl)
set_option maxRecDepth 100000 in
theorem gT_X10_plan : GoodIn lw_tbl (wsV RL 67 RX10 yX10_plan wsX10_plan) := goodIn_sub (List.forall_mem_append.mpr ⟨List.forall_mem_cons.mpr ⟨mc_1053, List.forall_mem_cons.mpr ⟨mc_1052, List.forall_mem_cons.mpr ⟨mc_1051, List.forall_mem_cons.mpr ⟨mc_139, fun _ h => absurd h List.not_mem_nil⟩⟩⟩⟩, mT_wsX10_plan⟩) (by decide +kernel)
theorem mc_1054 : Cond.code yX11_plan cX11_plan 3 (some .int) ∈ lw_tbl := mt_7 _ (List.mem_of_getElem? (i := 143) rfl)
theorem mc_1055 : Cond.instanceMethod yX11_raw ∈ lw_tbl := mt_7 _ (List.mem_of_getElem? (i := 154) rfl)
theorem mc_1056 : Cond.methodLink RX11 302 yX11_raw ∈ lw_tbl := mt_7 _ (List.mem_of_getElem? (i := 152) rfl)
theorem mc_1057 : Cond.fieldLink RX11 311 "AheadStoreModel" "value" "I" ∈ lw_tbl := mt_5 _ (List.mem_of_getElem? (i := 193) rfl)
theorem mc_1058 : Cond.fieldLink RX11 305 "AheadStoreModel" "from" "I" ∈ lw_tbl := mt_5 _ (List.mem_of_getElem? (i := 191) rfl)
theorem mc_1059 : Cond.code yX11_reads cX11_reads 2 none ∈ lw_tbl := mt_7 _ (List.mem_of_getElem? (i := 151) rfl)
theorem mc_1060 : Cond.selects RX11 yX11_reads yX11_reads ∈ lw_tbl := List.mem_append_left _ (List.mem_map.mpr ⟨(yX11_reads, 28), List.mem_of_getElem? (i := 98) rfl, rfl⟩)
theorem mc_1061 : Cond.instanceMethod yX11_reads ∈ lw_tbl := mt_7 _ (List.mem_of_getElem? (i := 150) rfl)
theorem mc_1062 : Cond.methodLink RX11 332 yX11_reads ∈ lw_tbl := mt_7 _ (List.mem_of_getElem? (i := 148) rfl)
theorem mc_1063 : Cond.fieldLink RX11 308 "AheadStoreModel" "token" "I" ∈ lw_tbl := mt_5 _ (List.mem_of_getElem? (i := 192) rfl)
theorem mc_1064 : Cond.fieldLink RX11 299 "AheadStoreModel" "spot" "I" ∈ lw_tbl := mt_5 _ (List.mem_of_getElem? (i := 190) rfl)
theorem mc_1065 : Cond.code yX11_readPlan cX11_readPlan 2 (some .int) ∈ lw_tbl := mt_7 _ (List.mem_of_getElem? (i := 147) rfl)
theorem mc_1066 : Cond.selects RX11 yX11_readPlan yX11_readPlan ∈ lw_tbl := List.mem_append_left _ (List.mem_map.mpr ⟨(yX11_readPlan, 28), List.mem_of_getElem? (i := 97) rfl, rfl⟩)
theorem mc_1067 : Cond.instanceMethod yX11_readPlan ∈ lw_tbl := mt_7 _ (List.mem_of_getElem? (i := 146) rfl)
theorem mc_1068 : Cond.methodLink RX11 347 yX11_readPlan ∈ lw_tbl := mt_7 _ (List.mem_of_getElem? (i := 144) rfl)
theorem mc_1069 : Cond.fieldLink RX11 350 "AheadStoreModel" "planMany" "I" ∈ lw_tbl := mt_5 _ (List.mem_of_getElem? (i := 199) rfl)
theorem mc_1070 : Cond.fieldLink RX11 326 "AheadStoreModel" "readPlace" "I" ∈ lw_tbl := mt_5 _ (List.mem_of_getElem? (i := 196) rfl)
theorem mc_1071 : Cond.fieldLink RX11 323 "AheadStoreModel" "readFault" "I" ∈ lw_tbl := mt_5 _ (List.mem_of_getElem? (i := 195) rfl)
theorem mc_1072 : Cond.fieldLink RX11 344 "AheadStoreModel" "faultKind" "I" ∈ lw_tbl := mt_5 _ (List.mem_of_getElem? (i := 197) rfl)
set_option maxRecDepth 100000 in
theorem mT_wsX11_plan_r1 : ∀ w ∈ wsX11_plan_r1, w ∈ lw_tbl := by
  unfold wsX11_plan_r1
  exact List.forall_mem_cons.mpr ⟨mc_184, List.forall_mem_cons.mpr ⟨mc_1072, List.forall_mem_cons.mpr ⟨mc_143, List.forall_mem_cons.mpr ⟨mc_1071, List.forall_mem_cons.mpr ⟨mc_1070, List.forall_mem_cons.mpr ⟨mc_926, List.forall_mem_cons.mpr ⟨mc_142, List.forall_mem_cons.mpr ⟨mc_1069, List.forall_mem_cons.mpr ⟨mc_151, List.forall_mem_cons.mpr ⟨mc_1068, List.forall_mem_cons.mpr ⟨mc_1067, List.forall_mem_cons.mpr ⟨mc_1066, List.forall_mem_cons.mpr ⟨mc_155, List.forall_mem_cons.mpr ⟨mc_1065, List.forall_mem_cons.mpr ⟨mc_1064, List.forall_mem_cons.mpr ⟨mc_1063, List.forall_mem_cons.mpr ⟨mc_1062, List.forall_mem_cons.mpr ⟨mc_1061, List.forall_mem_cons.mpr ⟨mc_1060, List.forall_mem_cons.mpr ⟨mc_1059, List.forall_mem_cons.mpr ⟨mc_1058, List.forall_mem_cons.mpr ⟨mc_1057, List.forall_mem_cons.mpr ⟨mc_1056, List.forall_mem_cons.mpr ⟨mc_1055, fun _ h => absurd h List.not_mem_nil⟩⟩⟩⟩⟩⟩⟩⟩⟩⟩⟩⟩⟩⟩⟩⟩⟩⟩⟩⟩⟩⟩⟩⟩
theorem mc_1073 : Cond.code yX11_readLine cX11_readLine 5 (some .int) ∈ lw_tbl := mt_7 _ (List.mem_of_getElem? (i := 171) rfl)
theorem mc_1074 : Cond.selects RX11 yX11_readLine yX11_readLine ∈ lw_tbl := List.mem_append_left _ (List.mem_map.mpr ⟨(yX11_readLine, 28), List.mem_of_getElem? (i := 103) rfl, rfl⟩)
theorem mc_1075 : Cond.instanceMethod yX11_readLine ∈ lw_tbl := mt_7 _ (List.mem_of_getElem? (i := 170) rfl)
theorem mc_1076 : Cond.methodLink RX11 341 yX11_readLine ∈ lw_tbl := mt_7 _ (List.mem_of_getElem? (i := 168) rfl)
theorem mc_1077 : Cond.code yX11_isDigit cX11_isDigit 2 (some .boolean) ∈ lw_tbl := mt_7 _ (List.mem_of_getElem? (i := 167) rfl)
theorem mc_1078 : Cond.selects RX11 yX11_isDigit yX11_isDigit ∈ lw_tbl := List.mem_append_left _ (List.mem_map.mpr ⟨(yX11_isDigit, 28), List.mem_of_getElem? (i := 102) rfl, rfl⟩)
theorem mc_1079 : Cond.instanceMethod yX11_isDigit ∈ lw_tbl := mt_7 _ (List.mem_of_getElem? (i := 166) rfl)
theorem mc_1080 : Cond.methodLink RX11 320 yX11_isDigit ∈ lw_tbl := mt_7 _ (List.mem_of_getElem? (i := 164) rfl)
theorem mc_1081 : Cond.code yX11_wordAt cX11_wordAt 6 (some .int) ∈ lw_tbl := mt_7 _ (List.mem_of_getElem? (i := 163) rfl)
theorem mc_1082 : Cond.selects RX11 yX11_wordAt yX11_wordAt ∈ lw_tbl := List.mem_append_left _ (List.mem_map.mpr ⟨(yX11_wordAt, 28), List.mem_of_getElem? (i := 101) rfl, rfl⟩)
theorem mc_1083 : Cond.instanceMethod yX11_wordAt ∈ lw_tbl := mt_7 _ (List.mem_of_getElem? (i := 162) rfl)
theorem mc_1084 : Cond.methodLink RX11 317 yX11_wordAt ∈ lw_tbl := mt_7 _ (List.mem_of_getElem? (i := 160) rfl)
theorem mc_1085 : Cond.code yX11_isLetter cX11_isLetter 2 (some .boolean) ∈ lw_tbl := mt_7 _ (List.mem_of_getElem? (i := 159) rfl)
theorem mc_1086 : Cond.selects RX11 yX11_isLetter yX11_isLetter ∈ lw_tbl := List.mem_append_left _ (List.mem_map.mpr ⟨(yX11_isLetter, 28), List.mem_of_getElem? (i := 100) rfl, rfl⟩)
theorem mc_1087 : Cond.instanceMethod yX11_isLetter ∈ lw_tbl := mt_7 _ (List.mem_of_getElem? (i := 158) rfl)
theorem mc_1088 : Cond.methodLink RX11 314 yX11_isLetter ∈ lw_tbl := mt_7 _ (List.mem_of_getElem? (i := 156) rfl)
theorem mc_1089 : Cond.code yX11_raw cX11_raw 2 (some .int) ∈ lw_tbl := mt_7 _ (List.mem_of_getElem? (i := 155) rfl)
theorem mc_1090 : Cond.selects RX11 yX11_raw yX11_raw ∈ lw_tbl := List.mem_append_left _ (List.mem_map.mpr ⟨(yX11_raw, 28), List.mem_of_getElem? (i := 99) rfl, rfl⟩)
set_option maxRecDepth 100000 in
theorem mT_wsX11_plan_r2 : ∀ w ∈ wsX11_plan_r2, w ∈ lw_tbl := by
  unfold wsX11_plan_r2
  exact List.forall_mem_cons.mpr ⟨mc_1090, List.forall_mem_cons.mpr ⟨mc_1089, List.forall_mem_cons.mpr ⟨mc_145, List.forall_mem_cons.mpr ⟨mc_1088, List.forall_mem_cons.mpr ⟨mc_1087, List.forall_mem_cons.mpr ⟨mc_1086, List.forall_mem_cons.mpr ⟨mc_1085, List.forall_mem_cons.mpr ⟨mc_179, List.forall_mem_cons.mpr ⟨mc_178, List.forall_mem_cons.mpr ⟨mc_177, List.forall_mem_cons.mpr ⟨mc_176, List.forall_mem_cons.mpr ⟨mc_1084, List.forall_mem_cons.mpr ⟨mc_1083, List.forall_mem_cons.mpr ⟨mc_1082, List.forall_mem_cons.mpr ⟨mc_1081, List.forall_mem_cons.mpr ⟨mc_144, List.forall_mem_cons.mpr ⟨mc_1080, List.forall_mem_cons.mpr ⟨mc_1079, List.forall_mem_cons.mpr ⟨mc_1078, List.forall_mem_cons.mpr ⟨mc_1077, List.forall_mem_cons.mpr ⟨mc_1076, List.forall_mem_cons.mpr ⟨mc_1075, List.forall_mem_cons.mpr ⟨mc_1074, List.forall_mem_cons.mpr ⟨mc_1073, fun _ h => absurd h List.not_mem_nil⟩⟩⟩⟩⟩⟩⟩⟩⟩⟩⟩⟩⟩⟩⟩⟩⟩⟩⟩⟩⟩⟩⟩⟩
theorem mc_1091 : Cond.code yX11_readNumber cX11_readNumber 4 (some .int) ∈ lw_tbl := mt_7 _ (List.mem_of_getElem? (i := 183) rfl)
theorem mc_1092 : Cond.selects RX11 yX11_readNumber yX11_readNumber ∈ lw_tbl := List.mem_append_left _ (List.mem_map.mpr ⟨(yX11_readNumber, 28), List.mem_of_getElem? (i := 106) rfl, rfl⟩)
theorem mc_1093 : Cond.instanceMethod yX11_readNumber ∈ lw_tbl := mt_7 _ (List.mem_of_getElem? (i := 182) rfl)
theorem mc_1094 : Cond.methodLink RX11 335 yX11_readNumber ∈ lw_tbl := mt_7 _ (List.mem_of_getElem? (i := 180) rfl)
theorem mc_1095 : Cond.code yX11_readNumbers cX11_readNumbers 5 (some .int) ∈ lw_tbl := mt_7 _ (List.mem_of_getElem? (i := 179) rfl)
theorem mc_1096 : Cond.selects RX11 yX11_readNumbers yX11_readNumbers ∈ lw_tbl := List.mem_append_left _ (List.mem_map.mpr ⟨(yX11_readNumbers, 28), List.mem_of_getElem? (i := 105) rfl, rfl⟩)
theorem mc_1097 : Cond.instanceMethod yX11_readNumbers ∈ lw_tbl := mt_7 _ (List.mem_of_getElem? (i := 178) rfl)
theorem mc_1098 : Cond.methodLink RX11 338 yX11_readNumbers ∈ lw_tbl := mt_7 _ (List.mem_of_getElem? (i := 176) rfl)
theorem mc_1099 : Cond.code yX11_errs cX11_errs 2 (some .int) ∈ lw_tbl := mt_7 _ (List.mem_of_getElem? (i := 175) rfl)
theorem mc_1100 : Cond.selects RX11 yX11_errs yX11_errs ∈ lw_tbl := List.mem_append_left _ (List.mem_map.mpr ⟨(yX11_errs, 28), List.mem_of_getElem? (i := 104) rfl, rfl⟩)
theorem mc_1101 : Cond.instanceMethod yX11_errs ∈ lw_tbl := mt_7 _ (List.mem_of_getElem? (i := 174) rfl)
theorem mc_1102 : Cond.methodLink RX11 329 yX11_errs ∈ lw_tbl := mt_7 _ (List.mem_of_getElem? (i := 172) rfl)
set_option maxRecDepth 100000 in
theorem mT_wsX11_plan_r3 : ∀ w ∈ wsX11_plan_r3, w ∈ lw_tbl := by
  unfold wsX11_plan_r3
  exact List.forall_mem_cons.mpr ⟨mc_1102, List.forall_mem_cons.mpr ⟨mc_1101, List.forall_mem_cons.mpr ⟨mc_1100, List.forall_mem_cons.mpr ⟨mc_1099, List.forall_mem_cons.mpr ⟨mc_1098, List.forall_mem_cons.mpr ⟨mc_1097, List.forall_mem_cons.mpr ⟨mc_1096, List.forall_mem_cons.mpr ⟨mc_1095, List.forall_mem_cons.mpr ⟨mc_1094, List.forall_mem_cons.mpr ⟨mc_1093, List.forall_mem_cons.mpr ⟨mc_1092, List.forall_mem_cons.mpr ⟨mc_1091, fun _ h => absurd h List.not_mem_nil⟩⟩⟩⟩⟩⟩⟩⟩⟩⟩⟩⟩
set_option maxRecDepth 100000 in
theorem mT_wsX11_plan : ∀ w ∈ wsX11_plan, w ∈ lw_tbl := by
  unfold wsX11_plan
  exact List.forall_mem_cons.mpr ⟨mc_1054, List.forall_mem_append.mpr ⟨List.forall_mem_append.mpr ⟨mT_wsX11_plan_r1, List.forall_mem_append.mpr ⟨mT_wsX11_plan_r2, mT_wsX11_plan_r3⟩⟩, inX11⟩⟩
theorem mc_1103 : Cond.selects RX11 yX11_plan yX11_plan ∈ lw_tbl := mt_7 _ (List.mem_of_getElem? (i := 142) rfl)
theorem mc_1104 : Cond.instanceMethod yX11_plan ∈ lw_tbl := mt_7 _ (List.mem_of_getElem? (i := 141) rfl)
theorem mc_1105 : Cond.methodLink RL 71 yX11_plan ∈ lw_tbl := mt_7 _ (List.mem_of_getElem? (i := 140) rfl)
set_option maxRecDepth 100000 in
theorem gT_X11_plan : GoodIn lw_tbl (wsV RL 71 RX11 yX11_plan wsX11_plan) := goodIn_sub (List.forall_mem_append.mpr ⟨List.forall_mem_cons.mpr ⟨mc_1105, List.forall_mem_cons.mpr ⟨mc_1104, List.forall_mem_cons.mpr ⟨mc_1103, List.forall_mem_cons.mpr ⟨mc_155, fun _ h => absurd h List.not_mem_nil⟩⟩⟩⟩, mT_wsX11_plan⟩) (by decide +kernel)
theorem mc_1106 : Cond.code yX10_fault cX10_fault 2 (some .int) ∈ lw_tbl := mt_4 _ (List.mem_of_getElem? (i := 224) rfl)
theorem mc_1107 : Cond.fieldLink RX10 141 "AheadStore$Tape" "faultPlace" "I" ∈ lw_tbl := mt_2 _ (List.mem_of_getElem? (i := 48) rfl)
theorem mc_1108 : Cond.fieldLink RX10 138 "AheadStore$Tape" "fault" "I" ∈ lw_tbl := mt_2 _ (List.mem_of_getElem? (i := 46) rfl)
set_option maxRecDepth 100000 in
theorem mT_wsX10_fault : ∀ w ∈ wsX10_fault, w ∈ lw_tbl := by
  unfold wsX10_fault
  exact List.forall_mem_cons.mpr ⟨mc_1106, List.forall_mem_append.mpr ⟨List.forall_mem_append.mpr ⟨List.forall_mem_cons.mpr ⟨mc_14, List.forall_mem_cons.mpr ⟨mc_1108, List.forall_mem_cons.mpr ⟨mc_1107, fun _ h => absurd h List.not_mem_nil⟩⟩⟩, inX10⟩, inX8⟩⟩
theorem mc_1109 : Cond.selects RX10 yX10_fault yX10_fault ∈ lw_tbl := mt_4 _ (List.mem_of_getElem? (i := 223) rfl)
theorem mc_1110 : Cond.instanceMethod yX10_fault ∈ lw_tbl := mt_4 _ (List.mem_of_getElem? (i := 222) rfl)
theorem mc_1111 : Cond.methodLink RL 72 yX10_fault ∈ lw_tbl := mt_4 _ (List.mem_of_getElem? (i := 221) rfl)
set_option maxRecDepth 100000 in
theorem gT_X10_fault : GoodIn lw_tbl (wsV RL 72 RX10 yX10_fault wsX10_fault) := goodIn_sub (List.forall_mem_append.mpr ⟨List.forall_mem_cons.mpr ⟨mc_1111, List.forall_mem_cons.mpr ⟨mc_1110, List.forall_mem_cons.mpr ⟨mc_1109, List.forall_mem_cons.mpr ⟨mc_139, fun _ h => absurd h List.not_mem_nil⟩⟩⟩⟩, mT_wsX10_fault⟩) (by decide +kernel)
theorem mc_1112 : Cond.code yX11_fault cX11_fault 2 (some .int) ∈ lw_tbl := mt_7 _ (List.mem_of_getElem? (i := 187) rfl)
set_option maxRecDepth 100000 in
theorem mT_wsX11_fault : ∀ w ∈ wsX11_fault, w ∈ lw_tbl := by
  unfold wsX11_fault
  exact List.forall_mem_cons.mpr ⟨mc_1112, List.forall_mem_append.mpr ⟨List.forall_mem_cons.mpr ⟨mc_184, List.forall_mem_cons.mpr ⟨mc_1072, List.forall_mem_cons.mpr ⟨mc_143, fun _ h => absurd h List.not_mem_nil⟩⟩⟩, inX11⟩⟩
theorem mc_1113 : Cond.selects RX11 yX11_fault yX11_fault ∈ lw_tbl := mt_7 _ (List.mem_of_getElem? (i := 186) rfl)
theorem mc_1114 : Cond.instanceMethod yX11_fault ∈ lw_tbl := mt_7 _ (List.mem_of_getElem? (i := 185) rfl)
theorem mc_1115 : Cond.methodLink RL 75 yX11_fault ∈ lw_tbl := mt_7 _ (List.mem_of_getElem? (i := 184) rfl)
set_option maxRecDepth 100000 in
theorem gT_X11_fault : GoodIn lw_tbl (wsV RL 75 RX11 yX11_fault wsX11_fault) := goodIn_sub (List.forall_mem_append.mpr ⟨List.forall_mem_cons.mpr ⟨mc_1115, List.forall_mem_cons.mpr ⟨mc_1114, List.forall_mem_cons.mpr ⟨mc_1113, List.forall_mem_cons.mpr ⟨mc_155, fun _ h => absurd h List.not_mem_nil⟩⟩⟩⟩, mT_wsX11_fault⟩) (by decide +kernel)
theorem mc_1116 : Cond.code yX10_run cX10_run 5 (some .int) ∈ lw_tbl := mt_4 _ (List.mem_of_getElem? (i := 228) rfl)
theorem mc_1117 : Cond.code yX6_part cX6_part 4 (some .int) ∈ lw_tbl := mt_4 _ (List.mem_of_getElem? (i := 236) rfl)
theorem mc_1118 : Cond.selects RX6 yX6_part yX6_part ∈ lw_tbl := mt_4 _ (List.mem_of_getElem? (i := 235) rfl)
theorem mc_1119 : Cond.instanceMethod yX6_part ∈ lw_tbl := mt_4 _ (List.mem_of_getElem? (i := 234) rfl)
theorem mc_1120 : Cond.methodLink RX10 150 yX6_part ∈ lw_tbl := mt_4 _ (List.mem_of_getElem? (i := 233) rfl)
theorem mc_1121 : Cond.code yX10_doLine cX10_doLine 5 (some .boolean) ∈ lw_tbl := mt_4 _ (List.mem_of_getElem? (i := 232) rfl)
theorem mc_1122 : Cond.selects RX10 yX10_doLine yX10_doLine ∈ lw_tbl := List.mem_append_left _ (List.mem_map.mpr ⟨(yX10_doLine, 6), List.mem_of_getElem? (i := 21) rfl, rfl⟩)
theorem mc_1123 : Cond.instanceMethod yX10_doLine ∈ lw_tbl := mt_4 _ (List.mem_of_getElem? (i := 231) rfl)
theorem mc_1124 : Cond.methodLink RX10 147 yX10_doLine ∈ lw_tbl := mt_4 _ (List.mem_of_getElem? (i := 229) rfl)
theorem mc_1125 : Cond.fieldLink RX10 144 "AheadStore$Script" "ran" "I" ∈ lw_tbl := mt_1 _ (List.mem_of_getElem? (i := 215) rfl)
set_option maxRecDepth 100000 in
theorem mT_wsX10_run_r1 : ∀ w ∈ wsX10_run_r1, w ∈ lw_tbl := by
  unfold wsX10_run_r1
  exact List.forall_mem_cons.mpr ⟨mc_18, List.forall_mem_cons.mpr ⟨mc_163, List.forall_mem_cons.mpr ⟨mc_950, List.forall_mem_cons.mpr ⟨mc_1125, List.forall_mem_cons.mpr ⟨mc_948, List.forall_mem_cons.mpr ⟨mc_1124, List.forall_mem_cons.mpr ⟨mc_1123, List.forall_mem_cons.mpr ⟨mc_1122, List.forall_mem_cons.mpr ⟨mc_139, List.forall_mem_cons.mpr ⟨mc_1121, List.forall_mem_cons.mpr ⟨mc_1120, List.forall_mem_cons.mpr ⟨mc_1119, List.forall_mem_cons.mpr ⟨mc_1118, List.forall_mem_cons.mpr ⟨mc_28, List.forall_mem_cons.mpr ⟨mc_1117, List.forall_mem_cons.mpr ⟨mc_111, List.forall_mem_cons.mpr ⟨mc_206, List.forall_mem_cons.mpr ⟨mc_205, List.forall_mem_cons.mpr ⟨mc_204, List.forall_mem_cons.mpr ⟨mc_19, List.forall_mem_cons.mpr ⟨mc_203, List.forall_mem_cons.mpr ⟨mc_26, List.forall_mem_cons.mpr ⟨mc_39, List.forall_mem_cons.mpr ⟨mc_202, fun _ h => absurd h List.not_mem_nil⟩⟩⟩⟩⟩⟩⟩⟩⟩⟩⟩⟩⟩⟩⟩⟩⟩⟩⟩⟩⟩⟩⟩⟩
set_option maxRecDepth 100000 in
theorem mT_wsX10_run_r2 : ∀ w ∈ wsX10_run_r2, w ∈ lw_tbl := by
  unfold wsX10_run_r2
  exact List.forall_mem_cons.mpr ⟨mc_201, List.forall_mem_cons.mpr ⟨mc_200, List.forall_mem_cons.mpr ⟨mc_199, List.forall_mem_cons.mpr ⟨mc_198, List.forall_mem_cons.mpr ⟨mc_197, List.forall_mem_cons.mpr ⟨mc_196, List.forall_mem_cons.mpr ⟨mc_47, List.forall_mem_cons.mpr ⟨mc_195, List.forall_mem_cons.mpr ⟨mc_194, List.forall_mem_cons.mpr ⟨mc_193, List.forall_mem_cons.mpr ⟨mc_192, List.forall_mem_cons.mpr ⟨mc_191, List.forall_mem_cons.mpr ⟨mc_190, List.forall_mem_cons.mpr ⟨mc_189, List.forall_mem_cons.mpr ⟨mc_225, List.forall_mem_cons.mpr ⟨mc_224, List.forall_mem_cons.mpr ⟨mc_48, List.forall_mem_cons.mpr ⟨mc_223, List.forall_mem_cons.mpr ⟨mc_64, List.forall_mem_cons.mpr ⟨mc_62, List.forall_mem_cons.mpr ⟨mc_222, List.forall_mem_cons.mpr ⟨mc_221, List.forall_mem_cons.mpr ⟨mc_220, List.forall_mem_cons.mpr ⟨mc_219, fun _ h => absurd h List.not_mem_nil⟩⟩⟩⟩⟩⟩⟩⟩⟩⟩⟩⟩⟩⟩⟩⟩⟩⟩⟩⟩⟩⟩⟩⟩
set_option maxRecDepth 100000 in
theorem mT_wsX10_run_r3 : ∀ w ∈ wsX10_run_r3, w ∈ lw_tbl := by
  unfold wsX10_run_r3
  exact List.forall_mem_cons.mpr ⟨mc_65, List.forall_mem_cons.mpr ⟨mc_218, List.forall_mem_cons.mpr ⟨mc_217, List.forall_mem_cons.mpr ⟨mc_216, List.forall_mem_cons.mpr ⟨mc_215, List.forall_mem_cons.mpr ⟨mc_214, List.forall_mem_cons.mpr ⟨mc_213, List.forall_mem_cons.mpr ⟨mc_212, List.forall_mem_cons.mpr ⟨mc_211, List.forall_mem_cons.mpr ⟨mc_382, List.forall_mem_cons.mpr ⟨mc_381, List.forall_mem_cons.mpr ⟨mc_380, List.forall_mem_cons.mpr ⟨mc_379, List.forall_mem_cons.mpr ⟨mc_43, List.forall_mem_cons.mpr ⟨mc_35, List.forall_mem_cons.mpr ⟨mc_249, List.forall_mem_cons.mpr ⟨mc_245, List.forall_mem_cons.mpr ⟨mc_244, List.forall_mem_cons.mpr ⟨mc_243, List.forall_mem_cons.mpr ⟨mc_242, List.forall_mem_cons.mpr ⟨mc_397, List.forall_mem_cons.mpr ⟨mc_396, List.forall_mem_cons.mpr ⟨mc_395, List.forall_mem_cons.mpr ⟨mc_44, fun _ h => absurd h List.not_mem_nil⟩⟩⟩⟩⟩⟩⟩⟩⟩⟩⟩⟩⟩⟩⟩⟩⟩⟩⟩⟩⟩⟩⟩⟩
set_option maxRecDepth 100000 in
theorem mT_wsX10_run_r4 : ∀ w ∈ wsX10_run_r4, w ∈ lw_tbl := by
  unfold wsX10_run_r4
  exact List.forall_mem_cons.mpr ⟨mc_394, List.forall_mem_cons.mpr ⟨mc_53, List.forall_mem_cons.mpr ⟨mc_393, List.forall_mem_cons.mpr ⟨mc_392, List.forall_mem_cons.mpr ⟨mc_391, List.forall_mem_cons.mpr ⟨mc_36, List.forall_mem_cons.mpr ⟨mc_390, List.forall_mem_cons.mpr ⟨mc_80, List.forall_mem_cons.mpr ⟨mc_79, List.forall_mem_cons.mpr ⟨mc_389, List.forall_mem_cons.mpr ⟨mc_388, List.forall_mem_cons.mpr ⟨mc_387, List.forall_mem_cons.mpr ⟨mc_386, List.forall_mem_cons.mpr ⟨mc_96, List.forall_mem_cons.mpr ⟨mc_57, List.forall_mem_cons.mpr ⟨mc_50, List.forall_mem_cons.mpr ⟨mc_385, List.forall_mem_cons.mpr ⟨mc_384, List.forall_mem_cons.mpr ⟨mc_383, List.forall_mem_cons.mpr ⟨mc_413, List.forall_mem_cons.mpr ⟨mc_51, List.forall_mem_cons.mpr ⟨mc_49, List.forall_mem_cons.mpr ⟨mc_56, List.forall_mem_cons.mpr ⟨mc_94, fun _ h => absurd h List.not_mem_nil⟩⟩⟩⟩⟩⟩⟩⟩⟩⟩⟩⟩⟩⟩⟩⟩⟩⟩⟩⟩⟩⟩⟩⟩
set_option maxRecDepth 100000 in
theorem mT_wsX10_run_r5 : ∀ w ∈ wsX10_run_r5, w ∈ lw_tbl := by
  unfold wsX10_run_r5
  exact List.forall_mem_cons.mpr ⟨mc_95, List.forall_mem_cons.mpr ⟨mc_412, List.forall_mem_cons.mpr ⟨mc_411, List.forall_mem_cons.mpr ⟨mc_410, List.forall_mem_cons.mpr ⟨mc_409, List.forall_mem_cons.mpr ⟨mc_52, List.forall_mem_cons.mpr ⟨mc_408, List.forall_mem_cons.mpr ⟨mc_407, List.forall_mem_cons.mpr ⟨mc_406, List.forall_mem_cons.mpr ⟨mc_405, List.forall_mem_cons.mpr ⟨mc_404, List.forall_mem_cons.mpr ⟨mc_403, List.forall_mem_cons.mpr ⟨mc_402, List.forall_mem_cons.mpr ⟨mc_401, List.forall_mem_cons.mpr ⟨mc_400, List.forall_mem_cons.mpr ⟨mc_399, List.forall_mem_cons.mpr ⟨mc_398, List.forall_mem_cons.mpr ⟨mc_240, List.forall_mem_cons.mpr ⟨mc_239, List.forall_mem_cons.mpr ⟨mc_238, List.forall_mem_cons.mpr ⟨mc_63, List.forall_mem_cons.mpr ⟨mc_237, List.forall_mem_cons.mpr ⟨mc_236, List.forall_mem_cons.mpr ⟨mc_235, fun _ h => absurd h List.not_mem_nil⟩⟩⟩⟩⟩⟩⟩⟩⟩⟩⟩⟩⟩⟩⟩⟩⟩⟩⟩⟩⟩⟩⟩⟩
set_option maxRecDepth 100000 in
theorem mT_wsX10_run_r6 : ∀ w ∈ wsX10_run_r6, w ∈ lw_tbl := by
  unfold wsX10_run_r6
  exact List.forall_mem_cons.mpr ⟨mc_234, List.forall_mem_cons.mpr ⟨mc_418, List.forall_mem_cons.mpr ⟨mc_417, List.forall_mem_cons.mpr ⟨mc_416, List.forall_mem_cons.mpr ⟨mc_415, List.forall_mem_cons.mpr ⟨mc_414, List.forall_mem_cons.mpr ⟨mc_434, List.forall_mem_cons.mpr ⟨mc_433, List.forall_mem_cons.mpr ⟨mc_432, List.forall_mem_cons.mpr ⟨mc_431, List.forall_mem_cons.mpr ⟨mc_430, List.forall_mem_cons.mpr ⟨mc_429, List.forall_mem_cons.mpr ⟨mc_428, List.forall_mem_cons.mpr ⟨mc_427, List.forall_mem_cons.mpr ⟨mc_426, List.forall_mem_cons.mpr ⟨mc_425, List.forall_mem_cons.mpr ⟨mc_424, List.forall_mem_cons.mpr ⟨mc_423, List.forall_mem_cons.mpr ⟨mc_422, List.forall_mem_cons.mpr ⟨mc_421, List.forall_mem_cons.mpr ⟨mc_420, List.forall_mem_cons.mpr ⟨mc_419, List.forall_mem_cons.mpr ⟨mc_499, List.forall_mem_cons.mpr ⟨mc_498, fun _ h => absurd h List.not_mem_nil⟩⟩⟩⟩⟩⟩⟩⟩⟩⟩⟩⟩⟩⟩⟩⟩⟩⟩⟩⟩⟩⟩⟩⟩
set_option maxRecDepth 100000 in
theorem mT_wsX10_run_r7 : ∀ w ∈ wsX10_run_r7, w ∈ lw_tbl := by
  unfold wsX10_run_r7
  exact List.forall_mem_cons.mpr ⟨mc_497, List.forall_mem_cons.mpr ⟨mc_496, List.forall_mem_cons.mpr ⟨mc_495, List.forall_mem_cons.mpr ⟨mc_494, List.forall_mem_cons.mpr ⟨mc_493, List.forall_mem_cons.mpr ⟨mc_492, List.forall_mem_cons.mpr ⟨mc_491, List.forall_mem_cons.mpr ⟨mc_77, List.forall_mem_cons.mpr ⟨mc_75, List.forall_mem_cons.mpr ⟨mc_515, List.forall_mem_cons.mpr ⟨mc_514, List.forall_mem_cons.mpr ⟨mc_513, List.forall_mem_cons.mpr ⟨mc_512, List.forall_mem_cons.mpr ⟨mc_511, List.forall_mem_cons.mpr ⟨mc_510, List.forall_mem_cons.mpr ⟨mc_509, List.forall_mem_cons.mpr ⟨mc_508, List.forall_mem_cons.mpr ⟨mc_526, List.forall_mem_cons.mpr ⟨mc_525, List.forall_mem_cons.mpr ⟨mc_524, List.forall_mem_cons.mpr ⟨mc_523, List.forall_mem_cons.mpr ⟨mc_522, List.forall_mem_cons.mpr ⟨mc_521, List.forall_mem_cons.mpr ⟨mc_520, fun _ h => absurd h List.not_mem_nil⟩⟩⟩⟩⟩⟩⟩⟩⟩⟩⟩⟩⟩⟩⟩⟩⟩⟩⟩⟩⟩⟩⟩⟩
set_option maxRecDepth 100000 in
theorem mT_wsX10_run_r8 : ∀ w ∈ wsX10_run_r8, w ∈ lw_tbl := by
  unfold wsX10_run_r8
  exact List.forall_mem_cons.mpr ⟨mc_519, List.forall_mem_cons.mpr ⟨mc_518, List.forall_mem_cons.mpr ⟨mc_517, List.forall_mem_cons.mpr ⟨mc_516, List.forall_mem_cons.mpr ⟨mc_527, List.forall_mem_cons.mpr ⟨mc_530, List.forall_mem_cons.mpr ⟨mc_529, List.forall_mem_cons.mpr ⟨mc_528, List.forall_mem_cons.mpr ⟨mc_266, List.forall_mem_cons.mpr ⟨mc_265, List.forall_mem_cons.mpr ⟨mc_264, List.forall_mem_cons.mpr ⟨mc_263, List.forall_mem_cons.mpr ⟨mc_540, List.forall_mem_cons.mpr ⟨mc_539, List.forall_mem_cons.mpr ⟨mc_538, List.forall_mem_cons.mpr ⟨mc_537, List.forall_mem_cons.mpr ⟨mc_536, List.forall_mem_cons.mpr ⟨mc_535, List.forall_mem_cons.mpr ⟨mc_534, List.forall_mem_cons.mpr ⟨mc_533, List.forall_mem_cons.mpr ⟨mc_532, List.forall_mem_cons.mpr ⟨mc_76, List.forall_mem_cons.mpr ⟨mc_74, List.forall_mem_cons.mpr ⟨mc_531, fun _ h => absurd h List.not_mem_nil⟩⟩⟩⟩⟩⟩⟩⟩⟩⟩⟩⟩⟩⟩⟩⟩⟩⟩⟩⟩⟩⟩⟩⟩
set_option maxRecDepth 100000 in
theorem mT_wsX10_run_r9 : ∀ w ∈ wsX10_run_r9, w ∈ lw_tbl := by
  unfold wsX10_run_r9
  exact List.forall_mem_cons.mpr ⟨mc_247, List.forall_mem_cons.mpr ⟨mc_281, List.forall_mem_cons.mpr ⟨mc_280, List.forall_mem_cons.mpr ⟨mc_279, List.forall_mem_cons.mpr ⟨mc_278, List.forall_mem_cons.mpr ⟨mc_277, List.forall_mem_cons.mpr ⟨mc_276, List.forall_mem_cons.mpr ⟨mc_275, List.forall_mem_cons.mpr ⟨mc_274, List.forall_mem_cons.mpr ⟨mc_273, List.forall_mem_cons.mpr ⟨mc_272, List.forall_mem_cons.mpr ⟨mc_271, List.forall_mem_cons.mpr ⟨mc_246, List.forall_mem_cons.mpr ⟨mc_270, List.forall_mem_cons.mpr ⟨mc_269, List.forall_mem_cons.mpr ⟨mc_268, List.forall_mem_cons.mpr ⟨mc_267, List.forall_mem_cons.mpr ⟨mc_210, List.forall_mem_cons.mpr ⟨mc_209, List.forall_mem_cons.mpr ⟨mc_208, List.forall_mem_cons.mpr ⟨mc_207, List.forall_mem_cons.mpr ⟨mc_241, List.forall_mem_cons.mpr ⟨mc_233, List.forall_mem_cons.mpr ⟨mc_232, fun _ h => absurd h List.not_mem_nil⟩⟩⟩⟩⟩⟩⟩⟩⟩⟩⟩⟩⟩⟩⟩⟩⟩⟩⟩⟩⟩⟩⟩⟩
set_option maxRecDepth 100000 in
theorem mT_wsX10_run_r10 : ∀ w ∈ wsX10_run_r10, w ∈ lw_tbl := by
  unfold wsX10_run_r10
  exact List.forall_mem_cons.mpr ⟨mc_231, List.forall_mem_cons.mpr ⟨mc_230, List.forall_mem_cons.mpr ⟨mc_229, List.forall_mem_cons.mpr ⟨mc_228, List.forall_mem_cons.mpr ⟨mc_227, List.forall_mem_cons.mpr ⟨mc_40, List.forall_mem_cons.mpr ⟨mc_226, List.forall_mem_cons.mpr ⟨mc_86, List.forall_mem_cons.mpr ⟨mc_85, List.forall_mem_cons.mpr ⟨mc_84, List.forall_mem_cons.mpr ⟨mc_262, List.forall_mem_cons.mpr ⟨mc_261, List.forall_mem_cons.mpr ⟨mc_260, List.forall_mem_cons.mpr ⟨mc_259, List.forall_mem_cons.mpr ⟨mc_78, List.forall_mem_cons.mpr ⟨mc_258, List.forall_mem_cons.mpr ⟨mc_257, List.forall_mem_cons.mpr ⟨mc_256, List.forall_mem_cons.mpr ⟨mc_255, List.forall_mem_cons.mpr ⟨mc_254, List.forall_mem_cons.mpr ⟨mc_253, List.forall_mem_cons.mpr ⟨mc_252, List.forall_mem_cons.mpr ⟨mc_251, List.forall_mem_cons.mpr ⟨mc_250, fun _ h => absurd h List.not_mem_nil⟩⟩⟩⟩⟩⟩⟩⟩⟩⟩⟩⟩⟩⟩⟩⟩⟩⟩⟩⟩⟩⟩⟩⟩
set_option maxRecDepth 100000 in
theorem mT_wsX10_run_r11 : ∀ w ∈ wsX10_run_r11, w ∈ lw_tbl := by
  unfold wsX10_run_r11
  exact List.forall_mem_cons.mpr ⟨mc_248, List.forall_mem_cons.mpr ⟨mc_578, List.forall_mem_cons.mpr ⟨mc_577, List.forall_mem_cons.mpr ⟨mc_576, List.forall_mem_cons.mpr ⟨mc_575, List.forall_mem_cons.mpr ⟨mc_574, List.forall_mem_cons.mpr ⟨mc_573, List.forall_mem_cons.mpr ⟨mc_572, List.forall_mem_cons.mpr ⟨mc_571, List.forall_mem_cons.mpr ⟨mc_570, List.forall_mem_cons.mpr ⟨mc_569, List.forall_mem_cons.mpr ⟨mc_579, List.forall_mem_cons.mpr ⟨mc_600, List.forall_mem_cons.mpr ⟨mc_599, List.forall_mem_cons.mpr ⟨mc_598, List.forall_mem_cons.mpr ⟨mc_597, List.forall_mem_cons.mpr ⟨mc_596, List.forall_mem_cons.mpr ⟨mc_595, List.forall_mem_cons.mpr ⟨mc_594, List.forall_mem_cons.mpr ⟨mc_593, List.forall_mem_cons.mpr ⟨mc_592, List.forall_mem_cons.mpr ⟨mc_591, List.forall_mem_cons.mpr ⟨mc_590, List.forall_mem_cons.mpr ⟨mc_589, fun _ h => absurd h List.not_mem_nil⟩⟩⟩⟩⟩⟩⟩⟩⟩⟩⟩⟩⟩⟩⟩⟩⟩⟩⟩⟩⟩⟩⟩⟩
set_option maxRecDepth 100000 in
theorem mT_wsX10_run_r12 : ∀ w ∈ wsX10_run_r12, w ∈ lw_tbl := by
  unfold wsX10_run_r12
  exact List.forall_mem_cons.mpr ⟨mc_588, List.forall_mem_cons.mpr ⟨mc_619, List.forall_mem_cons.mpr ⟨mc_618, List.forall_mem_cons.mpr ⟨mc_617, List.forall_mem_cons.mpr ⟨mc_616, List.forall_mem_cons.mpr ⟨mc_615, List.forall_mem_cons.mpr ⟨mc_614, List.forall_mem_cons.mpr ⟨mc_613, List.forall_mem_cons.mpr ⟨mc_612, List.forall_mem_cons.mpr ⟨mc_611, List.forall_mem_cons.mpr ⟨mc_610, List.forall_mem_cons.mpr ⟨mc_609, List.forall_mem_cons.mpr ⟨mc_608, List.forall_mem_cons.mpr ⟨mc_607, List.forall_mem_cons.mpr ⟨mc_606, List.forall_mem_cons.mpr ⟨mc_605, List.forall_mem_cons.mpr ⟨mc_604, List.forall_mem_cons.mpr ⟨mc_603, List.forall_mem_cons.mpr ⟨mc_602, List.forall_mem_cons.mpr ⟨mc_601, List.forall_mem_cons.mpr ⟨mc_622, List.forall_mem_cons.mpr ⟨mc_621, List.forall_mem_cons.mpr ⟨mc_620, List.forall_mem_cons.mpr ⟨mc_626, fun _ h => absurd h List.not_mem_nil⟩⟩⟩⟩⟩⟩⟩⟩⟩⟩⟩⟩⟩⟩⟩⟩⟩⟩⟩⟩⟩⟩⟩⟩
set_option maxRecDepth 100000 in
theorem mT_wsX10_run_r13 : ∀ w ∈ wsX10_run_r13, w ∈ lw_tbl := by
  unfold wsX10_run_r13
  exact List.forall_mem_cons.mpr ⟨mc_625, List.forall_mem_cons.mpr ⟨mc_624, List.forall_mem_cons.mpr ⟨mc_623, List.forall_mem_cons.mpr ⟨mc_72, List.forall_mem_cons.mpr ⟨mc_641, List.forall_mem_cons.mpr ⟨mc_640, List.forall_mem_cons.mpr ⟨mc_639, List.forall_mem_cons.mpr ⟨mc_638, List.forall_mem_cons.mpr ⟨mc_25, List.forall_mem_cons.mpr ⟨mc_637, List.forall_mem_cons.mpr ⟨mc_636, List.forall_mem_cons.mpr ⟨mc_635, List.forall_mem_cons.mpr ⟨mc_634, List.forall_mem_cons.mpr ⟨mc_633, List.forall_mem_cons.mpr ⟨mc_632, List.forall_mem_cons.mpr ⟨mc_631, List.forall_mem_cons.mpr ⟨mc_630, List.forall_mem_cons.mpr ⟨mc_629, List.forall_mem_cons.mpr ⟨mc_628, List.forall_mem_cons.mpr ⟨mc_627, List.forall_mem_cons.mpr ⟨mc_655, List.forall_mem_cons.mpr ⟨mc_654, List.forall_mem_cons.mpr ⟨mc_653, List.forall_mem_cons.mpr ⟨mc_652, fun _ h => absurd h List.not_mem_nil⟩⟩⟩⟩⟩⟩⟩⟩⟩⟩⟩⟩⟩⟩⟩⟩⟩⟩⟩⟩⟩⟩⟩⟩
set_option maxRecDepth 100000 in
theorem mT_wsX10_run : ∀ w ∈ wsX10_run, w ∈ lw_tbl := by
  unfold wsX10_run
  exact List.forall_mem_cons.mpr ⟨mc_1116, List.forall_mem_append.mpr ⟨List.forall_mem_append.mpr ⟨List.forall_mem_append.mpr ⟨List.forall_mem_append.mpr ⟨List.forall_mem_append.mpr ⟨List.forall_mem_append.mpr ⟨List.forall_mem_append.mpr ⟨List.forall_mem_append.mpr ⟨mT_wsX10_run_r1, List.forall_mem_append.mpr ⟨mT_wsX10_run_r2, List.forall_mem_append.mpr ⟨mT_wsX10_run_r3, List.forall_mem_append.mpr ⟨mT_wsX10_run_r4, List.forall_mem_append.mpr ⟨mT_wsX10_run_r5, List.forall_mem_append.mpr ⟨mT_wsX10_run_r6, List.forall_mem_append.mpr ⟨mT_wsX10_run_r7, List.forall_mem_append.mpr ⟨mT_wsX10_run_r8, List.forall_mem_append.mpr ⟨mT_wsX10_run_r9, List.forall_mem_append.mpr ⟨mT_wsX10_run_r10, List.forall_mem_append.mpr ⟨mT_wsX10_run_r11, List.forall_mem_append.mpr ⟨mT_wsX10_run_r12, mT_wsX10_run_r13⟩⟩⟩⟩⟩⟩⟩⟩⟩⟩⟩⟩, inX10⟩, inX9⟩, inX6⟩, inX5⟩, inX2⟩, inX0⟩, inX3⟩⟩
theorem mc_1126 : Cond.selects RX10 yX10_run yX10_run ∈ lw_tbl := mt_4 _ (List.mem_of_getElem? (i := 227) rfl)
theorem mc_1127 : Cond.instanceMethod yX10_run ∈ lw_tbl := mt_4 _ (List.mem_of_getElem? (i := 226) rfl)
theorem mc_1128 : Cond.methodLink RL 76 yX10_run ∈ lw_tbl := mt_4 _ (List.mem_of_getElem? (i := 225) rfl)
set_option maxRecDepth 100000 in
theorem gT_X10_run : GoodIn lw_tbl (wsV RL 76 RX10 yX10_run wsX10_run) := goodIn_sub (List.forall_mem_append.mpr ⟨List.forall_mem_cons.mpr ⟨mc_1128, List.forall_mem_cons.mpr ⟨mc_1127, List.forall_mem_cons.mpr ⟨mc_1126, List.forall_mem_cons.mpr ⟨mc_139, fun _ h => absurd h List.not_mem_nil⟩⟩⟩⟩, mT_wsX10_run⟩) (by decide +kernel)
theorem mc_1129 : Cond.code yX11_run cX11_run 4 (some .int) ∈ lw_tbl := mt_7 _ (List.mem_of_getElem? (i := 191) rfl)
theorem mc_1130 : Cond.methodLink RX11 353 yX11_act ∈ lw_tbl := mt_7 _ (List.mem_of_getElem? (i := 196) rfl)
theorem mc_1131 : Cond.code yX11_runsLine cX11_runsLine 5 (some .boolean) ∈ lw_tbl := mt_7 _ (List.mem_of_getElem? (i := 195) rfl)
theorem mc_1132 : Cond.selects RX11 yX11_runsLine yX11_runsLine ∈ lw_tbl := List.mem_append_left _ (List.mem_map.mpr ⟨(yX11_runsLine, 28), List.mem_of_getElem? (i := 107) rfl, rfl⟩)
theorem mc_1133 : Cond.instanceMethod yX11_runsLine ∈ lw_tbl := mt_7 _ (List.mem_of_getElem? (i := 194) rfl)
theorem mc_1134 : Cond.methodLink RX11 374 yX11_runsLine ∈ lw_tbl := mt_7 _ (List.mem_of_getElem? (i := 192) rfl)
set_option maxRecDepth 100000 in
theorem mT_wsX11_run_r1 : ∀ w ∈ wsX11_run_r1, w ∈ lw_tbl := by
  unfold wsX11_run_r1
  exact List.forall_mem_cons.mpr ⟨mc_184, List.forall_mem_cons.mpr ⟨mc_151, List.forall_mem_cons.mpr ⟨mc_1069, List.forall_mem_cons.mpr ⟨mc_183, List.forall_mem_cons.mpr ⟨mc_182, List.forall_mem_cons.mpr ⟨mc_181, List.forall_mem_cons.mpr ⟨mc_155, List.forall_mem_cons.mpr ⟨mc_180, List.forall_mem_cons.mpr ⟨mc_179, List.forall_mem_cons.mpr ⟨mc_178, List.forall_mem_cons.mpr ⟨mc_177, List.forall_mem_cons.mpr ⟨mc_176, List.forall_mem_cons.mpr ⟨mc_1134, List.forall_mem_cons.mpr ⟨mc_1133, List.forall_mem_cons.mpr ⟨mc_1132, List.forall_mem_cons.mpr ⟨mc_1131, List.forall_mem_cons.mpr ⟨mc_142, List.forall_mem_cons.mpr ⟨mc_1130, List.forall_mem_cons.mpr ⟨mc_376, List.forall_mem_cons.mpr ⟨mc_375, List.forall_mem_cons.mpr ⟨mc_285, List.forall_mem_cons.mpr ⟨mc_298, List.forall_mem_cons.mpr ⟨mc_297, List.forall_mem_cons.mpr ⟨mc_296, fun _ h => absurd h List.not_mem_nil⟩⟩⟩⟩⟩⟩⟩⟩⟩⟩⟩⟩⟩⟩⟩⟩⟩⟩⟩⟩⟩⟩⟩⟩
set_option maxRecDepth 100000 in
theorem mT_wsX11_run_r2 : ∀ w ∈ wsX11_run_r2, w ∈ lw_tbl := by
  unfold wsX11_run_r2
  exact List.forall_mem_cons.mpr ⟨mc_295, List.forall_mem_cons.mpr ⟨mc_294, List.forall_mem_cons.mpr ⟨mc_293, List.forall_mem_cons.mpr ⟨mc_292, List.forall_mem_cons.mpr ⟨mc_291, List.forall_mem_cons.mpr ⟨mc_290, List.forall_mem_cons.mpr ⟨mc_289, List.forall_mem_cons.mpr ⟨mc_288, List.forall_mem_cons.mpr ⟨mc_287, List.forall_mem_cons.mpr ⟨mc_286, List.forall_mem_cons.mpr ⟨mc_322, List.forall_mem_cons.mpr ⟨mc_321, List.forall_mem_cons.mpr ⟨mc_320, List.forall_mem_cons.mpr ⟨mc_319, List.forall_mem_cons.mpr ⟨mc_318, List.forall_mem_cons.mpr ⟨mc_317, List.forall_mem_cons.mpr ⟨mc_316, List.forall_mem_cons.mpr ⟨mc_315, List.forall_mem_cons.mpr ⟨mc_314, List.forall_mem_cons.mpr ⟨mc_313, List.forall_mem_cons.mpr ⟨mc_312, List.forall_mem_cons.mpr ⟨mc_311, List.forall_mem_cons.mpr ⟨mc_310, List.forall_mem_cons.mpr ⟨mc_309, fun _ h => absurd h List.not_mem_nil⟩⟩⟩⟩⟩⟩⟩⟩⟩⟩⟩⟩⟩⟩⟩⟩⟩⟩⟩⟩⟩⟩⟩⟩
set_option maxRecDepth 100000 in
theorem mT_wsX11_run_r3 : ∀ w ∈ wsX11_run_r3, w ∈ lw_tbl := by
  unfold wsX11_run_r3
  exact List.forall_mem_cons.mpr ⟨mc_308, List.forall_mem_cons.mpr ⟨mc_307, List.forall_mem_cons.mpr ⟨mc_306, List.forall_mem_cons.mpr ⟨mc_305, List.forall_mem_cons.mpr ⟨mc_304, List.forall_mem_cons.mpr ⟨mc_303, List.forall_mem_cons.mpr ⟨mc_302, List.forall_mem_cons.mpr ⟨mc_301, List.forall_mem_cons.mpr ⟨mc_300, List.forall_mem_cons.mpr ⟨mc_299, List.forall_mem_cons.mpr ⟨mc_346, List.forall_mem_cons.mpr ⟨mc_345, List.forall_mem_cons.mpr ⟨mc_344, List.forall_mem_cons.mpr ⟨mc_343, List.forall_mem_cons.mpr ⟨mc_342, List.forall_mem_cons.mpr ⟨mc_341, List.forall_mem_cons.mpr ⟨mc_340, List.forall_mem_cons.mpr ⟨mc_339, List.forall_mem_cons.mpr ⟨mc_338, List.forall_mem_cons.mpr ⟨mc_337, List.forall_mem_cons.mpr ⟨mc_336, List.forall_mem_cons.mpr ⟨mc_335, List.forall_mem_cons.mpr ⟨mc_334, List.forall_mem_cons.mpr ⟨mc_333, fun _ h => absurd h List.not_mem_nil⟩⟩⟩⟩⟩⟩⟩⟩⟩⟩⟩⟩⟩⟩⟩⟩⟩⟩⟩⟩⟩⟩⟩⟩
set_option maxRecDepth 100000 in
theorem mT_wsX11_run_r4 : ∀ w ∈ wsX11_run_r4, w ∈ lw_tbl := by
  unfold wsX11_run_r4
  exact List.forall_mem_cons.mpr ⟨mc_332, List.forall_mem_cons.mpr ⟨mc_331, List.forall_mem_cons.mpr ⟨mc_330, List.forall_mem_cons.mpr ⟨mc_329, List.forall_mem_cons.mpr ⟨mc_328, List.forall_mem_cons.mpr ⟨mc_327, List.forall_mem_cons.mpr ⟨mc_326, List.forall_mem_cons.mpr ⟨mc_325, List.forall_mem_cons.mpr ⟨mc_324, List.forall_mem_cons.mpr ⟨mc_323, List.forall_mem_cons.mpr ⟨mc_370, List.forall_mem_cons.mpr ⟨mc_369, List.forall_mem_cons.mpr ⟨mc_368, List.forall_mem_cons.mpr ⟨mc_367, List.forall_mem_cons.mpr ⟨mc_366, List.forall_mem_cons.mpr ⟨mc_365, List.forall_mem_cons.mpr ⟨mc_364, List.forall_mem_cons.mpr ⟨mc_363, List.forall_mem_cons.mpr ⟨mc_362, List.forall_mem_cons.mpr ⟨mc_361, List.forall_mem_cons.mpr ⟨mc_360, List.forall_mem_cons.mpr ⟨mc_359, List.forall_mem_cons.mpr ⟨mc_358, List.forall_mem_cons.mpr ⟨mc_357, fun _ h => absurd h List.not_mem_nil⟩⟩⟩⟩⟩⟩⟩⟩⟩⟩⟩⟩⟩⟩⟩⟩⟩⟩⟩⟩⟩⟩⟩⟩
theorem mc_1135 : Cond.methodLink RX11 356 yX11_write ∈ lw_tbl := mt_7 _ (List.mem_of_getElem? (i := 197) rfl)
set_option maxRecDepth 100000 in
theorem mT_wsX11_run_r5 : ∀ w ∈ wsX11_run_r5, w ∈ lw_tbl := by
  unfold wsX11_run_r5
  exact List.forall_mem_cons.mpr ⟨mc_356, List.forall_mem_cons.mpr ⟨mc_355, List.forall_mem_cons.mpr ⟨mc_354, List.forall_mem_cons.mpr ⟨mc_353, List.forall_mem_cons.mpr ⟨mc_352, List.forall_mem_cons.mpr ⟨mc_351, List.forall_mem_cons.mpr ⟨mc_350, List.forall_mem_cons.mpr ⟨mc_349, List.forall_mem_cons.mpr ⟨mc_348, List.forall_mem_cons.mpr ⟨mc_347, List.forall_mem_cons.mpr ⟨mc_374, List.forall_mem_cons.mpr ⟨mc_373, List.forall_mem_cons.mpr ⟨mc_372, List.forall_mem_cons.mpr ⟨mc_371, List.forall_mem_cons.mpr ⟨mc_1135, List.forall_mem_cons.mpr ⟨mc_480, List.forall_mem_cons.mpr ⟨mc_479, List.forall_mem_cons.mpr ⟨mc_438, List.forall_mem_cons.mpr ⟨mc_455, List.forall_mem_cons.mpr ⟨mc_454, List.forall_mem_cons.mpr ⟨mc_453, List.forall_mem_cons.mpr ⟨mc_452, List.forall_mem_cons.mpr ⟨mc_451, List.forall_mem_cons.mpr ⟨mc_450, fun _ h => absurd h List.not_mem_nil⟩⟩⟩⟩⟩⟩⟩⟩⟩⟩⟩⟩⟩⟩⟩⟩⟩⟩⟩⟩⟩⟩⟩⟩
set_option maxRecDepth 100000 in
theorem mT_wsX11_run_r6 : ∀ w ∈ wsX11_run_r6, w ∈ lw_tbl := by
  unfold wsX11_run_r6
  exact List.forall_mem_cons.mpr ⟨mc_449, List.forall_mem_cons.mpr ⟨mc_448, List.forall_mem_cons.mpr ⟨mc_447, List.forall_mem_cons.mpr ⟨mc_446, List.forall_mem_cons.mpr ⟨mc_445, List.forall_mem_cons.mpr ⟨mc_444, List.forall_mem_cons.mpr ⟨mc_443, List.forall_mem_cons.mpr ⟨mc_442, List.forall_mem_cons.mpr ⟨mc_441, List.forall_mem_cons.mpr ⟨mc_440, List.forall_mem_cons.mpr ⟨mc_439, List.forall_mem_cons.mpr ⟨mc_470, List.forall_mem_cons.mpr ⟨mc_469, List.forall_mem_cons.mpr ⟨mc_468, List.forall_mem_cons.mpr ⟨mc_467, List.forall_mem_cons.mpr ⟨mc_466, List.forall_mem_cons.mpr ⟨mc_465, List.forall_mem_cons.mpr ⟨mc_464, List.forall_mem_cons.mpr ⟨mc_175, List.forall_mem_cons.mpr ⟨mc_174, List.forall_mem_cons.mpr ⟨mc_173, List.forall_mem_cons.mpr ⟨mc_172, List.forall_mem_cons.mpr ⟨mc_171, List.forall_mem_cons.mpr ⟨mc_170, fun _ h => absurd h List.not_mem_nil⟩⟩⟩⟩⟩⟩⟩⟩⟩⟩⟩⟩⟩⟩⟩⟩⟩⟩⟩⟩⟩⟩⟩⟩
theorem mc_1136 : Cond.methodLink RX11 362 yX11_save ∈ lw_tbl := mt_7 _ (List.mem_of_getElem? (i := 199) rfl)
theorem mc_1137 : Cond.methodLink RX11 359 yX11_add ∈ lw_tbl := mt_7 _ (List.mem_of_getElem? (i := 198) rfl)
set_option maxRecDepth 100000 in
theorem mT_wsX11_run_r7 : ∀ w ∈ wsX11_run_r7, w ∈ lw_tbl := by
  unfold wsX11_run_r7
  exact List.forall_mem_cons.mpr ⟨mc_169, List.forall_mem_cons.mpr ⟨mc_168, List.forall_mem_cons.mpr ⟨mc_463, List.forall_mem_cons.mpr ⟨mc_462, List.forall_mem_cons.mpr ⟨mc_461, List.forall_mem_cons.mpr ⟨mc_460, List.forall_mem_cons.mpr ⟨mc_459, List.forall_mem_cons.mpr ⟨mc_458, List.forall_mem_cons.mpr ⟨mc_457, List.forall_mem_cons.mpr ⟨mc_456, List.forall_mem_cons.mpr ⟨mc_478, List.forall_mem_cons.mpr ⟨mc_477, List.forall_mem_cons.mpr ⟨mc_476, List.forall_mem_cons.mpr ⟨mc_475, List.forall_mem_cons.mpr ⟨mc_474, List.forall_mem_cons.mpr ⟨mc_473, List.forall_mem_cons.mpr ⟨mc_472, List.forall_mem_cons.mpr ⟨mc_471, List.forall_mem_cons.mpr ⟨mc_1137, List.forall_mem_cons.mpr ⟨mc_488, List.forall_mem_cons.mpr ⟨mc_487, List.forall_mem_cons.mpr ⟨mc_486, List.forall_mem_cons.mpr ⟨mc_1136, List.forall_mem_cons.mpr ⟨mc_505, fun _ h => absurd h List.not_mem_nil⟩⟩⟩⟩⟩⟩⟩⟩⟩⟩⟩⟩⟩⟩⟩⟩⟩⟩⟩⟩⟩⟩⟩⟩
theorem mc_1138 : Cond.methodLink RX11 365 yX11_back ∈ lw_tbl := mt_7 _ (List.mem_of_getElem? (i := 200) rfl)
set_option maxRecDepth 100000 in
theorem mT_wsX11_run_r8 : ∀ w ∈ wsX11_run_r8, w ∈ lw_tbl := by
  unfold wsX11_run_r8
  exact List.forall_mem_cons.mpr ⟨mc_504, List.forall_mem_cons.mpr ⟨mc_503, List.forall_mem_cons.mpr ⟨mc_1138, List.forall_mem_cons.mpr ⟨mc_566, List.forall_mem_cons.mpr ⟨mc_565, List.forall_mem_cons.mpr ⟨mc_544, List.forall_mem_cons.mpr ⟨mc_545, List.forall_mem_cons.mpr ⟨mc_556, List.forall_mem_cons.mpr ⟨mc_555, List.forall_mem_cons.mpr ⟨mc_554, List.forall_mem_cons.mpr ⟨mc_553, List.forall_mem_cons.mpr ⟨mc_552, List.forall_mem_cons.mpr ⟨mc_551, List.forall_mem_cons.mpr ⟨mc_550, List.forall_mem_cons.mpr ⟨mc_549, List.forall_mem_cons.mpr ⟨mc_548, List.forall_mem_cons.mpr ⟨mc_547, List.forall_mem_cons.mpr ⟨mc_546, List.forall_mem_cons.mpr ⟨mc_560, List.forall_mem_cons.mpr ⟨mc_559, List.forall_mem_cons.mpr ⟨mc_558, List.forall_mem_cons.mpr ⟨mc_557, List.forall_mem_cons.mpr ⟨mc_564, List.forall_mem_cons.mpr ⟨mc_563, fun _ h => absurd h List.not_mem_nil⟩⟩⟩⟩⟩⟩⟩⟩⟩⟩⟩⟩⟩⟩⟩⟩⟩⟩⟩⟩⟩⟩⟩⟩
theorem mc_1139 : Cond.methodLink RX11 371 yX11_keep ∈ lw_tbl := mt_7 _ (List.mem_of_getElem? (i := 202) rfl)
theorem mc_1140 : Cond.methodLink RX11 368 yX11_roll ∈ lw_tbl := mt_7 _ (List.mem_of_getElem? (i := 201) rfl)
set_option maxRecDepth 100000 in
theorem mT_wsX11_run_r9 : ∀ w ∈ wsX11_run_r9, w ∈ lw_tbl := by
  unfold wsX11_run_r9
  exact List.forall_mem_cons.mpr ⟨mc_562, List.forall_mem_cons.mpr ⟨mc_561, List.forall_mem_cons.mpr ⟨mc_1140, List.forall_mem_cons.mpr ⟨mc_585, List.forall_mem_cons.mpr ⟨mc_584, List.forall_mem_cons.mpr ⟨mc_583, List.forall_mem_cons.mpr ⟨mc_1139, List.forall_mem_cons.mpr ⟨mc_739, List.forall_mem_cons.mpr ⟨mc_738, List.forall_mem_cons.mpr ⟨mc_685, List.forall_mem_cons.mpr ⟨mc_689, List.forall_mem_cons.mpr ⟨mc_688, List.forall_mem_cons.mpr ⟨mc_687, List.forall_mem_cons.mpr ⟨mc_686, List.forall_mem_cons.mpr ⟨mc_697, List.forall_mem_cons.mpr ⟨mc_696, List.forall_mem_cons.mpr ⟨mc_695, List.forall_mem_cons.mpr ⟨mc_694, List.forall_mem_cons.mpr ⟨mc_693, List.forall_mem_cons.mpr ⟨mc_692, List.forall_mem_cons.mpr ⟨mc_691, List.forall_mem_cons.mpr ⟨mc_690, List.forall_mem_cons.mpr ⟨mc_701, List.forall_mem_cons.mpr ⟨mc_700, fun _ h => absurd h List.not_mem_nil⟩⟩⟩⟩⟩⟩⟩⟩⟩⟩⟩⟩⟩⟩⟩⟩⟩⟩⟩⟩⟩⟩⟩⟩
set_option maxRecDepth 100000 in
theorem mT_wsX11_run_r10 : ∀ w ∈ wsX11_run_r10, w ∈ lw_tbl := by
  unfold wsX11_run_r10
  exact List.forall_mem_cons.mpr ⟨mc_699, List.forall_mem_cons.mpr ⟨mc_698, List.forall_mem_cons.mpr ⟨mc_709, List.forall_mem_cons.mpr ⟨mc_708, List.forall_mem_cons.mpr ⟨mc_707, List.forall_mem_cons.mpr ⟨mc_706, List.forall_mem_cons.mpr ⟨mc_705, List.forall_mem_cons.mpr ⟨mc_704, List.forall_mem_cons.mpr ⟨mc_703, List.forall_mem_cons.mpr ⟨mc_702, List.forall_mem_cons.mpr ⟨mc_733, List.forall_mem_cons.mpr ⟨mc_732, List.forall_mem_cons.mpr ⟨mc_731, List.forall_mem_cons.mpr ⟨mc_730, List.forall_mem_cons.mpr ⟨mc_729, List.forall_mem_cons.mpr ⟨mc_728, List.forall_mem_cons.mpr ⟨mc_727, List.forall_mem_cons.mpr ⟨mc_726, List.forall_mem_cons.mpr ⟨mc_725, List.forall_mem_cons.mpr ⟨mc_724, List.forall_mem_cons.mpr ⟨mc_723, List.forall_mem_cons.mpr ⟨mc_722, List.forall_mem_cons.mpr ⟨mc_721, List.forall_mem_cons.mpr ⟨mc_720, fun _ h => absurd h List.not_mem_nil⟩⟩⟩⟩⟩⟩⟩⟩⟩⟩⟩⟩⟩⟩⟩⟩⟩⟩⟩⟩⟩⟩⟩⟩
set_option maxRecDepth 100000 in
theorem mT_wsX11_run_r11 : ∀ w ∈ wsX11_run_r11, w ∈ lw_tbl := by
  unfold wsX11_run_r11
  exact List.forall_mem_cons.mpr ⟨mc_719, List.forall_mem_cons.mpr ⟨mc_718, List.forall_mem_cons.mpr ⟨mc_717, List.forall_mem_cons.mpr ⟨mc_716, List.forall_mem_cons.mpr ⟨mc_715, List.forall_mem_cons.mpr ⟨mc_714, List.forall_mem_cons.mpr ⟨mc_713, List.forall_mem_cons.mpr ⟨mc_712, List.forall_mem_cons.mpr ⟨mc_711, List.forall_mem_cons.mpr ⟨mc_710, List.forall_mem_cons.mpr ⟨mc_737, List.forall_mem_cons.mpr ⟨mc_736, List.forall_mem_cons.mpr ⟨mc_735, List.forall_mem_cons.mpr ⟨mc_734, fun _ h => absurd h List.not_mem_nil⟩⟩⟩⟩⟩⟩⟩⟩⟩⟩⟩⟩⟩⟩
set_option maxRecDepth 100000 in
theorem mT_wsX11_run : ∀ w ∈ wsX11_run, w ∈ lw_tbl := by
  unfold wsX11_run
  exact List.forall_mem_cons.mpr ⟨mc_1129, List.forall_mem_append.mpr ⟨List.forall_mem_append.mpr ⟨mT_wsX11_run_r1, List.forall_mem_append.mpr ⟨mT_wsX11_run_r2, List.forall_mem_append.mpr ⟨mT_wsX11_run_r3, List.forall_mem_append.mpr ⟨mT_wsX11_run_r4, List.forall_mem_append.mpr ⟨mT_wsX11_run_r5, List.forall_mem_append.mpr ⟨mT_wsX11_run_r6, List.forall_mem_append.mpr ⟨mT_wsX11_run_r7, List.forall_mem_append.mpr ⟨mT_wsX11_run_r8, List.forall_mem_append.mpr ⟨mT_wsX11_run_r9, List.forall_mem_append.mpr ⟨mT_wsX11_run_r10, mT_wsX11_run_r11⟩⟩⟩⟩⟩⟩⟩⟩⟩⟩, inX11⟩⟩
theorem mc_1141 : Cond.selects RX11 yX11_run yX11_run ∈ lw_tbl := mt_7 _ (List.mem_of_getElem? (i := 190) rfl)
theorem mc_1142 : Cond.instanceMethod yX11_run ∈ lw_tbl := mt_7 _ (List.mem_of_getElem? (i := 189) rfl)
theorem mc_1143 : Cond.methodLink RL 79 yX11_run ∈ lw_tbl := mt_7 _ (List.mem_of_getElem? (i := 188) rfl)
set_option maxRecDepth 100000 in
theorem gT_X11_run : GoodIn lw_tbl (wsV RL 79 RX11 yX11_run wsX11_run) := goodIn_sub (List.forall_mem_append.mpr ⟨List.forall_mem_cons.mpr ⟨mc_1143, List.forall_mem_cons.mpr ⟨mc_1142, List.forall_mem_cons.mpr ⟨mc_1141, List.forall_mem_cons.mpr ⟨mc_155, fun _ h => absurd h List.not_mem_nil⟩⟩⟩⟩, mT_wsX11_run⟩) (by decide +kernel)
theorem mc_1144 : Cond.code yX10_at cX10_at 3 (some .int) ∈ lw_tbl := mt_5 _ (List.mem_of_getElem? (i := 0) rfl)
theorem mc_1145 : Cond.methodLink RX10 153 yX3_byteNow ∈ lw_tbl := mt_5 _ (List.mem_of_getElem? (i := 1) rfl)
theorem mc_1146 : Cond.fieldLink RX10 169 "AheadStore$Claims" "added" "[I" ∈ lw_tbl := mt_1 _ (List.mem_of_getElem? (i := 151) rfl)
theorem mc_1147 : Cond.fieldLink RX10 164 "AheadStore$Claims" "wrote" "[I" ∈ lw_tbl := mt_1 _ (List.mem_of_getElem? (i := 149) rfl)
theorem mc_1148 : Cond.fieldLink RX10 160 "AheadStore$World" "claims" "LAheadStore$Claims;" ∈ lw_tbl := mt_1 _ (List.mem_of_getElem? (i := 233) rfl)
theorem mc_1149 : Cond.fieldLink RX10 156 "AheadStore$Pages" "disk" "[I" ∈ lw_tbl := mt_1 _ (List.mem_of_getElem? (i := 72) rfl)
set_option maxRecDepth 100000 in
theorem mT_wsX10_at : ∀ w ∈ wsX10_at, w ∈ lw_tbl := by
  unfold wsX10_at
  exact List.forall_mem_cons.mpr ⟨mc_1144, List.forall_mem_append.mpr ⟨List.forall_mem_append.mpr ⟨List.forall_mem_append.mpr ⟨List.forall_mem_append.mpr ⟨List.forall_mem_cons.mpr ⟨mc_18, List.forall_mem_cons.mpr ⟨mc_162, List.forall_mem_cons.mpr ⟨mc_1149, List.forall_mem_cons.mpr ⟨mc_1148, List.forall_mem_cons.mpr ⟨mc_1147, List.forall_mem_cons.mpr ⟨mc_1146, List.forall_mem_cons.mpr ⟨mc_1145, List.forall_mem_cons.mpr ⟨mc_416, List.forall_mem_cons.mpr ⟨mc_415, List.forall_mem_cons.mpr ⟨mc_44, List.forall_mem_cons.mpr ⟨mc_414, List.forall_mem_cons.mpr ⟨mc_57, List.forall_mem_cons.mpr ⟨mc_50, List.forall_mem_cons.mpr ⟨mc_412, List.forall_mem_cons.mpr ⟨mc_411, List.forall_mem_cons.mpr ⟨mc_410, List.forall_mem_cons.mpr ⟨mc_409, List.forall_mem_cons.mpr ⟨mc_52, List.forall_mem_cons.mpr ⟨mc_51, fun _ h => absurd h List.not_mem_nil⟩⟩⟩⟩⟩⟩⟩⟩⟩⟩⟩⟩⟩⟩⟩⟩⟩⟩⟩, inX10⟩, inX9⟩, inX3⟩, inX0⟩⟩
theorem mc_1150 : Cond.selects RX10 yX10_at yX10_at ∈ lw_tbl := mt_4 _ (List.mem_of_getElem? (i := 239) rfl)
theorem mc_1151 : Cond.instanceMethod yX10_at ∈ lw_tbl := mt_4 _ (List.mem_of_getElem? (i := 238) rfl)
theorem mc_1152 : Cond.methodLink RL 80 yX10_at ∈ lw_tbl := mt_4 _ (List.mem_of_getElem? (i := 237) rfl)
set_option maxRecDepth 100000 in
theorem gT_X10_at : GoodIn lw_tbl (wsV RL 80 RX10 yX10_at wsX10_at) := goodIn_sub (List.forall_mem_append.mpr ⟨List.forall_mem_cons.mpr ⟨mc_1152, List.forall_mem_cons.mpr ⟨mc_1151, List.forall_mem_cons.mpr ⟨mc_1150, List.forall_mem_cons.mpr ⟨mc_139, fun _ h => absurd h List.not_mem_nil⟩⟩⟩⟩, mT_wsX10_at⟩) (by decide +kernel)
theorem mc_1153 : Cond.code yX11_at cX11_at 3 (some .int) ∈ lw_tbl := mt_7 _ (List.mem_of_getElem? (i := 206) rfl)
theorem mc_1154 : Cond.code yX11_byteNow cX11_byteNow 3 (some .int) ∈ lw_tbl := mt_7 _ (List.mem_of_getElem? (i := 83) rfl)
theorem mc_1155 : Cond.selects RX11 yX11_byteNow yX11_byteNow ∈ lw_tbl := List.mem_append_left _ (List.mem_map.mpr ⟨(yX11_byteNow, 28), List.mem_of_getElem? (i := 89) rfl, rfl⟩)
theorem mc_1156 : Cond.instanceMethod yX11_byteNow ∈ lw_tbl := mt_7 _ (List.mem_of_getElem? (i := 82) rfl)
theorem mc_1157 : Cond.methodLink RX11 269 yX11_byteNow ∈ lw_tbl := mt_7 _ (List.mem_of_getElem? (i := 80) rfl)
set_option maxRecDepth 100000 in
theorem mT_wsX11_at : ∀ w ∈ wsX11_at, w ∈ lw_tbl := by
  unfold wsX11_at
  exact List.forall_mem_cons.mpr ⟨mc_1153, List.forall_mem_append.mpr ⟨List.forall_mem_cons.mpr ⟨mc_184, List.forall_mem_cons.mpr ⟨mc_151, List.forall_mem_cons.mpr ⟨mc_179, List.forall_mem_cons.mpr ⟨mc_178, List.forall_mem_cons.mpr ⟨mc_177, List.forall_mem_cons.mpr ⟨mc_155, List.forall_mem_cons.mpr ⟨mc_176, List.forall_mem_cons.mpr ⟨mc_1157, List.forall_mem_cons.mpr ⟨mc_1156, List.forall_mem_cons.mpr ⟨mc_1155, List.forall_mem_cons.mpr ⟨mc_1154, List.forall_mem_cons.mpr ⟨mc_467, List.forall_mem_cons.mpr ⟨mc_466, List.forall_mem_cons.mpr ⟨mc_465, List.forall_mem_cons.mpr ⟨mc_464, List.forall_mem_cons.mpr ⟨mc_175, List.forall_mem_cons.mpr ⟨mc_174, List.forall_mem_cons.mpr ⟨mc_173, List.forall_mem_cons.mpr ⟨mc_172, List.forall_mem_cons.mpr ⟨mc_171, List.forall_mem_cons.mpr ⟨mc_170, List.forall_mem_cons.mpr ⟨mc_169, List.forall_mem_cons.mpr ⟨mc_168, fun _ h => absurd h List.not_mem_nil⟩⟩⟩⟩⟩⟩⟩⟩⟩⟩⟩⟩⟩⟩⟩⟩⟩⟩⟩⟩⟩⟩⟩, inX11⟩⟩
theorem mc_1158 : Cond.selects RX11 yX11_at yX11_at ∈ lw_tbl := mt_7 _ (List.mem_of_getElem? (i := 205) rfl)
theorem mc_1159 : Cond.instanceMethod yX11_at ∈ lw_tbl := mt_7 _ (List.mem_of_getElem? (i := 204) rfl)
theorem mc_1160 : Cond.methodLink RL 83 yX11_at ∈ lw_tbl := mt_7 _ (List.mem_of_getElem? (i := 203) rfl)
set_option maxRecDepth 100000 in
theorem gT_X11_at : GoodIn lw_tbl (wsV RL 83 RX11 yX11_at wsX11_at) := goodIn_sub (List.forall_mem_append.mpr ⟨List.forall_mem_cons.mpr ⟨mc_1160, List.forall_mem_cons.mpr ⟨mc_1159, List.forall_mem_cons.mpr ⟨mc_1158, List.forall_mem_cons.mpr ⟨mc_155, fun _ h => absurd h List.not_mem_nil⟩⟩⟩⟩, mT_wsX11_at⟩) (by decide +kernel)
theorem mc_1161 : Cond.code yX10_page cX10_page 4 (some .int) ∈ lw_tbl := mt_5 _ (List.mem_of_getElem? (i := 5) rfl)
theorem mc_1162 : Cond.methodLink RX10 184 yX3_isLost ∈ lw_tbl := mt_5 _ (List.mem_of_getElem? (i := 7) rfl)
theorem mc_1163 : Cond.methodLink RX10 172 yX3_frameOf ∈ lw_tbl := mt_5 _ (List.mem_of_getElem? (i := 6) rfl)
theorem mc_1164 : Cond.fieldLink RX10 187 "AheadStore$Pages" "archiveStamps" "[I" ∈ lw_tbl := mt_1 _ (List.mem_of_getElem? (i := 77) rfl)
theorem mc_1165 : Cond.fieldLink RX10 181 "AheadStore$Pages" "recs" "[I" ∈ lw_tbl := mt_1 _ (List.mem_of_getElem? (i := 89) rfl)
theorem mc_1166 : Cond.fieldLink RX10 178 "AheadStore$Pages" "stamps" "[I" ∈ lw_tbl := mt_1 _ (List.mem_of_getElem? (i := 86) rfl)
theorem mc_1167 : Cond.fieldLink RX10 175 "AheadStore$Pages" "diskStamps" "[I" ∈ lw_tbl := mt_1 _ (List.mem_of_getElem? (i := 74) rfl)
set_option maxRecDepth 100000 in
theorem mT_wsX10_page : ∀ w ∈ wsX10_page, w ∈ lw_tbl := by
  unfold wsX10_page
  exact List.forall_mem_cons.mpr ⟨mc_1161, List.forall_mem_append.mpr ⟨List.forall_mem_append.mpr ⟨List.forall_mem_append.mpr ⟨List.forall_mem_cons.mpr ⟨mc_18, List.forall_mem_cons.mpr ⟨mc_162, List.forall_mem_cons.mpr ⟨mc_1167, List.forall_mem_cons.mpr ⟨mc_1166, List.forall_mem_cons.mpr ⟨mc_1165, List.forall_mem_cons.mpr ⟨mc_1164, List.forall_mem_cons.mpr ⟨mc_1163, List.forall_mem_cons.mpr ⟨mc_411, List.forall_mem_cons.mpr ⟨mc_410, List.forall_mem_cons.mpr ⟨mc_44, List.forall_mem_cons.mpr ⟨mc_409, List.forall_mem_cons.mpr ⟨mc_52, List.forall_mem_cons.mpr ⟨mc_51, List.forall_mem_cons.mpr ⟨mc_1162, List.forall_mem_cons.mpr ⟨mc_396, List.forall_mem_cons.mpr ⟨mc_395, List.forall_mem_cons.mpr ⟨mc_394, List.forall_mem_cons.mpr ⟨mc_53, fun _ h => absurd h List.not_mem_nil⟩⟩⟩⟩⟩⟩⟩⟩⟩⟩⟩⟩⟩⟩⟩⟩⟩⟩, inX10⟩, inX9⟩, inX3⟩⟩
theorem mc_1168 : Cond.selects RX10 yX10_page yX10_page ∈ lw_tbl := mt_5 _ (List.mem_of_getElem? (i := 4) rfl)
theorem mc_1169 : Cond.instanceMethod yX10_page ∈ lw_tbl := mt_5 _ (List.mem_of_getElem? (i := 3) rfl)
theorem mc_1170 : Cond.methodLink RL 84 yX10_page ∈ lw_tbl := mt_5 _ (List.mem_of_getElem? (i := 2) rfl)
set_option maxRecDepth 100000 in
theorem gT_X10_page : GoodIn lw_tbl (wsV RL 84 RX10 yX10_page wsX10_page) := goodIn_sub (List.forall_mem_append.mpr ⟨List.forall_mem_cons.mpr ⟨mc_1170, List.forall_mem_cons.mpr ⟨mc_1169, List.forall_mem_cons.mpr ⟨mc_1168, List.forall_mem_cons.mpr ⟨mc_139, fun _ h => absurd h List.not_mem_nil⟩⟩⟩⟩, mT_wsX10_page⟩) (by decide +kernel)
theorem mc_1171 : Cond.code yX11_page cX11_page 4 (some .int) ∈ lw_tbl := mt_7 _ (List.mem_of_getElem? (i := 210) rfl)
set_option maxRecDepth 100000 in
theorem mT_wsX11_page_r1 : ∀ w ∈ wsX11_page_r1, w ∈ lw_tbl := by
  unfold wsX11_page_r1
  exact List.forall_mem_cons.mpr ⟨mc_184, List.forall_mem_cons.mpr ⟨mc_151, List.forall_mem_cons.mpr ⟨mc_179, List.forall_mem_cons.mpr ⟨mc_178, List.forall_mem_cons.mpr ⟨mc_177, List.forall_mem_cons.mpr ⟨mc_155, List.forall_mem_cons.mpr ⟨mc_176, List.forall_mem_cons.mpr ⟨mc_467, List.forall_mem_cons.mpr ⟨mc_466, List.forall_mem_cons.mpr ⟨mc_465, List.forall_mem_cons.mpr ⟨mc_464, List.forall_mem_cons.mpr ⟨mc_175, List.forall_mem_cons.mpr ⟨mc_174, List.forall_mem_cons.mpr ⟨mc_173, List.forall_mem_cons.mpr ⟨mc_172, List.forall_mem_cons.mpr ⟨mc_171, List.forall_mem_cons.mpr ⟨mc_170, List.forall_mem_cons.mpr ⟨mc_169, List.forall_mem_cons.mpr ⟨mc_168, List.forall_mem_cons.mpr ⟨mc_455, List.forall_mem_cons.mpr ⟨mc_454, List.forall_mem_cons.mpr ⟨mc_453, List.forall_mem_cons.mpr ⟨mc_452, List.forall_mem_cons.mpr ⟨mc_451, fun _ h => absurd h List.not_mem_nil⟩⟩⟩⟩⟩⟩⟩⟩⟩⟩⟩⟩⟩⟩⟩⟩⟩⟩⟩⟩⟩⟩⟩⟩
set_option maxRecDepth 100000 in
theorem mT_wsX11_page_r2 : ∀ w ∈ wsX11_page_r2, w ∈ lw_tbl := by
  unfold wsX11_page_r2
  exact List.forall_mem_cons.mpr ⟨mc_450, List.forall_mem_cons.mpr ⟨mc_449, List.forall_mem_cons.mpr ⟨mc_448, fun _ h => absurd h List.not_mem_nil⟩⟩⟩
set_option maxRecDepth 100000 in
theorem mT_wsX11_page : ∀ w ∈ wsX11_page, w ∈ lw_tbl := by
  unfold wsX11_page
  exact List.forall_mem_cons.mpr ⟨mc_1171, List.forall_mem_append.mpr ⟨List.forall_mem_append.mpr ⟨mT_wsX11_page_r1, mT_wsX11_page_r2⟩, inX11⟩⟩
theorem mc_1172 : Cond.selects RX11 yX11_page yX11_page ∈ lw_tbl := mt_7 _ (List.mem_of_getElem? (i := 209) rfl)
theorem mc_1173 : Cond.instanceMethod yX11_page ∈ lw_tbl := mt_7 _ (List.mem_of_getElem? (i := 208) rfl)
theorem mc_1174 : Cond.methodLink RL 87 yX11_page ∈ lw_tbl := mt_7 _ (List.mem_of_getElem? (i := 207) rfl)
set_option maxRecDepth 100000 in
theorem gT_X11_page : GoodIn lw_tbl (wsV RL 87 RX11 yX11_page wsX11_page) := goodIn_sub (List.forall_mem_append.mpr ⟨List.forall_mem_cons.mpr ⟨mc_1174, List.forall_mem_cons.mpr ⟨mc_1173, List.forall_mem_cons.mpr ⟨mc_1172, List.forall_mem_cons.mpr ⟨mc_155, fun _ h => absurd h List.not_mem_nil⟩⟩⟩⟩, mT_wsX11_page⟩) (by decide +kernel)
theorem mc_1175 : Cond.code yX10_tx cX10_tx 3 (some .int) ∈ lw_tbl := mt_5 _ (List.mem_of_getElem? (i := 11) rfl)
theorem mc_1176 : Cond.methodLink RX9 201 yX2_undoCount ∈ lw_tbl := mt_5 _ (List.mem_of_getElem? (i := 17) rfl)
theorem mc_1177 : Cond.code yX9_cost cX9_cost 2 (some .int) ∈ lw_tbl := mt_5 _ (List.mem_of_getElem? (i := 16) rfl)
theorem mc_1178 : Cond.selects RX9 yX9_cost yX9_cost ∈ lw_tbl := mt_5 _ (List.mem_of_getElem? (i := 15) rfl)
theorem mc_1179 : Cond.instanceMethod yX9_cost ∈ lw_tbl := mt_5 _ (List.mem_of_getElem? (i := 14) rfl)
theorem mc_1180 : Cond.methodLink RX10 217 yX9_cost ∈ lw_tbl := mt_5 _ (List.mem_of_getElem? (i := 13) rfl)
theorem mc_1181 : Cond.methodLink RX10 190 yX10_isParty ∈ lw_tbl := mt_5 _ (List.mem_of_getElem? (i := 12) rfl)
theorem mc_1182 : Cond.fieldLink RX10 214 "AheadStore$Claims" "waits" "[I" ∈ lw_tbl := mt_1 _ (List.mem_of_getElem? (i := 154) rfl)
theorem mc_1183 : Cond.fieldLink RX10 211 "AheadStore$Claims" "topCount" "[I" ∈ lw_tbl := mt_1 _ (List.mem_of_getElem? (i := 160) rfl)
theorem mc_1184 : Cond.fieldLink RX10 208 "AheadStore$Claims" "saveCount" "[I" ∈ lw_tbl := mt_1 _ (List.mem_of_getElem? (i := 157) rfl)
theorem mc_1185 : Cond.fieldLink RX10 205 "AheadStore$Roster" "cursor" "[I" ∈ lw_tbl := mt_1 _ (List.mem_of_getElem? (i := 134) rfl)
theorem mc_1186 : Cond.fieldLink RX10 202 "AheadStore$Roster" "last" "[I" ∈ lw_tbl := mt_1 _ (List.mem_of_getElem? (i := 129) rfl)
theorem mc_1187 : Cond.fieldLink RX10 197 "AheadStore$Roster" "is" "[I" ∈ lw_tbl := mt_1 _ (List.mem_of_getElem? (i := 126) rfl)
theorem mc_1188 : Cond.fieldLink RX10 193 "AheadStore$World" "roster" "LAheadStore$Roster;" ∈ lw_tbl := mt_1 _ (List.mem_of_getElem? (i := 231) rfl)
set_option maxRecDepth 100000 in
theorem mT_wsX10_tx_r1 : ∀ w ∈ wsX10_tx_r1, w ∈ lw_tbl := by
  unfold wsX10_tx_r1
  exact List.forall_mem_cons.mpr ⟨mc_18, List.forall_mem_cons.mpr ⟨mc_1188, List.forall_mem_cons.mpr ⟨mc_1187, List.forall_mem_cons.mpr ⟨mc_1186, List.forall_mem_cons.mpr ⟨mc_1185, List.forall_mem_cons.mpr ⟨mc_1148, List.forall_mem_cons.mpr ⟨mc_1184, List.forall_mem_cons.mpr ⟨mc_1183, List.forall_mem_cons.mpr ⟨mc_1182, List.forall_mem_cons.mpr ⟨mc_1181, List.forall_mem_cons.mpr ⟨mc_201, List.forall_mem_cons.mpr ⟨mc_139, List.forall_mem_cons.mpr ⟨mc_200, List.forall_mem_cons.mpr ⟨mc_1180, List.forall_mem_cons.mpr ⟨mc_1179, List.forall_mem_cons.mpr ⟨mc_1178, List.forall_mem_cons.mpr ⟨mc_19, List.forall_mem_cons.mpr ⟨mc_1177, List.forall_mem_cons.mpr ⟨mc_39, List.forall_mem_cons.mpr ⟨mc_202, List.forall_mem_cons.mpr ⟨mc_47, List.forall_mem_cons.mpr ⟨mc_190, List.forall_mem_cons.mpr ⟨mc_250, List.forall_mem_cons.mpr ⟨mc_1176, fun _ h => absurd h List.not_mem_nil⟩⟩⟩⟩⟩⟩⟩⟩⟩⟩⟩⟩⟩⟩⟩⟩⟩⟩⟩⟩⟩⟩⟩⟩
theorem mc_1189 : Cond.methodLink RX10 220 yX0_deadlocked ∈ lw_tbl := mt_5 _ (List.mem_of_getElem? (i := 21) rfl)
theorem mc_1190 : Cond.code yX2_undoCount cX2_undoCount 5 (some .int) ∈ lw_tbl := mt_5 _ (List.mem_of_getElem? (i := 20) rfl)
theorem mc_1191 : Cond.selects RX2 yX2_undoCount yX2_undoCount ∈ lw_tbl := mt_5 _ (List.mem_of_getElem? (i := 19) rfl)
theorem mc_1192 : Cond.instanceMethod yX2_undoCount ∈ lw_tbl := mt_5 _ (List.mem_of_getElem? (i := 18) rfl)
set_option maxRecDepth 100000 in
theorem mT_wsX10_tx_r2 : ∀ w ∈ wsX10_tx_r2, w ∈ lw_tbl := by
  unfold wsX10_tx_r2
  exact List.forall_mem_cons.mpr ⟨mc_1192, List.forall_mem_cons.mpr ⟨mc_1191, List.forall_mem_cons.mpr ⟨mc_48, List.forall_mem_cons.mpr ⟨mc_1190, List.forall_mem_cons.mpr ⟨mc_570, List.forall_mem_cons.mpr ⟨mc_569, List.forall_mem_cons.mpr ⟨mc_524, List.forall_mem_cons.mpr ⟨mc_523, List.forall_mem_cons.mpr ⟨mc_522, List.forall_mem_cons.mpr ⟨mc_237, List.forall_mem_cons.mpr ⟨mc_236, List.forall_mem_cons.mpr ⟨mc_235, List.forall_mem_cons.mpr ⟨mc_234, List.forall_mem_cons.mpr ⟨mc_64, List.forall_mem_cons.mpr ⟨mc_65, List.forall_mem_cons.mpr ⟨mc_579, List.forall_mem_cons.mpr ⟨mc_539, List.forall_mem_cons.mpr ⟨mc_538, List.forall_mem_cons.mpr ⟨mc_537, List.forall_mem_cons.mpr ⟨mc_536, List.forall_mem_cons.mpr ⟨mc_530, List.forall_mem_cons.mpr ⟨mc_529, List.forall_mem_cons.mpr ⟨mc_528, List.forall_mem_cons.mpr ⟨mc_1189, fun _ h => absurd h List.not_mem_nil⟩⟩⟩⟩⟩⟩⟩⟩⟩⟩⟩⟩⟩⟩⟩⟩⟩⟩⟩⟩⟩⟩⟩⟩
theorem mc_1193 : Cond.code yX0_deadlocked cX0_deadlocked 5 (some .boolean) ∈ lw_tbl := mt_5 _ (List.mem_of_getElem? (i := 24) rfl)
theorem mc_1194 : Cond.selects RX0 yX0_deadlocked yX0_deadlocked ∈ lw_tbl := mt_5 _ (List.mem_of_getElem? (i := 23) rfl)
theorem mc_1195 : Cond.instanceMethod yX0_deadlocked ∈ lw_tbl := mt_5 _ (List.mem_of_getElem? (i := 22) rfl)
set_option maxRecDepth 100000 in
theorem mT_wsX10_tx_r3 : ∀ w ∈ wsX10_tx_r3, w ∈ lw_tbl := by
  unfold wsX10_tx_r3
  exact List.forall_mem_cons.mpr ⟨mc_1195, List.forall_mem_cons.mpr ⟨mc_1194, List.forall_mem_cons.mpr ⟨mc_36, List.forall_mem_cons.mpr ⟨mc_1193, List.forall_mem_cons.mpr ⟨mc_78, fun _ h => absurd h List.not_mem_nil⟩⟩⟩⟩⟩
set_option maxRecDepth 100000 in
theorem mT_wsX10_tx : ∀ w ∈ wsX10_tx, w ∈ lw_tbl := by
  unfold wsX10_tx
  exact List.forall_mem_cons.mpr ⟨mc_1175, List.forall_mem_append.mpr ⟨List.forall_mem_append.mpr ⟨List.forall_mem_append.mpr ⟨List.forall_mem_append.mpr ⟨List.forall_mem_append.mpr ⟨List.forall_mem_append.mpr ⟨mT_wsX10_tx_r1, List.forall_mem_append.mpr ⟨mT_wsX10_tx_r2, mT_wsX10_tx_r3⟩⟩, inX10⟩, inX9⟩, inX5⟩, inX0⟩, inX2⟩⟩
theorem mc_1196 : Cond.selects RX10 yX10_tx yX10_tx ∈ lw_tbl := mt_5 _ (List.mem_of_getElem? (i := 10) rfl)
theorem mc_1197 : Cond.instanceMethod yX10_tx ∈ lw_tbl := mt_5 _ (List.mem_of_getElem? (i := 9) rfl)
theorem mc_1198 : Cond.methodLink RL 88 yX10_tx ∈ lw_tbl := mt_5 _ (List.mem_of_getElem? (i := 8) rfl)
set_option maxRecDepth 100000 in
theorem gT_X10_tx : GoodIn lw_tbl (wsV RL 88 RX10 yX10_tx wsX10_tx) := goodIn_sub (List.forall_mem_append.mpr ⟨List.forall_mem_cons.mpr ⟨mc_1198, List.forall_mem_cons.mpr ⟨mc_1197, List.forall_mem_cons.mpr ⟨mc_1196, List.forall_mem_cons.mpr ⟨mc_139, fun _ h => absurd h List.not_mem_nil⟩⟩⟩⟩, mT_wsX10_tx⟩) (by decide +kernel)
theorem mc_1199 : Cond.code yX11_tx cX11_tx 3 (some .int) ∈ lw_tbl := mt_7 _ (List.mem_of_getElem? (i := 214) rfl)
theorem mc_1200 : Cond.code yX11_costOf cX11_costOf 4 (some .int) ∈ lw_tbl := mt_7 _ (List.mem_of_getElem? (i := 95) rfl)
theorem mc_1201 : Cond.selects RX11 yX11_costOf yX11_costOf ∈ lw_tbl := List.mem_append_left _ (List.mem_map.mpr ⟨(yX11_costOf, 28), List.mem_of_getElem? (i := 91) rfl, rfl⟩)
theorem mc_1202 : Cond.instanceMethod yX11_costOf ∈ lw_tbl := mt_7 _ (List.mem_of_getElem? (i := 94) rfl)
theorem mc_1203 : Cond.methodLink RX11 278 yX11_costOf ∈ lw_tbl := mt_7 _ (List.mem_of_getElem? (i := 92) rfl)
set_option maxRecDepth 100000 in
theorem mT_wsX11_tx_r1 : ∀ w ∈ wsX11_tx_r1, w ∈ lw_tbl := by
  unfold wsX11_tx_r1
  exact List.forall_mem_cons.mpr ⟨mc_184, List.forall_mem_cons.mpr ⟨mc_151, List.forall_mem_cons.mpr ⟨mc_179, List.forall_mem_cons.mpr ⟨mc_178, List.forall_mem_cons.mpr ⟨mc_177, List.forall_mem_cons.mpr ⟨mc_155, List.forall_mem_cons.mpr ⟨mc_176, List.forall_mem_cons.mpr ⟨mc_1203, List.forall_mem_cons.mpr ⟨mc_1202, List.forall_mem_cons.mpr ⟨mc_1201, List.forall_mem_cons.mpr ⟨mc_1200, List.forall_mem_cons.mpr ⟨mc_290, List.forall_mem_cons.mpr ⟨mc_289, List.forall_mem_cons.mpr ⟨mc_288, List.forall_mem_cons.mpr ⟨mc_287, List.forall_mem_cons.mpr ⟨mc_286, List.forall_mem_cons.mpr ⟨mc_322, List.forall_mem_cons.mpr ⟨mc_321, List.forall_mem_cons.mpr ⟨mc_320, List.forall_mem_cons.mpr ⟨mc_545, List.forall_mem_cons.mpr ⟨mc_556, List.forall_mem_cons.mpr ⟨mc_555, List.forall_mem_cons.mpr ⟨mc_554, List.forall_mem_cons.mpr ⟨mc_334, fun _ h => absurd h List.not_mem_nil⟩⟩⟩⟩⟩⟩⟩⟩⟩⟩⟩⟩⟩⟩⟩⟩⟩⟩⟩⟩⟩⟩⟩⟩
theorem mc_1204 : Cond.code yX11_comesTo cX11_comesTo 5 (some .int) ∈ lw_tbl := mt_7 _ (List.mem_of_getElem? (i := 91) rfl)
theorem mc_1205 : Cond.selects RX11 yX11_comesTo yX11_comesTo ∈ lw_tbl := List.mem_append_left _ (List.mem_map.mpr ⟨(yX11_comesTo, 28), List.mem_of_getElem? (i := 90) rfl, rfl⟩)
theorem mc_1206 : Cond.instanceMethod yX11_comesTo ∈ lw_tbl := mt_7 _ (List.mem_of_getElem? (i := 90) rfl)
theorem mc_1207 : Cond.methodLink RX11 275 yX11_comesTo ∈ lw_tbl := mt_7 _ (List.mem_of_getElem? (i := 88) rfl)
set_option maxRecDepth 100000 in
theorem mT_wsX11_tx_r2 : ∀ w ∈ wsX11_tx_r2, w ∈ lw_tbl := by
  unfold wsX11_tx_r2
  exact List.forall_mem_cons.mpr ⟨mc_333, List.forall_mem_cons.mpr ⟨mc_332, List.forall_mem_cons.mpr ⟨mc_331, List.forall_mem_cons.mpr ⟨mc_564, List.forall_mem_cons.mpr ⟨mc_563, List.forall_mem_cons.mpr ⟨mc_562, List.forall_mem_cons.mpr ⟨mc_561, List.forall_mem_cons.mpr ⟨mc_560, List.forall_mem_cons.mpr ⟨mc_559, List.forall_mem_cons.mpr ⟨mc_558, List.forall_mem_cons.mpr ⟨mc_557, List.forall_mem_cons.mpr ⟨mc_1207, List.forall_mem_cons.mpr ⟨mc_1206, List.forall_mem_cons.mpr ⟨mc_1205, List.forall_mem_cons.mpr ⟨mc_1204, List.forall_mem_cons.mpr ⟨mc_451, List.forall_mem_cons.mpr ⟨mc_450, List.forall_mem_cons.mpr ⟨mc_449, List.forall_mem_cons.mpr ⟨mc_448, fun _ h => absurd h List.not_mem_nil⟩⟩⟩⟩⟩⟩⟩⟩⟩⟩⟩⟩⟩⟩⟩⟩⟩⟩⟩
set_option maxRecDepth 100000 in
theorem mT_wsX11_tx : ∀ w ∈ wsX11_tx, w ∈ lw_tbl := by
  unfold wsX11_tx
  exact List.forall_mem_cons.mpr ⟨mc_1199, List.forall_mem_append.mpr ⟨List.forall_mem_append.mpr ⟨mT_wsX11_tx_r1, mT_wsX11_tx_r2⟩, inX11⟩⟩
theorem mc_1208 : Cond.selects RX11 yX11_tx yX11_tx ∈ lw_tbl := mt_7 _ (List.mem_of_getElem? (i := 213) rfl)
theorem mc_1209 : Cond.instanceMethod yX11_tx ∈ lw_tbl := mt_7 _ (List.mem_of_getElem? (i := 212) rfl)
theorem mc_1210 : Cond.methodLink RL 91 yX11_tx ∈ lw_tbl := mt_7 _ (List.mem_of_getElem? (i := 211) rfl)
set_option maxRecDepth 100000 in
theorem gT_X11_tx : GoodIn lw_tbl (wsV RL 91 RX11 yX11_tx wsX11_tx) := goodIn_sub (List.forall_mem_append.mpr ⟨List.forall_mem_cons.mpr ⟨mc_1210, List.forall_mem_cons.mpr ⟨mc_1209, List.forall_mem_cons.mpr ⟨mc_1208, List.forall_mem_cons.mpr ⟨mc_155, fun _ h => absurd h List.not_mem_nil⟩⟩⟩⟩, mT_wsX11_tx⟩) (by decide +kernel)
theorem mc_1211 : Cond.code yX10_log cX10_log 2 (some .int) ∈ lw_tbl := mt_5 _ (List.mem_of_getElem? (i := 28) rfl)
theorem mc_1212 : Cond.methodLink RX10 232 yX2_byteAt ∈ lw_tbl := mt_5 _ (List.mem_of_getElem? (i := 29) rfl)
theorem mc_1213 : Cond.fieldLink RX10 227 "AheadStore$Journal" "endPlace" "I" ∈ lw_tbl := mt_1 _ (List.mem_of_getElem? (i := 46) rfl)
theorem mc_1214 : Cond.fieldLink RX10 223 "AheadStore$World" "journal" "LAheadStore$Journal;" ∈ lw_tbl := mt_1 _ (List.mem_of_getElem? (i := 225) rfl)
set_option maxRecDepth 100000 in
theorem mT_wsX10_log : ∀ w ∈ wsX10_log, w ∈ lw_tbl := by
  unfold wsX10_log
  exact List.forall_mem_cons.mpr ⟨mc_1211, List.forall_mem_append.mpr ⟨List.forall_mem_append.mpr ⟨List.forall_mem_append.mpr ⟨List.forall_mem_cons.mpr ⟨mc_18, List.forall_mem_cons.mpr ⟨mc_1214, List.forall_mem_cons.mpr ⟨mc_1213, List.forall_mem_cons.mpr ⟨mc_1212, List.forall_mem_cons.mpr ⟨mc_236, List.forall_mem_cons.mpr ⟨mc_235, List.forall_mem_cons.mpr ⟨mc_48, List.forall_mem_cons.mpr ⟨mc_234, List.forall_mem_cons.mpr ⟨mc_64, List.forall_mem_cons.mpr ⟨mc_65, fun _ h => absurd h List.not_mem_nil⟩⟩⟩⟩⟩⟩⟩⟩⟩⟩, inX10⟩, inX9⟩, inX2⟩⟩
theorem mc_1215 : Cond.selects RX10 yX10_log yX10_log ∈ lw_tbl := mt_5 _ (List.mem_of_getElem? (i := 27) rfl)
theorem mc_1216 : Cond.instanceMethod yX10_log ∈ lw_tbl := mt_5 _ (List.mem_of_getElem? (i := 26) rfl)
theorem mc_1217 : Cond.methodLink RL 92 yX10_log ∈ lw_tbl := mt_5 _ (List.mem_of_getElem? (i := 25) rfl)
set_option maxRecDepth 100000 in
theorem gT_X10_log : GoodIn lw_tbl (wsV RL 92 RX10 yX10_log wsX10_log) := goodIn_sub (List.forall_mem_append.mpr ⟨List.forall_mem_cons.mpr ⟨mc_1217, List.forall_mem_cons.mpr ⟨mc_1216, List.forall_mem_cons.mpr ⟨mc_1215, List.forall_mem_cons.mpr ⟨mc_139, fun _ h => absurd h List.not_mem_nil⟩⟩⟩⟩, mT_wsX10_log⟩) (by decide +kernel)
theorem mc_1218 : Cond.code yX11_log cX11_log 2 (some .int) ∈ lw_tbl := mt_7 _ (List.mem_of_getElem? (i := 218) rfl)
set_option maxRecDepth 100000 in
theorem mT_wsX11_log : ∀ w ∈ wsX11_log, w ∈ lw_tbl := by
  unfold wsX11_log
  exact List.forall_mem_cons.mpr ⟨mc_1218, List.forall_mem_append.mpr ⟨List.forall_mem_cons.mpr ⟨mc_184, List.forall_mem_cons.mpr ⟨mc_315, List.forall_mem_cons.mpr ⟨mc_314, List.forall_mem_cons.mpr ⟨mc_313, List.forall_mem_cons.mpr ⟨mc_155, List.forall_mem_cons.mpr ⟨mc_312, List.forall_mem_cons.mpr ⟨mc_151, List.forall_mem_cons.mpr ⟨mc_179, List.forall_mem_cons.mpr ⟨mc_178, List.forall_mem_cons.mpr ⟨mc_177, List.forall_mem_cons.mpr ⟨mc_176, List.forall_mem_cons.mpr ⟨mc_334, List.forall_mem_cons.mpr ⟨mc_333, List.forall_mem_cons.mpr ⟨mc_332, List.forall_mem_cons.mpr ⟨mc_331, fun _ h => absurd h List.not_mem_nil⟩⟩⟩⟩⟩⟩⟩⟩⟩⟩⟩⟩⟩⟩⟩, inX11⟩⟩
theorem mc_1219 : Cond.selects RX11 yX11_log yX11_log ∈ lw_tbl := mt_7 _ (List.mem_of_getElem? (i := 217) rfl)
theorem mc_1220 : Cond.instanceMethod yX11_log ∈ lw_tbl := mt_7 _ (List.mem_of_getElem? (i := 216) rfl)
theorem mc_1221 : Cond.methodLink RL 95 yX11_log ∈ lw_tbl := mt_7 _ (List.mem_of_getElem? (i := 215) rfl)
set_option maxRecDepth 100000 in
theorem gT_X11_log : GoodIn lw_tbl (wsV RL 95 RX11 yX11_log wsX11_log) := goodIn_sub (List.forall_mem_append.mpr ⟨List.forall_mem_cons.mpr ⟨mc_1221, List.forall_mem_cons.mpr ⟨mc_1220, List.forall_mem_cons.mpr ⟨mc_1219, List.forall_mem_cons.mpr ⟨mc_155, fun _ h => absurd h List.not_mem_nil⟩⟩⟩⟩, mT_wsX11_log⟩) (by decide +kernel)
theorem mc_1222 : Cond.code yX10_record cX10_record 5 (some .int) ∈ lw_tbl := mt_5 _ (List.mem_of_getElem? (i := 33) rfl)
theorem mc_1223 : Cond.methodLink RX10 235 yX2_beginsAt ∈ lw_tbl := mt_5 _ (List.mem_of_getElem? (i := 34) rfl)
theorem mc_1224 : Cond.fieldLink RX10 253 "AheadStore$Journal" "flushedPlace" "I" ∈ lw_tbl := mt_1 _ (List.mem_of_getElem? (i := 49) rfl)
set_option maxRecDepth 100000 in
theorem mT_wsX10_record_r1 : ∀ w ∈ wsX10_record_r1, w ∈ lw_tbl := by
  unfold wsX10_record_r1
  exact List.forall_mem_cons.mpr ⟨mc_18, List.forall_mem_cons.mpr ⟨mc_1214, List.forall_mem_cons.mpr ⟨mc_1224, List.forall_mem_cons.mpr ⟨mc_1223, List.forall_mem_cons.mpr ⟨mc_595, List.forall_mem_cons.mpr ⟨mc_594, List.forall_mem_cons.mpr ⟨mc_48, List.forall_mem_cons.mpr ⟨mc_593, List.forall_mem_cons.mpr ⟨mc_64, List.forall_mem_cons.mpr ⟨mc_592, List.forall_mem_cons.mpr ⟨mc_591, List.forall_mem_cons.mpr ⟨mc_590, List.forall_mem_cons.mpr ⟨mc_589, List.forall_mem_cons.mpr ⟨mc_65, List.forall_mem_cons.mpr ⟨mc_237, List.forall_mem_cons.mpr ⟨mc_236, List.forall_mem_cons.mpr ⟨mc_235, List.forall_mem_cons.mpr ⟨mc_234, List.forall_mem_cons.mpr ⟨mc_588, List.forall_mem_cons.mpr ⟨mc_619, List.forall_mem_cons.mpr ⟨mc_618, List.forall_mem_cons.mpr ⟨mc_617, List.forall_mem_cons.mpr ⟨mc_616, List.forall_mem_cons.mpr ⟨mc_615, fun _ h => absurd h List.not_mem_nil⟩⟩⟩⟩⟩⟩⟩⟩⟩⟩⟩⟩⟩⟩⟩⟩⟩⟩⟩⟩⟩⟩⟩⟩
theorem mc_1225 : Cond.methodLink RX10 247 yX2_addressAt ∈ lw_tbl := mt_5 _ (List.mem_of_getElem? (i := 38) rfl)
theorem mc_1226 : Cond.methodLink RX10 244 yX2_touches ∈ lw_tbl := mt_5 _ (List.mem_of_getElem? (i := 37) rfl)
theorem mc_1227 : Cond.methodLink RX10 241 yX2_onward ∈ lw_tbl := mt_5 _ (List.mem_of_getElem? (i := 36) rfl)
theorem mc_1228 : Cond.methodLink RX10 238 yX2_pairAt ∈ lw_tbl := mt_5 _ (List.mem_of_getElem? (i := 35) rfl)
set_option maxRecDepth 100000 in
theorem mT_wsX10_record_r2 : ∀ w ∈ wsX10_record_r2, w ∈ lw_tbl := by
  unfold wsX10_record_r2
  exact List.forall_mem_cons.mpr ⟨mc_614, List.forall_mem_cons.mpr ⟨mc_613, List.forall_mem_cons.mpr ⟨mc_612, List.forall_mem_cons.mpr ⟨mc_611, List.forall_mem_cons.mpr ⟨mc_610, List.forall_mem_cons.mpr ⟨mc_609, List.forall_mem_cons.mpr ⟨mc_1212, List.forall_mem_cons.mpr ⟨mc_1228, List.forall_mem_cons.mpr ⟨mc_530, List.forall_mem_cons.mpr ⟨mc_529, List.forall_mem_cons.mpr ⟨mc_528, List.forall_mem_cons.mpr ⟨mc_1227, List.forall_mem_cons.mpr ⟨mc_539, List.forall_mem_cons.mpr ⟨mc_538, List.forall_mem_cons.mpr ⟨mc_537, List.forall_mem_cons.mpr ⟨mc_536, List.forall_mem_cons.mpr ⟨mc_1226, List.forall_mem_cons.mpr ⟨mc_679, List.forall_mem_cons.mpr ⟨mc_678, List.forall_mem_cons.mpr ⟨mc_677, List.forall_mem_cons.mpr ⟨mc_1225, List.forall_mem_cons.mpr ⟨mc_429, List.forall_mem_cons.mpr ⟨mc_428, List.forall_mem_cons.mpr ⟨mc_427, fun _ h => absurd h List.not_mem_nil⟩⟩⟩⟩⟩⟩⟩⟩⟩⟩⟩⟩⟩⟩⟩⟩⟩⟩⟩⟩⟩⟩⟩⟩
theorem mc_1229 : Cond.methodLink RX10 250 yX2_behind ∈ lw_tbl := mt_5 _ (List.mem_of_getElem? (i := 39) rfl)
set_option maxRecDepth 100000 in
theorem mT_wsX10_record_r3 : ∀ w ∈ wsX10_record_r3, w ∈ lw_tbl := by
  unfold wsX10_record_r3
  exact List.forall_mem_cons.mpr ⟨mc_1229, fun _ h => absurd h List.not_mem_nil⟩
set_option maxRecDepth 100000 in
theorem mT_wsX10_record : ∀ w ∈ wsX10_record, w ∈ lw_tbl := by
  unfold wsX10_record
  exact List.forall_mem_cons.mpr ⟨mc_1222, List.forall_mem_append.mpr ⟨List.forall_mem_append.mpr ⟨List.forall_mem_append.mpr ⟨List.forall_mem_append.mpr ⟨mT_wsX10_record_r1, List.forall_mem_append.mpr ⟨mT_wsX10_record_r2, mT_wsX10_record_r3⟩⟩, inX10⟩, inX9⟩, inX2⟩⟩
theorem mc_1230 : Cond.selects RX10 yX10_record yX10_record ∈ lw_tbl := mt_5 _ (List.mem_of_getElem? (i := 32) rfl)
theorem mc_1231 : Cond.instanceMethod yX10_record ∈ lw_tbl := mt_5 _ (List.mem_of_getElem? (i := 31) rfl)
theorem mc_1232 : Cond.methodLink RL 96 yX10_record ∈ lw_tbl := mt_5 _ (List.mem_of_getElem? (i := 30) rfl)
set_option maxRecDepth 100000 in
theorem gT_X10_record : GoodIn lw_tbl (wsV RL 96 RX10 yX10_record wsX10_record) := goodIn_sub (List.forall_mem_append.mpr ⟨List.forall_mem_cons.mpr ⟨mc_1232, List.forall_mem_cons.mpr ⟨mc_1231, List.forall_mem_cons.mpr ⟨mc_1230, List.forall_mem_cons.mpr ⟨mc_139, fun _ h => absurd h List.not_mem_nil⟩⟩⟩⟩, mT_wsX10_record⟩) (by decide +kernel)
theorem mc_1233 : Cond.code yX11_record cX11_record 3 (some .int) ∈ lw_tbl := mt_7 _ (List.mem_of_getElem? (i := 222) rfl)
set_option maxRecDepth 100000 in
theorem mT_wsX11_record_r1 : ∀ w ∈ wsX11_record_r1, w ∈ lw_tbl := by
  unfold wsX11_record_r1
  exact List.forall_mem_cons.mpr ⟨mc_184, List.forall_mem_cons.mpr ⟨mc_179, List.forall_mem_cons.mpr ⟨mc_178, List.forall_mem_cons.mpr ⟨mc_177, List.forall_mem_cons.mpr ⟨mc_155, List.forall_mem_cons.mpr ⟨mc_176, List.forall_mem_cons.mpr ⟨mc_737, List.forall_mem_cons.mpr ⟨mc_736, List.forall_mem_cons.mpr ⟨mc_735, List.forall_mem_cons.mpr ⟨mc_734, List.forall_mem_cons.mpr ⟨mc_721, List.forall_mem_cons.mpr ⟨mc_720, List.forall_mem_cons.mpr ⟨mc_719, List.forall_mem_cons.mpr ⟨mc_718, List.forall_mem_cons.mpr ⟨mc_315, List.forall_mem_cons.mpr ⟨mc_314, List.forall_mem_cons.mpr ⟨mc_313, List.forall_mem_cons.mpr ⟨mc_312, List.forall_mem_cons.mpr ⟨mc_151, List.forall_mem_cons.mpr ⟨mc_717, List.forall_mem_cons.mpr ⟨mc_716, List.forall_mem_cons.mpr ⟨mc_715, List.forall_mem_cons.mpr ⟨mc_714, List.forall_mem_cons.mpr ⟨mc_334, fun _ h => absurd h List.not_mem_nil⟩⟩⟩⟩⟩⟩⟩⟩⟩⟩⟩⟩⟩⟩⟩⟩⟩⟩⟩⟩⟩⟩⟩⟩
set_option maxRecDepth 100000 in
theorem mT_wsX11_record_r2 : ∀ w ∈ wsX11_record_r2, w ∈ lw_tbl := by
  unfold wsX11_record_r2
  exact List.forall_mem_cons.mpr ⟨mc_333, List.forall_mem_cons.mpr ⟨mc_332, List.forall_mem_cons.mpr ⟨mc_331, List.forall_mem_cons.mpr ⟨mc_338, List.forall_mem_cons.mpr ⟨mc_337, List.forall_mem_cons.mpr ⟨mc_336, List.forall_mem_cons.mpr ⟨mc_335, List.forall_mem_cons.mpr ⟨mc_560, List.forall_mem_cons.mpr ⟨mc_559, List.forall_mem_cons.mpr ⟨mc_558, List.forall_mem_cons.mpr ⟨mc_557, List.forall_mem_cons.mpr ⟨mc_564, List.forall_mem_cons.mpr ⟨mc_563, List.forall_mem_cons.mpr ⟨mc_562, List.forall_mem_cons.mpr ⟨mc_561, List.forall_mem_cons.mpr ⟨mc_713, List.forall_mem_cons.mpr ⟨mc_712, List.forall_mem_cons.mpr ⟨mc_711, List.forall_mem_cons.mpr ⟨mc_710, List.forall_mem_cons.mpr ⟨mc_549, List.forall_mem_cons.mpr ⟨mc_548, List.forall_mem_cons.mpr ⟨mc_547, List.forall_mem_cons.mpr ⟨mc_546, List.forall_mem_cons.mpr ⟨mc_366, fun _ h => absurd h List.not_mem_nil⟩⟩⟩⟩⟩⟩⟩⟩⟩⟩⟩⟩⟩⟩⟩⟩⟩⟩⟩⟩⟩⟩⟩⟩
set_option maxRecDepth 100000 in
theorem mT_wsX11_record_r3 : ∀ w ∈ wsX11_record_r3, w ∈ lw_tbl := by
  unfold wsX11_record_r3
  exact List.forall_mem_cons.mpr ⟨mc_365, List.forall_mem_cons.mpr ⟨mc_364, List.forall_mem_cons.mpr ⟨mc_363, fun _ h => absurd h List.not_mem_nil⟩⟩⟩
set_option maxRecDepth 100000 in
theorem mT_wsX11_record : ∀ w ∈ wsX11_record, w ∈ lw_tbl := by
  unfold wsX11_record
  exact List.forall_mem_cons.mpr ⟨mc_1233, List.forall_mem_append.mpr ⟨List.forall_mem_append.mpr ⟨mT_wsX11_record_r1, List.forall_mem_append.mpr ⟨mT_wsX11_record_r2, mT_wsX11_record_r3⟩⟩, inX11⟩⟩
theorem mc_1234 : Cond.selects RX11 yX11_record yX11_record ∈ lw_tbl := mt_7 _ (List.mem_of_getElem? (i := 221) rfl)
theorem mc_1235 : Cond.instanceMethod yX11_record ∈ lw_tbl := mt_7 _ (List.mem_of_getElem? (i := 220) rfl)
theorem mc_1236 : Cond.methodLink RL 99 yX11_record ∈ lw_tbl := mt_7 _ (List.mem_of_getElem? (i := 219) rfl)
set_option maxRecDepth 100000 in
theorem gT_X11_record : GoodIn lw_tbl (wsV RL 99 RX11 yX11_record wsX11_record) := goodIn_sub (List.forall_mem_append.mpr ⟨List.forall_mem_cons.mpr ⟨mc_1236, List.forall_mem_cons.mpr ⟨mc_1235, List.forall_mem_cons.mpr ⟨mc_1234, List.forall_mem_cons.mpr ⟨mc_155, fun _ h => absurd h List.not_mem_nil⟩⟩⟩⟩, mT_wsX11_record⟩) (by decide +kernel)
theorem mc_1237 : Cond.code yX10_would cX10_would 6 (some .int) ∈ lw_tbl := mt_5 _ (List.mem_of_getElem? (i := 43) rfl)
theorem mc_1238 : Cond.fieldLink RX10 278 "AheadStore$Recovery" "losers" "I" ∈ lw_tbl := mt_2 _ (List.mem_of_getElem? (i := 84) rfl)
theorem mc_1239 : Cond.fieldLink RX10 275 "AheadStore$Recovery" "redoneInAll" "I" ∈ lw_tbl := mt_2 _ (List.mem_of_getElem? (i := 90) rfl)
theorem mc_1240 : Cond.fieldLink RX10 272 "AheadStore$Recovery" "ended" "I" ∈ lw_tbl := mt_2 _ (List.mem_of_getElem? (i := 88) rfl)
theorem mc_1241 : Cond.fieldLink RX10 269 "AheadStore$Recovery" "compensated" "I" ∈ lw_tbl := mt_2 _ (List.mem_of_getElem? (i := 86) rfl)
theorem mc_1242 : Cond.constant RX10 268 (1000000) ∈ lw_tbl := mt_5 _ (List.mem_of_getElem? (i := 77) rfl)
theorem mc_1243 : Cond.fieldLink RX10 262 "AheadStore$World" "crashes" "I" ∈ lw_tbl := mt_2 _ (List.mem_of_getElem? (i := 10) rfl)
theorem mc_1244 : Cond.fieldLink RX10 256 "AheadStore" "thought" "LAheadStore$World;" ∈ lw_tbl := mt_2 _ (List.mem_of_getElem? (i := 122) rfl)
set_option maxRecDepth 100000 in
theorem mT_wsX10_would_r1 : ∀ w ∈ wsX10_would_r1, w ∈ lw_tbl := by
  unfold wsX10_would_r1
  exact List.forall_mem_cons.mpr ⟨mc_1244, List.forall_mem_cons.mpr ⟨mc_21, List.forall_mem_cons.mpr ⟨mc_20, List.forall_mem_cons.mpr ⟨mc_19, List.forall_mem_cons.mpr ⟨mc_18, List.forall_mem_cons.mpr ⟨mc_163, List.forall_mem_cons.mpr ⟨mc_1243, List.forall_mem_cons.mpr ⟨mc_10, List.forall_mem_cons.mpr ⟨mc_1242, List.forall_mem_cons.mpr ⟨mc_1241, List.forall_mem_cons.mpr ⟨mc_1240, List.forall_mem_cons.mpr ⟨mc_1239, List.forall_mem_cons.mpr ⟨mc_1214, List.forall_mem_cons.mpr ⟨mc_1213, List.forall_mem_cons.mpr ⟨mc_1238, List.forall_mem_cons.mpr ⟨mc_162, List.forall_mem_cons.mpr ⟨mc_5, List.forall_mem_cons.mpr ⟨mc_4, List.forall_mem_cons.mpr ⟨mc_3, List.forall_mem_cons.mpr ⟨mc_23, List.forall_mem_cons.mpr ⟨mc_22, List.forall_mem_cons.mpr ⟨mc_2, List.forall_mem_cons.mpr ⟨mc_1, List.forall_mem_cons.mpr ⟨mc_48, fun _ h => absurd h List.not_mem_nil⟩⟩⟩⟩⟩⟩⟩⟩⟩⟩⟩⟩⟩⟩⟩⟩⟩⟩⟩⟩⟩⟩⟩⟩
set_option maxRecDepth 100000 in
theorem mT_wsX10_would_r2 : ∀ w ∈ wsX10_would_r2, w ∈ lw_tbl := by
  unfold wsX10_would_r2
  exact List.forall_mem_cons.mpr ⟨mc_47, List.forall_mem_cons.mpr ⟨mc_46, List.forall_mem_cons.mpr ⟨mc_45, List.forall_mem_cons.mpr ⟨mc_44, List.forall_mem_cons.mpr ⟨mc_43, List.forall_mem_cons.mpr ⟨mc_42, List.forall_mem_cons.mpr ⟨mc_41, List.forall_mem_cons.mpr ⟨mc_40, List.forall_mem_cons.mpr ⟨mc_39, List.forall_mem_cons.mpr ⟨mc_38, List.forall_mem_cons.mpr ⟨mc_37, List.forall_mem_cons.mpr ⟨mc_36, List.forall_mem_cons.mpr ⟨mc_35, List.forall_mem_cons.mpr ⟨mc_34, List.forall_mem_cons.mpr ⟨mc_33, List.forall_mem_cons.mpr ⟨mc_32, List.forall_mem_cons.mpr ⟨mc_31, List.forall_mem_cons.mpr ⟨mc_30, List.forall_mem_cons.mpr ⟨mc_29, List.forall_mem_cons.mpr ⟨mc_28, List.forall_mem_cons.mpr ⟨mc_27, List.forall_mem_cons.mpr ⟨mc_26, List.forall_mem_cons.mpr ⟨mc_25, List.forall_mem_cons.mpr ⟨mc_72, fun _ h => absurd h List.not_mem_nil⟩⟩⟩⟩⟩⟩⟩⟩⟩⟩⟩⟩⟩⟩⟩⟩⟩⟩⟩⟩⟩⟩⟩⟩
set_option maxRecDepth 100000 in
theorem mT_wsX10_would_r3 : ∀ w ∈ wsX10_would_r3, w ∈ lw_tbl := by
  unfold wsX10_would_r3
  exact List.forall_mem_cons.mpr ⟨mc_71, List.forall_mem_cons.mpr ⟨mc_70, List.forall_mem_cons.mpr ⟨mc_69, List.forall_mem_cons.mpr ⟨mc_68, List.forall_mem_cons.mpr ⟨mc_67, List.forall_mem_cons.mpr ⟨mc_66, List.forall_mem_cons.mpr ⟨mc_65, List.forall_mem_cons.mpr ⟨mc_64, List.forall_mem_cons.mpr ⟨mc_63, List.forall_mem_cons.mpr ⟨mc_62, List.forall_mem_cons.mpr ⟨mc_61, List.forall_mem_cons.mpr ⟨mc_60, List.forall_mem_cons.mpr ⟨mc_59, List.forall_mem_cons.mpr ⟨mc_58, List.forall_mem_cons.mpr ⟨mc_57, List.forall_mem_cons.mpr ⟨mc_56, List.forall_mem_cons.mpr ⟨mc_55, List.forall_mem_cons.mpr ⟨mc_54, List.forall_mem_cons.mpr ⟨mc_53, List.forall_mem_cons.mpr ⟨mc_52, List.forall_mem_cons.mpr ⟨mc_51, List.forall_mem_cons.mpr ⟨mc_50, List.forall_mem_cons.mpr ⟨mc_49, List.forall_mem_cons.mpr ⟨mc_96, fun _ h => absurd h List.not_mem_nil⟩⟩⟩⟩⟩⟩⟩⟩⟩⟩⟩⟩⟩⟩⟩⟩⟩⟩⟩⟩⟩⟩⟩⟩
set_option maxRecDepth 100000 in
theorem mT_wsX10_would_r4 : ∀ w ∈ wsX10_would_r4, w ∈ lw_tbl := by
  unfold wsX10_would_r4
  exact List.forall_mem_cons.mpr ⟨mc_95, List.forall_mem_cons.mpr ⟨mc_94, List.forall_mem_cons.mpr ⟨mc_93, List.forall_mem_cons.mpr ⟨mc_92, List.forall_mem_cons.mpr ⟨mc_91, List.forall_mem_cons.mpr ⟨mc_90, List.forall_mem_cons.mpr ⟨mc_89, List.forall_mem_cons.mpr ⟨mc_88, List.forall_mem_cons.mpr ⟨mc_87, List.forall_mem_cons.mpr ⟨mc_86, List.forall_mem_cons.mpr ⟨mc_85, List.forall_mem_cons.mpr ⟨mc_84, List.forall_mem_cons.mpr ⟨mc_83, List.forall_mem_cons.mpr ⟨mc_82, List.forall_mem_cons.mpr ⟨mc_81, List.forall_mem_cons.mpr ⟨mc_80, List.forall_mem_cons.mpr ⟨mc_79, List.forall_mem_cons.mpr ⟨mc_78, List.forall_mem_cons.mpr ⟨mc_77, List.forall_mem_cons.mpr ⟨mc_76, List.forall_mem_cons.mpr ⟨mc_75, List.forall_mem_cons.mpr ⟨mc_74, List.forall_mem_cons.mpr ⟨mc_73, List.forall_mem_cons.mpr ⟨mc_120, fun _ h => absurd h List.not_mem_nil⟩⟩⟩⟩⟩⟩⟩⟩⟩⟩⟩⟩⟩⟩⟩⟩⟩⟩⟩⟩⟩⟩⟩⟩
theorem mc_1245 : Cond.methodLink RX2 65 arraycopyName ∈ lw_tbl := mt_5 _ (List.mem_of_getElem? (i := 53) rfl)
theorem mc_1246 : Cond.methodLink RX2 62 Lib.Math.min.name ∈ lw_tbl := mt_5 _ (List.mem_of_getElem? (i := 52) rfl)
theorem mc_1247 : Cond.code yX2_copyFrom cX2_copyFrom 2 none ∈ lw_tbl := mt_5 _ (List.mem_of_getElem? (i := 51) rfl)
theorem mc_1248 : Cond.selects RX2 yX2_copyFrom yX2_copyFrom ∈ lw_tbl := mt_5 _ (List.mem_of_getElem? (i := 50) rfl)
theorem mc_1249 : Cond.instanceMethod yX2_copyFrom ∈ lw_tbl := mt_5 _ (List.mem_of_getElem? (i := 49) rfl)
theorem mc_1250 : Cond.methodLink RX9 270 yX2_copyFrom ∈ lw_tbl := mt_5 _ (List.mem_of_getElem? (i := 48) rfl)
theorem mc_1251 : Cond.code yX9_copyFrom cX9_copyFrom 2 none ∈ lw_tbl := mt_5 _ (List.mem_of_getElem? (i := 47) rfl)
theorem mc_1252 : Cond.selects RX9 yX9_copyFrom yX9_copyFrom ∈ lw_tbl := mt_5 _ (List.mem_of_getElem? (i := 46) rfl)
theorem mc_1253 : Cond.instanceMethod yX9_copyFrom ∈ lw_tbl := mt_5 _ (List.mem_of_getElem? (i := 45) rfl)
theorem mc_1254 : Cond.methodLink RX10 259 yX9_copyFrom ∈ lw_tbl := mt_5 _ (List.mem_of_getElem? (i := 44) rfl)
set_option maxRecDepth 100000 in
theorem mT_wsX10_would_r5 : ∀ w ∈ wsX10_would_r5, w ∈ lw_tbl := by
  unfold wsX10_would_r5
  exact List.forall_mem_cons.mpr ⟨mc_119, List.forall_mem_cons.mpr ⟨mc_118, List.forall_mem_cons.mpr ⟨mc_117, List.forall_mem_cons.mpr ⟨mc_116, List.forall_mem_cons.mpr ⟨mc_115, List.forall_mem_cons.mpr ⟨mc_114, List.forall_mem_cons.mpr ⟨mc_113, List.forall_mem_cons.mpr ⟨mc_112, List.forall_mem_cons.mpr ⟨mc_111, List.forall_mem_cons.mpr ⟨mc_110, List.forall_mem_cons.mpr ⟨mc_109, List.forall_mem_cons.mpr ⟨mc_1254, List.forall_mem_cons.mpr ⟨mc_1253, List.forall_mem_cons.mpr ⟨mc_1252, List.forall_mem_cons.mpr ⟨mc_1251, List.forall_mem_cons.mpr ⟨mc_1250, List.forall_mem_cons.mpr ⟨mc_1249, List.forall_mem_cons.mpr ⟨mc_1248, List.forall_mem_cons.mpr ⟨mc_1247, List.forall_mem_cons.mpr ⟨mc_1246, List.forall_mem_cons.mpr ⟨mc_746, List.forall_mem_cons.mpr ⟨mc_610, List.forall_mem_cons.mpr ⟨mc_745, List.forall_mem_cons.mpr ⟨mc_1245, fun _ h => absurd h List.not_mem_nil⟩⟩⟩⟩⟩⟩⟩⟩⟩⟩⟩⟩⟩⟩⟩⟩⟩⟩⟩⟩⟩⟩⟩⟩
theorem mc_1255 : Cond.methodLink RX9 286 yX6_copyFrom ∈ lw_tbl := mt_5 _ (List.mem_of_getElem? (i := 72) rfl)
theorem mc_1256 : Cond.methodLink RX7 52 arraycopyName ∈ lw_tbl := mt_5 _ (List.mem_of_getElem? (i := 71) rfl)
theorem mc_1257 : Cond.code yX7_copyFrom cX7_copyFrom 2 none ∈ lw_tbl := mt_5 _ (List.mem_of_getElem? (i := 70) rfl)
theorem mc_1258 : Cond.selects RX7 yX7_copyFrom yX7_copyFrom ∈ lw_tbl := mt_5 _ (List.mem_of_getElem? (i := 69) rfl)
theorem mc_1259 : Cond.instanceMethod yX7_copyFrom ∈ lw_tbl := mt_5 _ (List.mem_of_getElem? (i := 68) rfl)
theorem mc_1260 : Cond.methodLink RX9 283 yX7_copyFrom ∈ lw_tbl := mt_5 _ (List.mem_of_getElem? (i := 67) rfl)
theorem mc_1261 : Cond.methodLink RX0 51 arraycopyName ∈ lw_tbl := mt_5 _ (List.mem_of_getElem? (i := 66) rfl)
theorem mc_1262 : Cond.code yX0_copyFrom cX0_copyFrom 2 none ∈ lw_tbl := mt_5 _ (List.mem_of_getElem? (i := 65) rfl)
theorem mc_1263 : Cond.selects RX0 yX0_copyFrom yX0_copyFrom ∈ lw_tbl := mt_5 _ (List.mem_of_getElem? (i := 64) rfl)
theorem mc_1264 : Cond.instanceMethod yX0_copyFrom ∈ lw_tbl := mt_5 _ (List.mem_of_getElem? (i := 63) rfl)
theorem mc_1265 : Cond.methodLink RX9 280 yX0_copyFrom ∈ lw_tbl := mt_5 _ (List.mem_of_getElem? (i := 62) rfl)
theorem mc_1266 : Cond.code yX5_copyFrom cX5_copyFrom 2 none ∈ lw_tbl := mt_5 _ (List.mem_of_getElem? (i := 61) rfl)
theorem mc_1267 : Cond.selects RX5 yX5_copyFrom yX5_copyFrom ∈ lw_tbl := mt_5 _ (List.mem_of_getElem? (i := 60) rfl)
theorem mc_1268 : Cond.instanceMethod yX5_copyFrom ∈ lw_tbl := mt_5 _ (List.mem_of_getElem? (i := 59) rfl)
theorem mc_1269 : Cond.methodLink RX9 277 yX5_copyFrom ∈ lw_tbl := mt_5 _ (List.mem_of_getElem? (i := 58) rfl)
theorem mc_1270 : Cond.code yX3_copyFrom cX3_copyFrom 2 none ∈ lw_tbl := mt_5 _ (List.mem_of_getElem? (i := 57) rfl)
theorem mc_1271 : Cond.selects RX3 yX3_copyFrom yX3_copyFrom ∈ lw_tbl := mt_5 _ (List.mem_of_getElem? (i := 56) rfl)
theorem mc_1272 : Cond.instanceMethod yX3_copyFrom ∈ lw_tbl := mt_5 _ (List.mem_of_getElem? (i := 55) rfl)
theorem mc_1273 : Cond.methodLink RX9 274 yX3_copyFrom ∈ lw_tbl := mt_5 _ (List.mem_of_getElem? (i := 54) rfl)
set_option maxRecDepth 100000 in
theorem mT_wsX10_would_r6 : ∀ w ∈ wsX10_would_r6, w ∈ lw_tbl := by
  unfold wsX10_would_r6
  exact List.forall_mem_cons.mpr ⟨mc_384, List.forall_mem_cons.mpr ⟨mc_383, List.forall_mem_cons.mpr ⟨mc_413, List.forall_mem_cons.mpr ⟨mc_1273, List.forall_mem_cons.mpr ⟨mc_1272, List.forall_mem_cons.mpr ⟨mc_1271, List.forall_mem_cons.mpr ⟨mc_1270, List.forall_mem_cons.mpr ⟨mc_385, List.forall_mem_cons.mpr ⟨mc_1269, List.forall_mem_cons.mpr ⟨mc_1268, List.forall_mem_cons.mpr ⟨mc_1267, List.forall_mem_cons.mpr ⟨mc_1266, List.forall_mem_cons.mpr ⟨mc_844, List.forall_mem_cons.mpr ⟨mc_1265, List.forall_mem_cons.mpr ⟨mc_1264, List.forall_mem_cons.mpr ⟨mc_1263, List.forall_mem_cons.mpr ⟨mc_1262, List.forall_mem_cons.mpr ⟨mc_1261, List.forall_mem_cons.mpr ⟨mc_1260, List.forall_mem_cons.mpr ⟨mc_1259, List.forall_mem_cons.mpr ⟨mc_1258, List.forall_mem_cons.mpr ⟨mc_1257, List.forall_mem_cons.mpr ⟨mc_1256, List.forall_mem_cons.mpr ⟨mc_1255, fun _ h => absurd h List.not_mem_nil⟩⟩⟩⟩⟩⟩⟩⟩⟩⟩⟩⟩⟩⟩⟩⟩⟩⟩⟩⟩⟩⟩⟩⟩
set_option maxRecDepth 100000 in
theorem mT_wsX10_would_r7 : ∀ w ∈ wsX10_would_r7, w ∈ lw_tbl := by
  unfold wsX10_would_r7
  exact List.forall_mem_cons.mpr ⟨mc_1047, List.forall_mem_cons.mpr ⟨mc_1046, List.forall_mem_cons.mpr ⟨mc_1045, List.forall_mem_cons.mpr ⟨mc_1044, List.forall_mem_cons.mpr ⟨mc_752, List.forall_mem_cons.mpr ⟨mc_751, List.forall_mem_cons.mpr ⟨mc_750, List.forall_mem_cons.mpr ⟨mc_749, List.forall_mem_cons.mpr ⟨mc_195, List.forall_mem_cons.mpr ⟨mc_748, List.forall_mem_cons.mpr ⟨mc_747, List.forall_mem_cons.mpr ⟨mc_744, List.forall_mem_cons.mpr ⟨mc_743, List.forall_mem_cons.mpr ⟨mc_742, List.forall_mem_cons.mpr ⟨mc_763, List.forall_mem_cons.mpr ⟨mc_762, List.forall_mem_cons.mpr ⟨mc_761, List.forall_mem_cons.mpr ⟨mc_760, List.forall_mem_cons.mpr ⟨mc_759, List.forall_mem_cons.mpr ⟨mc_758, List.forall_mem_cons.mpr ⟨mc_757, List.forall_mem_cons.mpr ⟨mc_756, List.forall_mem_cons.mpr ⟨mc_755, List.forall_mem_cons.mpr ⟨mc_754, fun _ h => absurd h List.not_mem_nil⟩⟩⟩⟩⟩⟩⟩⟩⟩⟩⟩⟩⟩⟩⟩⟩⟩⟩⟩⟩⟩⟩⟩⟩
theorem mc_1274 : Cond.code yX4_reset cX4_reset 1 none ∈ lw_tbl := mt_5 _ (List.mem_of_getElem? (i := 76) rfl)
theorem mc_1275 : Cond.selects RX4 yX4_reset yX4_reset ∈ lw_tbl := mt_5 _ (List.mem_of_getElem? (i := 75) rfl)
theorem mc_1276 : Cond.instanceMethod yX4_reset ∈ lw_tbl := mt_5 _ (List.mem_of_getElem? (i := 74) rfl)
theorem mc_1277 : Cond.methodLink RX10 265 yX4_reset ∈ lw_tbl := mt_5 _ (List.mem_of_getElem? (i := 73) rfl)
set_option maxRecDepth 100000 in
theorem mT_wsX10_would_r8 : ∀ w ∈ wsX10_would_r8, w ∈ lw_tbl := by
  unfold wsX10_would_r8
  exact List.forall_mem_cons.mpr ⟨mc_753, List.forall_mem_cons.mpr ⟨mc_767, List.forall_mem_cons.mpr ⟨mc_766, List.forall_mem_cons.mpr ⟨mc_765, List.forall_mem_cons.mpr ⟨mc_764, List.forall_mem_cons.mpr ⟨mc_1277, List.forall_mem_cons.mpr ⟨mc_1276, List.forall_mem_cons.mpr ⟨mc_1275, List.forall_mem_cons.mpr ⟨mc_11, List.forall_mem_cons.mpr ⟨mc_1274, List.forall_mem_cons.mpr ⟨mc_130, List.forall_mem_cons.mpr ⟨mc_128, List.forall_mem_cons.mpr ⟨mc_127, List.forall_mem_cons.mpr ⟨mc_126, List.forall_mem_cons.mpr ⟨mc_793, List.forall_mem_cons.mpr ⟨mc_792, List.forall_mem_cons.mpr ⟨mc_791, List.forall_mem_cons.mpr ⟨mc_790, List.forall_mem_cons.mpr ⟨mc_131, List.forall_mem_cons.mpr ⟨mc_789, List.forall_mem_cons.mpr ⟨mc_788, List.forall_mem_cons.mpr ⟨mc_787, List.forall_mem_cons.mpr ⟨mc_786, List.forall_mem_cons.mpr ⟨mc_785, fun _ h => absurd h List.not_mem_nil⟩⟩⟩⟩⟩⟩⟩⟩⟩⟩⟩⟩⟩⟩⟩⟩⟩⟩⟩⟩⟩⟩⟩⟩
set_option maxRecDepth 100000 in
theorem mT_wsX10_would_r9 : ∀ w ∈ wsX10_would_r9, w ∈ lw_tbl := by
  unfold wsX10_would_r9
  exact List.forall_mem_cons.mpr ⟨mc_396, List.forall_mem_cons.mpr ⟨mc_395, List.forall_mem_cons.mpr ⟨mc_394, List.forall_mem_cons.mpr ⟨mc_784, List.forall_mem_cons.mpr ⟨mc_660, List.forall_mem_cons.mpr ⟨mc_659, List.forall_mem_cons.mpr ⟨mc_658, List.forall_mem_cons.mpr ⟨mc_657, List.forall_mem_cons.mpr ⟨mc_656, List.forall_mem_cons.mpr ⟨mc_607, List.forall_mem_cons.mpr ⟨mc_606, List.forall_mem_cons.mpr ⟨mc_605, List.forall_mem_cons.mpr ⟨mc_681, List.forall_mem_cons.mpr ⟨mc_591, List.forall_mem_cons.mpr ⟨mc_590, List.forall_mem_cons.mpr ⟨mc_589, List.forall_mem_cons.mpr ⟨mc_237, List.forall_mem_cons.mpr ⟨mc_236, List.forall_mem_cons.mpr ⟨mc_235, List.forall_mem_cons.mpr ⟨mc_234, List.forall_mem_cons.mpr ⟨mc_588, List.forall_mem_cons.mpr ⟨mc_619, List.forall_mem_cons.mpr ⟨mc_618, List.forall_mem_cons.mpr ⟨mc_617, fun _ h => absurd h List.not_mem_nil⟩⟩⟩⟩⟩⟩⟩⟩⟩⟩⟩⟩⟩⟩⟩⟩⟩⟩⟩⟩⟩⟩⟩⟩
set_option maxRecDepth 100000 in
theorem mT_wsX10_would_r10 : ∀ w ∈ wsX10_would_r10, w ∈ lw_tbl := by
  unfold wsX10_would_r10
  exact List.forall_mem_cons.mpr ⟨mc_430, List.forall_mem_cons.mpr ⟨mc_429, List.forall_mem_cons.mpr ⟨mc_428, List.forall_mem_cons.mpr ⟨mc_427, List.forall_mem_cons.mpr ⟨mc_680, List.forall_mem_cons.mpr ⟨mc_679, List.forall_mem_cons.mpr ⟨mc_678, List.forall_mem_cons.mpr ⟨mc_677, List.forall_mem_cons.mpr ⟨mc_426, List.forall_mem_cons.mpr ⟨mc_425, List.forall_mem_cons.mpr ⟨mc_424, List.forall_mem_cons.mpr ⟨mc_423, List.forall_mem_cons.mpr ⟨mc_676, List.forall_mem_cons.mpr ⟨mc_615, List.forall_mem_cons.mpr ⟨mc_614, List.forall_mem_cons.mpr ⟨mc_613, List.forall_mem_cons.mpr ⟨mc_612, List.forall_mem_cons.mpr ⟨mc_611, List.forall_mem_cons.mpr ⟨mc_609, List.forall_mem_cons.mpr ⟨mc_807, List.forall_mem_cons.mpr ⟨mc_806, List.forall_mem_cons.mpr ⟨mc_805, List.forall_mem_cons.mpr ⟨mc_804, List.forall_mem_cons.mpr ⟨mc_132, fun _ h => absurd h List.not_mem_nil⟩⟩⟩⟩⟩⟩⟩⟩⟩⟩⟩⟩⟩⟩⟩⟩⟩⟩⟩⟩⟩⟩⟩⟩
set_option maxRecDepth 100000 in
theorem mT_wsX10_would_r11 : ∀ w ∈ wsX10_would_r11, w ∈ lw_tbl := by
  unfold wsX10_would_r11
  exact List.forall_mem_cons.mpr ⟨mc_803, List.forall_mem_cons.mpr ⟨mc_802, List.forall_mem_cons.mpr ⟨mc_801, List.forall_mem_cons.mpr ⟨mc_800, List.forall_mem_cons.mpr ⟨mc_799, List.forall_mem_cons.mpr ⟨mc_129, List.forall_mem_cons.mpr ⟨mc_798, List.forall_mem_cons.mpr ⟨mc_797, List.forall_mem_cons.mpr ⟨mc_796, List.forall_mem_cons.mpr ⟨mc_795, List.forall_mem_cons.mpr ⟨mc_794, List.forall_mem_cons.mpr ⟨mc_819, List.forall_mem_cons.mpr ⟨mc_818, List.forall_mem_cons.mpr ⟨mc_817, List.forall_mem_cons.mpr ⟨mc_816, List.forall_mem_cons.mpr ⟨mc_815, List.forall_mem_cons.mpr ⟨mc_814, List.forall_mem_cons.mpr ⟨mc_813, List.forall_mem_cons.mpr ⟨mc_812, List.forall_mem_cons.mpr ⟨mc_811, List.forall_mem_cons.mpr ⟨mc_810, List.forall_mem_cons.mpr ⟨mc_201, List.forall_mem_cons.mpr ⟨mc_139, List.forall_mem_cons.mpr ⟨mc_200, fun _ h => absurd h List.not_mem_nil⟩⟩⟩⟩⟩⟩⟩⟩⟩⟩⟩⟩⟩⟩⟩⟩⟩⟩⟩⟩⟩⟩⟩⟩
set_option maxRecDepth 100000 in
theorem mT_wsX10_would_r12 : ∀ w ∈ wsX10_would_r12, w ∈ lw_tbl := by
  unfold wsX10_would_r12
  exact List.forall_mem_cons.mpr ⟨mc_809, List.forall_mem_cons.mpr ⟨mc_530, List.forall_mem_cons.mpr ⟨mc_529, List.forall_mem_cons.mpr ⟨mc_528, List.forall_mem_cons.mpr ⟨mc_808, List.forall_mem_cons.mpr ⟨mc_228, List.forall_mem_cons.mpr ⟨mc_227, List.forall_mem_cons.mpr ⟨mc_226, List.forall_mem_cons.mpr ⟨mc_836, List.forall_mem_cons.mpr ⟨mc_835, List.forall_mem_cons.mpr ⟨mc_834, List.forall_mem_cons.mpr ⟨mc_833, List.forall_mem_cons.mpr ⟨mc_832, List.forall_mem_cons.mpr ⟨mc_831, List.forall_mem_cons.mpr ⟨mc_400, List.forall_mem_cons.mpr ⟨mc_399, List.forall_mem_cons.mpr ⟨mc_830, List.forall_mem_cons.mpr ⟨mc_829, List.forall_mem_cons.mpr ⟨mc_828, List.forall_mem_cons.mpr ⟨mc_827, List.forall_mem_cons.mpr ⟨mc_826, List.forall_mem_cons.mpr ⟨mc_825, List.forall_mem_cons.mpr ⟨mc_824, List.forall_mem_cons.mpr ⟨mc_823, fun _ h => absurd h List.not_mem_nil⟩⟩⟩⟩⟩⟩⟩⟩⟩⟩⟩⟩⟩⟩⟩⟩⟩⟩⟩⟩⟩⟩⟩⟩
set_option maxRecDepth 100000 in
theorem mT_wsX10_would_r13 : ∀ w ∈ wsX10_would_r13, w ∈ lw_tbl := by
  unfold wsX10_would_r13
  exact List.forall_mem_cons.mpr ⟨mc_822, List.forall_mem_cons.mpr ⟨mc_821, List.forall_mem_cons.mpr ⟨mc_820, List.forall_mem_cons.mpr ⟨mc_845, List.forall_mem_cons.mpr ⟨mc_843, List.forall_mem_cons.mpr ⟨mc_636, List.forall_mem_cons.mpr ⟨mc_635, List.forall_mem_cons.mpr ⟨mc_634, List.forall_mem_cons.mpr ⟨mc_842, List.forall_mem_cons.mpr ⟨mc_841, List.forall_mem_cons.mpr ⟨mc_840, List.forall_mem_cons.mpr ⟨mc_839, List.forall_mem_cons.mpr ⟨mc_838, List.forall_mem_cons.mpr ⟨mc_837, List.forall_mem_cons.mpr ⟨mc_388, List.forall_mem_cons.mpr ⟨mc_387, List.forall_mem_cons.mpr ⟨mc_386, List.forall_mem_cons.mpr ⟨mc_412, List.forall_mem_cons.mpr ⟨mc_411, List.forall_mem_cons.mpr ⟨mc_410, List.forall_mem_cons.mpr ⟨mc_409, List.forall_mem_cons.mpr ⟨mc_408, List.forall_mem_cons.mpr ⟨mc_407, List.forall_mem_cons.mpr ⟨mc_406, fun _ h => absurd h List.not_mem_nil⟩⟩⟩⟩⟩⟩⟩⟩⟩⟩⟩⟩⟩⟩⟩⟩⟩⟩⟩⟩⟩⟩⟩⟩
set_option maxRecDepth 100000 in
theorem mT_wsX10_would_r14 : ∀ w ∈ wsX10_would_r14, w ∈ lw_tbl := by
  unfold wsX10_would_r14
  exact List.forall_mem_cons.mpr ⟨mc_405, List.forall_mem_cons.mpr ⟨mc_404, List.forall_mem_cons.mpr ⟨mc_403, List.forall_mem_cons.mpr ⟨mc_402, List.forall_mem_cons.mpr ⟨mc_401, List.forall_mem_cons.mpr ⟨mc_398, List.forall_mem_cons.mpr ⟨mc_240, List.forall_mem_cons.mpr ⟨mc_239, List.forall_mem_cons.mpr ⟨mc_238, List.forall_mem_cons.mpr ⟨mc_852, List.forall_mem_cons.mpr ⟨mc_433, List.forall_mem_cons.mpr ⟨mc_432, List.forall_mem_cons.mpr ⟨mc_431, List.forall_mem_cons.mpr ⟨mc_851, List.forall_mem_cons.mpr ⟨mc_850, List.forall_mem_cons.mpr ⟨mc_849, List.forall_mem_cons.mpr ⟨mc_848, List.forall_mem_cons.mpr ⟨mc_847, List.forall_mem_cons.mpr ⟨mc_846, List.forall_mem_cons.mpr ⟨mc_858, List.forall_mem_cons.mpr ⟨mc_857, List.forall_mem_cons.mpr ⟨mc_856, List.forall_mem_cons.mpr ⟨mc_855, List.forall_mem_cons.mpr ⟨mc_854, fun _ h => absurd h List.not_mem_nil⟩⟩⟩⟩⟩⟩⟩⟩⟩⟩⟩⟩⟩⟩⟩⟩⟩⟩⟩⟩⟩⟩⟩⟩
set_option maxRecDepth 100000 in
theorem mT_wsX10_would_r15 : ∀ w ∈ wsX10_would_r15, w ∈ lw_tbl := by
  unfold wsX10_would_r15
  exact List.forall_mem_cons.mpr ⟨mc_853, List.forall_mem_cons.mpr ⟨mc_232, List.forall_mem_cons.mpr ⟨mc_231, List.forall_mem_cons.mpr ⟨mc_230, List.forall_mem_cons.mpr ⟨mc_194, List.forall_mem_cons.mpr ⟨mc_193, List.forall_mem_cons.mpr ⟨mc_192, List.forall_mem_cons.mpr ⟨mc_191, List.forall_mem_cons.mpr ⟨mc_190, List.forall_mem_cons.mpr ⟨mc_189, List.forall_mem_cons.mpr ⟨mc_225, List.forall_mem_cons.mpr ⟨mc_224, List.forall_mem_cons.mpr ⟨mc_223, List.forall_mem_cons.mpr ⟨mc_222, List.forall_mem_cons.mpr ⟨mc_221, List.forall_mem_cons.mpr ⟨mc_220, List.forall_mem_cons.mpr ⟨mc_219, List.forall_mem_cons.mpr ⟨mc_218, List.forall_mem_cons.mpr ⟨mc_217, List.forall_mem_cons.mpr ⟨mc_216, List.forall_mem_cons.mpr ⟨mc_215, List.forall_mem_cons.mpr ⟨mc_214, List.forall_mem_cons.mpr ⟨mc_213, List.forall_mem_cons.mpr ⟨mc_212, fun _ h => absurd h List.not_mem_nil⟩⟩⟩⟩⟩⟩⟩⟩⟩⟩⟩⟩⟩⟩⟩⟩⟩⟩⟩⟩⟩⟩⟩⟩
set_option maxRecDepth 100000 in
theorem mT_wsX10_would_r16 : ∀ w ∈ wsX10_would_r16, w ∈ lw_tbl := by
  unfold wsX10_would_r16
  exact List.forall_mem_cons.mpr ⟨mc_211, List.forall_mem_cons.mpr ⟨mc_229, List.forall_mem_cons.mpr ⟨mc_262, List.forall_mem_cons.mpr ⟨mc_261, List.forall_mem_cons.mpr ⟨mc_260, List.forall_mem_cons.mpr ⟨mc_259, List.forall_mem_cons.mpr ⟨mc_258, List.forall_mem_cons.mpr ⟨mc_257, List.forall_mem_cons.mpr ⟨mc_256, List.forall_mem_cons.mpr ⟨mc_255, List.forall_mem_cons.mpr ⟨mc_865, List.forall_mem_cons.mpr ⟨mc_864, List.forall_mem_cons.mpr ⟨mc_863, List.forall_mem_cons.mpr ⟨mc_862, List.forall_mem_cons.mpr ⟨mc_861, List.forall_mem_cons.mpr ⟨mc_860, List.forall_mem_cons.mpr ⟨mc_524, List.forall_mem_cons.mpr ⟨mc_523, List.forall_mem_cons.mpr ⟨mc_522, List.forall_mem_cons.mpr ⟨mc_859, List.forall_mem_cons.mpr ⟨mc_520, List.forall_mem_cons.mpr ⟨mc_519, List.forall_mem_cons.mpr ⟨mc_518, List.forall_mem_cons.mpr ⟨mc_517, fun _ h => absurd h List.not_mem_nil⟩⟩⟩⟩⟩⟩⟩⟩⟩⟩⟩⟩⟩⟩⟩⟩⟩⟩⟩⟩⟩⟩⟩⟩
set_option maxRecDepth 100000 in
theorem mT_wsX10_would_r17 : ∀ w ∈ wsX10_would_r17, w ∈ lw_tbl := by
  unfold wsX10_would_r17
  exact List.forall_mem_cons.mpr ⟨mc_516, List.forall_mem_cons.mpr ⟨mc_389, List.forall_mem_cons.mpr ⟨mc_418, List.forall_mem_cons.mpr ⟨mc_527, List.forall_mem_cons.mpr ⟨mc_266, List.forall_mem_cons.mpr ⟨mc_265, List.forall_mem_cons.mpr ⟨mc_264, List.forall_mem_cons.mpr ⟨mc_263, List.forall_mem_cons.mpr ⟨mc_434, List.forall_mem_cons.mpr ⟨mc_867, List.forall_mem_cons.mpr ⟨mc_539, List.forall_mem_cons.mpr ⟨mc_538, List.forall_mem_cons.mpr ⟨mc_537, List.forall_mem_cons.mpr ⟨mc_536, List.forall_mem_cons.mpr ⟨mc_866, List.forall_mem_cons.mpr ⟨mc_1145, List.forall_mem_cons.mpr ⟨mc_416, List.forall_mem_cons.mpr ⟨mc_415, List.forall_mem_cons.mpr ⟨mc_414, fun _ h => absurd h List.not_mem_nil⟩⟩⟩⟩⟩⟩⟩⟩⟩⟩⟩⟩⟩⟩⟩⟩⟩⟩⟩
set_option maxRecDepth 100000 in
theorem mT_wsX10_would : ∀ w ∈ wsX10_would, w ∈ lw_tbl := by
  unfold wsX10_would
  exact List.forall_mem_cons.mpr ⟨mc_1237, List.forall_mem_append.mpr ⟨List.forall_mem_append.mpr ⟨List.forall_mem_append.mpr ⟨List.forall_mem_append.mpr ⟨List.forall_mem_append.mpr ⟨List.forall_mem_append.mpr ⟨List.forall_mem_append.mpr ⟨List.forall_mem_append.mpr ⟨List.forall_mem_append.mpr ⟨List.forall_mem_append.mpr ⟨mT_wsX10_would_r1, List.forall_mem_append.mpr ⟨mT_wsX10_would_r2, List.forall_mem_append.mpr ⟨mT_wsX10_would_r3, List.forall_mem_append.mpr ⟨mT_wsX10_would_r4, List.forall_mem_append.mpr ⟨mT_wsX10_would_r5, List.forall_mem_append.mpr ⟨mT_wsX10_would_r6, List.forall_mem_append.mpr ⟨mT_wsX10_would_r7, List.forall_mem_append.mpr ⟨mT_wsX10_would_r8, List.forall_mem_append.mpr ⟨mT_wsX10_would_r9, List.forall_mem_append.mpr ⟨mT_wsX10_would_r10, List.forall_mem_append.mpr ⟨mT_wsX10_would_r11, List.forall_mem_append.mpr ⟨mT_wsX10_would_r12, List.forall_mem_append.mpr ⟨mT_wsX10_would_r13, List.forall_mem_append.mpr ⟨mT_wsX10_would_r14, List.forall_mem_append.mpr ⟨mT_wsX10_would_r15, List.forall_mem_append.mpr ⟨mT_wsX10_would_r16, mT_wsX10_would_r17⟩⟩⟩⟩⟩⟩⟩⟩⟩⟩⟩⟩⟩⟩⟩⟩, inX10⟩, inX9⟩, inX4⟩, inX2⟩, inX3⟩, inX5⟩, inX0⟩, inX7⟩, inX6⟩⟩
theorem mc_1278 : Cond.selects RX10 yX10_would yX10_would ∈ lw_tbl := mt_5 _ (List.mem_of_getElem? (i := 42) rfl)
theorem mc_1279 : Cond.instanceMethod yX10_would ∈ lw_tbl := mt_5 _ (List.mem_of_getElem? (i := 41) rfl)
theorem mc_1280 : Cond.methodLink RL 100 yX10_would ∈ lw_tbl := mt_5 _ (List.mem_of_getElem? (i := 40) rfl)
set_option maxRecDepth 100000 in
theorem gT_X10_would : GoodIn lw_tbl (wsV RL 100 RX10 yX10_would wsX10_would) := goodIn_sub (List.forall_mem_append.mpr ⟨List.forall_mem_cons.mpr ⟨mc_1280, List.forall_mem_cons.mpr ⟨mc_1279, List.forall_mem_cons.mpr ⟨mc_1278, List.forall_mem_cons.mpr ⟨mc_139, fun _ h => absurd h List.not_mem_nil⟩⟩⟩⟩, mT_wsX10_would⟩) (by decide +kernel)
theorem mc_1281 : Cond.code yX11_would cX11_would 9 (some .int) ∈ lw_tbl := mt_7 _ (List.mem_of_getElem? (i := 79) rfl)
set_option maxRecDepth 100000 in
theorem mT_wsX11_would_r1 : ∀ w ∈ wsX11_would_r1, w ∈ lw_tbl := by
  unfold wsX11_would_r1
  exact List.forall_mem_cons.mpr ⟨mc_184, List.forall_mem_cons.mpr ⟨mc_150, List.forall_mem_cons.mpr ⟨mc_151, List.forall_mem_cons.mpr ⟨mc_900, List.forall_mem_cons.mpr ⟨mc_891, List.forall_mem_cons.mpr ⟨mc_882, List.forall_mem_cons.mpr ⟨mc_179, List.forall_mem_cons.mpr ⟨mc_178, List.forall_mem_cons.mpr ⟨mc_177, List.forall_mem_cons.mpr ⟨mc_155, List.forall_mem_cons.mpr ⟨mc_176, List.forall_mem_cons.mpr ⟨mc_183, List.forall_mem_cons.mpr ⟨mc_182, List.forall_mem_cons.mpr ⟨mc_181, List.forall_mem_cons.mpr ⟨mc_180, List.forall_mem_cons.mpr ⟨mc_776, List.forall_mem_cons.mpr ⟨mc_775, List.forall_mem_cons.mpr ⟨mc_774, List.forall_mem_cons.mpr ⟨mc_773, List.forall_mem_cons.mpr ⟨mc_315, List.forall_mem_cons.mpr ⟨mc_314, List.forall_mem_cons.mpr ⟨mc_313, List.forall_mem_cons.mpr ⟨mc_312, List.forall_mem_cons.mpr ⟨mc_366, fun _ h => absurd h List.not_mem_nil⟩⟩⟩⟩⟩⟩⟩⟩⟩⟩⟩⟩⟩⟩⟩⟩⟩⟩⟩⟩⟩⟩⟩⟩
set_option maxRecDepth 100000 in
theorem mT_wsX11_would_r2 : ∀ w ∈ wsX11_would_r2, w ∈ lw_tbl := by
  unfold wsX11_would_r2
  exact List.forall_mem_cons.mpr ⟨mc_365, List.forall_mem_cons.mpr ⟨mc_364, List.forall_mem_cons.mpr ⟨mc_363, List.forall_mem_cons.mpr ⟨mc_772, List.forall_mem_cons.mpr ⟨mc_779, List.forall_mem_cons.mpr ⟨mc_778, List.forall_mem_cons.mpr ⟨mc_777, List.forall_mem_cons.mpr ⟨mc_330, List.forall_mem_cons.mpr ⟨mc_329, List.forall_mem_cons.mpr ⟨mc_328, List.forall_mem_cons.mpr ⟨mc_327, List.forall_mem_cons.mpr ⟨mc_362, List.forall_mem_cons.mpr ⟨mc_361, List.forall_mem_cons.mpr ⟨mc_360, List.forall_mem_cons.mpr ⟨mc_359, List.forall_mem_cons.mpr ⟨mc_358, List.forall_mem_cons.mpr ⟨mc_357, List.forall_mem_cons.mpr ⟨mc_356, List.forall_mem_cons.mpr ⟨mc_355, List.forall_mem_cons.mpr ⟨mc_286, List.forall_mem_cons.mpr ⟨mc_322, List.forall_mem_cons.mpr ⟨mc_321, List.forall_mem_cons.mpr ⟨mc_320, List.forall_mem_cons.mpr ⟨mc_876, fun _ h => absurd h List.not_mem_nil⟩⟩⟩⟩⟩⟩⟩⟩⟩⟩⟩⟩⟩⟩⟩⟩⟩⟩⟩⟩⟩⟩⟩⟩
set_option maxRecDepth 100000 in
theorem mT_wsX11_would_r3 : ∀ w ∈ wsX11_would_r3, w ∈ lw_tbl := by
  unfold wsX11_would_r3
  exact List.forall_mem_cons.mpr ⟨mc_875, List.forall_mem_cons.mpr ⟨mc_874, List.forall_mem_cons.mpr ⟨mc_873, List.forall_mem_cons.mpr ⟨mc_872, List.forall_mem_cons.mpr ⟨mc_877, List.forall_mem_cons.mpr ⟨mc_455, List.forall_mem_cons.mpr ⟨mc_454, List.forall_mem_cons.mpr ⟨mc_453, List.forall_mem_cons.mpr ⟨mc_452, List.forall_mem_cons.mpr ⟨mc_451, List.forall_mem_cons.mpr ⟨mc_450, List.forall_mem_cons.mpr ⟨mc_449, List.forall_mem_cons.mpr ⟨mc_448, List.forall_mem_cons.mpr ⟨mc_725, List.forall_mem_cons.mpr ⟨mc_724, List.forall_mem_cons.mpr ⟨mc_723, List.forall_mem_cons.mpr ⟨mc_722, List.forall_mem_cons.mpr ⟨mc_370, List.forall_mem_cons.mpr ⟨mc_369, List.forall_mem_cons.mpr ⟨mc_368, List.forall_mem_cons.mpr ⟨mc_367, List.forall_mem_cons.mpr ⟨mc_334, List.forall_mem_cons.mpr ⟨mc_333, List.forall_mem_cons.mpr ⟨mc_332, fun _ h => absurd h List.not_mem_nil⟩⟩⟩⟩⟩⟩⟩⟩⟩⟩⟩⟩⟩⟩⟩⟩⟩⟩⟩⟩⟩⟩⟩⟩
set_option maxRecDepth 100000 in
theorem mT_wsX11_would_r4 : ∀ w ∈ wsX11_would_r4, w ∈ lw_tbl := by
  unfold wsX11_would_r4
  exact List.forall_mem_cons.mpr ⟨mc_331, List.forall_mem_cons.mpr ⟨mc_721, List.forall_mem_cons.mpr ⟨mc_720, List.forall_mem_cons.mpr ⟨mc_719, List.forall_mem_cons.mpr ⟨mc_718, List.forall_mem_cons.mpr ⟨mc_717, List.forall_mem_cons.mpr ⟨mc_716, List.forall_mem_cons.mpr ⟨mc_715, List.forall_mem_cons.mpr ⟨mc_714, List.forall_mem_cons.mpr ⟨mc_338, List.forall_mem_cons.mpr ⟨mc_337, List.forall_mem_cons.mpr ⟨mc_336, List.forall_mem_cons.mpr ⟨mc_335, List.forall_mem_cons.mpr ⟨mc_713, List.forall_mem_cons.mpr ⟨mc_712, List.forall_mem_cons.mpr ⟨mc_711, List.forall_mem_cons.mpr ⟨mc_710, List.forall_mem_cons.mpr ⟨mc_549, List.forall_mem_cons.mpr ⟨mc_548, List.forall_mem_cons.mpr ⟨mc_547, List.forall_mem_cons.mpr ⟨mc_546, List.forall_mem_cons.mpr ⟨mc_478, List.forall_mem_cons.mpr ⟨mc_477, List.forall_mem_cons.mpr ⟨mc_476, fun _ h => absurd h List.not_mem_nil⟩⟩⟩⟩⟩⟩⟩⟩⟩⟩⟩⟩⟩⟩⟩⟩⟩⟩⟩⟩⟩⟩⟩⟩
set_option maxRecDepth 100000 in
theorem mT_wsX11_would_r5 : ∀ w ∈ wsX11_would_r5, w ∈ lw_tbl := by
  unfold wsX11_would_r5
  exact List.forall_mem_cons.mpr ⟨mc_475, List.forall_mem_cons.mpr ⟨mc_886, List.forall_mem_cons.mpr ⟨mc_885, List.forall_mem_cons.mpr ⟨mc_884, List.forall_mem_cons.mpr ⟨mc_883, List.forall_mem_cons.mpr ⟨mc_149, List.forall_mem_cons.mpr ⟨mc_881, List.forall_mem_cons.mpr ⟨mc_880, List.forall_mem_cons.mpr ⟨mc_879, List.forall_mem_cons.mpr ⟨mc_878, List.forall_mem_cons.mpr ⟨mc_290, List.forall_mem_cons.mpr ⟨mc_289, List.forall_mem_cons.mpr ⟨mc_288, List.forall_mem_cons.mpr ⟨mc_287, List.forall_mem_cons.mpr ⟨mc_560, List.forall_mem_cons.mpr ⟨mc_559, List.forall_mem_cons.mpr ⟨mc_558, List.forall_mem_cons.mpr ⟨mc_557, List.forall_mem_cons.mpr ⟨mc_890, List.forall_mem_cons.mpr ⟨mc_889, List.forall_mem_cons.mpr ⟨mc_888, List.forall_mem_cons.mpr ⟨mc_887, List.forall_mem_cons.mpr ⟨mc_439, List.forall_mem_cons.mpr ⟨mc_470, fun _ h => absurd h List.not_mem_nil⟩⟩⟩⟩⟩⟩⟩⟩⟩⟩⟩⟩⟩⟩⟩⟩⟩⟩⟩⟩⟩⟩⟩⟩
set_option maxRecDepth 100000 in
theorem mT_wsX11_would_r6 : ∀ w ∈ wsX11_would_r6, w ∈ lw_tbl := by
  unfold wsX11_would_r6
  exact List.forall_mem_cons.mpr ⟨mc_469, List.forall_mem_cons.mpr ⟨mc_468, List.forall_mem_cons.mpr ⟨mc_467, List.forall_mem_cons.mpr ⟨mc_466, List.forall_mem_cons.mpr ⟨mc_465, List.forall_mem_cons.mpr ⟨mc_464, List.forall_mem_cons.mpr ⟨mc_175, List.forall_mem_cons.mpr ⟨mc_174, List.forall_mem_cons.mpr ⟨mc_173, List.forall_mem_cons.mpr ⟨mc_172, List.forall_mem_cons.mpr ⟨mc_171, List.forall_mem_cons.mpr ⟨mc_170, List.forall_mem_cons.mpr ⟨mc_169, List.forall_mem_cons.mpr ⟨mc_168, List.forall_mem_cons.mpr ⟨mc_463, List.forall_mem_cons.mpr ⟨mc_462, List.forall_mem_cons.mpr ⟨mc_461, List.forall_mem_cons.mpr ⟨mc_460, List.forall_mem_cons.mpr ⟨mc_459, List.forall_mem_cons.mpr ⟨mc_458, List.forall_mem_cons.mpr ⟨mc_457, List.forall_mem_cons.mpr ⟨mc_456, List.forall_mem_cons.mpr ⟨mc_474, List.forall_mem_cons.mpr ⟨mc_473, fun _ h => absurd h List.not_mem_nil⟩⟩⟩⟩⟩⟩⟩⟩⟩⟩⟩⟩⟩⟩⟩⟩⟩⟩⟩⟩⟩⟩⟩⟩
set_option maxRecDepth 100000 in
theorem mT_wsX11_would_r7 : ∀ w ∈ wsX11_would_r7, w ∈ lw_tbl := by
  unfold wsX11_would_r7
  exact List.forall_mem_cons.mpr ⟨mc_472, List.forall_mem_cons.mpr ⟨mc_471, List.forall_mem_cons.mpr ⟨mc_895, List.forall_mem_cons.mpr ⟨mc_894, List.forall_mem_cons.mpr ⟨mc_893, List.forall_mem_cons.mpr ⟨mc_892, List.forall_mem_cons.mpr ⟨mc_899, List.forall_mem_cons.mpr ⟨mc_898, List.forall_mem_cons.mpr ⟨mc_897, List.forall_mem_cons.mpr ⟨mc_896, List.forall_mem_cons.mpr ⟨mc_311, List.forall_mem_cons.mpr ⟨mc_310, List.forall_mem_cons.mpr ⟨mc_309, List.forall_mem_cons.mpr ⟨mc_308, List.forall_mem_cons.mpr ⟨mc_307, List.forall_mem_cons.mpr ⟨mc_306, List.forall_mem_cons.mpr ⟨mc_305, List.forall_mem_cons.mpr ⟨mc_304, List.forall_mem_cons.mpr ⟨mc_303, List.forall_mem_cons.mpr ⟨mc_302, List.forall_mem_cons.mpr ⟨mc_301, List.forall_mem_cons.mpr ⟨mc_300, List.forall_mem_cons.mpr ⟨mc_299, List.forall_mem_cons.mpr ⟨mc_346, fun _ h => absurd h List.not_mem_nil⟩⟩⟩⟩⟩⟩⟩⟩⟩⟩⟩⟩⟩⟩⟩⟩⟩⟩⟩⟩⟩⟩⟩⟩
set_option maxRecDepth 100000 in
theorem mT_wsX11_would_r8 : ∀ w ∈ wsX11_would_r8, w ∈ lw_tbl := by
  unfold wsX11_would_r8
  exact List.forall_mem_cons.mpr ⟨mc_345, List.forall_mem_cons.mpr ⟨mc_344, List.forall_mem_cons.mpr ⟨mc_343, List.forall_mem_cons.mpr ⟨mc_342, List.forall_mem_cons.mpr ⟨mc_341, List.forall_mem_cons.mpr ⟨mc_340, List.forall_mem_cons.mpr ⟨mc_339, List.forall_mem_cons.mpr ⟨mc_908, List.forall_mem_cons.mpr ⟨mc_907, List.forall_mem_cons.mpr ⟨mc_906, List.forall_mem_cons.mpr ⟨mc_905, List.forall_mem_cons.mpr ⟨mc_904, List.forall_mem_cons.mpr ⟨mc_903, List.forall_mem_cons.mpr ⟨mc_902, List.forall_mem_cons.mpr ⟨mc_901, List.forall_mem_cons.mpr ⟨mc_545, List.forall_mem_cons.mpr ⟨mc_556, List.forall_mem_cons.mpr ⟨mc_555, List.forall_mem_cons.mpr ⟨mc_554, List.forall_mem_cons.mpr ⟨mc_553, List.forall_mem_cons.mpr ⟨mc_552, List.forall_mem_cons.mpr ⟨mc_551, List.forall_mem_cons.mpr ⟨mc_550, List.forall_mem_cons.mpr ⟨mc_564, fun _ h => absurd h List.not_mem_nil⟩⟩⟩⟩⟩⟩⟩⟩⟩⟩⟩⟩⟩⟩⟩⟩⟩⟩⟩⟩⟩⟩⟩⟩
set_option maxRecDepth 100000 in
theorem mT_wsX11_would_r9 : ∀ w ∈ wsX11_would_r9, w ∈ lw_tbl := by
  unfold wsX11_would_r9
  exact List.forall_mem_cons.mpr ⟨mc_563, List.forall_mem_cons.mpr ⟨mc_562, List.forall_mem_cons.mpr ⟨mc_561, List.forall_mem_cons.mpr ⟨mc_1157, List.forall_mem_cons.mpr ⟨mc_1156, List.forall_mem_cons.mpr ⟨mc_1155, List.forall_mem_cons.mpr ⟨mc_1154, fun _ h => absurd h List.not_mem_nil⟩⟩⟩⟩⟩⟩⟩
set_option maxRecDepth 100000 in
theorem mT_wsX11_would : ∀ w ∈ wsX11_would, w ∈ lw_tbl := by
  unfold wsX11_would
  exact List.forall_mem_cons.mpr ⟨mc_1281, List.forall_mem_append.mpr ⟨List.forall_mem_append.mpr ⟨mT_wsX11_would_r1, List.forall_mem_append.mpr ⟨mT_wsX11_would_r2, List.forall_mem_append.mpr ⟨mT_wsX11_would_r3, List.forall_mem_append.mpr ⟨mT_wsX11_would_r4, List.forall_mem_append.mpr ⟨mT_wsX11_would_r5, List.forall_mem_append.mpr ⟨mT_wsX11_would_r6, List.forall_mem_append.mpr ⟨mT_wsX11_would_r7, List.forall_mem_append.mpr ⟨mT_wsX11_would_r8, mT_wsX11_would_r9⟩⟩⟩⟩⟩⟩⟩⟩, inX11⟩⟩
theorem mc_1282 : Cond.selects RX11 yX11_would yX11_would ∈ lw_tbl := mt_7 _ (List.mem_of_getElem? (i := 78) rfl)
theorem mc_1283 : Cond.instanceMethod yX11_would ∈ lw_tbl := mt_7 _ (List.mem_of_getElem? (i := 77) rfl)
theorem mc_1284 : Cond.methodLink RL 104 yX11_would ∈ lw_tbl := mt_7 _ (List.mem_of_getElem? (i := 76) rfl)
set_option maxRecDepth 100000 in
theorem gT_X11_would : GoodIn lw_tbl (wsV RL 104 RX11 yX11_would wsX11_would) := goodIn_sub (List.forall_mem_append.mpr ⟨List.forall_mem_cons.mpr ⟨mc_1284, List.forall_mem_cons.mpr ⟨mc_1283, List.forall_mem_cons.mpr ⟨mc_1282, List.forall_mem_cons.mpr ⟨mc_155, fun _ h => absurd h List.not_mem_nil⟩⟩⟩⟩, mT_wsX11_would⟩) (by decide +kernel)
theorem mc_1285 : Cond.code yX10_victim cX10_victim 5 (some .int) ∈ lw_tbl := mt_5 _ (List.mem_of_getElem? (i := 81) rfl)
set_option maxRecDepth 100000 in
theorem mT_wsX10_victim_r1 : ∀ w ∈ wsX10_victim_r1, w ∈ lw_tbl := by
  unfold wsX10_victim_r1
  exact List.forall_mem_cons.mpr ⟨mc_18, List.forall_mem_cons.mpr ⟨mc_1148, List.forall_mem_cons.mpr ⟨mc_1189, List.forall_mem_cons.mpr ⟨mc_1195, List.forall_mem_cons.mpr ⟨mc_1194, List.forall_mem_cons.mpr ⟨mc_36, List.forall_mem_cons.mpr ⟨mc_1193, List.forall_mem_cons.mpr ⟨mc_78, List.forall_mem_cons.mpr ⟨mc_1180, List.forall_mem_cons.mpr ⟨mc_1179, List.forall_mem_cons.mpr ⟨mc_1178, List.forall_mem_cons.mpr ⟨mc_19, List.forall_mem_cons.mpr ⟨mc_1177, List.forall_mem_cons.mpr ⟨mc_39, List.forall_mem_cons.mpr ⟨mc_202, List.forall_mem_cons.mpr ⟨mc_47, List.forall_mem_cons.mpr ⟨mc_190, List.forall_mem_cons.mpr ⟨mc_250, List.forall_mem_cons.mpr ⟨mc_1176, List.forall_mem_cons.mpr ⟨mc_1192, List.forall_mem_cons.mpr ⟨mc_1191, List.forall_mem_cons.mpr ⟨mc_48, List.forall_mem_cons.mpr ⟨mc_1190, List.forall_mem_cons.mpr ⟨mc_570, fun _ h => absurd h List.not_mem_nil⟩⟩⟩⟩⟩⟩⟩⟩⟩⟩⟩⟩⟩⟩⟩⟩⟩⟩⟩⟩⟩⟩⟩⟩
set_option maxRecDepth 100000 in
theorem mT_wsX10_victim_r2 : ∀ w ∈ wsX10_victim_r2, w ∈ lw_tbl := by
  unfold wsX10_victim_r2
  exact List.forall_mem_cons.mpr ⟨mc_569, List.forall_mem_cons.mpr ⟨mc_524, List.forall_mem_cons.mpr ⟨mc_523, List.forall_mem_cons.mpr ⟨mc_522, List.forall_mem_cons.mpr ⟨mc_237, List.forall_mem_cons.mpr ⟨mc_236, List.forall_mem_cons.mpr ⟨mc_235, List.forall_mem_cons.mpr ⟨mc_234, List.forall_mem_cons.mpr ⟨mc_64, List.forall_mem_cons.mpr ⟨mc_65, List.forall_mem_cons.mpr ⟨mc_579, List.forall_mem_cons.mpr ⟨mc_539, List.forall_mem_cons.mpr ⟨mc_538, List.forall_mem_cons.mpr ⟨mc_537, List.forall_mem_cons.mpr ⟨mc_536, List.forall_mem_cons.mpr ⟨mc_530, List.forall_mem_cons.mpr ⟨mc_529, List.forall_mem_cons.mpr ⟨mc_528, fun _ h => absurd h List.not_mem_nil⟩⟩⟩⟩⟩⟩⟩⟩⟩⟩⟩⟩⟩⟩⟩⟩⟩⟩
set_option maxRecDepth 100000 in
theorem mT_wsX10_victim : ∀ w ∈ wsX10_victim, w ∈ lw_tbl := by
  unfold wsX10_victim
  exact List.forall_mem_cons.mpr ⟨mc_1285, List.forall_mem_append.mpr ⟨List.forall_mem_append.mpr ⟨List.forall_mem_append.mpr ⟨List.forall_mem_append.mpr ⟨List.forall_mem_append.mpr ⟨List.forall_mem_append.mpr ⟨mT_wsX10_victim_r1, mT_wsX10_victim_r2⟩, inX10⟩, inX9⟩, inX0⟩, inX5⟩, inX2⟩⟩
theorem mc_1286 : Cond.selects RX10 yX10_victim yX10_victim ∈ lw_tbl := mt_5 _ (List.mem_of_getElem? (i := 80) rfl)
theorem mc_1287 : Cond.instanceMethod yX10_victim ∈ lw_tbl := mt_5 _ (List.mem_of_getElem? (i := 79) rfl)
theorem mc_1288 : Cond.methodLink RL 105 yX10_victim ∈ lw_tbl := mt_5 _ (List.mem_of_getElem? (i := 78) rfl)
set_option maxRecDepth 100000 in
theorem gT_X10_victim : GoodIn lw_tbl (wsV RL 105 RX10 yX10_victim wsX10_victim) := goodIn_sub (List.forall_mem_append.mpr ⟨List.forall_mem_cons.mpr ⟨mc_1288, List.forall_mem_cons.mpr ⟨mc_1287, List.forall_mem_cons.mpr ⟨mc_1286, List.forall_mem_cons.mpr ⟨mc_139, fun _ h => absurd h List.not_mem_nil⟩⟩⟩⟩, mT_wsX10_victim⟩) (by decide +kernel)
theorem mc_1289 : Cond.code yX11_victim cX11_victim 3 (some .int) ∈ lw_tbl := mt_7 _ (List.mem_of_getElem? (i := 87) rfl)
set_option maxRecDepth 100000 in
theorem mT_wsX11_victim_r1 : ∀ w ∈ wsX11_victim_r1, w ∈ lw_tbl := by
  unfold wsX11_victim_r1
  exact List.forall_mem_cons.mpr ⟨mc_184, List.forall_mem_cons.mpr ⟨mc_1207, List.forall_mem_cons.mpr ⟨mc_1206, List.forall_mem_cons.mpr ⟨mc_1205, List.forall_mem_cons.mpr ⟨mc_155, List.forall_mem_cons.mpr ⟨mc_1204, List.forall_mem_cons.mpr ⟨mc_151, List.forall_mem_cons.mpr ⟨mc_451, List.forall_mem_cons.mpr ⟨mc_450, List.forall_mem_cons.mpr ⟨mc_449, List.forall_mem_cons.mpr ⟨mc_448, List.forall_mem_cons.mpr ⟨mc_1203, List.forall_mem_cons.mpr ⟨mc_1202, List.forall_mem_cons.mpr ⟨mc_1201, List.forall_mem_cons.mpr ⟨mc_1200, List.forall_mem_cons.mpr ⟨mc_290, List.forall_mem_cons.mpr ⟨mc_289, List.forall_mem_cons.mpr ⟨mc_288, List.forall_mem_cons.mpr ⟨mc_287, List.forall_mem_cons.mpr ⟨mc_286, List.forall_mem_cons.mpr ⟨mc_322, List.forall_mem_cons.mpr ⟨mc_321, List.forall_mem_cons.mpr ⟨mc_320, List.forall_mem_cons.mpr ⟨mc_545, fun _ h => absurd h List.not_mem_nil⟩⟩⟩⟩⟩⟩⟩⟩⟩⟩⟩⟩⟩⟩⟩⟩⟩⟩⟩⟩⟩⟩⟩⟩
set_option maxRecDepth 100000 in
theorem mT_wsX11_victim_r2 : ∀ w ∈ wsX11_victim_r2, w ∈ lw_tbl := by
  unfold wsX11_victim_r2
  exact List.forall_mem_cons.mpr ⟨mc_556, List.forall_mem_cons.mpr ⟨mc_555, List.forall_mem_cons.mpr ⟨mc_554, List.forall_mem_cons.mpr ⟨mc_334, List.forall_mem_cons.mpr ⟨mc_333, List.forall_mem_cons.mpr ⟨mc_332, List.forall_mem_cons.mpr ⟨mc_331, List.forall_mem_cons.mpr ⟨mc_564, List.forall_mem_cons.mpr ⟨mc_563, List.forall_mem_cons.mpr ⟨mc_562, List.forall_mem_cons.mpr ⟨mc_561, List.forall_mem_cons.mpr ⟨mc_560, List.forall_mem_cons.mpr ⟨mc_559, List.forall_mem_cons.mpr ⟨mc_558, List.forall_mem_cons.mpr ⟨mc_557, fun _ h => absurd h List.not_mem_nil⟩⟩⟩⟩⟩⟩⟩⟩⟩⟩⟩⟩⟩⟩⟩
set_option maxRecDepth 100000 in
theorem mT_wsX11_victim : ∀ w ∈ wsX11_victim, w ∈ lw_tbl := by
  unfold wsX11_victim
  exact List.forall_mem_cons.mpr ⟨mc_1289, List.forall_mem_append.mpr ⟨List.forall_mem_append.mpr ⟨mT_wsX11_victim_r1, mT_wsX11_victim_r2⟩, inX11⟩⟩
theorem mc_1290 : Cond.selects RX11 yX11_victim yX11_victim ∈ lw_tbl := mt_7 _ (List.mem_of_getElem? (i := 86) rfl)
theorem mc_1291 : Cond.instanceMethod yX11_victim ∈ lw_tbl := mt_7 _ (List.mem_of_getElem? (i := 85) rfl)
theorem mc_1292 : Cond.methodLink RL 108 yX11_victim ∈ lw_tbl := mt_7 _ (List.mem_of_getElem? (i := 84) rfl)
set_option maxRecDepth 100000 in
theorem gT_X11_victim : GoodIn lw_tbl (wsV RL 108 RX11 yX11_victim wsX11_victim) := goodIn_sub (List.forall_mem_append.mpr ⟨List.forall_mem_cons.mpr ⟨mc_1292, List.forall_mem_cons.mpr ⟨mc_1291, List.forall_mem_cons.mpr ⟨mc_1290, List.forall_mem_cons.mpr ⟨mc_155, fun _ h => absurd h List.not_mem_nil⟩⟩⟩⟩, mT_wsX11_victim⟩) (by decide +kernel)
theorem mc_1293 : Cond.code yX10_ship cX10_ship 2 (some .int) ∈ lw_tbl := mt_5 _ (List.mem_of_getElem? (i := 85) rfl)
theorem mc_1294 : Cond.methodLink RX7 36 yX2_wholeAt ∈ lw_tbl := mt_5 _ (List.mem_of_getElem? (i := 91) rfl)
theorem mc_1295 : Cond.methodLink RX7 30 Lib.Math.min.name ∈ lw_tbl := mt_5 _ (List.mem_of_getElem? (i := 90) rfl)
theorem mc_1296 : Cond.fieldLink RX7 25 "AheadStore$Journal" "flushedPlace" "I" ∈ lw_tbl := mt_1 _ (List.mem_of_getElem? (i := 48) rfl)
theorem mc_1297 : Cond.code yX7_take cX7_take 4 none ∈ lw_tbl := mt_5 _ (List.mem_of_getElem? (i := 89) rfl)
theorem mc_1298 : Cond.selects RX7 yX7_take yX7_take ∈ lw_tbl := mt_5 _ (List.mem_of_getElem? (i := 88) rfl)
theorem mc_1299 : Cond.instanceMethod yX7_take ∈ lw_tbl := mt_5 _ (List.mem_of_getElem? (i := 87) rfl)
theorem mc_1300 : Cond.methodLink RX10 285 yX7_take ∈ lw_tbl := mt_5 _ (List.mem_of_getElem? (i := 86) rfl)
theorem mc_1301 : Cond.fieldLink RX10 291 "AheadStore$Standby" "received" "I" ∈ lw_tbl := mt_1 _ (List.mem_of_getElem? (i := 191) rfl)
theorem mc_1302 : Cond.fieldLink RX10 281 "AheadStore$World" "standby" "LAheadStore$Standby;" ∈ lw_tbl := mt_1 _ (List.mem_of_getElem? (i := 236) rfl)
set_option maxRecDepth 100000 in
theorem mT_wsX10_ship_r1 : ∀ w ∈ wsX10_ship_r1, w ∈ lw_tbl := by
  unfold wsX10_ship_r1
  exact List.forall_mem_cons.mpr ⟨mc_18, List.forall_mem_cons.mpr ⟨mc_1302, List.forall_mem_cons.mpr ⟨mc_1214, List.forall_mem_cons.mpr ⟨mc_1301, List.forall_mem_cons.mpr ⟨mc_1300, List.forall_mem_cons.mpr ⟨mc_1299, List.forall_mem_cons.mpr ⟨mc_1298, List.forall_mem_cons.mpr ⟨mc_32, List.forall_mem_cons.mpr ⟨mc_1297, List.forall_mem_cons.mpr ⟨mc_116, List.forall_mem_cons.mpr ⟨mc_1296, List.forall_mem_cons.mpr ⟨mc_1295, List.forall_mem_cons.mpr ⟨mc_746, List.forall_mem_cons.mpr ⟨mc_610, List.forall_mem_cons.mpr ⟨mc_745, List.forall_mem_cons.mpr ⟨mc_115, List.forall_mem_cons.mpr ⟨mc_118, List.forall_mem_cons.mpr ⟨mc_117, List.forall_mem_cons.mpr ⟨mc_1294, List.forall_mem_cons.mpr ⟨mc_591, List.forall_mem_cons.mpr ⟨mc_590, List.forall_mem_cons.mpr ⟨mc_48, List.forall_mem_cons.mpr ⟨mc_589, List.forall_mem_cons.mpr ⟨mc_64, fun _ h => absurd h List.not_mem_nil⟩⟩⟩⟩⟩⟩⟩⟩⟩⟩⟩⟩⟩⟩⟩⟩⟩⟩⟩⟩⟩⟩⟩⟩
theorem mc_1303 : Cond.methodLink RX7 47 yX2_addressAt ∈ lw_tbl := mt_5 _ (List.mem_of_getElem? (i := 94) rfl)
theorem mc_1304 : Cond.methodLink RX7 44 yX2_touches ∈ lw_tbl := mt_5 _ (List.mem_of_getElem? (i := 93) rfl)
theorem mc_1305 : Cond.methodLink RX7 40 yX2_behind ∈ lw_tbl := mt_5 _ (List.mem_of_getElem? (i := 92) rfl)
set_option maxRecDepth 100000 in
theorem mT_wsX10_ship_r2 : ∀ w ∈ wsX10_ship_r2, w ∈ lw_tbl := by
  unfold wsX10_ship_r2
  exact List.forall_mem_cons.mpr ⟨mc_65, List.forall_mem_cons.mpr ⟨mc_237, List.forall_mem_cons.mpr ⟨mc_236, List.forall_mem_cons.mpr ⟨mc_235, List.forall_mem_cons.mpr ⟨mc_234, List.forall_mem_cons.mpr ⟨mc_588, List.forall_mem_cons.mpr ⟨mc_619, List.forall_mem_cons.mpr ⟨mc_618, List.forall_mem_cons.mpr ⟨mc_617, List.forall_mem_cons.mpr ⟨mc_1305, List.forall_mem_cons.mpr ⟨mc_615, List.forall_mem_cons.mpr ⟨mc_614, List.forall_mem_cons.mpr ⟨mc_613, List.forall_mem_cons.mpr ⟨mc_612, List.forall_mem_cons.mpr ⟨mc_611, List.forall_mem_cons.mpr ⟨mc_609, List.forall_mem_cons.mpr ⟨mc_1304, List.forall_mem_cons.mpr ⟨mc_679, List.forall_mem_cons.mpr ⟨mc_678, List.forall_mem_cons.mpr ⟨mc_677, List.forall_mem_cons.mpr ⟨mc_1303, List.forall_mem_cons.mpr ⟨mc_429, List.forall_mem_cons.mpr ⟨mc_428, List.forall_mem_cons.mpr ⟨mc_427, fun _ h => absurd h List.not_mem_nil⟩⟩⟩⟩⟩⟩⟩⟩⟩⟩⟩⟩⟩⟩⟩⟩⟩⟩⟩⟩⟩⟩⟩⟩
theorem mc_1306 : Cond.methodLink RX7 50 yX2_done ∈ lw_tbl := mt_5 _ (List.mem_of_getElem? (i := 95) rfl)
set_option maxRecDepth 100000 in
theorem mT_wsX10_ship_r3 : ∀ w ∈ wsX10_ship_r3, w ∈ lw_tbl := by
  unfold wsX10_ship_r3
  exact List.forall_mem_cons.mpr ⟨mc_1306, List.forall_mem_cons.mpr ⟨mc_425, List.forall_mem_cons.mpr ⟨mc_424, List.forall_mem_cons.mpr ⟨mc_423, fun _ h => absurd h List.not_mem_nil⟩⟩⟩⟩
set_option maxRecDepth 100000 in
theorem mT_wsX10_ship : ∀ w ∈ wsX10_ship, w ∈ lw_tbl := by
  unfold wsX10_ship
  exact List.forall_mem_cons.mpr ⟨mc_1293, List.forall_mem_append.mpr ⟨List.forall_mem_append.mpr ⟨List.forall_mem_append.mpr ⟨List.forall_mem_append.mpr ⟨List.forall_mem_append.mpr ⟨mT_wsX10_ship_r1, List.forall_mem_append.mpr ⟨mT_wsX10_ship_r2, mT_wsX10_ship_r3⟩⟩, inX10⟩, inX9⟩, inX7⟩, inX2⟩⟩
theorem mc_1307 : Cond.selects RX10 yX10_ship yX10_ship ∈ lw_tbl := mt_5 _ (List.mem_of_getElem? (i := 84) rfl)
theorem mc_1308 : Cond.instanceMethod yX10_ship ∈ lw_tbl := mt_5 _ (List.mem_of_getElem? (i := 83) rfl)
theorem mc_1309 : Cond.methodLink RL 109 yX10_ship ∈ lw_tbl := mt_5 _ (List.mem_of_getElem? (i := 82) rfl)
set_option maxRecDepth 100000 in
theorem gT_X10_ship : GoodIn lw_tbl (wsV RL 109 RX10 yX10_ship wsX10_ship) := goodIn_sub (List.forall_mem_append.mpr ⟨List.forall_mem_cons.mpr ⟨mc_1309, List.forall_mem_cons.mpr ⟨mc_1308, List.forall_mem_cons.mpr ⟨mc_1307, List.forall_mem_cons.mpr ⟨mc_139, fun _ h => absurd h List.not_mem_nil⟩⟩⟩⟩, mT_wsX10_ship⟩) (by decide +kernel)
theorem mc_1310 : Cond.code yX11_ship cX11_ship 4 (some .int) ∈ lw_tbl := mt_7 _ (List.mem_of_getElem? (i := 99) rfl)
set_option maxRecDepth 100000 in
theorem mT_wsX11_ship_r1 : ∀ w ∈ wsX11_ship_r1, w ∈ lw_tbl := by
  unfold wsX11_ship_r1
  exact List.forall_mem_cons.mpr ⟨mc_184, List.forall_mem_cons.mpr ⟨mc_151, List.forall_mem_cons.mpr ⟨mc_179, List.forall_mem_cons.mpr ⟨mc_178, List.forall_mem_cons.mpr ⟨mc_177, List.forall_mem_cons.mpr ⟨mc_155, List.forall_mem_cons.mpr ⟨mc_176, List.forall_mem_cons.mpr ⟨mc_772, List.forall_mem_cons.mpr ⟨mc_779, List.forall_mem_cons.mpr ⟨mc_778, List.forall_mem_cons.mpr ⟨mc_777, List.forall_mem_cons.mpr ⟨mc_721, List.forall_mem_cons.mpr ⟨mc_720, List.forall_mem_cons.mpr ⟨mc_719, List.forall_mem_cons.mpr ⟨mc_718, List.forall_mem_cons.mpr ⟨mc_315, List.forall_mem_cons.mpr ⟨mc_314, List.forall_mem_cons.mpr ⟨mc_313, List.forall_mem_cons.mpr ⟨mc_312, List.forall_mem_cons.mpr ⟨mc_717, List.forall_mem_cons.mpr ⟨mc_716, List.forall_mem_cons.mpr ⟨mc_715, List.forall_mem_cons.mpr ⟨mc_714, List.forall_mem_cons.mpr ⟨mc_334, fun _ h => absurd h List.not_mem_nil⟩⟩⟩⟩⟩⟩⟩⟩⟩⟩⟩⟩⟩⟩⟩⟩⟩⟩⟩⟩⟩⟩⟩⟩
set_option maxRecDepth 100000 in
theorem mT_wsX11_ship_r2 : ∀ w ∈ wsX11_ship_r2, w ∈ lw_tbl := by
  unfold wsX11_ship_r2
  exact List.forall_mem_cons.mpr ⟨mc_333, List.forall_mem_cons.mpr ⟨mc_332, List.forall_mem_cons.mpr ⟨mc_331, List.forall_mem_cons.mpr ⟨mc_338, List.forall_mem_cons.mpr ⟨mc_337, List.forall_mem_cons.mpr ⟨mc_336, List.forall_mem_cons.mpr ⟨mc_335, List.forall_mem_cons.mpr ⟨mc_713, List.forall_mem_cons.mpr ⟨mc_712, List.forall_mem_cons.mpr ⟨mc_711, List.forall_mem_cons.mpr ⟨mc_710, List.forall_mem_cons.mpr ⟨mc_549, List.forall_mem_cons.mpr ⟨mc_548, List.forall_mem_cons.mpr ⟨mc_547, List.forall_mem_cons.mpr ⟨mc_546, List.forall_mem_cons.mpr ⟨mc_478, List.forall_mem_cons.mpr ⟨mc_477, List.forall_mem_cons.mpr ⟨mc_476, List.forall_mem_cons.mpr ⟨mc_475, fun _ h => absurd h List.not_mem_nil⟩⟩⟩⟩⟩⟩⟩⟩⟩⟩⟩⟩⟩⟩⟩⟩⟩⟩⟩
set_option maxRecDepth 100000 in
theorem mT_wsX11_ship : ∀ w ∈ wsX11_ship, w ∈ lw_tbl := by
  unfold wsX11_ship
  exact List.forall_mem_cons.mpr ⟨mc_1310, List.forall_mem_append.mpr ⟨List.forall_mem_append.mpr ⟨mT_wsX11_ship_r1, mT_wsX11_ship_r2⟩, inX11⟩⟩
theorem mc_1311 : Cond.selects RX11 yX11_ship yX11_ship ∈ lw_tbl := mt_7 _ (List.mem_of_getElem? (i := 98) rfl)
theorem mc_1312 : Cond.instanceMethod yX11_ship ∈ lw_tbl := mt_7 _ (List.mem_of_getElem? (i := 97) rfl)
theorem mc_1313 : Cond.methodLink RL 112 yX11_ship ∈ lw_tbl := mt_7 _ (List.mem_of_getElem? (i := 96) rfl)
set_option maxRecDepth 100000 in
theorem gT_X11_ship : GoodIn lw_tbl (wsV RL 112 RX11 yX11_ship wsX11_ship) := goodIn_sub (List.forall_mem_append.mpr ⟨List.forall_mem_cons.mpr ⟨mc_1313, List.forall_mem_cons.mpr ⟨mc_1312, List.forall_mem_cons.mpr ⟨mc_1311, List.forall_mem_cons.mpr ⟨mc_155, fun _ h => absurd h List.not_mem_nil⟩⟩⟩⟩, mT_wsX11_ship⟩) (by decide +kernel)
theorem mc_1314 : Cond.code yX10_stand cX10_stand 3 (some .int) ∈ lw_tbl := mt_5 _ (List.mem_of_getElem? (i := 99) rfl)
theorem mc_1315 : Cond.methodLink RX1 18 yX5_clear ∈ lw_tbl := mt_5 _ (List.mem_of_getElem? (i := 104) rfl)
theorem mc_1316 : Cond.fieldLink RX1 37 "AheadStore$Standby" "row" "[I" ∈ lw_tbl := mt_1 _ (List.mem_of_getElem? (i := 185) rfl)
theorem mc_1317 : Cond.fieldLink RX1 21 "AheadStore$Standby" "done" "I" ∈ lw_tbl := mt_1 _ (List.mem_of_getElem? (i := 193) rfl)
theorem mc_1318 : Cond.code yX1_takenOver cX1_takenOver 5 (some .int) ∈ lw_tbl := mt_5 _ (List.mem_of_getElem? (i := 103) rfl)
theorem mc_1319 : Cond.selects RX1 yX1_takenOver yX1_takenOver ∈ lw_tbl := mt_5 _ (List.mem_of_getElem? (i := 102) rfl)
theorem mc_1320 : Cond.instanceMethod yX1_takenOver ∈ lw_tbl := mt_5 _ (List.mem_of_getElem? (i := 101) rfl)
theorem mc_1321 : Cond.methodLink RX10 297 yX1_takenOver ∈ lw_tbl := mt_5 _ (List.mem_of_getElem? (i := 100) rfl)
theorem mc_1322 : Cond.fieldLink RX10 301 "AheadStore$Standby" "stamps" "[I" ∈ lw_tbl := mt_1 _ (List.mem_of_getElem? (i := 188) rfl)
theorem mc_1323 : Cond.fieldLink RX10 294 "AheadStore$Standby" "row" "[I" ∈ lw_tbl := mt_1 _ (List.mem_of_getElem? (i := 186) rfl)
set_option maxRecDepth 100000 in
theorem mT_wsX10_stand_r1 : ∀ w ∈ wsX10_stand_r1, w ∈ lw_tbl := by
  unfold wsX10_stand_r1
  exact List.forall_mem_cons.mpr ⟨mc_18, List.forall_mem_cons.mpr ⟨mc_1302, List.forall_mem_cons.mpr ⟨mc_1323, List.forall_mem_cons.mpr ⟨mc_6, List.forall_mem_cons.mpr ⟨mc_1214, List.forall_mem_cons.mpr ⟨mc_1322, List.forall_mem_cons.mpr ⟨mc_1321, List.forall_mem_cons.mpr ⟨mc_1320, List.forall_mem_cons.mpr ⟨mc_1319, List.forall_mem_cons.mpr ⟨mc_7, List.forall_mem_cons.mpr ⟨mc_1318, List.forall_mem_cons.mpr ⟨mc_121, List.forall_mem_cons.mpr ⟨mc_1317, List.forall_mem_cons.mpr ⟨mc_1316, List.forall_mem_cons.mpr ⟨mc_1315, List.forall_mem_cons.mpr ⟨mc_757, List.forall_mem_cons.mpr ⟨mc_756, List.forall_mem_cons.mpr ⟨mc_40, List.forall_mem_cons.mpr ⟨mc_755, List.forall_mem_cons.mpr ⟨mc_86, List.forall_mem_cons.mpr ⟨mc_85, List.forall_mem_cons.mpr ⟨mc_84, List.forall_mem_cons.mpr ⟨mc_754, List.forall_mem_cons.mpr ⟨mc_92, fun _ h => absurd h List.not_mem_nil⟩⟩⟩⟩⟩⟩⟩⟩⟩⟩⟩⟩⟩⟩⟩⟩⟩⟩⟩⟩⟩⟩⟩⟩
theorem mc_1324 : Cond.methodLink RX1 27 yX5_learn ∈ lw_tbl := mt_5 _ (List.mem_of_getElem? (i := 105) rfl)
set_option maxRecDepth 100000 in
theorem mT_wsX10_stand_r2 : ∀ w ∈ wsX10_stand_r2, w ∈ lw_tbl := by
  unfold wsX10_stand_r2
  exact List.forall_mem_cons.mpr ⟨mc_91, List.forall_mem_cons.mpr ⟨mc_90, List.forall_mem_cons.mpr ⟨mc_1324, List.forall_mem_cons.mpr ⟨mc_817, List.forall_mem_cons.mpr ⟨mc_816, List.forall_mem_cons.mpr ⟨mc_815, List.forall_mem_cons.mpr ⟨mc_814, List.forall_mem_cons.mpr ⟨mc_236, List.forall_mem_cons.mpr ⟨mc_235, List.forall_mem_cons.mpr ⟨mc_48, List.forall_mem_cons.mpr ⟨mc_234, List.forall_mem_cons.mpr ⟨mc_64, List.forall_mem_cons.mpr ⟨mc_65, List.forall_mem_cons.mpr ⟨mc_813, List.forall_mem_cons.mpr ⟨mc_812, List.forall_mem_cons.mpr ⟨mc_811, List.forall_mem_cons.mpr ⟨mc_810, List.forall_mem_cons.mpr ⟨mc_201, List.forall_mem_cons.mpr ⟨mc_139, List.forall_mem_cons.mpr ⟨mc_200, List.forall_mem_cons.mpr ⟨mc_809, List.forall_mem_cons.mpr ⟨mc_530, List.forall_mem_cons.mpr ⟨mc_529, List.forall_mem_cons.mpr ⟨mc_528, fun _ h => absurd h List.not_mem_nil⟩⟩⟩⟩⟩⟩⟩⟩⟩⟩⟩⟩⟩⟩⟩⟩⟩⟩⟩⟩⟩⟩⟩⟩
theorem mc_1325 : Cond.methodLink RX1 55 yX5_startUndo ∈ lw_tbl := mt_5 _ (List.mem_of_getElem? (i := 111) rfl)
theorem mc_1326 : Cond.fieldLink RX1 63 "AheadStore$Roster" "cursor" "[I" ∈ lw_tbl := mt_1 _ (List.mem_of_getElem? (i := 131) rfl)
theorem mc_1327 : Cond.constant RX1 58 (1000000) ∈ lw_tbl := mt_5 _ (List.mem_of_getElem? (i := 112) rfl)
theorem mc_1328 : Cond.code yX1_rolledBack cX1_rolledBack 8 (some .int) ∈ lw_tbl := mt_5 _ (List.mem_of_getElem? (i := 110) rfl)
theorem mc_1329 : Cond.selects RX1 yX1_rolledBack yX1_rolledBack ∈ lw_tbl := List.mem_append_left _ (List.mem_map.mpr ⟨(yX1_rolledBack, 1), List.mem_of_getElem? (i := 22) rfl, rfl⟩)
theorem mc_1330 : Cond.instanceMethod yX1_rolledBack ∈ lw_tbl := mt_5 _ (List.mem_of_getElem? (i := 109) rfl)
theorem mc_1331 : Cond.methodLink RX1 41 yX1_rolledBack ∈ lw_tbl := mt_5 _ (List.mem_of_getElem? (i := 107) rfl)
theorem mc_1332 : Cond.methodLink RX1 31 yX2_behind ∈ lw_tbl := mt_5 _ (List.mem_of_getElem? (i := 106) rfl)
set_option maxRecDepth 100000 in
theorem mT_wsX10_stand_r3 : ∀ w ∈ wsX10_stand_r3, w ∈ lw_tbl := by
  unfold wsX10_stand_r3
  exact List.forall_mem_cons.mpr ⟨mc_237, List.forall_mem_cons.mpr ⟨mc_808, List.forall_mem_cons.mpr ⟨mc_228, List.forall_mem_cons.mpr ⟨mc_227, List.forall_mem_cons.mpr ⟨mc_226, List.forall_mem_cons.mpr ⟨mc_1332, List.forall_mem_cons.mpr ⟨mc_615, List.forall_mem_cons.mpr ⟨mc_614, List.forall_mem_cons.mpr ⟨mc_613, List.forall_mem_cons.mpr ⟨mc_612, List.forall_mem_cons.mpr ⟨mc_611, List.forall_mem_cons.mpr ⟨mc_610, List.forall_mem_cons.mpr ⟨mc_609, List.forall_mem_cons.mpr ⟨mc_1331, List.forall_mem_cons.mpr ⟨mc_1330, List.forall_mem_cons.mpr ⟨mc_1329, List.forall_mem_cons.mpr ⟨mc_1328, List.forall_mem_cons.mpr ⟨mc_1327, List.forall_mem_cons.mpr ⟨mc_1326, List.forall_mem_cons.mpr ⟨mc_1325, List.forall_mem_cons.mpr ⟨mc_821, List.forall_mem_cons.mpr ⟨mc_820, List.forall_mem_cons.mpr ⟨mc_845, List.forall_mem_cons.mpr ⟨mc_844, fun _ h => absurd h List.not_mem_nil⟩⟩⟩⟩⟩⟩⟩⟩⟩⟩⟩⟩⟩⟩⟩⟩⟩⟩⟩⟩⟩⟩⟩⟩
theorem mc_1333 : Cond.methodLink RX1 76 yX2_onward ∈ lw_tbl := mt_5 _ (List.mem_of_getElem? (i := 121) rfl)
theorem mc_1334 : Cond.code yX2_undone cX2_undone 3 (some .int) ∈ lw_tbl := mt_5 _ (List.mem_of_getElem? (i := 120) rfl)
theorem mc_1335 : Cond.selects RX2 yX2_undone yX2_undone ∈ lw_tbl := mt_5 _ (List.mem_of_getElem? (i := 119) rfl)
theorem mc_1336 : Cond.instanceMethod yX2_undone ∈ lw_tbl := mt_5 _ (List.mem_of_getElem? (i := 118) rfl)
theorem mc_1337 : Cond.methodLink RX1 73 yX2_undone ∈ lw_tbl := mt_5 _ (List.mem_of_getElem? (i := 117) rfl)
theorem mc_1338 : Cond.methodLink RX1 49 yX2_addressAt ∈ lw_tbl := mt_5 _ (List.mem_of_getElem? (i := 116) rfl)
theorem mc_1339 : Cond.methodLink RX1 70 yX2_undoable ∈ lw_tbl := mt_5 _ (List.mem_of_getElem? (i := 115) rfl)
theorem mc_1340 : Cond.methodLink RX1 66 yX5_remove ∈ lw_tbl := mt_5 _ (List.mem_of_getElem? (i := 114) rfl)
theorem mc_1341 : Cond.methodLink RX1 59 yX5_foremost ∈ lw_tbl := mt_5 _ (List.mem_of_getElem? (i := 113) rfl)
set_option maxRecDepth 100000 in
theorem mT_wsX10_stand_r4 : ∀ w ∈ wsX10_stand_r4, w ∈ lw_tbl := by
  unfold wsX10_stand_r4
  exact List.forall_mem_cons.mpr ⟨mc_384, List.forall_mem_cons.mpr ⟨mc_383, List.forall_mem_cons.mpr ⟨mc_413, List.forall_mem_cons.mpr ⟨mc_1341, List.forall_mem_cons.mpr ⟨mc_863, List.forall_mem_cons.mpr ⟨mc_862, List.forall_mem_cons.mpr ⟨mc_861, List.forall_mem_cons.mpr ⟨mc_1340, List.forall_mem_cons.mpr ⟨mc_1339, List.forall_mem_cons.mpr ⟨mc_524, List.forall_mem_cons.mpr ⟨mc_523, List.forall_mem_cons.mpr ⟨mc_522, List.forall_mem_cons.mpr ⟨mc_1338, List.forall_mem_cons.mpr ⟨mc_429, List.forall_mem_cons.mpr ⟨mc_428, List.forall_mem_cons.mpr ⟨mc_427, List.forall_mem_cons.mpr ⟨mc_1337, List.forall_mem_cons.mpr ⟨mc_1336, List.forall_mem_cons.mpr ⟨mc_1335, List.forall_mem_cons.mpr ⟨mc_1334, List.forall_mem_cons.mpr ⟨mc_1333, List.forall_mem_cons.mpr ⟨mc_539, List.forall_mem_cons.mpr ⟨mc_538, List.forall_mem_cons.mpr ⟨mc_537, fun _ h => absurd h List.not_mem_nil⟩⟩⟩⟩⟩⟩⟩⟩⟩⟩⟩⟩⟩⟩⟩⟩⟩⟩⟩⟩⟩⟩⟩⟩
set_option maxRecDepth 100000 in
theorem mT_wsX10_stand_r5 : ∀ w ∈ wsX10_stand_r5, w ∈ lw_tbl := by
  unfold wsX10_stand_r5
  exact List.forall_mem_cons.mpr ⟨mc_536, fun _ h => absurd h List.not_mem_nil⟩
set_option maxRecDepth 100000 in
theorem mT_wsX10_stand : ∀ w ∈ wsX10_stand, w ∈ lw_tbl := by
  unfold wsX10_stand
  exact List.forall_mem_cons.mpr ⟨mc_1314, List.forall_mem_append.mpr ⟨List.forall_mem_append.mpr ⟨List.forall_mem_append.mpr ⟨List.forall_mem_append.mpr ⟨List.forall_mem_append.mpr ⟨List.forall_mem_append.mpr ⟨List.forall_mem_append.mpr ⟨mT_wsX10_stand_r1, List.forall_mem_append.mpr ⟨mT_wsX10_stand_r2, List.forall_mem_append.mpr ⟨mT_wsX10_stand_r3, List.forall_mem_append.mpr ⟨mT_wsX10_stand_r4, mT_wsX10_stand_r5⟩⟩⟩⟩, inX10⟩, inX9⟩, inX7⟩, inX1⟩, inX5⟩, inX2⟩⟩
theorem mc_1342 : Cond.selects RX10 yX10_stand yX10_stand ∈ lw_tbl := mt_5 _ (List.mem_of_getElem? (i := 98) rfl)
theorem mc_1343 : Cond.instanceMethod yX10_stand ∈ lw_tbl := mt_5 _ (List.mem_of_getElem? (i := 97) rfl)
theorem mc_1344 : Cond.methodLink RL 113 yX10_stand ∈ lw_tbl := mt_5 _ (List.mem_of_getElem? (i := 96) rfl)
set_option maxRecDepth 100000 in
theorem gT_X10_stand : GoodIn lw_tbl (wsV RL 113 RX10 yX10_stand wsX10_stand) := goodIn_sub (List.forall_mem_append.mpr ⟨List.forall_mem_cons.mpr ⟨mc_1344, List.forall_mem_cons.mpr ⟨mc_1343, List.forall_mem_cons.mpr ⟨mc_1342, List.forall_mem_cons.mpr ⟨mc_139, fun _ h => absurd h List.not_mem_nil⟩⟩⟩⟩, mT_wsX10_stand⟩) (by decide +kernel)
theorem mc_1345 : Cond.code yX11_stand cX11_stand 4 (some .int) ∈ lw_tbl := mt_7 _ (List.mem_of_getElem? (i := 103) rfl)
theorem mc_1346 : Cond.code yX11_seesThrough cX11_seesThrough 4 none ∈ lw_tbl := mt_7 _ (List.mem_of_getElem? (i := 111) rfl)
theorem mc_1347 : Cond.selects RX11 yX11_seesThrough yX11_seesThrough ∈ lw_tbl := List.mem_append_left _ (List.mem_map.mpr ⟨(yX11_seesThrough, 28), List.mem_of_getElem? (i := 93) rfl, rfl⟩)
theorem mc_1348 : Cond.instanceMethod yX11_seesThrough ∈ lw_tbl := mt_7 _ (List.mem_of_getElem? (i := 110) rfl)
theorem mc_1349 : Cond.methodLink RX11 281 yX11_seesThrough ∈ lw_tbl := mt_7 _ (List.mem_of_getElem? (i := 108) rfl)
theorem mc_1350 : Cond.code yX11_rollsThought cX11_rollsThought 3 none ∈ lw_tbl := mt_7 _ (List.mem_of_getElem? (i := 107) rfl)
theorem mc_1351 : Cond.selects RX11 yX11_rollsThought yX11_rollsThought ∈ lw_tbl := List.mem_append_left _ (List.mem_map.mpr ⟨(yX11_rollsThought, 28), List.mem_of_getElem? (i := 92) rfl, rfl⟩)
theorem mc_1352 : Cond.instanceMethod yX11_rollsThought ∈ lw_tbl := mt_7 _ (List.mem_of_getElem? (i := 106) rfl)
theorem mc_1353 : Cond.methodLink RX11 290 yX11_rollsThought ∈ lw_tbl := mt_7 _ (List.mem_of_getElem? (i := 104) rfl)
set_option maxRecDepth 100000 in
theorem mT_wsX11_stand_r1 : ∀ w ∈ wsX11_stand_r1, w ∈ lw_tbl := by
  unfold wsX11_stand_r1
  exact List.forall_mem_cons.mpr ⟨mc_184, List.forall_mem_cons.mpr ⟨mc_151, List.forall_mem_cons.mpr ⟨mc_148, List.forall_mem_cons.mpr ⟨mc_179, List.forall_mem_cons.mpr ⟨mc_178, List.forall_mem_cons.mpr ⟨mc_177, List.forall_mem_cons.mpr ⟨mc_155, List.forall_mem_cons.mpr ⟨mc_176, List.forall_mem_cons.mpr ⟨mc_1353, List.forall_mem_cons.mpr ⟨mc_1352, List.forall_mem_cons.mpr ⟨mc_1351, List.forall_mem_cons.mpr ⟨mc_1350, List.forall_mem_cons.mpr ⟨mc_146, List.forall_mem_cons.mpr ⟨mc_1349, List.forall_mem_cons.mpr ⟨mc_1348, List.forall_mem_cons.mpr ⟨mc_1347, List.forall_mem_cons.mpr ⟨mc_1346, List.forall_mem_cons.mpr ⟨mc_147, List.forall_mem_cons.mpr ⟨mc_721, List.forall_mem_cons.mpr ⟨mc_720, List.forall_mem_cons.mpr ⟨mc_719, List.forall_mem_cons.mpr ⟨mc_718, List.forall_mem_cons.mpr ⟨mc_315, List.forall_mem_cons.mpr ⟨mc_314, fun _ h => absurd h List.not_mem_nil⟩⟩⟩⟩⟩⟩⟩⟩⟩⟩⟩⟩⟩⟩⟩⟩⟩⟩⟩⟩⟩⟩⟩⟩
theorem mc_1354 : Cond.instanceMethod yX11_undoesThought ∈ lw_tbl := mt_7 _ (List.mem_of_getElem? (i := 118) rfl)
theorem mc_1355 : Cond.methodLink RX11 287 yX11_undoesThought ∈ lw_tbl := mt_7 _ (List.mem_of_getElem? (i := 116) rfl)
theorem mc_1356 : Cond.code yX11_furthest cX11_furthest 3 (some .int) ∈ lw_tbl := mt_7 _ (List.mem_of_getElem? (i := 115) rfl)
theorem mc_1357 : Cond.selects RX11 yX11_furthest yX11_furthest ∈ lw_tbl := List.mem_append_left _ (List.mem_map.mpr ⟨(yX11_furthest, 28), List.mem_of_getElem? (i := 94) rfl, rfl⟩)
theorem mc_1358 : Cond.instanceMethod yX11_furthest ∈ lw_tbl := mt_7 _ (List.mem_of_getElem? (i := 114) rfl)
theorem mc_1359 : Cond.methodLink RX11 284 yX11_furthest ∈ lw_tbl := mt_7 _ (List.mem_of_getElem? (i := 112) rfl)
set_option maxRecDepth 100000 in
theorem mT_wsX11_stand_r2 : ∀ w ∈ wsX11_stand_r2, w ∈ lw_tbl := by
  unfold wsX11_stand_r2
  exact List.forall_mem_cons.mpr ⟨mc_313, List.forall_mem_cons.mpr ⟨mc_312, List.forall_mem_cons.mpr ⟨mc_717, List.forall_mem_cons.mpr ⟨mc_716, List.forall_mem_cons.mpr ⟨mc_715, List.forall_mem_cons.mpr ⟨mc_714, List.forall_mem_cons.mpr ⟨mc_334, List.forall_mem_cons.mpr ⟨mc_333, List.forall_mem_cons.mpr ⟨mc_332, List.forall_mem_cons.mpr ⟨mc_331, List.forall_mem_cons.mpr ⟨mc_338, List.forall_mem_cons.mpr ⟨mc_337, List.forall_mem_cons.mpr ⟨mc_336, List.forall_mem_cons.mpr ⟨mc_335, List.forall_mem_cons.mpr ⟨mc_1359, List.forall_mem_cons.mpr ⟨mc_1358, List.forall_mem_cons.mpr ⟨mc_1357, List.forall_mem_cons.mpr ⟨mc_1356, List.forall_mem_cons.mpr ⟨mc_545, List.forall_mem_cons.mpr ⟨mc_556, List.forall_mem_cons.mpr ⟨mc_555, List.forall_mem_cons.mpr ⟨mc_554, List.forall_mem_cons.mpr ⟨mc_1355, List.forall_mem_cons.mpr ⟨mc_1354, fun _ h => absurd h List.not_mem_nil⟩⟩⟩⟩⟩⟩⟩⟩⟩⟩⟩⟩⟩⟩⟩⟩⟩⟩⟩⟩⟩⟩⟩⟩
theorem mc_1360 : Cond.code yX11_undoesThought cX11_undoesThought 3 none ∈ lw_tbl := mt_7 _ (List.mem_of_getElem? (i := 119) rfl)
theorem mc_1361 : Cond.selects RX11 yX11_undoesThought yX11_undoesThought ∈ lw_tbl := List.mem_append_left _ (List.mem_map.mpr ⟨(yX11_undoesThought, 28), List.mem_of_getElem? (i := 95) rfl, rfl⟩)
set_option maxRecDepth 100000 in
theorem mT_wsX11_stand_r3 : ∀ w ∈ wsX11_stand_r3, w ∈ lw_tbl := by
  unfold wsX11_stand_r3
  exact List.forall_mem_cons.mpr ⟨mc_1361, List.forall_mem_cons.mpr ⟨mc_1360, List.forall_mem_cons.mpr ⟨mc_549, List.forall_mem_cons.mpr ⟨mc_548, List.forall_mem_cons.mpr ⟨mc_547, List.forall_mem_cons.mpr ⟨mc_546, List.forall_mem_cons.mpr ⟨mc_564, List.forall_mem_cons.mpr ⟨mc_563, List.forall_mem_cons.mpr ⟨mc_562, List.forall_mem_cons.mpr ⟨mc_561, List.forall_mem_cons.mpr ⟨mc_560, List.forall_mem_cons.mpr ⟨mc_559, List.forall_mem_cons.mpr ⟨mc_558, List.forall_mem_cons.mpr ⟨mc_557, fun _ h => absurd h List.not_mem_nil⟩⟩⟩⟩⟩⟩⟩⟩⟩⟩⟩⟩⟩⟩
set_option maxRecDepth 100000 in
theorem mT_wsX11_stand : ∀ w ∈ wsX11_stand, w ∈ lw_tbl := by
  unfold wsX11_stand
  exact List.forall_mem_cons.mpr ⟨mc_1345, List.forall_mem_append.mpr ⟨List.forall_mem_append.mpr ⟨mT_wsX11_stand_r1, List.forall_mem_append.mpr ⟨mT_wsX11_stand_r2, mT_wsX11_stand_r3⟩⟩, inX11⟩⟩
theorem mc_1362 : Cond.selects RX11 yX11_stand yX11_stand ∈ lw_tbl := mt_7 _ (List.mem_of_getElem? (i := 102) rfl)
theorem mc_1363 : Cond.instanceMethod yX11_stand ∈ lw_tbl := mt_7 _ (List.mem_of_getElem? (i := 101) rfl)
theorem mc_1364 : Cond.methodLink RL 116 yX11_stand ∈ lw_tbl := mt_7 _ (List.mem_of_getElem? (i := 100) rfl)
set_option maxRecDepth 100000 in
theorem gT_X11_stand : GoodIn lw_tbl (wsV RL 116 RX11 yX11_stand wsX11_stand) := goodIn_sub (List.forall_mem_append.mpr ⟨List.forall_mem_cons.mpr ⟨mc_1364, List.forall_mem_cons.mpr ⟨mc_1363, List.forall_mem_cons.mpr ⟨mc_1362, List.forall_mem_cons.mpr ⟨mc_155, fun _ h => absurd h List.not_mem_nil⟩⟩⟩⟩, mT_wsX11_stand⟩) (by decide +kernel)
theorem mc_1365 : Cond.code yX10_asOf cX10_asOf 3 (some .int) ∈ lw_tbl := mt_5 _ (List.mem_of_getElem? (i := 125) rfl)
set_option maxRecDepth 100000 in
theorem mT_wsX10_asOf_r1 : ∀ w ∈ wsX10_asOf_r1, w ∈ lw_tbl := by
  unfold wsX10_asOf_r1
  exact List.forall_mem_cons.mpr ⟨mc_18, List.forall_mem_cons.mpr ⟨mc_1214, List.forall_mem_cons.mpr ⟨mc_6, List.forall_mem_cons.mpr ⟨mc_1223, List.forall_mem_cons.mpr ⟨mc_595, List.forall_mem_cons.mpr ⟨mc_594, List.forall_mem_cons.mpr ⟨mc_48, List.forall_mem_cons.mpr ⟨mc_593, List.forall_mem_cons.mpr ⟨mc_64, List.forall_mem_cons.mpr ⟨mc_592, List.forall_mem_cons.mpr ⟨mc_591, List.forall_mem_cons.mpr ⟨mc_590, List.forall_mem_cons.mpr ⟨mc_589, List.forall_mem_cons.mpr ⟨mc_65, List.forall_mem_cons.mpr ⟨mc_237, List.forall_mem_cons.mpr ⟨mc_236, List.forall_mem_cons.mpr ⟨mc_235, List.forall_mem_cons.mpr ⟨mc_234, List.forall_mem_cons.mpr ⟨mc_588, List.forall_mem_cons.mpr ⟨mc_619, List.forall_mem_cons.mpr ⟨mc_618, List.forall_mem_cons.mpr ⟨mc_617, List.forall_mem_cons.mpr ⟨mc_616, List.forall_mem_cons.mpr ⟨mc_615, fun _ h => absurd h List.not_mem_nil⟩⟩⟩⟩⟩⟩⟩⟩⟩⟩⟩⟩⟩⟩⟩⟩⟩⟩⟩⟩⟩⟩⟩⟩
theorem mc_1366 : Cond.code yX1_byteAsOf cX1_byteAsOf 6 (some .int) ∈ lw_tbl := mt_5 _ (List.mem_of_getElem? (i := 129) rfl)
theorem mc_1367 : Cond.selects RX1 yX1_byteAsOf yX1_byteAsOf ∈ lw_tbl := mt_5 _ (List.mem_of_getElem? (i := 128) rfl)
theorem mc_1368 : Cond.instanceMethod yX1_byteAsOf ∈ lw_tbl := mt_5 _ (List.mem_of_getElem? (i := 127) rfl)
theorem mc_1369 : Cond.methodLink RX10 302 yX1_byteAsOf ∈ lw_tbl := mt_5 _ (List.mem_of_getElem? (i := 126) rfl)
set_option maxRecDepth 100000 in
theorem mT_wsX10_asOf_r2 : ∀ w ∈ wsX10_asOf_r2, w ∈ lw_tbl := by
  unfold wsX10_asOf_r2
  exact List.forall_mem_cons.mpr ⟨mc_614, List.forall_mem_cons.mpr ⟨mc_613, List.forall_mem_cons.mpr ⟨mc_612, List.forall_mem_cons.mpr ⟨mc_611, List.forall_mem_cons.mpr ⟨mc_610, List.forall_mem_cons.mpr ⟨mc_609, List.forall_mem_cons.mpr ⟨mc_1369, List.forall_mem_cons.mpr ⟨mc_1368, List.forall_mem_cons.mpr ⟨mc_1367, List.forall_mem_cons.mpr ⟨mc_7, List.forall_mem_cons.mpr ⟨mc_1366, List.forall_mem_cons.mpr ⟨mc_121, List.forall_mem_cons.mpr ⟨mc_1315, List.forall_mem_cons.mpr ⟨mc_757, List.forall_mem_cons.mpr ⟨mc_756, List.forall_mem_cons.mpr ⟨mc_40, List.forall_mem_cons.mpr ⟨mc_755, List.forall_mem_cons.mpr ⟨mc_86, List.forall_mem_cons.mpr ⟨mc_85, List.forall_mem_cons.mpr ⟨mc_84, List.forall_mem_cons.mpr ⟨mc_754, List.forall_mem_cons.mpr ⟨mc_92, List.forall_mem_cons.mpr ⟨mc_91, List.forall_mem_cons.mpr ⟨mc_90, fun _ h => absurd h List.not_mem_nil⟩⟩⟩⟩⟩⟩⟩⟩⟩⟩⟩⟩⟩⟩⟩⟩⟩⟩⟩⟩⟩⟩⟩⟩
theorem mc_1370 : Cond.methodLink RX1 45 yX2_touches ∈ lw_tbl := mt_5 _ (List.mem_of_getElem? (i := 130) rfl)
set_option maxRecDepth 100000 in
theorem mT_wsX10_asOf_r3 : ∀ w ∈ wsX10_asOf_r3, w ∈ lw_tbl := by
  unfold wsX10_asOf_r3
  exact List.forall_mem_cons.mpr ⟨mc_1324, List.forall_mem_cons.mpr ⟨mc_817, List.forall_mem_cons.mpr ⟨mc_816, List.forall_mem_cons.mpr ⟨mc_815, List.forall_mem_cons.mpr ⟨mc_814, List.forall_mem_cons.mpr ⟨mc_813, List.forall_mem_cons.mpr ⟨mc_812, List.forall_mem_cons.mpr ⟨mc_811, List.forall_mem_cons.mpr ⟨mc_810, List.forall_mem_cons.mpr ⟨mc_201, List.forall_mem_cons.mpr ⟨mc_139, List.forall_mem_cons.mpr ⟨mc_200, List.forall_mem_cons.mpr ⟨mc_809, List.forall_mem_cons.mpr ⟨mc_530, List.forall_mem_cons.mpr ⟨mc_529, List.forall_mem_cons.mpr ⟨mc_528, List.forall_mem_cons.mpr ⟨mc_808, List.forall_mem_cons.mpr ⟨mc_228, List.forall_mem_cons.mpr ⟨mc_227, List.forall_mem_cons.mpr ⟨mc_226, List.forall_mem_cons.mpr ⟨mc_1370, List.forall_mem_cons.mpr ⟨mc_679, List.forall_mem_cons.mpr ⟨mc_678, List.forall_mem_cons.mpr ⟨mc_677, fun _ h => absurd h List.not_mem_nil⟩⟩⟩⟩⟩⟩⟩⟩⟩⟩⟩⟩⟩⟩⟩⟩⟩⟩⟩⟩⟩⟩⟩⟩
theorem mc_1371 : Cond.methodLink RX1 52 yX2_done ∈ lw_tbl := mt_5 _ (List.mem_of_getElem? (i := 131) rfl)
set_option maxRecDepth 100000 in
theorem mT_wsX10_asOf_r4 : ∀ w ∈ wsX10_asOf_r4, w ∈ lw_tbl := by
  unfold wsX10_asOf_r4
  exact List.forall_mem_cons.mpr ⟨mc_1338, List.forall_mem_cons.mpr ⟨mc_429, List.forall_mem_cons.mpr ⟨mc_428, List.forall_mem_cons.mpr ⟨mc_427, List.forall_mem_cons.mpr ⟨mc_1371, List.forall_mem_cons.mpr ⟨mc_425, List.forall_mem_cons.mpr ⟨mc_424, List.forall_mem_cons.mpr ⟨mc_423, List.forall_mem_cons.mpr ⟨mc_1332, List.forall_mem_cons.mpr ⟨mc_1331, List.forall_mem_cons.mpr ⟨mc_1330, List.forall_mem_cons.mpr ⟨mc_1329, List.forall_mem_cons.mpr ⟨mc_1328, List.forall_mem_cons.mpr ⟨mc_1327, List.forall_mem_cons.mpr ⟨mc_1326, List.forall_mem_cons.mpr ⟨mc_1325, List.forall_mem_cons.mpr ⟨mc_821, List.forall_mem_cons.mpr ⟨mc_820, List.forall_mem_cons.mpr ⟨mc_845, List.forall_mem_cons.mpr ⟨mc_844, List.forall_mem_cons.mpr ⟨mc_384, List.forall_mem_cons.mpr ⟨mc_383, List.forall_mem_cons.mpr ⟨mc_413, List.forall_mem_cons.mpr ⟨mc_1341, fun _ h => absurd h List.not_mem_nil⟩⟩⟩⟩⟩⟩⟩⟩⟩⟩⟩⟩⟩⟩⟩⟩⟩⟩⟩⟩⟩⟩⟩⟩
set_option maxRecDepth 100000 in
theorem mT_wsX10_asOf_r5 : ∀ w ∈ wsX10_asOf_r5, w ∈ lw_tbl := by
  unfold wsX10_asOf_r5
  exact List.forall_mem_cons.mpr ⟨mc_863, List.forall_mem_cons.mpr ⟨mc_862, List.forall_mem_cons.mpr ⟨mc_861, List.forall_mem_cons.mpr ⟨mc_1340, List.forall_mem_cons.mpr ⟨mc_1339, List.forall_mem_cons.mpr ⟨mc_524, List.forall_mem_cons.mpr ⟨mc_523, List.forall_mem_cons.mpr ⟨mc_522, List.forall_mem_cons.mpr ⟨mc_1337, List.forall_mem_cons.mpr ⟨mc_1336, List.forall_mem_cons.mpr ⟨mc_1335, List.forall_mem_cons.mpr ⟨mc_1334, List.forall_mem_cons.mpr ⟨mc_1333, List.forall_mem_cons.mpr ⟨mc_539, List.forall_mem_cons.mpr ⟨mc_538, List.forall_mem_cons.mpr ⟨mc_537, List.forall_mem_cons.mpr ⟨mc_536, fun _ h => absurd h List.not_mem_nil⟩⟩⟩⟩⟩⟩⟩⟩⟩⟩⟩⟩⟩⟩⟩⟩⟩
set_option maxRecDepth 100000 in
theorem mT_wsX10_asOf : ∀ w ∈ wsX10_asOf, w ∈ lw_tbl := by
  unfold wsX10_asOf
  exact List.forall_mem_cons.mpr ⟨mc_1365, List.forall_mem_append.mpr ⟨List.forall_mem_append.mpr ⟨List.forall_mem_append.mpr ⟨List.forall_mem_append.mpr ⟨List.forall_mem_append.mpr ⟨List.forall_mem_append.mpr ⟨mT_wsX10_asOf_r1, List.forall_mem_append.mpr ⟨mT_wsX10_asOf_r2, List.forall_mem_append.mpr ⟨mT_wsX10_asOf_r3, List.forall_mem_append.mpr ⟨mT_wsX10_asOf_r4, mT_wsX10_asOf_r5⟩⟩⟩⟩, inX10⟩, inX9⟩, inX2⟩, inX1⟩, inX5⟩⟩
theorem mc_1372 : Cond.selects RX10 yX10_asOf yX10_asOf ∈ lw_tbl := mt_5 _ (List.mem_of_getElem? (i := 124) rfl)
theorem mc_1373 : Cond.instanceMethod yX10_asOf ∈ lw_tbl := mt_5 _ (List.mem_of_getElem? (i := 123) rfl)
theorem mc_1374 : Cond.methodLink RL 117 yX10_asOf ∈ lw_tbl := mt_5 _ (List.mem_of_getElem? (i := 122) rfl)
set_option maxRecDepth 100000 in
theorem gT_X10_asOf : GoodIn lw_tbl (wsV RL 117 RX10 yX10_asOf wsX10_asOf) := goodIn_sub (List.forall_mem_append.mpr ⟨List.forall_mem_cons.mpr ⟨mc_1374, List.forall_mem_cons.mpr ⟨mc_1373, List.forall_mem_cons.mpr ⟨mc_1372, List.forall_mem_cons.mpr ⟨mc_139, fun _ h => absurd h List.not_mem_nil⟩⟩⟩⟩, mT_wsX10_asOf⟩) (by decide +kernel)
theorem mc_1375 : Cond.code yX11_asOf cX11_asOf 4 (some .int) ∈ lw_tbl := mt_7 _ (List.mem_of_getElem? (i := 123) rfl)
set_option maxRecDepth 100000 in
theorem mT_wsX11_asOf_r1 : ∀ w ∈ wsX11_asOf_r1, w ∈ lw_tbl := by
  unfold wsX11_asOf_r1
  exact List.forall_mem_cons.mpr ⟨mc_184, List.forall_mem_cons.mpr ⟨mc_148, List.forall_mem_cons.mpr ⟨mc_179, List.forall_mem_cons.mpr ⟨mc_178, List.forall_mem_cons.mpr ⟨mc_177, List.forall_mem_cons.mpr ⟨mc_155, List.forall_mem_cons.mpr ⟨mc_176, List.forall_mem_cons.mpr ⟨mc_737, List.forall_mem_cons.mpr ⟨mc_736, List.forall_mem_cons.mpr ⟨mc_735, List.forall_mem_cons.mpr ⟨mc_734, List.forall_mem_cons.mpr ⟨mc_721, List.forall_mem_cons.mpr ⟨mc_720, List.forall_mem_cons.mpr ⟨mc_719, List.forall_mem_cons.mpr ⟨mc_718, List.forall_mem_cons.mpr ⟨mc_315, List.forall_mem_cons.mpr ⟨mc_314, List.forall_mem_cons.mpr ⟨mc_313, List.forall_mem_cons.mpr ⟨mc_312, List.forall_mem_cons.mpr ⟨mc_151, List.forall_mem_cons.mpr ⟨mc_717, List.forall_mem_cons.mpr ⟨mc_716, List.forall_mem_cons.mpr ⟨mc_715, List.forall_mem_cons.mpr ⟨mc_714, fun _ h => absurd h List.not_mem_nil⟩⟩⟩⟩⟩⟩⟩⟩⟩⟩⟩⟩⟩⟩⟩⟩⟩⟩⟩⟩⟩⟩⟩⟩
set_option maxRecDepth 100000 in
theorem mT_wsX11_asOf_r2 : ∀ w ∈ wsX11_asOf_r2, w ∈ lw_tbl := by
  unfold wsX11_asOf_r2
  exact List.forall_mem_cons.mpr ⟨mc_334, List.forall_mem_cons.mpr ⟨mc_333, List.forall_mem_cons.mpr ⟨mc_332, List.forall_mem_cons.mpr ⟨mc_331, List.forall_mem_cons.mpr ⟨mc_338, List.forall_mem_cons.mpr ⟨mc_337, List.forall_mem_cons.mpr ⟨mc_336, List.forall_mem_cons.mpr ⟨mc_335, List.forall_mem_cons.mpr ⟨mc_713, List.forall_mem_cons.mpr ⟨mc_712, List.forall_mem_cons.mpr ⟨mc_711, List.forall_mem_cons.mpr ⟨mc_710, List.forall_mem_cons.mpr ⟨mc_549, List.forall_mem_cons.mpr ⟨mc_548, List.forall_mem_cons.mpr ⟨mc_547, List.forall_mem_cons.mpr ⟨mc_546, List.forall_mem_cons.mpr ⟨mc_478, List.forall_mem_cons.mpr ⟨mc_477, List.forall_mem_cons.mpr ⟨mc_476, List.forall_mem_cons.mpr ⟨mc_475, List.forall_mem_cons.mpr ⟨mc_1353, List.forall_mem_cons.mpr ⟨mc_1352, List.forall_mem_cons.mpr ⟨mc_1351, List.forall_mem_cons.mpr ⟨mc_1350, fun _ h => absurd h List.not_mem_nil⟩⟩⟩⟩⟩⟩⟩⟩⟩⟩⟩⟩⟩⟩⟩⟩⟩⟩⟩⟩⟩⟩⟩⟩
set_option maxRecDepth 100000 in
theorem mT_wsX11_asOf_r3 : ∀ w ∈ wsX11_asOf_r3, w ∈ lw_tbl := by
  unfold wsX11_asOf_r3
  exact List.forall_mem_cons.mpr ⟨mc_146, List.forall_mem_cons.mpr ⟨mc_1349, List.forall_mem_cons.mpr ⟨mc_1348, List.forall_mem_cons.mpr ⟨mc_1347, List.forall_mem_cons.mpr ⟨mc_1346, List.forall_mem_cons.mpr ⟨mc_147, List.forall_mem_cons.mpr ⟨mc_1359, List.forall_mem_cons.mpr ⟨mc_1358, List.forall_mem_cons.mpr ⟨mc_1357, List.forall_mem_cons.mpr ⟨mc_1356, List.forall_mem_cons.mpr ⟨mc_545, List.forall_mem_cons.mpr ⟨mc_556, List.forall_mem_cons.mpr ⟨mc_555, List.forall_mem_cons.mpr ⟨mc_554, List.forall_mem_cons.mpr ⟨mc_1355, List.forall_mem_cons.mpr ⟨mc_1354, List.forall_mem_cons.mpr ⟨mc_1361, List.forall_mem_cons.mpr ⟨mc_1360, List.forall_mem_cons.mpr ⟨mc_564, List.forall_mem_cons.mpr ⟨mc_563, List.forall_mem_cons.mpr ⟨mc_562, List.forall_mem_cons.mpr ⟨mc_561, List.forall_mem_cons.mpr ⟨mc_560, List.forall_mem_cons.mpr ⟨mc_559, fun _ h => absurd h List.not_mem_nil⟩⟩⟩⟩⟩⟩⟩⟩⟩⟩⟩⟩⟩⟩⟩⟩⟩⟩⟩⟩⟩⟩⟩⟩
set_option maxRecDepth 100000 in
theorem mT_wsX11_asOf_r4 : ∀ w ∈ wsX11_asOf_r4, w ∈ lw_tbl := by
  unfold wsX11_asOf_r4
  exact List.forall_mem_cons.mpr ⟨mc_558, List.forall_mem_cons.mpr ⟨mc_557, fun _ h => absurd h List.not_mem_nil⟩⟩
set_option maxRecDepth 100000 in
theorem mT_wsX11_asOf : ∀ w ∈ wsX11_asOf, w ∈ lw_tbl := by
  unfold wsX11_asOf
  exact List.forall_mem_cons.mpr ⟨mc_1375, List.forall_mem_append.mpr ⟨List.forall_mem_append.mpr ⟨mT_wsX11_asOf_r1, List.forall_mem_append.mpr ⟨mT_wsX11_asOf_r2, List.forall_mem_append.mpr ⟨mT_wsX11_asOf_r3, mT_wsX11_asOf_r4⟩⟩⟩, inX11⟩⟩
theorem mc_1376 : Cond.selects RX11 yX11_asOf yX11_asOf ∈ lw_tbl := mt_7 _ (List.mem_of_getElem? (i := 122) rfl)
theorem mc_1377 : Cond.instanceMethod yX11_asOf ∈ lw_tbl := mt_7 _ (List.mem_of_getElem? (i := 121) rfl)
theorem mc_1378 : Cond.methodLink RL 120 yX11_asOf ∈ lw_tbl := mt_7 _ (List.mem_of_getElem? (i := 120) rfl)
set_option maxRecDepth 100000 in
theorem gT_X11_asOf : GoodIn lw_tbl (wsV RL 120 RX11 yX11_asOf wsX11_asOf) := goodIn_sub (List.forall_mem_append.mpr ⟨List.forall_mem_cons.mpr ⟨mc_1378, List.forall_mem_cons.mpr ⟨mc_1377, List.forall_mem_cons.mpr ⟨mc_1376, List.forall_mem_cons.mpr ⟨mc_155, fun _ h => absurd h List.not_mem_nil⟩⟩⟩⟩, mT_wsX11_asOf⟩) (by decide +kernel)
theorem mc_1379 : Cond.code yX10_count cX10_count 2 (some .int) ∈ lw_tbl := mt_5 _ (List.mem_of_getElem? (i := 135) rfl)
theorem mc_1380 : Cond.code yX2_tally cX2_tally 4 (some .int) ∈ lw_tbl := mt_5 _ (List.mem_of_getElem? (i := 139) rfl)
theorem mc_1381 : Cond.selects RX2 yX2_tally yX2_tally ∈ lw_tbl := mt_5 _ (List.mem_of_getElem? (i := 138) rfl)
theorem mc_1382 : Cond.instanceMethod yX2_tally ∈ lw_tbl := mt_5 _ (List.mem_of_getElem? (i := 137) rfl)
theorem mc_1383 : Cond.methodLink RX10 306 yX2_tally ∈ lw_tbl := mt_5 _ (List.mem_of_getElem? (i := 136) rfl)
set_option maxRecDepth 100000 in
theorem mT_wsX10_count_r1 : ∀ w ∈ wsX10_count_r1, w ∈ lw_tbl := by
  unfold wsX10_count_r1
  exact List.forall_mem_cons.mpr ⟨mc_18, List.forall_mem_cons.mpr ⟨mc_1214, List.forall_mem_cons.mpr ⟨mc_1383, List.forall_mem_cons.mpr ⟨mc_1382, List.forall_mem_cons.mpr ⟨mc_1381, List.forall_mem_cons.mpr ⟨mc_48, List.forall_mem_cons.mpr ⟨mc_1380, List.forall_mem_cons.mpr ⟨mc_64, List.forall_mem_cons.mpr ⟨mc_592, List.forall_mem_cons.mpr ⟨mc_591, List.forall_mem_cons.mpr ⟨mc_590, List.forall_mem_cons.mpr ⟨mc_589, List.forall_mem_cons.mpr ⟨mc_65, List.forall_mem_cons.mpr ⟨mc_237, List.forall_mem_cons.mpr ⟨mc_236, List.forall_mem_cons.mpr ⟨mc_235, List.forall_mem_cons.mpr ⟨mc_234, List.forall_mem_cons.mpr ⟨mc_588, List.forall_mem_cons.mpr ⟨mc_619, List.forall_mem_cons.mpr ⟨mc_618, List.forall_mem_cons.mpr ⟨mc_617, List.forall_mem_cons.mpr ⟨mc_616, List.forall_mem_cons.mpr ⟨mc_615, List.forall_mem_cons.mpr ⟨mc_614, fun _ h => absurd h List.not_mem_nil⟩⟩⟩⟩⟩⟩⟩⟩⟩⟩⟩⟩⟩⟩⟩⟩⟩⟩⟩⟩⟩⟩⟩⟩
set_option maxRecDepth 100000 in
theorem mT_wsX10_count_r2 : ∀ w ∈ wsX10_count_r2, w ∈ lw_tbl := by
  unfold wsX10_count_r2
  exact List.forall_mem_cons.mpr ⟨mc_613, List.forall_mem_cons.mpr ⟨mc_612, List.forall_mem_cons.mpr ⟨mc_611, List.forall_mem_cons.mpr ⟨mc_610, List.forall_mem_cons.mpr ⟨mc_609, fun _ h => absurd h List.not_mem_nil⟩⟩⟩⟩⟩
set_option maxRecDepth 100000 in
theorem mT_wsX10_count : ∀ w ∈ wsX10_count, w ∈ lw_tbl := by
  unfold wsX10_count
  exact List.forall_mem_cons.mpr ⟨mc_1379, List.forall_mem_append.mpr ⟨List.forall_mem_append.mpr ⟨List.forall_mem_append.mpr ⟨List.forall_mem_append.mpr ⟨mT_wsX10_count_r1, mT_wsX10_count_r2⟩, inX10⟩, inX9⟩, inX2⟩⟩
theorem mc_1384 : Cond.selects RX10 yX10_count yX10_count ∈ lw_tbl := mt_5 _ (List.mem_of_getElem? (i := 134) rfl)
theorem mc_1385 : Cond.instanceMethod yX10_count ∈ lw_tbl := mt_5 _ (List.mem_of_getElem? (i := 133) rfl)
theorem mc_1386 : Cond.methodLink RL 121 yX10_count ∈ lw_tbl := mt_5 _ (List.mem_of_getElem? (i := 132) rfl)
set_option maxRecDepth 100000 in
theorem gT_X10_count : GoodIn lw_tbl (wsV RL 121 RX10 yX10_count wsX10_count) := goodIn_sub (List.forall_mem_append.mpr ⟨List.forall_mem_cons.mpr ⟨mc_1386, List.forall_mem_cons.mpr ⟨mc_1385, List.forall_mem_cons.mpr ⟨mc_1384, List.forall_mem_cons.mpr ⟨mc_139, fun _ h => absurd h List.not_mem_nil⟩⟩⟩⟩, mT_wsX10_count⟩) (by decide +kernel)
theorem mc_1387 : Cond.code yX11_count cX11_count 4 (some .int) ∈ lw_tbl := mt_7 _ (List.mem_of_getElem? (i := 127) rfl)
set_option maxRecDepth 100000 in
theorem mT_wsX11_count_r1 : ∀ w ∈ wsX11_count_r1, w ∈ lw_tbl := by
  unfold wsX11_count_r1
  exact List.forall_mem_cons.mpr ⟨mc_184, List.forall_mem_cons.mpr ⟨mc_179, List.forall_mem_cons.mpr ⟨mc_178, List.forall_mem_cons.mpr ⟨mc_177, List.forall_mem_cons.mpr ⟨mc_155, List.forall_mem_cons.mpr ⟨mc_176, List.forall_mem_cons.mpr ⟨mc_721, List.forall_mem_cons.mpr ⟨mc_720, List.forall_mem_cons.mpr ⟨mc_719, List.forall_mem_cons.mpr ⟨mc_718, List.forall_mem_cons.mpr ⟨mc_315, List.forall_mem_cons.mpr ⟨mc_314, List.forall_mem_cons.mpr ⟨mc_313, List.forall_mem_cons.mpr ⟨mc_312, List.forall_mem_cons.mpr ⟨mc_151, List.forall_mem_cons.mpr ⟨mc_717, List.forall_mem_cons.mpr ⟨mc_716, List.forall_mem_cons.mpr ⟨mc_715, List.forall_mem_cons.mpr ⟨mc_714, List.forall_mem_cons.mpr ⟨mc_334, List.forall_mem_cons.mpr ⟨mc_333, List.forall_mem_cons.mpr ⟨mc_332, List.forall_mem_cons.mpr ⟨mc_331, List.forall_mem_cons.mpr ⟨mc_338, fun _ h => absurd h List.not_mem_nil⟩⟩⟩⟩⟩⟩⟩⟩⟩⟩⟩⟩⟩⟩⟩⟩⟩⟩⟩⟩⟩⟩⟩⟩
set_option maxRecDepth 100000 in
theorem mT_wsX11_count_r2 : ∀ w ∈ wsX11_count_r2, w ∈ lw_tbl := by
  unfold wsX11_count_r2
  exact List.forall_mem_cons.mpr ⟨mc_337, List.forall_mem_cons.mpr ⟨mc_336, List.forall_mem_cons.mpr ⟨mc_335, fun _ h => absurd h List.not_mem_nil⟩⟩⟩
set_option maxRecDepth 100000 in
theorem mT_wsX11_count : ∀ w ∈ wsX11_count, w ∈ lw_tbl := by
  unfold wsX11_count
  exact List.forall_mem_cons.mpr ⟨mc_1387, List.forall_mem_append.mpr ⟨List.forall_mem_append.mpr ⟨mT_wsX11_count_r1, mT_wsX11_count_r2⟩, inX11⟩⟩
theorem mc_1388 : Cond.selects RX11 yX11_count yX11_count ∈ lw_tbl := mt_7 _ (List.mem_of_getElem? (i := 126) rfl)
theorem mc_1389 : Cond.instanceMethod yX11_count ∈ lw_tbl := mt_7 _ (List.mem_of_getElem? (i := 125) rfl)
theorem mc_1390 : Cond.methodLink RL 124 yX11_count ∈ lw_tbl := mt_7 _ (List.mem_of_getElem? (i := 124) rfl)
set_option maxRecDepth 100000 in
theorem gT_X11_count : GoodIn lw_tbl (wsV RL 124 RX11 yX11_count wsX11_count) := goodIn_sub (List.forall_mem_append.mpr ⟨List.forall_mem_cons.mpr ⟨mc_1390, List.forall_mem_cons.mpr ⟨mc_1389, List.forall_mem_cons.mpr ⟨mc_1388, List.forall_mem_cons.mpr ⟨mc_155, fun _ h => absurd h List.not_mem_nil⟩⟩⟩⟩, mT_wsX11_count⟩) (by decide +kernel)
theorem mc_1391 : Cond.code yX10_image cX10_image 2 (some .boolean) ∈ lw_tbl := mt_5 _ (List.mem_of_getElem? (i := 143) rfl)
theorem mc_1392 : Cond.fieldLink RX10 309 "AheadStore" "kept" "LAheadStore$World;" ∈ lw_tbl := mt_2 _ (List.mem_of_getElem? (i := 123) rfl)
set_option maxRecDepth 100000 in
theorem mT_wsX10_image_r1 : ∀ w ∈ wsX10_image_r1, w ∈ lw_tbl := by
  unfold wsX10_image_r1
  exact List.forall_mem_cons.mpr ⟨mc_1392, List.forall_mem_cons.mpr ⟨mc_21, List.forall_mem_cons.mpr ⟨mc_20, List.forall_mem_cons.mpr ⟨mc_19, List.forall_mem_cons.mpr ⟨mc_18, List.forall_mem_cons.mpr ⟨mc_5, List.forall_mem_cons.mpr ⟨mc_4, List.forall_mem_cons.mpr ⟨mc_3, List.forall_mem_cons.mpr ⟨mc_23, List.forall_mem_cons.mpr ⟨mc_22, List.forall_mem_cons.mpr ⟨mc_2, List.forall_mem_cons.mpr ⟨mc_1, List.forall_mem_cons.mpr ⟨mc_48, List.forall_mem_cons.mpr ⟨mc_47, List.forall_mem_cons.mpr ⟨mc_46, List.forall_mem_cons.mpr ⟨mc_45, List.forall_mem_cons.mpr ⟨mc_44, List.forall_mem_cons.mpr ⟨mc_43, List.forall_mem_cons.mpr ⟨mc_42, List.forall_mem_cons.mpr ⟨mc_41, List.forall_mem_cons.mpr ⟨mc_40, List.forall_mem_cons.mpr ⟨mc_39, List.forall_mem_cons.mpr ⟨mc_38, List.forall_mem_cons.mpr ⟨mc_37, fun _ h => absurd h List.not_mem_nil⟩⟩⟩⟩⟩⟩⟩⟩⟩⟩⟩⟩⟩⟩⟩⟩⟩⟩⟩⟩⟩⟩⟩⟩
set_option maxRecDepth 100000 in
theorem mT_wsX10_image_r2 : ∀ w ∈ wsX10_image_r2, w ∈ lw_tbl := by
  unfold wsX10_image_r2
  exact List.forall_mem_cons.mpr ⟨mc_36, List.forall_mem_cons.mpr ⟨mc_35, List.forall_mem_cons.mpr ⟨mc_34, List.forall_mem_cons.mpr ⟨mc_33, List.forall_mem_cons.mpr ⟨mc_32, List.forall_mem_cons.mpr ⟨mc_31, List.forall_mem_cons.mpr ⟨mc_30, List.forall_mem_cons.mpr ⟨mc_29, List.forall_mem_cons.mpr ⟨mc_28, List.forall_mem_cons.mpr ⟨mc_27, List.forall_mem_cons.mpr ⟨mc_26, List.forall_mem_cons.mpr ⟨mc_25, List.forall_mem_cons.mpr ⟨mc_72, List.forall_mem_cons.mpr ⟨mc_71, List.forall_mem_cons.mpr ⟨mc_70, List.forall_mem_cons.mpr ⟨mc_69, List.forall_mem_cons.mpr ⟨mc_68, List.forall_mem_cons.mpr ⟨mc_67, List.forall_mem_cons.mpr ⟨mc_66, List.forall_mem_cons.mpr ⟨mc_65, List.forall_mem_cons.mpr ⟨mc_64, List.forall_mem_cons.mpr ⟨mc_63, List.forall_mem_cons.mpr ⟨mc_62, List.forall_mem_cons.mpr ⟨mc_61, fun _ h => absurd h List.not_mem_nil⟩⟩⟩⟩⟩⟩⟩⟩⟩⟩⟩⟩⟩⟩⟩⟩⟩⟩⟩⟩⟩⟩⟩⟩
set_option maxRecDepth 100000 in
theorem mT_wsX10_image_r3 : ∀ w ∈ wsX10_image_r3, w ∈ lw_tbl := by
  unfold wsX10_image_r3
  exact List.forall_mem_cons.mpr ⟨mc_60, List.forall_mem_cons.mpr ⟨mc_59, List.forall_mem_cons.mpr ⟨mc_58, List.forall_mem_cons.mpr ⟨mc_57, List.forall_mem_cons.mpr ⟨mc_56, List.forall_mem_cons.mpr ⟨mc_55, List.forall_mem_cons.mpr ⟨mc_54, List.forall_mem_cons.mpr ⟨mc_53, List.forall_mem_cons.mpr ⟨mc_52, List.forall_mem_cons.mpr ⟨mc_51, List.forall_mem_cons.mpr ⟨mc_50, List.forall_mem_cons.mpr ⟨mc_49, List.forall_mem_cons.mpr ⟨mc_96, List.forall_mem_cons.mpr ⟨mc_95, List.forall_mem_cons.mpr ⟨mc_94, List.forall_mem_cons.mpr ⟨mc_93, List.forall_mem_cons.mpr ⟨mc_92, List.forall_mem_cons.mpr ⟨mc_91, List.forall_mem_cons.mpr ⟨mc_90, List.forall_mem_cons.mpr ⟨mc_89, List.forall_mem_cons.mpr ⟨mc_88, List.forall_mem_cons.mpr ⟨mc_87, List.forall_mem_cons.mpr ⟨mc_86, List.forall_mem_cons.mpr ⟨mc_85, fun _ h => absurd h List.not_mem_nil⟩⟩⟩⟩⟩⟩⟩⟩⟩⟩⟩⟩⟩⟩⟩⟩⟩⟩⟩⟩⟩⟩⟩⟩
set_option maxRecDepth 100000 in
theorem mT_wsX10_image_r4 : ∀ w ∈ wsX10_image_r4, w ∈ lw_tbl := by
  unfold wsX10_image_r4
  exact List.forall_mem_cons.mpr ⟨mc_84, List.forall_mem_cons.mpr ⟨mc_83, List.forall_mem_cons.mpr ⟨mc_82, List.forall_mem_cons.mpr ⟨mc_81, List.forall_mem_cons.mpr ⟨mc_80, List.forall_mem_cons.mpr ⟨mc_79, List.forall_mem_cons.mpr ⟨mc_78, List.forall_mem_cons.mpr ⟨mc_77, List.forall_mem_cons.mpr ⟨mc_76, List.forall_mem_cons.mpr ⟨mc_75, List.forall_mem_cons.mpr ⟨mc_74, List.forall_mem_cons.mpr ⟨mc_73, List.forall_mem_cons.mpr ⟨mc_120, List.forall_mem_cons.mpr ⟨mc_119, List.forall_mem_cons.mpr ⟨mc_118, List.forall_mem_cons.mpr ⟨mc_117, List.forall_mem_cons.mpr ⟨mc_116, List.forall_mem_cons.mpr ⟨mc_115, List.forall_mem_cons.mpr ⟨mc_114, List.forall_mem_cons.mpr ⟨mc_113, List.forall_mem_cons.mpr ⟨mc_112, List.forall_mem_cons.mpr ⟨mc_111, List.forall_mem_cons.mpr ⟨mc_110, List.forall_mem_cons.mpr ⟨mc_109, fun _ h => absurd h List.not_mem_nil⟩⟩⟩⟩⟩⟩⟩⟩⟩⟩⟩⟩⟩⟩⟩⟩⟩⟩⟩⟩⟩⟩⟩⟩
set_option maxRecDepth 100000 in
theorem mT_wsX10_image_r5 : ∀ w ∈ wsX10_image_r5, w ∈ lw_tbl := by
  unfold wsX10_image_r5
  exact List.forall_mem_cons.mpr ⟨mc_1254, List.forall_mem_cons.mpr ⟨mc_1253, List.forall_mem_cons.mpr ⟨mc_1252, List.forall_mem_cons.mpr ⟨mc_1251, List.forall_mem_cons.mpr ⟨mc_1250, List.forall_mem_cons.mpr ⟨mc_1249, List.forall_mem_cons.mpr ⟨mc_1248, List.forall_mem_cons.mpr ⟨mc_1247, List.forall_mem_cons.mpr ⟨mc_1246, List.forall_mem_cons.mpr ⟨mc_746, List.forall_mem_cons.mpr ⟨mc_610, List.forall_mem_cons.mpr ⟨mc_745, List.forall_mem_cons.mpr ⟨mc_1245, List.forall_mem_cons.mpr ⟨mc_384, List.forall_mem_cons.mpr ⟨mc_383, List.forall_mem_cons.mpr ⟨mc_413, List.forall_mem_cons.mpr ⟨mc_1273, List.forall_mem_cons.mpr ⟨mc_1272, List.forall_mem_cons.mpr ⟨mc_1271, List.forall_mem_cons.mpr ⟨mc_1270, List.forall_mem_cons.mpr ⟨mc_385, List.forall_mem_cons.mpr ⟨mc_1269, List.forall_mem_cons.mpr ⟨mc_1268, List.forall_mem_cons.mpr ⟨mc_1267, fun _ h => absurd h List.not_mem_nil⟩⟩⟩⟩⟩⟩⟩⟩⟩⟩⟩⟩⟩⟩⟩⟩⟩⟩⟩⟩⟩⟩⟩⟩
set_option maxRecDepth 100000 in
theorem mT_wsX10_image_r6 : ∀ w ∈ wsX10_image_r6, w ∈ lw_tbl := by
  unfold wsX10_image_r6
  exact List.forall_mem_cons.mpr ⟨mc_1266, List.forall_mem_cons.mpr ⟨mc_844, List.forall_mem_cons.mpr ⟨mc_1265, List.forall_mem_cons.mpr ⟨mc_1264, List.forall_mem_cons.mpr ⟨mc_1263, List.forall_mem_cons.mpr ⟨mc_1262, List.forall_mem_cons.mpr ⟨mc_1261, List.forall_mem_cons.mpr ⟨mc_1260, List.forall_mem_cons.mpr ⟨mc_1259, List.forall_mem_cons.mpr ⟨mc_1258, List.forall_mem_cons.mpr ⟨mc_1257, List.forall_mem_cons.mpr ⟨mc_1256, List.forall_mem_cons.mpr ⟨mc_1255, List.forall_mem_cons.mpr ⟨mc_1047, List.forall_mem_cons.mpr ⟨mc_1046, List.forall_mem_cons.mpr ⟨mc_1045, List.forall_mem_cons.mpr ⟨mc_1044, fun _ h => absurd h List.not_mem_nil⟩⟩⟩⟩⟩⟩⟩⟩⟩⟩⟩⟩⟩⟩⟩⟩⟩
set_option maxRecDepth 100000 in
theorem mT_wsX10_image : ∀ w ∈ wsX10_image, w ∈ lw_tbl := by
  unfold wsX10_image
  exact List.forall_mem_cons.mpr ⟨mc_1391, List.forall_mem_append.mpr ⟨List.forall_mem_append.mpr ⟨List.forall_mem_append.mpr ⟨List.forall_mem_append.mpr ⟨List.forall_mem_append.mpr ⟨List.forall_mem_append.mpr ⟨List.forall_mem_append.mpr ⟨List.forall_mem_append.mpr ⟨List.forall_mem_append.mpr ⟨mT_wsX10_image_r1, List.forall_mem_append.mpr ⟨mT_wsX10_image_r2, List.forall_mem_append.mpr ⟨mT_wsX10_image_r3, List.forall_mem_append.mpr ⟨mT_wsX10_image_r4, List.forall_mem_append.mpr ⟨mT_wsX10_image_r5, mT_wsX10_image_r6⟩⟩⟩⟩⟩, inX10⟩, inX9⟩, inX2⟩, inX3⟩, inX5⟩, inX0⟩, inX7⟩, inX6⟩⟩
theorem mc_1393 : Cond.selects RX10 yX10_image yX10_image ∈ lw_tbl := mt_5 _ (List.mem_of_getElem? (i := 142) rfl)
theorem mc_1394 : Cond.instanceMethod yX10_image ∈ lw_tbl := mt_5 _ (List.mem_of_getElem? (i := 141) rfl)
theorem mc_1395 : Cond.methodLink RL 125 yX10_image ∈ lw_tbl := mt_5 _ (List.mem_of_getElem? (i := 140) rfl)
set_option maxRecDepth 100000 in
theorem gT_X10_image : GoodIn lw_tbl (wsV RL 125 RX10 yX10_image wsX10_image) := goodIn_sub (List.forall_mem_append.mpr ⟨List.forall_mem_cons.mpr ⟨mc_1395, List.forall_mem_cons.mpr ⟨mc_1394, List.forall_mem_cons.mpr ⟨mc_1393, List.forall_mem_cons.mpr ⟨mc_139, fun _ h => absurd h List.not_mem_nil⟩⟩⟩⟩, mT_wsX10_image⟩) (by decide +kernel)
theorem mc_1396 : Cond.code yX11_image cX11_image 3 (some .boolean) ∈ lw_tbl := mt_8 _ (List.mem_of_getElem? (i := 11) rfl)
theorem mc_1397 : Cond.fieldLink RX11 390 "AheadStoreModel" "hasImage" "Z" ∈ lw_tbl := mt_5 _ (List.mem_of_getElem? (i := 201) rfl)
set_option maxRecDepth 100000 in
theorem mT_wsX11_image : ∀ w ∈ wsX11_image, w ∈ lw_tbl := by
  unfold wsX11_image
  exact List.forall_mem_cons.mpr ⟨mc_1396, List.forall_mem_append.mpr ⟨List.forall_mem_cons.mpr ⟨mc_184, List.forall_mem_cons.mpr ⟨mc_1397, List.forall_mem_cons.mpr ⟨mc_141, List.forall_mem_cons.mpr ⟨mc_151, List.forall_mem_cons.mpr ⟨mc_142, List.forall_mem_cons.mpr ⟨mc_1069, fun _ h => absurd h List.not_mem_nil⟩⟩⟩⟩⟩⟩, inX11⟩⟩
theorem mc_1398 : Cond.selects RX11 yX11_image yX11_image ∈ lw_tbl := mt_8 _ (List.mem_of_getElem? (i := 10) rfl)
theorem mc_1399 : Cond.instanceMethod yX11_image ∈ lw_tbl := mt_8 _ (List.mem_of_getElem? (i := 9) rfl)
theorem mc_1400 : Cond.methodLink RL 129 yX11_image ∈ lw_tbl := mt_8 _ (List.mem_of_getElem? (i := 8) rfl)
set_option maxRecDepth 100000 in
theorem gT_X11_image : GoodIn lw_tbl (wsV RL 129 RX11 yX11_image wsX11_image) := goodIn_sub (List.forall_mem_append.mpr ⟨List.forall_mem_cons.mpr ⟨mc_1400, List.forall_mem_cons.mpr ⟨mc_1399, List.forall_mem_cons.mpr ⟨mc_1398, List.forall_mem_cons.mpr ⟨mc_155, fun _ h => absurd h List.not_mem_nil⟩⟩⟩⟩, mT_wsX11_image⟩) (by decide +kernel)
theorem mc_1401 : Cond.code yX10_look cX10_look 2 (some .int) ∈ lw_tbl := mt_5 _ (List.mem_of_getElem? (i := 147) rfl)
theorem mc_1402 : Cond.instanceMethod yX9_needed ∈ lw_tbl := mt_5 _ (List.mem_of_getElem? (i := 151) rfl)
theorem mc_1403 : Cond.methodLink RX10 325 yX9_needed ∈ lw_tbl := mt_5 _ (List.mem_of_getElem? (i := 150) rfl)
theorem mc_1404 : Cond.methodLink RX10 319 yX5_allThatAre ∈ lw_tbl := mt_5 _ (List.mem_of_getElem? (i := 149) rfl)
theorem mc_1405 : Cond.methodLink RX10 315 yX3_uncleanCount ∈ lw_tbl := mt_5 _ (List.mem_of_getElem? (i := 148) rfl)
theorem mc_1406 : Cond.fieldLink RX10 322 "AheadStore$World" "openCheck" "I" ∈ lw_tbl := mt_2 _ (List.mem_of_getElem? (i := 5) rfl)
theorem mc_1407 : Cond.fieldLink RX10 312 "AheadStore$World" "master" "I" ∈ lw_tbl := mt_2 _ (List.mem_of_getElem? (i := 3) rfl)
set_option maxRecDepth 100000 in
theorem mT_wsX10_look_r1 : ∀ w ∈ wsX10_look_r1, w ∈ lw_tbl := by
  unfold wsX10_look_r1
  exact List.forall_mem_cons.mpr ⟨mc_18, List.forall_mem_cons.mpr ⟨mc_163, List.forall_mem_cons.mpr ⟨mc_1214, List.forall_mem_cons.mpr ⟨mc_1213, List.forall_mem_cons.mpr ⟨mc_1224, List.forall_mem_cons.mpr ⟨mc_1407, List.forall_mem_cons.mpr ⟨mc_162, List.forall_mem_cons.mpr ⟨mc_161, List.forall_mem_cons.mpr ⟨mc_1188, List.forall_mem_cons.mpr ⟨mc_1406, List.forall_mem_cons.mpr ⟨mc_1405, List.forall_mem_cons.mpr ⟨mc_654, List.forall_mem_cons.mpr ⟨mc_653, List.forall_mem_cons.mpr ⟨mc_44, List.forall_mem_cons.mpr ⟨mc_652, List.forall_mem_cons.mpr ⟨mc_96, List.forall_mem_cons.mpr ⟨mc_1404, List.forall_mem_cons.mpr ⟨mc_636, List.forall_mem_cons.mpr ⟨mc_635, List.forall_mem_cons.mpr ⟨mc_40, List.forall_mem_cons.mpr ⟨mc_634, List.forall_mem_cons.mpr ⟨mc_86, List.forall_mem_cons.mpr ⟨mc_1403, List.forall_mem_cons.mpr ⟨mc_1402, fun _ h => absurd h List.not_mem_nil⟩⟩⟩⟩⟩⟩⟩⟩⟩⟩⟩⟩⟩⟩⟩⟩⟩⟩⟩⟩⟩⟩⟩⟩
theorem mc_1408 : Cond.code yX9_firstOf cX9_firstOf 4 (some .int) ∈ lw_tbl := mt_5 _ (List.mem_of_getElem? (i := 158) rfl)
theorem mc_1409 : Cond.selects RX9 yX9_firstOf yX9_firstOf ∈ lw_tbl := List.mem_append_left _ (List.mem_map.mpr ⟨(yX9_firstOf, 11), List.mem_of_getElem? (i := 23) rfl, rfl⟩)
theorem mc_1410 : Cond.instanceMethod yX9_firstOf ∈ lw_tbl := mt_5 _ (List.mem_of_getElem? (i := 157) rfl)
theorem mc_1411 : Cond.methodLink RX9 267 yX9_firstOf ∈ lw_tbl := mt_5 _ (List.mem_of_getElem? (i := 155) rfl)
theorem mc_1412 : Cond.methodLink RX9 264 yX9_firstFrom ∈ lw_tbl := mt_5 _ (List.mem_of_getElem? (i := 154) rfl)
theorem mc_1413 : Cond.code yX9_needed cX9_needed 3 (some .int) ∈ lw_tbl := mt_5 _ (List.mem_of_getElem? (i := 153) rfl)
theorem mc_1414 : Cond.selects RX9 yX9_needed yX9_needed ∈ lw_tbl := mt_5 _ (List.mem_of_getElem? (i := 152) rfl)
set_option maxRecDepth 100000 in
theorem mT_wsX10_look_r2 : ∀ w ∈ wsX10_look_r2, w ∈ lw_tbl := by
  unfold wsX10_look_r2
  exact List.forall_mem_cons.mpr ⟨mc_1414, List.forall_mem_cons.mpr ⟨mc_19, List.forall_mem_cons.mpr ⟨mc_1413, List.forall_mem_cons.mpr ⟨mc_26, List.forall_mem_cons.mpr ⟨mc_43, List.forall_mem_cons.mpr ⟨mc_622, List.forall_mem_cons.mpr ⟨mc_747, List.forall_mem_cons.mpr ⟨mc_746, List.forall_mem_cons.mpr ⟨mc_610, List.forall_mem_cons.mpr ⟨mc_745, List.forall_mem_cons.mpr ⟨mc_39, List.forall_mem_cons.mpr ⟨mc_202, List.forall_mem_cons.mpr ⟨mc_1412, List.forall_mem_cons.mpr ⟨mc_796, List.forall_mem_cons.mpr ⟨mc_795, List.forall_mem_cons.mpr ⟨mc_794, List.forall_mem_cons.mpr ⟨mc_25, List.forall_mem_cons.mpr ⟨mc_1411, List.forall_mem_cons.mpr ⟨mc_1410, List.forall_mem_cons.mpr ⟨mc_1409, List.forall_mem_cons.mpr ⟨mc_1408, List.forall_mem_cons.mpr ⟨mc_190, List.forall_mem_cons.mpr ⟨mc_511, List.forall_mem_cons.mpr ⟨mc_47, fun _ h => absurd h List.not_mem_nil⟩⟩⟩⟩⟩⟩⟩⟩⟩⟩⟩⟩⟩⟩⟩⟩⟩⟩⟩⟩⟩⟩⟩⟩
theorem mc_1415 : Cond.fieldLink RX10 334 "AheadStore$Pages" "lost" "I" ∈ lw_tbl := mt_1 _ (List.mem_of_getElem? (i := 79) rfl)
theorem mc_1416 : Cond.fieldLink RX10 331 "AheadStore$World" "redone" "I" ∈ lw_tbl := mt_2 _ (List.mem_of_getElem? (i := 8) rfl)
theorem mc_1417 : Cond.code yX10_lookFurther cX10_lookFurther 2 (some .int) ∈ lw_tbl := mt_5 _ (List.mem_of_getElem? (i := 162) rfl)
theorem mc_1418 : Cond.selects RX10 yX10_lookFurther yX10_lookFurther ∈ lw_tbl := List.mem_append_left _ (List.mem_map.mpr ⟨(yX10_lookFurther, 6), List.mem_of_getElem? (i := 24) rfl, rfl⟩)
theorem mc_1419 : Cond.instanceMethod yX10_lookFurther ∈ lw_tbl := mt_5 _ (List.mem_of_getElem? (i := 161) rfl)
theorem mc_1420 : Cond.methodLink RX10 328 yX10_lookFurther ∈ lw_tbl := mt_5 _ (List.mem_of_getElem? (i := 159) rfl)
set_option maxRecDepth 100000 in
theorem mT_wsX10_look_r3 : ∀ w ∈ wsX10_look_r3, w ∈ lw_tbl := by
  unfold wsX10_look_r3
  exact List.forall_mem_cons.mpr ⟨mc_527, List.forall_mem_cons.mpr ⟨mc_530, List.forall_mem_cons.mpr ⟨mc_529, List.forall_mem_cons.mpr ⟨mc_48, List.forall_mem_cons.mpr ⟨mc_528, List.forall_mem_cons.mpr ⟨mc_237, List.forall_mem_cons.mpr ⟨mc_236, List.forall_mem_cons.mpr ⟨mc_235, List.forall_mem_cons.mpr ⟨mc_234, List.forall_mem_cons.mpr ⟨mc_64, List.forall_mem_cons.mpr ⟨mc_65, List.forall_mem_cons.mpr ⟨mc_1420, List.forall_mem_cons.mpr ⟨mc_1419, List.forall_mem_cons.mpr ⟨mc_1418, List.forall_mem_cons.mpr ⟨mc_139, List.forall_mem_cons.mpr ⟨mc_1417, List.forall_mem_cons.mpr ⟨mc_950, List.forall_mem_cons.mpr ⟨mc_948, List.forall_mem_cons.mpr ⟨mc_1125, List.forall_mem_cons.mpr ⟨mc_1416, List.forall_mem_cons.mpr ⟨mc_1243, List.forall_mem_cons.mpr ⟨mc_1415, List.forall_mem_cons.mpr ⟨mc_1302, List.forall_mem_cons.mpr ⟨mc_1301, fun _ h => absurd h List.not_mem_nil⟩⟩⟩⟩⟩⟩⟩⟩⟩⟩⟩⟩⟩⟩⟩⟩⟩⟩⟩⟩⟩⟩⟩⟩
theorem mc_1421 : Cond.methodLink RX0 47 yX0_deadlocked ∈ lw_tbl := mt_5 _ (List.mem_of_getElem? (i := 167) rfl)
theorem mc_1422 : Cond.code yX0_allDeadlocked cX0_allDeadlocked 3 (some .int) ∈ lw_tbl := mt_5 _ (List.mem_of_getElem? (i := 166) rfl)
theorem mc_1423 : Cond.selects RX0 yX0_allDeadlocked yX0_allDeadlocked ∈ lw_tbl := mt_5 _ (List.mem_of_getElem? (i := 165) rfl)
theorem mc_1424 : Cond.instanceMethod yX0_allDeadlocked ∈ lw_tbl := mt_5 _ (List.mem_of_getElem? (i := 164) rfl)
theorem mc_1425 : Cond.methodLink RX10 340 yX0_allDeadlocked ∈ lw_tbl := mt_5 _ (List.mem_of_getElem? (i := 163) rfl)
theorem mc_1426 : Cond.constant RX10 343 (-100000) ∈ lw_tbl := mt_5 _ (List.mem_of_getElem? (i := 168) rfl)
theorem mc_1427 : Cond.fieldLink RX10 337 "AheadStore$Standby" "done" "I" ∈ lw_tbl := mt_1 _ (List.mem_of_getElem? (i := 194) rfl)
set_option maxRecDepth 100000 in
theorem mT_wsX10_look_r4 : ∀ w ∈ wsX10_look_r4, w ∈ lw_tbl := by
  unfold wsX10_look_r4
  exact List.forall_mem_cons.mpr ⟨mc_1427, List.forall_mem_cons.mpr ⟨mc_1148, List.forall_mem_cons.mpr ⟨mc_1426, List.forall_mem_cons.mpr ⟨mc_1425, List.forall_mem_cons.mpr ⟨mc_1424, List.forall_mem_cons.mpr ⟨mc_1423, List.forall_mem_cons.mpr ⟨mc_36, List.forall_mem_cons.mpr ⟨mc_1422, List.forall_mem_cons.mpr ⟨mc_1421, List.forall_mem_cons.mpr ⟨mc_1195, List.forall_mem_cons.mpr ⟨mc_1194, List.forall_mem_cons.mpr ⟨mc_1193, List.forall_mem_cons.mpr ⟨mc_78, List.forall_mem_cons.mpr ⟨mc_1383, List.forall_mem_cons.mpr ⟨mc_1382, List.forall_mem_cons.mpr ⟨mc_1381, List.forall_mem_cons.mpr ⟨mc_1380, List.forall_mem_cons.mpr ⟨mc_592, List.forall_mem_cons.mpr ⟨mc_591, List.forall_mem_cons.mpr ⟨mc_590, List.forall_mem_cons.mpr ⟨mc_589, List.forall_mem_cons.mpr ⟨mc_588, List.forall_mem_cons.mpr ⟨mc_619, List.forall_mem_cons.mpr ⟨mc_618, fun _ h => absurd h List.not_mem_nil⟩⟩⟩⟩⟩⟩⟩⟩⟩⟩⟩⟩⟩⟩⟩⟩⟩⟩⟩⟩⟩⟩⟩⟩
set_option maxRecDepth 100000 in
theorem mT_wsX10_look_r5 : ∀ w ∈ wsX10_look_r5, w ∈ lw_tbl := by
  unfold wsX10_look_r5
  exact List.forall_mem_cons.mpr ⟨mc_617, List.forall_mem_cons.mpr ⟨mc_616, List.forall_mem_cons.mpr ⟨mc_615, List.forall_mem_cons.mpr ⟨mc_614, List.forall_mem_cons.mpr ⟨mc_613, List.forall_mem_cons.mpr ⟨mc_612, List.forall_mem_cons.mpr ⟨mc_611, List.forall_mem_cons.mpr ⟨mc_609, fun _ h => absurd h List.not_mem_nil⟩⟩⟩⟩⟩⟩⟩⟩
set_option maxRecDepth 100000 in
theorem mT_wsX10_look : ∀ w ∈ wsX10_look, w ∈ lw_tbl := by
  unfold wsX10_look
  exact List.forall_mem_cons.mpr ⟨mc_1401, List.forall_mem_append.mpr ⟨List.forall_mem_append.mpr ⟨List.forall_mem_append.mpr ⟨List.forall_mem_append.mpr ⟨List.forall_mem_append.mpr ⟨List.forall_mem_append.mpr ⟨List.forall_mem_append.mpr ⟨List.forall_mem_append.mpr ⟨List.forall_mem_append.mpr ⟨mT_wsX10_look_r1, List.forall_mem_append.mpr ⟨mT_wsX10_look_r2, List.forall_mem_append.mpr ⟨mT_wsX10_look_r3, List.forall_mem_append.mpr ⟨mT_wsX10_look_r4, mT_wsX10_look_r5⟩⟩⟩⟩, inX10⟩, inX9⟩, inX2⟩, inX3⟩, inX5⟩, inX6⟩, inX7⟩, inX0⟩⟩
theorem mc_1428 : Cond.selects RX10 yX10_look yX10_look ∈ lw_tbl := mt_5 _ (List.mem_of_getElem? (i := 146) rfl)
theorem mc_1429 : Cond.instanceMethod yX10_look ∈ lw_tbl := mt_5 _ (List.mem_of_getElem? (i := 145) rfl)
theorem mc_1430 : Cond.methodLink RL 130 yX10_look ∈ lw_tbl := mt_5 _ (List.mem_of_getElem? (i := 144) rfl)
set_option maxRecDepth 100000 in
theorem gT_X10_look : GoodIn lw_tbl (wsV RL 130 RX10 yX10_look wsX10_look) := goodIn_sub (List.forall_mem_append.mpr ⟨List.forall_mem_cons.mpr ⟨mc_1430, List.forall_mem_cons.mpr ⟨mc_1429, List.forall_mem_cons.mpr ⟨mc_1428, List.forall_mem_cons.mpr ⟨mc_139, fun _ h => absurd h List.not_mem_nil⟩⟩⟩⟩, mT_wsX10_look⟩) (by decide +kernel)
theorem mc_1431 : Cond.code yX11_look cX11_look 2 (some .int) ∈ lw_tbl := mt_7 _ (List.mem_of_getElem? (i := 226) rfl)
theorem mc_1432 : Cond.constant RX11 389 (-100000) ∈ lw_tbl := mt_8 _ (List.mem_of_getElem? (i := 7) rfl)
set_option maxRecDepth 100000 in
theorem mT_wsX11_look_r1 : ∀ w ∈ wsX11_look_r1, w ∈ lw_tbl := by
  unfold wsX11_look_r1
  exact List.forall_mem_cons.mpr ⟨mc_184, List.forall_mem_cons.mpr ⟨mc_151, List.forall_mem_cons.mpr ⟨mc_1069, List.forall_mem_cons.mpr ⟨mc_1432, List.forall_mem_cons.mpr ⟨mc_183, List.forall_mem_cons.mpr ⟨mc_182, List.forall_mem_cons.mpr ⟨mc_181, List.forall_mem_cons.mpr ⟨mc_155, List.forall_mem_cons.mpr ⟨mc_180, List.forall_mem_cons.mpr ⟨mc_315, List.forall_mem_cons.mpr ⟨mc_314, List.forall_mem_cons.mpr ⟨mc_313, List.forall_mem_cons.mpr ⟨mc_312, List.forall_mem_cons.mpr ⟨mc_366, List.forall_mem_cons.mpr ⟨mc_365, List.forall_mem_cons.mpr ⟨mc_364, List.forall_mem_cons.mpr ⟨mc_363, List.forall_mem_cons.mpr ⟨mc_175, List.forall_mem_cons.mpr ⟨mc_174, List.forall_mem_cons.mpr ⟨mc_173, List.forall_mem_cons.mpr ⟨mc_172, List.forall_mem_cons.mpr ⟨mc_701, List.forall_mem_cons.mpr ⟨mc_700, List.forall_mem_cons.mpr ⟨mc_699, fun _ h => absurd h List.not_mem_nil⟩⟩⟩⟩⟩⟩⟩⟩⟩⟩⟩⟩⟩⟩⟩⟩⟩⟩⟩⟩⟩⟩⟩⟩
theorem mc_1433 : Cond.code yX11_needed cX11_needed 3 (some .int) ∈ lw_tbl := mt_7 _ (List.mem_of_getElem? (i := 234) rfl)
theorem mc_1434 : Cond.selects RX11 yX11_needed yX11_needed ∈ lw_tbl := List.mem_append_left _ (List.mem_map.mpr ⟨(yX11_needed, 28), List.mem_of_getElem? (i := 109) rfl, rfl⟩)
theorem mc_1435 : Cond.instanceMethod yX11_needed ∈ lw_tbl := mt_7 _ (List.mem_of_getElem? (i := 233) rfl)
theorem mc_1436 : Cond.methodLink RX11 380 yX11_needed ∈ lw_tbl := mt_7 _ (List.mem_of_getElem? (i := 231) rfl)
theorem mc_1437 : Cond.code yX11_txSet cX11_txSet 4 (some .int) ∈ lw_tbl := mt_7 _ (List.mem_of_getElem? (i := 230) rfl)
theorem mc_1438 : Cond.selects RX11 yX11_txSet yX11_txSet ∈ lw_tbl := List.mem_append_left _ (List.mem_map.mpr ⟨(yX11_txSet, 28), List.mem_of_getElem? (i := 108) rfl, rfl⟩)
theorem mc_1439 : Cond.instanceMethod yX11_txSet ∈ lw_tbl := mt_7 _ (List.mem_of_getElem? (i := 229) rfl)
theorem mc_1440 : Cond.methodLink RX11 377 yX11_txSet ∈ lw_tbl := mt_7 _ (List.mem_of_getElem? (i := 227) rfl)
set_option maxRecDepth 100000 in
theorem mT_wsX11_look_r2 : ∀ w ∈ wsX11_look_r2, w ∈ lw_tbl := by
  unfold wsX11_look_r2
  exact List.forall_mem_cons.mpr ⟨mc_698, List.forall_mem_cons.mpr ⟨mc_171, List.forall_mem_cons.mpr ⟨mc_170, List.forall_mem_cons.mpr ⟨mc_169, List.forall_mem_cons.mpr ⟨mc_168, List.forall_mem_cons.mpr ⟨mc_1440, List.forall_mem_cons.mpr ⟨mc_1439, List.forall_mem_cons.mpr ⟨mc_1438, List.forall_mem_cons.mpr ⟨mc_1437, List.forall_mem_cons.mpr ⟨mc_290, List.forall_mem_cons.mpr ⟨mc_289, List.forall_mem_cons.mpr ⟨mc_288, List.forall_mem_cons.mpr ⟨mc_287, List.forall_mem_cons.mpr ⟨mc_286, List.forall_mem_cons.mpr ⟨mc_322, List.forall_mem_cons.mpr ⟨mc_321, List.forall_mem_cons.mpr ⟨mc_320, List.forall_mem_cons.mpr ⟨mc_1436, List.forall_mem_cons.mpr ⟨mc_1435, List.forall_mem_cons.mpr ⟨mc_1434, List.forall_mem_cons.mpr ⟨mc_1433, List.forall_mem_cons.mpr ⟨mc_772, List.forall_mem_cons.mpr ⟨mc_779, List.forall_mem_cons.mpr ⟨mc_778, fun _ h => absurd h List.not_mem_nil⟩⟩⟩⟩⟩⟩⟩⟩⟩⟩⟩⟩⟩⟩⟩⟩⟩⟩⟩⟩⟩⟩⟩⟩
theorem mc_1441 : Cond.code yX11_lockedSet cX11_lockedSet 3 (some .int) ∈ lw_tbl := mt_8 _ (List.mem_of_getElem? (i := 2) rfl)
theorem mc_1442 : Cond.selects RX11 yX11_lockedSet yX11_lockedSet ∈ lw_tbl := List.mem_append_left _ (List.mem_map.mpr ⟨(yX11_lockedSet, 28), List.mem_of_getElem? (i := 111) rfl, rfl⟩)
theorem mc_1443 : Cond.instanceMethod yX11_lockedSet ∈ lw_tbl := mt_8 _ (List.mem_of_getElem? (i := 1) rfl)
theorem mc_1444 : Cond.methodLink RX11 383 yX11_lockedSet ∈ lw_tbl := mt_7 _ (List.mem_of_getElem? (i := 239) rfl)
theorem mc_1445 : Cond.code yX11_firstRecord cX11_firstRecord 3 (some .int) ∈ lw_tbl := mt_7 _ (List.mem_of_getElem? (i := 238) rfl)
theorem mc_1446 : Cond.selects RX11 yX11_firstRecord yX11_firstRecord ∈ lw_tbl := List.mem_append_left _ (List.mem_map.mpr ⟨(yX11_firstRecord, 28), List.mem_of_getElem? (i := 110) rfl, rfl⟩)
theorem mc_1447 : Cond.instanceMethod yX11_firstRecord ∈ lw_tbl := mt_7 _ (List.mem_of_getElem? (i := 237) rfl)
theorem mc_1448 : Cond.methodLink RX11 272 yX11_firstRecord ∈ lw_tbl := mt_7 _ (List.mem_of_getElem? (i := 235) rfl)
set_option maxRecDepth 100000 in
theorem mT_wsX11_look_r3 : ∀ w ∈ wsX11_look_r3, w ∈ lw_tbl := by
  unfold wsX11_look_r3
  exact List.forall_mem_cons.mpr ⟨mc_777, List.forall_mem_cons.mpr ⟨mc_1448, List.forall_mem_cons.mpr ⟨mc_1447, List.forall_mem_cons.mpr ⟨mc_1446, List.forall_mem_cons.mpr ⟨mc_1445, List.forall_mem_cons.mpr ⟨mc_560, List.forall_mem_cons.mpr ⟨mc_559, List.forall_mem_cons.mpr ⟨mc_558, List.forall_mem_cons.mpr ⟨mc_557, List.forall_mem_cons.mpr ⟨mc_334, List.forall_mem_cons.mpr ⟨mc_333, List.forall_mem_cons.mpr ⟨mc_332, List.forall_mem_cons.mpr ⟨mc_331, List.forall_mem_cons.mpr ⟨mc_1444, List.forall_mem_cons.mpr ⟨mc_1443, List.forall_mem_cons.mpr ⟨mc_1442, List.forall_mem_cons.mpr ⟨mc_1441, List.forall_mem_cons.mpr ⟨mc_1207, List.forall_mem_cons.mpr ⟨mc_1206, List.forall_mem_cons.mpr ⟨mc_1205, List.forall_mem_cons.mpr ⟨mc_1204, List.forall_mem_cons.mpr ⟨mc_451, List.forall_mem_cons.mpr ⟨mc_450, List.forall_mem_cons.mpr ⟨mc_449, fun _ h => absurd h List.not_mem_nil⟩⟩⟩⟩⟩⟩⟩⟩⟩⟩⟩⟩⟩⟩⟩⟩⟩⟩⟩⟩⟩⟩⟩⟩
theorem mc_1449 : Cond.code yX11_recordMany cX11_recordMany 3 (some .int) ∈ lw_tbl := mt_8 _ (List.mem_of_getElem? (i := 6) rfl)
theorem mc_1450 : Cond.selects RX11 yX11_recordMany yX11_recordMany ∈ lw_tbl := List.mem_append_left _ (List.mem_map.mpr ⟨(yX11_recordMany, 28), List.mem_of_getElem? (i := 112) rfl, rfl⟩)
theorem mc_1451 : Cond.instanceMethod yX11_recordMany ∈ lw_tbl := mt_8 _ (List.mem_of_getElem? (i := 5) rfl)
theorem mc_1452 : Cond.methodLink RX11 386 yX11_recordMany ∈ lw_tbl := mt_8 _ (List.mem_of_getElem? (i := 3) rfl)
set_option maxRecDepth 100000 in
theorem mT_wsX11_look_r4 : ∀ w ∈ wsX11_look_r4, w ∈ lw_tbl := by
  unfold wsX11_look_r4
  exact List.forall_mem_cons.mpr ⟨mc_448, List.forall_mem_cons.mpr ⟨mc_1452, List.forall_mem_cons.mpr ⟨mc_1451, List.forall_mem_cons.mpr ⟨mc_1450, List.forall_mem_cons.mpr ⟨mc_1449, List.forall_mem_cons.mpr ⟨mc_721, List.forall_mem_cons.mpr ⟨mc_720, List.forall_mem_cons.mpr ⟨mc_719, List.forall_mem_cons.mpr ⟨mc_718, List.forall_mem_cons.mpr ⟨mc_717, List.forall_mem_cons.mpr ⟨mc_716, List.forall_mem_cons.mpr ⟨mc_715, List.forall_mem_cons.mpr ⟨mc_714, List.forall_mem_cons.mpr ⟨mc_179, List.forall_mem_cons.mpr ⟨mc_178, List.forall_mem_cons.mpr ⟨mc_177, List.forall_mem_cons.mpr ⟨mc_176, List.forall_mem_cons.mpr ⟨mc_338, List.forall_mem_cons.mpr ⟨mc_337, List.forall_mem_cons.mpr ⟨mc_336, List.forall_mem_cons.mpr ⟨mc_335, fun _ h => absurd h List.not_mem_nil⟩⟩⟩⟩⟩⟩⟩⟩⟩⟩⟩⟩⟩⟩⟩⟩⟩⟩⟩⟩⟩
set_option maxRecDepth 100000 in
theorem mT_wsX11_look : ∀ w ∈ wsX11_look, w ∈ lw_tbl := by
  unfold wsX11_look
  exact List.forall_mem_cons.mpr ⟨mc_1431, List.forall_mem_append.mpr ⟨List.forall_mem_append.mpr ⟨mT_wsX11_look_r1, List.forall_mem_append.mpr ⟨mT_wsX11_look_r2, List.forall_mem_append.mpr ⟨mT_wsX11_look_r3, mT_wsX11_look_r4⟩⟩⟩, inX11⟩⟩
theorem mc_1453 : Cond.selects RX11 yX11_look yX11_look ∈ lw_tbl := mt_7 _ (List.mem_of_getElem? (i := 225) rfl)
theorem mc_1454 : Cond.instanceMethod yX11_look ∈ lw_tbl := mt_7 _ (List.mem_of_getElem? (i := 224) rfl)
theorem mc_1455 : Cond.methodLink RL 133 yX11_look ∈ lw_tbl := mt_7 _ (List.mem_of_getElem? (i := 223) rfl)
set_option maxRecDepth 100000 in
theorem gT_X11_look : GoodIn lw_tbl (wsV RL 133 RX11 yX11_look wsX11_look) := goodIn_sub (List.forall_mem_append.mpr ⟨List.forall_mem_cons.mpr ⟨mc_1455, List.forall_mem_cons.mpr ⟨mc_1454, List.forall_mem_cons.mpr ⟨mc_1453, List.forall_mem_cons.mpr ⟨mc_155, fun _ h => absurd h List.not_mem_nil⟩⟩⟩⟩, mT_wsX11_look⟩) (by decide +kernel)
theorem mc_1456 : Cond.classLink RL 7 RX10 ∈ lw_tbl := mt_1 _ (List.mem_of_getElem? (i := 21) rfl)
theorem lcX10_0 : Cond.classLink RL 7 RX10 ∈ lw_tbl := mc_1456
theorem mc_1457 : Cond.instantiable RX10 6 ∈ lw_tbl := mt_1 _ (List.mem_of_getElem? (i := 22) rfl)
theorem lcX10_1 : Cond.instantiable RX10 6 ∈ lw_tbl := mc_1457
theorem mc_1458 : Cond.classLink RL 10 RX11 ∈ lw_tbl := mt_5 _ (List.mem_of_getElem? (i := 169) rfl)
theorem lcX11_0 : Cond.classLink RL 10 RX11 ∈ lw_tbl := mc_1458
theorem mc_1459 : Cond.instantiable RX11 28 ∈ lw_tbl := mt_5 _ (List.mem_of_getElem? (i := 170) rfl)
theorem lcX11_1 : Cond.instantiable RX11 28 ∈ lw_tbl := mc_1459
