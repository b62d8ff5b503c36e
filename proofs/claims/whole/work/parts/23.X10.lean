set_option maxRecDepth 100000 in
theorem cut_75 (cI : ClassId) (q0 : Nat → Nat) (u0 : S10) : Cut (cs10 cI q0 u0) (cs3 cI (fun i => q0 (i + 4)) (g9_pages (g10_now u0))) (fun _ : Unit => cs3 cI (fun i => q0 (i + 4)) (g9_pages (g10_now u0))) (fun _ : Unit => cs10 cI q0 u0) := ⟨[4, 5, 6, 7, 8, 9, 10, 11, 12, 13], [0, 1, 2, 3, 14, 15, 16, 17, 18, 19, 20, 21, 22, 23, 24, 25, 26, 27, 28, 29, 30, 31, 32, 33, 34, 35, 36, 37, 38, 39, 40, 41], rfl, rfl, rfl, by decide, by decide, fun _ => ⟨[0, 1, 2, 3, 32, 33, 34, 35, 36, 37, 38, 39, 40, 41, 4, 5, 6, 7, 8, 9, 10, 11, 12, 13, 14, 15, 16, 17, 18, 19, 20, 21, 22, 23, 24, 25, 26, 27, 28, 29, 30, 31], rfl, rfl⟩⟩

abbrev rX10_frames : Room := { frames := 1, cells := 0, slots := 0, locals := 21 }
theorem hdX10_frames : yX10_frames.cls = RX10 ∧ yX10_frames.cls ≠ "java/lang/invoke/MethodHandle" ∧ yX10_frames.cls ≠ "java/lang/invoke/VarHandle" ∧ (parseMethodDescriptor yX10_frames.desc).map (fun d => d.parameters.length) = some 1 := by decide +kernel
theorem inX10_frames_10 : ∀ w ∈ wsX100, w ∈ wsX10_frames := by decide +kernel
theorem inX10_frames_3 : ∀ w ∈ wsX30, w ∈ wsX10_frames := by decide +kernel
theorem inX10_frames_9 : ∀ w ∈ wsX90, w ∈ wsX10_frames := by decide +kernel
theorem kX10_frames_0 : Cond.fieldLink RX10 51 "AheadStore$Pages" "frameCount" "I" ∈ wsX10_frames := by decide +kernel
theorem kX10_frames_1 : Cond.fieldLink RX10 41 "AheadStore$World" "pages" "LAheadStore$Pages;" ∈ wsX10_frames := by decide +kernel
theorem kX10_frames_2 : Cond.fieldLink RX10 10 "AheadStore" "now" "LAheadStore$World;" ∈ wsX10_frames := by decide +kernel
theorem kX10_frames_3 : Cond.fieldLink RX10 37 "AheadStore$World" "up" "Z" ∈ wsX10_frames := by decide +kernel
set_option maxHeartbeats 4000000 in
set_option maxRecDepth 100000 in
theorem c_X10_frames {l : Launch} {dC : Nat → ClassId} {dI : Nat → Nat → Nat} {cI : ClassId} {q0 : Nat → Nat} {sz : Nat} {u0 : S10} {x1 : Int32} {Q : Int32 → S10 → Prop} (h : wp_X10_frames u0 x1 Q) : ctI sxE l yX10_frames wsX10_frames rX10_frames (dC, dI) vwCl [(cI, .int)] [.ref (q0 0), .int x1] (cs10 cI q0 u0) sz (fun (r : Int32) (v : S10) => Q r v) (fun (v : S10) => cs10 cI q0 v) := by
  refine mx_i (cc := cX10_frames) (maxL := 2) (ty := .boolean) (by decide) rfl (Nat.le_of_ble_eq_true rfl) ?_
  intro p e s m below meth c Z A ls args hx hb hml hown hts hA hP hK hD hE hl hret
  have hown : s.vm.findClass RX10 = some m.cls := hown
  have hl : lv_has ls 2 [(0, .ref (q0 0)), (1, .int x1)] := hl
  have hS : va_S A s.heap s.heap [] := va_S.rf
  refine lv_aload_n hx hb dX10_frames_0 rfl (lv_at hl 0 rfl) ?_
  refine va_get (D := (dC, dI)) (ci := 10) (v := .ref (q0 1)) (C := RX10) (T := TX10) (N := 6) hx hb hts inX10_frames_10 hown hK hP 0 rfl rfl 0 (by decide) (hts _ kX10_frames_2) (fun _ h9 => h9) rfl dX10_frames_1 ?_
  refine va_get (D := (dC, dI)) (ci := 9) (v := .int (g9_up (g10_now u0))) (C := RX9) (T := TX9) (N := 11) hx hb hts inX10_frames_9 hown hK hP 1 rfl rfl 6 (by decide) (hts _ kX10_frames_3) (fun _ h9 => h9) rfl dX10_frames_4 ?_
  refine lv_if_eq (tgt := 34) hx hb dX10_frames_7 (by decide) (fun cd => ?_) (fun cd => ?_)
  · have h := h.1 cd
    refine lv_iconst (v := 0) hx hb dX10_frames_34 (by decide) ?_
    exact hret _ _ _ _ _ u0 dX10_frames_35 (by decide) h hP hD hS
  · have h := h.2 cd
    refine lv_iload_n hx hb dX10_frames_10 rfl (lv_at hl 1 rfl) ?_
    refine lv_iconst (v := 1) hx hb dX10_frames_11 (by decide) ?_
    refine lv_icmp_lt (tgt := 34) hx hb dX10_frames_12 (by decide) (fun cd => ?_) (fun cd => ?_)
    · have h := h.1 cd
      refine lv_iconst (v := 0) hx hb dX10_frames_34 (by decide) ?_
      exact hret _ _ _ _ _ u0 dX10_frames_35 (by decide) h hP hD hS
    · have h := h.2 cd
      refine lv_iload_n hx hb dX10_frames_15 rfl (lv_at hl 1 rfl) ?_
      refine lv_bipush (v := 8) hx hb dX10_frames_16 (by decide) ?_
      refine lv_icmp_gt (tgt := 34) hx hb dX10_frames_18 (by decide) (fun cd => ?_) (fun cd => ?_)
      · have h := h.1 cd
        refine lv_iconst (v := 0) hx hb dX10_frames_34 (by decide) ?_
        exact hret _ _ _ _ _ u0 dX10_frames_35 (by decide) h hP hD hS
      · have h := h.2 cd
        refine lv_aload_n hx hb dX10_frames_21 rfl (lv_at hl 0 rfl) ?_
        refine va_get (D := (dC, dI)) (ci := 10) (v := .ref (q0 1)) (C := RX10) (T := TX10) (N := 6) hx hb hts inX10_frames_10 hown hK hP 0 rfl rfl 0 (by decide) (hts _ kX10_frames_2) (fun _ h9 => h9) rfl dX10_frames_22 ?_
        refine va_get (D := (dC, dI)) (ci := 9) (v := .ref (q0 4)) (C := RX9) (T := TX9) (N := 11) hx hb hts inX10_frames_9 hown hK hP 1 rfl rfl 1 (by decide) (hts _ kX10_frames_1) (fun _ h9 => h9) rfl dX10_frames_25 ?_
        refine cx_vi (As := []) (rest := []) ⟨hx, hb, hml, hown, hts⟩ hl.1 ok_sxE hE hK hP hD hS hA (cut_75 cI q0 u0) (c_X3_holdsAny (l := l) (dC := dC) (dI := dI) (cI := cI) (q0 := fun i => q0 (i + 4)) h) (cwV 0 hts gX10_frames_X3_holdsAny rfl rfl rfl hdX3_holdsAny ⟨Nat.le_of_ble_eq_true rfl, Nat.le_of_ble_eq_true rfl⟩) rfl rfl rfl rfl (Nat.le_of_ble_eq_true rfl) dX10_frames_28 rfl (fun r_1 _ H locs h hP hD hS => ?_)
        refine lv_if_eq (tgt := 36) hx hb dX10_frames_31 (by decide) (fun cd => ?_) (fun cd => ?_)
        · have h := h.1 cd
          refine lv_aload_n hx hb dX10_frames_36 rfl (lv_at hl 0 rfl) ?_
          refine va_get (D := (dC, dI)) (ci := 10) (v := .ref (q0 1)) (C := RX10) (T := TX10) (N := 6) hx hb hts inX10_frames_10 hown hK hP 0 rfl rfl 0 (by decide) (hts _ kX10_frames_2) (fun _ h9 => h9) rfl dX10_frames_37 ?_
          refine va_get (D := (dC, dI)) (ci := 9) (v := .ref (q0 4)) (C := RX9) (T := TX9) (N := 11) hx hb hts inX10_frames_9 hown hK hP 1 rfl rfl 1 (by decide) (hts _ kX10_frames_1) (fun _ h9 => h9) rfl dX10_frames_40 ?_
          refine lv_iload_n hx hb dX10_frames_43 rfl (lv_at hl 1 rfl) ?_
          refine va_put (D := (dC, dI)) (ci := 3) (v := .int x1) (ty := .int) (C := RX3) (T := TX3) (N := 12) hx hb hts inX10_frames_3 tyX3 tyX3_ok nmX3 hown hK hP hD hS 4 rfl rfl 5 (by decide) (hts _ kX10_frames_0) (fun _ h9 => h9) rfl (tyX3_ok 5 (by decide)) rfl rfl (Nat.le_of_ble_eq_true rfl) dX10_frames_44 (fun H locs hP hD hS => ?_)
          obtain ⟨u0_2, e_u0_2⟩ : ∃ z, z = s10_now u0 (s9_pages (g10_now u0) (s3_frameCount (g9_pages (g10_now u0)) x1)) := ⟨_, rfl⟩
          have h := h u0_2 e_u0_2
          have hP : va_P (dC, dI) vwCl (cs10 cI q0 u0_2) H := by rw [e_u0_2]; exact hP
          have hD : va_D A (cs10 cI q0 u0_2) := by rw [e_u0_2]; exact hD
          refine lv_iconst (v := 1) hx hb dX10_frames_47 (by decide) ?_
          exact hret _ _ _ _ _ u0_2 dX10_frames_48 (by decide) h hP hD hS
        · have h := h.2 cd
          refine lv_iconst (v := 0) hx hb dX10_frames_34 (by decide) ?_
          exact hret _ _ _ _ _ u0 dX10_frames_35 (by decide) h hP hD hS

set_option maxRecDepth 100000 in
theorem cut_76 (cI : ClassId) (q0 : Nat → Nat) (u0 : S10) : Cut (cs10 cI q0 u0) (cs9 cI (fun i => q0 (i + 1)) (g10_now u0)) (fun v : S9 => cs9 cI (fun i => q0 (i + 1)) v) (fun v : S9 => cs10 cI q0 (s10_now u0 v)) := ⟨[1, 2, 3, 4, 5, 6, 7, 8, 9, 10, 11, 12, 13, 14, 15, 16, 17, 18, 19, 20, 21, 22, 23, 24, 25, 26, 27, 28, 29, 30], [0, 31, 32, 33, 34, 35, 36, 37, 38, 39, 40, 41], rfl, rfl, rfl, by decide, by decide, fun v => ⟨[0, 12, 13, 14, 15, 16, 17, 18, 19, 20, 21, 22, 23, 24, 25, 26, 27, 28, 29, 30, 31, 32, 33, 34, 35, 36, 37, 38, 39, 40, 41, 1, 2, 3, 4, 5, 6, 7, 8, 9, 10, 11], rfl, rfl⟩⟩

abbrev rX10_act : Room := { frames := 5, cells := 0, slots := 0, locals := 109 }
theorem hdX10_act : yX10_act.cls = RX10 ∧ yX10_act.cls ≠ "java/lang/invoke/MethodHandle" ∧ yX10_act.cls ≠ "java/lang/invoke/VarHandle" ∧ (parseMethodDescriptor yX10_act.desc).map (fun d => d.parameters.length) = some 2 := by decide +kernel
theorem inX10_act_10 : ∀ w ∈ wsX100, w ∈ wsX10_act := by decide +kernel
theorem kX10_act_0 : Cond.fieldLink RX10 10 "AheadStore" "now" "LAheadStore$World;" ∈ wsX10_act := by decide +kernel
set_option maxHeartbeats 4000000 in
set_option maxRecDepth 100000 in
theorem c_X10_act {l : Launch} {dC : Nat → ClassId} {dI : Nat → Nat → Nat} {cI : ClassId} {q0 : Nat → Nat} {sz : Nat} {u0 : S10} {x1 : Int32} {x2 : Int32} {Q : Int32 → S10 → Prop} (h : wp_X10_act u0 x1 x2 Q) : ctI sxE l yX10_act wsX10_act rX10_act (dC, dI) vwCl [(cI, .int)] [.ref (q0 0), .int x1, .int x2] (cs10 cI q0 u0) sz (fun (r : Int32) (v : S10) => Q r v) (fun (v : S10) => cs10 cI q0 v) := by
  refine mx_i (cc := cX10_act) (maxL := 3) (ty := .boolean) (by decide) rfl (Nat.le_of_ble_eq_true rfl) ?_
  intro p e s m below meth c Z A ls args hx hb hml hown hts hA hP hK hD hE hl hret
  have hown : s.vm.findClass RX10 = some m.cls := hown
  have hl : lv_has ls 3 [(0, .ref (q0 0)), (1, .int x1), (2, .int x2)] := hl
  have hS : va_S A s.heap s.heap [] := va_S.rf
  refine lv_iload_n hx hb dX10_act_0 rfl (lv_at hl 2 rfl) ?_
  by_cases c0 : x2 = 0
  · have h := h.1 c0
    refine lv_tableIn (tgt := 36) (off := 35) hx hb dX10_act_1 (by rw [c0]; decide) (by rw [c0]; decide) (by rw [c0]; rfl) (by decide) ?_
    refine lv_aload_n hx hb dX10_act_36 rfl (lv_at hl 0 rfl) ?_
    refine va_get (D := (dC, dI)) (ci := 10) (v := .ref (q0 1)) (C := RX10) (T := TX10) (N := 6) hx hb hts inX10_act_10 hown hK hP 0 rfl rfl 0 (by decide) (hts _ kX10_act_0) (fun _ h9 => h9) rfl dX10_act_37 ?_
    refine lv_iload_n hx hb dX10_act_40 rfl (lv_at hl 1 rfl) ?_
    refine cx_vi (As := [.int x1]) (rest := []) ⟨hx, hb, hml, hown, hts⟩ hl.1 ok_sxE hE hK hP hD hS hA (cut_76 cI q0 u0) (c_X9_begin (l := l) (dC := dC) (dI := dI) (cI := cI) (q0 := fun i => q0 (i + 1)) h) (cwV 1 hts gX10_act_X9_begin rfl rfl rfl hdX9_begin ⟨Nat.le_of_ble_eq_true rfl, Nat.le_of_ble_eq_true rfl⟩) rfl rfl rfl rfl (Nat.le_of_ble_eq_true rfl) dX10_act_41 rfl (fun r_1 v_2 H locs h hP hD hS => ?_)
    obtain ⟨u0_3, e_u0_3⟩ : ∃ z, z = s10_now u0 v_2 := ⟨_, rfl⟩
    have h := h u0_3 e_u0_3
    have hP : va_P (dC, dI) vwCl (cs10 cI q0 u0_3) H := by rw [e_u0_3]; exact hP
    have hD : va_D A (cs10 cI q0 u0_3) := by rw [e_u0_3]; exact hD
    exact hret _ _ _ _ _ u0_3 dX10_act_44 (zb_n h.1) h.2 hP hD hS
  have h := h.2 c0
  by_cases c1 : x2 = 1
  · have h := h.1 c1
    refine lv_tableIn (tgt := 45) (off := 44) hx hb dX10_act_1 (by rw [c1]; decide) (by rw [c1]; decide) (by rw [c1]; rfl) (by decide) ?_
    refine lv_aload_n hx hb dX10_act_45 rfl (lv_at hl 0 rfl) ?_
    refine va_get (D := (dC, dI)) (ci := 10) (v := .ref (q0 1)) (C := RX10) (T := TX10) (N := 6) hx hb hts inX10_act_10 hown hK hP 0 rfl rfl 0 (by decide) (hts _ kX10_act_0) (fun _ h9 => h9) rfl dX10_act_46 ?_
    refine lv_iload_n hx hb dX10_act_49 rfl (lv_at hl 1 rfl) ?_
    refine cx_vi (As := [.int x1]) (rest := []) ⟨hx, hb, hml, hown, hts⟩ hl.1 ok_sxE hE hK hP hD hS hA (cut_76 cI q0 u0) (c_X9_commit (l := l) (dC := dC) (dI := dI) (cI := cI) (q0 := fun i => q0 (i + 1)) h) (cwV 1 hts gX10_act_X9_commit rfl rfl rfl hdX9_commit ⟨Nat.le_of_ble_eq_true rfl, Nat.le_of_ble_eq_true rfl⟩) rfl rfl rfl rfl (Nat.le_of_ble_eq_true rfl) dX10_act_50 rfl (fun r_4 v_5 H locs h hP hD hS => ?_)
    obtain ⟨u0_6, e_u0_6⟩ : ∃ z, z = s10_now u0 v_5 := ⟨_, rfl⟩
    have h := h u0_6 e_u0_6
    have hP : va_P (dC, dI) vwCl (cs10 cI q0 u0_6) H := by rw [e_u0_6]; exact hP
    have hD : va_D A (cs10 cI q0 u0_6) := by rw [e_u0_6]; exact hD
    exact hret _ _ _ _ _ u0_6 dX10_act_53 (zb_n h.1) h.2 hP hD hS
  have h := h.2 c1
  by_cases c2 : x2 = 2
  · have h := h.1 c2
    refine lv_tableIn (tgt := 54) (off := 53) hx hb dX10_act_1 (by rw [c2]; decide) (by rw [c2]; decide) (by rw [c2]; rfl) (by decide) ?_
    refine lv_aload_n hx hb dX10_act_54 rfl (lv_at hl 0 rfl) ?_
    refine va_get (D := (dC, dI)) (ci := 10) (v := .ref (q0 1)) (C := RX10) (T := TX10) (N := 6) hx hb hts inX10_act_10 hown hK hP 0 rfl rfl 0 (by decide) (hts _ kX10_act_0) (fun _ h9 => h9) rfl dX10_act_55 ?_
    refine lv_iload_n hx hb dX10_act_58 rfl (lv_at hl 1 rfl) ?_
    refine cx_vi (As := [.int x1]) (rest := []) ⟨hx, hb, hml, hown, hts⟩ hl.1 ok_sxE hE hK hP hD hS hA (cut_76 cI q0 u0) (c_X9_abort (l := l) (dC := dC) (dI := dI) (cI := cI) (q0 := fun i => q0 (i + 1)) h) (cwV 1 hts gX10_act_X9_abort rfl rfl rfl hdX9_abort ⟨Nat.le_of_ble_eq_true rfl, Nat.le_of_ble_eq_true rfl⟩) rfl rfl rfl rfl (Nat.le_of_ble_eq_true rfl) dX10_act_59 rfl (fun r_7 v_8 H locs h hP hD hS => ?_)
    obtain ⟨u0_9, e_u0_9⟩ : ∃ z, z = s10_now u0 v_8 := ⟨_, rfl⟩
    have h := h u0_9 e_u0_9
    have hP : va_P (dC, dI) vwCl (cs10 cI q0 u0_9) H := by rw [e_u0_9]; exact hP
    have hD : va_D A (cs10 cI q0 u0_9) := by rw [e_u0_9]; exact hD
    exact hret _ _ _ _ _ u0_9 dX10_act_62 (zb_n h.1) h.2 hP hD hS
  have h := h.2 c2
  by_cases c3 : x2 = 3
  · have h := h.1 c3
    refine lv_tableIn (tgt := 63) (off := 62) hx hb dX10_act_1 (by rw [c3]; decide) (by rw [c3]; decide) (by rw [c3]; rfl) (by decide) ?_
    refine lv_aload_n hx hb dX10_act_63 rfl (lv_at hl 0 rfl) ?_
    refine va_get (D := (dC, dI)) (ci := 10) (v := .ref (q0 1)) (C := RX10) (T := TX10) (N := 6) hx hb hts inX10_act_10 hown hK hP 0 rfl rfl 0 (by decide) (hts _ kX10_act_0) (fun _ h9 => h9) rfl dX10_act_64 ?_
    refine lv_iload_n hx hb dX10_act_67 rfl (lv_at hl 1 rfl) ?_
    refine cx_vi (As := [.int x1]) (rest := []) ⟨hx, hb, hml, hown, hts⟩ hl.1 ok_sxE hE hK hP hD hS hA (cut_76 cI q0 u0) (c_X9_openTop (l := l) (dC := dC) (dI := dI) (cI := cI) (q0 := fun i => q0 (i + 1)) h) (cwV 1 hts gX10_act_X9_openTop rfl rfl rfl hdX9_openTop ⟨Nat.le_of_ble_eq_true rfl, Nat.le_of_ble_eq_true rfl⟩) rfl rfl rfl rfl (Nat.le_of_ble_eq_true rfl) dX10_act_68 rfl (fun r_10 v_11 H locs h hP hD hS => ?_)
    obtain ⟨u0_12, e_u0_12⟩ : ∃ z, z = s10_now u0 v_11 := ⟨_, rfl⟩
    have h := h u0_12 e_u0_12
    have hP : va_P (dC, dI) vwCl (cs10 cI q0 u0_12) H := by rw [e_u0_12]; exact hP
    have hD : va_D A (cs10 cI q0 u0_12) := by rw [e_u0_12]; exact hD
    exact hret _ _ _ _ _ u0_12 dX10_act_71 (zb_n h.1) h.2 hP hD hS
  have h := h.2 c3
  by_cases c4 : x2 = 4
  · have h := h.1 c4
    refine lv_tableIn (tgt := 72) (off := 71) hx hb dX10_act_1 (by rw [c4]; decide) (by rw [c4]; decide) (by rw [c4]; rfl) (by decide) ?_
    refine lv_aload_n hx hb dX10_act_72 rfl (lv_at hl 0 rfl) ?_
    refine va_get (D := (dC, dI)) (ci := 10) (v := .ref (q0 1)) (C := RX10) (T := TX10) (N := 6) hx hb hts inX10_act_10 hown hK hP 0 rfl rfl 0 (by decide) (hts _ kX10_act_0) (fun _ h9 => h9) rfl dX10_act_73 ?_
    refine lv_iload_n hx hb dX10_act_76 rfl (lv_at hl 1 rfl) ?_
    refine cx_vi (As := [.int x1]) (rest := []) ⟨hx, hb, hml, hown, hts⟩ hl.1 ok_sxE hE hK hP hD hS hA (cut_76 cI q0 u0) (c_X9_closeTop (l := l) (dC := dC) (dI := dI) (cI := cI) (q0 := fun i => q0 (i + 1)) h) (cwV 1 hts gX10_act_X9_closeTop rfl rfl rfl hdX9_closeTop ⟨Nat.le_of_ble_eq_true rfl, Nat.le_of_ble_eq_true rfl⟩) rfl rfl rfl rfl (Nat.le_of_ble_eq_true rfl) dX10_act_77 rfl (fun r_13 v_14 H locs h hP hD hS => ?_)
    obtain ⟨u0_15, e_u0_15⟩ : ∃ z, z = s10_now u0 v_14 := ⟨_, rfl⟩
    have h := h u0_15 e_u0_15
    have hP : va_P (dC, dI) vwCl (cs10 cI q0 u0_15) H := by rw [e_u0_15]; exact hP
    have hD : va_D A (cs10 cI q0 u0_15) := by rw [e_u0_15]; exact hD
    exact hret _ _ _ _ _ u0_15 dX10_act_80 (zb_n h.1) h.2 hP hD hS
  have h := h.2 c4
  refine lv_tableOut (tgt := 81) hx hb dX10_act_1 (by have z0 := lv_neT (a := 0) c0 (by decide); have z1 := lv_neT (a := 1) c1 (by decide); have z2 := lv_neT (a := 2) c2 (by decide); have z3 := lv_neT (a := 3) c3 (by decide); have z4 := lv_neT (a := 4) c4 (by decide); omega) (by decide) ?_
  refine lv_iconst (v := 0) hx hb dX10_act_81 (by decide) ?_
  exact hret _ _ _ _ _ u0 dX10_act_82 (by decide) h hP hD hS

abbrev rX10_write : Room := { frames := 5, cells := 0, slots := 0, locals := 116 }
theorem hdX10_write : yX10_write.cls = RX10 ∧ yX10_write.cls ≠ "java/lang/invoke/MethodHandle" ∧ yX10_write.cls ≠ "java/lang/invoke/VarHandle" ∧ (parseMethodDescriptor yX10_write.desc).map (fun d => d.parameters.length) = some 3 := by decide +kernel
theorem inX10_write_10 : ∀ w ∈ wsX100, w ∈ wsX10_write := by decide +kernel
theorem kX10_write_0 : Cond.fieldLink RX10 10 "AheadStore" "now" "LAheadStore$World;" ∈ wsX10_write := by decide +kernel
set_option maxHeartbeats 4000000 in
set_option maxRecDepth 100000 in
theorem c_X10_write {l : Launch} {dC : Nat → ClassId} {dI : Nat → Nat → Nat} {cI : ClassId} {q0 : Nat → Nat} {sz : Nat} {u0 : S10} {x1 : Int32} {x2 : Int32} {x3 : Int32} {Q : Int32 → S10 → Prop} (h : wp_X10_write u0 x1 x2 x3 Q) : ctI sxE l yX10_write wsX10_write rX10_write (dC, dI) vwCl [(cI, .int)] [.ref (q0 0), .int x1, .int x2, .int x3] (cs10 cI q0 u0) sz (fun (r : Int32) (v : S10) => Q r v) (fun (v : S10) => cs10 cI q0 v) := by
  refine mx_i (cc := cX10_write) (maxL := 4) (ty := .boolean) (by decide) rfl (Nat.le_of_ble_eq_true rfl) ?_
  intro p e s m below meth c Z A ls args hx hb hml hown hts hA hP hK hD hE hl hret
  have hown : s.vm.findClass RX10 = some m.cls := hown
  have hl : lv_has ls 4 [(0, .ref (q0 0)), (1, .int x1), (2, .int x2), (3, .int x3)] := hl
  have hS : va_S A s.heap s.heap [] := va_S.rf
  refine lv_aload_n hx hb dX10_write_0 rfl (lv_at hl 0 rfl) ?_
  refine va_get (D := (dC, dI)) (ci := 10) (v := .ref (q0 1)) (C := RX10) (T := TX10) (N := 6) hx hb hts inX10_write_10 hown hK hP 0 rfl rfl 0 (by decide) (hts _ kX10_write_0) (fun _ h9 => h9) rfl dX10_write_1 ?_
  refine lv_iload_n hx hb dX10_write_4 rfl (lv_at hl 1 rfl) ?_
  refine lv_iload_n hx hb dX10_write_5 rfl (lv_at hl 2 rfl) ?_
  refine lv_iload_n hx hb dX10_write_6 rfl (lv_at hl 3 rfl) ?_
  refine lv_iconst (v := 2) hx hb dX10_write_7 (by decide) ?_
  refine cx_vi (As := [.int x1, .int x2, .int x3, .int 2]) (rest := []) ⟨hx, hb, hml, hown, hts⟩ hl.1 ok_sxE hE hK hP hD hS hA (cut_76 cI q0 u0) (c_X9_change (l := l) (dC := dC) (dI := dI) (cI := cI) (q0 := fun i => q0 (i + 1)) h) (cwV 4 hts gX10_write_X9_change rfl rfl rfl hdX9_change ⟨Nat.le_of_ble_eq_true rfl, Nat.le_of_ble_eq_true rfl⟩) rfl rfl rfl rfl (Nat.le_of_ble_eq_true rfl) dX10_write_8 rfl (fun r_1 v_2 H locs h hP hD hS => ?_)
  obtain ⟨u0_3, e_u0_3⟩ : ∃ z, z = s10_now u0 v_2 := ⟨_, rfl⟩
  have h := h u0_3 e_u0_3
  have hP : va_P (dC, dI) vwCl (cs10 cI q0 u0_3) H := by rw [e_u0_3]; exact hP
  have hD : va_D A (cs10 cI q0 u0_3) := by rw [e_u0_3]; exact hD
  exact hret _ _ _ _ _ u0_3 dX10_write_11 (zb_n h.1) h.2 hP hD hS

abbrev rX10_add : Room := { frames := 5, cells := 0, slots := 0, locals := 116 }
theorem hdX10_add : yX10_add.cls = RX10 ∧ yX10_add.cls ≠ "java/lang/invoke/MethodHandle" ∧ yX10_add.cls ≠ "java/lang/invoke/VarHandle" ∧ (parseMethodDescriptor yX10_add.desc).map (fun d => d.parameters.length) = some 3 := by decide +kernel
theorem inX10_add_10 : ∀ w ∈ wsX100, w ∈ wsX10_add := by decide +kernel
theorem kX10_add_0 : Cond.fieldLink RX10 10 "AheadStore" "now" "LAheadStore$World;" ∈ wsX10_add := by decide +kernel
set_option maxHeartbeats 4000000 in
set_option maxRecDepth 100000 in
theorem c_X10_add {l : Launch} {dC : Nat → ClassId} {dI : Nat → Nat → Nat} {cI : ClassId} {q0 : Nat → Nat} {sz : Nat} {u0 : S10} {x1 : Int32} {x2 : Int32} {x3 : Int32} {Q : Int32 → S10 → Prop} (h : wp_X10_add u0 x1 x2 x3 Q) : ctI sxE l yX10_add wsX10_add rX10_add (dC, dI) vwCl [(cI, .int)] [.ref (q0 0), .int x1, .int x2, .int x3] (cs10 cI q0 u0) sz (fun (r : Int32) (v : S10) => Q r v) (fun (v : S10) => cs10 cI q0 v) := by
  refine mx_i (cc := cX10_add) (maxL := 4) (ty := .boolean) (by decide) rfl (Nat.le_of_ble_eq_true rfl) ?_
  intro p e s m below meth c Z A ls args hx hb hml hown hts hA hP hK hD hE hl hret
  have hown : s.vm.findClass RX10 = some m.cls := hown
  have hl : lv_has ls 4 [(0, .ref (q0 0)), (1, .int x1), (2, .int x2), (3, .int x3)] := hl
  have hS : va_S A s.heap s.heap [] := va_S.rf
  refine lv_aload_n hx hb dX10_add_0 rfl (lv_at hl 0 rfl) ?_
  refine va_get (D := (dC, dI)) (ci := 10) (v := .ref (q0 1)) (C := RX10) (T := TX10) (N := 6) hx hb hts inX10_add_10 hown hK hP 0 rfl rfl 0 (by decide) (hts _ kX10_add_0) (fun _ h9 => h9) rfl dX10_add_1 ?_
  refine lv_iload_n hx hb dX10_add_4 rfl (lv_at hl 1 rfl) ?_
  refine lv_iload_n hx hb dX10_add_5 rfl (lv_at hl 2 rfl) ?_
  refine lv_iload_n hx hb dX10_add_6 rfl (lv_at hl 3 rfl) ?_
  refine lv_iconst (v := 3) hx hb dX10_add_7 (by decide) ?_
  refine cx_vi (As := [.int x1, .int x2, .int x3, .int 3]) (rest := []) ⟨hx, hb, hml, hown, hts⟩ hl.1 ok_sxE hE hK hP hD hS hA (cut_76 cI q0 u0) (c_X9_change (l := l) (dC := dC) (dI := dI) (cI := cI) (q0 := fun i => q0 (i + 1)) h) (cwV 4 hts gX10_add_X9_change rfl rfl rfl hdX9_change ⟨Nat.le_of_ble_eq_true rfl, Nat.le_of_ble_eq_true rfl⟩) rfl rfl rfl rfl (Nat.le_of_ble_eq_true rfl) dX10_add_8 rfl (fun r_1 v_2 H locs h hP hD hS => ?_)
  obtain ⟨u0_3, e_u0_3⟩ : ∃ z, z = s10_now u0 v_2 := ⟨_, rfl⟩
  have h := h u0_3 e_u0_3
  have hP : va_P (dC, dI) vwCl (cs10 cI q0 u0_3) H := by rw [e_u0_3]; exact hP
  have hD : va_D A (cs10 cI q0 u0_3) := by rw [e_u0_3]; exact hD
  exact hret _ _ _ _ _ u0_3 dX10_add_11 (zb_n h.1) h.2 hP hD hS

abbrev rX10_save : Room := { frames := 3, cells := 0, slots := 0, locals := 62 }
theorem hdX10_save : yX10_save.cls = RX10 ∧ yX10_save.cls ≠ "java/lang/invoke/MethodHandle" ∧ yX10_save.cls ≠ "java/lang/invoke/VarHandle" ∧ (parseMethodDescriptor yX10_save.desc).map (fun d => d.parameters.length) = some 1 := by decide +kernel
theorem inX10_save_10 : ∀ w ∈ wsX100, w ∈ wsX10_save := by decide +kernel
theorem kX10_save_0 : Cond.fieldLink RX10 10 "AheadStore" "now" "LAheadStore$World;" ∈ wsX10_save := by decide +kernel
set_option maxHeartbeats 4000000 in
set_option maxRecDepth 100000 in
theorem c_X10_save {l : Launch} {dC : Nat → ClassId} {dI : Nat → Nat → Nat} {cI : ClassId} {q0 : Nat → Nat} {sz : Nat} {u0 : S10} {x1 : Int32} {Q : Int32 → S10 → Prop} (h : wp_X10_save u0 x1 Q) : ctI sxE l yX10_save wsX10_save rX10_save (dC, dI) vwCl [(cI, .int)] [.ref (q0 0), .int x1] (cs10 cI q0 u0) sz (fun (r : Int32) (v : S10) => Q r v) (fun (v : S10) => cs10 cI q0 v) := by
  refine mx_i (cc := cX10_save) (maxL := 2) (ty := .int) (by decide) rfl (Nat.le_of_ble_eq_true rfl) ?_
  intro p e s m below meth c Z A ls args hx hb hml hown hts hA hP hK hD hE hl hret
  have hown : s.vm.findClass RX10 = some m.cls := hown
  have hl : lv_has ls 2 [(0, .ref (q0 0)), (1, .int x1)] := hl
  have hS : va_S A s.heap s.heap [] := va_S.rf
  refine lv_aload_n hx hb dX10_save_0 rfl (lv_at hl 0 rfl) ?_
  refine va_get (D := (dC, dI)) (ci := 10) (v := .ref (q0 1)) (C := RX10) (T := TX10) (N := 6) hx hb hts inX10_save_10 hown hK hP 0 rfl rfl 0 (by decide) (hts _ kX10_save_0) (fun _ h9 => h9) rfl dX10_save_1 ?_
  refine lv_iload_n hx hb dX10_save_4 rfl (lv_at hl 1 rfl) ?_
  refine cx_vi (As := [.int x1]) (rest := []) ⟨hx, hb, hml, hown, hts⟩ hl.1 ok_sxE hE hK hP hD hS hA (cut_76 cI q0 u0) (c_X9_putSave (l := l) (dC := dC) (dI := dI) (cI := cI) (q0 := fun i => q0 (i + 1)) h) (cwV 1 hts gX10_save_X9_putSave rfl rfl rfl hdX9_putSave ⟨Nat.le_of_ble_eq_true rfl, Nat.le_of_ble_eq_true rfl⟩) rfl rfl rfl rfl (Nat.le_of_ble_eq_true rfl) dX10_save_5 rfl (fun r_1 v_2 H locs h hP hD hS => ?_)
  obtain ⟨u0_3, e_u0_3⟩ : ∃ z, z = s10_now u0 v_2 := ⟨_, rfl⟩
  have h := h u0_3 e_u0_3
  have hP : va_P (dC, dI) vwCl (cs10 cI q0 u0_3) H := by rw [e_u0_3]; exact hP
  have hD : va_D A (cs10 cI q0 u0_3) := by rw [e_u0_3]; exact hD
  exact hret _ _ _ _ _ u0_3 dX10_save_8 (vp_nar_int _) h hP hD hS

abbrev rX10_back : Room := { frames := 6, cells := 0, slots := 0, locals := 140 }
theorem hdX10_back : yX10_back.cls = RX10 ∧ yX10_back.cls ≠ "java/lang/invoke/MethodHandle" ∧ yX10_back.cls ≠ "java/lang/invoke/VarHandle" ∧ (parseMethodDescriptor yX10_back.desc).map (fun d => d.parameters.length) = some 2 := by decide +kernel
theorem inX10_back_10 : ∀ w ∈ wsX100, w ∈ wsX10_back := by decide +kernel
theorem kX10_back_0 : Cond.fieldLink RX10 10 "AheadStore" "now" "LAheadStore$World;" ∈ wsX10_back := by decide +kernel
set_option maxHeartbeats 4000000 in
set_option maxRecDepth 100000 in
theorem c_X10_back {l : Launch} {dC : Nat → ClassId} {dI : Nat → Nat → Nat} {cI : ClassId} {q0 : Nat → Nat} {sz : Nat} {u0 : S10} {x1 : Int32} {x2 : Int32} {Q : Int32 → S10 → Prop} (h : wp_X10_back u0 x1 x2 Q) : ctI sxE l yX10_back wsX10_back rX10_back (dC, dI) vwCl [(cI, .int)] [.ref (q0 0), .int x1, .int x2] (cs10 cI q0 u0) sz (fun (r : Int32) (v : S10) => Q r v) (fun (v : S10) => cs10 cI q0 v) := by
  refine mx_i (cc := cX10_back) (maxL := 3) (ty := .int) (by decide) rfl (Nat.le_of_ble_eq_true rfl) ?_
  intro p e s m below meth c Z A ls args hx hb hml hown hts hA hP hK hD hE hl hret
  have hown : s.vm.findClass RX10 = some m.cls := hown
  have hl : lv_has ls 3 [(0, .ref (q0 0)), (1, .int x1), (2, .int x2)] := hl
  have hS : va_S A s.heap s.heap [] := va_S.rf
  refine lv_aload_n hx hb dX10_back_0 rfl (lv_at hl 0 rfl) ?_
  refine va_get (D := (dC, dI)) (ci := 10) (v := .ref (q0 1)) (C := RX10) (T := TX10) (N := 6) hx hb hts inX10_back_10 hown hK hP 0 rfl rfl 0 (by decide) (hts _ kX10_back_0) (fun _ h9 => h9) rfl dX10_back_1 ?_
  refine lv_iload_n hx hb dX10_back_4 rfl (lv_at hl 1 rfl) ?_
  refine lv_iload_n hx hb dX10_back_5 rfl (lv_at hl 2 rfl) ?_
  refine cx_vi (As := [.int x1, .int x2]) (rest := []) ⟨hx, hb, hml, hown, hts⟩ hl.1 ok_sxE hE hK hP hD hS hA (cut_76 cI q0 u0) (c_X9_goBack (l := l) (dC := dC) (dI := dI) (cI := cI) (q0 := fun i => q0 (i + 1)) h) (cwV 2 hts gX10_back_X9_goBack rfl rfl rfl hdX9_goBack ⟨Nat.le_of_ble_eq_true rfl, Nat.le_of_ble_eq_true rfl⟩) rfl rfl rfl rfl (Nat.le_of_ble_eq_true rfl) dX10_back_6 rfl (fun r_1 v_2 H locs h hP hD hS => ?_)
  obtain ⟨u0_3, e_u0_3⟩ : ∃ z, z = s10_now u0 v_2 := ⟨_, rfl⟩
  have h := h u0_3 e_u0_3
  have hP : va_P (dC, dI) vwCl (cs10 cI q0 u0_3) H := by rw [e_u0_3]; exact hP
  have hD : va_D A (cs10 cI q0 u0_3) := by rw [e_u0_3]; exact hD
  exact hret _ _ _ _ _ u0_3 dX10_back_9 (vp_nar_int _) h hP hD hS

abbrev rX10_roll : Room := { frames := 6, cells := 0, slots := 0, locals := 139 }
theorem hdX10_roll : yX10_roll.cls = RX10 ∧ yX10_roll.cls ≠ "java/lang/invoke/MethodHandle" ∧ yX10_roll.cls ≠ "java/lang/invoke/VarHandle" ∧ (parseMethodDescriptor yX10_roll.desc).map (fun d => d.parameters.length) = some 2 := by decide +kernel
theorem inX10_roll_10 : ∀ w ∈ wsX100, w ∈ wsX10_roll := by decide +kernel
theorem kX10_roll_0 : Cond.fieldLink RX10 10 "AheadStore" "now" "LAheadStore$World;" ∈ wsX10_roll := by decide +kernel
set_option maxHeartbeats 4000000 in
set_option maxRecDepth 100000 in
theorem c_X10_roll {l : Launch} {dC : Nat → ClassId} {dI : Nat → Nat → Nat} {cI : ClassId} {q0 : Nat → Nat} {sz : Nat} {u0 : S10} {x1 : Int32} {x2 : Int32} {Q : Int32 → S10 → Prop} (h : wp_X10_roll u0 x1 x2 Q) : ctI sxE l yX10_roll wsX10_roll rX10_roll (dC, dI) vwCl [(cI, .int)] [.ref (q0 0), .int x1, .int x2] (cs10 cI q0 u0) sz (fun (r : Int32) (v : S10) => Q r v) (fun (v : S10) => cs10 cI q0 v) := by
  refine mx_i (cc := cX10_roll) (maxL := 3) (ty := .int) (by decide) rfl (Nat.le_of_ble_eq_true rfl) ?_
  intro p e s m below meth c Z A ls args hx hb hml hown hts hA hP hK hD hE hl hret
  have hown : s.vm.findClass RX10 = some m.cls := hown
  have hl : lv_has ls 3 [(0, .ref (q0 0)), (1, .int x1), (2, .int x2)] := hl
  have hS : va_S A s.heap s.heap [] := va_S.rf
  refine lv_iload_n hx hb dX10_roll_0 rfl (lv_at hl 2 rfl) ?_
  refine lv_iconst (v := 1) hx hb dX10_roll_1 (by decide) ?_
  refine lv_icmp_lt (tgt := 11) hx hb dX10_roll_2 (by decide) (fun cd => ?_) (fun cd => ?_)
  · have h := h.1 cd
    refine lv_iconst (v := (-1)) hx hb dX10_roll_11 (by decide) ?_
    refine lv_goto (tgt := 24) hx hb dX10_roll_12 (by decide) ?_
    exact hret _ _ _ _ _ u0 dX10_roll_24 (vp_nar_int _) h hP hD hS
  · have h := h.2 cd
    refine lv_iload_n hx hb dX10_roll_5 rfl (lv_at hl 2 rfl) ?_
    refine lv_bipush (v := 20) hx hb dX10_roll_6 (by decide) ?_
    refine lv_icmp_le (tgt := 15) hx hb dX10_roll_8 (by decide) (fun cd => ?_) (fun cd => ?_)
    · have h := h.1 cd
      refine lv_aload_n hx hb dX10_roll_15 rfl (lv_at hl 0 rfl) ?_
      refine va_get (D := (dC, dI)) (ci := 10) (v := .ref (q0 1)) (C := RX10) (T := TX10) (N := 6) hx hb hts inX10_roll_10 hown hK hP 0 rfl rfl 0 (by decide) (hts _ kX10_roll_0) (fun _ h9 => h9) rfl dX10_roll_16 ?_
      refine lv_iload_n hx hb dX10_roll_19 rfl (lv_at hl 1 rfl) ?_
      refine lv_iload_n hx hb dX10_roll_20 rfl (lv_at hl 2 rfl) ?_
      refine cx_vi (As := [.int x1, .int x2]) (rest := []) ⟨hx, hb, hml, hown, hts⟩ hl.1 ok_sxE hE hK hP hD hS hA (cut_76 cI q0 u0) (c_X9_rollBack (l := l) (dC := dC) (dI := dI) (cI := cI) (q0 := fun i => q0 (i + 1)) h) (cwV 2 hts gX10_roll_X9_rollBack rfl rfl rfl hdX9_rollBack ⟨Nat.le_of_ble_eq_true rfl, Nat.le_of_ble_eq_true rfl⟩) rfl rfl rfl rfl (Nat.le_of_ble_eq_true rfl) dX10_roll_21 rfl (fun r_1 v_2 H locs h hP hD hS => ?_)
      obtain ⟨u0_3, e_u0_3⟩ : ∃ z, z = s10_now u0 v_2 := ⟨_, rfl⟩
      have h := h u0_3 e_u0_3
      have hP : va_P (dC, dI) vwCl (cs10 cI q0 u0_3) H := by rw [e_u0_3]; exact hP
      have hD : va_D A (cs10 cI q0 u0_3) := by rw [e_u0_3]; exact hD
      exact hret _ _ _ _ _ u0_3 dX10_roll_24 (vp_nar_int _) h hP hD hS
    · have h := h.2 cd
      refine lv_iconst (v := (-1)) hx hb dX10_roll_11 (by decide) ?_
      refine lv_goto (tgt := 24) hx hb dX10_roll_12 (by decide) ?_
      exact hret _ _ _ _ _ u0 dX10_roll_24 (vp_nar_int _) h hP hD hS

abbrev rX10_keep : Room := { frames := 5, cells := 0, slots := 0, locals := 114 }
theorem hdX10_keep : yX10_keep.cls = RX10 ∧ yX10_keep.cls ≠ "java/lang/invoke/MethodHandle" ∧ yX10_keep.cls ≠ "java/lang/invoke/VarHandle" ∧ (parseMethodDescriptor yX10_keep.desc).map (fun d => d.parameters.length) = some 2 := by decide +kernel
theorem inX10_keep_10 : ∀ w ∈ wsX100, w ∈ wsX10_keep := by decide +kernel
theorem kX10_keep_0 : Cond.fieldLink RX10 10 "AheadStore" "now" "LAheadStore$World;" ∈ wsX10_keep := by decide +kernel
set_option maxHeartbeats 4000000 in
set_option maxRecDepth 100000 in
theorem c_X10_keep {l : Launch} {dC : Nat → ClassId} {dI : Nat → Nat → Nat} {cI : ClassId} {q0 : Nat → Nat} {sz : Nat} {u0 : S10} {x1 : Int32} {x2 : Int32} {Q : Int32 → S10 → Prop} (h : wp_X10_keep u0 x1 x2 Q) : ctI sxE l yX10_keep wsX10_keep rX10_keep (dC, dI) vwCl [(cI, .int)] [.ref (q0 0), .int x1, .int x2] (cs10 cI q0 u0) sz (fun (r : Int32) (v : S10) => Q r v) (fun (v : S10) => cs10 cI q0 v) := by
  refine mx_i (cc := cX10_keep) (maxL := 3) (ty := .boolean) (by decide) rfl (Nat.le_of_ble_eq_true rfl) ?_
  intro p e s m below meth c Z A ls args hx hb hml hown hts hA hP hK hD hE hl hret
  have hown : s.vm.findClass RX10 = some m.cls := hown
  have hl : lv_has ls 3 [(0, .ref (q0 0)), (1, .int x1), (2, .int x2)] := hl
  have hS : va_S A s.heap s.heap [] := va_S.rf
  refine lv_iload_n hx hb dX10_keep_0 rfl (lv_at hl 1 rfl) ?_
  by_cases c0 : x1 = 0
  · have h := h.1 c0
    refine lv_tableIn (tgt := 44) (off := 43) hx hb dX10_keep_1 (by rw [c0]; decide) (by rw [c0]; decide) (by rw [c0]; rfl) (by decide) ?_
    refine lv_aload_n hx hb dX10_keep_44 rfl (lv_at hl 0 rfl) ?_
    refine va_get (D := (dC, dI)) (ci := 10) (v := .ref (q0 1)) (C := RX10) (T := TX10) (N := 6) hx hb hts inX10_keep_10 hown hK hP 0 rfl rfl 0 (by decide) (hts _ kX10_keep_0) (fun _ h9 => h9) rfl dX10_keep_45 ?_
    refine lv_iload_n hx hb dX10_keep_48 rfl (lv_at hl 2 rfl) ?_
    refine cx_vi (As := [.int x2]) (rest := []) ⟨hx, hb, hml, hown, hts⟩ hl.1 ok_sxE hE hK hP hD hS hA (cut_76 cI q0 u0) (c_X9_flush (l := l) (dC := dC) (dI := dI) (cI := cI) (q0 := fun i => q0 (i + 1)) h) (cwV 1 hts gX10_keep_X9_flush rfl rfl rfl hdX9_flush ⟨Nat.le_of_ble_eq_true rfl, Nat.le_of_ble_eq_true rfl⟩) rfl rfl rfl rfl (Nat.le_of_ble_eq_true rfl) dX10_keep_49 rfl (fun r_1 v_2 H locs h hP hD hS => ?_)
    obtain ⟨u0_3, e_u0_3⟩ : ∃ z, z = s10_now u0 v_2 := ⟨_, rfl⟩
    have h := h u0_3 e_u0_3
    have hP : va_P (dC, dI) vwCl (cs10 cI q0 u0_3) H := by rw [e_u0_3]; exact hP
    have hD : va_D A (cs10 cI q0 u0_3) := by rw [e_u0_3]; exact hD
    exact hret _ _ _ _ _ u0_3 dX10_keep_52 (zb_n h.1) h.2 hP hD hS
  have h := h.2 c0
  by_cases c1 : x1 = 1
  · have h := h.1 c1
    refine lv_tableIn (tgt := 53) (off := 52) hx hb dX10_keep_1 (by rw [c1]; decide) (by rw [c1]; decide) (by rw [c1]; rfl) (by decide) ?_
    refine lv_aload_n hx hb dX10_keep_53 rfl (lv_at hl 0 rfl) ?_
    refine va_get (D := (dC, dI)) (ci := 10) (v := .ref (q0 1)) (C := RX10) (T := TX10) (N := 6) hx hb hts inX10_keep_10 hown hK hP 0 rfl rfl 0 (by decide) (hts _ kX10_keep_0) (fun _ h9 => h9) rfl dX10_keep_54 ?_
    refine lv_iload_n hx hb dX10_keep_57 rfl (lv_at hl 2 rfl) ?_
    refine cx_vi (As := [.int x2]) (rest := []) ⟨hx, hb, hml, hown, hts⟩ hl.1 ok_sxE hE hK hP hD hS hA (cut_76 cI q0 u0) (c_X9_writePage (l := l) (dC := dC) (dI := dI) (cI := cI) (q0 := fun i => q0 (i + 1)) h) (cwV 1 hts gX10_keep_X9_writePage rfl rfl rfl hdX9_writePage ⟨Nat.le_of_ble_eq_true rfl, Nat.le_of_ble_eq_true rfl⟩) rfl rfl rfl rfl (Nat.le_of_ble_eq_true rfl) dX10_keep_58 rfl (fun r_4 v_5 H locs h hP hD hS => ?_)
    obtain ⟨u0_6, e_u0_6⟩ : ∃ z, z = s10_now u0 v_5 := ⟨_, rfl⟩
    have h := h u0_6 e_u0_6
    have hP : va_P (dC, dI) vwCl (cs10 cI q0 u0_6) H := by rw [e_u0_6]; exact hP
    have hD : va_D A (cs10 cI q0 u0_6) := by rw [e_u0_6]; exact hD
    exact hret _ _ _ _ _ u0_6 dX10_keep_61 (zb_n h.1) h.2 hP hD hS
  have h := h.2 c1
  by_cases c2 : x1 = 2
  · have h := h.1 c2
    refine lv_tableIn (tgt := 62) (off := 61) hx hb dX10_keep_1 (by rw [c2]; decide) (by rw [c2]; decide) (by rw [c2]; rfl) (by decide) ?_
    refine lv_aload_n hx hb dX10_keep_62 rfl (lv_at hl 0 rfl) ?_
    refine va_get (D := (dC, dI)) (ci := 10) (v := .ref (q0 1)) (C := RX10) (T := TX10) (N := 6) hx hb hts inX10_keep_10 hown hK hP 0 rfl rfl 0 (by decide) (hts _ kX10_keep_0) (fun _ h9 => h9) rfl dX10_keep_63 ?_
    refine cx_vi (As := []) (rest := []) ⟨hx, hb, hml, hown, hts⟩ hl.1 ok_sxE hE hK hP hD hS hA (cut_76 cI q0 u0) (c_X9_checkBegins (l := l) (dC := dC) (dI := dI) (cI := cI) (q0 := fun i => q0 (i + 1)) h) (cwV 0 hts gX10_keep_X9_checkBegins rfl rfl rfl hdX9_checkBegins ⟨Nat.le_of_ble_eq_true rfl, Nat.le_of_ble_eq_true rfl⟩) rfl rfl rfl rfl (Nat.le_of_ble_eq_true rfl) dX10_keep_66 rfl (fun r_7 v_8 H locs h hP hD hS => ?_)
    obtain ⟨u0_9, e_u0_9⟩ : ∃ z, z = s10_now u0 v_8 := ⟨_, rfl⟩
    have h := h u0_9 e_u0_9
    have hP : va_P (dC, dI) vwCl (cs10 cI q0 u0_9) H := by rw [e_u0_9]; exact hP
    have hD : va_D A (cs10 cI q0 u0_9) := by rw [e_u0_9]; exact hD
    exact hret _ _ _ _ _ u0_9 dX10_keep_69 (zb_n h.1) h.2 hP hD hS
  have h := h.2 c2
  by_cases c3 : x1 = 3
  · have h := h.1 c3
    refine lv_tableIn (tgt := 70) (off := 69) hx hb dX10_keep_1 (by rw [c3]; decide) (by rw [c3]; decide) (by rw [c3]; rfl) (by decide) ?_
    refine lv_aload_n hx hb dX10_keep_70 rfl (lv_at hl 0 rfl) ?_
    refine va_get (D := (dC, dI)) (ci := 10) (v := .ref (q0 1)) (C := RX10) (T := TX10) (N := 6) hx hb hts inX10_keep_10 hown hK hP 0 rfl rfl 0 (by decide) (hts _ kX10_keep_0) (fun _ h9 => h9) rfl dX10_keep_71 ?_
    refine cx_vi (As := []) (rest := []) ⟨hx, hb, hml, hown, hts⟩ hl.1 ok_sxE hE hK hP hD hS hA (cut_76 cI q0 u0) (c_X9_checkEnds (l := l) (dC := dC) (dI := dI) (cI := cI) (q0 := fun i => q0 (i + 1)) h) (cwV 0 hts gX10_keep_X9_checkEnds rfl rfl rfl hdX9_checkEnds ⟨Nat.le_of_ble_eq_true rfl, Nat.le_of_ble_eq_true rfl⟩) rfl rfl rfl rfl (Nat.le_of_ble_eq_true rfl) dX10_keep_74 rfl (fun r_10 v_11 H locs h hP hD hS => ?_)
    obtain ⟨u0_12, e_u0_12⟩ : ∃ z, z = s10_now u0 v_11 := ⟨_, rfl⟩
    have h := h u0_12 e_u0_12
    have hP : va_P (dC, dI) vwCl (cs10 cI q0 u0_12) H := by rw [e_u0_12]; exact hP
    have hD : va_D A (cs10 cI q0 u0_12) := by rw [e_u0_12]; exact hD
    exact hret _ _ _ _ _ u0_12 dX10_keep_77 (zb_n h.1) h.2 hP hD hS
  have h := h.2 c3
  by_cases c4 : x1 = 4
  · have h := h.1 c4
    refine lv_tableIn (tgt := 78) (off := 77) hx hb dX10_keep_1 (by rw [c4]; decide) (by rw [c4]; decide) (by rw [c4]; rfl) (by decide) ?_
    refine lv_aload_n hx hb dX10_keep_78 rfl (lv_at hl 0 rfl) ?_
    refine va_get (D := (dC, dI)) (ci := 10) (v := .ref (q0 1)) (C := RX10) (T := TX10) (N := 6) hx hb hts inX10_keep_10 hown hK hP 0 rfl rfl 0 (by decide) (hts _ kX10_keep_0) (fun _ h9 => h9) rfl dX10_keep_79 ?_
    refine lv_iload_n hx hb dX10_keep_82 rfl (lv_at hl 2 rfl) ?_
    refine cx_vi (As := [.int x2]) (rest := []) ⟨hx, hb, hml, hown, hts⟩ hl.1 ok_sxE hE hK hP hD hS hA (cut_76 cI q0 u0) (c_X9_dumpPage (l := l) (dC := dC) (dI := dI) (cI := cI) (q0 := fun i => q0 (i + 1)) h) (cwV 1 hts gX10_keep_X9_dumpPage rfl rfl rfl hdX9_dumpPage ⟨Nat.le_of_ble_eq_true rfl, Nat.le_of_ble_eq_true rfl⟩) rfl rfl rfl rfl (Nat.le_of_ble_eq_true rfl) dX10_keep_83 rfl (fun r_13 v_14 H locs h hP hD hS => ?_)
    obtain ⟨u0_15, e_u0_15⟩ : ∃ z, z = s10_now u0 v_14 := ⟨_, rfl⟩
    have h := h u0_15 e_u0_15
    have hP : va_P (dC, dI) vwCl (cs10 cI q0 u0_15) H := by rw [e_u0_15]; exact hP
    have hD : va_D A (cs10 cI q0 u0_15) := by rw [e_u0_15]; exact hD
    exact hret _ _ _ _ _ u0_15 dX10_keep_86 (zb_n h.1) h.2 hP hD hS
  have h := h.2 c4
  by_cases c5 : x1 = 5
  · have h := h.1 c5
    refine lv_tableIn (tgt := 87) (off := 86) hx hb dX10_keep_1 (by rw [c5]; decide) (by rw [c5]; decide) (by rw [c5]; rfl) (by decide) ?_
    refine lv_aload_n hx hb dX10_keep_87 rfl (lv_at hl 0 rfl) ?_
    refine va_get (D := (dC, dI)) (ci := 10) (v := .ref (q0 1)) (C := RX10) (T := TX10) (N := 6) hx hb hts inX10_keep_10 hown hK hP 0 rfl rfl 0 (by decide) (hts _ kX10_keep_0) (fun _ h9 => h9) rfl dX10_keep_88 ?_
    refine lv_iload_n hx hb dX10_keep_91 rfl (lv_at hl 2 rfl) ?_
    refine cx_vi (As := [.int x2]) (rest := []) ⟨hx, hb, hml, hown, hts⟩ hl.1 ok_sxE hE hK hP hD hS hA (cut_76 cI q0 u0) (c_X9_losePage (l := l) (dC := dC) (dI := dI) (cI := cI) (q0 := fun i => q0 (i + 1)) h) (cwV 1 hts gX10_keep_X9_losePage rfl rfl rfl hdX9_losePage ⟨Nat.le_of_ble_eq_true rfl, Nat.le_of_ble_eq_true rfl⟩) rfl rfl rfl rfl (Nat.le_of_ble_eq_true rfl) dX10_keep_92 rfl (fun r_16 v_17 H locs h hP hD hS => ?_)
    obtain ⟨u0_18, e_u0_18⟩ : ∃ z, z = s10_now u0 v_17 := ⟨_, rfl⟩
    have h := h u0_18 e_u0_18
    have hP : va_P (dC, dI) vwCl (cs10 cI q0 u0_18) H := by rw [e_u0_18]; exact hP
    have hD : va_D A (cs10 cI q0 u0_18) := by rw [e_u0_18]; exact hD
    exact hret _ _ _ _ _ u0_18 dX10_keep_95 (zb_n h.1) h.2 hP hD hS
  have h := h.2 c5
  by_cases c6 : x1 = 6
  · have h := h.1 c6
    refine lv_tableIn (tgt := 96) (off := 95) hx hb dX10_keep_1 (by rw [c6]; decide) (by rw [c6]; decide) (by rw [c6]; rfl) (by decide) ?_
    refine lv_aload_n hx hb dX10_keep_96 rfl (lv_at hl 0 rfl) ?_
    refine va_get (D := (dC, dI)) (ci := 10) (v := .ref (q0 1)) (C := RX10) (T := TX10) (N := 6) hx hb hts inX10_keep_10 hown hK hP 0 rfl rfl 0 (by decide) (hts _ kX10_keep_0) (fun _ h9 => h9) rfl dX10_keep_97 ?_
    refine lv_iload_n hx hb dX10_keep_100 rfl (lv_at hl 2 rfl) ?_
    refine cx_vi (As := [.int x2]) (rest := []) ⟨hx, hb, hml, hown, hts⟩ hl.1 ok_sxE hE hK hP hD hS hA (cut_76 cI q0 u0) (c_X9_restorePage (l := l) (dC := dC) (dI := dI) (cI := cI) (q0 := fun i => q0 (i + 1)) h) (cwV 1 hts gX10_keep_X9_restorePage rfl rfl rfl hdX9_restorePage ⟨Nat.le_of_ble_eq_true rfl, Nat.le_of_ble_eq_true rfl⟩) rfl rfl rfl rfl (Nat.le_of_ble_eq_true rfl) dX10_keep_101 rfl (fun r_19 v_20 H locs h hP hD hS => ?_)
    obtain ⟨u0_21, e_u0_21⟩ : ∃ z, z = s10_now u0 v_20 := ⟨_, rfl⟩
    have h := h u0_21 e_u0_21
    have hP : va_P (dC, dI) vwCl (cs10 cI q0 u0_21) H := by rw [e_u0_21]; exact hP
    have hD : va_D A (cs10 cI q0 u0_21) := by rw [e_u0_21]; exact hD
    exact hret _ _ _ _ _ u0_21 dX10_keep_104 (zb_n h.1) h.2 hP hD hS
  have h := h.2 c6
  refine lv_tableOut (tgt := 105) hx hb dX10_keep_1 (by have z0 := lv_neT (a := 0) c0 (by decide); have z1 := lv_neT (a := 1) c1 (by decide); have z2 := lv_neT (a := 2) c2 (by decide); have z3 := lv_neT (a := 3) c3 (by decide); have z4 := lv_neT (a := 4) c4 (by decide); have z5 := lv_neT (a := 5) c5 (by decide); have z6 := lv_neT (a := 6) c6 (by decide); omega) (by decide) ?_
  refine lv_iconst (v := 0) hx hb dX10_keep_105 (by decide) ?_
  exact hret _ _ _ _ _ u0 dX10_keep_106 (by decide) h hP hD hS

abbrev rX10_crash : Room := { frames := 3, cells := 0, slots := 0, locals := 64 }
theorem hdX10_crash : yX10_crash.cls = RX10 ∧ yX10_crash.cls ≠ "java/lang/invoke/MethodHandle" ∧ yX10_crash.cls ≠ "java/lang/invoke/VarHandle" ∧ (parseMethodDescriptor yX10_crash.desc).map (fun d => d.parameters.length) = some 1 := by decide +kernel
theorem inX10_crash_10 : ∀ w ∈ wsX100, w ∈ wsX10_crash := by decide +kernel
theorem inX10_crash_9 : ∀ w ∈ wsX90, w ∈ wsX10_crash := by decide +kernel
theorem kX10_crash_0 : Cond.fieldLink RX10 10 "AheadStore" "now" "LAheadStore$World;" ∈ wsX10_crash := by decide +kernel
theorem kX10_crash_1 : Cond.fieldLink RX10 37 "AheadStore$World" "up" "Z" ∈ wsX10_crash := by decide +kernel
set_option maxHeartbeats 4000000 in
set_option maxRecDepth 100000 in
theorem c_X10_crash {l : Launch} {dC : Nat → ClassId} {dI : Nat → Nat → Nat} {cI : ClassId} {q0 : Nat → Nat} {sz : Nat} {u0 : S10} {x1 : Int32} {Q : Int32 → S10 → Prop} (h : wp_X10_crash u0 x1 Q) : ctI sxE l yX10_crash wsX10_crash rX10_crash (dC, dI) vwCl [(cI, .int)] [.ref (q0 0), .int x1] (cs10 cI q0 u0) sz (fun (r : Int32) (v : S10) => Q r v) (fun (v : S10) => cs10 cI q0 v) := by
  refine mx_i (cc := cX10_crash) (maxL := 2) (ty := .boolean) (by decide) rfl (Nat.le_of_ble_eq_true rfl) ?_
  intro p e s m below meth c Z A ls args hx hb hml hown hts hA hP hK hD hE hl hret
  have hown : s.vm.findClass RX10 = some m.cls := hown
  have hl : lv_has ls 2 [(0, .ref (q0 0)), (1, .int x1)] := hl
  have hS : va_S A s.heap s.heap [] := va_S.rf
  refine lv_aload_n hx hb dX10_crash_0 rfl (lv_at hl 0 rfl) ?_
  refine va_get (D := (dC, dI)) (ci := 10) (v := .ref (q0 1)) (C := RX10) (T := TX10) (N := 6) hx hb hts inX10_crash_10 hown hK hP 0 rfl rfl 0 (by decide) (hts _ kX10_crash_0) (fun _ h9 => h9) rfl dX10_crash_1 ?_
  refine va_get (D := (dC, dI)) (ci := 9) (v := .int (g9_up (g10_now u0))) (C := RX9) (T := TX9) (N := 11) hx hb hts inX10_crash_9 hown hK hP 1 rfl rfl 6 (by decide) (hts _ kX10_crash_1) (fun _ h9 => h9) rfl dX10_crash_4 ?_
  refine lv_if_eq (tgt := 21) hx hb dX10_crash_7 (by decide) (fun cd => ?_) (fun cd => ?_)
  · have h := h.1 cd
    refine lv_iconst (v := 0) hx hb dX10_crash_21 (by decide) ?_
    exact hret _ _ _ _ _ u0 dX10_crash_22 (by decide) h hP hD hS
  · have h := h.2 cd
    refine lv_iload_n hx hb dX10_crash_10 rfl (lv_at hl 1 rfl) ?_
    refine lv_if_lt (tgt := 21) hx hb dX10_crash_11 (by decide) (fun cd => ?_) (fun cd => ?_)
    · have h := h.1 cd
      refine lv_iconst (v := 0) hx hb dX10_crash_21 (by decide) ?_
      exact hret _ _ _ _ _ u0 dX10_crash_22 (by decide) h hP hD hS
    · have h := h.2 cd
      refine lv_iload_n hx hb dX10_crash_14 rfl (lv_at hl 1 rfl) ?_
      refine lv_sipush (v := 999) hx hb dX10_crash_15 (by decide) ?_
      refine lv_icmp_le (tgt := 23) hx hb dX10_crash_18 (by decide) (fun cd => ?_) (fun cd => ?_)
      · have h := h.1 cd
        refine lv_aload_n hx hb dX10_crash_23 rfl (lv_at hl 0 rfl) ?_
        refine va_get (D := (dC, dI)) (ci := 10) (v := .ref (q0 1)) (C := RX10) (T := TX10) (N := 6) hx hb hts inX10_crash_10 hown hK hP 0 rfl rfl 0 (by decide) (hts _ kX10_crash_0) (fun _ h9 => h9) rfl dX10_crash_24 ?_
        refine lv_iload_n hx hb dX10_crash_27 rfl (lv_at hl 1 rfl) ?_
        refine cx_vv (As := [.int x1]) (rest := []) ⟨hx, hb, hml, hown, hts⟩ hl.1 ok_sxE hE hK hP hD hS hA (cut_76 cI q0 u0) (c_X9_fall (l := l) (dC := dC) (dI := dI) (cI := cI) (q0 := fun i => q0 (i + 1)) h) (cwV 1 hts gX10_crash_X9_fall rfl rfl rfl hdX9_fall ⟨Nat.le_of_ble_eq_true rfl, Nat.le_of_ble_eq_true rfl⟩) rfl rfl rfl rfl (Nat.le_of_ble_eq_true rfl) dX10_crash_28 rfl (fun v_1 H locs h hP hD hS => ?_)
        obtain ⟨u0_2, e_u0_2⟩ : ∃ z, z = s10_now u0 v_1 := ⟨_, rfl⟩
        have h := h u0_2 e_u0_2
        have hP : va_P (dC, dI) vwCl (cs10 cI q0 u0_2) H := by rw [e_u0_2]; exact hP
        have hD : va_D A (cs10 cI q0 u0_2) := by rw [e_u0_2]; exact hD
        refine lv_iconst (v := 1) hx hb dX10_crash_31 (by decide) ?_
        exact hret _ _ _ _ _ u0_2 dX10_crash_32 (by decide) h hP hD hS
      · have h := h.2 cd
        refine lv_iconst (v := 0) hx hb dX10_crash_21 (by decide) ?_
        exact hret _ _ _ _ _ u0 dX10_crash_22 (by decide) h hP hD hS

set_option maxRecDepth 100000 in
theorem cut_77 (cI : ClassId) (q0 : Nat → Nat) (u0 : S10) : Cut (cs10 cI q0 u0) (cs4 cI (fun i => q0 (i + 35)) (g10_recovery u0) ++ cs9 cI (fun i => q0 (i + 1)) (g10_now u0)) (fun v : S4 × S9 => cs4 cI (fun i => q0 (i + 35)) v.1 ++ cs9 cI (fun i => q0 (i + 1)) v.2) (fun v : S4 × S9 => cs10 cI q0 (s10_now (s10_recovery u0 v.1) v.2)) := ⟨[35, 36, 1, 2, 3, 4, 5, 6, 7, 8, 9, 10, 11, 12, 13, 14, 15, 16, 17, 18, 19, 20, 21, 22, 23, 24, 25, 26, 27, 28, 29, 30], [0, 31, 32, 33, 34, 37, 38, 39, 40, 41], rfl, rfl, rfl, by decide, by decide, fun v => ⟨[0, 12, 13, 14, 15, 16, 17, 18, 19, 20, 21, 22, 23, 24, 25, 26, 27, 28, 29, 30, 31, 32, 33, 34, 35, 36, 37, 38, 39, 40, 41, 1, 2, 3, 4, 10, 11, 5, 6, 7, 8, 9], rfl, rfl⟩⟩

abbrev rX10_recover : Room := { frames := 7, cells := 0, slots := 0, locals := 164 }
theorem hdX10_recover : yX10_recover.cls = RX10 ∧ yX10_recover.cls ≠ "java/lang/invoke/MethodHandle" ∧ yX10_recover.cls ≠ "java/lang/invoke/VarHandle" ∧ (parseMethodDescriptor yX10_recover.desc).map (fun d => d.parameters.length) = some 1 := by decide +kernel
theorem inX10_recover_10 : ∀ w ∈ wsX100, w ∈ wsX10_recover := by decide +kernel
theorem inX10_recover_9 : ∀ w ∈ wsX90, w ∈ wsX10_recover := by decide +kernel
theorem kX10_recover_0 : Cond.fieldLink RX10 10 "AheadStore" "now" "LAheadStore$World;" ∈ wsX10_recover := by decide +kernel
theorem kX10_recover_1 : Cond.fieldLink RX10 26 "AheadStore" "recovery" "LAheadStore$Recovery;" ∈ wsX10_recover := by decide +kernel
theorem kX10_recover_2 : Cond.fieldLink RX10 37 "AheadStore$World" "up" "Z" ∈ wsX10_recover := by decide +kernel
set_option maxHeartbeats 4000000 in
set_option maxRecDepth 100000 in
theorem c_X10_recover {l : Launch} {dC : Nat → ClassId} {dI : Nat → Nat → Nat} {cI : ClassId} {q0 : Nat → Nat} {sz : Nat} {u0 : S10} {x1 : Int32} {Q : Int32 → S10 → Prop} (h : wp_X10_recover u0 x1 Q) : ctI sxE l yX10_recover wsX10_recover rX10_recover (dC, dI) vwCl [(cI, .int)] [.ref (q0 0), .int x1] (cs10 cI q0 u0) sz (fun (r : Int32) (v : S10) => Q r v) (fun (v : S10) => cs10 cI q0 v) := by
  refine mx_i (cc := cX10_recover) (maxL := 2) (ty := .int) (by decide) rfl (Nat.le_of_ble_eq_true rfl) ?_
  intro p e s m below meth c Z A ls args hx hb hml hown hts hA hP hK hD hE hl hret
  have hown : s.vm.findClass RX10 = some m.cls := hown
  have hl : lv_has ls 2 [(0, .ref (q0 0)), (1, .int x1)] := hl
  have hS : va_S A s.heap s.heap [] := va_S.rf
  refine lv_aload_n hx hb dX10_recover_0 rfl (lv_at hl 0 rfl) ?_
  refine va_get (D := (dC, dI)) (ci := 10) (v := .ref (q0 1)) (C := RX10) (T := TX10) (N := 6) hx hb hts inX10_recover_10 hown hK hP 0 rfl rfl 0 (by decide) (hts _ kX10_recover_0) (fun _ h9 => h9) rfl dX10_recover_1 ?_
  refine va_get (D := (dC, dI)) (ci := 9) (v := .int (g9_up (g10_now u0))) (C := RX9) (T := TX9) (N := 11) hx hb hts inX10_recover_9 hown hK hP 1 rfl rfl 6 (by decide) (hts _ kX10_recover_2) (fun _ h9 => h9) rfl dX10_recover_4 ?_
  refine lv_if_ne (tgt := 21) hx hb dX10_recover_7 (by decide) (fun cd => ?_) (fun cd => ?_)
  · have h := h.2 cd
    refine lv_iconst (v := (-1)) hx hb dX10_recover_21 (by decide) ?_
    exact hret _ _ _ _ _ u0 dX10_recover_22 (vp_nar_int _) h hP hD hS
  · have h := h.1 cd
    refine lv_iload_n hx hb dX10_recover_10 rfl (lv_at hl 1 rfl) ?_
    refine lv_iconst (v := (-1)) hx hb dX10_recover_11 (by decide) ?_
    refine lv_icmp_lt (tgt := 21) hx hb dX10_recover_12 (by decide) (fun cd => ?_) (fun cd => ?_)
    · have h := h.1 cd
      refine lv_iconst (v := (-1)) hx hb dX10_recover_21 (by decide) ?_
      exact hret _ _ _ _ _ u0 dX10_recover_22 (vp_nar_int _) h hP hD hS
    · have h := h.2 cd
      refine lv_iload_n hx hb dX10_recover_15 rfl (lv_at hl 1 rfl) ?_
      refine lv_bipush (v := 99) hx hb dX10_recover_16 (by decide) ?_
      refine lv_icmp_le (tgt := 23) hx hb dX10_recover_18 (by decide) (fun cd => ?_) (fun cd => ?_)
      · have h := h.1 cd
        refine lv_aload_n hx hb dX10_recover_23 rfl (lv_at hl 0 rfl) ?_
        refine va_get (D := (dC, dI)) (ci := 10) (v := .ref (q0 35)) (C := RX10) (T := TX10) (N := 6) hx hb hts inX10_recover_10 hown hK hP 0 rfl rfl 2 (by decide) (hts _ kX10_recover_1) (fun _ h9 => h9) rfl dX10_recover_24 ?_
        refine lv_aload_n hx hb dX10_recover_27 rfl (lv_at hl 0 rfl) ?_
        refine va_get (D := (dC, dI)) (ci := 10) (v := .ref (q0 1)) (C := RX10) (T := TX10) (N := 6) hx hb hts inX10_recover_10 hown hK hP 0 rfl rfl 0 (by decide) (hts _ kX10_recover_0) (fun _ h9 => h9) rfl dX10_recover_28 ?_
        refine lv_iload_n hx hb dX10_recover_31 rfl (lv_at hl 1 rfl) ?_
        refine cx_vi (As := [.ref (q0 1), .int x1]) (rest := []) ⟨hx, hb, hml, hown, hts⟩ hl.1 ok_sxE hE hK hP hD hS hA (cut_77 cI q0 u0) (c_X4_attempt (l := l) (dC := dC) (dI := dI) (cI := cI) (q0 := fun i => q0 (i + 35)) (q1 := fun i => q0 (i + 1)) h) (cwV 2 hts gX10_recover_X4_attempt rfl rfl rfl hdX4_attempt ⟨Nat.le_of_ble_eq_true rfl, Nat.le_of_ble_eq_true rfl⟩) rfl rfl rfl rfl (Nat.le_of_ble_eq_true rfl) dX10_recover_32 rfl (fun r_1 vv H locs h hP hD hS => ?_)
        obtain ⟨v_2, v_3⟩ := vv
        obtain ⟨u0_4, e_u0_4⟩ : ∃ z, z = s10_now (s10_recovery u0 v_2) v_3 := ⟨_, rfl⟩
        have h := h u0_4 e_u0_4
        have hP : va_P (dC, dI) vwCl (cs10 cI q0 u0_4) H := by rw [e_u0_4]; exact hP
        have hD : va_D A (cs10 cI q0 u0_4) := by rw [e_u0_4]; exact hD
        exact hret _ _ _ _ _ u0_4 dX10_recover_35 (vp_nar_int _) h hP hD hS
      · have h := h.2 cd
        refine lv_iconst (v := (-1)) hx hb dX10_recover_21 (by decide) ?_
        exact hret _ _ _ _ _ u0 dX10_recover_22 (vp_nar_int _) h hP hD hS

set_option maxRecDepth 100000 in
theorem cut_78 (cI : ClassId) (q0 : Nat → Nat) (u0 : S10) : Cut (cs10 cI q0 u0) (cs8 cI (fun i => q0 (i + 31)) (g10_tape u0)) (fun v : S8 => cs8 cI (fun i => q0 (i + 31)) v) (fun v : S8 => cs10 cI q0 (s10_tape u0 v)) := ⟨[31, 32, 33, 34], [0, 1, 2, 3, 4, 5, 6, 7, 8, 9, 10, 11, 12, 13, 14, 15, 16, 17, 18, 19, 20, 21, 22, 23, 24, 25, 26, 27, 28, 29, 30, 35, 36, 37, 38, 39, 40, 41], rfl, rfl, rfl, by decide, by decide, fun v => ⟨[0, 1, 2, 3, 4, 5, 6, 7, 8, 9, 10, 11, 12, 13, 14, 15, 16, 17, 18, 19, 20, 21, 22, 23, 24, 25, 26, 27, 28, 29, 30, 38, 39, 40, 41, 31, 32, 33, 34, 35, 36, 37], rfl, rfl⟩⟩

abbrev rX10_feed : Room := { frames := 1, cells := 0, slots := 0, locals := 22 }
theorem hdX10_feed : yX10_feed.cls = RX10 ∧ yX10_feed.cls ≠ "java/lang/invoke/MethodHandle" ∧ yX10_feed.cls ≠ "java/lang/invoke/VarHandle" ∧ (parseMethodDescriptor yX10_feed.desc).map (fun d => d.parameters.length) = some 5 := by decide +kernel
theorem inX10_feed_10 : ∀ w ∈ wsX100, w ∈ wsX10_feed := by decide +kernel
theorem inX10_feed_8 : ∀ w ∈ wsX80, w ∈ wsX10_feed := by decide +kernel
theorem kX10_feed_0 : Cond.fieldLink RX10 115 "AheadStore$Tape" "size" "I" ∈ wsX10_feed := by decide +kernel
theorem kX10_feed_1 : Cond.fieldLink RX10 19 "AheadStore" "tape" "LAheadStore$Tape;" ∈ wsX10_feed := by decide +kernel
set_option maxHeartbeats 4000000 in
set_option maxRecDepth 100000 in
theorem c_X10_feed {l : Launch} {dC : Nat → ClassId} {dI : Nat → Nat → Nat} {cI : ClassId} {q0 : Nat → Nat} {sz : Nat} {u0 : S10} {x1 : Int32} {x2 : Int32} {x3 : Int32} {x4 : Int32} {x5 : Int32} {Q : Int32 → S10 → Prop} (h : wp_X10_feed u0 x1 x2 x3 x4 x5 Q) : ctI sxE l yX10_feed wsX10_feed rX10_feed (dC, dI) vwCl [(cI, .int)] [.ref (q0 0), .int x1, .int x2, .int x3, .int x4, .int x5] (cs10 cI q0 u0) sz (fun (r : Int32) (v : S10) => Q r v) (fun (v : S10) => cs10 cI q0 v) := by
  refine mx_i (cc := cX10_feed) (maxL := 6) (ty := .int) (by decide) rfl (Nat.le_of_ble_eq_true rfl) ?_
  intro p e s m below meth c Z A ls args hx hb hml hown hts hA hP hK hD hE hl hret
  have hown : s.vm.findClass RX10 = some m.cls := hown
  have hl : lv_has ls 6 [(0, .ref (q0 0)), (1, .int x1), (2, .int x2), (3, .int x3), (4, .int x4), (5, .int x5)] := hl
  have hS : va_S A s.heap s.heap [] := va_S.rf
  refine lv_aload_n hx hb dX10_feed_0 rfl (lv_at hl 0 rfl) ?_
  refine va_get (D := (dC, dI)) (ci := 10) (v := .ref (q0 31)) (C := RX10) (T := TX10) (N := 6) hx hb hts inX10_feed_10 hown hK hP 0 rfl rfl 1 (by decide) (hts _ kX10_feed_1) (fun _ h9 => h9) rfl dX10_feed_1 ?_
  refine va_get (D := (dC, dI)) (ci := 8) (v := .int (g8_size (g10_tape u0))) (C := RX8) (T := TX8) (N := 9) hx hb hts inX10_feed_8 hown hK hP 31 rfl rfl 1 (by decide) (hts _ kX10_feed_0) (fun _ h9 => h9) rfl dX10_feed_4 ?_
  refine lv_sipush (v := 380) hx hb dX10_feed_7 (by decide) ?_
  refine lv_icmp_le (tgt := 15) hx hb dX10_feed_10 (by decide) (fun cd => ?_) (fun cd => ?_)
  · have h := h.1 cd
    refine lv_aload_n hx hb dX10_feed_15 rfl (lv_at hl 0 rfl) ?_
    refine va_get (D := (dC, dI)) (ci := 10) (v := .ref (q0 31)) (C := RX10) (T := TX10) (N := 6) hx hb hts inX10_feed_10 hown hK hP 0 rfl rfl 1 (by decide) (hts _ kX10_feed_1) (fun _ h9 => h9) rfl dX10_feed_16 ?_
    refine lv_iload_n hx hb dX10_feed_19 rfl (lv_at hl 1 rfl) ?_
    refine cx_vv (As := [.int x1]) (rest := []) ⟨hx, hb, hml, hown, hts⟩ hl.1 ok_sxE hE hK hP hD hS hA (cut_78 cI q0 u0) (c_X8_append (l := l) (dC := dC) (dI := dI) (cI := cI) (q0 := fun i => q0 (i + 31)) h) (cwV 1 hts gX10_feed_X8_append rfl rfl rfl hdX8_append ⟨Nat.le_of_ble_eq_true rfl, Nat.le_of_ble_eq_true rfl⟩) rfl rfl rfl rfl (Nat.le_of_ble_eq_true rfl) dX10_feed_20 rfl (fun v_1 H locs h hP hD hS => ?_)
    obtain ⟨u0_2, e_u0_2⟩ : ∃ z, z = s10_tape u0 v_1 := ⟨_, rfl⟩
    have h := h u0_2 e_u0_2
    have hP : va_P (dC, dI) vwCl (cs10 cI q0 u0_2) H := by rw [e_u0_2]; exact hP
    have hD : va_D A (cs10 cI q0 u0_2) := by rw [e_u0_2]; exact hD
    refine lv_aload_n hx hb dX10_feed_23 rfl (lv_at hl 0 rfl) ?_
    refine va_get (D := (dC, dI)) (ci := 10) (v := .ref (q0 31)) (C := RX10) (T := TX10) (N := 6) hx hb hts inX10_feed_10 hown hK hP 0 rfl rfl 1 (by decide) (hts _ kX10_feed_1) (fun _ h9 => h9) rfl dX10_feed_24 ?_
    refine lv_iload_n hx hb dX10_feed_27 rfl (lv_at hl 2 rfl) ?_
    refine cx_vv (As := [.int x2]) (rest := []) ⟨hx, hb, hml, hown, hts⟩ hl.1 ok_sxE hE hK hP hD hS hA (cut_78 cI q0 u0_2) (c_X8_append (l := l) (dC := dC) (dI := dI) (cI := cI) (q0 := fun i => q0 (i + 31)) h) (cwV 1 hts gX10_feed_X8_append rfl rfl rfl hdX8_append ⟨Nat.le_of_ble_eq_true rfl, Nat.le_of_ble_eq_true rfl⟩) rfl rfl rfl rfl (Nat.le_of_ble_eq_true rfl) dX10_feed_28 rfl (fun v_3 H locs h hP hD hS => ?_)
    obtain ⟨u0_4, e_u0_4⟩ : ∃ z, z = s10_tape u0_2 v_3 := ⟨_, rfl⟩
    have h := h u0_4 e_u0_4
    have hP : va_P (dC, dI) vwCl (cs10 cI q0 u0_4) H := by rw [e_u0_4]; exact hP
    have hD : va_D A (cs10 cI q0 u0_4) := by rw [e_u0_4]; exact hD
    refine lv_aload_n hx hb dX10_feed_31 rfl (lv_at hl 0 rfl) ?_
    refine va_get (D := (dC, dI)) (ci := 10) (v := .ref (q0 31)) (C := RX10) (T := TX10) (N := 6) hx hb hts inX10_feed_10 hown hK hP 0 rfl rfl 1 (by decide) (hts _ kX10_feed_1) (fun _ h9 => h9) rfl dX10_feed_32 ?_
    refine lv_iload_n hx hb dX10_feed_35 rfl (lv_at hl 3 rfl) ?_
    refine cx_vv (As := [.int x3]) (rest := []) ⟨hx, hb, hml, hown, hts⟩ hl.1 ok_sxE hE hK hP hD hS hA (cut_78 cI q0 u0_4) (c_X8_append (l := l) (dC := dC) (dI := dI) (cI := cI) (q0 := fun i => q0 (i + 31)) h) (cwV 1 hts gX10_feed_X8_append rfl rfl rfl hdX8_append ⟨Nat.le_of_ble_eq_true rfl, Nat.le_of_ble_eq_true rfl⟩) rfl rfl rfl rfl (Nat.le_of_ble_eq_true rfl) dX10_feed_36 rfl (fun v_5 H locs h hP hD hS => ?_)
    obtain ⟨u0_6, e_u0_6⟩ : ∃ z, z = s10_tape u0_4 v_5 := ⟨_, rfl⟩
    have h := h u0_6 e_u0_6
    have hP : va_P (dC, dI) vwCl (cs10 cI q0 u0_6) H := by rw [e_u0_6]; exact hP
    have hD : va_D A (cs10 cI q0 u0_6) := by rw [e_u0_6]; exact hD
    refine lv_aload_n hx hb dX10_feed_39 rfl (lv_at hl 0 rfl) ?_
    refine va_get (D := (dC, dI)) (ci := 10) (v := .ref (q0 31)) (C := RX10) (T := TX10) (N := 6) hx hb hts inX10_feed_10 hown hK hP 0 rfl rfl 1 (by decide) (hts _ kX10_feed_1) (fun _ h9 => h9) rfl dX10_feed_40 ?_
    refine lv_iload hx hb dX10_feed_43 (lv_at hl 4 rfl) ?_
    refine cx_vv (As := [.int x4]) (rest := []) ⟨hx, hb, hml, hown, hts⟩ hl.1 ok_sxE hE hK hP hD hS hA (cut_78 cI q0 u0_6) (c_X8_append (l := l) (dC := dC) (dI := dI) (cI := cI) (q0 := fun i => q0 (i + 31)) h) (cwV 1 hts gX10_feed_X8_append rfl rfl rfl hdX8_append ⟨Nat.le_of_ble_eq_true rfl, Nat.le_of_ble_eq_true rfl⟩) rfl rfl rfl rfl (Nat.le_of_ble_eq_true rfl) dX10_feed_45 rfl (fun v_7 H locs h hP hD hS => ?_)
    obtain ⟨u0_8, e_u0_8⟩ : ∃ z, z = s10_tape u0_6 v_7 := ⟨_, rfl⟩
    have h := h u0_8 e_u0_8
    have hP : va_P (dC, dI) vwCl (cs10 cI q0 u0_8) H := by rw [e_u0_8]; exact hP
    have hD : va_D A (cs10 cI q0 u0_8) := by rw [e_u0_8]; exact hD
    refine lv_aload_n hx hb dX10_feed_48 rfl (lv_at hl 0 rfl) ?_
    refine va_get (D := (dC, dI)) (ci := 10) (v := .ref (q0 31)) (C := RX10) (T := TX10) (N := 6) hx hb hts inX10_feed_10 hown hK hP 0 rfl rfl 1 (by decide) (hts _ kX10_feed_1) (fun _ h9 => h9) rfl dX10_feed_49 ?_
    refine lv_iload hx hb dX10_feed_52 (lv_at hl 5 rfl) ?_
    refine cx_vv (As := [.int x5]) (rest := []) ⟨hx, hb, hml, hown, hts⟩ hl.1 ok_sxE hE hK hP hD hS hA (cut_78 cI q0 u0_8) (c_X8_append (l := l) (dC := dC) (dI := dI) (cI := cI) (q0 := fun i => q0 (i + 31)) h) (cwV 1 hts gX10_feed_X8_append rfl rfl rfl hdX8_append ⟨Nat.le_of_ble_eq_true rfl, Nat.le_of_ble_eq_true rfl⟩) rfl rfl rfl rfl (Nat.le_of_ble_eq_true rfl) dX10_feed_54 rfl (fun v_9 H locs h hP hD hS => ?_)
    obtain ⟨u0_10, e_u0_10⟩ : ∃ z, z = s10_tape u0_8 v_9 := ⟨_, rfl⟩
    have h := h u0_10 e_u0_10
    have hP : va_P (dC, dI) vwCl (cs10 cI q0 u0_10) H := by rw [e_u0_10]; exact hP
    have hD : va_D A (cs10 cI q0 u0_10) := by rw [e_u0_10]; exact hD
    refine lv_aload_n hx hb dX10_feed_57 rfl (lv_at hl 0 rfl) ?_
    refine va_get (D := (dC, dI)) (ci := 10) (v := .ref (q0 31)) (C := RX10) (T := TX10) (N := 6) hx hb hts inX10_feed_10 hown hK hP 0 rfl rfl 1 (by decide) (hts _ kX10_feed_1) (fun _ h9 => h9) rfl dX10_feed_58 ?_
    refine va_get (D := (dC, dI)) (ci := 8) (v := .int (g8_size (g10_tape u0_10))) (C := RX8) (T := TX8) (N := 9) hx hb hts inX10_feed_8 hown hK hP 31 rfl rfl 1 (by decide) (hts _ kX10_feed_0) (fun _ h9 => h9) rfl dX10_feed_61 ?_
    exact hret _ _ _ _ _ u0_10 dX10_feed_64 (vp_nar_int _) h hP hD hS
  · have h := h.2 cd
    refine lv_iconst (v := (-1)) hx hb dX10_feed_13 (by decide) ?_
    exact hret _ _ _ _ _ u0 dX10_feed_14 (vp_nar_int _) h hP hD hS

abbrev rX10_end : Room := { frames := 0, cells := 0, slots := 0, locals := 0 }
theorem hdX10_end : yX10_end.cls = RX10 ∧ yX10_end.cls ≠ "java/lang/invoke/MethodHandle" ∧ yX10_end.cls ≠ "java/lang/invoke/VarHandle" ∧ (parseMethodDescriptor yX10_end.desc).map (fun d => d.parameters.length) = some 1 := by decide +kernel
theorem inX10_end_10 : ∀ w ∈ wsX100, w ∈ wsX10_end := by decide +kernel
theorem inX10_end_8 : ∀ w ∈ wsX80, w ∈ wsX10_end := by decide +kernel
theorem kX10_end_0 : Cond.fieldLink RX10 115 "AheadStore$Tape" "size" "I" ∈ wsX10_end := by decide +kernel
theorem kX10_end_1 : Cond.fieldLink RX10 19 "AheadStore" "tape" "LAheadStore$Tape;" ∈ wsX10_end := by decide +kernel
set_option maxHeartbeats 4000000 in
set_option maxRecDepth 100000 in
theorem c_X10_end {l : Launch} {dC : Nat → ClassId} {dI : Nat → Nat → Nat} {cI : ClassId} {q0 : Nat → Nat} {sz : Nat} {u0 : S10} {x1 : Int32} {Q : Int32 → S10 → Prop} (h : wp_X10_end u0 x1 Q) : ctI sxE l yX10_end wsX10_end rX10_end (dC, dI) vwCl [(cI, .int)] [.ref (q0 0), .int x1] (cs10 cI q0 u0) sz (fun (r : Int32) (v : S10) => Q r v) (fun (v : S10) => cs10 cI q0 v) := by
  refine mx_i (cc := cX10_end) (maxL := 2) (ty := .boolean) (by decide) rfl (Nat.le_of_ble_eq_true rfl) ?_
  intro p e s m below meth c Z A ls args hx hb hml hown hts hA hP hK hD hE hl hret
  have hown : s.vm.findClass RX10 = some m.cls := hown
  have hl : lv_has ls 2 [(0, .ref (q0 0)), (1, .int x1)] := hl
  have hS : va_S A s.heap s.heap [] := va_S.rf
  refine lv_iload_n hx hb dX10_end_0 rfl (lv_at hl 1 rfl) ?_
  refine lv_if_lt (tgt := 15) hx hb dX10_end_1 (by decide) (fun cd => ?_) (fun cd => ?_)
  · have h := h.1 cd
    refine lv_iconst (v := 0) hx hb dX10_end_15 (by decide) ?_
    exact hret _ _ _ _ _ u0 dX10_end_16 (by decide) h hP hD hS
  · have h := h.2 cd
    refine lv_iload_n hx hb dX10_end_4 rfl (lv_at hl 1 rfl) ?_
    refine lv_aload_n hx hb dX10_end_5 rfl (lv_at hl 0 rfl) ?_
    refine va_get (D := (dC, dI)) (ci := 10) (v := .ref (q0 31)) (C := RX10) (T := TX10) (N := 6) hx hb hts inX10_end_10 hown hK hP 0 rfl rfl 1 (by decide) (hts _ kX10_end_1) (fun _ h9 => h9) rfl dX10_end_6 ?_
    refine va_get (D := (dC, dI)) (ci := 8) (v := .int (g8_size (g10_tape u0))) (C := RX8) (T := TX8) (N := 9) hx hb hts inX10_end_8 hown hK hP 31 rfl rfl 1 (by decide) (hts _ kX10_end_0) (fun _ h9 => h9) rfl dX10_end_9 ?_
    refine lv_icmp_le (tgt := 17) hx hb dX10_end_12 (by decide) (fun cd => ?_) (fun cd => ?_)
    · have h := h.1 cd
      refine lv_aload_n hx hb dX10_end_17 rfl (lv_at hl 0 rfl) ?_
      refine va_get (D := (dC, dI)) (ci := 10) (v := .ref (q0 31)) (C := RX10) (T := TX10) (N := 6) hx hb hts inX10_end_10 hown hK hP 0 rfl rfl 1 (by decide) (hts _ kX10_end_1) (fun _ h9 => h9) rfl dX10_end_18 ?_
      refine lv_iload_n hx hb dX10_end_21 rfl (lv_at hl 1 rfl) ?_
      refine va_put (D := (dC, dI)) (ci := 8) (v := .int x1) (ty := .int) (C := RX8) (T := TX8) (N := 9) hx hb hts inX10_end_8 tyX8 tyX8_ok nmX8 hown hK hP hD hS 31 rfl rfl 1 (by decide) (hts _ kX10_end_0) (fun _ h9 => h9) rfl (tyX8_ok 1 (by decide)) rfl rfl (Nat.le_of_ble_eq_true rfl) dX10_end_22 (fun H locs hP hD hS => ?_)
      obtain ⟨u0_1, e_u0_1⟩ : ∃ z, z = s10_tape u0 (s8_size (g10_tape u0) x1) := ⟨_, rfl⟩
      have h := h u0_1 e_u0_1
      have hP : va_P (dC, dI) vwCl (cs10 cI q0 u0_1) H := by rw [e_u0_1]; exact hP
      have hD : va_D A (cs10 cI q0 u0_1) := by rw [e_u0_1]; exact hD
      refine lv_iconst (v := 1) hx hb dX10_end_25 (by decide) ?_
      exact hret _ _ _ _ _ u0_1 dX10_end_26 (by decide) h hP hD hS
    · have h := h.2 cd
      refine lv_iconst (v := 0) hx hb dX10_end_15 (by decide) ?_
      exact hret _ _ _ _ _ u0 dX10_end_16 (by decide) h hP hD hS

set_option maxRecDepth 100000 in
theorem cut_79 (cI : ClassId) (q0 : Nat → Nat) (u0 : S10) : Cut (cs10 cI q0 u0) (cs6 cI (fun i => q0 (i + 29)) (g9_script (g10_now u0)) ++ cs6 cI (fun i => q0 (i + 33)) (g8_draft (g10_tape u0))) (fun v : S6 => cs6 cI (fun i => q0 (i + 29)) v ++ cs6 cI (fun i => q0 (i + 33)) (g8_draft (g10_tape u0))) (fun v : S6 => cs10 cI q0 (s10_now u0 (s9_script (g10_now u0) v))) := ⟨[29, 30, 33, 34], [0, 1, 2, 3, 4, 5, 6, 7, 8, 9, 10, 11, 12, 13, 14, 15, 16, 17, 18, 19, 20, 21, 22, 23, 24, 25, 26, 27, 28, 31, 32, 35, 36, 37, 38, 39, 40, 41], rfl, rfl, rfl, by decide, by decide, fun v => ⟨[0, 1, 2, 3, 4, 5, 6, 7, 8, 9, 10, 11, 12, 13, 14, 15, 16, 17, 18, 19, 20, 21, 22, 23, 24, 25, 26, 27, 28, 38, 39, 29, 30, 40, 41, 31, 32, 33, 34, 35, 36, 37], rfl, rfl⟩⟩

abbrev rX10_plan : Room := { frames := 10, cells := 0, slots := 0, locals := 218 }
theorem hdX10_plan : yX10_plan.cls = RX10 ∧ yX10_plan.cls ≠ "java/lang/invoke/MethodHandle" ∧ yX10_plan.cls ≠ "java/lang/invoke/VarHandle" ∧ (parseMethodDescriptor yX10_plan.desc).map (fun d => d.parameters.length) = some 0 := by decide +kernel
theorem inX10_plan_10 : ∀ w ∈ wsX100, w ∈ wsX10_plan := by decide +kernel
theorem inX10_plan_6 : ∀ w ∈ wsX60, w ∈ wsX10_plan := by decide +kernel
theorem inX10_plan_8 : ∀ w ∈ wsX80, w ∈ wsX10_plan := by decide +kernel
theorem inX10_plan_9 : ∀ w ∈ wsX90, w ∈ wsX10_plan := by decide +kernel
theorem kX10_plan_0 : Cond.fieldLink RX10 137 "AheadStore$Script" "size" "I" ∈ wsX10_plan := by decide +kernel
theorem kX10_plan_1 : Cond.fieldLink RX10 124 "AheadStore$World" "script" "LAheadStore$Script;" ∈ wsX10_plan := by decide +kernel
theorem kX10_plan_2 : Cond.fieldLink RX10 10 "AheadStore" "now" "LAheadStore$World;" ∈ wsX10_plan := by decide +kernel
theorem kX10_plan_3 : Cond.fieldLink RX10 128 "AheadStore$Tape" "draft" "LAheadStore$Script;" ∈ wsX10_plan := by decide +kernel
theorem kX10_plan_4 : Cond.fieldLink RX10 19 "AheadStore" "tape" "LAheadStore$Tape;" ∈ wsX10_plan := by decide +kernel
set_option maxHeartbeats 4000000 in
set_option maxRecDepth 100000 in
theorem c_X10_plan {l : Launch} {dC : Nat → ClassId} {dI : Nat → Nat → Nat} {cI : ClassId} {q0 : Nat → Nat} {sz : Nat} {u0 : S10}  {Q : Int32 → S10 → Prop} (h : wp_X10_plan u0 Q) : ctI tyE l yX10_plan wsX10_plan rX10_plan (dC, dI) vwCl [(cI, .int)] [.ref (q0 0)] (cs10 cI q0 u0) sz (fun (r : Int32) (v : S10) => Q r v) (fun (v : S10) => cs10 cI q0 v) := by
  refine mx_i (cc := cX10_plan) (maxL := 1) (ty := .int) (by decide) rfl (Nat.le_of_ble_eq_true rfl) ?_
  intro p e s m below meth c Z A ls args hx hb hml hown hts hA hP hK hD hE hl hret
  have hown : s.vm.findClass RX10 = some m.cls := hown
  have hl : lv_has ls 1 [(0, .ref (q0 0))] := hl
  have hS : va_S A s.heap s.heap [] := va_S.rf
  refine lv_aload_n hx hb dX10_plan_0 rfl (lv_at hl 0 rfl) ?_
  refine va_get (D := (dC, dI)) (ci := 10) (v := .ref (q0 31)) (C := RX10) (T := TX10) (N := 6) hx hb hts inX10_plan_10 hown hK hP 0 rfl rfl 1 (by decide) (hts _ kX10_plan_4) (fun _ h9 => h9) rfl dX10_plan_1 ?_
  refine cx_vi (As := []) (rest := []) ⟨hx, hb, hml, hown, hts⟩ hl.1 ok_tyE hE hK hP hD hS hA (cut_78 cI q0 u0) (c_X8_readPlan (l := l) (dC := dC) (dI := dI) (cI := cI) (q0 := fun i => q0 (i + 31)) h) (cwV 0 hts gX10_plan_X8_readPlan rfl rfl rfl hdX8_readPlan ⟨Nat.le_of_ble_eq_true rfl, Nat.le_of_ble_eq_true rfl⟩) rfl rfl rfl rfl (Nat.le_of_ble_eq_true rfl) dX10_plan_4 rfl (fun r_1 v_2 H locs h hP hD hS => ?_)
  obtain ⟨u0_3, e_u0_3⟩ : ∃ z, z = s10_tape u0 v_2 := ⟨_, rfl⟩
  have h := h u0_3 e_u0_3
  have hP : va_P (dC, dI) vwCl (cs10 cI q0 u0_3) H := by rw [e_u0_3]; exact hP
  have hD : va_D A (cs10 cI q0 u0_3) := by rw [e_u0_3]; exact hD
  refine lv_if_ne (tgt := 12) hx hb dX10_plan_7 (by decide) (fun cd => ?_) (fun cd => ?_)
  · have h := h.2 cd
    refine lv_aload_n hx hb dX10_plan_12 rfl (lv_at hl 0 rfl) ?_
    refine va_get (D := (dC, dI)) (ci := 10) (v := .ref (q0 1)) (C := RX10) (T := TX10) (N := 6) hx hb hts inX10_plan_10 hown hK hP 0 rfl rfl 0 (by decide) (hts _ kX10_plan_2) (fun _ h9 => h9) rfl dX10_plan_13 ?_
    refine va_get (D := (dC, dI)) (ci := 9) (v := .ref (q0 29)) (C := RX9) (T := TX9) (N := 11) hx hb hts inX10_plan_9 hown hK hP 1 rfl rfl 5 (by decide) (hts _ kX10_plan_1) (fun _ h9 => h9) rfl dX10_plan_16 ?_
    refine lv_aload_n hx hb dX10_plan_19 rfl (lv_at hl 0 rfl) ?_
    refine va_get (D := (dC, dI)) (ci := 10) (v := .ref (q0 31)) (C := RX10) (T := TX10) (N := 6) hx hb hts inX10_plan_10 hown hK hP 0 rfl rfl 1 (by decide) (hts _ kX10_plan_4) (fun _ h9 => h9) rfl dX10_plan_20 ?_
    refine va_get (D := (dC, dI)) (ci := 8) (v := .ref (q0 33)) (C := RX8) (T := TX8) (N := 9) hx hb hts inX10_plan_8 hown hK hP 31 rfl rfl 4 (by decide) (hts _ kX10_plan_3) (fun _ h9 => h9) rfl dX10_plan_23 ?_
    refine cx_vv (As := [.ref (q0 33)]) (rest := []) ⟨hx, hb, hml, hown, hts⟩ hl.1 ok_sxE hE.1 hK hP hD hS hA (cut_79 cI q0 u0_3) (c_X6_copyFrom (l := l) (dC := dC) (dI := dI) (cI := cI) (q0 := fun i => q0 (i + 29)) (q1 := fun i => q0 (i + 33)) h) (cwV 1 hts gX10_plan_X6_copyFrom rfl rfl rfl hdX6_copyFrom ⟨Nat.le_of_ble_eq_true rfl, Nat.le_of_ble_eq_true rfl⟩) rfl rfl rfl rfl (Nat.le_of_ble_eq_true rfl) dX10_plan_26 rfl (fun v_4 H locs h hP hD hS => ?_)
    obtain ⟨u0_5, e_u0_5⟩ : ∃ z, z = s10_now u0_3 (s9_script (g10_now u0_3) v_4) := ⟨_, rfl⟩
    have h := h u0_5 e_u0_5
    have hP : va_P (dC, dI) vwCl (cs10 cI q0 u0_5) H := by rw [e_u0_5]; exact hP
    have hD : va_D A (cs10 cI q0 u0_5) := by rw [e_u0_5]; exact hD
    refine lv_aload_n hx hb dX10_plan_29 rfl (lv_at hl 0 rfl) ?_
    refine va_get (D := (dC, dI)) (ci := 10) (v := .ref (q0 1)) (C := RX10) (T := TX10) (N := 6) hx hb hts inX10_plan_10 hown hK hP 0 rfl rfl 0 (by decide) (hts _ kX10_plan_2) (fun _ h9 => h9) rfl dX10_plan_30 ?_
    refine va_get (D := (dC, dI)) (ci := 9) (v := .ref (q0 29)) (C := RX9) (T := TX9) (N := 11) hx hb hts inX10_plan_9 hown hK hP 1 rfl rfl 5 (by decide) (hts _ kX10_plan_1) (fun _ h9 => h9) rfl dX10_plan_33 ?_
    refine va_get (D := (dC, dI)) (ci := 6) (v := .int (g6_size (g9_script (g10_now u0_5)))) (C := RX6) (T := TX6) (N := 3) hx hb hts inX10_plan_6 hown hK hP 29 rfl rfl 1 (by decide) (hts _ kX10_plan_0) (fun _ h9 => h9) rfl dX10_plan_36 ?_
    exact hret _ _ _ _ _ u0_5 dX10_plan_39 (vp_nar_int _) h hP hD hS
  · have h := h.1 cd
    refine lv_iconst (v := (-1)) hx hb dX10_plan_10 (by decide) ?_
    exact hret _ _ _ _ _ u0_3 dX10_plan_11 (vp_nar_int _) h hP hD hS

abbrev rX10_fault : Room := { frames := 0, cells := 0, slots := 0, locals := 0 }
theorem hdX10_fault : yX10_fault.cls = RX10 ∧ yX10_fault.cls ≠ "java/lang/invoke/MethodHandle" ∧ yX10_fault.cls ≠ "java/lang/invoke/VarHandle" ∧ (parseMethodDescriptor yX10_fault.desc).map (fun d => d.parameters.length) = some 1 := by decide +kernel
theorem inX10_fault_10 : ∀ w ∈ wsX100, w ∈ wsX10_fault := by decide +kernel
theorem inX10_fault_8 : ∀ w ∈ wsX80, w ∈ wsX10_fault := by decide +kernel
theorem kX10_fault_0 : Cond.fieldLink RX10 141 "AheadStore$Tape" "faultPlace" "I" ∈ wsX10_fault := by decide +kernel
theorem kX10_fault_1 : Cond.fieldLink RX10 19 "AheadStore" "tape" "LAheadStore$Tape;" ∈ wsX10_fault := by decide +kernel
theorem kX10_fault_2 : Cond.fieldLink RX10 138 "AheadStore$Tape" "fault" "I" ∈ wsX10_fault := by decide +kernel
set_option maxHeartbeats 4000000 in
set_option maxRecDepth 100000 in
theorem c_X10_fault {l : Launch} {dC : Nat → ClassId} {dI : Nat → Nat → Nat} {cI : ClassId} {q0 : Nat → Nat} {sz : Nat} {u0 : S10} {x1 : Int32} {Q : Int32 → Prop} (h : wp_X10_fault u0 x1 Q) : ctI sxE l yX10_fault wsX10_fault rX10_fault (dC, dI) vwCl [(cI, .int)] [.ref (q0 0), .int x1] (cs10 cI q0 u0) sz (fun (r : Int32) (_ : Unit) => Q r) (fun (_ : Unit) => cs10 cI q0 u0) := by
  refine mx_i (cc := cX10_fault) (maxL := 2) (ty := .int) (by decide) rfl (Nat.le_of_ble_eq_true rfl) ?_
  intro p e s m below meth c Z A ls args hx hb hml hown hts hA hP hK hD hE hl hret
  have hown : s.vm.findClass RX10 = some m.cls := hown
  have hl : lv_has ls 2 [(0, .ref (q0 0)), (1, .int x1)] := hl
  have hS : va_S A s.heap s.heap [] := va_S.rf
  refine lv_iload_n hx hb dX10_fault_0 rfl (lv_at hl 1 rfl) ?_
  refine lv_if_ne (tgt := 12) hx hb dX10_fault_1 (by decide) (fun cd => ?_) (fun cd => ?_)
  · have h := h.2 cd
    refine lv_iload_n hx hb dX10_fault_12 rfl (lv_at hl 1 rfl) ?_
    refine lv_iconst (v := 1) hx hb dX10_fault_13 (by decide) ?_
    refine lv_icmp_ne (tgt := 27) hx hb dX10_fault_14 (by decide) (fun cd => ?_) (fun cd => ?_)
    · have h := h.2 cd
      refine lv_iconst (v := (-1)) hx hb dX10_fault_27 (by decide) ?_
      exact hret _ _ _ _ _ () dX10_fault_28 (vp_nar_int _) h hP hD hS
    · have h := h.1 cd
      refine lv_aload_n hx hb dX10_fault_17 rfl (lv_at hl 0 rfl) ?_
      refine va_get (D := (dC, dI)) (ci := 10) (v := .ref (q0 31)) (C := RX10) (T := TX10) (N := 6) hx hb hts inX10_fault_10 hown hK hP 0 rfl rfl 1 (by decide) (hts _ kX10_fault_1) (fun _ h9 => h9) rfl dX10_fault_18 ?_
      refine va_get (D := (dC, dI)) (ci := 8) (v := .int (g8_faultPlace (g10_tape u0))) (C := RX8) (T := TX8) (N := 9) hx hb hts inX10_fault_8 hown hK hP 31 rfl rfl 3 (by decide) (hts _ kX10_fault_0) (fun _ h9 => h9) rfl dX10_fault_21 ?_
      refine lv_goto (tgt := 28) hx hb dX10_fault_24 (by decide) ?_
      exact hret _ _ _ _ _ () dX10_fault_28 (vp_nar_int _) h hP hD hS
  · have h := h.1 cd
    refine lv_aload_n hx hb dX10_fault_4 rfl (lv_at hl 0 rfl) ?_
    refine va_get (D := (dC, dI)) (ci := 10) (v := .ref (q0 31)) (C := RX10) (T := TX10) (N := 6) hx hb hts inX10_fault_10 hown hK hP 0 rfl rfl 1 (by decide) (hts _ kX10_fault_1) (fun _ h9 => h9) rfl dX10_fault_5 ?_
    refine va_get (D := (dC, dI)) (ci := 8) (v := .int (g8_fault (g10_tape u0))) (C := RX8) (T := TX8) (N := 9) hx hb hts inX10_fault_8 hown hK hP 31 rfl rfl 2 (by decide) (hts _ kX10_fault_2) (fun _ h9 => h9) rfl dX10_fault_8 ?_
    exact hret _ _ _ _ _ () dX10_fault_11 (vp_nar_int _) h hP hD hS

set_option maxRecDepth 100000 in
theorem cut_80 (cI : ClassId) (q0 : Nat → Nat) (u0 : S10) : Cut (cs10 cI q0 u0) (cs6 cI (fun i => q0 (i + 29)) (g9_script (g10_now u0))) (fun _ : Unit => cs6 cI (fun i => q0 (i + 29)) (g9_script (g10_now u0))) (fun _ : Unit => cs10 cI q0 u0) := ⟨[29, 30], [0, 1, 2, 3, 4, 5, 6, 7, 8, 9, 10, 11, 12, 13, 14, 15, 16, 17, 18, 19, 20, 21, 22, 23, 24, 25, 26, 27, 28, 31, 32, 33, 34, 35, 36, 37, 38, 39, 40, 41], rfl, rfl, rfl, by decide, by decide, fun _ => ⟨[0, 1, 2, 3, 4, 5, 6, 7, 8, 9, 10, 11, 12, 13, 14, 15, 16, 17, 18, 19, 20, 21, 22, 23, 24, 25, 26, 27, 28, 40, 41, 29, 30, 31, 32, 33, 34, 35, 36, 37, 38, 39], rfl, rfl⟩⟩

abbrev rX10_doLine : Room := { frames := 6, cells := 0, slots := 0, locals := 140 }
theorem hdX10_doLine : yX10_doLine.cls = RX10 ∧ yX10_doLine.cls ≠ "java/lang/invoke/MethodHandle" ∧ yX10_doLine.cls ≠ "java/lang/invoke/VarHandle" ∧ (parseMethodDescriptor yX10_doLine.desc).map (fun d => d.parameters.length) = some 1 := by decide +kernel
theorem inX10_doLine_10 : ∀ w ∈ wsX100, w ∈ wsX10_doLine := by decide +kernel
theorem inX10_doLine_9 : ∀ w ∈ wsX90, w ∈ wsX10_doLine := by decide +kernel
theorem kX10_doLine_0 : Cond.fieldLink RX10 10 "AheadStore" "now" "LAheadStore$World;" ∈ wsX10_doLine := by decide +kernel
theorem kX10_doLine_1 : Cond.fieldLink RX10 124 "AheadStore$World" "script" "LAheadStore$Script;" ∈ wsX10_doLine := by decide +kernel
set_option maxHeartbeats 4000000 in
set_option maxRecDepth 100000 in
theorem c_X10_doLine {l : Launch} {dC : Nat → ClassId} {dI : Nat → Nat → Nat} {cI : ClassId} {q0 : Nat → Nat} {sz : Nat} {u0 : S10} {x1 : Int32} {Q : Int32 → S10 → Prop} (h : wp_X10_doLine u0 x1 Q) : ctI sxE l yX10_doLine wsX10_doLine rX10_doLine (dC, dI) vwCl [(cI, .int)] [.ref (q0 0), .int x1] (cs10 cI q0 u0) sz (fun (r : Int32) (v : S10) => Q r v) (fun (v : S10) => cs10 cI q0 v) := by
  refine mx_i (cc := cX10_doLine) (maxL := 5) (ty := .boolean) (by decide) rfl (Nat.le_of_ble_eq_true rfl) ?_
  intro p e s m below meth c Z A ls args hx hb hml hown hts hA hP hK hD hE hl hret
  have hown : s.vm.findClass RX10 = some m.cls := hown
  have hl : lv_has ls 5 [(0, .ref (q0 0)), (1, .int x1)] := hl
  have hS : va_S A s.heap s.heap [] := va_S.rf
  refine lv_aload_n hx hb dX10_doLine_0 rfl (lv_at hl 0 rfl) ?_
  refine va_get (D := (dC, dI)) (ci := 10) (v := .ref (q0 1)) (C := RX10) (T := TX10) (N := 6) hx hb hts inX10_doLine_10 hown hK hP 0 rfl rfl 0 (by decide) (hts _ kX10_doLine_0) (fun _ h9 => h9) rfl dX10_doLine_1 ?_
  refine va_get (D := (dC, dI)) (ci := 9) (v := .ref (q0 29)) (C := RX9) (T := TX9) (N := 11) hx hb hts inX10_doLine_9 hown hK hP 1 rfl rfl 5 (by decide) (hts _ kX10_doLine_1) (fun _ h9 => h9) rfl dX10_doLine_4 ?_
  refine lv_iload_n hx hb dX10_doLine_7 rfl (lv_at hl 1 rfl) ?_
  refine lv_iconst (v := 1) hx hb dX10_doLine_8 (by decide) ?_
  refine cx_vi (As := [.int x1, .int 1]) (rest := []) ⟨hx, hb, hml, hown, hts⟩ hl.1 ok_sxE hE hK hP hD hS hA (cut_80 cI q0 u0) (c_X6_part (l := l) (dC := dC) (dI := dI) (cI := cI) (q0 := fun i => q0 (i + 29)) h) (cwV 2 hts gX10_doLine_X6_part rfl rfl rfl hdX6_part ⟨Nat.le_of_ble_eq_true rfl, Nat.le_of_ble_eq_true rfl⟩) rfl rfl rfl rfl (Nat.le_of_ble_eq_true rfl) dX10_doLine_9 rfl (fun r_1 _ H locs h hP hD hS => ?_)
  refine lv_istore_n (lv' := [(2, .int r_1), (0, .ref (q0 0)), (1, .int x1)]) hx hb dX10_doLine_12 rfl hl (by decide) rfl (fun ls hl => ?_)
  refine lv_aload_n hx hb dX10_doLine_13 rfl (lv_at hl 1 rfl) ?_
  refine va_get (D := (dC, dI)) (ci := 10) (v := .ref (q0 1)) (C := RX10) (T := TX10) (N := 6) hx hb hts inX10_doLine_10 hown hK hP 0 rfl rfl 0 (by decide) (hts _ kX10_doLine_0) (fun _ h9 => h9) rfl dX10_doLine_14 ?_
  refine va_get (D := (dC, dI)) (ci := 9) (v := .ref (q0 29)) (C := RX9) (T := TX9) (N := 11) hx hb hts inX10_doLine_9 hown hK hP 1 rfl rfl 5 (by decide) (hts _ kX10_doLine_1) (fun _ h9 => h9) rfl dX10_doLine_17 ?_
  refine lv_iload_n hx hb dX10_doLine_20 rfl (lv_at hl 2 rfl) ?_
  refine lv_iconst (v := 2) hx hb dX10_doLine_21 (by decide) ?_
  refine cx_vi (As := [.int x1, .int 2]) (rest := []) ⟨hx, hb, hml, hown, hts⟩ hl.1 ok_sxE hE hK hP hD hS hA (cut_80 cI q0 u0) (c_X6_part (l := l) (dC := dC) (dI := dI) (cI := cI) (q0 := fun i => q0 (i + 29)) h) (cwV 2 hts gX10_doLine_X6_part rfl rfl rfl hdX6_part ⟨Nat.le_of_ble_eq_true rfl, Nat.le_of_ble_eq_true rfl⟩) rfl rfl rfl rfl (Nat.le_of_ble_eq_true rfl) dX10_doLine_22 rfl (fun r_2 _ H locs h hP hD hS => ?_)
  refine lv_istore_n (lv' := [(3, .int r_2), (2, .int r_1), (0, .ref (q0 0)), (1, .int x1)]) hx hb dX10_doLine_25 rfl hl (by decide) rfl (fun ls hl => ?_)
  refine lv_aload_n hx hb dX10_doLine_26 rfl (lv_at hl 2 rfl) ?_
  refine va_get (D := (dC, dI)) (ci := 10) (v := .ref (q0 1)) (C := RX10) (T := TX10) (N := 6) hx hb hts inX10_doLine_10 hown hK hP 0 rfl rfl 0 (by decide) (hts _ kX10_doLine_0) (fun _ h9 => h9) rfl dX10_doLine_27 ?_
  refine va_get (D := (dC, dI)) (ci := 9) (v := .ref (q0 29)) (C := RX9) (T := TX9) (N := 11) hx hb hts inX10_doLine_9 hown hK hP 1 rfl rfl 5 (by decide) (hts _ kX10_doLine_1) (fun _ h9 => h9) rfl dX10_doLine_30 ?_
  refine lv_iload_n hx hb dX10_doLine_33 rfl (lv_at hl 3 rfl) ?_
  refine lv_iconst (v := 3) hx hb dX10_doLine_34 (by decide) ?_
  refine cx_vi (As := [.int x1, .int 3]) (rest := []) ⟨hx, hb, hml, hown, hts⟩ hl.1 ok_sxE hE hK hP hD hS hA (cut_80 cI q0 u0) (c_X6_part (l := l) (dC := dC) (dI := dI) (cI := cI) (q0 := fun i => q0 (i + 29)) h) (cwV 2 hts gX10_doLine_X6_part rfl rfl rfl hdX6_part ⟨Nat.le_of_ble_eq_true rfl, Nat.le_of_ble_eq_true rfl⟩) rfl rfl rfl rfl (Nat.le_of_ble_eq_true rfl) dX10_doLine_35 rfl (fun r_3 _ H locs h hP hD hS => ?_)
  refine lv_istore (lv' := [(4, .int r_3), (3, .int r_2), (2, .int r_1), (0, .ref (q0 0)), (1, .int x1)]) hx hb dX10_doLine_38 hl (by decide) rfl (fun ls hl => ?_)
  refine lv_aload_n hx hb dX10_doLine_40 rfl (lv_at hl 3 rfl) ?_
  refine va_get (D := (dC, dI)) (ci := 10) (v := .ref (q0 1)) (C := RX10) (T := TX10) (N := 6) hx hb hts inX10_doLine_10 hown hK hP 0 rfl rfl 0 (by decide) (hts _ kX10_doLine_0) (fun _ h9 => h9) rfl dX10_doLine_41 ?_
  refine va_get (D := (dC, dI)) (ci := 9) (v := .ref (q0 29)) (C := RX9) (T := TX9) (N := 11) hx hb hts inX10_doLine_9 hown hK hP 1 rfl rfl 5 (by decide) (hts _ kX10_doLine_1) (fun _ h9 => h9) rfl dX10_doLine_44 ?_
  refine lv_iload_n hx hb dX10_doLine_47 rfl (lv_at hl 4 rfl) ?_
  refine lv_iconst (v := 0) hx hb dX10_doLine_48 (by decide) ?_
  refine cx_vi (As := [.int x1, .int 0]) (rest := []) ⟨hx, hb, hml, hown, hts⟩ hl.1 ok_sxE hE hK hP hD hS hA (cut_80 cI q0 u0) (c_X6_part (l := l) (dC := dC) (dI := dI) (cI := cI) (q0 := fun i => q0 (i + 29)) h) (cwV 2 hts gX10_doLine_X6_part rfl rfl rfl hdX6_part ⟨Nat.le_of_ble_eq_true rfl, Nat.le_of_ble_eq_true rfl⟩) rfl rfl rfl rfl (Nat.le_of_ble_eq_true rfl) dX10_doLine_49 rfl (fun r_4 _ H locs h hP hD hS => ?_)
  by_cases c0 : r_4 = 0
  · have h := h.1 c0
    refine lv_tableIn (tgt := 124) (off := 72) hx hb dX10_doLine_52 (by rw [c0]; decide) (by rw [c0]; decide) (by rw [c0]; rfl) (by decide) ?_
    refine lv_aload_n hx hb dX10_doLine_124 rfl (lv_at hl 3 rfl) ?_
    refine va_get (D := (dC, dI)) (ci := 10) (v := .ref (q0 1)) (C := RX10) (T := TX10) (N := 6) hx hb hts inX10_doLine_10 hown hK hP 0 rfl rfl 0 (by decide) (hts _ kX10_doLine_0) (fun _ h9 => h9) rfl dX10_doLine_125 ?_
    refine lv_iload_n hx hb dX10_doLine_128 rfl (lv_at hl 2 rfl) ?_
    refine cx_vi (As := [.int r_1]) (rest := []) ⟨hx, hb, hml, hown, hts⟩ hl.1 ok_sxE hE hK hP hD hS hA (cut_76 cI q0 u0) (c_X9_begin (l := l) (dC := dC) (dI := dI) (cI := cI) (q0 := fun i => q0 (i + 1)) h) (cwV 1 hts gX10_doLine_X9_begin rfl rfl rfl hdX9_begin ⟨Nat.le_of_ble_eq_true rfl, Nat.le_of_ble_eq_true rfl⟩) rfl rfl rfl rfl (Nat.le_of_ble_eq_true rfl) dX10_doLine_129 rfl (fun r_5 v_6 H locs h hP hD hS => ?_)
    obtain ⟨u0_7, e_u0_7⟩ : ∃ z, z = s10_now u0 v_6 := ⟨_, rfl⟩
    have h := h u0_7 e_u0_7
    have hP : va_P (dC, dI) vwCl (cs10 cI q0 u0_7) H := by rw [e_u0_7]; exact hP
    have hD : va_D A (cs10 cI q0 u0_7) := by rw [e_u0_7]; exact hD
    exact hret _ _ _ _ _ u0_7 dX10_doLine_132 (zb_n h.1) h.2 hP hD hS
  have h := h.2 c0
  by_cases c1 : r_4 = 1
  · have h := h.1 c1
    refine lv_tableIn (tgt := 133) (off := 81) hx hb dX10_doLine_52 (by rw [c1]; decide) (by rw [c1]; decide) (by rw [c1]; rfl) (by decide) ?_
    refine lv_aload_n hx hb dX10_doLine_133 rfl (lv_at hl 3 rfl) ?_
    refine va_get (D := (dC, dI)) (ci := 10) (v := .ref (q0 1)) (C := RX10) (T := TX10) (N := 6) hx hb hts inX10_doLine_10 hown hK hP 0 rfl rfl 0 (by decide) (hts _ kX10_doLine_0) (fun _ h9 => h9) rfl dX10_doLine_134 ?_
    refine lv_iload_n hx hb dX10_doLine_137 rfl (lv_at hl 2 rfl) ?_
    refine lv_iload_n hx hb dX10_doLine_138 rfl (lv_at hl 1 rfl) ?_
    refine lv_iload hx hb dX10_doLine_139 (lv_at hl 0 rfl) ?_
    refine lv_iconst (v := 2) hx hb dX10_doLine_141 (by decide) ?_
    refine cx_vi (As := [.int r_1, .int r_2, .int r_3, .int 2]) (rest := []) ⟨hx, hb, hml, hown, hts⟩ hl.1 ok_sxE hE hK hP hD hS hA (cut_76 cI q0 u0) (c_X9_change (l := l) (dC := dC) (dI := dI) (cI := cI) (q0 := fun i => q0 (i + 1)) h) (cwV 4 hts gX10_doLine_X9_change rfl rfl rfl hdX9_change ⟨Nat.le_of_ble_eq_true rfl, Nat.le_of_ble_eq_true rfl⟩) rfl rfl rfl rfl (Nat.le_of_ble_eq_true rfl) dX10_doLine_142 rfl (fun r_8 v_9 H locs h hP hD hS => ?_)
    obtain ⟨u0_10, e_u0_10⟩ : ∃ z, z = s10_now u0 v_9 := ⟨_, rfl⟩
    have h := h u0_10 e_u0_10
    have hP : va_P (dC, dI) vwCl (cs10 cI q0 u0_10) H := by rw [e_u0_10]; exact hP
    have hD : va_D A (cs10 cI q0 u0_10) := by rw [e_u0_10]; exact hD
    exact hret _ _ _ _ _ u0_10 dX10_doLine_145 (zb_n h.1) h.2 hP hD hS
  have h := h.2 c1
  by_cases c2 : r_4 = 2
  · have h := h.1 c2
    refine lv_tableIn (tgt := 146) (off := 94) hx hb dX10_doLine_52 (by rw [c2]; decide) (by rw [c2]; decide) (by rw [c2]; rfl) (by decide) ?_
    refine lv_aload_n hx hb dX10_doLine_146 rfl (lv_at hl 3 rfl) ?_
    refine va_get (D := (dC, dI)) (ci := 10) (v := .ref (q0 1)) (C := RX10) (T := TX10) (N := 6) hx hb hts inX10_doLine_10 hown hK hP 0 rfl rfl 0 (by decide) (hts _ kX10_doLine_0) (fun _ h9 => h9) rfl dX10_doLine_147 ?_
    refine lv_iload_n hx hb dX10_doLine_150 rfl (lv_at hl 2 rfl) ?_
    refine lv_iload_n hx hb dX10_doLine_151 rfl (lv_at hl 1 rfl) ?_
    refine lv_iload hx hb dX10_doLine_152 (lv_at hl 0 rfl) ?_
    refine lv_iconst (v := 3) hx hb dX10_doLine_154 (by decide) ?_
    refine cx_vi (As := [.int r_1, .int r_2, .int r_3, .int 3]) (rest := []) ⟨hx, hb, hml, hown, hts⟩ hl.1 ok_sxE hE hK hP hD hS hA (cut_76 cI q0 u0) (c_X9_change (l := l) (dC := dC) (dI := dI) (cI := cI) (q0 := fun i => q0 (i + 1)) h) (cwV 4 hts gX10_doLine_X9_change rfl rfl rfl hdX9_change ⟨Nat.le_of_ble_eq_true rfl, Nat.le_of_ble_eq_true rfl⟩) rfl rfl rfl rfl (Nat.le_of_ble_eq_true rfl) dX10_doLine_155 rfl (fun r_11 v_12 H locs h hP hD hS => ?_)
    obtain ⟨u0_13, e_u0_13⟩ : ∃ z, z = s10_now u0 v_12 := ⟨_, rfl⟩
    have h := h u0_13 e_u0_13
    have hP : va_P (dC, dI) vwCl (cs10 cI q0 u0_13) H := by rw [e_u0_13]; exact hP
    have hD : va_D A (cs10 cI q0 u0_13) := by rw [e_u0_13]; exact hD
    exact hret _ _ _ _ _ u0_13 dX10_doLine_158 (zb_n h.1) h.2 hP hD hS
  have h := h.2 c2
  by_cases c3 : r_4 = 3
  · have h := h.1 c3
    refine lv_tableIn (tgt := 159) (off := 107) hx hb dX10_doLine_52 (by rw [c3]; decide) (by rw [c3]; decide) (by rw [c3]; rfl) (by decide) ?_
    refine lv_aload_n hx hb dX10_doLine_159 rfl (lv_at hl 3 rfl) ?_
    refine va_get (D := (dC, dI)) (ci := 10) (v := .ref (q0 1)) (C := RX10) (T := TX10) (N := 6) hx hb hts inX10_doLine_10 hown hK hP 0 rfl rfl 0 (by decide) (hts _ kX10_doLine_0) (fun _ h9 => h9) rfl dX10_doLine_160 ?_
    refine lv_iload_n hx hb dX10_doLine_163 rfl (lv_at hl 2 rfl) ?_
    refine cx_vi (As := [.int r_1]) (rest := []) ⟨hx, hb, hml, hown, hts⟩ hl.1 ok_sxE hE hK hP hD hS hA (cut_76 cI q0 u0) (c_X9_putSave (l := l) (dC := dC) (dI := dI) (cI := cI) (q0 := fun i => q0 (i + 1)) h) (cwV 1 hts gX10_doLine_X9_putSave rfl rfl rfl hdX9_putSave ⟨Nat.le_of_ble_eq_true rfl, Nat.le_of_ble_eq_true rfl⟩) rfl rfl rfl rfl (Nat.le_of_ble_eq_true rfl) dX10_doLine_164 rfl (fun r_14 v_15 H locs h hP hD hS => ?_)
    obtain ⟨u0_16, e_u0_16⟩ : ∃ z, z = s10_now u0 v_15 := ⟨_, rfl⟩
    have h := h u0_16 e_u0_16
    have hP : va_P (dC, dI) vwCl (cs10 cI q0 u0_16) H := by rw [e_u0_16]; exact hP
    have hD : va_D A (cs10 cI q0 u0_16) := by rw [e_u0_16]; exact hD
    refine lv_iconst (v := (-1)) hx hb dX10_doLine_167 (by decide) ?_
    refine lv_icmp_eq (tgt := 175) hx hb dX10_doLine_168 (by decide) (fun cd => ?_) (fun cd => ?_)
    · have h := h.1 cd
      refine lv_iconst (v := 0) hx hb dX10_doLine_175 (by decide) ?_
      exact hret _ _ _ _ _ u0_16 dX10_doLine_176 (by decide) h hP hD hS
    · have h := h.2 cd
      refine lv_iconst (v := 1) hx hb dX10_doLine_171 (by decide) ?_
      refine lv_goto (tgt := 176) hx hb dX10_doLine_172 (by decide) ?_
      exact hret _ _ _ _ _ u0_16 dX10_doLine_176 (by decide) h hP hD hS
  have h := h.2 c3
  by_cases c4 : r_4 = 4
  · have h := h.1 c4
    refine lv_tableIn (tgt := 177) (off := 125) hx hb dX10_doLine_52 (by rw [c4]; decide) (by rw [c4]; decide) (by rw [c4]; rfl) (by decide) ?_
    refine lv_aload_n hx hb dX10_doLine_177 rfl (lv_at hl 3 rfl) ?_
    refine va_get (D := (dC, dI)) (ci := 10) (v := .ref (q0 1)) (C := RX10) (T := TX10) (N := 6) hx hb hts inX10_doLine_10 hown hK hP 0 rfl rfl 0 (by decide) (hts _ kX10_doLine_0) (fun _ h9 => h9) rfl dX10_doLine_178 ?_
    refine lv_iload_n hx hb dX10_doLine_181 rfl (lv_at hl 2 rfl) ?_
    refine lv_iload_n hx hb dX10_doLine_182 rfl (lv_at hl 1 rfl) ?_
    refine cx_vi (As := [.int r_1, .int r_2]) (rest := []) ⟨hx, hb, hml, hown, hts⟩ hl.1 ok_sxE hE hK hP hD hS hA (cut_76 cI q0 u0) (c_X9_goBack (l := l) (dC := dC) (dI := dI) (cI := cI) (q0 := fun i => q0 (i + 1)) h) (cwV 2 hts gX10_doLine_X9_goBack rfl rfl rfl hdX9_goBack ⟨Nat.le_of_ble_eq_true rfl, Nat.le_of_ble_eq_true rfl⟩) rfl rfl rfl rfl (Nat.le_of_ble_eq_true rfl) dX10_doLine_183 rfl (fun r_17 v_18 H locs h hP hD hS => ?_)
    obtain ⟨u0_19, e_u0_19⟩ : ∃ z, z = s10_now u0 v_18 := ⟨_, rfl⟩
    have h := h u0_19 e_u0_19
    have hP : va_P (dC, dI) vwCl (cs10 cI q0 u0_19) H := by rw [e_u0_19]; exact hP
    have hD : va_D A (cs10 cI q0 u0_19) := by rw [e_u0_19]; exact hD
    refine lv_iconst (v := (-1)) hx hb dX10_doLine_186 (by decide) ?_
    refine lv_icmp_eq (tgt := 194) hx hb dX10_doLine_187 (by decide) (fun cd => ?_) (fun cd => ?_)
    · have h := h.1 cd
      refine lv_iconst (v := 0) hx hb dX10_doLine_194 (by decide) ?_
      exact hret _ _ _ _ _ u0_19 dX10_doLine_195 (by decide) h hP hD hS
    · have h := h.2 cd
      refine lv_iconst (v := 1) hx hb dX10_doLine_190 (by decide) ?_
      refine lv_goto (tgt := 195) hx hb dX10_doLine_191 (by decide) ?_
      exact hret _ _ _ _ _ u0_19 dX10_doLine_195 (by decide) h hP hD hS
  have h := h.2 c4
  by_cases c5 : r_4 = 5
  · have h := h.1 c5
    refine lv_tableIn (tgt := 196) (off := 144) hx hb dX10_doLine_52 (by rw [c5]; decide) (by rw [c5]; decide) (by rw [c5]; rfl) (by decide) ?_
    refine lv_aload_n hx hb dX10_doLine_196 rfl (lv_at hl 3 rfl) ?_
    refine va_get (D := (dC, dI)) (ci := 10) (v := .ref (q0 1)) (C := RX10) (T := TX10) (N := 6) hx hb hts inX10_doLine_10 hown hK hP 0 rfl rfl 0 (by decide) (hts _ kX10_doLine_0) (fun _ h9 => h9) rfl dX10_doLine_197 ?_
    refine lv_iload_n hx hb dX10_doLine_200 rfl (lv_at hl 2 rfl) ?_
    refine cx_vi (As := [.int r_1]) (rest := []) ⟨hx, hb, hml, hown, hts⟩ hl.1 ok_sxE hE hK hP hD hS hA (cut_76 cI q0 u0) (c_X9_openTop (l := l) (dC := dC) (dI := dI) (cI := cI) (q0 := fun i => q0 (i + 1)) h) (cwV 1 hts gX10_doLine_X9_openTop rfl rfl rfl hdX9_openTop ⟨Nat.le_of_ble_eq_true rfl, Nat.le_of_ble_eq_true rfl⟩) rfl rfl rfl rfl (Nat.le_of_ble_eq_true rfl) dX10_doLine_201 rfl (fun r_20 v_21 H locs h hP hD hS => ?_)
    obtain ⟨u0_22, e_u0_22⟩ : ∃ z, z = s10_now u0 v_21 := ⟨_, rfl⟩
    have h := h u0_22 e_u0_22
    have hP : va_P (dC, dI) vwCl (cs10 cI q0 u0_22) H := by rw [e_u0_22]; exact hP
    have hD : va_D A (cs10 cI q0 u0_22) := by rw [e_u0_22]; exact hD
    exact hret _ _ _ _ _ u0_22 dX10_doLine_204 (zb_n h.1) h.2 hP hD hS
  have h := h.2 c5
  by_cases c6 : r_4 = 6
  · have h := h.1 c6
    refine lv_tableIn (tgt := 205) (off := 153) hx hb dX10_doLine_52 (by rw [c6]; decide) (by rw [c6]; decide) (by rw [c6]; rfl) (by decide) ?_
    refine lv_aload_n hx hb dX10_doLine_205 rfl (lv_at hl 3 rfl) ?_
    refine va_get (D := (dC, dI)) (ci := 10) (v := .ref (q0 1)) (C := RX10) (T := TX10) (N := 6) hx hb hts inX10_doLine_10 hown hK hP 0 rfl rfl 0 (by decide) (hts _ kX10_doLine_0) (fun _ h9 => h9) rfl dX10_doLine_206 ?_
    refine lv_iload_n hx hb dX10_doLine_209 rfl (lv_at hl 2 rfl) ?_
    refine cx_vi (As := [.int r_1]) (rest := []) ⟨hx, hb, hml, hown, hts⟩ hl.1 ok_sxE hE hK hP hD hS hA (cut_76 cI q0 u0) (c_X9_closeTop (l := l) (dC := dC) (dI := dI) (cI := cI) (q0 := fun i => q0 (i + 1)) h) (cwV 1 hts gX10_doLine_X9_closeTop rfl rfl rfl hdX9_closeTop ⟨Nat.le_of_ble_eq_true rfl, Nat.le_of_ble_eq_true rfl⟩) rfl rfl rfl rfl (Nat.le_of_ble_eq_true rfl) dX10_doLine_210 rfl (fun r_23 v_24 H locs h hP hD hS => ?_)
    obtain ⟨u0_25, e_u0_25⟩ : ∃ z, z = s10_now u0 v_24 := ⟨_, rfl⟩
    have h := h u0_25 e_u0_25
    have hP : va_P (dC, dI) vwCl (cs10 cI q0 u0_25) H := by rw [e_u0_25]; exact hP
    have hD : va_D A (cs10 cI q0 u0_25) := by rw [e_u0_25]; exact hD
    exact hret _ _ _ _ _ u0_25 dX10_doLine_213 (zb_n h.1) h.2 hP hD hS
  have h := h.2 c6
  by_cases c7 : r_4 = 7
  · have h := h.1 c7
    refine lv_tableIn (tgt := 214) (off := 162) hx hb dX10_doLine_52 (by rw [c7]; decide) (by rw [c7]; decide) (by rw [c7]; rfl) (by decide) ?_
    refine lv_aload_n hx hb dX10_doLine_214 rfl (lv_at hl 3 rfl) ?_
    refine va_get (D := (dC, dI)) (ci := 10) (v := .ref (q0 1)) (C := RX10) (T := TX10) (N := 6) hx hb hts inX10_doLine_10 hown hK hP 0 rfl rfl 0 (by decide) (hts _ kX10_doLine_0) (fun _ h9 => h9) rfl dX10_doLine_215 ?_
    refine lv_iload_n hx hb dX10_doLine_218 rfl (lv_at hl 2 rfl) ?_
    refine cx_vi (As := [.int r_1]) (rest := []) ⟨hx, hb, hml, hown, hts⟩ hl.1 ok_sxE hE hK hP hD hS hA (cut_76 cI q0 u0) (c_X9_commit (l := l) (dC := dC) (dI := dI) (cI := cI) (q0 := fun i => q0 (i + 1)) h) (cwV 1 hts gX10_doLine_X9_commit rfl rfl rfl hdX9_commit ⟨Nat.le_of_ble_eq_true rfl, Nat.le_of_ble_eq_true rfl⟩) rfl rfl rfl rfl (Nat.le_of_ble_eq_true rfl) dX10_doLine_219 rfl (fun r_26 v_27 H locs h hP hD hS => ?_)
    obtain ⟨u0_28, e_u0_28⟩ : ∃ z, z = s10_now u0 v_27 := ⟨_, rfl⟩
    have h := h u0_28 e_u0_28
    have hP : va_P (dC, dI) vwCl (cs10 cI q0 u0_28) H := by rw [e_u0_28]; exact hP
    have hD : va_D A (cs10 cI q0 u0_28) := by rw [e_u0_28]; exact hD
    exact hret _ _ _ _ _ u0_28 dX10_doLine_222 (zb_n h.1) h.2 hP hD hS
  have h := h.2 c7
  by_cases c8 : r_4 = 8
  · have h := h.1 c8
    refine lv_tableIn (tgt := 223) (off := 171) hx hb dX10_doLine_52 (by rw [c8]; decide) (by rw [c8]; decide) (by rw [c8]; rfl) (by decide) ?_
    refine lv_aload_n hx hb dX10_doLine_223 rfl (lv_at hl 3 rfl) ?_
    refine va_get (D := (dC, dI)) (ci := 10) (v := .ref (q0 1)) (C := RX10) (T := TX10) (N := 6) hx hb hts inX10_doLine_10 hown hK hP 0 rfl rfl 0 (by decide) (hts _ kX10_doLine_0) (fun _ h9 => h9) rfl dX10_doLine_224 ?_
    refine lv_iload_n hx hb dX10_doLine_227 rfl (lv_at hl 2 rfl) ?_
    refine cx_vi (As := [.int r_1]) (rest := []) ⟨hx, hb, hml, hown, hts⟩ hl.1 ok_sxE hE hK hP hD hS hA (cut_76 cI q0 u0) (c_X9_abort (l := l) (dC := dC) (dI := dI) (cI := cI) (q0 := fun i => q0 (i + 1)) h) (cwV 1 hts gX10_doLine_X9_abort rfl rfl rfl hdX9_abort ⟨Nat.le_of_ble_eq_true rfl, Nat.le_of_ble_eq_true rfl⟩) rfl rfl rfl rfl (Nat.le_of_ble_eq_true rfl) dX10_doLine_228 rfl (fun r_29 v_30 H locs h hP hD hS => ?_)
    obtain ⟨u0_31, e_u0_31⟩ : ∃ z, z = s10_now u0 v_30 := ⟨_, rfl⟩
    have h := h u0_31 e_u0_31
    have hP : va_P (dC, dI) vwCl (cs10 cI q0 u0_31) H := by rw [e_u0_31]; exact hP
    have hD : va_D A (cs10 cI q0 u0_31) := by rw [e_u0_31]; exact hD
    exact hret _ _ _ _ _ u0_31 dX10_doLine_231 (zb_n h.1) h.2 hP hD hS
  have h := h.2 c8
  by_cases c9 : r_4 = 9
  · have h := h.1 c9
    refine lv_tableIn (tgt := 232) (off := 180) hx hb dX10_doLine_52 (by rw [c9]; decide) (by rw [c9]; decide) (by rw [c9]; rfl) (by decide) ?_
    refine lv_aload_n hx hb dX10_doLine_232 rfl (lv_at hl 3 rfl) ?_
    refine va_get (D := (dC, dI)) (ci := 10) (v := .ref (q0 1)) (C := RX10) (T := TX10) (N := 6) hx hb hts inX10_doLine_10 hown hK hP 0 rfl rfl 0 (by decide) (hts _ kX10_doLine_0) (fun _ h9 => h9) rfl dX10_doLine_233 ?_
    refine lv_iload_n hx hb dX10_doLine_236 rfl (lv_at hl 2 rfl) ?_
    refine lv_iload_n hx hb dX10_doLine_237 rfl (lv_at hl 1 rfl) ?_
    refine cx_vi (As := [.int r_1, .int r_2]) (rest := []) ⟨hx, hb, hml, hown, hts⟩ hl.1 ok_sxE hE hK hP hD hS hA (cut_76 cI q0 u0) (c_X9_rollBack (l := l) (dC := dC) (dI := dI) (cI := cI) (q0 := fun i => q0 (i + 1)) h) (cwV 2 hts gX10_doLine_X9_rollBack rfl rfl rfl hdX9_rollBack ⟨Nat.le_of_ble_eq_true rfl, Nat.le_of_ble_eq_true rfl⟩) rfl rfl rfl rfl (Nat.le_of_ble_eq_true rfl) dX10_doLine_238 rfl (fun r_32 v_33 H locs h hP hD hS => ?_)
    obtain ⟨u0_34, e_u0_34⟩ : ∃ z, z = s10_now u0 v_33 := ⟨_, rfl⟩
    have h := h u0_34 e_u0_34
    have hP : va_P (dC, dI) vwCl (cs10 cI q0 u0_34) H := by rw [e_u0_34]; exact hP
    have hD : va_D A (cs10 cI q0 u0_34) := by rw [e_u0_34]; exact hD
    refine lv_iconst (v := (-1)) hx hb dX10_doLine_241 (by decide) ?_
    refine lv_icmp_eq (tgt := 249) hx hb dX10_doLine_242 (by decide) (fun cd => ?_) (fun cd => ?_)
    · have h := h.1 cd
      refine lv_iconst (v := 0) hx hb dX10_doLine_249 (by decide) ?_
      exact hret _ _ _ _ _ u0_34 dX10_doLine_250 (by decide) h hP hD hS
    · have h := h.2 cd
      refine lv_iconst (v := 1) hx hb dX10_doLine_245 (by decide) ?_
      refine lv_goto (tgt := 250) hx hb dX10_doLine_246 (by decide) ?_
      exact hret _ _ _ _ _ u0_34 dX10_doLine_250 (by decide) h hP hD hS
  have h := h.2 c9
  by_cases c10 : r_4 = 10
  · have h := h.1 c10
    refine lv_tableIn (tgt := 251) (off := 199) hx hb dX10_doLine_52 (by rw [c10]; decide) (by rw [c10]; decide) (by rw [c10]; rfl) (by decide) ?_
    refine lv_aload_n hx hb dX10_doLine_251 rfl (lv_at hl 3 rfl) ?_
    refine va_get (D := (dC, dI)) (ci := 10) (v := .ref (q0 1)) (C := RX10) (T := TX10) (N := 6) hx hb hts inX10_doLine_10 hown hK hP 0 rfl rfl 0 (by decide) (hts _ kX10_doLine_0) (fun _ h9 => h9) rfl dX10_doLine_252 ?_
    refine lv_iconst (v := 0) hx hb dX10_doLine_255 (by decide) ?_
    refine cx_vi (As := [.int 0]) (rest := []) ⟨hx, hb, hml, hown, hts⟩ hl.1 ok_sxE hE hK hP hD hS hA (cut_76 cI q0 u0) (c_X9_flush (l := l) (dC := dC) (dI := dI) (cI := cI) (q0 := fun i => q0 (i + 1)) h) (cwV 1 hts gX10_doLine_X9_flush rfl rfl rfl hdX9_flush ⟨Nat.le_of_ble_eq_true rfl, Nat.le_of_ble_eq_true rfl⟩) rfl rfl rfl rfl (Nat.le_of_ble_eq_true rfl) dX10_doLine_256 rfl (fun r_35 v_36 H locs h hP hD hS => ?_)
    obtain ⟨u0_37, e_u0_37⟩ : ∃ z, z = s10_now u0 v_36 := ⟨_, rfl⟩
    have h := h u0_37 e_u0_37
    have hP : va_P (dC, dI) vwCl (cs10 cI q0 u0_37) H := by rw [e_u0_37]; exact hP
    have hD : va_D A (cs10 cI q0 u0_37) := by rw [e_u0_37]; exact hD
    exact hret _ _ _ _ _ u0_37 dX10_doLine_259 (zb_n h.1) h.2 hP hD hS
  have h := h.2 c10
  by_cases c11 : r_4 = 11
  · have h := h.1 c11
    refine lv_tableIn (tgt := 260) (off := 208) hx hb dX10_doLine_52 (by rw [c11]; decide) (by rw [c11]; decide) (by rw [c11]; rfl) (by decide) ?_
    refine lv_aload_n hx hb dX10_doLine_260 rfl (lv_at hl 3 rfl) ?_
    refine va_get (D := (dC, dI)) (ci := 10) (v := .ref (q0 1)) (C := RX10) (T := TX10) (N := 6) hx hb hts inX10_doLine_10 hown hK hP 0 rfl rfl 0 (by decide) (hts _ kX10_doLine_0) (fun _ h9 => h9) rfl dX10_doLine_261 ?_
    refine lv_iload_n hx hb dX10_doLine_264 rfl (lv_at hl 1 rfl) ?_
    refine cx_vi (As := [.int r_2]) (rest := []) ⟨hx, hb, hml, hown, hts⟩ hl.1 ok_sxE hE hK hP hD hS hA (cut_76 cI q0 u0) (c_X9_writePage (l := l) (dC := dC) (dI := dI) (cI := cI) (q0 := fun i => q0 (i + 1)) h) (cwV 1 hts gX10_doLine_X9_writePage rfl rfl rfl hdX9_writePage ⟨Nat.le_of_ble_eq_true rfl, Nat.le_of_ble_eq_true rfl⟩) rfl rfl rfl rfl (Nat.le_of_ble_eq_true rfl) dX10_doLine_265 rfl (fun r_38 v_39 H locs h hP hD hS => ?_)
    obtain ⟨u0_40, e_u0_40⟩ : ∃ z, z = s10_now u0 v_39 := ⟨_, rfl⟩
    have h := h u0_40 e_u0_40
    have hP : va_P (dC, dI) vwCl (cs10 cI q0 u0_40) H := by rw [e_u0_40]; exact hP
    have hD : va_D A (cs10 cI q0 u0_40) := by rw [e_u0_40]; exact hD
    exact hret _ _ _ _ _ u0_40 dX10_doLine_268 (zb_n h.1) h.2 hP hD hS
  have h := h.2 c11
  by_cases c12 : r_4 = 12
  · have h := h.1 c12
    refine lv_tableIn (tgt := 269) (off := 217) hx hb dX10_doLine_52 (by rw [c12]; decide) (by rw [c12]; decide) (by rw [c12]; rfl) (by decide) ?_
    refine lv_aload_n hx hb dX10_doLine_269 rfl (lv_at hl 3 rfl) ?_
    refine va_get (D := (dC, dI)) (ci := 10) (v := .ref (q0 1)) (C := RX10) (T := TX10) (N := 6) hx hb hts inX10_doLine_10 hown hK hP 0 rfl rfl 0 (by decide) (hts _ kX10_doLine_0) (fun _ h9 => h9) rfl dX10_doLine_270 ?_
    refine cx_vi (As := []) (rest := []) ⟨hx, hb, hml, hown, hts⟩ hl.1 ok_sxE hE hK hP hD hS hA (cut_76 cI q0 u0) (c_X9_checkBegins (l := l) (dC := dC) (dI := dI) (cI := cI) (q0 := fun i => q0 (i + 1)) h) (cwV 0 hts gX10_doLine_X9_checkBegins rfl rfl rfl hdX9_checkBegins ⟨Nat.le_of_ble_eq_true rfl, Nat.le_of_ble_eq_true rfl⟩) rfl rfl rfl rfl (Nat.le_of_ble_eq_true rfl) dX10_doLine_273 rfl (fun r_41 v_42 H locs h hP hD hS => ?_)
    obtain ⟨u0_43, e_u0_43⟩ : ∃ z, z = s10_now u0 v_42 := ⟨_, rfl⟩
    have h := h u0_43 e_u0_43
    have hP : va_P (dC, dI) vwCl (cs10 cI q0 u0_43) H := by rw [e_u0_43]; exact hP
    have hD : va_D A (cs10 cI q0 u0_43) := by rw [e_u0_43]; exact hD
    exact hret _ _ _ _ _ u0_43 dX10_doLine_276 (zb_n h.1) h.2 hP hD hS
  have h := h.2 c12
  by_cases c13 : r_4 = 13
  · have h := h.1 c13
    refine lv_tableIn (tgt := 277) (off := 225) hx hb dX10_doLine_52 (by rw [c13]; decide) (by rw [c13]; decide) (by rw [c13]; rfl) (by decide) ?_
    refine lv_aload_n hx hb dX10_doLine_277 rfl (lv_at hl 3 rfl) ?_
    refine va_get (D := (dC, dI)) (ci := 10) (v := .ref (q0 1)) (C := RX10) (T := TX10) (N := 6) hx hb hts inX10_doLine_10 hown hK hP 0 rfl rfl 0 (by decide) (hts _ kX10_doLine_0) (fun _ h9 => h9) rfl dX10_doLine_278 ?_
    refine cx_vi (As := []) (rest := []) ⟨hx, hb, hml, hown, hts⟩ hl.1 ok_sxE hE hK hP hD hS hA (cut_76 cI q0 u0) (c_X9_checkEnds (l := l) (dC := dC) (dI := dI) (cI := cI) (q0 := fun i => q0 (i + 1)) h) (cwV 0 hts gX10_doLine_X9_checkEnds rfl rfl rfl hdX9_checkEnds ⟨Nat.le_of_ble_eq_true rfl, Nat.le_of_ble_eq_true rfl⟩) rfl rfl rfl rfl (Nat.le_of_ble_eq_true rfl) dX10_doLine_281 rfl (fun r_44 v_45 H locs h hP hD hS => ?_)
    obtain ⟨u0_46, e_u0_46⟩ : ∃ z, z = s10_now u0 v_45 := ⟨_, rfl⟩
    have h := h u0_46 e_u0_46
    have hP : va_P (dC, dI) vwCl (cs10 cI q0 u0_46) H := by rw [e_u0_46]; exact hP
    have hD : va_D A (cs10 cI q0 u0_46) := by rw [e_u0_46]; exact hD
    exact hret _ _ _ _ _ u0_46 dX10_doLine_284 (zb_n h.1) h.2 hP hD hS
  have h := h.2 c13
  refine lv_tableOut (tgt := 285) hx hb dX10_doLine_52 (by have z0 := lv_neT (a := 0) c0 (by decide); have z1 := lv_neT (a := 1) c1 (by decide); have z2 := lv_neT (a := 2) c2 (by decide); have z3 := lv_neT (a := 3) c3 (by decide); have z4 := lv_neT (a := 4) c4 (by decide); have z5 := lv_neT (a := 5) c5 (by decide); have z6 := lv_neT (a := 6) c6 (by decide); have z7 := lv_neT (a := 7) c7 (by decide); have z8 := lv_neT (a := 8) c8 (by decide); have z9 := lv_neT (a := 9) c9 (by decide); have z10 := lv_neT (a := 10) c10 (by decide); have z11 := lv_neT (a := 11) c11 (by decide); have z12 := lv_neT (a := 12) c12 (by decide); have z13 := lv_neT (a := 13) c13 (by decide); omega) (by decide) ?_
  refine lv_iconst (v := 0) hx hb dX10_doLine_285 (by decide) ?_
  exact hret _ _ _ _ _ u0 dX10_doLine_286 (by decide) h hP hD hS

set_option maxRecDepth 100000 in
theorem cut_81 (cI : ClassId) (q0 : Nat → Nat) (u0 : S10) : Cut (cs10 cI q0 u0) (cs10 cI q0 u0) (fun v : S10 => cs10 cI q0 v) (fun v : S10 => cs10 cI q0 v) := ⟨[0, 1, 2, 3, 4, 5, 6, 7, 8, 9, 10, 11, 12, 13, 14, 15, 16, 17, 18, 19, 20, 21, 22, 23, 24, 25, 26, 27, 28, 29, 30, 31, 32, 33, 34, 35, 36, 37, 38, 39, 40, 41], [], rfl, rfl, rfl, by decide, by decide, fun v => ⟨[0, 1, 2, 3, 4, 5, 6, 7, 8, 9, 10, 11, 12, 13, 14, 15, 16, 17, 18, 19, 20, 21, 22, 23, 24, 25, 26, 27, 28, 29, 30, 31, 32, 33, 34, 35, 36, 37, 38, 39, 40, 41], rfl, rfl⟩⟩

abbrev rX10_run : Room := { frames := 7, cells := 0, slots := 0, locals := 164 }
theorem hdX10_run : yX10_run.cls = RX10 ∧ yX10_run.cls ≠ "java/lang/invoke/MethodHandle" ∧ yX10_run.cls ≠ "java/lang/invoke/VarHandle" ∧ (parseMethodDescriptor yX10_run.desc).map (fun d => d.parameters.length) = some 1 := by decide +kernel
theorem inX10_run_10 : ∀ w ∈ wsX100, w ∈ wsX10_run := by decide +kernel
theorem inX10_run_6 : ∀ w ∈ wsX60, w ∈ wsX10_run := by decide +kernel
theorem inX10_run_9 : ∀ w ∈ wsX90, w ∈ wsX10_run := by decide +kernel
theorem kX10_run_0 : Cond.fieldLink RX10 144 "AheadStore$Script" "ran" "I" ∈ wsX10_run := by decide +kernel
theorem kX10_run_1 : Cond.fieldLink RX10 124 "AheadStore$World" "script" "LAheadStore$Script;" ∈ wsX10_run := by decide +kernel
theorem kX10_run_2 : Cond.fieldLink RX10 10 "AheadStore" "now" "LAheadStore$World;" ∈ wsX10_run := by decide +kernel
theorem kX10_run_3 : Cond.fieldLink RX10 137 "AheadStore$Script" "size" "I" ∈ wsX10_run := by decide +kernel
theorem kX10_run_4 : Cond.fieldLink RX10 37 "AheadStore$World" "up" "Z" ∈ wsX10_run := by decide +kernel
set_option maxHeartbeats 4000000 in
set_option maxRecDepth 100000 in
theorem c_X10_run {l : Launch} {dC : Nat → ClassId} {dI : Nat → Nat → Nat} {cI : ClassId} {q0 : Nat → Nat} {sz : Nat} {u0 : S10} {x1 : Int32} {Q : Int32 → S10 → Prop} (h : wp_X10_run u0 x1 Q) : ctI sxE l yX10_run wsX10_run rX10_run (dC, dI) vwCl [(cI, .int)] [.ref (q0 0), .int x1] (cs10 cI q0 u0) sz (fun (r : Int32) (v : S10) => Q r v) (fun (v : S10) => cs10 cI q0 v) := by
  refine mx_i (cc := cX10_run) (maxL := 5) (ty := .int) (by decide) rfl (Nat.le_of_ble_eq_true rfl) ?_
  intro p e s m below meth c Z A ls args hx hb hml hown hts hA hP hK hD hE hl hret
  have hown : s.vm.findClass RX10 = some m.cls := hown
  have hl : lv_has ls 5 [(0, .ref (q0 0)), (1, .int x1)] := hl
  have w_95 : ∀ (k_27 : Int32 → Int32 → Int32 → S10 → Prop) (hk_27 : ∀ (x1 : Int32) (x2 : Int32) (x3 : Int32) (u0 : S10) (H : Heap) (locs : List Loc) (ls : Array Slot) (_ : va_P (dC, dI) vwCl (cs10 cI q0 u0) H) (_ : va_D A (cs10 cI q0 u0)) (_ : va_S A s.heap H locs) (_ : lv_has ls 5 [(0, .ref (q0 0)), (1, .int x1), (2, .int x2), (3, .int x3)]) (_ : k_27 x1 x2 x3 u0), W p l e rX10_run s m args below meth c H locs 0 0 Z (F0 m 27 ls [])) (x1 : Int32) (x2 : Int32) (x3 : Int32) (u0 : S10) (H : Heap) (locs : List Loc) (ls : Array Slot) (_ : va_P (dC, dI) vwCl (cs10 cI q0 u0) H) (_ : va_D A (cs10 cI q0 u0)) (_ : va_S A s.heap H locs) (_ : lv_has ls 5 [(0, .ref (q0 0)), (1, .int x1), (2, .int x2), (3, .int x3)]) (_ : wp_X10_run_95 k_27 Q x1 x2 x3 u0), W p l e rX10_run s m args below meth c H locs 0 0 Z (F0 m 95 ls []) := by
    intro k_27 hk_27 x1 x2 x3 u0 H locs ls hP hD hS hl h
    obtain ⟨x3_1, e_x3_1⟩ : ∃ z : Int32, z = x3 + 1 := ⟨_, rfl⟩
    have h := h x3_1 e_x3_1
    refine lv_iinc (v := x3_1) (lv' := [(3, .int x3_1), (0, .ref (q0 0)), (1, .int x1), (2, .int x2)]) hx hb dX10_run_95 hl (k := 3) rfl (by rw [e_x3_1]; rfl) (by decide) rfl (fun ls hl => ?_)
    refine lv_goto (tgt := 27) hx hb dX10_run_98 (by decide) ?_
    exact hk_27 x1 x2 x3_1 u0 _ _ _ hP hD hS (lv_sub hl [1, 2, 3, 0] rfl) h
  have w_27 : ∀ (n : Nat) (x1 : Int32) (x2 : Int32) (x3 : Int32) (u0 : S10) (H : Heap) (locs : List Loc) (ls : Array Slot) (_ : va_P (dC, dI) vwCl (cs10 cI q0 u0) H) (_ : va_D A (cs10 cI q0 u0)) (_ : va_S A s.heap H locs) (_ : lv_has ls 5 [(0, .ref (q0 0)), (1, .int x1), (2, .int x2), (3, .int x3)]) (_ : wp_X10_run_27 Q n x1 x2 x3 u0), W p l e rX10_run s m args below meth c H locs 0 0 Z (F0 m 27 ls []) := by
    intro n
    induction n with
    | zero => intro x1 x2 x3 u0 H locs ls hP hD hS hl h; exact False.elim h
    | succ n ih =>
      intro x1 x2 x3 u0 H locs ls hP hD hS hl h
      refine lv_iload_n hx hb dX10_run_27 rfl (lv_at hl 3 rfl) ?_
      refine lv_iload_n hx hb dX10_run_28 rfl (lv_at hl 1 rfl) ?_
      refine lv_icmp_ge (tgt := 101) hx hb dX10_run_29 (by decide) (fun cd => ?_) (fun cd => ?_)
      · have h := h.1 cd
        refine lv_iload_n hx hb dX10_run_101 rfl (lv_at hl 2 rfl) ?_
        exact hret _ _ _ _ _ u0 dX10_run_102 (vp_nar_int _) h hP hD hS
      · have h := h.2 cd
        refine lv_aload_n hx hb dX10_run_32 rfl (lv_at hl 0 rfl) ?_
        refine va_get (D := (dC, dI)) (ci := 10) (v := .ref (q0 1)) (C := RX10) (T := TX10) (N := 6) hx hb hts inX10_run_10 hown hK hP 0 rfl rfl 0 (by decide) (hts _ kX10_run_2) (fun _ h9 => h9) rfl dX10_run_33 ?_
        refine va_get (D := (dC, dI)) (ci := 9) (v := .ref (q0 29)) (C := RX9) (T := TX9) (N := 11) hx hb hts inX10_run_9 hown hK hP 1 rfl rfl 5 (by decide) (hts _ kX10_run_1) (fun _ h9 => h9) rfl dX10_run_36 ?_
        refine va_get (D := (dC, dI)) (ci := 6) (v := .int (g6_ran (g9_script (g10_now u0)))) (C := RX6) (T := TX6) (N := 3) hx hb hts inX10_run_6 hown hK hP 29 rfl rfl 2 (by decide) (hts _ kX10_run_0) (fun _ h9 => h9) rfl dX10_run_39 ?_
        refine lv_aload_n hx hb dX10_run_42 rfl (lv_at hl 0 rfl) ?_
        refine va_get (D := (dC, dI)) (ci := 10) (v := .ref (q0 1)) (C := RX10) (T := TX10) (N := 6) hx hb hts inX10_run_10 hown hK hP 0 rfl rfl 0 (by decide) (hts _ kX10_run_2) (fun _ h9 => h9) rfl dX10_run_43 ?_
        refine va_get (D := (dC, dI)) (ci := 9) (v := .ref (q0 29)) (C := RX9) (T := TX9) (N := 11) hx hb hts inX10_run_9 hown hK hP 1 rfl rfl 5 (by decide) (hts _ kX10_run_1) (fun _ h9 => h9) rfl dX10_run_46 ?_
        refine va_get (D := (dC, dI)) (ci := 6) (v := .int (g6_size (g9_script (g10_now u0)))) (C := RX6) (T := TX6) (N := 3) hx hb hts inX10_run_6 hown hK hP 29 rfl rfl 1 (by decide) (hts _ kX10_run_3) (fun _ h9 => h9) rfl dX10_run_49 ?_
        refine lv_icmp_ge (tgt := 101) hx hb dX10_run_52 (by decide) (fun cd => ?_) (fun cd => ?_)
        · have h := h.1 cd
          refine lv_iload_n hx hb dX10_run_101 rfl (lv_at hl 2 rfl) ?_
          exact hret _ _ _ _ _ u0 dX10_run_102 (vp_nar_int _) h hP hD hS
        · have h := h.2 cd
          refine lv_aload_n hx hb dX10_run_55 rfl (lv_at hl 0 rfl) ?_
          refine va_get (D := (dC, dI)) (ci := 10) (v := .ref (q0 1)) (C := RX10) (T := TX10) (N := 6) hx hb hts inX10_run_10 hown hK hP 0 rfl rfl 0 (by decide) (hts _ kX10_run_2) (fun _ h9 => h9) rfl dX10_run_56 ?_
          refine va_get (D := (dC, dI)) (ci := 9) (v := .ref (q0 29)) (C := RX9) (T := TX9) (N := 11) hx hb hts inX10_run_9 hown hK hP 1 rfl rfl 5 (by decide) (hts _ kX10_run_1) (fun _ h9 => h9) rfl dX10_run_59 ?_
          refine va_get (D := (dC, dI)) (ci := 6) (v := .int (g6_ran (g9_script (g10_now u0)))) (C := RX6) (T := TX6) (N := 3) hx hb hts inX10_run_6 hown hK hP 29 rfl rfl 2 (by decide) (hts _ kX10_run_0) (fun _ h9 => h9) rfl dX10_run_62 ?_
          refine lv_topi (fun x4_2 e_x4_2 => ?_)
          have h := h x4_2 e_x4_2
          refine lv_istore (lv' := [(4, .int x4_2), (0, .ref (q0 0)), (1, .int x1), (2, .int x2), (3, .int x3)]) hx hb dX10_run_65 hl (by decide) rfl (fun ls hl => ?_)
          refine lv_aload_n hx hb dX10_run_67 rfl (lv_at hl 1 rfl) ?_
          refine va_get (D := (dC, dI)) (ci := 10) (v := .ref (q0 1)) (C := RX10) (T := TX10) (N := 6) hx hb hts inX10_run_10 hown hK hP 0 rfl rfl 0 (by decide) (hts _ kX10_run_2) (fun _ h9 => h9) rfl dX10_run_68 ?_
          refine va_get (D := (dC, dI)) (ci := 9) (v := .ref (q0 29)) (C := RX9) (T := TX9) (N := 11) hx hb hts inX10_run_9 hown hK hP 1 rfl rfl 5 (by decide) (hts _ kX10_run_1) (fun _ h9 => h9) rfl dX10_run_71 ?_
          refine lv_dup hx hb dX10_run_74 rfl ?_
          refine va_get (D := (dC, dI)) (ci := 6) (v := .int (g6_ran (g9_script (g10_now u0)))) (C := RX6) (T := TX6) (N := 3) hx hb hts inX10_run_6 hown hK hP 29 rfl rfl 2 (by decide) (hts _ kX10_run_0) (fun _ h9 => h9) rfl dX10_run_75 ?_
          refine lv_iconst (v := 1) hx hb dX10_run_78 (by decide) ?_
          refine lv_iadd hx hb dX10_run_79 ?_
          refine va_put (D := (dC, dI)) (ci := 6) (v := .int ((g6_ran (g9_script (g10_now u0))) + 1)) (ty := .int) (C := RX6) (T := TX6) (N := 3) hx hb hts inX10_run_6 tyX6 tyX6_ok nmX6 hown hK hP hD hS 29 rfl rfl 2 (by decide) (hts _ kX10_run_0) (fun _ h9 => h9) rfl (tyX6_ok 2 (by decide)) rfl rfl (Nat.le_of_ble_eq_true rfl) dX10_run_80 (fun H locs hP hD hS => ?_)
          obtain ⟨u0_3, e_u0_3⟩ : ∃ z, z = s10_now u0 (s9_script (g10_now u0) (s6_ran (g9_script (g10_now u0)) ((g6_ran (g9_script (g10_now u0))) + 1))) := ⟨_, rfl⟩
          have h := h u0_3 e_u0_3
          have hP : va_P (dC, dI) vwCl (cs10 cI q0 u0_3) H := by rw [e_u0_3]; exact hP
          have hD : va_D A (cs10 cI q0 u0_3) := by rw [e_u0_3]; exact hD
          refine lv_aload_n hx hb dX10_run_83 rfl (lv_at hl 1 rfl) ?_
          refine lv_iload hx hb dX10_run_84 (lv_at hl 0 rfl) ?_
          refine cx_vi (As := [.int x4_2]) (rest := []) ⟨hx, hb, hml, hown, hts⟩ hl.1 ok_sxE hE hK hP hD hS hA (cut_81 cI q0 u0_3) (c_X10_doLine (l := l) (dC := dC) (dI := dI) (cI := cI) (q0 := q0) h) (cwV 1 hts gX10_run_X10_doLine rfl rfl rfl hdX10_doLine ⟨Nat.le_of_ble_eq_true rfl, Nat.le_of_ble_eq_true rfl⟩) rfl rfl rfl rfl (Nat.le_of_ble_eq_true rfl) dX10_run_86 rfl (fun r_4 v_5 H locs h hP hD hS => ?_)
          have hP : va_P (dC, dI) vwCl (cs10 cI q0 v_5) H :=  hP
          have hD : va_D A (cs10 cI q0 v_5) :=  hD
          refine lv_if_eq (tgt := 95) hx hb dX10_run_89 (by decide) (fun cd => ?_) (fun cd => ?_)
          · have h := h.1 cd
            exact w_95 (fun x1 x2 x3 u0 => wp_X10_run_27 Q n x1 x2 x3 u0) (fun x1 x2 x3 u0 H locs ls hP hD hS hl h => ih x1 x2 x3 u0 H locs ls hP hD hS hl h) x1 x2 x3 v_5 _ _ _ hP hD hS (lv_sub hl [1, 2, 3, 4] rfl) h
          · have h := h.2 cd
            obtain ⟨x2_6, e_x2_6⟩ : ∃ z : Int32, z = x2 + 1 := ⟨_, rfl⟩
            have h := h x2_6 e_x2_6
            refine lv_iinc (v := x2_6) (lv' := [(2, .int x2_6), (4, .int x4_2), (0, .ref (q0 0)), (1, .int x1), (3, .int x3)]) hx hb dX10_run_92 hl (k := 3) rfl (by rw [e_x2_6]; rfl) (by decide) rfl (fun ls hl => ?_)
            exact w_95 (fun x1 x2 x3 u0 => wp_X10_run_27 Q n x1 x2 x3 u0) (fun x1 x2 x3 u0 H locs ls hP hD hS hl h => ih x1 x2 x3 u0 H locs ls hP hD hS hl h) x1 x2_6 x3 v_5 _ _ _ hP hD hS (lv_sub hl [2, 3, 0, 4] rfl) h
  have hS : va_S A s.heap s.heap [] := va_S.rf
  refine lv_aload_n hx hb dX10_run_0 rfl (lv_at hl 0 rfl) ?_
  refine va_get (D := (dC, dI)) (ci := 10) (v := .ref (q0 1)) (C := RX10) (T := TX10) (N := 6) hx hb hts inX10_run_10 hown hK hP 0 rfl rfl 0 (by decide) (hts _ kX10_run_2) (fun _ h9 => h9) rfl dX10_run_1 ?_
  refine va_get (D := (dC, dI)) (ci := 9) (v := .int (g9_up (g10_now u0))) (C := RX9) (T := TX9) (N := 11) hx hb hts inX10_run_9 hown hK hP 1 rfl rfl 6 (by decide) (hts _ kX10_run_4) (fun _ h9 => h9) rfl dX10_run_4 ?_
  refine lv_if_eq (tgt := 21) hx hb dX10_run_7 (by decide) (fun cd => ?_) (fun cd => ?_)
  · have h := h.1 cd
    refine lv_iconst (v := (-1)) hx hb dX10_run_21 (by decide) ?_
    exact hret _ _ _ _ _ u0 dX10_run_22 (vp_nar_int _) h hP hD hS
  · have h := h.2 cd
    refine lv_iload_n hx hb dX10_run_10 rfl (lv_at hl 1 rfl) ?_
    refine lv_iconst (v := 1) hx hb dX10_run_11 (by decide) ?_
    refine lv_icmp_lt (tgt := 21) hx hb dX10_run_12 (by decide) (fun cd => ?_) (fun cd => ?_)
    · have h := h.1 cd
      refine lv_iconst (v := (-1)) hx hb dX10_run_21 (by decide) ?_
      exact hret _ _ _ _ _ u0 dX10_run_22 (vp_nar_int _) h hP hD hS
    · have h := h.2 cd
      refine lv_iload_n hx hb dX10_run_15 rfl (lv_at hl 1 rfl) ?_
      refine lv_bipush (v := 24) hx hb dX10_run_16 (by decide) ?_
      refine lv_icmp_le (tgt := 23) hx hb dX10_run_18 (by decide) (fun cd => ?_) (fun cd => ?_)
      · have h := h.1 cd
        refine lv_iconst (v := 0) hx hb dX10_run_23 (by decide) ?_
        refine lv_istore_n (lv' := [(2, .int 0), (0, .ref (q0 0)), (1, .int x1)]) hx hb dX10_run_24 rfl hl (by decide) rfl (fun ls hl => ?_)
        refine lv_iconst (v := 0) hx hb dX10_run_25 (by decide) ?_
        refine lv_istore_n (lv' := [(3, .int 0), (2, .int 0), (0, .ref (q0 0)), (1, .int x1)]) hx hb dX10_run_26 rfl hl (by decide) rfl (fun ls hl => ?_)
        obtain ⟨n0, h⟩ := h
        exact w_27 n0 x1 0 0 u0 _ _ _ hP hD hS (lv_sub hl [2, 3, 1, 0] rfl) h
      · have h := h.2 cd
        refine lv_iconst (v := (-1)) hx hb dX10_run_21 (by decide) ?_
        exact hret _ _ _ _ _ u0 dX10_run_22 (vp_nar_int _) h hP hD hS

abbrev rX10_at : Room := { frames := 2, cells := 0, slots := 0, locals := 44 }
theorem hdX10_at : yX10_at.cls = RX10 ∧ yX10_at.cls ≠ "java/lang/invoke/MethodHandle" ∧ yX10_at.cls ≠ "java/lang/invoke/VarHandle" ∧ (parseMethodDescriptor yX10_at.desc).map (fun d => d.parameters.length) = some 2 := by decide +kernel
theorem inX10_at_0 : ∀ w ∈ wsX00, w ∈ wsX10_at := by decide +kernel
theorem inX10_at_10 : ∀ w ∈ wsX100, w ∈ wsX10_at := by decide +kernel
theorem inX10_at_3 : ∀ w ∈ wsX30, w ∈ wsX10_at := by decide +kernel
theorem inX10_at_9 : ∀ w ∈ wsX90, w ∈ wsX10_at := by decide +kernel
theorem kX10_at_0 : Cond.fieldLink RX10 41 "AheadStore$World" "pages" "LAheadStore$Pages;" ∈ wsX10_at := by decide +kernel
theorem kX10_at_1 : Cond.fieldLink RX10 10 "AheadStore" "now" "LAheadStore$World;" ∈ wsX10_at := by decide +kernel
theorem kX10_at_2 : Cond.fieldLink RX10 156 "AheadStore$Pages" "disk" "[I" ∈ wsX10_at := by decide +kernel
theorem kX10_at_3 : Cond.fieldLink RX10 164 "AheadStore$Claims" "wrote" "[I" ∈ wsX10_at := by decide +kernel
theorem kX10_at_4 : Cond.fieldLink RX10 160 "AheadStore$World" "claims" "LAheadStore$Claims;" ∈ wsX10_at := by decide +kernel
theorem kX10_at_5 : Cond.fieldLink RX10 169 "AheadStore$Claims" "added" "[I" ∈ wsX10_at := by decide +kernel
set_option maxHeartbeats 4000000 in
set_option maxRecDepth 100000 in
theorem c_X10_at {l : Launch} {dC : Nat → ClassId} {dI : Nat → Nat → Nat} {cI : ClassId} {q0 : Nat → Nat} {sz : Nat} {u0 : S10} {x1 : Int32} {x2 : Int32} {Q : Int32 → Prop} (h : wp_X10_at u0 x1 x2 Q) : ctI sxE l yX10_at wsX10_at rX10_at (dC, dI) vwCl [(cI, .int)] [.ref (q0 0), .int x1, .int x2] (cs10 cI q0 u0) sz (fun (r : Int32) (_ : Unit) => Q r) (fun (_ : Unit) => cs10 cI q0 u0) := by
  refine mx_i (cc := cX10_at) (maxL := 3) (ty := .int) (by decide) rfl (Nat.le_of_ble_eq_true rfl) ?_
  intro p e s m below meth c Z A ls args hx hb hml hown hts hA hP hK hD hE hl hret
  have hown : s.vm.findClass RX10 = some m.cls := hown
  have hl : lv_has ls 3 [(0, .ref (q0 0)), (1, .int x1), (2, .int x2)] := hl
  have hS : va_S A s.heap s.heap [] := va_S.rf
  refine lv_iload_n hx hb dX10_at_0 rfl (lv_at hl 1 rfl) ?_
  refine lv_if_lt (tgt := 11) hx hb dX10_at_1 (by decide) (fun cd => ?_) (fun cd => ?_)
  · have h := h.1 cd
    refine lv_iconst (v := (-1)) hx hb dX10_at_11 (by decide) ?_
    exact hret _ _ _ _ _ () dX10_at_12 (vp_nar_int _) h hP hD hS
  · have h := h.2 cd
    refine lv_iload_n hx hb dX10_at_4 rfl (lv_at hl 1 rfl) ?_
    refine lv_sipush (v := 256) hx hb dX10_at_5 (by decide) ?_
    refine lv_icmp_lt (tgt := 13) hx hb dX10_at_8 (by decide) (fun cd => ?_) (fun cd => ?_)
    · have h := h.1 cd
      refine lv_iload_n hx hb dX10_at_13 rfl (lv_at hl 2 rfl) ?_
      by_cases c0 : x2 = 0
      · have h := h.1 c0
        refine lv_tableIn (tgt := 44) (off := 30) hx hb dX10_at_14 (by rw [c0]; decide) (by rw [c0]; decide) (by rw [c0]; rfl) (by decide) ?_
        refine lv_aload_n hx hb dX10_at_44 rfl (lv_at hl 0 rfl) ?_
        refine va_get (D := (dC, dI)) (ci := 10) (v := .ref (q0 1)) (C := RX10) (T := TX10) (N := 6) hx hb hts inX10_at_10 hown hK hP 0 rfl rfl 0 (by decide) (hts _ kX10_at_1) (fun _ h9 => h9) rfl dX10_at_45 ?_
        refine va_get (D := (dC, dI)) (ci := 9) (v := .ref (q0 4)) (C := RX9) (T := TX9) (N := 11) hx hb hts inX10_at_9 hown hK hP 1 rfl rfl 1 (by decide) (hts _ kX10_at_0) (fun _ h9 => h9) rfl dX10_at_48 ?_
        refine lv_iload_n hx hb dX10_at_51 rfl (lv_at hl 1 rfl) ?_
        refine cx_vi (As := [.int x1]) (rest := []) ⟨hx, hb, hml, hown, hts⟩ hl.1 ok_sxE hE hK hP hD hS hA (cut_75 cI q0 u0) (c_X3_byteNow (l := l) (dC := dC) (dI := dI) (cI := cI) (q0 := fun i => q0 (i + 4)) h) (cwV 1 hts gX10_at_X3_byteNow rfl rfl rfl hdX3_byteNow ⟨Nat.le_of_ble_eq_true rfl, Nat.le_of_ble_eq_true rfl⟩) rfl rfl rfl rfl (Nat.le_of_ble_eq_true rfl) dX10_at_52 rfl (fun r_1 _ H locs h hP hD hS => ?_)
        exact hret _ _ _ _ _ () dX10_at_55 (vp_nar_int _) h hP hD hS
      have h := h.2 c0
      by_cases c1 : x2 = 1
      · have h := h.1 c1
        refine lv_tableIn (tgt := 56) (off := 42) hx hb dX10_at_14 (by rw [c1]; decide) (by rw [c1]; decide) (by rw [c1]; rfl) (by decide) ?_
        refine lv_aload_n hx hb dX10_at_56 rfl (lv_at hl 0 rfl) ?_
        refine va_get (D := (dC, dI)) (ci := 10) (v := .ref (q0 1)) (C := RX10) (T := TX10) (N := 6) hx hb hts inX10_at_10 hown hK hP 0 rfl rfl 0 (by decide) (hts _ kX10_at_1) (fun _ h9 => h9) rfl dX10_at_57 ?_
        refine va_get (D := (dC, dI)) (ci := 9) (v := .ref (q0 4)) (C := RX9) (T := TX9) (N := 11) hx hb hts inX10_at_9 hown hK hP 1 rfl rfl 1 (by decide) (hts _ kX10_at_0) (fun _ h9 => h9) rfl dX10_at_60 ?_
        refine va_get (D := (dC, dI)) (ci := 3) (v := .ref (q0 5)) (C := RX3) (T := TX3) (N := 12) hx hb hts inX10_at_3 hown hK hP 4 rfl rfl 0 (by decide) (hts _ kX10_at_2) (fun _ h9 => h9) rfl dX10_at_63 ?_
        refine lv_iload_n hx hb dX10_at_66 rfl (lv_at hl 1 rfl) ?_
        refine va_iald hx hb hK hP 5 0 rfl rfl h.1 dX10_at_67 ?_
        have h := h.2
        exact hret _ _ _ _ _ () dX10_at_68 (vp_nar_int _) h hP hD hS
      have h := h.2 c1
      by_cases c2 : x2 = 2
      · have h := h.1 c2
        refine lv_tableIn (tgt := 69) (off := 55) hx hb dX10_at_14 (by rw [c2]; decide) (by rw [c2]; decide) (by rw [c2]; rfl) (by decide) ?_
        refine lv_aload_n hx hb dX10_at_69 rfl (lv_at hl 0 rfl) ?_
        refine va_get (D := (dC, dI)) (ci := 10) (v := .ref (q0 1)) (C := RX10) (T := TX10) (N := 6) hx hb hts inX10_at_10 hown hK hP 0 rfl rfl 0 (by decide) (hts _ kX10_at_1) (fun _ h9 => h9) rfl dX10_at_70 ?_
        refine va_get (D := (dC, dI)) (ci := 9) (v := .ref (q0 18)) (C := RX9) (T := TX9) (N := 11) hx hb hts inX10_at_9 hown hK hP 1 rfl rfl 3 (by decide) (hts _ kX10_at_4) (fun _ h9 => h9) rfl dX10_at_73 ?_
        refine va_get (D := (dC, dI)) (ci := 0) (v := .ref (q0 19)) (C := RX0) (T := TX0) (N := 7) hx hb hts inX10_at_0 hown hK hP 18 rfl rfl 0 (by decide) (hts _ kX10_at_3) (fun _ h9 => h9) rfl dX10_at_76 ?_
        refine lv_iload_n hx hb dX10_at_79 rfl (lv_at hl 1 rfl) ?_
        refine va_iald hx hb hK hP 19 0 rfl rfl h.1 dX10_at_80 ?_
        have h := h.2
        exact hret _ _ _ _ _ () dX10_at_81 (vp_nar_int _) h hP hD hS
      have h := h.2 c2
      by_cases c3 : x2 = 3
      · have h := h.1 c3
        refine lv_tableIn (tgt := 82) (off := 68) hx hb dX10_at_14 (by rw [c3]; decide) (by rw [c3]; decide) (by rw [c3]; rfl) (by decide) ?_
        refine lv_aload_n hx hb dX10_at_82 rfl (lv_at hl 0 rfl) ?_
        refine va_get (D := (dC, dI)) (ci := 10) (v := .ref (q0 1)) (C := RX10) (T := TX10) (N := 6) hx hb hts inX10_at_10 hown hK hP 0 rfl rfl 0 (by decide) (hts _ kX10_at_1) (fun _ h9 => h9) rfl dX10_at_83 ?_
        refine va_get (D := (dC, dI)) (ci := 9) (v := .ref (q0 18)) (C := RX9) (T := TX9) (N := 11) hx hb hts inX10_at_9 hown hK hP 1 rfl rfl 3 (by decide) (hts _ kX10_at_4) (fun _ h9 => h9) rfl dX10_at_86 ?_
        refine va_get (D := (dC, dI)) (ci := 0) (v := .ref (q0 20)) (C := RX0) (T := TX0) (N := 7) hx hb hts inX10_at_0 hown hK hP 18 rfl rfl 1 (by decide) (hts _ kX10_at_5) (fun _ h9 => h9) rfl dX10_at_89 ?_
        refine lv_iload_n hx hb dX10_at_92 rfl (lv_at hl 1 rfl) ?_
        refine va_iald hx hb hK hP 20 0 rfl rfl h.1 dX10_at_93 ?_
        have h := h.2
        exact hret _ _ _ _ _ () dX10_at_94 (vp_nar_int _) h hP hD hS
      have h := h.2 c3
      refine lv_tableOut (tgt := 95) hx hb dX10_at_14 (by have z0 := lv_neT (a := 0) c0 (by decide); have z1 := lv_neT (a := 1) c1 (by decide); have z2 := lv_neT (a := 2) c2 (by decide); have z3 := lv_neT (a := 3) c3 (by decide); omega) (by decide) ?_
      refine lv_iconst (v := (-1)) hx hb dX10_at_95 (by decide) ?_
      exact hret _ _ _ _ _ () dX10_at_96 (vp_nar_int _) h hP hD hS
    · have h := h.2 cd
      refine lv_iconst (v := (-1)) hx hb dX10_at_11 (by decide) ?_
      exact hret _ _ _ _ _ () dX10_at_12 (vp_nar_int _) h hP hD hS

abbrev rX10_page : Room := { frames := 1, cells := 0, slots := 0, locals := 22 }
theorem hdX10_page : yX10_page.cls = RX10 ∧ yX10_page.cls ≠ "java/lang/invoke/MethodHandle" ∧ yX10_page.cls ≠ "java/lang/invoke/VarHandle" ∧ (parseMethodDescriptor yX10_page.desc).map (fun d => d.parameters.length) = some 2 := by decide +kernel
theorem inX10_page_10 : ∀ w ∈ wsX100, w ∈ wsX10_page := by decide +kernel
theorem inX10_page_3 : ∀ w ∈ wsX30, w ∈ wsX10_page := by decide +kernel
theorem inX10_page_9 : ∀ w ∈ wsX90, w ∈ wsX10_page := by decide +kernel
theorem kX10_page_0 : Cond.fieldLink RX10 178 "AheadStore$Pages" "stamps" "[I" ∈ wsX10_page := by decide +kernel
theorem kX10_page_1 : Cond.fieldLink RX10 41 "AheadStore$World" "pages" "LAheadStore$Pages;" ∈ wsX10_page := by decide +kernel
theorem kX10_page_2 : Cond.fieldLink RX10 10 "AheadStore" "now" "LAheadStore$World;" ∈ wsX10_page := by decide +kernel
theorem kX10_page_3 : Cond.fieldLink RX10 175 "AheadStore$Pages" "diskStamps" "[I" ∈ wsX10_page := by decide +kernel
theorem kX10_page_4 : Cond.fieldLink RX10 181 "AheadStore$Pages" "recs" "[I" ∈ wsX10_page := by decide +kernel
theorem kX10_page_5 : Cond.fieldLink RX10 187 "AheadStore$Pages" "archiveStamps" "[I" ∈ wsX10_page := by decide +kernel
set_option maxHeartbeats 4000000 in
set_option maxRecDepth 100000 in
theorem c_X10_page {l : Launch} {dC : Nat → ClassId} {dI : Nat → Nat → Nat} {cI : ClassId} {q0 : Nat → Nat} {sz : Nat} {u0 : S10} {x1 : Int32} {x2 : Int32} {Q : Int32 → Prop} (h : wp_X10_page u0 x1 x2 Q) : ctI sxE l yX10_page wsX10_page rX10_page (dC, dI) vwCl [(cI, .int)] [.ref (q0 0), .int x1, .int x2] (cs10 cI q0 u0) sz (fun (r : Int32) (_ : Unit) => Q r) (fun (_ : Unit) => cs10 cI q0 u0) := by
  refine mx_i (cc := cX10_page) (maxL := 4) (ty := .int) (by decide) rfl (Nat.le_of_ble_eq_true rfl) ?_
  intro p e s m below meth c Z A ls args hx hb hml hown hts hA hP hK hD hE hl hret
  have hown : s.vm.findClass RX10 = some m.cls := hown
  have hl : lv_has ls 4 [(0, .ref (q0 0)), (1, .int x1), (2, .int x2)] := hl
  have hS : va_S A s.heap s.heap [] := va_S.rf
  refine lv_iload_n hx hb dX10_page_0 rfl (lv_at hl 1 rfl) ?_
  refine lv_if_lt (tgt := 10) hx hb dX10_page_1 (by decide) (fun cd => ?_) (fun cd => ?_)
  · have h := h.1 cd
    refine lv_iconst (v := (-1)) hx hb dX10_page_10 (by decide) ?_
    exact hret _ _ _ _ _ () dX10_page_11 (vp_nar_int _) h hP hD hS
  · have h := h.2 cd
    refine lv_iload_n hx hb dX10_page_4 rfl (lv_at hl 1 rfl) ?_
    refine lv_bipush (v := 16) hx hb dX10_page_5 (by decide) ?_
    refine lv_icmp_lt (tgt := 12) hx hb dX10_page_7 (by decide) (fun cd => ?_) (fun cd => ?_)
    · have h := h.1 cd
      refine lv_aload_n hx hb dX10_page_12 rfl (lv_at hl 0 rfl) ?_
      refine va_get (D := (dC, dI)) (ci := 10) (v := .ref (q0 1)) (C := RX10) (T := TX10) (N := 6) hx hb hts inX10_page_10 hown hK hP 0 rfl rfl 0 (by decide) (hts _ kX10_page_2) (fun _ h9 => h9) rfl dX10_page_13 ?_
      refine va_get (D := (dC, dI)) (ci := 9) (v := .ref (q0 4)) (C := RX9) (T := TX9) (N := 11) hx hb hts inX10_page_9 hown hK hP 1 rfl rfl 1 (by decide) (hts _ kX10_page_1) (fun _ h9 => h9) rfl dX10_page_16 ?_
      refine lv_iload_n hx hb dX10_page_19 rfl (lv_at hl 1 rfl) ?_
      refine cx_vi (As := [.int x1]) (rest := []) ⟨hx, hb, hml, hown, hts⟩ hl.1 ok_sxE hE hK hP hD hS hA (cut_75 cI q0 u0) (c_X3_frameOf (l := l) (dC := dC) (dI := dI) (cI := cI) (q0 := fun i => q0 (i + 4)) h) (cwV 1 hts gX10_page_X3_frameOf rfl rfl rfl hdX3_frameOf ⟨Nat.le_of_ble_eq_true rfl, Nat.le_of_ble_eq_true rfl⟩) rfl rfl rfl rfl (Nat.le_of_ble_eq_true rfl) dX10_page_20 rfl (fun r_1 _ H locs h hP hD hS => ?_)
      refine lv_istore_n (lv' := [(3, .int r_1), (0, .ref (q0 0)), (1, .int x1), (2, .int x2)]) hx hb dX10_page_23 rfl hl (by decide) rfl (fun ls hl => ?_)
      refine lv_iload_n hx hb dX10_page_24 rfl (lv_at hl 3 rfl) ?_
      by_cases c0 : x2 = 0
      · have h := h.1 c0
        refine lv_tableIn (tgt := 64) (off := 39) hx hb dX10_page_25 (by rw [c0]; decide) (by rw [c0]; decide) (by rw [c0]; rfl) (by decide) ?_
        refine lv_iload_n hx hb dX10_page_64 rfl (lv_at hl 0 rfl) ?_
        refine lv_if_ge (tgt := 83) hx hb dX10_page_65 (by decide) (fun cd => ?_) (fun cd => ?_)
        · have h := h.1 cd
          refine lv_aload_n hx hb dX10_page_83 rfl (lv_at hl 1 rfl) ?_
          refine va_get (D := (dC, dI)) (ci := 10) (v := .ref (q0 1)) (C := RX10) (T := TX10) (N := 6) hx hb hts inX10_page_10 hown hK hP 0 rfl rfl 0 (by decide) (hts _ kX10_page_2) (fun _ h9 => h9) rfl dX10_page_84 ?_
          refine va_get (D := (dC, dI)) (ci := 9) (v := .ref (q0 4)) (C := RX9) (T := TX9) (N := 11) hx hb hts inX10_page_9 hown hK hP 1 rfl rfl 1 (by decide) (hts _ kX10_page_1) (fun _ h9 => h9) rfl dX10_page_87 ?_
          refine va_get (D := (dC, dI)) (ci := 3) (v := .ref (q0 11)) (C := RX3) (T := TX3) (N := 12) hx hb hts inX10_page_3 hown hK hP 4 rfl rfl 8 (by decide) (hts _ kX10_page_0) (fun _ h9 => h9) rfl dX10_page_90 ?_
          refine lv_iload_n hx hb dX10_page_93 rfl (lv_at hl 0 rfl) ?_
          refine va_iald hx hb hK hP 11 0 rfl rfl h.1 dX10_page_94 ?_
          have h := h.2
          exact hret _ _ _ _ _ () dX10_page_95 (vp_nar_int _) h hP hD hS
        · have h := h.2 cd
          refine lv_aload_n hx hb dX10_page_68 rfl (lv_at hl 1 rfl) ?_
          refine va_get (D := (dC, dI)) (ci := 10) (v := .ref (q0 1)) (C := RX10) (T := TX10) (N := 6) hx hb hts inX10_page_10 hown hK hP 0 rfl rfl 0 (by decide) (hts _ kX10_page_2) (fun _ h9 => h9) rfl dX10_page_69 ?_
          refine va_get (D := (dC, dI)) (ci := 9) (v := .ref (q0 4)) (C := RX9) (T := TX9) (N := 11) hx hb hts inX10_page_9 hown hK hP 1 rfl rfl 1 (by decide) (hts _ kX10_page_1) (fun _ h9 => h9) rfl dX10_page_72 ?_
          refine va_get (D := (dC, dI)) (ci := 3) (v := .ref (q0 6)) (C := RX3) (T := TX3) (N := 12) hx hb hts inX10_page_3 hown hK hP 4 rfl rfl 1 (by decide) (hts _ kX10_page_3) (fun _ h9 => h9) rfl dX10_page_75 ?_
          refine lv_iload_n hx hb dX10_page_78 rfl (lv_at hl 2 rfl) ?_
          refine va_iald hx hb hK hP 6 0 rfl rfl h.1 dX10_page_79 ?_
          have h := h.2
          refine lv_goto (tgt := 95) hx hb dX10_page_80 (by decide) ?_
          exact hret _ _ _ _ _ () dX10_page_95 (vp_nar_int _) h hP hD hS
      have h := h.2 c0
      by_cases c1 : x2 = 1
      · have h := h.1 c1
        refine lv_tableIn (tgt := 96) (off := 71) hx hb dX10_page_25 (by rw [c1]; decide) (by rw [c1]; decide) (by rw [c1]; rfl) (by decide) ?_
        refine lv_aload_n hx hb dX10_page_96 rfl (lv_at hl 1 rfl) ?_
        refine va_get (D := (dC, dI)) (ci := 10) (v := .ref (q0 1)) (C := RX10) (T := TX10) (N := 6) hx hb hts inX10_page_10 hown hK hP 0 rfl rfl 0 (by decide) (hts _ kX10_page_2) (fun _ h9 => h9) rfl dX10_page_97 ?_
        refine va_get (D := (dC, dI)) (ci := 9) (v := .ref (q0 4)) (C := RX9) (T := TX9) (N := 11) hx hb hts inX10_page_9 hown hK hP 1 rfl rfl 1 (by decide) (hts _ kX10_page_1) (fun _ h9 => h9) rfl dX10_page_100 ?_
        refine va_get (D := (dC, dI)) (ci := 3) (v := .ref (q0 6)) (C := RX3) (T := TX3) (N := 12) hx hb hts inX10_page_3 hown hK hP 4 rfl rfl 1 (by decide) (hts _ kX10_page_3) (fun _ h9 => h9) rfl dX10_page_103 ?_
        refine lv_iload_n hx hb dX10_page_106 rfl (lv_at hl 2 rfl) ?_
        refine va_iald hx hb hK hP 6 0 rfl rfl h.1 dX10_page_107 ?_
        have h := h.2
        exact hret _ _ _ _ _ () dX10_page_108 (vp_nar_int _) h hP hD hS
      have h := h.2 c1
      by_cases c2 : x2 = 2
      · have h := h.1 c2
        refine lv_tableIn (tgt := 109) (off := 84) hx hb dX10_page_25 (by rw [c2]; decide) (by rw [c2]; decide) (by rw [c2]; rfl) (by decide) ?_
        refine lv_iload_n hx hb dX10_page_109 rfl (lv_at hl 0 rfl) ?_
        exact hret _ _ _ _ _ () dX10_page_110 (vp_nar_int _) h hP hD hS
      have h := h.2 c2
      by_cases c3 : x2 = 3
      · have h := h.1 c3
        refine lv_tableIn (tgt := 111) (off := 86) hx hb dX10_page_25 (by rw [c3]; decide) (by rw [c3]; decide) (by rw [c3]; rfl) (by decide) ?_
        refine lv_iload_n hx hb dX10_page_111 rfl (lv_at hl 0 rfl) ?_
        refine lv_if_ge (tgt := 119) hx hb dX10_page_112 (by decide) (fun cd => ?_) (fun cd => ?_)
        · have h := h.1 cd
          refine lv_aload_n hx hb dX10_page_119 rfl (lv_at hl 1 rfl) ?_
          refine va_get (D := (dC, dI)) (ci := 10) (v := .ref (q0 1)) (C := RX10) (T := TX10) (N := 6) hx hb hts inX10_page_10 hown hK hP 0 rfl rfl 0 (by decide) (hts _ kX10_page_2) (fun _ h9 => h9) rfl dX10_page_120 ?_
          refine va_get (D := (dC, dI)) (ci := 9) (v := .ref (q0 4)) (C := RX9) (T := TX9) (N := 11) hx hb hts inX10_page_9 hown hK hP 1 rfl rfl 1 (by decide) (hts _ kX10_page_1) (fun _ h9 => h9) rfl dX10_page_123 ?_
          refine va_get (D := (dC, dI)) (ci := 3) (v := .ref (q0 12)) (C := RX3) (T := TX3) (N := 12) hx hb hts inX10_page_3 hown hK hP 4 rfl rfl 9 (by decide) (hts _ kX10_page_4) (fun _ h9 => h9) rfl dX10_page_126 ?_
          refine lv_iload_n hx hb dX10_page_129 rfl (lv_at hl 0 rfl) ?_
          refine va_iald hx hb hK hP 12 0 rfl rfl h.1 dX10_page_130 ?_
          have h := h.2
          exact hret _ _ _ _ _ () dX10_page_131 (vp_nar_int _) h hP hD hS
        · have h := h.2 cd
          refine lv_iconst (v := 0) hx hb dX10_page_115 (by decide) ?_
          refine lv_goto (tgt := 131) hx hb dX10_page_116 (by decide) ?_
          exact hret _ _ _ _ _ () dX10_page_131 (vp_nar_int _) h hP hD hS
      have h := h.2 c3
      by_cases c4 : x2 = 4
      · have h := h.1 c4
        refine lv_tableIn (tgt := 132) (off := 107) hx hb dX10_page_25 (by rw [c4]; decide) (by rw [c4]; decide) (by rw [c4]; rfl) (by decide) ?_
        refine lv_aload_n hx hb dX10_page_132 rfl (lv_at hl 1 rfl) ?_
        refine va_get (D := (dC, dI)) (ci := 10) (v := .ref (q0 1)) (C := RX10) (T := TX10) (N := 6) hx hb hts inX10_page_10 hown hK hP 0 rfl rfl 0 (by decide) (hts _ kX10_page_2) (fun _ h9 => h9) rfl dX10_page_133 ?_
        refine va_get (D := (dC, dI)) (ci := 9) (v := .ref (q0 4)) (C := RX9) (T := TX9) (N := 11) hx hb hts inX10_page_9 hown hK hP 1 rfl rfl 1 (by decide) (hts _ kX10_page_1) (fun _ h9 => h9) rfl dX10_page_136 ?_
        refine lv_iload_n hx hb dX10_page_139 rfl (lv_at hl 2 rfl) ?_
        refine cx_vi (As := [.int x1]) (rest := []) ⟨hx, hb, hml, hown, hts⟩ hl.1 ok_sxE hE hK hP hD hS hA (cut_75 cI q0 u0) (c_X3_isLost (l := l) (dC := dC) (dI := dI) (cI := cI) (q0 := fun i => q0 (i + 4)) h) (cwV 1 hts gX10_page_X3_isLost rfl rfl rfl hdX3_isLost ⟨Nat.le_of_ble_eq_true rfl, Nat.le_of_ble_eq_true rfl⟩) rfl rfl rfl rfl (Nat.le_of_ble_eq_true rfl) dX10_page_140 rfl (fun r_2 _ H locs h hP hD hS => ?_)
        refine lv_if_eq (tgt := 150) hx hb dX10_page_143 (by decide) (fun cd => ?_) (fun cd => ?_)
        · have h := h.1 cd
          refine lv_iconst (v := 0) hx hb dX10_page_150 (by decide) ?_
          exact hret _ _ _ _ _ () dX10_page_151 (vp_nar_int _) h hP hD hS
        · have h := h.2 cd
          refine lv_iconst (v := 1) hx hb dX10_page_146 (by decide) ?_
          refine lv_goto (tgt := 151) hx hb dX10_page_147 (by decide) ?_
          exact hret _ _ _ _ _ () dX10_page_151 (vp_nar_int _) h hP hD hS
      have h := h.2 c4
      by_cases c5 : x2 = 5
      · have h := h.1 c5
        refine lv_tableIn (tgt := 152) (off := 127) hx hb dX10_page_25 (by rw [c5]; decide) (by rw [c5]; decide) (by rw [c5]; rfl) (by decide) ?_
        refine lv_aload_n hx hb dX10_page_152 rfl (lv_at hl 1 rfl) ?_
        refine va_get (D := (dC, dI)) (ci := 10) (v := .ref (q0 1)) (C := RX10) (T := TX10) (N := 6) hx hb hts inX10_page_10 hown hK hP 0 rfl rfl 0 (by decide) (hts _ kX10_page_2) (fun _ h9 => h9) rfl dX10_page_153 ?_
        refine va_get (D := (dC, dI)) (ci := 9) (v := .ref (q0 4)) (C := RX9) (T := TX9) (N := 11) hx hb hts inX10_page_9 hown hK hP 1 rfl rfl 1 (by decide) (hts _ kX10_page_1) (fun _ h9 => h9) rfl dX10_page_156 ?_
        refine va_get (D := (dC, dI)) (ci := 3) (v := .ref (q0 8)) (C := RX3) (T := TX3) (N := 12) hx hb hts inX10_page_3 hown hK hP 4 rfl rfl 3 (by decide) (hts _ kX10_page_5) (fun _ h9 => h9) rfl dX10_page_159 ?_
        refine lv_iload_n hx hb dX10_page_162 rfl (lv_at hl 2 rfl) ?_
        refine va_iald hx hb hK hP 8 0 rfl rfl h.1 dX10_page_163 ?_
        have h := h.2
        exact hret _ _ _ _ _ () dX10_page_164 (vp_nar_int _) h hP hD hS
      have h := h.2 c5
      refine lv_tableOut (tgt := 165) hx hb dX10_page_25 (by have z0 := lv_neT (a := 0) c0 (by decide); have z1 := lv_neT (a := 1) c1 (by decide); have z2 := lv_neT (a := 2) c2 (by decide); have z3 := lv_neT (a := 3) c3 (by decide); have z4 := lv_neT (a := 4) c4 (by decide); have z5 := lv_neT (a := 5) c5 (by decide); omega) (by decide) ?_
      refine lv_iconst (v := (-1)) hx hb dX10_page_165 (by decide) ?_
      exact hret _ _ _ _ _ () dX10_page_166 (vp_nar_int _) h hP hD hS
    · have h := h.2 cd
      refine lv_iconst (v := (-1)) hx hb dX10_page_10 (by decide) ?_
      exact hret _ _ _ _ _ () dX10_page_11 (vp_nar_int _) h hP hD hS

set_option maxRecDepth 100000 in
theorem cut_82 (cI : ClassId) (q0 : Nat → Nat) (u0 : S10) : Cut (cs10 cI q0 u0) (cs9 cI (fun i => q0 (i + 1)) (g10_now u0)) (fun _ : Unit => cs9 cI (fun i => q0 (i + 1)) (g10_now u0)) (fun _ : Unit => cs10 cI q0 u0) := ⟨[1, 2, 3, 4, 5, 6, 7, 8, 9, 10, 11, 12, 13, 14, 15, 16, 17, 18, 19, 20, 21, 22, 23, 24, 25, 26, 27, 28, 29, 30], [0, 31, 32, 33, 34, 35, 36, 37, 38, 39, 40, 41], rfl, rfl, rfl, by decide, by decide, fun _ => ⟨[0, 12, 13, 14, 15, 16, 17, 18, 19, 20, 21, 22, 23, 24, 25, 26, 27, 28, 29, 30, 31, 32, 33, 34, 35, 36, 37, 38, 39, 40, 41, 1, 2, 3, 4, 5, 6, 7, 8, 9, 10, 11], rfl, rfl⟩⟩

set_option maxRecDepth 100000 in
theorem cut_83 (cI : ClassId) (q0 : Nat → Nat) (u0 : S10) : Cut (cs10 cI q0 u0) (cs0 cI (fun i => q0 (i + 18)) (g9_claims (g10_now u0))) (fun _ : Unit => cs0 cI (fun i => q0 (i + 18)) (g9_claims (g10_now u0))) (fun _ : Unit => cs10 cI q0 u0) := ⟨[18, 19, 20, 21, 22, 23, 24, 25], [0, 1, 2, 3, 4, 5, 6, 7, 8, 9, 10, 11, 12, 13, 14, 15, 16, 17, 26, 27, 28, 29, 30, 31, 32, 33, 34, 35, 36, 37, 38, 39, 40, 41], rfl, rfl, rfl, by decide, by decide, fun _ => ⟨[0, 1, 2, 3, 4, 5, 6, 7, 8, 9, 10, 11, 12, 13, 14, 15, 16, 17, 34, 35, 36, 37, 38, 39, 40, 41, 18, 19, 20, 21, 22, 23, 24, 25, 26, 27, 28, 29, 30, 31, 32, 33], rfl, rfl⟩⟩

set_option maxRecDepth 100000 in
theorem cut_84 (cI : ClassId) (q0 : Nat → Nat) (u0 : S10) : Cut (cs10 cI q0 u0) (([] : va_W)) (fun _ : Unit => ([] : va_W)) (fun _ : Unit => cs10 cI q0 u0) := ⟨[], [0, 1, 2, 3, 4, 5, 6, 7, 8, 9, 10, 11, 12, 13, 14, 15, 16, 17, 18, 19, 20, 21, 22, 23, 24, 25, 26, 27, 28, 29, 30, 31, 32, 33, 34, 35, 36, 37, 38, 39, 40, 41], rfl, rfl, rfl, by decide, by decide, fun _ => ⟨[0, 1, 2, 3, 4, 5, 6, 7, 8, 9, 10, 11, 12, 13, 14, 15, 16, 17, 18, 19, 20, 21, 22, 23, 24, 25, 26, 27, 28, 29, 30, 31, 32, 33, 34, 35, 36, 37, 38, 39, 40, 41], rfl, rfl⟩⟩

abbrev rX10_tx : Room := { frames := 5, cells := 0, slots := 0, locals := 108 }
theorem hdX10_tx : yX10_tx.cls = RX10 ∧ yX10_tx.cls ≠ "java/lang/invoke/MethodHandle" ∧ yX10_tx.cls ≠ "java/lang/invoke/VarHandle" ∧ (parseMethodDescriptor yX10_tx.desc).map (fun d => d.parameters.length) = some 2 := by decide +kernel
theorem inX10_tx_0 : ∀ w ∈ wsX00, w ∈ wsX10_tx := by decide +kernel
theorem inX10_tx_10 : ∀ w ∈ wsX100, w ∈ wsX10_tx := by decide +kernel
theorem inX10_tx_5 : ∀ w ∈ wsX50, w ∈ wsX10_tx := by decide +kernel
theorem inX10_tx_9 : ∀ w ∈ wsX90, w ∈ wsX10_tx := by decide +kernel
theorem kX10_tx_0 : Cond.fieldLink RX10 197 "AheadStore$Roster" "is" "[I" ∈ wsX10_tx := by decide +kernel
theorem kX10_tx_1 : Cond.fieldLink RX10 193 "AheadStore$World" "roster" "LAheadStore$Roster;" ∈ wsX10_tx := by decide +kernel
theorem kX10_tx_2 : Cond.fieldLink RX10 10 "AheadStore" "now" "LAheadStore$World;" ∈ wsX10_tx := by decide +kernel
theorem kX10_tx_3 : Cond.fieldLink RX10 202 "AheadStore$Roster" "last" "[I" ∈ wsX10_tx := by decide +kernel
theorem kX10_tx_4 : Cond.fieldLink RX10 205 "AheadStore$Roster" "cursor" "[I" ∈ wsX10_tx := by decide +kernel
theorem kX10_tx_5 : Cond.fieldLink RX10 208 "AheadStore$Claims" "saveCount" "[I" ∈ wsX10_tx := by decide +kernel
theorem kX10_tx_6 : Cond.fieldLink RX10 160 "AheadStore$World" "claims" "LAheadStore$Claims;" ∈ wsX10_tx := by decide +kernel
theorem kX10_tx_7 : Cond.fieldLink RX10 211 "AheadStore$Claims" "topCount" "[I" ∈ wsX10_tx := by decide +kernel
theorem kX10_tx_8 : Cond.fieldLink RX10 214 "AheadStore$Claims" "waits" "[I" ∈ wsX10_tx := by decide +kernel
set_option maxHeartbeats 4000000 in
set_option maxRecDepth 100000 in
theorem c_X10_tx {l : Launch} {dC : Nat → ClassId} {dI : Nat → Nat → Nat} {cI : ClassId} {q0 : Nat → Nat} {sz : Nat} {u0 : S10} {x1 : Int32} {x2 : Int32} {Q : Int32 → Prop} (h : wp_X10_tx u0 x1 x2 Q) : ctI sxE l yX10_tx wsX10_tx rX10_tx (dC, dI) vwCl [(cI, .int)] [.ref (q0 0), .int x1, .int x2] (cs10 cI q0 u0) sz (fun (r : Int32) (_ : Unit) => Q r) (fun (_ : Unit) => cs10 cI q0 u0) := by
  refine mx_i (cc := cX10_tx) (maxL := 3) (ty := .int) (by decide) rfl (Nat.le_of_ble_eq_true rfl) ?_
  intro p e s m below meth c Z A ls args hx hb hml hown hts hA hP hK hD hE hl hret
  have hown : s.vm.findClass RX10 = some m.cls := hown
  have hl : lv_has ls 3 [(0, .ref (q0 0)), (1, .int x1), (2, .int x2)] := hl
  have hS : va_S A s.heap s.heap [] := va_S.rf
  refine lv_iload_n hx hb dX10_tx_0 rfl (lv_at hl 1 rfl) ?_
  refine cx_si (As := [.int x1]) (rest := []) ⟨hx, hb, hml, hown, hts⟩ hl.1 ok_noE trivial hK hP hD hS hA (cut_84 cI q0 u0) (c_X10_isParty (l := l) (dC := dC) (dI := dI) (cI := cI) h) (va_cwS 1 hts gX10_tx_X10_isParty rfl rfl rfl hdX10_isParty ⟨Nat.le_of_ble_eq_true rfl, Nat.le_of_ble_eq_true rfl⟩) rfl (Nat.le_of_ble_eq_true rfl) dX10_tx_1 rfl (fun r_1 _ H locs h hP hD hS => ?_)
  refine lv_if_ne (tgt := 9) hx hb dX10_tx_4 (by decide) (fun cd => ?_) (fun cd => ?_)
  · have h := h.2 cd
    refine lv_iload_n hx hb dX10_tx_9 rfl (lv_at hl 2 rfl) ?_
    by_cases c0 : x2 = 0
    · have h := h.1 c0
      refine lv_tableIn (tgt := 56) (off := 46) hx hb dX10_tx_10 (by rw [c0]; decide) (by rw [c0]; decide) (by rw [c0]; rfl) (by decide) ?_
      refine lv_aload_n hx hb dX10_tx_56 rfl (lv_at hl 0 rfl) ?_
      refine va_get (D := (dC, dI)) (ci := 10) (v := .ref (q0 1)) (C := RX10) (T := TX10) (N := 6) hx hb hts inX10_tx_10 hown hK hP 0 rfl rfl 0 (by decide) (hts _ kX10_tx_2) (fun _ h9 => h9) rfl dX10_tx_57 ?_
      refine va_get (D := (dC, dI)) (ci := 9) (v := .ref (q0 14)) (C := RX9) (T := TX9) (N := 11) hx hb hts inX10_tx_9 hown hK hP 1 rfl rfl 2 (by decide) (hts _ kX10_tx_1) (fun _ h9 => h9) rfl dX10_tx_60 ?_
      refine va_get (D := (dC, dI)) (ci := 5) (v := .ref (q0 15)) (C := RX5) (T := TX5) (N := 3) hx hb hts inX10_tx_5 hown hK hP 14 rfl rfl 0 (by decide) (hts _ kX10_tx_0) (fun _ h9 => h9) rfl dX10_tx_63 ?_
      refine lv_iload_n hx hb dX10_tx_66 rfl (lv_at hl 1 rfl) ?_
      refine va_iald hx hb hK hP 15 0 rfl rfl h.1 dX10_tx_67 ?_
      have h := h.2
      exact hret _ _ _ _ _ () dX10_tx_68 (vp_nar_int _) h hP hD hS
    have h := h.2 c0
    by_cases c1 : x2 = 1
    · have h := h.1 c1
      refine lv_tableIn (tgt := 69) (off := 59) hx hb dX10_tx_10 (by rw [c1]; decide) (by rw [c1]; decide) (by rw [c1]; rfl) (by decide) ?_
      refine lv_aload_n hx hb dX10_tx_69 rfl (lv_at hl 0 rfl) ?_
      refine va_get (D := (dC, dI)) (ci := 10) (v := .ref (q0 1)) (C := RX10) (T := TX10) (N := 6) hx hb hts inX10_tx_10 hown hK hP 0 rfl rfl 0 (by decide) (hts _ kX10_tx_2) (fun _ h9 => h9) rfl dX10_tx_70 ?_
      refine va_get (D := (dC, dI)) (ci := 9) (v := .ref (q0 14)) (C := RX9) (T := TX9) (N := 11) hx hb hts inX10_tx_9 hown hK hP 1 rfl rfl 2 (by decide) (hts _ kX10_tx_1) (fun _ h9 => h9) rfl dX10_tx_73 ?_
      refine va_get (D := (dC, dI)) (ci := 5) (v := .ref (q0 16)) (C := RX5) (T := TX5) (N := 3) hx hb hts inX10_tx_5 hown hK hP 14 rfl rfl 1 (by decide) (hts _ kX10_tx_3) (fun _ h9 => h9) rfl dX10_tx_76 ?_
      refine lv_iload_n hx hb dX10_tx_79 rfl (lv_at hl 1 rfl) ?_
      refine va_iald hx hb hK hP 16 0 rfl rfl h.1 dX10_tx_80 ?_
      have h := h.2
      exact hret _ _ _ _ _ () dX10_tx_81 (vp_nar_int _) h hP hD hS
    have h := h.2 c1
    by_cases c2 : x2 = 2
    · have h := h.1 c2
      refine lv_tableIn (tgt := 82) (off := 72) hx hb dX10_tx_10 (by rw [c2]; decide) (by rw [c2]; decide) (by rw [c2]; rfl) (by decide) ?_
      refine lv_aload_n hx hb dX10_tx_82 rfl (lv_at hl 0 rfl) ?_
      refine va_get (D := (dC, dI)) (ci := 10) (v := .ref (q0 1)) (C := RX10) (T := TX10) (N := 6) hx hb hts inX10_tx_10 hown hK hP 0 rfl rfl 0 (by decide) (hts _ kX10_tx_2) (fun _ h9 => h9) rfl dX10_tx_83 ?_
      refine va_get (D := (dC, dI)) (ci := 9) (v := .ref (q0 14)) (C := RX9) (T := TX9) (N := 11) hx hb hts inX10_tx_9 hown hK hP 1 rfl rfl 2 (by decide) (hts _ kX10_tx_1) (fun _ h9 => h9) rfl dX10_tx_86 ?_
      refine va_get (D := (dC, dI)) (ci := 5) (v := .ref (q0 17)) (C := RX5) (T := TX5) (N := 3) hx hb hts inX10_tx_5 hown hK hP 14 rfl rfl 2 (by decide) (hts _ kX10_tx_4) (fun _ h9 => h9) rfl dX10_tx_89 ?_
      refine lv_iload_n hx hb dX10_tx_92 rfl (lv_at hl 1 rfl) ?_
      refine va_iald hx hb hK hP 17 0 rfl rfl h.1 dX10_tx_93 ?_
      have h := h.2
      exact hret _ _ _ _ _ () dX10_tx_94 (vp_nar_int _) h hP hD hS
    have h := h.2 c2
    by_cases c3 : x2 = 3
    · have h := h.1 c3
      refine lv_tableIn (tgt := 95) (off := 85) hx hb dX10_tx_10 (by rw [c3]; decide) (by rw [c3]; decide) (by rw [c3]; rfl) (by decide) ?_
      refine lv_aload_n hx hb dX10_tx_95 rfl (lv_at hl 0 rfl) ?_
      refine va_get (D := (dC, dI)) (ci := 10) (v := .ref (q0 1)) (C := RX10) (T := TX10) (N := 6) hx hb hts inX10_tx_10 hown hK hP 0 rfl rfl 0 (by decide) (hts _ kX10_tx_2) (fun _ h9 => h9) rfl dX10_tx_96 ?_
      refine va_get (D := (dC, dI)) (ci := 9) (v := .ref (q0 18)) (C := RX9) (T := TX9) (N := 11) hx hb hts inX10_tx_9 hown hK hP 1 rfl rfl 3 (by decide) (hts _ kX10_tx_6) (fun _ h9 => h9) rfl dX10_tx_99 ?_
      refine va_get (D := (dC, dI)) (ci := 0) (v := .ref (q0 22)) (C := RX0) (T := TX0) (N := 7) hx hb hts inX10_tx_0 hown hK hP 18 rfl rfl 3 (by decide) (hts _ kX10_tx_5) (fun _ h9 => h9) rfl dX10_tx_102 ?_
      refine lv_iload_n hx hb dX10_tx_105 rfl (lv_at hl 1 rfl) ?_
      refine va_iald hx hb hK hP 22 0 rfl rfl h.1 dX10_tx_106 ?_
      have h := h.2
      exact hret _ _ _ _ _ () dX10_tx_107 (vp_nar_int _) h hP hD hS
    have h := h.2 c3
    by_cases c4 : x2 = 4
    · have h := h.1 c4
      refine lv_tableIn (tgt := 108) (off := 98) hx hb dX10_tx_10 (by rw [c4]; decide) (by rw [c4]; decide) (by rw [c4]; rfl) (by decide) ?_
      refine lv_aload_n hx hb dX10_tx_108 rfl (lv_at hl 0 rfl) ?_
      refine va_get (D := (dC, dI)) (ci := 10) (v := .ref (q0 1)) (C := RX10) (T := TX10) (N := 6) hx hb hts inX10_tx_10 hown hK hP 0 rfl rfl 0 (by decide) (hts _ kX10_tx_2) (fun _ h9 => h9) rfl dX10_tx_109 ?_
      refine va_get (D := (dC, dI)) (ci := 9) (v := .ref (q0 18)) (C := RX9) (T := TX9) (N := 11) hx hb hts inX10_tx_9 hown hK hP 1 rfl rfl 3 (by decide) (hts _ kX10_tx_6) (fun _ h9 => h9) rfl dX10_tx_112 ?_
      refine va_get (D := (dC, dI)) (ci := 0) (v := .ref (q0 23)) (C := RX0) (T := TX0) (N := 7) hx hb hts inX10_tx_0 hown hK hP 18 rfl rfl 4 (by decide) (hts _ kX10_tx_7) (fun _ h9 => h9) rfl dX10_tx_115 ?_
      refine lv_iload_n hx hb dX10_tx_118 rfl (lv_at hl 1 rfl) ?_
      refine va_iald hx hb hK hP 23 0 rfl rfl h.1 dX10_tx_119 ?_
      have h := h.2
      exact hret _ _ _ _ _ () dX10_tx_120 (vp_nar_int _) h hP hD hS
    have h := h.2 c4
    by_cases c5 : x2 = 5
    · have h := h.1 c5
      refine lv_tableIn (tgt := 121) (off := 111) hx hb dX10_tx_10 (by rw [c5]; decide) (by rw [c5]; decide) (by rw [c5]; rfl) (by decide) ?_
      refine lv_aload_n hx hb dX10_tx_121 rfl (lv_at hl 0 rfl) ?_
      refine va_get (D := (dC, dI)) (ci := 10) (v := .ref (q0 1)) (C := RX10) (T := TX10) (N := 6) hx hb hts inX10_tx_10 hown hK hP 0 rfl rfl 0 (by decide) (hts _ kX10_tx_2) (fun _ h9 => h9) rfl dX10_tx_122 ?_
      refine va_get (D := (dC, dI)) (ci := 9) (v := .ref (q0 18)) (C := RX9) (T := TX9) (N := 11) hx hb hts inX10_tx_9 hown hK hP 1 rfl rfl 3 (by decide) (hts _ kX10_tx_6) (fun _ h9 => h9) rfl dX10_tx_125 ?_
      refine va_get (D := (dC, dI)) (ci := 0) (v := .ref (q0 21)) (C := RX0) (T := TX0) (N := 7) hx hb hts inX10_tx_0 hown hK hP 18 rfl rfl 2 (by decide) (hts _ kX10_tx_8) (fun _ h9 => h9) rfl dX10_tx_128 ?_
      refine lv_iload_n hx hb dX10_tx_131 rfl (lv_at hl 1 rfl) ?_
      refine va_iald hx hb hK hP 21 0 rfl rfl h.1 dX10_tx_132 ?_
      have h := h.2
      exact hret _ _ _ _ _ () dX10_tx_133 (vp_nar_int _) h hP hD hS
    have h := h.2 c5
    by_cases c6 : x2 = 6
    · have h := h.1 c6
      refine lv_tableIn (tgt := 134) (off := 124) hx hb dX10_tx_10 (by rw [c6]; decide) (by rw [c6]; decide) (by rw [c6]; rfl) (by decide) ?_
      refine lv_aload_n hx hb dX10_tx_134 rfl (lv_at hl 0 rfl) ?_
      refine va_get (D := (dC, dI)) (ci := 10) (v := .ref (q0 1)) (C := RX10) (T := TX10) (N := 6) hx hb hts inX10_tx_10 hown hK hP 0 rfl rfl 0 (by decide) (hts _ kX10_tx_2) (fun _ h9 => h9) rfl dX10_tx_135 ?_
      refine lv_iload_n hx hb dX10_tx_138 rfl (lv_at hl 1 rfl) ?_
      refine cx_vi (As := [.int x1]) (rest := []) ⟨hx, hb, hml, hown, hts⟩ hl.1 ok_sxE hE hK hP hD hS hA (cut_82 cI q0 u0) (c_X9_cost (l := l) (dC := dC) (dI := dI) (cI := cI) (q0 := fun i => q0 (i + 1)) h) (cwV 1 hts gX10_tx_X9_cost rfl rfl rfl hdX9_cost ⟨Nat.le_of_ble_eq_true rfl, Nat.le_of_ble_eq_true rfl⟩) rfl rfl rfl rfl (Nat.le_of_ble_eq_true rfl) dX10_tx_139 rfl (fun r_2 _ H locs h hP hD hS => ?_)
      exact hret _ _ _ _ _ () dX10_tx_142 (vp_nar_int _) h hP hD hS
    have h := h.2 c6
    by_cases c7 : x2 = 7
    · have h := h.1 c7
      refine lv_tableIn (tgt := 143) (off := 133) hx hb dX10_tx_10 (by rw [c7]; decide) (by rw [c7]; decide) (by rw [c7]; rfl) (by decide) ?_
      refine lv_aload_n hx hb dX10_tx_143 rfl (lv_at hl 0 rfl) ?_
      refine va_get (D := (dC, dI)) (ci := 10) (v := .ref (q0 1)) (C := RX10) (T := TX10) (N := 6) hx hb hts inX10_tx_10 hown hK hP 0 rfl rfl 0 (by decide) (hts _ kX10_tx_2) (fun _ h9 => h9) rfl dX10_tx_144 ?_
      refine va_get (D := (dC, dI)) (ci := 9) (v := .ref (q0 18)) (C := RX9) (T := TX9) (N := 11) hx hb hts inX10_tx_9 hown hK hP 1 rfl rfl 3 (by decide) (hts _ kX10_tx_6) (fun _ h9 => h9) rfl dX10_tx_147 ?_
      refine lv_iload_n hx hb dX10_tx_150 rfl (lv_at hl 1 rfl) ?_
      refine cx_vi (As := [.int x1]) (rest := []) ⟨hx, hb, hml, hown, hts⟩ hl.1 ok_sxE hE hK hP hD hS hA (cut_83 cI q0 u0) (c_X0_deadlocked (l := l) (dC := dC) (dI := dI) (cI := cI) (q0 := fun i => q0 (i + 18)) h) (cwV 1 hts gX10_tx_X0_deadlocked rfl rfl rfl hdX0_deadlocked ⟨Nat.le_of_ble_eq_true rfl, Nat.le_of_ble_eq_true rfl⟩) rfl rfl rfl rfl (Nat.le_of_ble_eq_true rfl) dX10_tx_151 rfl (fun r_3 _ H locs h hP hD hS => ?_)
      refine lv_if_eq (tgt := 161) hx hb dX10_tx_154 (by decide) (fun cd => ?_) (fun cd => ?_)
      · have h := h.1 cd
        refine lv_iconst (v := 0) hx hb dX10_tx_161 (by decide) ?_
        exact hret _ _ _ _ _ () dX10_tx_162 (vp_nar_int _) h hP hD hS
      · have h := h.2 cd
        refine lv_iconst (v := 1) hx hb dX10_tx_157 (by decide) ?_
        refine lv_goto (tgt := 162) hx hb dX10_tx_158 (by decide) ?_
        exact hret _ _ _ _ _ () dX10_tx_162 (vp_nar_int _) h hP hD hS
    have h := h.2 c7
    refine lv_tableOut (tgt := 163) hx hb dX10_tx_10 (by have z0 := lv_neT (a := 0) c0 (by decide); have z1 := lv_neT (a := 1) c1 (by decide); have z2 := lv_neT (a := 2) c2 (by decide); have z3 := lv_neT (a := 3) c3 (by decide); have z4 := lv_neT (a := 4) c4 (by decide); have z5 := lv_neT (a := 5) c5 (by decide); have z6 := lv_neT (a := 6) c6 (by decide); have z7 := lv_neT (a := 7) c7 (by decide); omega) (by decide) ?_
    refine lv_iconst (v := (-1)) hx hb dX10_tx_163 (by decide) ?_
    exact hret _ _ _ _ _ () dX10_tx_164 (vp_nar_int _) h hP hD hS
  · have h := h.1 cd
    refine lv_iconst (v := (-1)) hx hb dX10_tx_7 (by decide) ?_
    exact hret _ _ _ _ _ () dX10_tx_8 (vp_nar_int _) h hP hD hS

set_option maxRecDepth 100000 in
theorem cut_85 (cI : ClassId) (q0 : Nat → Nat) (u0 : S10) : Cut (cs10 cI q0 u0) (cs2 cI (fun i => q0 (i + 2)) (g9_journal (g10_now u0))) (fun _ : Unit => cs2 cI (fun i => q0 (i + 2)) (g9_journal (g10_now u0))) (fun _ : Unit => cs10 cI q0 u0) := ⟨[2, 3], [0, 1, 4, 5, 6, 7, 8, 9, 10, 11, 12, 13, 14, 15, 16, 17, 18, 19, 20, 21, 22, 23, 24, 25, 26, 27, 28, 29, 30, 31, 32, 33, 34, 35, 36, 37, 38, 39, 40, 41], rfl, rfl, rfl, by decide, by decide, fun _ => ⟨[0, 1, 40, 41, 2, 3, 4, 5, 6, 7, 8, 9, 10, 11, 12, 13, 14, 15, 16, 17, 18, 19, 20, 21, 22, 23, 24, 25, 26, 27, 28, 29, 30, 31, 32, 33, 34, 35, 36, 37, 38, 39], rfl, rfl⟩⟩

abbrev rX10_log : Room := { frames := 1, cells := 0, slots := 0, locals := 21 }
theorem hdX10_log : yX10_log.cls = RX10 ∧ yX10_log.cls ≠ "java/lang/invoke/MethodHandle" ∧ yX10_log.cls ≠ "java/lang/invoke/VarHandle" ∧ (parseMethodDescriptor yX10_log.desc).map (fun d => d.parameters.length) = some 1 := by decide +kernel
theorem inX10_log_10 : ∀ w ∈ wsX100, w ∈ wsX10_log := by decide +kernel
theorem inX10_log_2 : ∀ w ∈ wsX20, w ∈ wsX10_log := by decide +kernel
theorem inX10_log_9 : ∀ w ∈ wsX90, w ∈ wsX10_log := by decide +kernel
theorem kX10_log_0 : Cond.fieldLink RX10 223 "AheadStore$World" "journal" "LAheadStore$Journal;" ∈ wsX10_log := by decide +kernel
theorem kX10_log_1 : Cond.fieldLink RX10 10 "AheadStore" "now" "LAheadStore$World;" ∈ wsX10_log := by decide +kernel
theorem kX10_log_2 : Cond.fieldLink RX10 227 "AheadStore$Journal" "endPlace" "I" ∈ wsX10_log := by decide +kernel
set_option maxHeartbeats 4000000 in
set_option maxRecDepth 100000 in
theorem c_X10_log {l : Launch} {dC : Nat → ClassId} {dI : Nat → Nat → Nat} {cI : ClassId} {q0 : Nat → Nat} {sz : Nat} {u0 : S10} {x1 : Int32} {Q : Int32 → Prop} (h : wp_X10_log u0 x1 Q) : ctI sxE l yX10_log wsX10_log rX10_log (dC, dI) vwCl [(cI, .int)] [.ref (q0 0), .int x1] (cs10 cI q0 u0) sz (fun (r : Int32) (_ : Unit) => Q r) (fun (_ : Unit) => cs10 cI q0 u0) := by
  refine mx_i (cc := cX10_log) (maxL := 2) (ty := .int) (by decide) rfl (Nat.le_of_ble_eq_true rfl) ?_
  intro p e s m below meth c Z A ls args hx hb hml hown hts hA hP hK hD hE hl hret
  have hown : s.vm.findClass RX10 = some m.cls := hown
  have hl : lv_has ls 2 [(0, .ref (q0 0)), (1, .int x1)] := hl
  have hS : va_S A s.heap s.heap [] := va_S.rf
  refine lv_iload_n hx hb dX10_log_0 rfl (lv_at hl 1 rfl) ?_
  refine lv_bipush (v := 8) hx hb dX10_log_1 (by decide) ?_
  refine lv_icmp_lt (tgt := 20) hx hb dX10_log_3 (by decide) (fun cd => ?_) (fun cd => ?_)
  · have h := h.1 cd
    refine lv_iconst (v := (-1)) hx hb dX10_log_20 (by decide) ?_
    refine lv_goto (tgt := 35) hx hb dX10_log_21 (by decide) ?_
    exact hret _ _ _ _ _ () dX10_log_35 (vp_nar_int _) h hP hD hS
  · have h := h.2 cd
    refine lv_iload_n hx hb dX10_log_6 rfl (lv_at hl 1 rfl) ?_
    refine lv_aload_n hx hb dX10_log_7 rfl (lv_at hl 0 rfl) ?_
    refine va_get (D := (dC, dI)) (ci := 10) (v := .ref (q0 1)) (C := RX10) (T := TX10) (N := 6) hx hb hts inX10_log_10 hown hK hP 0 rfl rfl 0 (by decide) (hts _ kX10_log_1) (fun _ h9 => h9) rfl dX10_log_8 ?_
    refine va_get (D := (dC, dI)) (ci := 9) (v := .ref (q0 2)) (C := RX9) (T := TX9) (N := 11) hx hb hts inX10_log_9 hown hK hP 1 rfl rfl 0 (by decide) (hts _ kX10_log_0) (fun _ h9 => h9) rfl dX10_log_11 ?_
    refine va_get (D := (dC, dI)) (ci := 2) (v := .int (g2_endPlace (g9_journal (g10_now u0)))) (C := RX2) (T := TX2) (N := 4) hx hb hts inX10_log_2 hown hK hP 2 rfl rfl 1 (by decide) (hts _ kX10_log_2) (fun _ h9 => h9) rfl dX10_log_14 ?_
    refine lv_icmp_lt (tgt := 24) hx hb dX10_log_17 (by decide) (fun cd => ?_) (fun cd => ?_)
    · have h := h.1 cd
      refine lv_aload_n hx hb dX10_log_24 rfl (lv_at hl 0 rfl) ?_
      refine va_get (D := (dC, dI)) (ci := 10) (v := .ref (q0 1)) (C := RX10) (T := TX10) (N := 6) hx hb hts inX10_log_10 hown hK hP 0 rfl rfl 0 (by decide) (hts _ kX10_log_1) (fun _ h9 => h9) rfl dX10_log_25 ?_
      refine va_get (D := (dC, dI)) (ci := 9) (v := .ref (q0 2)) (C := RX9) (T := TX9) (N := 11) hx hb hts inX10_log_9 hown hK hP 1 rfl rfl 0 (by decide) (hts _ kX10_log_0) (fun _ h9 => h9) rfl dX10_log_28 ?_
      refine lv_iload_n hx hb dX10_log_31 rfl (lv_at hl 1 rfl) ?_
      refine cx_vi (As := [.int x1]) (rest := []) ⟨hx, hb, hml, hown, hts⟩ hl.1 ok_sxE hE hK hP hD hS hA (cut_85 cI q0 u0) (c_X2_byteAt (l := l) (dC := dC) (dI := dI) (cI := cI) (q0 := fun i => q0 (i + 2)) h) (cwV 1 hts gX10_log_X2_byteAt rfl rfl rfl hdX2_byteAt ⟨Nat.le_of_ble_eq_true rfl, Nat.le_of_ble_eq_true rfl⟩) rfl rfl rfl rfl (Nat.le_of_ble_eq_true rfl) dX10_log_32 rfl (fun r_1 _ H locs h hP hD hS => ?_)
      exact hret _ _ _ _ _ () dX10_log_35 (vp_nar_int _) h hP hD hS
    · have h := h.2 cd
      refine lv_iconst (v := (-1)) hx hb dX10_log_20 (by decide) ?_
      refine lv_goto (tgt := 35) hx hb dX10_log_21 (by decide) ?_
      exact hret _ _ _ _ _ () dX10_log_35 (vp_nar_int _) h hP hD hS

abbrev rX10_record : Room := { frames := 4, cells := 0, slots := 0, locals := 91 }
theorem hdX10_record : yX10_record.cls = RX10 ∧ yX10_record.cls ≠ "java/lang/invoke/MethodHandle" ∧ yX10_record.cls ≠ "java/lang/invoke/VarHandle" ∧ (parseMethodDescriptor yX10_record.desc).map (fun d => d.parameters.length) = some 2 := by decide +kernel
theorem inX10_record_10 : ∀ w ∈ wsX100, w ∈ wsX10_record := by decide +kernel
theorem inX10_record_2 : ∀ w ∈ wsX20, w ∈ wsX10_record := by decide +kernel
theorem inX10_record_9 : ∀ w ∈ wsX90, w ∈ wsX10_record := by decide +kernel
theorem kX10_record_0 : Cond.fieldLink RX10 253 "AheadStore$Journal" "flushedPlace" "I" ∈ wsX10_record := by decide +kernel
theorem kX10_record_1 : Cond.fieldLink RX10 223 "AheadStore$World" "journal" "LAheadStore$Journal;" ∈ wsX10_record := by decide +kernel
theorem kX10_record_2 : Cond.fieldLink RX10 10 "AheadStore" "now" "LAheadStore$World;" ∈ wsX10_record := by decide +kernel
set_option maxHeartbeats 4000000 in
set_option maxRecDepth 100000 in
theorem c_X10_record {l : Launch} {dC : Nat → ClassId} {dI : Nat → Nat → Nat} {cI : ClassId} {q0 : Nat → Nat} {sz : Nat} {u0 : S10} {x1 : Int32} {x2 : Int32} {Q : Int32 → Prop} (h : wp_X10_record u0 x1 x2 Q) : ctI sxE l yX10_record wsX10_record rX10_record (dC, dI) vwCl [(cI, .int)] [.ref (q0 0), .int x1, .int x2] (cs10 cI q0 u0) sz (fun (r : Int32) (_ : Unit) => Q r) (fun (_ : Unit) => cs10 cI q0 u0) := by
  refine mx_i (cc := cX10_record) (maxL := 5) (ty := .int) (by decide) rfl (Nat.le_of_ble_eq_true rfl) ?_
  intro p e s m below meth c Z A ls args hx hb hml hown hts hA hP hK hD hE hl hret
  have hown : s.vm.findClass RX10 = some m.cls := hown
  have hl : lv_has ls 5 [(0, .ref (q0 0)), (1, .int x1), (2, .int x2)] := hl
  have w_108 : ∀ (x1 : Int32) (H : Heap) (locs : List Loc) (ls : Array Slot) (_ : va_P (dC, dI) vwCl (cs10 cI q0 u0) H) (_ : va_D A (cs10 cI q0 u0)) (_ : va_S A s.heap H locs) (_ : lv_has ls 5 [(1, .int x1), (3, .ref (q0 2))]) (_ : wp_X10_record_108 u0 Q x1), W p l e rX10_record s m args below meth c H locs 0 0 Z (F0 m 108 ls []) := by
    intro x1 H locs ls hP hD hS hl h
    refine lv_aload_n hx hb dX10_record_108 rfl (lv_at hl 1 rfl) ?_
    refine lv_iload_n hx hb dX10_record_109 rfl (lv_at hl 0 rfl) ?_
    refine cx_vi (As := [.int x1]) (rest := []) ⟨hx, hb, hml, hown, hts⟩ hl.1 ok_sxE hE hK hP hD hS hA (cut_85 cI q0 u0) (c_X2_onward (l := l) (dC := dC) (dI := dI) (cI := cI) (q0 := fun i => q0 (i + 2)) h) (cwV 1 hts gX10_record_X2_onward rfl rfl rfl hdX2_onward ⟨Nat.le_of_ble_eq_true rfl, Nat.le_of_ble_eq_true rfl⟩) rfl rfl rfl rfl (Nat.le_of_ble_eq_true rfl) dX10_record_110 rfl (fun r_1 _ H locs h hP hD hS => ?_)
    refine lv_goto (tgt := 117) hx hb dX10_record_113 (by decide) ?_
    exact hret _ _ _ _ _ () dX10_record_117 (vp_nar_int _) h hP hD hS
  have hS : va_S A s.heap s.heap [] := va_S.rf
  refine lv_aload_n hx hb dX10_record_0 rfl (lv_at hl 0 rfl) ?_
  refine va_get (D := (dC, dI)) (ci := 10) (v := .ref (q0 1)) (C := RX10) (T := TX10) (N := 6) hx hb hts inX10_record_10 hown hK hP 0 rfl rfl 0 (by decide) (hts _ kX10_record_2) (fun _ h9 => h9) rfl dX10_record_1 ?_
  refine va_get (D := (dC, dI)) (ci := 9) (v := .ref (q0 2)) (C := RX9) (T := TX9) (N := 11) hx hb hts inX10_record_9 hown hK hP 1 rfl rfl 0 (by decide) (hts _ kX10_record_1) (fun _ h9 => h9) rfl dX10_record_4 ?_
  refine lv_astore_n (lv' := [(3, .ref (q0 2)), (0, .ref (q0 0)), (1, .int x1), (2, .int x2)]) hx hb dX10_record_7 rfl hl (by decide) rfl (fun ls hl => ?_)
  refine lv_aload_n hx hb dX10_record_8 rfl (lv_at hl 0 rfl) ?_
  refine lv_iload_n hx hb dX10_record_9 rfl (lv_at hl 2 rfl) ?_
  refine cx_vi (As := [.int x1]) (rest := []) ⟨hx, hb, hml, hown, hts⟩ hl.1 ok_sxE hE hK hP hD hS hA (cut_85 cI q0 u0) (c_X2_beginsAt (l := l) (dC := dC) (dI := dI) (cI := cI) (q0 := fun i => q0 (i + 2)) h) (cwV 1 hts gX10_record_X2_beginsAt rfl rfl rfl hdX2_beginsAt ⟨Nat.le_of_ble_eq_true rfl, Nat.le_of_ble_eq_true rfl⟩) rfl rfl rfl rfl (Nat.le_of_ble_eq_true rfl) dX10_record_10 rfl (fun r_2 _ H locs h hP hD hS => ?_)
  refine lv_if_ne (tgt := 18) hx hb dX10_record_13 (by decide) (fun cd => ?_) (fun cd => ?_)
  · have h := h.2 cd
    refine lv_aload_n hx hb dX10_record_18 rfl (lv_at hl 0 rfl) ?_
    refine lv_iload_n hx hb dX10_record_19 rfl (lv_at hl 2 rfl) ?_
    refine cx_vi (As := [.int x1]) (rest := []) ⟨hx, hb, hml, hown, hts⟩ hl.1 ok_sxE hE hK hP hD hS hA (cut_85 cI q0 u0) (c_X2_byteAt (l := l) (dC := dC) (dI := dI) (cI := cI) (q0 := fun i => q0 (i + 2)) h) (cwV 1 hts gX10_record_X2_byteAt rfl rfl rfl hdX2_byteAt ⟨Nat.le_of_ble_eq_true rfl, Nat.le_of_ble_eq_true rfl⟩) rfl rfl rfl rfl (Nat.le_of_ble_eq_true rfl) dX10_record_20 rfl (fun r_3 _ H locs h hP hD hS => ?_)
    refine lv_istore (lv' := [(4, .int r_3), (3, .ref (q0 2)), (0, .ref (q0 0)), (1, .int x1), (2, .int x2)]) hx hb dX10_record_23 hl (by decide) rfl (fun ls hl => ?_)
    refine lv_iload_n hx hb dX10_record_25 rfl (lv_at hl 4 rfl) ?_
    by_cases c0 : x2 = 0
    · have h := h.1 c0
      refine lv_tableIn (tgt := 68) (off := 42) hx hb dX10_record_26 (by rw [c0]; decide) (by rw [c0]; decide) (by rw [c0]; rfl) (by decide) ?_
      refine lv_iload hx hb dX10_record_68 (lv_at hl 0 rfl) ?_
      exact hret _ _ _ _ _ () dX10_record_70 (vp_nar_int _) h hP hD hS
    have h := h.2 c0
    by_cases c1 : x2 = 1
    · have h := h.1 c1
      refine lv_tableIn (tgt := 71) (off := 45) hx hb dX10_record_26 (by rw [c1]; decide) (by rw [c1]; decide) (by rw [c1]; rfl) (by decide) ?_
      refine lv_aload_n hx hb dX10_record_71 rfl (lv_at hl 1 rfl) ?_
      refine lv_iload_n hx hb dX10_record_72 rfl (lv_at hl 3 rfl) ?_
      refine lv_iconst (v := 1) hx hb dX10_record_73 (by decide) ?_
      refine lv_iadd hx hb dX10_record_74 ?_
      refine cx_vi (As := [.int (x1 + 1)]) (rest := []) ⟨hx, hb, hml, hown, hts⟩ hl.1 ok_sxE hE hK hP hD hS hA (cut_85 cI q0 u0) (c_X2_byteAt (l := l) (dC := dC) (dI := dI) (cI := cI) (q0 := fun i => q0 (i + 2)) h) (cwV 1 hts gX10_record_X2_byteAt rfl rfl rfl hdX2_byteAt ⟨Nat.le_of_ble_eq_true rfl, Nat.le_of_ble_eq_true rfl⟩) rfl rfl rfl rfl (Nat.le_of_ble_eq_true rfl) dX10_record_75 rfl (fun r_4 _ H locs h hP hD hS => ?_)
      exact hret _ _ _ _ _ () dX10_record_78 (vp_nar_int _) h hP hD hS
    have h := h.2 c1
    by_cases c2 : x2 = 2
    · have h := h.1 c2
      refine lv_tableIn (tgt := 79) (off := 53) hx hb dX10_record_26 (by rw [c2]; decide) (by rw [c2]; decide) (by rw [c2]; rfl) (by decide) ?_
      refine lv_aload_n hx hb dX10_record_79 rfl (lv_at hl 1 rfl) ?_
      refine lv_iload_n hx hb dX10_record_80 rfl (lv_at hl 3 rfl) ?_
      refine lv_iconst (v := 2) hx hb dX10_record_81 (by decide) ?_
      refine lv_iadd hx hb dX10_record_82 ?_
      refine cx_vi (As := [.int (x1 + 2)]) (rest := []) ⟨hx, hb, hml, hown, hts⟩ hl.1 ok_sxE hE hK hP hD hS hA (cut_85 cI q0 u0) (c_X2_byteAt (l := l) (dC := dC) (dI := dI) (cI := cI) (q0 := fun i => q0 (i + 2)) h) (cwV 1 hts gX10_record_X2_byteAt rfl rfl rfl hdX2_byteAt ⟨Nat.le_of_ble_eq_true rfl, Nat.le_of_ble_eq_true rfl⟩) rfl rfl rfl rfl (Nat.le_of_ble_eq_true rfl) dX10_record_83 rfl (fun r_5 _ H locs h hP hD hS => ?_)
      exact hret _ _ _ _ _ () dX10_record_86 (vp_nar_int _) h hP hD hS
    have h := h.2 c2
    by_cases c3 : x2 = 3
    · have h := h.1 c3
      refine lv_tableIn (tgt := 87) (off := 61) hx hb dX10_record_26 (by rw [c3]; decide) (by rw [c3]; decide) (by rw [c3]; rfl) (by decide) ?_
      refine lv_aload_n hx hb dX10_record_87 rfl (lv_at hl 1 rfl) ?_
      refine lv_iload_n hx hb dX10_record_88 rfl (lv_at hl 3 rfl) ?_
      refine lv_iconst (v := 3) hx hb dX10_record_89 (by decide) ?_
      refine lv_iadd hx hb dX10_record_90 ?_
      refine cx_vi (As := [.int (x1 + 3)]) (rest := []) ⟨hx, hb, hml, hown, hts⟩ hl.1 ok_sxE hE hK hP hD hS hA (cut_85 cI q0 u0) (c_X2_pairAt (l := l) (dC := dC) (dI := dI) (cI := cI) (q0 := fun i => q0 (i + 2)) h) (cwV 1 hts gX10_record_X2_pairAt rfl rfl rfl hdX2_pairAt ⟨Nat.le_of_ble_eq_true rfl, Nat.le_of_ble_eq_true rfl⟩) rfl rfl rfl rfl (Nat.le_of_ble_eq_true rfl) dX10_record_91 rfl (fun r_6 _ H locs h hP hD hS => ?_)
      exact hret _ _ _ _ _ () dX10_record_94 (vp_nar_int _) h hP hD hS
    have h := h.2 c3
    by_cases c4 : x2 = 4
    · have h := h.1 c4
      refine lv_tableIn (tgt := 95) (off := 69) hx hb dX10_record_26 (by rw [c4]; decide) (by rw [c4]; decide) (by rw [c4]; rfl) (by decide) ?_
      refine lv_iload hx hb dX10_record_95 (lv_at hl 0 rfl) ?_
      refine lv_iconst (v := 4) hx hb dX10_record_97 (by decide) ?_
      refine lv_icmp_eq (tgt := 108) hx hb dX10_record_98 (by decide) (fun cd => ?_) (fun cd => ?_)
      · have h := h.1 cd
        exact w_108 x1 _ _ _ hP hD hS (lv_sub hl [3, 1] rfl) h
      · have h := h.2 cd
        refine lv_iload hx hb dX10_record_101 (lv_at hl 0 rfl) ?_
        refine lv_bipush (v := 9) hx hb dX10_record_103 (by decide) ?_
        refine lv_icmp_ne (tgt := 116) hx hb dX10_record_105 (by decide) (fun cd => ?_) (fun cd => ?_)
        · have h := h.2 cd
          refine lv_iconst (v := (-1)) hx hb dX10_record_116 (by decide) ?_
          exact hret _ _ _ _ _ () dX10_record_117 (vp_nar_int _) h hP hD hS
        · have h := h.1 cd
          exact w_108 x1 _ _ _ hP hD hS (lv_sub hl [3, 1] rfl) h
    have h := h.2 c4
    by_cases c5 : x2 = 5
    · have h := h.1 c5
      refine lv_tableIn (tgt := 118) (off := 92) hx hb dX10_record_26 (by rw [c5]; decide) (by rw [c5]; decide) (by rw [c5]; rfl) (by decide) ?_
      refine lv_aload_n hx hb dX10_record_118 rfl (lv_at hl 1 rfl) ?_
      refine lv_iload_n hx hb dX10_record_119 rfl (lv_at hl 3 rfl) ?_
      refine cx_vi (As := [.int x1]) (rest := []) ⟨hx, hb, hml, hown, hts⟩ hl.1 ok_sxE hE hK hP hD hS hA (cut_85 cI q0 u0) (c_X2_touches (l := l) (dC := dC) (dI := dI) (cI := cI) (q0 := fun i => q0 (i + 2)) h) (cwV 1 hts gX10_record_X2_touches rfl rfl rfl hdX2_touches ⟨Nat.le_of_ble_eq_true rfl, Nat.le_of_ble_eq_true rfl⟩) rfl rfl rfl rfl (Nat.le_of_ble_eq_true rfl) dX10_record_120 rfl (fun r_7 _ H locs h hP hD hS => ?_)
      refine lv_if_eq (tgt := 134) hx hb dX10_record_123 (by decide) (fun cd => ?_) (fun cd => ?_)
      · have h := h.1 cd
        refine lv_iconst (v := (-1)) hx hb dX10_record_134 (by decide) ?_
        exact hret _ _ _ _ _ () dX10_record_135 (vp_nar_int _) h hP hD hS
      · have h := h.2 cd
        refine lv_aload_n hx hb dX10_record_126 rfl (lv_at hl 1 rfl) ?_
        refine lv_iload_n hx hb dX10_record_127 rfl (lv_at hl 3 rfl) ?_
        refine cx_vi (As := [.int x1]) (rest := []) ⟨hx, hb, hml, hown, hts⟩ hl.1 ok_sxE hE hK hP hD hS hA (cut_85 cI q0 u0) (c_X2_addressAt (l := l) (dC := dC) (dI := dI) (cI := cI) (q0 := fun i => q0 (i + 2)) h) (cwV 1 hts gX10_record_X2_addressAt rfl rfl rfl hdX2_addressAt ⟨Nat.le_of_ble_eq_true rfl, Nat.le_of_ble_eq_true rfl⟩) rfl rfl rfl rfl (Nat.le_of_ble_eq_true rfl) dX10_record_128 rfl (fun r_8 _ H locs h hP hD hS => ?_)
        refine lv_goto (tgt := 135) hx hb dX10_record_131 (by decide) ?_
        exact hret _ _ _ _ _ () dX10_record_135 (vp_nar_int _) h hP hD hS
    have h := h.2 c5
    by_cases c6 : x2 = 6
    · have h := h.1 c6
      refine lv_tableIn (tgt := 136) (off := 110) hx hb dX10_record_26 (by rw [c6]; decide) (by rw [c6]; decide) (by rw [c6]; rfl) (by decide) ?_
      refine lv_aload_n hx hb dX10_record_136 rfl (lv_at hl 1 rfl) ?_
      refine lv_iload_n hx hb dX10_record_137 rfl (lv_at hl 3 rfl) ?_
      refine cx_vi (As := [.int x1]) (rest := []) ⟨hx, hb, hml, hown, hts⟩ hl.1 ok_sxE hE hK hP hD hS hA (cut_85 cI q0 u0) (c_X2_behind (l := l) (dC := dC) (dI := dI) (cI := cI) (q0 := fun i => q0 (i + 2)) h) (cwV 1 hts gX10_record_X2_behind rfl rfl rfl hdX2_behind ⟨Nat.le_of_ble_eq_true rfl, Nat.le_of_ble_eq_true rfl⟩) rfl rfl rfl rfl (Nat.le_of_ble_eq_true rfl) dX10_record_138 rfl (fun r_9 _ H locs h hP hD hS => ?_)
      refine lv_aload_n hx hb dX10_record_141 rfl (lv_at hl 1 rfl) ?_
      refine va_get (D := (dC, dI)) (ci := 2) (v := .int (g2_flushedPlace (g9_journal (g10_now u0)))) (C := RX2) (T := TX2) (N := 4) hx hb hts inX10_record_2 hown hK hP 2 rfl rfl 2 (by decide) (hts _ kX10_record_0) (fun _ h9 => h9) rfl dX10_record_142 ?_
      refine lv_icmp_gt (tgt := 152) hx hb dX10_record_145 (by decide) (fun cd => ?_) (fun cd => ?_)
      · have h := h.1 cd
        refine lv_iconst (v := 0) hx hb dX10_record_152 (by decide) ?_
        exact hret _ _ _ _ _ () dX10_record_153 (vp_nar_int _) h hP hD hS
      · have h := h.2 cd
        refine lv_iconst (v := 1) hx hb dX10_record_148 (by decide) ?_
        refine lv_goto (tgt := 153) hx hb dX10_record_149 (by decide) ?_
        exact hret _ _ _ _ _ () dX10_record_153 (vp_nar_int _) h hP hD hS
    have h := h.2 c6
    refine lv_tableOut (tgt := 154) hx hb dX10_record_26 (by have z0 := lv_neT (a := 0) c0 (by decide); have z1 := lv_neT (a := 1) c1 (by decide); have z2 := lv_neT (a := 2) c2 (by decide); have z3 := lv_neT (a := 3) c3 (by decide); have z4 := lv_neT (a := 4) c4 (by decide); have z5 := lv_neT (a := 5) c5 (by decide); have z6 := lv_neT (a := 6) c6 (by decide); omega) (by decide) ?_
    refine lv_iconst (v := (-1)) hx hb dX10_record_154 (by decide) ?_
    exact hret _ _ _ _ _ () dX10_record_155 (vp_nar_int _) h hP hD hS
  · have h := h.1 cd
    refine lv_iconst (v := (-1)) hx hb dX10_record_16 (by decide) ?_
    exact hret _ _ _ _ _ () dX10_record_17 (vp_nar_int _) h hP hD hS

abbrev rX10_victim : Room := { frames := 5, cells := 0, slots := 0, locals := 108 }
theorem hdX10_victim : yX10_victim.cls = RX10 ∧ yX10_victim.cls ≠ "java/lang/invoke/MethodHandle" ∧ yX10_victim.cls ≠ "java/lang/invoke/VarHandle" ∧ (parseMethodDescriptor yX10_victim.desc).map (fun d => d.parameters.length) = some 0 := by decide +kernel
theorem inX10_victim_10 : ∀ w ∈ wsX100, w ∈ wsX10_victim := by decide +kernel
theorem inX10_victim_9 : ∀ w ∈ wsX90, w ∈ wsX10_victim := by decide +kernel
theorem kX10_victim_0 : Cond.fieldLink RX10 10 "AheadStore" "now" "LAheadStore$World;" ∈ wsX10_victim := by decide +kernel
theorem kX10_victim_1 : Cond.fieldLink RX10 160 "AheadStore$World" "claims" "LAheadStore$Claims;" ∈ wsX10_victim := by decide +kernel
set_option maxHeartbeats 4000000 in
set_option maxRecDepth 100000 in
theorem c_X10_victim {l : Launch} {dC : Nat → ClassId} {dI : Nat → Nat → Nat} {cI : ClassId} {q0 : Nat → Nat} {sz : Nat} {u0 : S10}  {Q : Int32 → Prop} (h : wp_X10_victim u0 Q) : ctI sxE l yX10_victim wsX10_victim rX10_victim (dC, dI) vwCl [(cI, .int)] [.ref (q0 0)] (cs10 cI q0 u0) sz (fun (r : Int32) (_ : Unit) => Q r) (fun (_ : Unit) => cs10 cI q0 u0) := by
  refine mx_i (cc := cX10_victim) (maxL := 5) (ty := .int) (by decide) rfl (Nat.le_of_ble_eq_true rfl) ?_
  intro p e s m below meth c Z A ls args hx hb hml hown hts hA hP hK hD hE hl hret
  have hown : s.vm.findClass RX10 = some m.cls := hown
  have hl : lv_has ls 5 [(0, .ref (q0 0))] := hl
  have w_52 : ∀ (k_6 : Int32 → Int32 → Int32 → Prop) (hk_6 : ∀ (x1 : Int32) (x2 : Int32) (x3 : Int32) (H : Heap) (locs : List Loc) (ls : Array Slot) (_ : va_P (dC, dI) vwCl (cs10 cI q0 u0) H) (_ : va_D A (cs10 cI q0 u0)) (_ : va_S A s.heap H locs) (_ : lv_has ls 5 [(0, .ref (q0 0)), (1, .int x1), (2, .int x2), (3, .int x3)]) (_ : k_6 x1 x2 x3), W p l e rX10_victim s m args below meth c H locs 0 0 Z (F0 m 6 ls [])) (x1 : Int32) (x2 : Int32) (x3 : Int32) (H : Heap) (locs : List Loc) (ls : Array Slot) (_ : va_P (dC, dI) vwCl (cs10 cI q0 u0) H) (_ : va_D A (cs10 cI q0 u0)) (_ : va_S A s.heap H locs) (_ : lv_has ls 5 [(0, .ref (q0 0)), (1, .int x1), (2, .int x2), (3, .int x3)]) (_ : wp_X10_victim_52 u0 k_6 Q x1 x2 x3), W p l e rX10_victim s m args below meth c H locs 0 0 Z (F0 m 52 ls []) := by
    intro k_6 hk_6 x1 x2 x3 H locs ls hP hD hS hl h
    obtain ⟨x3_1, e_x3_1⟩ : ∃ z : Int32, z = x3 + 1 := ⟨_, rfl⟩
    have h := h x3_1 e_x3_1
    refine lv_iinc (v := x3_1) (lv' := [(3, .int x3_1), (0, .ref (q0 0)), (1, .int x1), (2, .int x2)]) hx hb dX10_victim_52 hl (k := 3) rfl (by rw [e_x3_1]; rfl) (by decide) rfl (fun ls hl => ?_)
    refine lv_goto (tgt := 6) hx hb dX10_victim_55 (by decide) ?_
    exact hk_6 x1 x2 x3_1 _ _ _ hP hD hS (lv_sub hl [1, 2, 3, 0] rfl) h
  have w_47 : ∀ (k_52 : Int32 → Int32 → Int32 → Prop) (hk_52 : ∀ (x1 : Int32) (x2 : Int32) (x3 : Int32) (H : Heap) (locs : List Loc) (ls : Array Slot) (_ : va_P (dC, dI) vwCl (cs10 cI q0 u0) H) (_ : va_D A (cs10 cI q0 u0)) (_ : va_S A s.heap H locs) (_ : lv_has ls 5 [(0, .ref (q0 0)), (1, .int x1), (2, .int x2), (3, .int x3)]) (_ : k_52 x1 x2 x3), W p l e rX10_victim s m args below meth c H locs 0 0 Z (F0 m 52 ls [])) (x3 : Int32) (x4 : Int32) (H : Heap) (locs : List Loc) (ls : Array Slot) (_ : va_P (dC, dI) vwCl (cs10 cI q0 u0) H) (_ : va_D A (cs10 cI q0 u0)) (_ : va_S A s.heap H locs) (_ : lv_has ls 5 [(0, .ref (q0 0)), (3, .int x3), (4, .int x4)]) (_ : wp_X10_victim_47 u0 k_52 Q x3 x4), W p l e rX10_victim s m args below meth c H locs 0 0 Z (F0 m 47 ls []) := by
    intro k_52 hk_52 x3 x4 H locs ls hP hD hS hl h
    refine lv_iload_n hx hb dX10_victim_47 rfl (lv_at hl 1 rfl) ?_
    refine lv_istore_n (lv' := [(2, .int x3), (0, .ref (q0 0)), (3, .int x3), (4, .int x4)]) hx hb dX10_victim_48 rfl hl (by decide) rfl (fun ls hl => ?_)
    refine lv_iload hx hb dX10_victim_49 (lv_at hl 3 rfl) ?_
    refine lv_istore_n (lv' := [(1, .int x4), (2, .int x3), (0, .ref (q0 0)), (3, .int x3), (4, .int x4)]) hx hb dX10_victim_51 rfl hl (by decide) rfl (fun ls hl => ?_)
    exact hk_52 x4 x3 x3 _ _ _ hP hD hS (lv_sub hl [2, 0, 1, 3] rfl) h
  have w_6 : ∀ (n : Nat) (x1 : Int32) (x2 : Int32) (x3 : Int32) (H : Heap) (locs : List Loc) (ls : Array Slot) (_ : va_P (dC, dI) vwCl (cs10 cI q0 u0) H) (_ : va_D A (cs10 cI q0 u0)) (_ : va_S A s.heap H locs) (_ : lv_has ls 5 [(0, .ref (q0 0)), (1, .int x1), (2, .int x2), (3, .int x3)]) (_ : wp_X10_victim_6 u0 Q n x1 x2 x3), W p l e rX10_victim s m args below meth c H locs 0 0 Z (F0 m 6 ls []) := by
    intro n
    induction n with
    | zero => intro x1 x2 x3 H locs ls hP hD hS hl h; exact False.elim h
    | succ n ih =>
      intro x1 x2 x3 H locs ls hP hD hS hl h
      refine lv_iload_n hx hb dX10_victim_6 rfl (lv_at hl 3 rfl) ?_
      refine lv_bipush (v := 9) hx hb dX10_victim_7 (by decide) ?_
      refine lv_icmp_gt (tgt := 58) hx hb dX10_victim_9 (by decide) (fun cd => ?_) (fun cd => ?_)
      · have h := h.1 cd
        refine lv_iload_n hx hb dX10_victim_58 rfl (lv_at hl 2 rfl) ?_
        exact hret _ _ _ _ _ () dX10_victim_59 (vp_nar_int _) h hP hD hS
      · have h := h.2 cd
        refine lv_aload_n hx hb dX10_victim_12 rfl (lv_at hl 0 rfl) ?_
        refine va_get (D := (dC, dI)) (ci := 10) (v := .ref (q0 1)) (C := RX10) (T := TX10) (N := 6) hx hb hts inX10_victim_10 hown hK hP 0 rfl rfl 0 (by decide) (hts _ kX10_victim_0) (fun _ h9 => h9) rfl dX10_victim_13 ?_
        refine va_get (D := (dC, dI)) (ci := 9) (v := .ref (q0 18)) (C := RX9) (T := TX9) (N := 11) hx hb hts inX10_victim_9 hown hK hP 1 rfl rfl 3 (by decide) (hts _ kX10_victim_1) (fun _ h9 => h9) rfl dX10_victim_16 ?_
        refine lv_iload_n hx hb dX10_victim_19 rfl (lv_at hl 3 rfl) ?_
        refine cx_vi (As := [.int x3]) (rest := []) ⟨hx, hb, hml, hown, hts⟩ hl.1 ok_sxE hE hK hP hD hS hA (cut_83 cI q0 u0) (c_X0_deadlocked (l := l) (dC := dC) (dI := dI) (cI := cI) (q0 := fun i => q0 (i + 18)) h) (cwV 1 hts gX10_victim_X0_deadlocked rfl rfl rfl hdX0_deadlocked ⟨Nat.le_of_ble_eq_true rfl, Nat.le_of_ble_eq_true rfl⟩) rfl rfl rfl rfl (Nat.le_of_ble_eq_true rfl) dX10_victim_20 rfl (fun r_2 _ H locs h hP hD hS => ?_)
        refine lv_if_eq (tgt := 52) hx hb dX10_victim_23 (by decide) (fun cd => ?_) (fun cd => ?_)
        · have h := h.1 cd
          exact w_52 (fun x1 x2 x3 => wp_X10_victim_6 u0 Q n x1 x2 x3) (fun x1 x2 x3 H locs ls hP hD hS hl h => ih x1 x2 x3 H locs ls hP hD hS hl h) x1 x2 x3 _ _ _ hP hD hS (lv_sub hl [0, 1, 2, 3] rfl) h
        · have h := h.2 cd
          refine lv_aload_n hx hb dX10_victim_26 rfl (lv_at hl 0 rfl) ?_
          refine va_get (D := (dC, dI)) (ci := 10) (v := .ref (q0 1)) (C := RX10) (T := TX10) (N := 6) hx hb hts inX10_victim_10 hown hK hP 0 rfl rfl 0 (by decide) (hts _ kX10_victim_0) (fun _ h9 => h9) rfl dX10_victim_27 ?_
          refine lv_iload_n hx hb dX10_victim_30 rfl (lv_at hl 3 rfl) ?_
          refine cx_vi (As := [.int x3]) (rest := []) ⟨hx, hb, hml, hown, hts⟩ hl.1 ok_sxE hE hK hP hD hS hA (cut_82 cI q0 u0) (c_X9_cost (l := l) (dC := dC) (dI := dI) (cI := cI) (q0 := fun i => q0 (i + 1)) h) (cwV 1 hts gX10_victim_X9_cost rfl rfl rfl hdX9_cost ⟨Nat.le_of_ble_eq_true rfl, Nat.le_of_ble_eq_true rfl⟩) rfl rfl rfl rfl (Nat.le_of_ble_eq_true rfl) dX10_victim_31 rfl (fun r_3 _ H locs h hP hD hS => ?_)
          refine lv_istore (lv' := [(4, .int r_3), (0, .ref (q0 0)), (1, .int x1), (2, .int x2), (3, .int x3)]) hx hb dX10_victim_34 hl (by decide) rfl (fun ls hl => ?_)
          refine lv_iload_n hx hb dX10_victim_36 rfl (lv_at hl 3 rfl) ?_
          refine lv_iconst (v := (-1)) hx hb dX10_victim_37 (by decide) ?_
          refine lv_icmp_eq (tgt := 47) hx hb dX10_victim_38 (by decide) (fun cd => ?_) (fun cd => ?_)
          · have h := h.1 cd
            exact w_47 (fun x1 x2 x3 => wp_X10_victim_52 u0 (fun x1 x2 x3 => wp_X10_victim_6 u0 Q n x1 x2 x3) Q x1 x2 x3) (fun x1 x2 x3 H locs ls hP hD hS hl h => w_52 (fun x1 x2 x3 => wp_X10_victim_6 u0 Q n x1 x2 x3) (fun x1 x2 x3 H locs ls hP hD hS hl h => ih x1 x2 x3 H locs ls hP hD hS hl h) x1 x2 x3 H locs ls hP hD hS hl h) x3 r_3 _ _ _ hP hD hS (lv_sub hl [1, 4, 0] rfl) h
          · have h := h.2 cd
            refine lv_iload hx hb dX10_victim_41 (lv_at hl 0 rfl) ?_
            refine lv_iload_n hx hb dX10_victim_43 rfl (lv_at hl 2 rfl) ?_
            refine lv_icmp_ge (tgt := 52) hx hb dX10_victim_44 (by decide) (fun cd => ?_) (fun cd => ?_)
            · have h := h.1 cd
              exact w_52 (fun x1 x2 x3 => wp_X10_victim_6 u0 Q n x1 x2 x3) (fun x1 x2 x3 H locs ls hP hD hS hl h => ih x1 x2 x3 H locs ls hP hD hS hl h) x1 x2 x3 _ _ _ hP hD hS (lv_sub hl [1, 2, 3, 4] rfl) h
            · have h := h.2 cd
              exact w_47 (fun x1 x2 x3 => wp_X10_victim_52 u0 (fun x1 x2 x3 => wp_X10_victim_6 u0 Q n x1 x2 x3) Q x1 x2 x3) (fun x1 x2 x3 H locs ls hP hD hS hl h => w_52 (fun x1 x2 x3 => wp_X10_victim_6 u0 Q n x1 x2 x3) (fun x1 x2 x3 H locs ls hP hD hS hl h => ih x1 x2 x3 H locs ls hP hD hS hl h) x1 x2 x3 H locs ls hP hD hS hl h) x3 r_3 _ _ _ hP hD hS (lv_sub hl [1, 4, 0] rfl) h
  have hS : va_S A s.heap s.heap [] := va_S.rf
  refine lv_iconst (v := 0) hx hb dX10_victim_0 (by decide) ?_
  refine lv_istore_n (lv' := [(1, .int 0), (0, .ref (q0 0))]) hx hb dX10_victim_1 rfl hl (by decide) rfl (fun ls hl => ?_)
  refine lv_iconst (v := (-1)) hx hb dX10_victim_2 (by decide) ?_
  refine lv_topi (fun x2_4 e_x2_4 => ?_)
  have h := h x2_4 e_x2_4
  refine lv_istore_n (lv' := [(2, .int x2_4), (1, .int 0), (0, .ref (q0 0))]) hx hb dX10_victim_3 rfl hl (by decide) rfl (fun ls hl => ?_)
  refine lv_iconst (v := 1) hx hb dX10_victim_4 (by decide) ?_
  refine lv_istore_n (lv' := [(3, .int 1), (2, .int x2_4), (1, .int 0), (0, .ref (q0 0))]) hx hb dX10_victim_5 rfl hl (by decide) rfl (fun ls hl => ?_)
  obtain ⟨n0, h⟩ := h
  exact w_6 n0 0 x2_4 1 _ _ _ hP hD hS (lv_sub hl [3, 2, 1, 0] rfl) h

set_option maxRecDepth 100000 in
theorem cut_86 (cI : ClassId) (q0 : Nat → Nat) (u0 : S10) : Cut (cs10 cI q0 u0) (cs7 cI (fun i => q0 (i + 26)) (g9_standby (g10_now u0)) ++ cs2 cI (fun i => q0 (i + 2)) (g9_journal (g10_now u0))) (fun v : S7 => cs7 cI (fun i => q0 (i + 26)) v ++ cs2 cI (fun i => q0 (i + 2)) (g9_journal (g10_now u0))) (fun v : S7 => cs10 cI q0 (s10_now u0 (s9_standby (g10_now u0) v))) := ⟨[26, 27, 28, 2, 3], [0, 1, 4, 5, 6, 7, 8, 9, 10, 11, 12, 13, 14, 15, 16, 17, 18, 19, 20, 21, 22, 23, 24, 25, 29, 30, 31, 32, 33, 34, 35, 36, 37, 38, 39, 40, 41], rfl, rfl, rfl, by decide, by decide, fun v => ⟨[0, 1, 40, 41, 2, 3, 4, 5, 6, 7, 8, 9, 10, 11, 12, 13, 14, 15, 16, 17, 18, 19, 20, 21, 22, 23, 37, 38, 39, 24, 25, 26, 27, 28, 29, 30, 31, 32, 33, 34, 35, 36], rfl, rfl⟩⟩

abbrev rX10_ship : Room := { frames := 4, cells := 0, slots := 0, locals := 92 }
theorem hdX10_ship : yX10_ship.cls = RX10 ∧ yX10_ship.cls ≠ "java/lang/invoke/MethodHandle" ∧ yX10_ship.cls ≠ "java/lang/invoke/VarHandle" ∧ (parseMethodDescriptor yX10_ship.desc).map (fun d => d.parameters.length) = some 1 := by decide +kernel
theorem inX10_ship_10 : ∀ w ∈ wsX100, w ∈ wsX10_ship := by decide +kernel
theorem inX10_ship_7 : ∀ w ∈ wsX70, w ∈ wsX10_ship := by decide +kernel
theorem inX10_ship_9 : ∀ w ∈ wsX90, w ∈ wsX10_ship := by decide +kernel
theorem kX10_ship_0 : Cond.fieldLink RX10 291 "AheadStore$Standby" "received" "I" ∈ wsX10_ship := by decide +kernel
theorem kX10_ship_1 : Cond.fieldLink RX10 281 "AheadStore$World" "standby" "LAheadStore$Standby;" ∈ wsX10_ship := by decide +kernel
theorem kX10_ship_2 : Cond.fieldLink RX10 10 "AheadStore" "now" "LAheadStore$World;" ∈ wsX10_ship := by decide +kernel
theorem kX10_ship_3 : Cond.fieldLink RX10 223 "AheadStore$World" "journal" "LAheadStore$Journal;" ∈ wsX10_ship := by decide +kernel
set_option maxHeartbeats 4000000 in
set_option maxRecDepth 100000 in
theorem c_X10_ship {l : Launch} {dC : Nat → ClassId} {dI : Nat → Nat → Nat} {cI : ClassId} {q0 : Nat → Nat} {sz : Nat} {u0 : S10} {x1 : Int32} {Q : Int32 → S10 → Prop} (h : wp_X10_ship u0 x1 Q) : ctI sxE l yX10_ship wsX10_ship rX10_ship (dC, dI) vwCl [(cI, .int)] [.ref (q0 0), .int x1] (cs10 cI q0 u0) sz (fun (r : Int32) (v : S10) => Q r v) (fun (v : S10) => cs10 cI q0 v) := by
  refine mx_i (cc := cX10_ship) (maxL := 2) (ty := .int) (by decide) rfl (Nat.le_of_ble_eq_true rfl) ?_
  intro p e s m below meth c Z A ls args hx hb hml hown hts hA hP hK hD hE hl hret
  have hown : s.vm.findClass RX10 = some m.cls := hown
  have hl : lv_has ls 2 [(0, .ref (q0 0)), (1, .int x1)] := hl
  have hS : va_S A s.heap s.heap [] := va_S.rf
  refine lv_iload_n hx hb dX10_ship_0 rfl (lv_at hl 1 rfl) ?_
  refine lv_iconst (v := 1) hx hb dX10_ship_1 (by decide) ?_
  refine lv_icmp_lt (tgt := 12) hx hb dX10_ship_2 (by decide) (fun cd => ?_) (fun cd => ?_)
  · have h := h.1 cd
    refine lv_iconst (v := (-1)) hx hb dX10_ship_12 (by decide) ?_
    exact hret _ _ _ _ _ u0 dX10_ship_13 (vp_nar_int _) h hP hD hS
  · have h := h.2 cd
    refine lv_iload_n hx hb dX10_ship_5 rfl (lv_at hl 1 rfl) ?_
    refine lv_sipush (v := 999) hx hb dX10_ship_6 (by decide) ?_
    refine lv_icmp_le (tgt := 14) hx hb dX10_ship_9 (by decide) (fun cd => ?_) (fun cd => ?_)
    · have h := h.1 cd
      refine lv_aload_n hx hb dX10_ship_14 rfl (lv_at hl 0 rfl) ?_
      refine va_get (D := (dC, dI)) (ci := 10) (v := .ref (q0 1)) (C := RX10) (T := TX10) (N := 6) hx hb hts inX10_ship_10 hown hK hP 0 rfl rfl 0 (by decide) (hts _ kX10_ship_2) (fun _ h9 => h9) rfl dX10_ship_15 ?_
      refine va_get (D := (dC, dI)) (ci := 9) (v := .ref (q0 26)) (C := RX9) (T := TX9) (N := 11) hx hb hts inX10_ship_9 hown hK hP 1 rfl rfl 4 (by decide) (hts _ kX10_ship_1) (fun _ h9 => h9) rfl dX10_ship_18 ?_
      refine lv_aload_n hx hb dX10_ship_21 rfl (lv_at hl 0 rfl) ?_
      refine va_get (D := (dC, dI)) (ci := 10) (v := .ref (q0 1)) (C := RX10) (T := TX10) (N := 6) hx hb hts inX10_ship_10 hown hK hP 0 rfl rfl 0 (by decide) (hts _ kX10_ship_2) (fun _ h9 => h9) rfl dX10_ship_22 ?_
      refine va_get (D := (dC, dI)) (ci := 9) (v := .ref (q0 2)) (C := RX9) (T := TX9) (N := 11) hx hb hts inX10_ship_9 hown hK hP 1 rfl rfl 0 (by decide) (hts _ kX10_ship_3) (fun _ h9 => h9) rfl dX10_ship_25 ?_
      refine lv_iload_n hx hb dX10_ship_28 rfl (lv_at hl 1 rfl) ?_
      refine cx_vv (As := [.ref (q0 2), .int x1]) (rest := []) ⟨hx, hb, hml, hown, hts⟩ hl.1 ok_sxE hE hK hP hD hS hA (cut_86 cI q0 u0) (c_X7_take (l := l) (dC := dC) (dI := dI) (cI := cI) (q0 := fun i => q0 (i + 26)) (q1 := fun i => q0 (i + 2)) h) (cwV 2 hts gX10_ship_X7_take rfl rfl rfl hdX7_take ⟨Nat.le_of_ble_eq_true rfl, Nat.le_of_ble_eq_true rfl⟩) rfl rfl rfl rfl (Nat.le_of_ble_eq_true rfl) dX10_ship_29 rfl (fun v_1 H locs h hP hD hS => ?_)
      obtain ⟨u0_2, e_u0_2⟩ : ∃ z, z = s10_now u0 (s9_standby (g10_now u0) v_1) := ⟨_, rfl⟩
      have h := h u0_2 e_u0_2
      have hP : va_P (dC, dI) vwCl (cs10 cI q0 u0_2) H := by rw [e_u0_2]; exact hP
      have hD : va_D A (cs10 cI q0 u0_2) := by rw [e_u0_2]; exact hD
      refine lv_aload_n hx hb dX10_ship_32 rfl (lv_at hl 0 rfl) ?_
      refine va_get (D := (dC, dI)) (ci := 10) (v := .ref (q0 1)) (C := RX10) (T := TX10) (N := 6) hx hb hts inX10_ship_10 hown hK hP 0 rfl rfl 0 (by decide) (hts _ kX10_ship_2) (fun _ h9 => h9) rfl dX10_ship_33 ?_
      refine va_get (D := (dC, dI)) (ci := 9) (v := .ref (q0 26)) (C := RX9) (T := TX9) (N := 11) hx hb hts inX10_ship_9 hown hK hP 1 rfl rfl 4 (by decide) (hts _ kX10_ship_1) (fun _ h9 => h9) rfl dX10_ship_36 ?_
      refine va_get (D := (dC, dI)) (ci := 7) (v := .int (g7_received (g9_standby (g10_now u0_2)))) (C := RX7) (T := TX7) (N := 4) hx hb hts inX10_ship_7 hown hK hP 26 rfl rfl 2 (by decide) (hts _ kX10_ship_0) (fun _ h9 => h9) rfl dX10_ship_39 ?_
      exact hret _ _ _ _ _ u0_2 dX10_ship_42 (vp_nar_int _) h hP hD hS
    · have h := h.2 cd
      refine lv_iconst (v := (-1)) hx hb dX10_ship_12 (by decide) ?_
      exact hret _ _ _ _ _ u0 dX10_ship_13 (vp_nar_int _) h hP hD hS

set_option maxRecDepth 100000 in
theorem cut_87 (cI : ClassId) (q0 : Nat → Nat) (u0 : S10) : Cut (cs10 cI q0 u0) (cs1 cI (fun i => q0 (i + 37)) (g10_hindsight u0) ++ cs2 cI (fun i => q0 (i + 2)) (g9_journal (g10_now u0)) ++ cs7 cI (fun i => q0 (i + 26)) (g9_standby (g10_now u0))) (fun v : S1 => cs1 cI (fun i => q0 (i + 37)) v ++ cs2 cI (fun i => q0 (i + 2)) (g9_journal (g10_now u0)) ++ cs7 cI (fun i => q0 (i + 26)) (g9_standby (g10_now u0))) (fun v : S1 => cs10 cI q0 (s10_hindsight u0 v)) := ⟨[37, 38, 39, 40, 41, 2, 3, 26, 27, 28], [0, 1, 4, 5, 6, 7, 8, 9, 10, 11, 12, 13, 14, 15, 16, 17, 18, 19, 20, 21, 22, 23, 24, 25, 29, 30, 31, 32, 33, 34, 35, 36], rfl, rfl, rfl, by decide, by decide, fun v => ⟨[0, 1, 37, 38, 2, 3, 4, 5, 6, 7, 8, 9, 10, 11, 12, 13, 14, 15, 16, 17, 18, 19, 20, 21, 22, 23, 39, 40, 41, 24, 25, 26, 27, 28, 29, 30, 31, 32, 33, 34, 35, 36], rfl, rfl⟩⟩

abbrev rX10_stand : Room := { frames := 5, cells := 0, slots := 0, locals := 116 }
theorem hdX10_stand : yX10_stand.cls = RX10 ∧ yX10_stand.cls ≠ "java/lang/invoke/MethodHandle" ∧ yX10_stand.cls ≠ "java/lang/invoke/VarHandle" ∧ (parseMethodDescriptor yX10_stand.desc).map (fun d => d.parameters.length) = some 2 := by decide +kernel
theorem inX10_stand_10 : ∀ w ∈ wsX100, w ∈ wsX10_stand := by decide +kernel
theorem inX10_stand_7 : ∀ w ∈ wsX70, w ∈ wsX10_stand := by decide +kernel
theorem inX10_stand_9 : ∀ w ∈ wsX90, w ∈ wsX10_stand := by decide +kernel
theorem kX10_stand_0 : Cond.fieldLink RX10 294 "AheadStore$Standby" "row" "[I" ∈ wsX10_stand := by decide +kernel
theorem kX10_stand_1 : Cond.fieldLink RX10 281 "AheadStore$World" "standby" "LAheadStore$Standby;" ∈ wsX10_stand := by decide +kernel
theorem kX10_stand_2 : Cond.fieldLink RX10 10 "AheadStore" "now" "LAheadStore$World;" ∈ wsX10_stand := by decide +kernel
theorem kX10_stand_3 : Cond.fieldLink RX10 223 "AheadStore$World" "journal" "LAheadStore$Journal;" ∈ wsX10_stand := by decide +kernel
theorem kX10_stand_4 : Cond.fieldLink RX10 33 "AheadStore" "hindsight" "LAheadStore$Hindsight;" ∈ wsX10_stand := by decide +kernel
theorem kX10_stand_5 : Cond.fieldLink RX10 301 "AheadStore$Standby" "stamps" "[I" ∈ wsX10_stand := by decide +kernel
set_option maxHeartbeats 4000000 in
set_option maxRecDepth 100000 in
theorem c_X10_stand {l : Launch} {dC : Nat → ClassId} {dI : Nat → Nat → Nat} {cI : ClassId} {q0 : Nat → Nat} {sz : Nat} {u0 : S10} {x1 : Int32} {x2 : Int32} {Q : Int32 → S10 → Prop} (h : wp_X10_stand u0 x1 x2 Q) : ctI sxE l yX10_stand wsX10_stand rX10_stand (dC, dI) vwCl [(cI, .int)] [.ref (q0 0), .int x1, .int x2] (cs10 cI q0 u0) sz (fun (r : Int32) (v : S10) => Q r v) (fun (v : S10) => cs10 cI q0 v) := by
  refine mx_i (cc := cX10_stand) (maxL := 3) (ty := .int) (by decide) rfl (Nat.le_of_ble_eq_true rfl) ?_
  intro p e s m below meth c Z A ls args hx hb hml hown hts hA hP hK hD hE hl hret
  have hown : s.vm.findClass RX10 = some m.cls := hown
  have hl : lv_has ls 3 [(0, .ref (q0 0)), (1, .int x1), (2, .int x2)] := hl
  have hS : va_S A s.heap s.heap [] := va_S.rf
  refine lv_iload_n hx hb dX10_stand_0 rfl (lv_at hl 1 rfl) ?_
  refine lv_if_lt (tgt := 11) hx hb dX10_stand_1 (by decide) (fun cd => ?_) (fun cd => ?_)
  · have h := h.1 cd
    refine lv_iconst (v := (-1)) hx hb dX10_stand_11 (by decide) ?_
    exact hret _ _ _ _ _ u0 dX10_stand_12 (vp_nar_int _) h hP hD hS
  · have h := h.2 cd
    refine lv_iload_n hx hb dX10_stand_4 rfl (lv_at hl 1 rfl) ?_
    refine lv_sipush (v := 256) hx hb dX10_stand_5 (by decide) ?_
    refine lv_icmp_lt (tgt := 13) hx hb dX10_stand_8 (by decide) (fun cd => ?_) (fun cd => ?_)
    · have h := h.1 cd
      refine lv_iload_n hx hb dX10_stand_13 rfl (lv_at hl 2 rfl) ?_
      by_cases c0 : x2 = 0
      · have h := h.1 c0
        refine lv_tableIn (tgt := 40) (off := 26) hx hb dX10_stand_14 (by rw [c0]; decide) (by rw [c0]; decide) (by rw [c0]; rfl) (by decide) ?_
        refine lv_aload_n hx hb dX10_stand_40 rfl (lv_at hl 0 rfl) ?_
        refine va_get (D := (dC, dI)) (ci := 10) (v := .ref (q0 1)) (C := RX10) (T := TX10) (N := 6) hx hb hts inX10_stand_10 hown hK hP 0 rfl rfl 0 (by decide) (hts _ kX10_stand_2) (fun _ h9 => h9) rfl dX10_stand_41 ?_
        refine va_get (D := (dC, dI)) (ci := 9) (v := .ref (q0 26)) (C := RX9) (T := TX9) (N := 11) hx hb hts inX10_stand_9 hown hK hP 1 rfl rfl 4 (by decide) (hts _ kX10_stand_1) (fun _ h9 => h9) rfl dX10_stand_44 ?_
        refine va_get (D := (dC, dI)) (ci := 7) (v := .ref (q0 27)) (C := RX7) (T := TX7) (N := 4) hx hb hts inX10_stand_7 hown hK hP 26 rfl rfl 0 (by decide) (hts _ kX10_stand_0) (fun _ h9 => h9) rfl dX10_stand_47 ?_
        refine lv_iload_n hx hb dX10_stand_50 rfl (lv_at hl 1 rfl) ?_
        refine va_iald hx hb hK hP 27 0 rfl rfl h.1 dX10_stand_51 ?_
        have h := h.2
        exact hret _ _ _ _ _ u0 dX10_stand_52 (vp_nar_int _) h hP hD hS
      have h := h.2 c0
      by_cases c1 : x2 = 1
      · have h := h.1 c1
        refine lv_tableIn (tgt := 53) (off := 39) hx hb dX10_stand_14 (by rw [c1]; decide) (by rw [c1]; decide) (by rw [c1]; rfl) (by decide) ?_
        refine lv_aload_n hx hb dX10_stand_53 rfl (lv_at hl 0 rfl) ?_
        refine va_get (D := (dC, dI)) (ci := 10) (v := .ref (q0 37)) (C := RX10) (T := TX10) (N := 6) hx hb hts inX10_stand_10 hown hK hP 0 rfl rfl 3 (by decide) (hts _ kX10_stand_4) (fun _ h9 => h9) rfl dX10_stand_54 ?_
        refine lv_aload_n hx hb dX10_stand_57 rfl (lv_at hl 0 rfl) ?_
        refine va_get (D := (dC, dI)) (ci := 10) (v := .ref (q0 1)) (C := RX10) (T := TX10) (N := 6) hx hb hts inX10_stand_10 hown hK hP 0 rfl rfl 0 (by decide) (hts _ kX10_stand_2) (fun _ h9 => h9) rfl dX10_stand_58 ?_
        refine va_get (D := (dC, dI)) (ci := 9) (v := .ref (q0 2)) (C := RX9) (T := TX9) (N := 11) hx hb hts inX10_stand_9 hown hK hP 1 rfl rfl 0 (by decide) (hts _ kX10_stand_3) (fun _ h9 => h9) rfl dX10_stand_61 ?_
        refine lv_aload_n hx hb dX10_stand_64 rfl (lv_at hl 0 rfl) ?_
        refine va_get (D := (dC, dI)) (ci := 10) (v := .ref (q0 1)) (C := RX10) (T := TX10) (N := 6) hx hb hts inX10_stand_10 hown hK hP 0 rfl rfl 0 (by decide) (hts _ kX10_stand_2) (fun _ h9 => h9) rfl dX10_stand_65 ?_
        refine va_get (D := (dC, dI)) (ci := 9) (v := .ref (q0 26)) (C := RX9) (T := TX9) (N := 11) hx hb hts inX10_stand_9 hown hK hP 1 rfl rfl 4 (by decide) (hts _ kX10_stand_1) (fun _ h9 => h9) rfl dX10_stand_68 ?_
        refine lv_iload_n hx hb dX10_stand_71 rfl (lv_at hl 1 rfl) ?_
        refine cx_vi (As := [.ref (q0 2), .ref (q0 26), .int x1]) (rest := []) ⟨hx, hb, hml, hown, hts⟩ hl.1 ok_sxE hE hK hP hD hS hA (cut_87 cI q0 u0) (c_X1_takenOver (l := l) (dC := dC) (dI := dI) (cI := cI) (q0 := fun i => q0 (i + 37)) (q1 := fun i => q0 (i + 2)) (q2 := fun i => q0 (i + 26)) h) (cwV 3 hts gX10_stand_X1_takenOver rfl rfl rfl hdX1_takenOver ⟨Nat.le_of_ble_eq_true rfl, Nat.le_of_ble_eq_true rfl⟩) rfl rfl rfl rfl (Nat.le_of_ble_eq_true rfl) dX10_stand_72 rfl (fun r_1 v_2 H locs h hP hD hS => ?_)
        obtain ⟨u0_3, e_u0_3⟩ : ∃ z, z = s10_hindsight u0 v_2 := ⟨_, rfl⟩
        have h := h u0_3 e_u0_3
        have hP : va_P (dC, dI) vwCl (cs10 cI q0 u0_3) H := by rw [e_u0_3]; exact hP
        have hD : va_D A (cs10 cI q0 u0_3) := by rw [e_u0_3]; exact hD
        exact hret _ _ _ _ _ u0_3 dX10_stand_75 (vp_nar_int _) h hP hD hS
      have h := h.2 c1
      by_cases c2 : x2 = 2
      · have h := h.1 c2
        refine lv_tableIn (tgt := 76) (off := 62) hx hb dX10_stand_14 (by rw [c2]; decide) (by rw [c2]; decide) (by rw [c2]; rfl) (by decide) ?_
        refine lv_aload_n hx hb dX10_stand_76 rfl (lv_at hl 0 rfl) ?_
        refine va_get (D := (dC, dI)) (ci := 10) (v := .ref (q0 1)) (C := RX10) (T := TX10) (N := 6) hx hb hts inX10_stand_10 hown hK hP 0 rfl rfl 0 (by decide) (hts _ kX10_stand_2) (fun _ h9 => h9) rfl dX10_stand_77 ?_
        refine va_get (D := (dC, dI)) (ci := 9) (v := .ref (q0 26)) (C := RX9) (T := TX9) (N := 11) hx hb hts inX10_stand_9 hown hK hP 1 rfl rfl 4 (by decide) (hts _ kX10_stand_1) (fun _ h9 => h9) rfl dX10_stand_80 ?_
        refine va_get (D := (dC, dI)) (ci := 7) (v := .ref (q0 28)) (C := RX7) (T := TX7) (N := 4) hx hb hts inX10_stand_7 hown hK hP 26 rfl rfl 1 (by decide) (hts _ kX10_stand_5) (fun _ h9 => h9) rfl dX10_stand_83 ?_
        refine lv_iload_n hx hb dX10_stand_86 rfl (lv_at hl 1 rfl) ?_
        refine lv_bipush (v := 16) hx hb dX10_stand_87 (by decide) ?_
        refine lv_idiv hx hb dX10_stand_89 (by decide) ?_
        refine va_iald hx hb hK hP 28 0 rfl rfl h.1 dX10_stand_90 ?_
        have h := h.2
        exact hret _ _ _ _ _ u0 dX10_stand_91 (vp_nar_int _) h hP hD hS
      have h := h.2 c2
      refine lv_tableOut (tgt := 92) hx hb dX10_stand_14 (by have z0 := lv_neT (a := 0) c0 (by decide); have z1 := lv_neT (a := 1) c1 (by decide); have z2 := lv_neT (a := 2) c2 (by decide); omega) (by decide) ?_
      refine lv_iconst (v := (-1)) hx hb dX10_stand_92 (by decide) ?_
      exact hret _ _ _ _ _ u0 dX10_stand_93 (vp_nar_int _) h hP hD hS
    · have h := h.2 cd
      refine lv_iconst (v := (-1)) hx hb dX10_stand_11 (by decide) ?_
      exact hret _ _ _ _ _ u0 dX10_stand_12 (vp_nar_int _) h hP hD hS

set_option maxRecDepth 100000 in
theorem cut_88 (cI : ClassId) (q0 : Nat → Nat) (u0 : S10) : Cut (cs10 cI q0 u0) (cs1 cI (fun i => q0 (i + 37)) (g10_hindsight u0) ++ cs2 cI (fun i => q0 (i + 2)) (g9_journal (g10_now u0))) (fun v : S1 => cs1 cI (fun i => q0 (i + 37)) v ++ cs2 cI (fun i => q0 (i + 2)) (g9_journal (g10_now u0))) (fun v : S1 => cs10 cI q0 (s10_hindsight u0 v)) := ⟨[37, 38, 39, 40, 41, 2, 3], [0, 1, 4, 5, 6, 7, 8, 9, 10, 11, 12, 13, 14, 15, 16, 17, 18, 19, 20, 21, 22, 23, 24, 25, 26, 27, 28, 29, 30, 31, 32, 33, 34, 35, 36], rfl, rfl, rfl, by decide, by decide, fun v => ⟨[0, 1, 40, 41, 2, 3, 4, 5, 6, 7, 8, 9, 10, 11, 12, 13, 14, 15, 16, 17, 18, 19, 20, 21, 22, 23, 24, 25, 26, 27, 28, 29, 30, 31, 32, 33, 34, 35, 36, 37, 38, 39], rfl, rfl⟩⟩

abbrev rX10_asOf : Room := { frames := 5, cells := 0, slots := 0, locals := 117 }
theorem hdX10_asOf : yX10_asOf.cls = RX10 ∧ yX10_asOf.cls ≠ "java/lang/invoke/MethodHandle" ∧ yX10_asOf.cls ≠ "java/lang/invoke/VarHandle" ∧ (parseMethodDescriptor yX10_asOf.desc).map (fun d => d.parameters.length) = some 2 := by decide +kernel
theorem inX10_asOf_10 : ∀ w ∈ wsX100, w ∈ wsX10_asOf := by decide +kernel
theorem inX10_asOf_9 : ∀ w ∈ wsX90, w ∈ wsX10_asOf := by decide +kernel
theorem kX10_asOf_0 : Cond.fieldLink RX10 223 "AheadStore$World" "journal" "LAheadStore$Journal;" ∈ wsX10_asOf := by decide +kernel
theorem kX10_asOf_1 : Cond.fieldLink RX10 10 "AheadStore" "now" "LAheadStore$World;" ∈ wsX10_asOf := by decide +kernel
theorem kX10_asOf_2 : Cond.fieldLink RX10 33 "AheadStore" "hindsight" "LAheadStore$Hindsight;" ∈ wsX10_asOf := by decide +kernel
set_option maxHeartbeats 4000000 in
set_option maxRecDepth 100000 in
theorem c_X10_asOf {l : Launch} {dC : Nat → ClassId} {dI : Nat → Nat → Nat} {cI : ClassId} {q0 : Nat → Nat} {sz : Nat} {u0 : S10} {x1 : Int32} {x2 : Int32} {Q : Int32 → S10 → Prop} (h : wp_X10_asOf u0 x1 x2 Q) : ctI sxE l yX10_asOf wsX10_asOf rX10_asOf (dC, dI) vwCl [(cI, .int)] [.ref (q0 0), .int x1, .int x2] (cs10 cI q0 u0) sz (fun (r : Int32) (v : S10) => Q r v) (fun (v : S10) => cs10 cI q0 v) := by
  refine mx_i (cc := cX10_asOf) (maxL := 3) (ty := .int) (by decide) rfl (Nat.le_of_ble_eq_true rfl) ?_
  intro p e s m below meth c Z A ls args hx hb hml hown hts hA hP hK hD hE hl hret
  have hown : s.vm.findClass RX10 = some m.cls := hown
  have hl : lv_has ls 3 [(0, .ref (q0 0)), (1, .int x1), (2, .int x2)] := hl
  have hS : va_S A s.heap s.heap [] := va_S.rf
  refine lv_iload_n hx hb dX10_asOf_0 rfl (lv_at hl 1 rfl) ?_
  refine lv_if_lt (tgt := 25) hx hb dX10_asOf_1 (by decide) (fun cd => ?_) (fun cd => ?_)
  · have h := h.1 cd
    refine lv_iconst (v := (-1)) hx hb dX10_asOf_25 (by decide) ?_
    exact hret _ _ _ _ _ u0 dX10_asOf_26 (vp_nar_int _) h hP hD hS
  · have h := h.2 cd
    refine lv_iload_n hx hb dX10_asOf_4 rfl (lv_at hl 1 rfl) ?_
    refine lv_sipush (v := 256) hx hb dX10_asOf_5 (by decide) ?_
    refine lv_icmp_ge (tgt := 25) hx hb dX10_asOf_8 (by decide) (fun cd => ?_) (fun cd => ?_)
    · have h := h.1 cd
      refine lv_iconst (v := (-1)) hx hb dX10_asOf_25 (by decide) ?_
      exact hret _ _ _ _ _ u0 dX10_asOf_26 (vp_nar_int _) h hP hD hS
    · have h := h.2 cd
      refine lv_aload_n hx hb dX10_asOf_11 rfl (lv_at hl 0 rfl) ?_
      refine va_get (D := (dC, dI)) (ci := 10) (v := .ref (q0 1)) (C := RX10) (T := TX10) (N := 6) hx hb hts inX10_asOf_10 hown hK hP 0 rfl rfl 0 (by decide) (hts _ kX10_asOf_1) (fun _ h9 => h9) rfl dX10_asOf_12 ?_
      refine va_get (D := (dC, dI)) (ci := 9) (v := .ref (q0 2)) (C := RX9) (T := TX9) (N := 11) hx hb hts inX10_asOf_9 hown hK hP 1 rfl rfl 0 (by decide) (hts _ kX10_asOf_0) (fun _ h9 => h9) rfl dX10_asOf_15 ?_
      refine lv_iload_n hx hb dX10_asOf_18 rfl (lv_at hl 2 rfl) ?_
      refine cx_vi (As := [.int x2]) (rest := []) ⟨hx, hb, hml, hown, hts⟩ hl.1 ok_sxE hE hK hP hD hS hA (cut_85 cI q0 u0) (c_X2_beginsAt (l := l) (dC := dC) (dI := dI) (cI := cI) (q0 := fun i => q0 (i + 2)) h) (cwV 1 hts gX10_asOf_X2_beginsAt rfl rfl rfl hdX2_beginsAt ⟨Nat.le_of_ble_eq_true rfl, Nat.le_of_ble_eq_true rfl⟩) rfl rfl rfl rfl (Nat.le_of_ble_eq_true rfl) dX10_asOf_19 rfl (fun r_1 _ H locs h hP hD hS => ?_)
      refine lv_if_ne (tgt := 27) hx hb dX10_asOf_22 (by decide) (fun cd => ?_) (fun cd => ?_)
      · have h := h.2 cd
        refine lv_aload_n hx hb dX10_asOf_27 rfl (lv_at hl 0 rfl) ?_
        refine va_get (D := (dC, dI)) (ci := 10) (v := .ref (q0 37)) (C := RX10) (T := TX10) (N := 6) hx hb hts inX10_asOf_10 hown hK hP 0 rfl rfl 3 (by decide) (hts _ kX10_asOf_2) (fun _ h9 => h9) rfl dX10_asOf_28 ?_
        refine lv_aload_n hx hb dX10_asOf_31 rfl (lv_at hl 0 rfl) ?_
        refine va_get (D := (dC, dI)) (ci := 10) (v := .ref (q0 1)) (C := RX10) (T := TX10) (N := 6) hx hb hts inX10_asOf_10 hown hK hP 0 rfl rfl 0 (by decide) (hts _ kX10_asOf_1) (fun _ h9 => h9) rfl dX10_asOf_32 ?_
        refine va_get (D := (dC, dI)) (ci := 9) (v := .ref (q0 2)) (C := RX9) (T := TX9) (N := 11) hx hb hts inX10_asOf_9 hown hK hP 1 rfl rfl 0 (by decide) (hts _ kX10_asOf_0) (fun _ h9 => h9) rfl dX10_asOf_35 ?_
        refine lv_iload_n hx hb dX10_asOf_38 rfl (lv_at hl 1 rfl) ?_
        refine lv_iload_n hx hb dX10_asOf_39 rfl (lv_at hl 2 rfl) ?_
        refine cx_vi (As := [.ref (q0 2), .int x1, .int x2]) (rest := []) ⟨hx, hb, hml, hown, hts⟩ hl.1 ok_sxE hE hK hP hD hS hA (cut_88 cI q0 u0) (c_X1_byteAsOf (l := l) (dC := dC) (dI := dI) (cI := cI) (q0 := fun i => q0 (i + 37)) (q1 := fun i => q0 (i + 2)) h) (cwV 3 hts gX10_asOf_X1_byteAsOf rfl rfl rfl hdX1_byteAsOf ⟨Nat.le_of_ble_eq_true rfl, Nat.le_of_ble_eq_true rfl⟩) rfl rfl rfl rfl (Nat.le_of_ble_eq_true rfl) dX10_asOf_40 rfl (fun r_2 v_3 H locs h hP hD hS => ?_)
        obtain ⟨u0_4, e_u0_4⟩ : ∃ z, z = s10_hindsight u0 v_3 := ⟨_, rfl⟩
        have h := h u0_4 e_u0_4
        have hP : va_P (dC, dI) vwCl (cs10 cI q0 u0_4) H := by rw [e_u0_4]; exact hP
        have hD : va_D A (cs10 cI q0 u0_4) := by rw [e_u0_4]; exact hD
        exact hret _ _ _ _ _ u0_4 dX10_asOf_43 (vp_nar_int _) h hP hD hS
      · have h := h.1 cd
        refine lv_iconst (v := (-1)) hx hb dX10_asOf_25 (by decide) ?_
        exact hret _ _ _ _ _ u0 dX10_asOf_26 (vp_nar_int _) h hP hD hS

abbrev rX10_count : Room := { frames := 4, cells := 0, slots := 0, locals := 92 }
theorem hdX10_count : yX10_count.cls = RX10 ∧ yX10_count.cls ≠ "java/lang/invoke/MethodHandle" ∧ yX10_count.cls ≠ "java/lang/invoke/VarHandle" ∧ (parseMethodDescriptor yX10_count.desc).map (fun d => d.parameters.length) = some 1 := by decide +kernel
theorem inX10_count_10 : ∀ w ∈ wsX100, w ∈ wsX10_count := by decide +kernel
theorem inX10_count_9 : ∀ w ∈ wsX90, w ∈ wsX10_count := by decide +kernel
theorem kX10_count_0 : Cond.fieldLink RX10 223 "AheadStore$World" "journal" "LAheadStore$Journal;" ∈ wsX10_count := by decide +kernel
theorem kX10_count_1 : Cond.fieldLink RX10 10 "AheadStore" "now" "LAheadStore$World;" ∈ wsX10_count := by decide +kernel
set_option maxHeartbeats 4000000 in
set_option maxRecDepth 100000 in
theorem c_X10_count {l : Launch} {dC : Nat → ClassId} {dI : Nat → Nat → Nat} {cI : ClassId} {q0 : Nat → Nat} {sz : Nat} {u0 : S10} {x1 : Int32} {Q : Int32 → Prop} (h : wp_X10_count u0 x1 Q) : ctI sxE l yX10_count wsX10_count rX10_count (dC, dI) vwCl [(cI, .int)] [.ref (q0 0), .int x1] (cs10 cI q0 u0) sz (fun (r : Int32) (_ : Unit) => Q r) (fun (_ : Unit) => cs10 cI q0 u0) := by
  refine mx_i (cc := cX10_count) (maxL := 2) (ty := .int) (by decide) rfl (Nat.le_of_ble_eq_true rfl) ?_
  intro p e s m below meth c Z A ls args hx hb hml hown hts hA hP hK hD hE hl hret
  have hown : s.vm.findClass RX10 = some m.cls := hown
  have hl : lv_has ls 2 [(0, .ref (q0 0)), (1, .int x1)] := hl
  have hS : va_S A s.heap s.heap [] := va_S.rf
  refine lv_iload_n hx hb dX10_count_0 rfl (lv_at hl 1 rfl) ?_
  refine lv_iconst (v := 1) hx hb dX10_count_1 (by decide) ?_
  refine lv_icmp_lt (tgt := 11) hx hb dX10_count_2 (by decide) (fun cd => ?_) (fun cd => ?_)
  · have h := h.1 cd
    refine lv_iconst (v := (-1)) hx hb dX10_count_11 (by decide) ?_
    refine lv_goto (tgt := 26) hx hb dX10_count_12 (by decide) ?_
    exact hret _ _ _ _ _ () dX10_count_26 (vp_nar_int _) h hP hD hS
  · have h := h.2 cd
    refine lv_iload_n hx hb dX10_count_5 rfl (lv_at hl 1 rfl) ?_
    refine lv_bipush (v := 10) hx hb dX10_count_6 (by decide) ?_
    refine lv_icmp_le (tgt := 15) hx hb dX10_count_8 (by decide) (fun cd => ?_) (fun cd => ?_)
    · have h := h.1 cd
      refine lv_aload_n hx hb dX10_count_15 rfl (lv_at hl 0 rfl) ?_
      refine va_get (D := (dC, dI)) (ci := 10) (v := .ref (q0 1)) (C := RX10) (T := TX10) (N := 6) hx hb hts inX10_count_10 hown hK hP 0 rfl rfl 0 (by decide) (hts _ kX10_count_1) (fun _ h9 => h9) rfl dX10_count_16 ?_
      refine va_get (D := (dC, dI)) (ci := 9) (v := .ref (q0 2)) (C := RX9) (T := TX9) (N := 11) hx hb hts inX10_count_9 hown hK hP 1 rfl rfl 0 (by decide) (hts _ kX10_count_0) (fun _ h9 => h9) rfl dX10_count_19 ?_
      refine lv_iload_n hx hb dX10_count_22 rfl (lv_at hl 1 rfl) ?_
      refine cx_vi (As := [.int x1]) (rest := []) ⟨hx, hb, hml, hown, hts⟩ hl.1 ok_sxE hE hK hP hD hS hA (cut_85 cI q0 u0) (c_X2_tally (l := l) (dC := dC) (dI := dI) (cI := cI) (q0 := fun i => q0 (i + 2)) h) (cwV 1 hts gX10_count_X2_tally rfl rfl rfl hdX2_tally ⟨Nat.le_of_ble_eq_true rfl, Nat.le_of_ble_eq_true rfl⟩) rfl rfl rfl rfl (Nat.le_of_ble_eq_true rfl) dX10_count_23 rfl (fun r_1 _ H locs h hP hD hS => ?_)
      exact hret _ _ _ _ _ () dX10_count_26 (vp_nar_int _) h hP hD hS
    · have h := h.2 cd
      refine lv_iconst (v := (-1)) hx hb dX10_count_11 (by decide) ?_
      refine lv_goto (tgt := 26) hx hb dX10_count_12 (by decide) ?_
      exact hret _ _ _ _ _ () dX10_count_26 (vp_nar_int _) h hP hD hS

abbrev rX10_lookFurther : Room := { frames := 4, cells := 0, slots := 0, locals := 92 }
theorem hdX10_lookFurther : yX10_lookFurther.cls = RX10 ∧ yX10_lookFurther.cls ≠ "java/lang/invoke/MethodHandle" ∧ yX10_lookFurther.cls ≠ "java/lang/invoke/VarHandle" ∧ (parseMethodDescriptor yX10_lookFurther.desc).map (fun d => d.parameters.length) = some 1 := by decide +kernel
theorem inX10_lookFurther_10 : ∀ w ∈ wsX100, w ∈ wsX10_lookFurther := by decide +kernel
theorem inX10_lookFurther_3 : ∀ w ∈ wsX30, w ∈ wsX10_lookFurther := by decide +kernel
theorem inX10_lookFurther_6 : ∀ w ∈ wsX60, w ∈ wsX10_lookFurther := by decide +kernel
theorem inX10_lookFurther_7 : ∀ w ∈ wsX70, w ∈ wsX10_lookFurther := by decide +kernel
theorem inX10_lookFurther_9 : ∀ w ∈ wsX90, w ∈ wsX10_lookFurther := by decide +kernel
theorem kX10_lookFurther_0 : Cond.constant RX10 343 (-100000) ∈ wsX10_lookFurther := by decide +kernel
theorem kX10_lookFurther_1 : Cond.fieldLink RX10 137 "AheadStore$Script" "size" "I" ∈ wsX10_lookFurther := by decide +kernel
theorem kX10_lookFurther_2 : Cond.fieldLink RX10 124 "AheadStore$World" "script" "LAheadStore$Script;" ∈ wsX10_lookFurther := by decide +kernel
theorem kX10_lookFurther_3 : Cond.fieldLink RX10 10 "AheadStore" "now" "LAheadStore$World;" ∈ wsX10_lookFurther := by decide +kernel
theorem kX10_lookFurther_4 : Cond.fieldLink RX10 144 "AheadStore$Script" "ran" "I" ∈ wsX10_lookFurther := by decide +kernel
theorem kX10_lookFurther_5 : Cond.fieldLink RX10 331 "AheadStore$World" "redone" "I" ∈ wsX10_lookFurther := by decide +kernel
theorem kX10_lookFurther_6 : Cond.fieldLink RX10 262 "AheadStore$World" "crashes" "I" ∈ wsX10_lookFurther := by decide +kernel
theorem kX10_lookFurther_7 : Cond.fieldLink RX10 334 "AheadStore$Pages" "lost" "I" ∈ wsX10_lookFurther := by decide +kernel
theorem kX10_lookFurther_8 : Cond.fieldLink RX10 41 "AheadStore$World" "pages" "LAheadStore$Pages;" ∈ wsX10_lookFurther := by decide +kernel
theorem kX10_lookFurther_9 : Cond.fieldLink RX10 291 "AheadStore$Standby" "received" "I" ∈ wsX10_lookFurther := by decide +kernel
theorem kX10_lookFurther_10 : Cond.fieldLink RX10 281 "AheadStore$World" "standby" "LAheadStore$Standby;" ∈ wsX10_lookFurther := by decide +kernel
theorem kX10_lookFurther_11 : Cond.fieldLink RX10 337 "AheadStore$Standby" "done" "I" ∈ wsX10_lookFurther := by decide +kernel
theorem kX10_lookFurther_12 : Cond.fieldLink RX10 160 "AheadStore$World" "claims" "LAheadStore$Claims;" ∈ wsX10_lookFurther := by decide +kernel
theorem kX10_lookFurther_13 : Cond.fieldLink RX10 223 "AheadStore$World" "journal" "LAheadStore$Journal;" ∈ wsX10_lookFurther := by decide +kernel
set_option maxHeartbeats 4000000 in
set_option maxRecDepth 100000 in
theorem c_X10_lookFurther {l : Launch} {dC : Nat → ClassId} {dI : Nat → Nat → Nat} {cI : ClassId} {q0 : Nat → Nat} {sz : Nat} {u0 : S10} {x1 : Int32} {Q : Int32 → Prop} (h : wp_X10_lookFurther u0 x1 Q) : ctI sxE l yX10_lookFurther wsX10_lookFurther rX10_lookFurther (dC, dI) vwCl [(cI, .int)] [.ref (q0 0), .int x1] (cs10 cI q0 u0) sz (fun (r : Int32) (_ : Unit) => Q r) (fun (_ : Unit) => cs10 cI q0 u0) := by
  refine mx_i (cc := cX10_lookFurther) (maxL := 2) (ty := .int) (by decide) rfl (Nat.le_of_ble_eq_true rfl) ?_
  intro p e s m below meth c Z A ls args hx hb hml hown hts hA hP hK hD hE hl hret
  have hown : s.vm.findClass RX10 = some m.cls := hown
  have hl : lv_has ls 2 [(0, .ref (q0 0)), (1, .int x1)] := hl
  have hS : va_S A s.heap s.heap [] := va_S.rf
  refine lv_iload_n hx hb dX10_lookFurther_0 rfl (lv_at hl 1 rfl) ?_
  by_cases c0 : x1 = 10
  · have h := h.1 c0
    refine lv_tableIn (tgt := 52) (off := 51) hx hb dX10_lookFurther_1 (by rw [c0]; decide) (by rw [c0]; decide) (by rw [c0]; rfl) (by decide) ?_
    refine lv_aload_n hx hb dX10_lookFurther_52 rfl (lv_at hl 0 rfl) ?_
    refine va_get (D := (dC, dI)) (ci := 10) (v := .ref (q0 1)) (C := RX10) (T := TX10) (N := 6) hx hb hts inX10_lookFurther_10 hown hK hP 0 rfl rfl 0 (by decide) (hts _ kX10_lookFurther_3) (fun _ h9 => h9) rfl dX10_lookFurther_53 ?_
    refine va_get (D := (dC, dI)) (ci := 9) (v := .ref (q0 29)) (C := RX9) (T := TX9) (N := 11) hx hb hts inX10_lookFurther_9 hown hK hP 1 rfl rfl 5 (by decide) (hts _ kX10_lookFurther_2) (fun _ h9 => h9) rfl dX10_lookFurther_56 ?_
    refine va_get (D := (dC, dI)) (ci := 6) (v := .int (g6_size (g9_script (g10_now u0)))) (C := RX6) (T := TX6) (N := 3) hx hb hts inX10_lookFurther_6 hown hK hP 29 rfl rfl 1 (by decide) (hts _ kX10_lookFurther_1) (fun _ h9 => h9) rfl dX10_lookFurther_59 ?_
    exact hret _ _ _ _ _ () dX10_lookFurther_62 (vp_nar_int _) h hP hD hS
  have h := h.2 c0
  by_cases c1 : x1 = 11
  · have h := h.1 c1
    refine lv_tableIn (tgt := 63) (off := 62) hx hb dX10_lookFurther_1 (by rw [c1]; decide) (by rw [c1]; decide) (by rw [c1]; rfl) (by decide) ?_
    refine lv_aload_n hx hb dX10_lookFurther_63 rfl (lv_at hl 0 rfl) ?_
    refine va_get (D := (dC, dI)) (ci := 10) (v := .ref (q0 1)) (C := RX10) (T := TX10) (N := 6) hx hb hts inX10_lookFurther_10 hown hK hP 0 rfl rfl 0 (by decide) (hts _ kX10_lookFurther_3) (fun _ h9 => h9) rfl dX10_lookFurther_64 ?_
    refine va_get (D := (dC, dI)) (ci := 9) (v := .ref (q0 29)) (C := RX9) (T := TX9) (N := 11) hx hb hts inX10_lookFurther_9 hown hK hP 1 rfl rfl 5 (by decide) (hts _ kX10_lookFurther_2) (fun _ h9 => h9) rfl dX10_lookFurther_67 ?_
    refine va_get (D := (dC, dI)) (ci := 6) (v := .int (g6_ran (g9_script (g10_now u0)))) (C := RX6) (T := TX6) (N := 3) hx hb hts inX10_lookFurther_6 hown hK hP 29 rfl rfl 2 (by decide) (hts _ kX10_lookFurther_4) (fun _ h9 => h9) rfl dX10_lookFurther_70 ?_
    exact hret _ _ _ _ _ () dX10_lookFurther_73 (vp_nar_int _) h hP hD hS
  have h := h.2 c1
  by_cases c2 : x1 = 12
  · have h := h.1 c2
    refine lv_tableIn (tgt := 74) (off := 73) hx hb dX10_lookFurther_1 (by rw [c2]; decide) (by rw [c2]; decide) (by rw [c2]; rfl) (by decide) ?_
    refine lv_aload_n hx hb dX10_lookFurther_74 rfl (lv_at hl 0 rfl) ?_
    refine va_get (D := (dC, dI)) (ci := 10) (v := .ref (q0 1)) (C := RX10) (T := TX10) (N := 6) hx hb hts inX10_lookFurther_10 hown hK hP 0 rfl rfl 0 (by decide) (hts _ kX10_lookFurther_3) (fun _ h9 => h9) rfl dX10_lookFurther_75 ?_
    refine va_get (D := (dC, dI)) (ci := 9) (v := .int (g9_redone (g10_now u0))) (C := RX9) (T := TX9) (N := 11) hx hb hts inX10_lookFurther_9 hown hK hP 1 rfl rfl 9 (by decide) (hts _ kX10_lookFurther_5) (fun _ h9 => h9) rfl dX10_lookFurther_78 ?_
    exact hret _ _ _ _ _ () dX10_lookFurther_81 (vp_nar_int _) h hP hD hS
  have h := h.2 c2
  by_cases c3 : x1 = 13
  · have h := h.1 c3
    refine lv_tableIn (tgt := 82) (off := 81) hx hb dX10_lookFurther_1 (by rw [c3]; decide) (by rw [c3]; decide) (by rw [c3]; rfl) (by decide) ?_
    refine lv_aload_n hx hb dX10_lookFurther_82 rfl (lv_at hl 0 rfl) ?_
    refine va_get (D := (dC, dI)) (ci := 10) (v := .ref (q0 1)) (C := RX10) (T := TX10) (N := 6) hx hb hts inX10_lookFurther_10 hown hK hP 0 rfl rfl 0 (by decide) (hts _ kX10_lookFurther_3) (fun _ h9 => h9) rfl dX10_lookFurther_83 ?_
    refine va_get (D := (dC, dI)) (ci := 9) (v := .int (g9_crashes (g10_now u0))) (C := RX9) (T := TX9) (N := 11) hx hb hts inX10_lookFurther_9 hown hK hP 1 rfl rfl 10 (by decide) (hts _ kX10_lookFurther_6) (fun _ h9 => h9) rfl dX10_lookFurther_86 ?_
    exact hret _ _ _ _ _ () dX10_lookFurther_89 (vp_nar_int _) h hP hD hS
  have h := h.2 c3
  by_cases c4 : x1 = 14
  · have h := h.1 c4
    refine lv_tableIn (tgt := 90) (off := 89) hx hb dX10_lookFurther_1 (by rw [c4]; decide) (by rw [c4]; decide) (by rw [c4]; rfl) (by decide) ?_
    refine lv_aload_n hx hb dX10_lookFurther_90 rfl (lv_at hl 0 rfl) ?_
    refine va_get (D := (dC, dI)) (ci := 10) (v := .ref (q0 1)) (C := RX10) (T := TX10) (N := 6) hx hb hts inX10_lookFurther_10 hown hK hP 0 rfl rfl 0 (by decide) (hts _ kX10_lookFurther_3) (fun _ h9 => h9) rfl dX10_lookFurther_91 ?_
    refine va_get (D := (dC, dI)) (ci := 9) (v := .ref (q0 4)) (C := RX9) (T := TX9) (N := 11) hx hb hts inX10_lookFurther_9 hown hK hP 1 rfl rfl 1 (by decide) (hts _ kX10_lookFurther_8) (fun _ h9 => h9) rfl dX10_lookFurther_94 ?_
    refine va_get (D := (dC, dI)) (ci := 3) (v := .int (g3_lost (g9_pages (g10_now u0)))) (C := RX3) (T := TX3) (N := 12) hx hb hts inX10_lookFurther_3 hown hK hP 4 rfl rfl 4 (by decide) (hts _ kX10_lookFurther_7) (fun _ h9 => h9) rfl dX10_lookFurther_97 ?_
    exact hret _ _ _ _ _ () dX10_lookFurther_100 (vp_nar_int _) h hP hD hS
  have h := h.2 c4
  by_cases c5 : x1 = 15
  · have h := h.1 c5
    refine lv_tableIn (tgt := 101) (off := 100) hx hb dX10_lookFurther_1 (by rw [c5]; decide) (by rw [c5]; decide) (by rw [c5]; rfl) (by decide) ?_
    refine lv_aload_n hx hb dX10_lookFurther_101 rfl (lv_at hl 0 rfl) ?_
    refine va_get (D := (dC, dI)) (ci := 10) (v := .ref (q0 1)) (C := RX10) (T := TX10) (N := 6) hx hb hts inX10_lookFurther_10 hown hK hP 0 rfl rfl 0 (by decide) (hts _ kX10_lookFurther_3) (fun _ h9 => h9) rfl dX10_lookFurther_102 ?_
    refine va_get (D := (dC, dI)) (ci := 9) (v := .ref (q0 26)) (C := RX9) (T := TX9) (N := 11) hx hb hts inX10_lookFurther_9 hown hK hP 1 rfl rfl 4 (by decide) (hts _ kX10_lookFurther_10) (fun _ h9 => h9) rfl dX10_lookFurther_105 ?_
    refine va_get (D := (dC, dI)) (ci := 7) (v := .int (g7_received (g9_standby (g10_now u0)))) (C := RX7) (T := TX7) (N := 4) hx hb hts inX10_lookFurther_7 hown hK hP 26 rfl rfl 2 (by decide) (hts _ kX10_lookFurther_9) (fun _ h9 => h9) rfl dX10_lookFurther_108 ?_
    exact hret _ _ _ _ _ () dX10_lookFurther_111 (vp_nar_int _) h hP hD hS
  have h := h.2 c5
  by_cases c6 : x1 = 16
  · have h := h.1 c6
    refine lv_tableIn (tgt := 112) (off := 111) hx hb dX10_lookFurther_1 (by rw [c6]; decide) (by rw [c6]; decide) (by rw [c6]; rfl) (by decide) ?_
    refine lv_aload_n hx hb dX10_lookFurther_112 rfl (lv_at hl 0 rfl) ?_
    refine va_get (D := (dC, dI)) (ci := 10) (v := .ref (q0 1)) (C := RX10) (T := TX10) (N := 6) hx hb hts inX10_lookFurther_10 hown hK hP 0 rfl rfl 0 (by decide) (hts _ kX10_lookFurther_3) (fun _ h9 => h9) rfl dX10_lookFurther_113 ?_
    refine va_get (D := (dC, dI)) (ci := 9) (v := .ref (q0 26)) (C := RX9) (T := TX9) (N := 11) hx hb hts inX10_lookFurther_9 hown hK hP 1 rfl rfl 4 (by decide) (hts _ kX10_lookFurther_10) (fun _ h9 => h9) rfl dX10_lookFurther_116 ?_
    refine va_get (D := (dC, dI)) (ci := 7) (v := .int (g7_done (g9_standby (g10_now u0)))) (C := RX7) (T := TX7) (N := 4) hx hb hts inX10_lookFurther_7 hown hK hP 26 rfl rfl 3 (by decide) (hts _ kX10_lookFurther_11) (fun _ h9 => h9) rfl dX10_lookFurther_119 ?_
    exact hret _ _ _ _ _ () dX10_lookFurther_122 (vp_nar_int _) h hP hD hS
  have h := h.2 c6
  by_cases c7 : x1 = 17
  · have h := h.1 c7
    refine lv_tableIn (tgt := 123) (off := 122) hx hb dX10_lookFurther_1 (by rw [c7]; decide) (by rw [c7]; decide) (by rw [c7]; rfl) (by decide) ?_
    refine lv_aload_n hx hb dX10_lookFurther_123 rfl (lv_at hl 0 rfl) ?_
    refine va_get (D := (dC, dI)) (ci := 10) (v := .ref (q0 1)) (C := RX10) (T := TX10) (N := 6) hx hb hts inX10_lookFurther_10 hown hK hP 0 rfl rfl 0 (by decide) (hts _ kX10_lookFurther_3) (fun _ h9 => h9) rfl dX10_lookFurther_124 ?_
    refine va_get (D := (dC, dI)) (ci := 9) (v := .ref (q0 18)) (C := RX9) (T := TX9) (N := 11) hx hb hts inX10_lookFurther_9 hown hK hP 1 rfl rfl 3 (by decide) (hts _ kX10_lookFurther_12) (fun _ h9 => h9) rfl dX10_lookFurther_127 ?_
    refine cx_vi (As := []) (rest := []) ⟨hx, hb, hml, hown, hts⟩ hl.1 ok_sxE hE hK hP hD hS hA (cut_83 cI q0 u0) (c_X0_allDeadlocked (l := l) (dC := dC) (dI := dI) (cI := cI) (q0 := fun i => q0 (i + 18)) h) (cwV 0 hts gX10_lookFurther_X0_allDeadlocked rfl rfl rfl hdX0_allDeadlocked ⟨Nat.le_of_ble_eq_true rfl, Nat.le_of_ble_eq_true rfl⟩) rfl rfl rfl rfl (Nat.le_of_ble_eq_true rfl) dX10_lookFurther_130 rfl (fun r_1 _ H locs h hP hD hS => ?_)
    exact hret _ _ _ _ _ () dX10_lookFurther_133 (vp_nar_int _) h hP hD hS
  have h := h.2 c7
  by_cases c8 : x1 = 18
  · have h := h.1 c8
    refine lv_tableIn (tgt := 134) (off := 133) hx hb dX10_lookFurther_1 (by rw [c8]; decide) (by rw [c8]; decide) (by rw [c8]; rfl) (by decide) ?_
    refine lv_aload_n hx hb dX10_lookFurther_134 rfl (lv_at hl 0 rfl) ?_
    refine va_get (D := (dC, dI)) (ci := 10) (v := .ref (q0 1)) (C := RX10) (T := TX10) (N := 6) hx hb hts inX10_lookFurther_10 hown hK hP 0 rfl rfl 0 (by decide) (hts _ kX10_lookFurther_3) (fun _ h9 => h9) rfl dX10_lookFurther_135 ?_
    refine va_get (D := (dC, dI)) (ci := 9) (v := .ref (q0 2)) (C := RX9) (T := TX9) (N := 11) hx hb hts inX10_lookFurther_9 hown hK hP 1 rfl rfl 0 (by decide) (hts _ kX10_lookFurther_13) (fun _ h9 => h9) rfl dX10_lookFurther_138 ?_
    refine lv_iconst (v := 0) hx hb dX10_lookFurther_141 (by decide) ?_
    refine cx_vi (As := [.int 0]) (rest := []) ⟨hx, hb, hml, hown, hts⟩ hl.1 ok_sxE hE hK hP hD hS hA (cut_85 cI q0 u0) (c_X2_tally (l := l) (dC := dC) (dI := dI) (cI := cI) (q0 := fun i => q0 (i + 2)) h) (cwV 1 hts gX10_lookFurther_X2_tally rfl rfl rfl hdX2_tally ⟨Nat.le_of_ble_eq_true rfl, Nat.le_of_ble_eq_true rfl⟩) rfl rfl rfl rfl (Nat.le_of_ble_eq_true rfl) dX10_lookFurther_142 rfl (fun r_2 _ H locs h hP hD hS => ?_)
    exact hret _ _ _ _ _ () dX10_lookFurther_145 (vp_nar_int _) h hP hD hS
  have h := h.2 c8
  refine lv_tableOut (tgt := 146) hx hb dX10_lookFurther_1 (by have z0 := lv_neT (a := 10) c0 (by decide); have z1 := lv_neT (a := 11) c1 (by decide); have z2 := lv_neT (a := 12) c2 (by decide); have z3 := lv_neT (a := 13) c3 (by decide); have z4 := lv_neT (a := 14) c4 (by decide); have z5 := lv_neT (a := 15) c5 (by decide); have z6 := lv_neT (a := 16) c6 (by decide); have z7 := lv_neT (a := 17) c7 (by decide); have z8 := lv_neT (a := 18) c8 (by decide); omega) (by decide) ?_
  refine lv_ldcw (v := (-100000)) hx hb hown (hts _ kX10_lookFurther_0) dX10_lookFurther_146 ?_
  exact hret _ _ _ _ _ () dX10_lookFurther_149 (vp_nar_int _) h hP hD hS

set_option maxRecDepth 100000 in
theorem cut_89 (cI : ClassId) (q0 : Nat → Nat) (u0 : S10) : Cut (cs10 cI q0 u0) (cs10 cI q0 u0) (fun _ : Unit => cs10 cI q0 u0) (fun _ : Unit => cs10 cI q0 u0) := ⟨[0, 1, 2, 3, 4, 5, 6, 7, 8, 9, 10, 11, 12, 13, 14, 15, 16, 17, 18, 19, 20, 21, 22, 23, 24, 25, 26, 27, 28, 29, 30, 31, 32, 33, 34, 35, 36, 37, 38, 39, 40, 41], [], rfl, rfl, rfl, by decide, by decide, fun _ => ⟨[0, 1, 2, 3, 4, 5, 6, 7, 8, 9, 10, 11, 12, 13, 14, 15, 16, 17, 18, 19, 20, 21, 22, 23, 24, 25, 26, 27, 28, 29, 30, 31, 32, 33, 34, 35, 36, 37, 38, 39, 40, 41], rfl, rfl⟩⟩

set_option maxRecDepth 100000 in
theorem cut_90 (cI : ClassId) (q0 : Nat → Nat) (u0 : S10) : Cut (cs10 cI q0 u0) (cs5 cI (fun i => q0 (i + 14)) (g9_roster (g10_now u0))) (fun _ : Unit => cs5 cI (fun i => q0 (i + 14)) (g9_roster (g10_now u0))) (fun _ : Unit => cs10 cI q0 u0) := ⟨[14, 15, 16, 17], [0, 1, 2, 3, 4, 5, 6, 7, 8, 9, 10, 11, 12, 13, 18, 19, 20, 21, 22, 23, 24, 25, 26, 27, 28, 29, 30, 31, 32, 33, 34, 35, 36, 37, 38, 39, 40, 41], rfl, rfl, rfl, by decide, by decide, fun _ => ⟨[0, 1, 2, 3, 4, 5, 6, 7, 8, 9, 10, 11, 12, 13, 38, 39, 40, 41, 14, 15, 16, 17, 18, 19, 20, 21, 22, 23, 24, 25, 26, 27, 28, 29, 30, 31, 32, 33, 34, 35, 36, 37], rfl, rfl⟩⟩

abbrev rX10_look : Room := { frames := 5, cells := 0, slots := 0, locals := 113 }
theorem hdX10_look : yX10_look.cls = RX10 ∧ yX10_look.cls ≠ "java/lang/invoke/MethodHandle" ∧ yX10_look.cls ≠ "java/lang/invoke/VarHandle" ∧ (parseMethodDescriptor yX10_look.desc).map (fun d => d.parameters.length) = some 1 := by decide +kernel
theorem inX10_look_10 : ∀ w ∈ wsX100, w ∈ wsX10_look := by decide +kernel
theorem inX10_look_2 : ∀ w ∈ wsX20, w ∈ wsX10_look := by decide +kernel
theorem inX10_look_3 : ∀ w ∈ wsX30, w ∈ wsX10_look := by decide +kernel
theorem inX10_look_9 : ∀ w ∈ wsX90, w ∈ wsX10_look := by decide +kernel
theorem kX10_look_0 : Cond.fieldLink RX10 37 "AheadStore$World" "up" "Z" ∈ wsX10_look := by decide +kernel
theorem kX10_look_1 : Cond.fieldLink RX10 10 "AheadStore" "now" "LAheadStore$World;" ∈ wsX10_look := by decide +kernel
theorem kX10_look_2 : Cond.fieldLink RX10 227 "AheadStore$Journal" "endPlace" "I" ∈ wsX10_look := by decide +kernel
theorem kX10_look_3 : Cond.fieldLink RX10 223 "AheadStore$World" "journal" "LAheadStore$Journal;" ∈ wsX10_look := by decide +kernel
theorem kX10_look_4 : Cond.fieldLink RX10 253 "AheadStore$Journal" "flushedPlace" "I" ∈ wsX10_look := by decide +kernel
theorem kX10_look_5 : Cond.fieldLink RX10 312 "AheadStore$World" "master" "I" ∈ wsX10_look := by decide +kernel
theorem kX10_look_6 : Cond.fieldLink RX10 51 "AheadStore$Pages" "frameCount" "I" ∈ wsX10_look := by decide +kernel
theorem kX10_look_7 : Cond.fieldLink RX10 41 "AheadStore$World" "pages" "LAheadStore$Pages;" ∈ wsX10_look := by decide +kernel
theorem kX10_look_8 : Cond.fieldLink RX10 193 "AheadStore$World" "roster" "LAheadStore$Roster;" ∈ wsX10_look := by decide +kernel
theorem kX10_look_9 : Cond.fieldLink RX10 322 "AheadStore$World" "openCheck" "I" ∈ wsX10_look := by decide +kernel
set_option maxHeartbeats 4000000 in
set_option maxRecDepth 100000 in
theorem c_X10_look {l : Launch} {dC : Nat → ClassId} {dI : Nat → Nat → Nat} {cI : ClassId} {q0 : Nat → Nat} {sz : Nat} {u0 : S10} {x1 : Int32} {Q : Int32 → Prop} (h : wp_X10_look u0 x1 Q) : ctI sxE l yX10_look wsX10_look rX10_look (dC, dI) vwCl [(cI, .int)] [.ref (q0 0), .int x1] (cs10 cI q0 u0) sz (fun (r : Int32) (_ : Unit) => Q r) (fun (_ : Unit) => cs10 cI q0 u0) := by
  refine mx_i (cc := cX10_look) (maxL := 2) (ty := .int) (by decide) rfl (Nat.le_of_ble_eq_true rfl) ?_
  intro p e s m below meth c Z A ls args hx hb hml hown hts hA hP hK hD hE hl hret
  have hown : s.vm.findClass RX10 = some m.cls := hown
  have hl : lv_has ls 2 [(0, .ref (q0 0)), (1, .int x1)] := hl
  have hS : va_S A s.heap s.heap [] := va_S.rf
  refine lv_iload_n hx hb dX10_look_0 rfl (lv_at hl 1 rfl) ?_
  by_cases c0 : x1 = 0
  · have h := h.1 c0
    refine lv_tableIn (tgt := 56) (off := 55) hx hb dX10_look_1 (by rw [c0]; decide) (by rw [c0]; decide) (by rw [c0]; rfl) (by decide) ?_
    refine lv_aload_n hx hb dX10_look_56 rfl (lv_at hl 0 rfl) ?_
    refine va_get (D := (dC, dI)) (ci := 10) (v := .ref (q0 1)) (C := RX10) (T := TX10) (N := 6) hx hb hts inX10_look_10 hown hK hP 0 rfl rfl 0 (by decide) (hts _ kX10_look_1) (fun _ h9 => h9) rfl dX10_look_57 ?_
    refine va_get (D := (dC, dI)) (ci := 9) (v := .int (g9_up (g10_now u0))) (C := RX9) (T := TX9) (N := 11) hx hb hts inX10_look_9 hown hK hP 1 rfl rfl 6 (by decide) (hts _ kX10_look_0) (fun _ h9 => h9) rfl dX10_look_60 ?_
    refine lv_if_eq (tgt := 70) hx hb dX10_look_63 (by decide) (fun cd => ?_) (fun cd => ?_)
    · have h := h.1 cd
      refine lv_iconst (v := 0) hx hb dX10_look_70 (by decide) ?_
      exact hret _ _ _ _ _ () dX10_look_71 (vp_nar_int _) h hP hD hS
    · have h := h.2 cd
      refine lv_iconst (v := 1) hx hb dX10_look_66 (by decide) ?_
      refine lv_goto (tgt := 71) hx hb dX10_look_67 (by decide) ?_
      exact hret _ _ _ _ _ () dX10_look_71 (vp_nar_int _) h hP hD hS
  have h := h.2 c0
  by_cases c1 : x1 = 1
  · have h := h.1 c1
    refine lv_tableIn (tgt := 72) (off := 71) hx hb dX10_look_1 (by rw [c1]; decide) (by rw [c1]; decide) (by rw [c1]; rfl) (by decide) ?_
    refine lv_aload_n hx hb dX10_look_72 rfl (lv_at hl 0 rfl) ?_
    refine va_get (D := (dC, dI)) (ci := 10) (v := .ref (q0 1)) (C := RX10) (T := TX10) (N := 6) hx hb hts inX10_look_10 hown hK hP 0 rfl rfl 0 (by decide) (hts _ kX10_look_1) (fun _ h9 => h9) rfl dX10_look_73 ?_
    refine va_get (D := (dC, dI)) (ci := 9) (v := .ref (q0 2)) (C := RX9) (T := TX9) (N := 11) hx hb hts inX10_look_9 hown hK hP 1 rfl rfl 0 (by decide) (hts _ kX10_look_3) (fun _ h9 => h9) rfl dX10_look_76 ?_
    refine va_get (D := (dC, dI)) (ci := 2) (v := .int (g2_endPlace (g9_journal (g10_now u0)))) (C := RX2) (T := TX2) (N := 4) hx hb hts inX10_look_2 hown hK hP 2 rfl rfl 1 (by decide) (hts _ kX10_look_2) (fun _ h9 => h9) rfl dX10_look_79 ?_
    exact hret _ _ _ _ _ () dX10_look_82 (vp_nar_int _) h hP hD hS
  have h := h.2 c1
  by_cases c2 : x1 = 2
  · have h := h.1 c2
    refine lv_tableIn (tgt := 83) (off := 82) hx hb dX10_look_1 (by rw [c2]; decide) (by rw [c2]; decide) (by rw [c2]; rfl) (by decide) ?_
    refine lv_aload_n hx hb dX10_look_83 rfl (lv_at hl 0 rfl) ?_
    refine va_get (D := (dC, dI)) (ci := 10) (v := .ref (q0 1)) (C := RX10) (T := TX10) (N := 6) hx hb hts inX10_look_10 hown hK hP 0 rfl rfl 0 (by decide) (hts _ kX10_look_1) (fun _ h9 => h9) rfl dX10_look_84 ?_
    refine va_get (D := (dC, dI)) (ci := 9) (v := .ref (q0 2)) (C := RX9) (T := TX9) (N := 11) hx hb hts inX10_look_9 hown hK hP 1 rfl rfl 0 (by decide) (hts _ kX10_look_3) (fun _ h9 => h9) rfl dX10_look_87 ?_
    refine va_get (D := (dC, dI)) (ci := 2) (v := .int (g2_flushedPlace (g9_journal (g10_now u0)))) (C := RX2) (T := TX2) (N := 4) hx hb hts inX10_look_2 hown hK hP 2 rfl rfl 2 (by decide) (hts _ kX10_look_4) (fun _ h9 => h9) rfl dX10_look_90 ?_
    exact hret _ _ _ _ _ () dX10_look_93 (vp_nar_int _) h hP hD hS
  have h := h.2 c2
  by_cases c3 : x1 = 3
  · have h := h.1 c3
    refine lv_tableIn (tgt := 94) (off := 93) hx hb dX10_look_1 (by rw [c3]; decide) (by rw [c3]; decide) (by rw [c3]; rfl) (by decide) ?_
    refine lv_aload_n hx hb dX10_look_94 rfl (lv_at hl 0 rfl) ?_
    refine va_get (D := (dC, dI)) (ci := 10) (v := .ref (q0 1)) (C := RX10) (T := TX10) (N := 6) hx hb hts inX10_look_10 hown hK hP 0 rfl rfl 0 (by decide) (hts _ kX10_look_1) (fun _ h9 => h9) rfl dX10_look_95 ?_
    refine va_get (D := (dC, dI)) (ci := 9) (v := .int (g9_master (g10_now u0))) (C := RX9) (T := TX9) (N := 11) hx hb hts inX10_look_9 hown hK hP 1 rfl rfl 7 (by decide) (hts _ kX10_look_5) (fun _ h9 => h9) rfl dX10_look_98 ?_
    exact hret _ _ _ _ _ () dX10_look_101 (vp_nar_int _) h hP hD hS
  have h := h.2 c3
  by_cases c4 : x1 = 4
  · have h := h.1 c4
    refine lv_tableIn (tgt := 102) (off := 101) hx hb dX10_look_1 (by rw [c4]; decide) (by rw [c4]; decide) (by rw [c4]; rfl) (by decide) ?_
    refine lv_aload_n hx hb dX10_look_102 rfl (lv_at hl 0 rfl) ?_
    refine va_get (D := (dC, dI)) (ci := 10) (v := .ref (q0 1)) (C := RX10) (T := TX10) (N := 6) hx hb hts inX10_look_10 hown hK hP 0 rfl rfl 0 (by decide) (hts _ kX10_look_1) (fun _ h9 => h9) rfl dX10_look_103 ?_
    refine va_get (D := (dC, dI)) (ci := 9) (v := .ref (q0 4)) (C := RX9) (T := TX9) (N := 11) hx hb hts inX10_look_9 hown hK hP 1 rfl rfl 1 (by decide) (hts _ kX10_look_7) (fun _ h9 => h9) rfl dX10_look_106 ?_
    refine va_get (D := (dC, dI)) (ci := 3) (v := .int (g3_frameCount (g9_pages (g10_now u0)))) (C := RX3) (T := TX3) (N := 12) hx hb hts inX10_look_3 hown hK hP 4 rfl rfl 5 (by decide) (hts _ kX10_look_6) (fun _ h9 => h9) rfl dX10_look_109 ?_
    exact hret _ _ _ _ _ () dX10_look_112 (vp_nar_int _) h hP hD hS
  have h := h.2 c4
  by_cases c5 : x1 = 5
  · have h := h.1 c5
    refine lv_tableIn (tgt := 113) (off := 112) hx hb dX10_look_1 (by rw [c5]; decide) (by rw [c5]; decide) (by rw [c5]; rfl) (by decide) ?_
    refine lv_aload_n hx hb dX10_look_113 rfl (lv_at hl 0 rfl) ?_
    refine va_get (D := (dC, dI)) (ci := 10) (v := .ref (q0 1)) (C := RX10) (T := TX10) (N := 6) hx hb hts inX10_look_10 hown hK hP 0 rfl rfl 0 (by decide) (hts _ kX10_look_1) (fun _ h9 => h9) rfl dX10_look_114 ?_
    refine va_get (D := (dC, dI)) (ci := 9) (v := .ref (q0 4)) (C := RX9) (T := TX9) (N := 11) hx hb hts inX10_look_9 hown hK hP 1 rfl rfl 1 (by decide) (hts _ kX10_look_7) (fun _ h9 => h9) rfl dX10_look_117 ?_
    refine cx_vi (As := []) (rest := []) ⟨hx, hb, hml, hown, hts⟩ hl.1 ok_sxE hE hK hP hD hS hA (cut_75 cI q0 u0) (c_X3_uncleanCount (l := l) (dC := dC) (dI := dI) (cI := cI) (q0 := fun i => q0 (i + 4)) h) (cwV 0 hts gX10_look_X3_uncleanCount rfl rfl rfl hdX3_uncleanCount ⟨Nat.le_of_ble_eq_true rfl, Nat.le_of_ble_eq_true rfl⟩) rfl rfl rfl rfl (Nat.le_of_ble_eq_true rfl) dX10_look_120 rfl (fun r_2 _ H locs h hP hD hS => ?_)
    exact hret _ _ _ _ _ () dX10_look_123 (vp_nar_int _) h hP hD hS
  have h := h.2 c5
  by_cases c6 : x1 = 6
  · have h := h.1 c6
    refine lv_tableIn (tgt := 124) (off := 123) hx hb dX10_look_1 (by rw [c6]; decide) (by rw [c6]; decide) (by rw [c6]; rfl) (by decide) ?_
    refine lv_aload_n hx hb dX10_look_124 rfl (lv_at hl 0 rfl) ?_
    refine va_get (D := (dC, dI)) (ci := 10) (v := .ref (q0 1)) (C := RX10) (T := TX10) (N := 6) hx hb hts inX10_look_10 hown hK hP 0 rfl rfl 0 (by decide) (hts _ kX10_look_1) (fun _ h9 => h9) rfl dX10_look_125 ?_
    refine va_get (D := (dC, dI)) (ci := 9) (v := .ref (q0 14)) (C := RX9) (T := TX9) (N := 11) hx hb hts inX10_look_9 hown hK hP 1 rfl rfl 2 (by decide) (hts _ kX10_look_8) (fun _ h9 => h9) rfl dX10_look_128 ?_
    refine lv_iconst (v := 1) hx hb dX10_look_131 (by decide) ?_
    refine cx_vi (As := [.int 1]) (rest := []) ⟨hx, hb, hml, hown, hts⟩ hl.1 ok_sxE hE hK hP hD hS hA (cut_90 cI q0 u0) (c_X5_allThatAre (l := l) (dC := dC) (dI := dI) (cI := cI) (q0 := fun i => q0 (i + 14)) h) (cwV 1 hts gX10_look_X5_allThatAre rfl rfl rfl hdX5_allThatAre ⟨Nat.le_of_ble_eq_true rfl, Nat.le_of_ble_eq_true rfl⟩) rfl rfl rfl rfl (Nat.le_of_ble_eq_true rfl) dX10_look_132 rfl (fun r_3 _ H locs h hP hD hS => ?_)
    exact hret _ _ _ _ _ () dX10_look_135 (vp_nar_int _) h hP hD hS
  have h := h.2 c6
  by_cases c7 : x1 = 7
  · have h := h.1 c7
    refine lv_tableIn (tgt := 136) (off := 135) hx hb dX10_look_1 (by rw [c7]; decide) (by rw [c7]; decide) (by rw [c7]; rfl) (by decide) ?_
    refine lv_aload_n hx hb dX10_look_136 rfl (lv_at hl 0 rfl) ?_
    refine va_get (D := (dC, dI)) (ci := 10) (v := .ref (q0 1)) (C := RX10) (T := TX10) (N := 6) hx hb hts inX10_look_10 hown hK hP 0 rfl rfl 0 (by decide) (hts _ kX10_look_1) (fun _ h9 => h9) rfl dX10_look_137 ?_
    refine va_get (D := (dC, dI)) (ci := 9) (v := .ref (q0 14)) (C := RX9) (T := TX9) (N := 11) hx hb hts inX10_look_9 hown hK hP 1 rfl rfl 2 (by decide) (hts _ kX10_look_8) (fun _ h9 => h9) rfl dX10_look_140 ?_
    refine lv_iconst (v := 2) hx hb dX10_look_143 (by decide) ?_
    refine cx_vi (As := [.int 2]) (rest := []) ⟨hx, hb, hml, hown, hts⟩ hl.1 ok_sxE hE hK hP hD hS hA (cut_90 cI q0 u0) (c_X5_allThatAre (l := l) (dC := dC) (dI := dI) (cI := cI) (q0 := fun i => q0 (i + 14)) h) (cwV 1 hts gX10_look_X5_allThatAre rfl rfl rfl hdX5_allThatAre ⟨Nat.le_of_ble_eq_true rfl, Nat.le_of_ble_eq_true rfl⟩) rfl rfl rfl rfl (Nat.le_of_ble_eq_true rfl) dX10_look_144 rfl (fun r_4 _ H locs h hP hD hS => ?_)
    exact hret _ _ _ _ _ () dX10_look_147 (vp_nar_int _) h hP hD hS
  have h := h.2 c7
  by_cases c8 : x1 = 8
  · have h := h.1 c8
    refine lv_tableIn (tgt := 148) (off := 147) hx hb dX10_look_1 (by rw [c8]; decide) (by rw [c8]; decide) (by rw [c8]; rfl) (by decide) ?_
    refine lv_aload_n hx hb dX10_look_148 rfl (lv_at hl 0 rfl) ?_
    refine va_get (D := (dC, dI)) (ci := 10) (v := .ref (q0 1)) (C := RX10) (T := TX10) (N := 6) hx hb hts inX10_look_10 hown hK hP 0 rfl rfl 0 (by decide) (hts _ kX10_look_1) (fun _ h9 => h9) rfl dX10_look_149 ?_
    refine va_get (D := (dC, dI)) (ci := 9) (v := .int (g9_openCheck (g10_now u0))) (C := RX9) (T := TX9) (N := 11) hx hb hts inX10_look_9 hown hK hP 1 rfl rfl 8 (by decide) (hts _ kX10_look_9) (fun _ h9 => h9) rfl dX10_look_152 ?_
    exact hret _ _ _ _ _ () dX10_look_155 (vp_nar_int _) h hP hD hS
  have h := h.2 c8
  by_cases c9 : x1 = 9
  · have h := h.1 c9
    refine lv_tableIn (tgt := 156) (off := 155) hx hb dX10_look_1 (by rw [c9]; decide) (by rw [c9]; decide) (by rw [c9]; rfl) (by decide) ?_
    refine lv_aload_n hx hb dX10_look_156 rfl (lv_at hl 0 rfl) ?_
    refine va_get (D := (dC, dI)) (ci := 10) (v := .ref (q0 1)) (C := RX10) (T := TX10) (N := 6) hx hb hts inX10_look_10 hown hK hP 0 rfl rfl 0 (by decide) (hts _ kX10_look_1) (fun _ h9 => h9) rfl dX10_look_157 ?_
    refine cx_vi (As := []) (rest := []) ⟨hx, hb, hml, hown, hts⟩ hl.1 ok_sxE hE hK hP hD hS hA (cut_82 cI q0 u0) (c_X9_needed (l := l) (dC := dC) (dI := dI) (cI := cI) (q0 := fun i => q0 (i + 1)) h) (cwV 0 hts gX10_look_X9_needed rfl rfl rfl hdX9_needed ⟨Nat.le_of_ble_eq_true rfl, Nat.le_of_ble_eq_true rfl⟩) rfl rfl rfl rfl (Nat.le_of_ble_eq_true rfl) dX10_look_160 rfl (fun r_5 _ H locs h hP hD hS => ?_)
    exact hret _ _ _ _ _ () dX10_look_163 (vp_nar_int _) h hP hD hS
  have h := h.2 c9
  refine lv_tableOut (tgt := 164) hx hb dX10_look_1 (by have z0 := lv_neT (a := 0) c0 (by decide); have z1 := lv_neT (a := 1) c1 (by decide); have z2 := lv_neT (a := 2) c2 (by decide); have z3 := lv_neT (a := 3) c3 (by decide); have z4 := lv_neT (a := 4) c4 (by decide); have z5 := lv_neT (a := 5) c5 (by decide); have z6 := lv_neT (a := 6) c6 (by decide); have z7 := lv_neT (a := 7) c7 (by decide); have z8 := lv_neT (a := 8) c8 (by decide); have z9 := lv_neT (a := 9) c9 (by decide); omega) (by decide) ?_
  refine lv_aload_n hx hb dX10_look_164 rfl (lv_at hl 0 rfl) ?_
  refine lv_iload_n hx hb dX10_look_165 rfl (lv_at hl 1 rfl) ?_
  refine cx_vi (As := [.int x1]) (rest := []) ⟨hx, hb, hml, hown, hts⟩ hl.1 ok_sxE hE hK hP hD hS hA (cut_89 cI q0 u0) (c_X10_lookFurther (l := l) (dC := dC) (dI := dI) (cI := cI) (q0 := q0) h) (cwV 1 hts gX10_look_X10_lookFurther rfl rfl rfl hdX10_lookFurther ⟨Nat.le_of_ble_eq_true rfl, Nat.le_of_ble_eq_true rfl⟩) rfl rfl rfl rfl (Nat.le_of_ble_eq_true rfl) dX10_look_166 rfl (fun r_1 _ H locs h hP hD hS => ?_)
  exact hret _ _ _ _ _ () dX10_look_169 (vp_nar_int _) h hP hD hS
