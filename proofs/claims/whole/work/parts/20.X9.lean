abbrev rX9_firstFrom : Room := { frames := 0, cells := 0, slots := 0, locals := 0 }
theorem hdX9_firstFrom : yX9_firstFrom.cls = RX9 ∧ yX9_firstFrom.cls ≠ "java/lang/invoke/MethodHandle" ∧ yX9_firstFrom.cls ≠ "java/lang/invoke/VarHandle" ∧ (parseMethodDescriptor yX9_firstFrom.desc).map (fun d => d.parameters.length) = some 0 := by decide +kernel
theorem inX9_firstFrom_9 : ∀ w ∈ wsX90, w ∈ wsX9_firstFrom := by decide +kernel
theorem kX9_firstFrom_0 : Cond.fieldLink RX9 57 "AheadStore$World" "master" "I" ∈ wsX9_firstFrom := by decide +kernel
set_option maxHeartbeats 4000000 in
set_option maxRecDepth 100000 in
theorem c_X9_firstFrom {l : Launch} {dC : Nat → ClassId} {dI : Nat → Nat → Nat} {cI : ClassId} {q0 : Nat → Nat} {sz : Nat} {u0 : S9}  {Q : Int32 → Prop} (h : wp_X9_firstFrom u0 Q) : ctI sxE l yX9_firstFrom wsX9_firstFrom rX9_firstFrom (dC, dI) vwCl [(cI, .int)] [.ref (q0 0)] (cs9 cI q0 u0) sz (fun (r : Int32) (_ : Unit) => Q r) (fun (_ : Unit) => cs9 cI q0 u0) := by
  refine mx_i (cc := cX9_firstFrom) (maxL := 1) (ty := .int) (by decide) rfl (Nat.le_of_ble_eq_true rfl) ?_
  intro p e s m below meth c Z A ls args hx hb hml hown hts hA hP hK hD hE hl hret
  have hown : s.vm.findClass RX9 = some m.cls := hown
  have hl : lv_has ls 1 [(0, .ref (q0 0))] := hl
  have hS : va_S A s.heap s.heap [] := va_S.rf
  refine lv_aload_n hx hb dX9_firstFrom_0 rfl (lv_at hl 0 rfl) ?_
  refine va_get (D := (dC, dI)) (ci := 9) (v := .int (g9_master u0)) (C := RX9) (T := TX9) (N := 11) hx hb hts inX9_firstFrom_9 hown hK hP 0 rfl rfl 7 (by decide) (hts _ kX9_firstFrom_0) (fun _ h9 => h9) rfl dX9_firstFrom_1 ?_
  refine lv_if_ne (tgt := 12) hx hb dX9_firstFrom_4 (by decide) (fun cd => ?_) (fun cd => ?_)
  · have h := h.2 cd
    refine lv_aload_n hx hb dX9_firstFrom_12 rfl (lv_at hl 0 rfl) ?_
    refine va_get (D := (dC, dI)) (ci := 9) (v := .int (g9_master u0)) (C := RX9) (T := TX9) (N := 11) hx hb hts inX9_firstFrom_9 hown hK hP 0 rfl rfl 7 (by decide) (hts _ kX9_firstFrom_0) (fun _ h9 => h9) rfl dX9_firstFrom_13 ?_
    exact hret _ _ _ _ _ () dX9_firstFrom_16 (vp_nar_int _) h hP hD hS
  · have h := h.1 cd
    refine lv_bipush (v := 8) hx hb dX9_firstFrom_7 (by decide) ?_
    refine lv_goto (tgt := 16) hx hb dX9_firstFrom_9 (by decide) ?_
    exact hret _ _ _ _ _ () dX9_firstFrom_16 (vp_nar_int _) h hP hD hS

set_option maxRecDepth 100000 in
theorem cut_34 (cI : ClassId) (q0 : Nat → Nat) (u0 : S9) : Cut (cs9 cI q0 u0) (cs2 cI (fun i => q0 (i + 1)) (g9_journal u0)) (fun v : S2 => cs2 cI (fun i => q0 (i + 1)) v) (fun v : S2 => cs9 cI q0 (s9_journal u0 v)) := ⟨[1, 2], [0, 3, 4, 5, 6, 7, 8, 9, 10, 11, 12, 13, 14, 15, 16, 17, 18, 19, 20, 21, 22, 23, 24, 25, 26, 27, 28, 29], rfl, rfl, rfl, by decide, by decide, fun v => ⟨[0, 28, 29, 1, 2, 3, 4, 5, 6, 7, 8, 9, 10, 11, 12, 13, 14, 15, 16, 17, 18, 19, 20, 21, 22, 23, 24, 25, 26, 27], rfl, rfl⟩⟩

abbrev rX9_finish : Room := { frames := 1, cells := 0, slots := 0, locals := 23 }
theorem hdX9_finish : yX9_finish.cls = RX9 ∧ yX9_finish.cls ≠ "java/lang/invoke/MethodHandle" ∧ yX9_finish.cls ≠ "java/lang/invoke/VarHandle" ∧ (parseMethodDescriptor yX9_finish.desc).map (fun d => d.parameters.length) = some 1 := by decide +kernel
theorem inX9_finish_5 : ∀ w ∈ wsX50, w ∈ wsX9_finish := by decide +kernel
theorem inX9_finish_9 : ∀ w ∈ wsX90, w ∈ wsX9_finish := by decide +kernel
theorem kX9_finish_0 : Cond.fieldLink RX9 85 "AheadStore$Roster" "last" "[I" ∈ wsX9_finish := by decide +kernel
theorem kX9_finish_1 : Cond.fieldLink RX9 28 "AheadStore$World" "roster" "LAheadStore$Roster;" ∈ wsX9_finish := by decide +kernel
theorem kX9_finish_2 : Cond.fieldLink RX9 12 "AheadStore$World" "journal" "LAheadStore$Journal;" ∈ wsX9_finish := by decide +kernel
set_option maxHeartbeats 4000000 in
set_option maxRecDepth 100000 in
theorem c_X9_finish {l : Launch} {dC : Nat → ClassId} {dI : Nat → Nat → Nat} {cI : ClassId} {q0 : Nat → Nat} {sz : Nat} {u0 : S9} {x1 : Int32} {Q : Int32 → S9 → Prop} (h : wp_X9_finish u0 x1 Q) : ctI sxE l yX9_finish wsX9_finish rX9_finish (dC, dI) vwCl [(cI, .int)] [.ref (q0 0), .int x1] (cs9 cI q0 u0) sz (fun (r : Int32) (v : S9) => Q r v) (fun (v : S9) => cs9 cI q0 v) := by
  refine mx_i (cc := cX9_finish) (maxL := 3) (ty := .int) (by decide) rfl (Nat.le_of_ble_eq_true rfl) ?_
  intro p e s m below meth c Z A ls args hx hb hml hown hts hA hP hK hD hE hl hret
  have hown : s.vm.findClass RX9 = some m.cls := hown
  have hl : lv_has ls 3 [(0, .ref (q0 0)), (1, .int x1)] := hl
  have hS : va_S A s.heap s.heap [] := va_S.rf
  refine lv_aload_n hx hb dX9_finish_0 rfl (lv_at hl 0 rfl) ?_
  refine va_get (D := (dC, dI)) (ci := 9) (v := .ref (q0 1)) (C := RX9) (T := TX9) (N := 11) hx hb hts inX9_finish_9 hown hK hP 0 rfl rfl 0 (by decide) (hts _ kX9_finish_2) (fun _ h9 => h9) rfl dX9_finish_1 ?_
  refine cx_vi (As := []) (rest := []) ⟨hx, hb, hml, hown, hts⟩ hl.1 ok_sxE hE hK hP hD hS hA (cut_34 cI q0 u0) (c_X2_seal (l := l) (dC := dC) (dI := dI) (cI := cI) (q0 := fun i => q0 (i + 1)) h) (cwV 0 hts gX9_finish_X2_seal rfl rfl rfl hdX2_seal ⟨Nat.le_of_ble_eq_true rfl, Nat.le_of_ble_eq_true rfl⟩) rfl rfl rfl rfl (Nat.le_of_ble_eq_true rfl) dX9_finish_4 rfl (fun r_1 v_2 H locs h hP hD hS => ?_)
  obtain ⟨u0_3, e_u0_3⟩ : ∃ z, z = s9_journal u0 v_2 := ⟨_, rfl⟩
  have h := h u0_3 e_u0_3
  have hP : va_P (dC, dI) vwCl (cs9 cI q0 u0_3) H := by rw [e_u0_3]; exact hP
  have hD : va_D A (cs9 cI q0 u0_3) := by rw [e_u0_3]; exact hD
  refine lv_istore_n (lv' := [(2, .int r_1), (0, .ref (q0 0)), (1, .int x1)]) hx hb dX9_finish_7 rfl hl (by decide) rfl (fun ls hl => ?_)
  refine lv_aload_n hx hb dX9_finish_8 rfl (lv_at hl 1 rfl) ?_
  refine va_get (D := (dC, dI)) (ci := 9) (v := .ref (q0 13)) (C := RX9) (T := TX9) (N := 11) hx hb hts inX9_finish_9 hown hK hP 0 rfl rfl 2 (by decide) (hts _ kX9_finish_1) (fun _ h9 => h9) rfl dX9_finish_9 ?_
  refine va_get (D := (dC, dI)) (ci := 5) (v := .ref (q0 15)) (C := RX5) (T := TX5) (N := 3) hx hb hts inX9_finish_5 hown hK hP 13 rfl rfl 1 (by decide) (hts _ kX9_finish_0) (fun _ h9 => h9) rfl dX9_finish_12 ?_
  refine lv_iload_n hx hb dX9_finish_15 rfl (lv_at hl 2 rfl) ?_
  refine lv_iload_n hx hb dX9_finish_16 rfl (lv_at hl 0 rfl) ?_
  refine va_iast hx hb hK hP hD hS 15 0 rfl rfl h.1 dX9_finish_17 (fun H locs hP hD hS => ?_)
  have h := h.2
  obtain ⟨u0_4, e_u0_4⟩ : ∃ z, z = s9_roster u0_3 (s5_last (g9_roster u0_3) (upd (g5_last (g9_roster u0_3)) x1.toNatClampNeg r_1)) := ⟨_, rfl⟩
  have h := h u0_4 e_u0_4
  have hP : va_P (dC, dI) vwCl (cs9 cI q0 u0_4) H := by rw [e_u0_4]; exact hP
  have hD : va_D A (cs9 cI q0 u0_4) := by rw [e_u0_4]; exact hD
  refine lv_iload_n hx hb dX9_finish_18 rfl (lv_at hl 0 rfl) ?_
  exact hret _ _ _ _ _ u0_4 dX9_finish_19 (vp_nar_int _) h hP hD hS

set_option maxRecDepth 100000 in
theorem cut_35 (cI : ClassId) (q0 : Nat → Nat) (u0 : S9) : Cut (cs9 cI q0 u0) (cs9 cI q0 u0) (fun v : S9 => cs9 cI q0 v) (fun v : S9 => cs9 cI q0 v) := ⟨[0, 1, 2, 3, 4, 5, 6, 7, 8, 9, 10, 11, 12, 13, 14, 15, 16, 17, 18, 19, 20, 21, 22, 23, 24, 25, 26, 27, 28, 29], [], rfl, rfl, rfl, by decide, by decide, fun v => ⟨[0, 1, 2, 3, 4, 5, 6, 7, 8, 9, 10, 11, 12, 13, 14, 15, 16, 17, 18, 19, 20, 21, 22, 23, 24, 25, 26, 27, 28, 29], rfl, rfl⟩⟩

abbrev rX9_note : Room := { frames := 2, cells := 0, slots := 0, locals := 45 }
theorem hdX9_note : yX9_note.cls = RX9 ∧ yX9_note.cls ≠ "java/lang/invoke/MethodHandle" ∧ yX9_note.cls ≠ "java/lang/invoke/VarHandle" ∧ (parseMethodDescriptor yX9_note.desc).map (fun d => d.parameters.length) = some 2 := by decide +kernel
theorem inX9_note_5 : ∀ w ∈ wsX50, w ∈ wsX9_note := by decide +kernel
theorem inX9_note_9 : ∀ w ∈ wsX90, w ∈ wsX9_note := by decide +kernel
theorem kX9_note_0 : Cond.fieldLink RX9 85 "AheadStore$Roster" "last" "[I" ∈ wsX9_note := by decide +kernel
theorem kX9_note_1 : Cond.fieldLink RX9 28 "AheadStore$World" "roster" "LAheadStore$Roster;" ∈ wsX9_note := by decide +kernel
theorem kX9_note_2 : Cond.fieldLink RX9 12 "AheadStore$World" "journal" "LAheadStore$Journal;" ∈ wsX9_note := by decide +kernel
set_option maxHeartbeats 4000000 in
set_option maxRecDepth 100000 in
theorem c_X9_note {l : Launch} {dC : Nat → ClassId} {dI : Nat → Nat → Nat} {cI : ClassId} {q0 : Nat → Nat} {sz : Nat} {u0 : S9} {x1 : Int32} {x2 : Int32} {Q : Int32 → S9 → Prop} (h : wp_X9_note u0 x1 x2 Q) : ctI sxE l yX9_note wsX9_note rX9_note (dC, dI) vwCl [(cI, .int)] [.ref (q0 0), .int x1, .int x2] (cs9 cI q0 u0) sz (fun (r : Int32) (v : S9) => Q r v) (fun (v : S9) => cs9 cI q0 v) := by
  refine mx_i (cc := cX9_note) (maxL := 3) (ty := .int) (by decide) rfl (Nat.le_of_ble_eq_true rfl) ?_
  intro p e s m below meth c Z A ls args hx hb hml hown hts hA hP hK hD hE hl hret
  have hown : s.vm.findClass RX9 = some m.cls := hown
  have hl : lv_has ls 3 [(0, .ref (q0 0)), (1, .int x1), (2, .int x2)] := hl
  have hS : va_S A s.heap s.heap [] := va_S.rf
  refine lv_aload_n hx hb dX9_note_0 rfl (lv_at hl 0 rfl) ?_
  refine va_get (D := (dC, dI)) (ci := 9) (v := .ref (q0 1)) (C := RX9) (T := TX9) (N := 11) hx hb hts inX9_note_9 hown hK hP 0 rfl rfl 0 (by decide) (hts _ kX9_note_2) (fun _ h9 => h9) rfl dX9_note_1 ?_
  refine lv_iload_n hx hb dX9_note_4 rfl (lv_at hl 2 rfl) ?_
  refine lv_iload_n hx hb dX9_note_5 rfl (lv_at hl 1 rfl) ?_
  refine lv_aload_n hx hb dX9_note_6 rfl (lv_at hl 0 rfl) ?_
  refine va_get (D := (dC, dI)) (ci := 9) (v := .ref (q0 13)) (C := RX9) (T := TX9) (N := 11) hx hb hts inX9_note_9 hown hK hP 0 rfl rfl 2 (by decide) (hts _ kX9_note_1) (fun _ h9 => h9) rfl dX9_note_7 ?_
  refine va_get (D := (dC, dI)) (ci := 5) (v := .ref (q0 15)) (C := RX5) (T := TX5) (N := 3) hx hb hts inX9_note_5 hown hK hP 13 rfl rfl 1 (by decide) (hts _ kX9_note_0) (fun _ h9 => h9) rfl dX9_note_10 ?_
  refine lv_iload_n hx hb dX9_note_13 rfl (lv_at hl 1 rfl) ?_
  refine va_iald hx hb hK hP 15 0 rfl rfl h.1 dX9_note_14 ?_
  have h := h.2
  refine cx_vv (As := [.int x2, .int x1, .int ((g5_last (g9_roster u0)) x1.toNatClampNeg)]) (rest := []) ⟨hx, hb, hml, hown, hts⟩ hl.1 ok_sxE hE hK hP hD hS hA (cut_34 cI q0 u0) (c_X2_start (l := l) (dC := dC) (dI := dI) (cI := cI) (q0 := fun i => q0 (i + 1)) h) (cwV 3 hts gX9_note_X2_start rfl rfl rfl hdX2_start ⟨Nat.le_of_ble_eq_true rfl, Nat.le_of_ble_eq_true rfl⟩) rfl rfl rfl rfl (Nat.le_of_ble_eq_true rfl) dX9_note_15 rfl (fun v_1 H locs h hP hD hS => ?_)
  obtain ⟨u0_2, e_u0_2⟩ : ∃ z, z = s9_journal u0 v_1 := ⟨_, rfl⟩
  have h := h u0_2 e_u0_2
  have hP : va_P (dC, dI) vwCl (cs9 cI q0 u0_2) H := by rw [e_u0_2]; exact hP
  have hD : va_D A (cs9 cI q0 u0_2) := by rw [e_u0_2]; exact hD
  refine lv_aload_n hx hb dX9_note_18 rfl (lv_at hl 0 rfl) ?_
  refine lv_iload_n hx hb dX9_note_19 rfl (lv_at hl 1 rfl) ?_
  refine cx_vi (As := [.int x1]) (rest := []) ⟨hx, hb, hml, hown, hts⟩ hl.1 ok_sxE hE hK hP hD hS hA (cut_35 cI q0 u0_2) (c_X9_finish (l := l) (dC := dC) (dI := dI) (cI := cI) (q0 := q0) h) (cwV 1 hts gX9_note_X9_finish rfl rfl rfl hdX9_finish ⟨Nat.le_of_ble_eq_true rfl, Nat.le_of_ble_eq_true rfl⟩) rfl rfl rfl rfl (Nat.le_of_ble_eq_true rfl) dX9_note_20 rfl (fun r_3 v_4 H locs h hP hD hS => ?_)
  have hP : va_P (dC, dI) vwCl (cs9 cI q0 v_4) H :=  hP
  have hD : va_D A (cs9 cI q0 v_4) :=  hD
  exact hret _ _ _ _ _ v_4 dX9_note_23 (vp_nar_int _) h hP hD hS

set_option maxRecDepth 100000 in
theorem cut_36 (cI : ClassId) (q0 : Nat → Nat) (u0 : S9) : Cut (cs9 cI q0 u0) (cs0 cI (fun i => q0 (i + 17)) (g9_claims u0)) (fun v : S0 => cs0 cI (fun i => q0 (i + 17)) v) (fun v : S0 => cs9 cI q0 (s9_claims u0 v)) := ⟨[17, 18, 19, 20, 21, 22, 23, 24], [0, 1, 2, 3, 4, 5, 6, 7, 8, 9, 10, 11, 12, 13, 14, 15, 16, 25, 26, 27, 28, 29], rfl, rfl, rfl, by decide, by decide, fun v => ⟨[0, 1, 2, 3, 4, 5, 6, 7, 8, 9, 10, 11, 12, 13, 14, 15, 16, 22, 23, 24, 25, 26, 27, 28, 29, 17, 18, 19, 20, 21], rfl, rfl⟩⟩

set_option maxRecDepth 100000 in
theorem cut_37 (cI : ClassId) (q0 : Nat → Nat) (u0 : S9) : Cut (cs9 cI q0 u0) (cs5 cI (fun i => q0 (i + 13)) (g9_roster u0)) (fun v : S5 => cs5 cI (fun i => q0 (i + 13)) v) (fun v : S5 => cs9 cI q0 (s9_roster u0 v)) := ⟨[13, 14, 15, 16], [0, 1, 2, 3, 4, 5, 6, 7, 8, 9, 10, 11, 12, 17, 18, 19, 20, 21, 22, 23, 24, 25, 26, 27, 28, 29], rfl, rfl, rfl, by decide, by decide, fun v => ⟨[0, 1, 2, 3, 4, 5, 6, 7, 8, 9, 10, 11, 12, 26, 27, 28, 29, 13, 14, 15, 16, 17, 18, 19, 20, 21, 22, 23, 24, 25], rfl, rfl⟩⟩

abbrev rX9_endOf : Room := { frames := 3, cells := 0, slots := 0, locals := 67 }
theorem hdX9_endOf : yX9_endOf.cls = RX9 ∧ yX9_endOf.cls ≠ "java/lang/invoke/MethodHandle" ∧ yX9_endOf.cls ≠ "java/lang/invoke/VarHandle" ∧ (parseMethodDescriptor yX9_endOf.desc).map (fun d => d.parameters.length) = some 1 := by decide +kernel
theorem inX9_endOf_9 : ∀ w ∈ wsX90, w ∈ wsX9_endOf := by decide +kernel
theorem kX9_endOf_0 : Cond.fieldLink RX9 35 "AheadStore$World" "claims" "LAheadStore$Claims;" ∈ wsX9_endOf := by decide +kernel
theorem kX9_endOf_1 : Cond.fieldLink RX9 28 "AheadStore$World" "roster" "LAheadStore$Roster;" ∈ wsX9_endOf := by decide +kernel
set_option maxHeartbeats 4000000 in
set_option maxRecDepth 100000 in
theorem c_X9_endOf {l : Launch} {dC : Nat → ClassId} {dI : Nat → Nat → Nat} {cI : ClassId} {q0 : Nat → Nat} {sz : Nat} {u0 : S9} {x1 : Int32} {Q : S9 → Prop} (h : wp_X9_endOf u0 x1 Q) : ctV sxE l yX9_endOf wsX9_endOf rX9_endOf (dC, dI) vwCl [(cI, .int)] [.ref (q0 0), .int x1] (cs9 cI q0 u0) sz (fun (v : S9) => Q v) (fun (v : S9) => cs9 cI q0 v) := by
  refine mx_v (cc := cX9_endOf) (maxL := 2) (by decide) rfl (Nat.le_of_ble_eq_true rfl) ?_
  intro p e s m below meth c Z A ls args hx hb hml hown hts hA hP hK hD hE hl hret
  have hown : s.vm.findClass RX9 = some m.cls := hown
  have hl : lv_has ls 2 [(0, .ref (q0 0)), (1, .int x1)] := hl
  have hS : va_S A s.heap s.heap [] := va_S.rf
  refine lv_aload_n hx hb dX9_endOf_0 rfl (lv_at hl 0 rfl) ?_
  refine lv_iload_n hx hb dX9_endOf_1 rfl (lv_at hl 1 rfl) ?_
  refine lv_bipush (v := 7) hx hb dX9_endOf_2 (by decide) ?_
  refine cx_vi (As := [.int x1, .int 7]) (rest := []) ⟨hx, hb, hml, hown, hts⟩ hl.1 ok_sxE hE hK hP hD hS hA (cut_35 cI q0 u0) (c_X9_note (l := l) (dC := dC) (dI := dI) (cI := cI) (q0 := q0) h) (cwV 2 hts gX9_endOf_X9_note rfl rfl rfl hdX9_note ⟨Nat.le_of_ble_eq_true rfl, Nat.le_of_ble_eq_true rfl⟩) rfl rfl rfl rfl (Nat.le_of_ble_eq_true rfl) dX9_endOf_4 rfl (fun r_1 v_2 H locs h hP hD hS => ?_)
  have hP : va_P (dC, dI) vwCl (cs9 cI q0 v_2) H :=  hP
  have hD : va_D A (cs9 cI q0 v_2) :=  hD
  refine lv_pop hx hb dX9_endOf_7 rfl ?_
  refine lv_aload_n hx hb dX9_endOf_8 rfl (lv_at hl 0 rfl) ?_
  refine va_get (D := (dC, dI)) (ci := 9) (v := .ref (q0 13)) (C := RX9) (T := TX9) (N := 11) hx hb hts inX9_endOf_9 hown hK hP 0 rfl rfl 2 (by decide) (hts _ kX9_endOf_1) (fun _ h9 => h9) rfl dX9_endOf_9 ?_
  refine lv_iload_n hx hb dX9_endOf_12 rfl (lv_at hl 1 rfl) ?_
  refine cx_vv (As := [.int x1]) (rest := []) ⟨hx, hb, hml, hown, hts⟩ hl.1 ok_sxE hE hK hP hD hS hA (cut_37 cI q0 v_2) (c_X5_remove (l := l) (dC := dC) (dI := dI) (cI := cI) (q0 := fun i => q0 (i + 13)) h) (cwV 1 hts gX9_endOf_X5_remove rfl rfl rfl hdX5_remove ⟨Nat.le_of_ble_eq_true rfl, Nat.le_of_ble_eq_true rfl⟩) rfl rfl rfl rfl (Nat.le_of_ble_eq_true rfl) dX9_endOf_13 rfl (fun v_3 H locs h hP hD hS => ?_)
  obtain ⟨u0_4, e_u0_4⟩ : ∃ z, z = s9_roster v_2 v_3 := ⟨_, rfl⟩
  have h := h u0_4 e_u0_4
  have hP : va_P (dC, dI) vwCl (cs9 cI q0 u0_4) H := by rw [e_u0_4]; exact hP
  have hD : va_D A (cs9 cI q0 u0_4) := by rw [e_u0_4]; exact hD
  refine lv_aload_n hx hb dX9_endOf_16 rfl (lv_at hl 0 rfl) ?_
  refine va_get (D := (dC, dI)) (ci := 9) (v := .ref (q0 17)) (C := RX9) (T := TX9) (N := 11) hx hb hts inX9_endOf_9 hown hK hP 0 rfl rfl 3 (by decide) (hts _ kX9_endOf_0) (fun _ h9 => h9) rfl dX9_endOf_17 ?_
  refine lv_iload_n hx hb dX9_endOf_20 rfl (lv_at hl 1 rfl) ?_
  refine cx_vv (As := [.int x1]) (rest := []) ⟨hx, hb, hml, hown, hts⟩ hl.1 ok_sxE hE hK hP hD hS hA (cut_36 cI q0 u0_4) (c_X0_forget (l := l) (dC := dC) (dI := dI) (cI := cI) (q0 := fun i => q0 (i + 17)) h) (cwV 1 hts gX9_endOf_X0_forget rfl rfl rfl hdX0_forget ⟨Nat.le_of_ble_eq_true rfl, Nat.le_of_ble_eq_true rfl⟩) rfl rfl rfl rfl (Nat.le_of_ble_eq_true rfl) dX9_endOf_21 rfl (fun v_5 H locs h hP hD hS => ?_)
  obtain ⟨u0_6, e_u0_6⟩ : ∃ z, z = s9_claims u0_4 v_5 := ⟨_, rfl⟩
  have h := h u0_6 e_u0_6
  have hP : va_P (dC, dI) vwCl (cs9 cI q0 u0_6) H := by rw [e_u0_6]; exact hP
  have hD : va_D A (cs9 cI q0 u0_6) := by rw [e_u0_6]; exact hD
  exact hret _ _ _ _ u0_6 dX9_endOf_24 h hP hD hS

set_option maxRecDepth 100000 in
theorem cut_38 (cI : ClassId) (q0 : Nat → Nat) (u0 : S9) : Cut (cs9 cI q0 u0) (cs3 cI (fun i => q0 (i + 3)) (g9_pages u0) ++ cs2 cI (fun i => q0 (i + 1)) (g9_journal u0)) (fun v : S3 => cs3 cI (fun i => q0 (i + 3)) v ++ cs2 cI (fun i => q0 (i + 1)) (g9_journal u0)) (fun v : S3 => cs9 cI q0 (s9_pages u0 v)) := ⟨[3, 4, 5, 6, 7, 8, 9, 10, 11, 12, 1, 2], [0, 13, 14, 15, 16, 17, 18, 19, 20, 21, 22, 23, 24, 25, 26, 27, 28, 29], rfl, rfl, rfl, by decide, by decide, fun v => ⟨[0, 28, 29, 18, 19, 20, 21, 22, 23, 24, 25, 26, 27, 1, 2, 3, 4, 5, 6, 7, 8, 9, 10, 11, 12, 13, 14, 15, 16, 17], rfl, rfl⟩⟩

set_option maxRecDepth 100000 in
theorem cut_39 (cI : ClassId) (q0 : Nat → Nat) (u0 : S9) : Cut (cs9 cI q0 u0) (cs2 cI (fun i => q0 (i + 1)) (g9_journal u0)) (fun _ : Unit => cs2 cI (fun i => q0 (i + 1)) (g9_journal u0)) (fun _ : Unit => cs9 cI q0 u0) := ⟨[1, 2], [0, 3, 4, 5, 6, 7, 8, 9, 10, 11, 12, 13, 14, 15, 16, 17, 18, 19, 20, 21, 22, 23, 24, 25, 26, 27, 28, 29], rfl, rfl, rfl, by decide, by decide, fun _ => ⟨[0, 28, 29, 1, 2, 3, 4, 5, 6, 7, 8, 9, 10, 11, 12, 13, 14, 15, 16, 17, 18, 19, 20, 21, 22, 23, 24, 25, 26, 27], rfl, rfl⟩⟩

set_option maxRecDepth 100000 in
theorem cut_40 (cI : ClassId) (q0 : Nat → Nat) (u0 : S9) : Cut (cs9 cI q0 u0) (cs3 cI (fun i => q0 (i + 3)) (g9_pages u0) ++ cs2 cI (fun i => q0 (i + 1)) (g9_journal u0)) (fun v : S3 × S2 => cs3 cI (fun i => q0 (i + 3)) v.1 ++ cs2 cI (fun i => q0 (i + 1)) v.2) (fun v : S3 × S2 => cs9 cI q0 (s9_journal (s9_pages u0 v.1) v.2)) := ⟨[3, 4, 5, 6, 7, 8, 9, 10, 11, 12, 1, 2], [0, 13, 14, 15, 16, 17, 18, 19, 20, 21, 22, 23, 24, 25, 26, 27, 28, 29], rfl, rfl, rfl, by decide, by decide, fun v => ⟨[0, 28, 29, 18, 19, 20, 21, 22, 23, 24, 25, 26, 27, 1, 2, 3, 4, 5, 6, 7, 8, 9, 10, 11, 12, 13, 14, 15, 16, 17], rfl, rfl⟩⟩

abbrev rX9_compensate : Room := { frames := 4, cells := 0, slots := 0, locals := 89 }
theorem hdX9_compensate : yX9_compensate.cls = RX9 ∧ yX9_compensate.cls ≠ "java/lang/invoke/MethodHandle" ∧ yX9_compensate.cls ≠ "java/lang/invoke/VarHandle" ∧ (parseMethodDescriptor yX9_compensate.desc).map (fun d => d.parameters.length) = some 2 := by decide +kernel
theorem inX9_compensate_5 : ∀ w ∈ wsX50, w ∈ wsX9_compensate := by decide +kernel
theorem inX9_compensate_9 : ∀ w ∈ wsX90, w ∈ wsX9_compensate := by decide +kernel
theorem kX9_compensate_0 : Cond.fieldLink RX9 12 "AheadStore$World" "journal" "LAheadStore$Journal;" ∈ wsX9_compensate := by decide +kernel
theorem kX9_compensate_1 : Cond.fieldLink RX9 21 "AheadStore$World" "pages" "LAheadStore$Pages;" ∈ wsX9_compensate := by decide +kernel
theorem kX9_compensate_2 : Cond.fieldLink RX9 85 "AheadStore$Roster" "last" "[I" ∈ wsX9_compensate := by decide +kernel
theorem kX9_compensate_3 : Cond.fieldLink RX9 28 "AheadStore$World" "roster" "LAheadStore$Roster;" ∈ wsX9_compensate := by decide +kernel
set_option maxHeartbeats 4000000 in
set_option maxRecDepth 100000 in
theorem c_X9_compensate {l : Launch} {dC : Nat → ClassId} {dI : Nat → Nat → Nat} {cI : ClassId} {q0 : Nat → Nat} {sz : Nat} {u0 : S9} {x1 : Int32} {x2 : Int32} {Q : S9 → Prop} (h : wp_X9_compensate u0 x1 x2 Q) : ctV sxE l yX9_compensate wsX9_compensate rX9_compensate (dC, dI) vwCl [(cI, .int)] [.ref (q0 0), .int x1, .int x2] (cs9 cI q0 u0) sz (fun (v : S9) => Q v) (fun (v : S9) => cs9 cI q0 v) := by
  refine mx_v (cc := cX9_compensate) (maxL := 6) (by decide) rfl (Nat.le_of_ble_eq_true rfl) ?_
  intro p e s m below meth c Z A ls args hx hb hml hown hts hA hP hK hD hE hl hret
  have hown : s.vm.findClass RX9 = some m.cls := hown
  have hl : lv_has ls 6 [(0, .ref (q0 0)), (1, .int x1), (2, .int x2)] := hl
  have w_126 : ∀ (x1 : Int32) (x2 : Int32) (x5 : Int32) (y1 : Int32) (u0 : S9) (H : Heap) (locs : List Loc) (ls : Array Slot) (_ : va_P (dC, dI) vwCl (cs9 cI q0 u0) H) (_ : va_D A (cs9 cI q0 u0)) (_ : va_S A s.heap H locs) (_ : lv_has ls 6 [(0, .ref (q0 0)), (1, .int x1), (2, .int x2), (5, .int x5)]) (_ : wp_X9_compensate_126 Q x1 x2 x5 y1 u0), W p l e rX9_compensate s m args below meth c H locs 0 0 Z (F0 m 126 ls [.int y1, .ref (q0 1)]) := by
    intro x1 x2 x5 y1 u0 H locs ls hP hD hS hl h
    refine cx_vv (As := [.int y1]) (rest := []) ⟨hx, hb, hml, hown, hts⟩ hl.1 ok_sxE hE hK hP hD hS hA (cut_34 cI q0 u0) (c_X2_put (l := l) (dC := dC) (dI := dI) (cI := cI) (q0 := fun i => q0 (i + 1)) h) (cwV 1 hts gX9_compensate_X2_put rfl rfl rfl hdX2_put ⟨Nat.le_of_ble_eq_true rfl, Nat.le_of_ble_eq_true rfl⟩) rfl rfl rfl rfl (Nat.le_of_ble_eq_true rfl) dX9_compensate_126 rfl (fun v_1 H locs h hP hD hS => ?_)
    obtain ⟨u0_2, e_u0_2⟩ : ∃ z, z = s9_journal u0 v_1 := ⟨_, rfl⟩
    have h := h u0_2 e_u0_2
    have hP : va_P (dC, dI) vwCl (cs9 cI q0 u0_2) H := by rw [e_u0_2]; exact hP
    have hD : va_D A (cs9 cI q0 u0_2) := by rw [e_u0_2]; exact hD
    refine lv_aload_n hx hb dX9_compensate_129 rfl (lv_at hl 0 rfl) ?_
    refine va_get (D := (dC, dI)) (ci := 9) (v := .ref (q0 1)) (C := RX9) (T := TX9) (N := 11) hx hb hts inX9_compensate_9 hown hK hP 0 rfl rfl 0 (by decide) (hts _ kX9_compensate_0) (fun _ h9 => h9) rfl dX9_compensate_130 ?_
    refine lv_aload_n hx hb dX9_compensate_133 rfl (lv_at hl 0 rfl) ?_
    refine va_get (D := (dC, dI)) (ci := 9) (v := .ref (q0 1)) (C := RX9) (T := TX9) (N := 11) hx hb hts inX9_compensate_9 hown hK hP 0 rfl rfl 0 (by decide) (hts _ kX9_compensate_0) (fun _ h9 => h9) rfl dX9_compensate_134 ?_
    refine lv_iload_n hx hb dX9_compensate_137 rfl (lv_at hl 2 rfl) ?_
    refine lv_iconst (v := 3) hx hb dX9_compensate_138 (by decide) ?_
    refine lv_iadd hx hb dX9_compensate_139 ?_
    refine cx_vi (As := [.int (x2 + 3)]) (rest := [.ref (q0 1)]) ⟨hx, hb, hml, hown, hts⟩ hl.1 ok_sxE hE hK hP hD hS hA (cut_39 cI q0 u0_2) (c_X2_pairAt (l := l) (dC := dC) (dI := dI) (cI := cI) (q0 := fun i => q0 (i + 1)) h) (cwV 1 hts gX9_compensate_X2_pairAt rfl rfl rfl hdX2_pairAt ⟨Nat.le_of_ble_eq_true rfl, Nat.le_of_ble_eq_true rfl⟩) rfl rfl rfl rfl (Nat.le_of_ble_eq_true rfl) dX9_compensate_140 rfl (fun r_3 _ H locs h hP hD hS => ?_)
    refine cx_vv (As := [.int r_3]) (rest := []) ⟨hx, hb, hml, hown, hts⟩ hl.1 ok_sxE hE hK hP hD hS hA (cut_34 cI q0 u0_2) (c_X2_putPair (l := l) (dC := dC) (dI := dI) (cI := cI) (q0 := fun i => q0 (i + 1)) h) (cwV 1 hts gX9_compensate_X2_putPair rfl rfl rfl hdX2_putPair ⟨Nat.le_of_ble_eq_true rfl, Nat.le_of_ble_eq_true rfl⟩) rfl rfl rfl rfl (Nat.le_of_ble_eq_true rfl) dX9_compensate_143 rfl (fun v_4 H locs h hP hD hS => ?_)
    obtain ⟨u0_5, e_u0_5⟩ : ∃ z, z = s9_journal u0_2 v_4 := ⟨_, rfl⟩
    have h := h u0_5 e_u0_5
    have hP : va_P (dC, dI) vwCl (cs9 cI q0 u0_5) H := by rw [e_u0_5]; exact hP
    have hD : va_D A (cs9 cI q0 u0_5) := by rw [e_u0_5]; exact hD
    refine lv_aload_n hx hb dX9_compensate_146 rfl (lv_at hl 0 rfl) ?_
    refine va_get (D := (dC, dI)) (ci := 9) (v := .ref (q0 3)) (C := RX9) (T := TX9) (N := 11) hx hb hts inX9_compensate_9 hown hK hP 0 rfl rfl 1 (by decide) (hts _ kX9_compensate_1) (fun _ h9 => h9) rfl dX9_compensate_147 ?_
    refine lv_iload hx hb dX9_compensate_150 (lv_at hl 3 rfl) ?_
    refine lv_aload_n hx hb dX9_compensate_152 rfl (lv_at hl 0 rfl) ?_
    refine lv_iload_n hx hb dX9_compensate_153 rfl (lv_at hl 1 rfl) ?_
    refine cx_vi (As := [.int x1]) (rest := [.int x5, .ref (q0 3)]) ⟨hx, hb, hml, hown, hts⟩ hl.1 ok_sxE hE hK hP hD hS hA (cut_35 cI q0 u0_5) (c_X9_finish (l := l) (dC := dC) (dI := dI) (cI := cI) (q0 := q0) h) (cwV 1 hts gX9_compensate_X9_finish rfl rfl rfl hdX9_finish ⟨Nat.le_of_ble_eq_true rfl, Nat.le_of_ble_eq_true rfl⟩) rfl rfl rfl rfl (Nat.le_of_ble_eq_true rfl) dX9_compensate_154 rfl (fun r_6 v_7 H locs h hP hD hS => ?_)
    have hP : va_P (dC, dI) vwCl (cs9 cI q0 v_7) H :=  hP
    have hD : va_D A (cs9 cI q0 v_7) :=  hD
    refine lv_aload_n hx hb dX9_compensate_157 rfl (lv_at hl 0 rfl) ?_
    refine va_get (D := (dC, dI)) (ci := 9) (v := .ref (q0 1)) (C := RX9) (T := TX9) (N := 11) hx hb hts inX9_compensate_9 hown hK hP 0 rfl rfl 0 (by decide) (hts _ kX9_compensate_0) (fun _ h9 => h9) rfl dX9_compensate_158 ?_
    refine cx_vv (As := [.int x5, .int r_6, .ref (q0 1)]) (rest := []) ⟨hx, hb, hml, hown, hts⟩ hl.1 ok_sxE hE hK hP hD hS hA (cut_38 cI q0 v_7) (c_X3_doIn (l := l) (dC := dC) (dI := dI) (cI := cI) (q0 := fun i => q0 (i + 3)) (q1 := fun i => q0 (i + 1)) h) (cwV 3 hts gX9_compensate_X3_doIn rfl rfl rfl hdX3_doIn ⟨Nat.le_of_ble_eq_true rfl, Nat.le_of_ble_eq_true rfl⟩) rfl rfl rfl rfl (Nat.le_of_ble_eq_true rfl) dX9_compensate_161 rfl (fun v_8 H locs h hP hD hS => ?_)
    obtain ⟨u0_9, e_u0_9⟩ : ∃ z, z = s9_pages v_7 v_8 := ⟨_, rfl⟩
    have h := h u0_9 e_u0_9
    have hP : va_P (dC, dI) vwCl (cs9 cI q0 u0_9) H := by rw [e_u0_9]; exact hP
    have hD : va_D A (cs9 cI q0 u0_9) := by rw [e_u0_9]; exact hD
    exact hret _ _ _ _ u0_9 dX9_compensate_164 h hP hD hS
  have w_85 : ∀ (x1 : Int32) (x2 : Int32) (x4 : Int32) (x5 : Int32) (y1 : Int32) (u0 : S9) (H : Heap) (locs : List Loc) (ls : Array Slot) (_ : va_P (dC, dI) vwCl (cs9 cI q0 u0) H) (_ : va_D A (cs9 cI q0 u0)) (_ : va_S A s.heap H locs) (_ : lv_has ls 6 [(0, .ref (q0 0)), (1, .int x1), (2, .int x2), (4, .int x4), (5, .int x5)]) (_ : wp_X9_compensate_85 Q x1 x2 x4 x5 y1 u0), W p l e rX9_compensate s m args below meth c H locs 0 0 Z (F0 m 85 ls [.int y1, .ref (q0 1)]) := by
    intro x1 x2 x4 x5 y1 u0 H locs ls hP hD hS hl h
    refine cx_vv (As := [.int y1]) (rest := []) ⟨hx, hb, hml, hown, hts⟩ hl.1 ok_sxE hE hK hP hD hS hA (cut_34 cI q0 u0) (c_X2_put (l := l) (dC := dC) (dI := dI) (cI := cI) (q0 := fun i => q0 (i + 1)) h) (cwV 1 hts gX9_compensate_X2_put rfl rfl rfl hdX2_put ⟨Nat.le_of_ble_eq_true rfl, Nat.le_of_ble_eq_true rfl⟩) rfl rfl rfl rfl (Nat.le_of_ble_eq_true rfl) dX9_compensate_85 rfl (fun v_10 H locs h hP hD hS => ?_)
    obtain ⟨u0_11, e_u0_11⟩ : ∃ z, z = s9_journal u0 v_10 := ⟨_, rfl⟩
    have h := h u0_11 e_u0_11
    have hP : va_P (dC, dI) vwCl (cs9 cI q0 u0_11) H := by rw [e_u0_11]; exact hP
    have hD : va_D A (cs9 cI q0 u0_11) := by rw [e_u0_11]; exact hD
    refine lv_aload_n hx hb dX9_compensate_88 rfl (lv_at hl 0 rfl) ?_
    refine va_get (D := (dC, dI)) (ci := 9) (v := .ref (q0 1)) (C := RX9) (T := TX9) (N := 11) hx hb hts inX9_compensate_9 hown hK hP 0 rfl rfl 0 (by decide) (hts _ kX9_compensate_0) (fun _ h9 => h9) rfl dX9_compensate_89 ?_
    refine lv_iload hx hb dX9_compensate_92 (lv_at hl 3 rfl) ?_
    refine lv_if_eq (tgt := 111) hx hb dX9_compensate_94 (by decide) (fun cd => ?_) (fun cd => ?_)
    · have h := h.1 cd
      refine lv_sipush (v := 256) hx hb dX9_compensate_111 (by decide) ?_
      refine lv_aload_n hx hb dX9_compensate_114 rfl (lv_at hl 0 rfl) ?_
      refine va_get (D := (dC, dI)) (ci := 9) (v := .ref (q0 1)) (C := RX9) (T := TX9) (N := 11) hx hb hts inX9_compensate_9 hown hK hP 0 rfl rfl 0 (by decide) (hts _ kX9_compensate_0) (fun _ h9 => h9) rfl dX9_compensate_115 ?_
      refine lv_iload_n hx hb dX9_compensate_118 rfl (lv_at hl 2 rfl) ?_
      refine lv_bipush (v := 6) hx hb dX9_compensate_119 (by decide) ?_
      refine lv_iadd hx hb dX9_compensate_121 ?_
      refine cx_vi (As := [.int (x2 + 6)]) (rest := [.int 256, .ref (q0 1)]) ⟨hx, hb, hml, hown, hts⟩ hl.1 ok_sxE hE hK hP hD hS hA (cut_39 cI q0 u0_11) (c_X2_byteAt (l := l) (dC := dC) (dI := dI) (cI := cI) (q0 := fun i => q0 (i + 1)) h) (cwV 1 hts gX9_compensate_X2_byteAt rfl rfl rfl hdX2_byteAt ⟨Nat.le_of_ble_eq_true rfl, Nat.le_of_ble_eq_true rfl⟩) rfl rfl rfl rfl (Nat.le_of_ble_eq_true rfl) dX9_compensate_122 rfl (fun r_12 _ H locs h hP hD hS => ?_)
      refine lv_isub hx hb dX9_compensate_125 ?_
      exact w_126 x1 x2 x5 (256 - r_12) u0_11 _ _ _ hP hD hS (lv_sub hl [0, 1, 2, 4] rfl) h
    · have h := h.2 cd
      refine lv_aload_n hx hb dX9_compensate_97 rfl (lv_at hl 0 rfl) ?_
      refine va_get (D := (dC, dI)) (ci := 9) (v := .ref (q0 1)) (C := RX9) (T := TX9) (N := 11) hx hb hts inX9_compensate_9 hown hK hP 0 rfl rfl 0 (by decide) (hts _ kX9_compensate_0) (fun _ h9 => h9) rfl dX9_compensate_98 ?_
      refine lv_iload_n hx hb dX9_compensate_101 rfl (lv_at hl 2 rfl) ?_
      refine lv_bipush (v := 6) hx hb dX9_compensate_102 (by decide) ?_
      refine lv_iadd hx hb dX9_compensate_104 ?_
      refine cx_vi (As := [.int (x2 + 6)]) (rest := [.ref (q0 1)]) ⟨hx, hb, hml, hown, hts⟩ hl.1 ok_sxE hE hK hP hD hS hA (cut_39 cI q0 u0_11) (c_X2_byteAt (l := l) (dC := dC) (dI := dI) (cI := cI) (q0 := fun i => q0 (i + 1)) h) (cwV 1 hts gX9_compensate_X2_byteAt rfl rfl rfl hdX2_byteAt ⟨Nat.le_of_ble_eq_true rfl, Nat.le_of_ble_eq_true rfl⟩) rfl rfl rfl rfl (Nat.le_of_ble_eq_true rfl) dX9_compensate_105 rfl (fun r_13 _ H locs h hP hD hS => ?_)
      refine lv_goto (tgt := 126) hx hb dX9_compensate_108 (by decide) ?_
      exact w_126 x1 x2 x5 r_13 u0_11 _ _ _ hP hD hS (lv_sub hl [0, 1, 2, 4] rfl) h
  have w_26 : ∀ (x1 : Int32) (x2 : Int32) (x3 : Int32) (y0 : Int32) (u0 : S9) (H : Heap) (locs : List Loc) (ls : Array Slot) (_ : va_P (dC, dI) vwCl (cs9 cI q0 u0) H) (_ : va_D A (cs9 cI q0 u0)) (_ : va_S A s.heap H locs) (_ : lv_has ls 6 [(0, .ref (q0 0)), (1, .int x1), (2, .int x2), (3, .int x3)]) (_ : wp_X9_compensate_26 Q x1 x2 x3 y0 u0), W p l e rX9_compensate s m args below meth c H locs 0 0 Z (F0 m 26 ls [.int y0]) := by
    intro x1 x2 x3 y0 u0 H locs ls hP hD hS hl h
    refine lv_istore (lv' := [(4, .int y0), (0, .ref (q0 0)), (1, .int x1), (2, .int x2), (3, .int x3)]) hx hb dX9_compensate_26 hl (by decide) rfl (fun ls hl => ?_)
    refine lv_aload_n hx hb dX9_compensate_28 rfl (lv_at hl 1 rfl) ?_
    refine va_get (D := (dC, dI)) (ci := 9) (v := .ref (q0 3)) (C := RX9) (T := TX9) (N := 11) hx hb hts inX9_compensate_9 hown hK hP 0 rfl rfl 1 (by decide) (hts _ kX9_compensate_1) (fun _ h9 => h9) rfl dX9_compensate_29 ?_
    refine lv_iload_n hx hb dX9_compensate_32 rfl (lv_at hl 4 rfl) ?_
    refine lv_bipush (v := 16) hx hb dX9_compensate_33 (by decide) ?_
    refine lv_idiv hx hb dX9_compensate_35 (by decide) ?_
    refine lv_aload_n hx hb dX9_compensate_36 rfl (lv_at hl 1 rfl) ?_
    refine va_get (D := (dC, dI)) (ci := 9) (v := .ref (q0 1)) (C := RX9) (T := TX9) (N := 11) hx hb hts inX9_compensate_9 hown hK hP 0 rfl rfl 0 (by decide) (hts _ kX9_compensate_0) (fun _ h9 => h9) rfl dX9_compensate_37 ?_
    refine cx_vi (As := [.int (x3 / 16), .ref (q0 1)]) (rest := []) ⟨hx, hb, hml, hown, hts⟩ hl.1 ok_sxE hE hK hP hD hS hA (cut_40 cI q0 u0) (c_X3_fetch (l := l) (dC := dC) (dI := dI) (cI := cI) (q0 := fun i => q0 (i + 3)) (q1 := fun i => q0 (i + 1)) h) (cwV 2 hts gX9_compensate_X3_fetch rfl rfl rfl hdX3_fetch ⟨Nat.le_of_ble_eq_true rfl, Nat.le_of_ble_eq_true rfl⟩) rfl rfl rfl rfl (Nat.le_of_ble_eq_true rfl) dX9_compensate_40 rfl (fun r_14 vv H locs h hP hD hS => ?_)
    obtain ⟨v_15, v_16⟩ := vv
    obtain ⟨u0_17, e_u0_17⟩ : ∃ z, z = s9_journal (s9_pages u0 v_15) v_16 := ⟨_, rfl⟩
    have h := h u0_17 e_u0_17
    have hP : va_P (dC, dI) vwCl (cs9 cI q0 u0_17) H := by rw [e_u0_17]; exact hP
    have hD : va_D A (cs9 cI q0 u0_17) := by rw [e_u0_17]; exact hD
    refine lv_istore (lv' := [(5, .int r_14), (4, .int y0), (0, .ref (q0 0)), (1, .int x1), (2, .int x2), (3, .int x3)]) hx hb dX9_compensate_43 hl (by decide) rfl (fun ls hl => ?_)
    refine lv_aload_n hx hb dX9_compensate_45 rfl (lv_at hl 2 rfl) ?_
    refine va_get (D := (dC, dI)) (ci := 9) (v := .ref (q0 1)) (C := RX9) (T := TX9) (N := 11) hx hb hts inX9_compensate_9 hown hK hP 0 rfl rfl 0 (by decide) (hts _ kX9_compensate_0) (fun _ h9 => h9) rfl dX9_compensate_46 ?_
    refine lv_iconst (v := 4) hx hb dX9_compensate_49 (by decide) ?_
    refine lv_iload_n hx hb dX9_compensate_50 rfl (lv_at hl 3 rfl) ?_
    refine lv_aload_n hx hb dX9_compensate_51 rfl (lv_at hl 2 rfl) ?_
    refine va_get (D := (dC, dI)) (ci := 9) (v := .ref (q0 13)) (C := RX9) (T := TX9) (N := 11) hx hb hts inX9_compensate_9 hown hK hP 0 rfl rfl 2 (by decide) (hts _ kX9_compensate_3) (fun _ h9 => h9) rfl dX9_compensate_52 ?_
    refine va_get (D := (dC, dI)) (ci := 5) (v := .ref (q0 15)) (C := RX5) (T := TX5) (N := 3) hx hb hts inX9_compensate_5 hown hK hP 13 rfl rfl 1 (by decide) (hts _ kX9_compensate_2) (fun _ h9 => h9) rfl dX9_compensate_55 ?_
    refine lv_iload_n hx hb dX9_compensate_58 rfl (lv_at hl 3 rfl) ?_
    refine va_iald hx hb hK hP 15 0 rfl rfl h.1 dX9_compensate_59 ?_
    have h := h.2
    refine cx_vv (As := [.int 4, .int x1, .int ((g5_last (g9_roster u0_17)) x1.toNatClampNeg)]) (rest := []) ⟨hx, hb, hml, hown, hts⟩ hl.1 ok_sxE hE hK hP hD hS hA (cut_34 cI q0 u0_17) (c_X2_start (l := l) (dC := dC) (dI := dI) (cI := cI) (q0 := fun i => q0 (i + 1)) h) (cwV 3 hts gX9_compensate_X2_start rfl rfl rfl hdX2_start ⟨Nat.le_of_ble_eq_true rfl, Nat.le_of_ble_eq_true rfl⟩) rfl rfl rfl rfl (Nat.le_of_ble_eq_true rfl) dX9_compensate_60 rfl (fun v_18 H locs h hP hD hS => ?_)
    obtain ⟨u0_19, e_u0_19⟩ : ∃ z, z = s9_journal u0_17 v_18 := ⟨_, rfl⟩
    have h := h u0_19 e_u0_19
    have hP : va_P (dC, dI) vwCl (cs9 cI q0 u0_19) H := by rw [e_u0_19]; exact hP
    have hD : va_D A (cs9 cI q0 u0_19) := by rw [e_u0_19]; exact hD
    refine lv_aload_n hx hb dX9_compensate_63 rfl (lv_at hl 2 rfl) ?_
    refine va_get (D := (dC, dI)) (ci := 9) (v := .ref (q0 1)) (C := RX9) (T := TX9) (N := 11) hx hb hts inX9_compensate_9 hown hK hP 0 rfl rfl 0 (by decide) (hts _ kX9_compensate_0) (fun _ h9 => h9) rfl dX9_compensate_64 ?_
    refine lv_iload_n hx hb dX9_compensate_67 rfl (lv_at hl 5 rfl) ?_
    refine cx_vv (As := [.int x3]) (rest := []) ⟨hx, hb, hml, hown, hts⟩ hl.1 ok_sxE hE hK hP hD hS hA (cut_34 cI q0 u0_19) (c_X2_put (l := l) (dC := dC) (dI := dI) (cI := cI) (q0 := fun i => q0 (i + 1)) h) (cwV 1 hts gX9_compensate_X2_put rfl rfl rfl hdX2_put ⟨Nat.le_of_ble_eq_true rfl, Nat.le_of_ble_eq_true rfl⟩) rfl rfl rfl rfl (Nat.le_of_ble_eq_true rfl) dX9_compensate_68 rfl (fun v_20 H locs h hP hD hS => ?_)
    obtain ⟨u0_21, e_u0_21⟩ : ∃ z, z = s9_journal u0_19 v_20 := ⟨_, rfl⟩
    have h := h u0_21 e_u0_21
    have hP : va_P (dC, dI) vwCl (cs9 cI q0 u0_21) H := by rw [e_u0_21]; exact hP
    have hD : va_D A (cs9 cI q0 u0_21) := by rw [e_u0_21]; exact hD
    refine lv_aload_n hx hb dX9_compensate_71 rfl (lv_at hl 2 rfl) ?_
    refine va_get (D := (dC, dI)) (ci := 9) (v := .ref (q0 1)) (C := RX9) (T := TX9) (N := 11) hx hb hts inX9_compensate_9 hown hK hP 0 rfl rfl 0 (by decide) (hts _ kX9_compensate_0) (fun _ h9 => h9) rfl dX9_compensate_72 ?_
    refine lv_iload hx hb dX9_compensate_75 (lv_at hl 1 rfl) ?_
    refine lv_if_eq (tgt := 84) hx hb dX9_compensate_77 (by decide) (fun cd => ?_) (fun cd => ?_)
    · have h := h.1 cd
      refine lv_iconst (v := 1) hx hb dX9_compensate_84 (by decide) ?_
      exact w_85 x1 x2 y0 r_14 1 u0_21 _ _ _ hP hD hS (lv_sub hl [2, 3, 4, 1, 0] rfl) h
    · have h := h.2 cd
      refine lv_iconst (v := 0) hx hb dX9_compensate_80 (by decide) ?_
      refine lv_goto (tgt := 85) hx hb dX9_compensate_81 (by decide) ?_
      exact w_85 x1 x2 y0 r_14 0 u0_21 _ _ _ hP hD hS (lv_sub hl [2, 3, 4, 1, 0] rfl) h
  have hS : va_S A s.heap s.heap [] := va_S.rf
  refine lv_aload_n hx hb dX9_compensate_0 rfl (lv_at hl 0 rfl) ?_
  refine va_get (D := (dC, dI)) (ci := 9) (v := .ref (q0 1)) (C := RX9) (T := TX9) (N := 11) hx hb hts inX9_compensate_9 hown hK hP 0 rfl rfl 0 (by decide) (hts _ kX9_compensate_0) (fun _ h9 => h9) rfl dX9_compensate_1 ?_
  refine lv_iload_n hx hb dX9_compensate_4 rfl (lv_at hl 2 rfl) ?_
  refine cx_vi (As := [.int x2]) (rest := []) ⟨hx, hb, hml, hown, hts⟩ hl.1 ok_sxE hE hK hP hD hS hA (cut_39 cI q0 u0) (c_X2_addressAt (l := l) (dC := dC) (dI := dI) (cI := cI) (q0 := fun i => q0 (i + 1)) h) (cwV 1 hts gX9_compensate_X2_addressAt rfl rfl rfl hdX2_addressAt ⟨Nat.le_of_ble_eq_true rfl, Nat.le_of_ble_eq_true rfl⟩) rfl rfl rfl rfl (Nat.le_of_ble_eq_true rfl) dX9_compensate_5 rfl (fun r_22 _ H locs h hP hD hS => ?_)
  refine lv_istore_n (lv' := [(3, .int r_22), (0, .ref (q0 0)), (1, .int x1), (2, .int x2)]) hx hb dX9_compensate_8 rfl hl (by decide) rfl (fun ls hl => ?_)
  refine lv_aload_n hx hb dX9_compensate_9 rfl (lv_at hl 1 rfl) ?_
  refine va_get (D := (dC, dI)) (ci := 9) (v := .ref (q0 1)) (C := RX9) (T := TX9) (N := 11) hx hb hts inX9_compensate_9 hown hK hP 0 rfl rfl 0 (by decide) (hts _ kX9_compensate_0) (fun _ h9 => h9) rfl dX9_compensate_10 ?_
  refine lv_iload_n hx hb dX9_compensate_13 rfl (lv_at hl 3 rfl) ?_
  refine cx_vi (As := [.int x2]) (rest := []) ⟨hx, hb, hml, hown, hts⟩ hl.1 ok_sxE hE hK hP hD hS hA (cut_39 cI q0 u0) (c_X2_byteAt (l := l) (dC := dC) (dI := dI) (cI := cI) (q0 := fun i => q0 (i + 1)) h) (cwV 1 hts gX9_compensate_X2_byteAt rfl rfl rfl hdX2_byteAt ⟨Nat.le_of_ble_eq_true rfl, Nat.le_of_ble_eq_true rfl⟩) rfl rfl rfl rfl (Nat.le_of_ble_eq_true rfl) dX9_compensate_14 rfl (fun r_23 _ H locs h hP hD hS => ?_)
  refine lv_iconst (v := 2) hx hb dX9_compensate_17 (by decide) ?_
  refine lv_icmp_ne (tgt := 25) hx hb dX9_compensate_18 (by decide) (fun cd => ?_) (fun cd => ?_)
  · have h := h.2 cd
    refine lv_iconst (v := 0) hx hb dX9_compensate_25 (by decide) ?_
    exact w_26 x1 x2 r_22 0 u0 _ _ _ hP hD hS (lv_sub hl [1, 2, 3, 0] rfl) h
  · have h := h.1 cd
    refine lv_iconst (v := 1) hx hb dX9_compensate_21 (by decide) ?_
    refine lv_goto (tgt := 26) hx hb dX9_compensate_22 (by decide) ?_
    exact w_26 x1 x2 r_22 1 u0 _ _ _ hP hD hS (lv_sub hl [1, 2, 3, 0] rfl) h

set_option maxRecDepth 100000 in
theorem cut_41 (cI : ClassId) (q0 : Nat → Nat) (u0 : S9) : Cut (cs9 cI q0 u0) (cs3 cI (fun i => q0 (i + 3)) (g9_pages u0)) (fun v : S3 => cs3 cI (fun i => q0 (i + 3)) v) (fun v : S3 => cs9 cI q0 (s9_pages u0 v)) := ⟨[3, 4, 5, 6, 7, 8, 9, 10, 11, 12], [0, 1, 2, 13, 14, 15, 16, 17, 18, 19, 20, 21, 22, 23, 24, 25, 26, 27, 28, 29], rfl, rfl, rfl, by decide, by decide, fun v => ⟨[0, 1, 2, 20, 21, 22, 23, 24, 25, 26, 27, 28, 29, 3, 4, 5, 6, 7, 8, 9, 10, 11, 12, 13, 14, 15, 16, 17, 18, 19], rfl, rfl⟩⟩

abbrev rX9_fall : Room := { frames := 2, cells := 0, slots := 0, locals := 43 }
theorem hdX9_fall : yX9_fall.cls = RX9 ∧ yX9_fall.cls ≠ "java/lang/invoke/MethodHandle" ∧ yX9_fall.cls ≠ "java/lang/invoke/VarHandle" ∧ (parseMethodDescriptor yX9_fall.desc).map (fun d => d.parameters.length) = some 1 := by decide +kernel
theorem inX9_fall_2 : ∀ w ∈ wsX20, w ∈ wsX9_fall := by decide +kernel
theorem inX9_fall_9 : ∀ w ∈ wsX90, w ∈ wsX9_fall := by decide +kernel
theorem kX9_fall_0 : Cond.fieldLink RX9 67 "AheadStore$World" "crashes" "I" ∈ wsX9_fall := by decide +kernel
theorem kX9_fall_1 : Cond.fieldLink RX9 53 "AheadStore$World" "up" "Z" ∈ wsX9_fall := by decide +kernel
theorem kX9_fall_2 : Cond.fieldLink RX9 61 "AheadStore$World" "openCheck" "I" ∈ wsX9_fall := by decide +kernel
theorem kX9_fall_3 : Cond.fieldLink RX9 35 "AheadStore$World" "claims" "LAheadStore$Claims;" ∈ wsX9_fall := by decide +kernel
theorem kX9_fall_4 : Cond.fieldLink RX9 28 "AheadStore$World" "roster" "LAheadStore$Roster;" ∈ wsX9_fall := by decide +kernel
theorem kX9_fall_5 : Cond.fieldLink RX9 21 "AheadStore$World" "pages" "LAheadStore$Pages;" ∈ wsX9_fall := by decide +kernel
theorem kX9_fall_6 : Cond.methodLink RX9 249 Lib.Math.min.name ∈ wsX9_fall := by decide +kernel
theorem kX9_fall_7 : Cond.static Lib.Math.min.name ∈ wsX9_fall := by decide +kernel
theorem kX9_fall_8 : Cond.initialized "java/lang/Math" ∈ wsX9_fall := by decide +kernel
theorem kX9_fall_9 : Cond.code Lib.Math.min.name Lib.Math.min.code 2 (some .int) ∈ wsX9_fall := by decide +kernel
theorem kX9_fall_10 : Cond.fieldLink RX9 246 "AheadStore$Journal" "flushedPlace" "I" ∈ wsX9_fall := by decide +kernel
theorem kX9_fall_11 : Cond.fieldLink RX9 12 "AheadStore$World" "journal" "LAheadStore$Journal;" ∈ wsX9_fall := by decide +kernel
theorem kX9_fall_12 : Cond.fieldLink RX9 70 "AheadStore$Journal" "endPlace" "I" ∈ wsX9_fall := by decide +kernel
set_option maxHeartbeats 4000000 in
set_option maxRecDepth 100000 in
theorem c_X9_fall {l : Launch} {dC : Nat → ClassId} {dI : Nat → Nat → Nat} {cI : ClassId} {q0 : Nat → Nat} {sz : Nat} {u0 : S9} {x1 : Int32} {Q : S9 → Prop} (h : wp_X9_fall u0 x1 Q) : ctV sxE l yX9_fall wsX9_fall rX9_fall (dC, dI) vwCl [(cI, .int)] [.ref (q0 0), .int x1] (cs9 cI q0 u0) sz (fun (v : S9) => Q v) (fun (v : S9) => cs9 cI q0 v) := by
  refine mx_v (cc := cX9_fall) (maxL := 2) (by decide) rfl (Nat.le_of_ble_eq_true rfl) ?_
  intro p e s m below meth c Z A ls args hx hb hml hown hts hA hP hK hD hE hl hret
  have hown : s.vm.findClass RX9 = some m.cls := hown
  have hl : lv_has ls 2 [(0, .ref (q0 0)), (1, .int x1)] := hl
  have hS : va_S A s.heap s.heap [] := va_S.rf
  refine lv_aload_n hx hb dX9_fall_0 rfl (lv_at hl 0 rfl) ?_
  refine va_get (D := (dC, dI)) (ci := 9) (v := .ref (q0 1)) (C := RX9) (T := TX9) (N := 11) hx hb hts inX9_fall_9 hown hK hP 0 rfl rfl 0 (by decide) (hts _ kX9_fall_11) (fun _ h9 => h9) rfl dX9_fall_1 ?_
  refine lv_aload_n hx hb dX9_fall_4 rfl (lv_at hl 0 rfl) ?_
  refine va_get (D := (dC, dI)) (ci := 9) (v := .ref (q0 1)) (C := RX9) (T := TX9) (N := 11) hx hb hts inX9_fall_9 hown hK hP 0 rfl rfl 0 (by decide) (hts _ kX9_fall_11) (fun _ h9 => h9) rfl dX9_fall_5 ?_
  refine va_get (D := (dC, dI)) (ci := 2) (v := .int (g2_endPlace (g9_journal u0))) (C := RX2) (T := TX2) (N := 4) hx hb hts inX9_fall_2 hown hK hP 1 rfl rfl 1 (by decide) (hts _ kX9_fall_12) (fun _ h9 => h9) rfl dX9_fall_8 ?_
  refine lv_aload_n hx hb dX9_fall_11 rfl (lv_at hl 0 rfl) ?_
  refine va_get (D := (dC, dI)) (ci := 9) (v := .ref (q0 1)) (C := RX9) (T := TX9) (N := 11) hx hb hts inX9_fall_9 hown hK hP 0 rfl rfl 0 (by decide) (hts _ kX9_fall_11) (fun _ h9 => h9) rfl dX9_fall_12 ?_
  refine va_get (D := (dC, dI)) (ci := 2) (v := .int (g2_flushedPlace (g9_journal u0))) (C := RX2) (T := TX2) (N := 4) hx hb hts inX9_fall_2 hown hK hP 1 rfl rfl 2 (by decide) (hts _ kX9_fall_10) (fun _ h9 => h9) rfl dX9_fall_15 ?_
  refine lv_iload_n hx hb dX9_fall_18 rfl (lv_at hl 1 rfl) ?_
  refine lv_iadd hx hb dX9_fall_19 ?_
  refine va_mmin hx hb (hml.trans hl.1.symm) hown (hts _ kX9_fall_6) (hts _ kX9_fall_7) (hts _ kX9_fall_8) (hts _ kX9_fall_9) (Nat.le_of_ble_eq_true rfl) (Nat.le_of_ble_eq_true rfl) (Nat.zero_le _) (Nat.zero_le _) dX9_fall_20 ?_
  refine cx_vv (As := [.int (if ((g2_flushedPlace (g9_journal u0)) + x1) < (g2_endPlace (g9_journal u0)) then ((g2_flushedPlace (g9_journal u0)) + x1) else (g2_endPlace (g9_journal u0)))]) (rest := []) ⟨hx, hb, hml, hown, hts⟩ hl.1 ok_sxE hE hK hP hD hS hA (cut_34 cI q0 u0) (c_X2_endAt (l := l) (dC := dC) (dI := dI) (cI := cI) (q0 := fun i => q0 (i + 1)) h) (cwV 1 hts gX9_fall_X2_endAt rfl rfl rfl hdX2_endAt ⟨Nat.le_of_ble_eq_true rfl, Nat.le_of_ble_eq_true rfl⟩) rfl rfl rfl rfl (Nat.le_of_ble_eq_true rfl) dX9_fall_23 rfl (fun v_1 H locs h hP hD hS => ?_)
  obtain ⟨u0_2, e_u0_2⟩ : ∃ z, z = s9_journal u0 v_1 := ⟨_, rfl⟩
  have h := h u0_2 e_u0_2
  have hP : va_P (dC, dI) vwCl (cs9 cI q0 u0_2) H := by rw [e_u0_2]; exact hP
  have hD : va_D A (cs9 cI q0 u0_2) := by rw [e_u0_2]; exact hD
  refine lv_aload_n hx hb dX9_fall_26 rfl (lv_at hl 0 rfl) ?_
  refine va_get (D := (dC, dI)) (ci := 9) (v := .ref (q0 3)) (C := RX9) (T := TX9) (N := 11) hx hb hts inX9_fall_9 hown hK hP 0 rfl rfl 1 (by decide) (hts _ kX9_fall_5) (fun _ h9 => h9) rfl dX9_fall_27 ?_
  refine cx_vv (As := []) (rest := []) ⟨hx, hb, hml, hown, hts⟩ hl.1 ok_sxE hE hK hP hD hS hA (cut_41 cI q0 u0_2) (c_X3_emptyFrames (l := l) (dC := dC) (dI := dI) (cI := cI) (q0 := fun i => q0 (i + 3)) h) (cwV 0 hts gX9_fall_X3_emptyFrames rfl rfl rfl hdX3_emptyFrames ⟨Nat.le_of_ble_eq_true rfl, Nat.le_of_ble_eq_true rfl⟩) rfl rfl rfl rfl (Nat.le_of_ble_eq_true rfl) dX9_fall_30 rfl (fun v_3 H locs h hP hD hS => ?_)
  obtain ⟨u0_4, e_u0_4⟩ : ∃ z, z = s9_pages u0_2 v_3 := ⟨_, rfl⟩
  have h := h u0_4 e_u0_4
  have hP : va_P (dC, dI) vwCl (cs9 cI q0 u0_4) H := by rw [e_u0_4]; exact hP
  have hD : va_D A (cs9 cI q0 u0_4) := by rw [e_u0_4]; exact hD
  refine lv_aload_n hx hb dX9_fall_33 rfl (lv_at hl 0 rfl) ?_
  refine va_get (D := (dC, dI)) (ci := 9) (v := .ref (q0 13)) (C := RX9) (T := TX9) (N := 11) hx hb hts inX9_fall_9 hown hK hP 0 rfl rfl 2 (by decide) (hts _ kX9_fall_4) (fun _ h9 => h9) rfl dX9_fall_34 ?_
  refine cx_vv (As := []) (rest := []) ⟨hx, hb, hml, hown, hts⟩ hl.1 ok_sxE hE hK hP hD hS hA (cut_37 cI q0 u0_4) (c_X5_clear (l := l) (dC := dC) (dI := dI) (cI := cI) (q0 := fun i => q0 (i + 13)) h) (cwV 0 hts gX9_fall_X5_clear rfl rfl rfl hdX5_clear ⟨Nat.le_of_ble_eq_true rfl, Nat.le_of_ble_eq_true rfl⟩) rfl rfl rfl rfl (Nat.le_of_ble_eq_true rfl) dX9_fall_37 rfl (fun v_5 H locs h hP hD hS => ?_)
  obtain ⟨u0_6, e_u0_6⟩ : ∃ z, z = s9_roster u0_4 v_5 := ⟨_, rfl⟩
  have h := h u0_6 e_u0_6
  have hP : va_P (dC, dI) vwCl (cs9 cI q0 u0_6) H := by rw [e_u0_6]; exact hP
  have hD : va_D A (cs9 cI q0 u0_6) := by rw [e_u0_6]; exact hD
  refine lv_aload_n hx hb dX9_fall_40 rfl (lv_at hl 0 rfl) ?_
  refine va_get (D := (dC, dI)) (ci := 9) (v := .ref (q0 17)) (C := RX9) (T := TX9) (N := 11) hx hb hts inX9_fall_9 hown hK hP 0 rfl rfl 3 (by decide) (hts _ kX9_fall_3) (fun _ h9 => h9) rfl dX9_fall_41 ?_
  refine cx_vv (As := []) (rest := []) ⟨hx, hb, hml, hown, hts⟩ hl.1 ok_sxE hE hK hP hD hS hA (cut_36 cI q0 u0_6) (c_X0_clear (l := l) (dC := dC) (dI := dI) (cI := cI) (q0 := fun i => q0 (i + 17)) h) (cwV 0 hts gX9_fall_X0_clear rfl rfl rfl hdX0_clear ⟨Nat.le_of_ble_eq_true rfl, Nat.le_of_ble_eq_true rfl⟩) rfl rfl rfl rfl (Nat.le_of_ble_eq_true rfl) dX9_fall_44 rfl (fun v_7 H locs h hP hD hS => ?_)
  obtain ⟨u0_8, e_u0_8⟩ : ∃ z, z = s9_claims u0_6 v_7 := ⟨_, rfl⟩
  have h := h u0_8 e_u0_8
  have hP : va_P (dC, dI) vwCl (cs9 cI q0 u0_8) H := by rw [e_u0_8]; exact hP
  have hD : va_D A (cs9 cI q0 u0_8) := by rw [e_u0_8]; exact hD
  refine lv_aload_n hx hb dX9_fall_47 rfl (lv_at hl 0 rfl) ?_
  refine lv_iconst (v := 0) hx hb dX9_fall_48 (by decide) ?_
  refine va_put (D := (dC, dI)) (ci := 9) (v := .int 0) (ty := .int) (C := RX9) (T := TX9) (N := 11) hx hb hts inX9_fall_9 tyX9 tyX9_ok nmX9 hown hK hP hD hS 0 rfl rfl 8 (by decide) (hts _ kX9_fall_2) (fun _ h9 => h9) rfl (tyX9_ok 8 (by decide)) rfl rfl (Nat.le_of_ble_eq_true rfl) dX9_fall_49 (fun H locs hP hD hS => ?_)
  obtain ⟨u0_9, e_u0_9⟩ : ∃ z, z = s9_openCheck u0_8 0 := ⟨_, rfl⟩
  have h := h u0_9 e_u0_9
  have hP : va_P (dC, dI) vwCl (cs9 cI q0 u0_9) H := by rw [e_u0_9]; exact hP
  have hD : va_D A (cs9 cI q0 u0_9) := by rw [e_u0_9]; exact hD
  refine lv_aload_n hx hb dX9_fall_52 rfl (lv_at hl 0 rfl) ?_
  refine lv_iconst (v := 0) hx hb dX9_fall_53 (by decide) ?_
  refine va_put (D := (dC, dI)) (ci := 9) (v := .int 0) (ty := .boolean) (C := RX9) (T := TX9) (N := 11) hx hb hts inX9_fall_9 tyX9 tyX9_ok nmX9 hown hK hP hD hS 0 rfl rfl 6 (by decide) (hts _ kX9_fall_1) (fun _ h9 => h9) rfl (tyX9_ok 6 (by decide)) (by decide) (by decide) (Nat.le_of_ble_eq_true rfl) dX9_fall_54 (fun H locs hP hD hS => ?_)
  obtain ⟨u0_10, e_u0_10⟩ : ∃ z, z = s9_up u0_9 0 := ⟨_, rfl⟩
  have h := h u0_10 e_u0_10
  have hP : va_P (dC, dI) vwCl (cs9 cI q0 u0_10) H := by rw [e_u0_10]; exact hP
  have hD : va_D A (cs9 cI q0 u0_10) := by rw [e_u0_10]; exact hD
  refine lv_aload_n hx hb dX9_fall_57 rfl (lv_at hl 0 rfl) ?_
  refine lv_dup hx hb dX9_fall_58 rfl ?_
  refine va_get (D := (dC, dI)) (ci := 9) (v := .int (g9_crashes u0_10)) (C := RX9) (T := TX9) (N := 11) hx hb hts inX9_fall_9 hown hK hP 0 rfl rfl 10 (by decide) (hts _ kX9_fall_0) (fun _ h9 => h9) rfl dX9_fall_59 ?_
  refine lv_iconst (v := 1) hx hb dX9_fall_62 (by decide) ?_
  refine lv_iadd hx hb dX9_fall_63 ?_
  refine va_put (D := (dC, dI)) (ci := 9) (v := .int ((g9_crashes u0_10) + 1)) (ty := .int) (C := RX9) (T := TX9) (N := 11) hx hb hts inX9_fall_9 tyX9 tyX9_ok nmX9 hown hK hP hD hS 0 rfl rfl 10 (by decide) (hts _ kX9_fall_0) (fun _ h9 => h9) rfl (tyX9_ok 10 (by decide)) rfl rfl (Nat.le_of_ble_eq_true rfl) dX9_fall_64 (fun H locs hP hD hS => ?_)
  obtain ⟨u0_11, e_u0_11⟩ : ∃ z, z = s9_crashes u0_10 ((g9_crashes u0_10) + 1) := ⟨_, rfl⟩
  have h := h u0_11 e_u0_11
  have hP : va_P (dC, dI) vwCl (cs9 cI q0 u0_11) H := by rw [e_u0_11]; exact hP
  have hD : va_D A (cs9 cI q0 u0_11) := by rw [e_u0_11]; exact hD
  exact hret _ _ _ _ u0_11 dX9_fall_67 h hP hD hS

abbrev rX9_isFull : Room := { frames := 0, cells := 0, slots := 0, locals := 0 }
theorem hdX9_isFull : yX9_isFull.cls = RX9 ∧ yX9_isFull.cls ≠ "java/lang/invoke/MethodHandle" ∧ yX9_isFull.cls ≠ "java/lang/invoke/VarHandle" ∧ (parseMethodDescriptor yX9_isFull.desc).map (fun d => d.parameters.length) = some 0 := by decide +kernel
theorem inX9_isFull_2 : ∀ w ∈ wsX20, w ∈ wsX9_isFull := by decide +kernel
theorem inX9_isFull_9 : ∀ w ∈ wsX90, w ∈ wsX9_isFull := by decide +kernel
theorem kX9_isFull_0 : Cond.fieldLink RX9 70 "AheadStore$Journal" "endPlace" "I" ∈ wsX9_isFull := by decide +kernel
theorem kX9_isFull_1 : Cond.fieldLink RX9 12 "AheadStore$World" "journal" "LAheadStore$Journal;" ∈ wsX9_isFull := by decide +kernel
set_option maxHeartbeats 4000000 in
set_option maxRecDepth 100000 in
theorem c_X9_isFull {l : Launch} {dC : Nat → ClassId} {dI : Nat → Nat → Nat} {cI : ClassId} {q0 : Nat → Nat} {sz : Nat} {u0 : S9}  {Q : Int32 → Prop} (h : wp_X9_isFull u0 Q) : ctI sxE l yX9_isFull wsX9_isFull rX9_isFull (dC, dI) vwCl [(cI, .int)] [.ref (q0 0)] (cs9 cI q0 u0) sz (fun (r : Int32) (_ : Unit) => Q r) (fun (_ : Unit) => cs9 cI q0 u0) := by
  refine mx_i (cc := cX9_isFull) (maxL := 1) (ty := .boolean) (by decide) rfl (Nat.le_of_ble_eq_true rfl) ?_
  intro p e s m below meth c Z A ls args hx hb hml hown hts hA hP hK hD hE hl hret
  have hown : s.vm.findClass RX9 = some m.cls := hown
  have hl : lv_has ls 1 [(0, .ref (q0 0))] := hl
  have hS : va_S A s.heap s.heap [] := va_S.rf
  refine lv_aload_n hx hb dX9_isFull_0 rfl (lv_at hl 0 rfl) ?_
  refine va_get (D := (dC, dI)) (ci := 9) (v := .ref (q0 1)) (C := RX9) (T := TX9) (N := 11) hx hb hts inX9_isFull_9 hown hK hP 0 rfl rfl 0 (by decide) (hts _ kX9_isFull_1) (fun _ h9 => h9) rfl dX9_isFull_1 ?_
  refine va_get (D := (dC, dI)) (ci := 2) (v := .int (g2_endPlace (g9_journal u0))) (C := RX2) (T := TX2) (N := 4) hx hb hts inX9_isFull_2 hown hK hP 1 rfl rfl 1 (by decide) (hts _ kX9_isFull_0) (fun _ h9 => h9) rfl dX9_isFull_4 ?_
  refine lv_sipush (v := 3500) hx hb dX9_isFull_7 (by decide) ?_
  refine lv_icmp_le (tgt := 17) hx hb dX9_isFull_10 (by decide) (fun cd => ?_) (fun cd => ?_)
  · have h := h.1 cd
    refine lv_iconst (v := 0) hx hb dX9_isFull_17 (by decide) ?_
    exact hret _ _ _ _ _ () dX9_isFull_18 (by decide) h hP hD hS
  · have h := h.2 cd
    refine lv_iconst (v := 1) hx hb dX9_isFull_13 (by decide) ?_
    refine lv_goto (tgt := 18) hx hb dX9_isFull_14 (by decide) ?_
    exact hret _ _ _ _ _ () dX9_isFull_18 (by decide) h hP hD hS

set_option maxRecDepth 100000 in
theorem cut_42 (cI : ClassId) (q0 : Nat → Nat) (u0 : S9) : Cut (cs9 cI q0 u0) (([] : va_W)) (fun _ : Unit => ([] : va_W)) (fun _ : Unit => cs9 cI q0 u0) := ⟨[], [0, 1, 2, 3, 4, 5, 6, 7, 8, 9, 10, 11, 12, 13, 14, 15, 16, 17, 18, 19, 20, 21, 22, 23, 24, 25, 26, 27, 28, 29], rfl, rfl, rfl, by decide, by decide, fun _ => ⟨[0, 1, 2, 3, 4, 5, 6, 7, 8, 9, 10, 11, 12, 13, 14, 15, 16, 17, 18, 19, 20, 21, 22, 23, 24, 25, 26, 27, 28, 29], rfl, rfl⟩⟩

abbrev rX9_isRunning : Room := { frames := 1, cells := 0, slots := 0, locals := 20 }
theorem hdX9_isRunning : yX9_isRunning.cls = RX9 ∧ yX9_isRunning.cls ≠ "java/lang/invoke/MethodHandle" ∧ yX9_isRunning.cls ≠ "java/lang/invoke/VarHandle" ∧ (parseMethodDescriptor yX9_isRunning.desc).map (fun d => d.parameters.length) = some 1 := by decide +kernel
theorem inX9_isRunning_5 : ∀ w ∈ wsX50, w ∈ wsX9_isRunning := by decide +kernel
theorem inX9_isRunning_9 : ∀ w ∈ wsX90, w ∈ wsX9_isRunning := by decide +kernel
theorem kX9_isRunning_0 : Cond.fieldLink RX9 77 "AheadStore$Roster" "is" "[I" ∈ wsX9_isRunning := by decide +kernel
theorem kX9_isRunning_1 : Cond.fieldLink RX9 28 "AheadStore$World" "roster" "LAheadStore$Roster;" ∈ wsX9_isRunning := by decide +kernel
theorem kX9_isRunning_2 : Cond.initialized RX10 ∈ wsX9_isRunning := by decide +kernel
theorem kX9_isRunning_3 : Cond.static yX10_isParty ∈ wsX9_isRunning := by decide +kernel
set_option maxHeartbeats 4000000 in
set_option maxRecDepth 100000 in
theorem c_X9_isRunning {l : Launch} {dC : Nat → ClassId} {dI : Nat → Nat → Nat} {cI : ClassId} {q0 : Nat → Nat} {sz : Nat} {u0 : S9} {x1 : Int32} {Q : Int32 → Prop} (h : wp_X9_isRunning u0 x1 Q) : ctI sxE l yX9_isRunning wsX9_isRunning rX9_isRunning (dC, dI) vwCl [(cI, .int)] [.ref (q0 0), .int x1] (cs9 cI q0 u0) sz (fun (r : Int32) (_ : Unit) => Q r) (fun (_ : Unit) => cs9 cI q0 u0) := by
  refine mx_i (cc := cX9_isRunning) (maxL := 2) (ty := .boolean) (by decide) rfl (Nat.le_of_ble_eq_true rfl) ?_
  intro p e s m below meth c Z A ls args hx hb hml hown hts hA hP hK hD hE hl hret
  have hown : s.vm.findClass RX9 = some m.cls := hown
  have hl : lv_has ls 2 [(0, .ref (q0 0)), (1, .int x1)] := hl
  have hS : va_S A s.heap s.heap [] := va_S.rf
  refine lv_iload_n hx hb dX9_isRunning_0 rfl (lv_at hl 1 rfl) ?_
  refine cx_ni (As := [.int x1]) (rest := []) ⟨hx, hb, hml, hown, hts⟩ hl.1 ok_noE trivial hK hP hD hS hA (cut_42 cI q0 u0) (c_X10_isParty (l := l) (dC := dC) (dI := dI) (cI := cI) h) ⟨va_cnB 1 hts gX9_isRunning_X10_isParty_n73 rfl rfl rfl (hE.1.1 (RX9, 73, yX10_isParty, "AheadStore") (List.mem_of_getElem? (i := 14) rfl)) (hts _ kX9_isRunning_2) hdX10_isParty ⟨Nat.le_of_ble_eq_true rfl, Nat.le_of_ble_eq_true rfl⟩, hts _ kX9_isRunning_3, trivial⟩ rfl (Nat.le_of_ble_eq_true rfl) dX9_isRunning_1 rfl (fun r_1 _ H locs h hP hD hS => ?_)
  refine lv_if_eq (tgt := 24) hx hb dX9_isRunning_4 (by decide) (fun cd => ?_) (fun cd => ?_)
  · have h := h.1 cd
    refine lv_iconst (v := 0) hx hb dX9_isRunning_24 (by decide) ?_
    exact hret _ _ _ _ _ () dX9_isRunning_25 (by decide) h hP hD hS
  · have h := h.2 cd
    refine lv_aload_n hx hb dX9_isRunning_7 rfl (lv_at hl 0 rfl) ?_
    refine va_get (D := (dC, dI)) (ci := 9) (v := .ref (q0 13)) (C := RX9) (T := TX9) (N := 11) hx hb hts inX9_isRunning_9 hown hK hP 0 rfl rfl 2 (by decide) (hts _ kX9_isRunning_1) (fun _ h9 => h9) rfl dX9_isRunning_8 ?_
    refine va_get (D := (dC, dI)) (ci := 5) (v := .ref (q0 14)) (C := RX5) (T := TX5) (N := 3) hx hb hts inX9_isRunning_5 hown hK hP 13 rfl rfl 0 (by decide) (hts _ kX9_isRunning_0) (fun _ h9 => h9) rfl dX9_isRunning_11 ?_
    refine lv_iload_n hx hb dX9_isRunning_14 rfl (lv_at hl 1 rfl) ?_
    refine va_iald hx hb hK hP 14 0 rfl rfl h.1 dX9_isRunning_15 ?_
    have h := h.2
    refine lv_iconst (v := 1) hx hb dX9_isRunning_16 (by decide) ?_
    refine lv_icmp_ne (tgt := 24) hx hb dX9_isRunning_17 (by decide) (fun cd => ?_) (fun cd => ?_)
    · have h := h.2 cd
      refine lv_iconst (v := 0) hx hb dX9_isRunning_24 (by decide) ?_
      exact hret _ _ _ _ _ () dX9_isRunning_25 (by decide) h hP hD hS
    · have h := h.1 cd
      refine lv_iconst (v := 1) hx hb dX9_isRunning_20 (by decide) ?_
      refine lv_goto (tgt := 25) hx hb dX9_isRunning_21 (by decide) ?_
      exact hret _ _ _ _ _ () dX9_isRunning_25 (by decide) h hP hD hS

set_option maxRecDepth 100000 in
theorem cut_43 (cI : ClassId) (q0 : Nat → Nat) (u0 : S9) : Cut (cs9 cI q0 u0) (cs9 cI q0 u0) (fun _ : Unit => cs9 cI q0 u0) (fun _ : Unit => cs9 cI q0 u0) := ⟨[0, 1, 2, 3, 4, 5, 6, 7, 8, 9, 10, 11, 12, 13, 14, 15, 16, 17, 18, 19, 20, 21, 22, 23, 24, 25, 26, 27, 28, 29], [], rfl, rfl, rfl, by decide, by decide, fun _ => ⟨[0, 1, 2, 3, 4, 5, 6, 7, 8, 9, 10, 11, 12, 13, 14, 15, 16, 17, 18, 19, 20, 21, 22, 23, 24, 25, 26, 27, 28, 29], rfl, rfl⟩⟩

abbrev rX9_begin : Room := { frames := 3, cells := 0, slots := 0, locals := 67 }
theorem hdX9_begin : yX9_begin.cls = RX9 ∧ yX9_begin.cls ≠ "java/lang/invoke/MethodHandle" ∧ yX9_begin.cls ≠ "java/lang/invoke/VarHandle" ∧ (parseMethodDescriptor yX9_begin.desc).map (fun d => d.parameters.length) = some 1 := by decide +kernel
theorem inX9_begin_5 : ∀ w ∈ wsX50, w ∈ wsX9_begin := by decide +kernel
theorem inX9_begin_9 : ∀ w ∈ wsX90, w ∈ wsX9_begin := by decide +kernel
theorem kX9_begin_0 : Cond.fieldLink RX9 77 "AheadStore$Roster" "is" "[I" ∈ wsX9_begin := by decide +kernel
theorem kX9_begin_1 : Cond.fieldLink RX9 28 "AheadStore$World" "roster" "LAheadStore$Roster;" ∈ wsX9_begin := by decide +kernel
theorem kX9_begin_2 : Cond.initialized RX10 ∈ wsX9_begin := by decide +kernel
theorem kX9_begin_3 : Cond.static yX10_isParty ∈ wsX9_begin := by decide +kernel
theorem kX9_begin_4 : Cond.fieldLink RX9 53 "AheadStore$World" "up" "Z" ∈ wsX9_begin := by decide +kernel
set_option maxHeartbeats 4000000 in
set_option maxRecDepth 100000 in
theorem c_X9_begin {l : Launch} {dC : Nat → ClassId} {dI : Nat → Nat → Nat} {cI : ClassId} {q0 : Nat → Nat} {sz : Nat} {u0 : S9} {x1 : Int32} {Q : Int32 → S9 → Prop} (h : wp_X9_begin u0 x1 Q) : ctI sxE l yX9_begin wsX9_begin rX9_begin (dC, dI) vwCl [(cI, .int)] [.ref (q0 0), .int x1] (cs9 cI q0 u0) sz (fun (r : Int32) (v : S9) => Q r v) (fun (v : S9) => cs9 cI q0 v) := by
  refine mx_i (cc := cX9_begin) (maxL := 2) (ty := .boolean) (by decide) rfl (Nat.le_of_ble_eq_true rfl) ?_
  intro p e s m below meth c Z A ls args hx hb hml hown hts hA hP hK hD hE hl hret
  have hown : s.vm.findClass RX9 = some m.cls := hown
  have hl : lv_has ls 2 [(0, .ref (q0 0)), (1, .int x1)] := hl
  have hS : va_S A s.heap s.heap [] := va_S.rf
  refine lv_aload_n hx hb dX9_begin_0 rfl (lv_at hl 0 rfl) ?_
  refine va_get (D := (dC, dI)) (ci := 9) (v := .int (g9_up u0)) (C := RX9) (T := TX9) (N := 11) hx hb hts inX9_begin_9 hown hK hP 0 rfl rfl 6 (by decide) (hts _ kX9_begin_4) (fun _ h9 => h9) rfl dX9_begin_1 ?_
  refine lv_if_eq (tgt := 33) hx hb dX9_begin_4 (by decide) (fun cd => ?_) (fun cd => ?_)
  · have h := h.1 cd
    refine lv_iconst (v := 0) hx hb dX9_begin_33 (by decide) ?_
    exact hret _ _ _ _ _ u0 dX9_begin_34 (by decide) h hP hD hS
  · have h := h.2 cd
    refine lv_iload_n hx hb dX9_begin_7 rfl (lv_at hl 1 rfl) ?_
    refine cx_ni (As := [.int x1]) (rest := []) ⟨hx, hb, hml, hown, hts⟩ hl.1 ok_noE trivial hK hP hD hS hA (cut_42 cI q0 u0) (c_X10_isParty (l := l) (dC := dC) (dI := dI) (cI := cI) h) ⟨va_cnB 1 hts gX9_begin_X10_isParty_n73 rfl rfl rfl (hE.1.1 (RX9, 73, yX10_isParty, "AheadStore") (List.mem_of_getElem? (i := 14) rfl)) (hts _ kX9_begin_2) hdX10_isParty ⟨Nat.le_of_ble_eq_true rfl, Nat.le_of_ble_eq_true rfl⟩, hts _ kX9_begin_3, trivial⟩ rfl (Nat.le_of_ble_eq_true rfl) dX9_begin_8 rfl (fun r_1 _ H locs h hP hD hS => ?_)
    refine lv_if_eq (tgt := 33) hx hb dX9_begin_11 (by decide) (fun cd => ?_) (fun cd => ?_)
    · have h := h.1 cd
      refine lv_iconst (v := 0) hx hb dX9_begin_33 (by decide) ?_
      exact hret _ _ _ _ _ u0 dX9_begin_34 (by decide) h hP hD hS
    · have h := h.2 cd
      refine lv_aload_n hx hb dX9_begin_14 rfl (lv_at hl 0 rfl) ?_
      refine va_get (D := (dC, dI)) (ci := 9) (v := .ref (q0 13)) (C := RX9) (T := TX9) (N := 11) hx hb hts inX9_begin_9 hown hK hP 0 rfl rfl 2 (by decide) (hts _ kX9_begin_1) (fun _ h9 => h9) rfl dX9_begin_15 ?_
      refine va_get (D := (dC, dI)) (ci := 5) (v := .ref (q0 14)) (C := RX5) (T := TX5) (N := 3) hx hb hts inX9_begin_5 hown hK hP 13 rfl rfl 0 (by decide) (hts _ kX9_begin_0) (fun _ h9 => h9) rfl dX9_begin_18 ?_
      refine lv_iload_n hx hb dX9_begin_21 rfl (lv_at hl 1 rfl) ?_
      refine va_iald hx hb hK hP 14 0 rfl rfl h.1 dX9_begin_22 ?_
      have h := h.2
      refine lv_if_ne (tgt := 33) hx hb dX9_begin_23 (by decide) (fun cd => ?_) (fun cd => ?_)
      · have h := h.2 cd
        refine lv_iconst (v := 0) hx hb dX9_begin_33 (by decide) ?_
        exact hret _ _ _ _ _ u0 dX9_begin_34 (by decide) h hP hD hS
      · have h := h.1 cd
        refine lv_aload_n hx hb dX9_begin_26 rfl (lv_at hl 0 rfl) ?_
        refine cx_vi (As := []) (rest := []) ⟨hx, hb, hml, hown, hts⟩ hl.1 ok_sxE hE hK hP hD hS hA (cut_43 cI q0 u0) (c_X9_isFull (l := l) (dC := dC) (dI := dI) (cI := cI) (q0 := q0) h) (cwV 0 hts gX9_begin_X9_isFull rfl rfl rfl hdX9_isFull ⟨Nat.le_of_ble_eq_true rfl, Nat.le_of_ble_eq_true rfl⟩) rfl rfl rfl rfl (Nat.le_of_ble_eq_true rfl) dX9_begin_27 rfl (fun r_2 _ H locs h hP hD hS => ?_)
        refine lv_if_eq (tgt := 35) hx hb dX9_begin_30 (by decide) (fun cd => ?_) (fun cd => ?_)
        · have h := h.1 cd
          refine lv_aload_n hx hb dX9_begin_35 rfl (lv_at hl 0 rfl) ?_
          refine lv_iload_n hx hb dX9_begin_36 rfl (lv_at hl 1 rfl) ?_
          refine lv_iconst (v := 1) hx hb dX9_begin_37 (by decide) ?_
          refine cx_vi (As := [.int x1, .int 1]) (rest := []) ⟨hx, hb, hml, hown, hts⟩ hl.1 ok_sxE hE hK hP hD hS hA (cut_35 cI q0 u0) (c_X9_note (l := l) (dC := dC) (dI := dI) (cI := cI) (q0 := q0) h) (cwV 2 hts gX9_begin_X9_note rfl rfl rfl hdX9_note ⟨Nat.le_of_ble_eq_true rfl, Nat.le_of_ble_eq_true rfl⟩) rfl rfl rfl rfl (Nat.le_of_ble_eq_true rfl) dX9_begin_38 rfl (fun r_3 v_4 H locs h hP hD hS => ?_)
          have hP : va_P (dC, dI) vwCl (cs9 cI q0 v_4) H :=  hP
          have hD : va_D A (cs9 cI q0 v_4) :=  hD
          refine lv_pop hx hb dX9_begin_41 rfl ?_
          refine lv_aload_n hx hb dX9_begin_42 rfl (lv_at hl 0 rfl) ?_
          refine va_get (D := (dC, dI)) (ci := 9) (v := .ref (q0 13)) (C := RX9) (T := TX9) (N := 11) hx hb hts inX9_begin_9 hown hK hP 0 rfl rfl 2 (by decide) (hts _ kX9_begin_1) (fun _ h9 => h9) rfl dX9_begin_43 ?_
          refine va_get (D := (dC, dI)) (ci := 5) (v := .ref (q0 14)) (C := RX5) (T := TX5) (N := 3) hx hb hts inX9_begin_5 hown hK hP 13 rfl rfl 0 (by decide) (hts _ kX9_begin_0) (fun _ h9 => h9) rfl dX9_begin_46 ?_
          refine lv_iload_n hx hb dX9_begin_49 rfl (lv_at hl 1 rfl) ?_
          refine lv_iconst (v := 1) hx hb dX9_begin_50 (by decide) ?_
          refine va_iast hx hb hK hP hD hS 14 0 rfl rfl h.1 dX9_begin_51 (fun H locs hP hD hS => ?_)
          have h := h.2
          obtain ⟨u0_5, e_u0_5⟩ : ∃ z, z = s9_roster v_4 (s5_is (g9_roster v_4) (upd (g5_is (g9_roster v_4)) x1.toNatClampNeg 1)) := ⟨_, rfl⟩
          have h := h u0_5 e_u0_5
          have hP : va_P (dC, dI) vwCl (cs9 cI q0 u0_5) H := by rw [e_u0_5]; exact hP
          have hD : va_D A (cs9 cI q0 u0_5) := by rw [e_u0_5]; exact hD
          refine lv_iconst (v := 1) hx hb dX9_begin_52 (by decide) ?_
          exact hret _ _ _ _ _ u0_5 dX9_begin_53 (by decide) h hP hD hS
        · have h := h.2 cd
          refine lv_iconst (v := 0) hx hb dX9_begin_33 (by decide) ?_
          exact hret _ _ _ _ _ u0 dX9_begin_34 (by decide) h hP hD hS

abbrev rX9_commit : Room := { frames := 4, cells := 0, slots := 0, locals := 88 }
theorem hdX9_commit : yX9_commit.cls = RX9 ∧ yX9_commit.cls ≠ "java/lang/invoke/MethodHandle" ∧ yX9_commit.cls ≠ "java/lang/invoke/VarHandle" ∧ (parseMethodDescriptor yX9_commit.desc).map (fun d => d.parameters.length) = some 1 := by decide +kernel
theorem inX9_commit_0 : ∀ w ∈ wsX00, w ∈ wsX9_commit := by decide +kernel
theorem inX9_commit_9 : ∀ w ∈ wsX90, w ∈ wsX9_commit := by decide +kernel
theorem kX9_commit_0 : Cond.fieldLink RX9 12 "AheadStore$World" "journal" "LAheadStore$Journal;" ∈ wsX9_commit := by decide +kernel
theorem kX9_commit_1 : Cond.fieldLink RX9 114 "AheadStore$Claims" "topCount" "[I" ∈ wsX9_commit := by decide +kernel
theorem kX9_commit_2 : Cond.fieldLink RX9 35 "AheadStore$World" "claims" "LAheadStore$Claims;" ∈ wsX9_commit := by decide +kernel
set_option maxHeartbeats 4000000 in
set_option maxRecDepth 100000 in
theorem c_X9_commit {l : Launch} {dC : Nat → ClassId} {dI : Nat → Nat → Nat} {cI : ClassId} {q0 : Nat → Nat} {sz : Nat} {u0 : S9} {x1 : Int32} {Q : Int32 → S9 → Prop} (h : wp_X9_commit u0 x1 Q) : ctI sxE l yX9_commit wsX9_commit rX9_commit (dC, dI) vwCl [(cI, .int)] [.ref (q0 0), .int x1] (cs9 cI q0 u0) sz (fun (r : Int32) (v : S9) => Q r v) (fun (v : S9) => cs9 cI q0 v) := by
  refine mx_i (cc := cX9_commit) (maxL := 2) (ty := .boolean) (by decide) rfl (Nat.le_of_ble_eq_true rfl) ?_
  intro p e s m below meth c Z A ls args hx hb hml hown hts hA hP hK hD hE hl hret
  have hown : s.vm.findClass RX9 = some m.cls := hown
  have hl : lv_has ls 2 [(0, .ref (q0 0)), (1, .int x1)] := hl
  have hS : va_S A s.heap s.heap [] := va_S.rf
  refine lv_aload_n hx hb dX9_commit_0 rfl (lv_at hl 0 rfl) ?_
  refine lv_iload_n hx hb dX9_commit_1 rfl (lv_at hl 1 rfl) ?_
  refine cx_vi (As := [.int x1]) (rest := []) ⟨hx, hb, hml, hown, hts⟩ hl.1 ok_sxE hE hK hP hD hS hA (cut_43 cI q0 u0) (c_X9_isRunning (l := l) (dC := dC) (dI := dI) (cI := cI) (q0 := q0) h) (cwV 1 hts gX9_commit_X9_isRunning rfl rfl rfl hdX9_isRunning ⟨Nat.le_of_ble_eq_true rfl, Nat.le_of_ble_eq_true rfl⟩) rfl rfl rfl rfl (Nat.le_of_ble_eq_true rfl) dX9_commit_2 rfl (fun r_1 _ H locs h hP hD hS => ?_)
  refine lv_if_eq (tgt := 27) hx hb dX9_commit_5 (by decide) (fun cd => ?_) (fun cd => ?_)
  · have h := h.1 cd
    refine lv_iconst (v := 0) hx hb dX9_commit_27 (by decide) ?_
    exact hret _ _ _ _ _ u0 dX9_commit_28 (by decide) h hP hD hS
  · have h := h.2 cd
    refine lv_aload_n hx hb dX9_commit_8 rfl (lv_at hl 0 rfl) ?_
    refine va_get (D := (dC, dI)) (ci := 9) (v := .ref (q0 17)) (C := RX9) (T := TX9) (N := 11) hx hb hts inX9_commit_9 hown hK hP 0 rfl rfl 3 (by decide) (hts _ kX9_commit_2) (fun _ h9 => h9) rfl dX9_commit_9 ?_
    refine va_get (D := (dC, dI)) (ci := 0) (v := .ref (q0 22)) (C := RX0) (T := TX0) (N := 7) hx hb hts inX9_commit_0 hown hK hP 17 rfl rfl 4 (by decide) (hts _ kX9_commit_1) (fun _ h9 => h9) rfl dX9_commit_12 ?_
    refine lv_iload_n hx hb dX9_commit_15 rfl (lv_at hl 1 rfl) ?_
    refine va_iald hx hb hK hP 22 0 rfl rfl h.1 dX9_commit_16 ?_
    have h := h.2
    refine lv_if_gt (tgt := 27) hx hb dX9_commit_17 (by decide) (fun cd => ?_) (fun cd => ?_)
    · have h := h.1 cd
      refine lv_iconst (v := 0) hx hb dX9_commit_27 (by decide) ?_
      exact hret _ _ _ _ _ u0 dX9_commit_28 (by decide) h hP hD hS
    · have h := h.2 cd
      refine lv_aload_n hx hb dX9_commit_20 rfl (lv_at hl 0 rfl) ?_
      refine cx_vi (As := []) (rest := []) ⟨hx, hb, hml, hown, hts⟩ hl.1 ok_sxE hE hK hP hD hS hA (cut_43 cI q0 u0) (c_X9_isFull (l := l) (dC := dC) (dI := dI) (cI := cI) (q0 := q0) h) (cwV 0 hts gX9_commit_X9_isFull rfl rfl rfl hdX9_isFull ⟨Nat.le_of_ble_eq_true rfl, Nat.le_of_ble_eq_true rfl⟩) rfl rfl rfl rfl (Nat.le_of_ble_eq_true rfl) dX9_commit_21 rfl (fun r_2 _ H locs h hP hD hS => ?_)
      refine lv_if_eq (tgt := 29) hx hb dX9_commit_24 (by decide) (fun cd => ?_) (fun cd => ?_)
      · have h := h.1 cd
        refine lv_aload_n hx hb dX9_commit_29 rfl (lv_at hl 0 rfl) ?_
        refine va_get (D := (dC, dI)) (ci := 9) (v := .ref (q0 1)) (C := RX9) (T := TX9) (N := 11) hx hb hts inX9_commit_9 hown hK hP 0 rfl rfl 0 (by decide) (hts _ kX9_commit_0) (fun _ h9 => h9) rfl dX9_commit_30 ?_
        refine lv_aload_n hx hb dX9_commit_33 rfl (lv_at hl 0 rfl) ?_
        refine lv_iload_n hx hb dX9_commit_34 rfl (lv_at hl 1 rfl) ?_
        refine lv_iconst (v := 5) hx hb dX9_commit_35 (by decide) ?_
        refine cx_vi (As := [.int x1, .int 5]) (rest := [.ref (q0 1)]) ⟨hx, hb, hml, hown, hts⟩ hl.1 ok_sxE hE hK hP hD hS hA (cut_35 cI q0 u0) (c_X9_note (l := l) (dC := dC) (dI := dI) (cI := cI) (q0 := q0) h) (cwV 2 hts gX9_commit_X9_note rfl rfl rfl hdX9_note ⟨Nat.le_of_ble_eq_true rfl, Nat.le_of_ble_eq_true rfl⟩) rfl rfl rfl rfl (Nat.le_of_ble_eq_true rfl) dX9_commit_36 rfl (fun r_3 v_4 H locs h hP hD hS => ?_)
        have hP : va_P (dC, dI) vwCl (cs9 cI q0 v_4) H :=  hP
        have hD : va_D A (cs9 cI q0 v_4) :=  hD
        refine cx_vv (As := [.int r_3]) (rest := []) ⟨hx, hb, hml, hown, hts⟩ hl.1 ok_sxE hE hK hP hD hS hA (cut_34 cI q0 v_4) (c_X2_flushThrough (l := l) (dC := dC) (dI := dI) (cI := cI) (q0 := fun i => q0 (i + 1)) h) (cwV 1 hts gX9_commit_X2_flushThrough rfl rfl rfl hdX2_flushThrough ⟨Nat.le_of_ble_eq_true rfl, Nat.le_of_ble_eq_true rfl⟩) rfl rfl rfl rfl (Nat.le_of_ble_eq_true rfl) dX9_commit_39 rfl (fun v_5 H locs h hP hD hS => ?_)
        obtain ⟨u0_6, e_u0_6⟩ : ∃ z, z = s9_journal v_4 v_5 := ⟨_, rfl⟩
        have h := h u0_6 e_u0_6
        have hP : va_P (dC, dI) vwCl (cs9 cI q0 u0_6) H := by rw [e_u0_6]; exact hP
        have hD : va_D A (cs9 cI q0 u0_6) := by rw [e_u0_6]; exact hD
        refine lv_aload_n hx hb dX9_commit_42 rfl (lv_at hl 0 rfl) ?_
        refine lv_iload_n hx hb dX9_commit_43 rfl (lv_at hl 1 rfl) ?_
        refine cx_vv (As := [.int x1]) (rest := []) ⟨hx, hb, hml, hown, hts⟩ hl.1 ok_sxE hE hK hP hD hS hA (cut_35 cI q0 u0_6) (c_X9_endOf (l := l) (dC := dC) (dI := dI) (cI := cI) (q0 := q0) h) (cwV 1 hts gX9_commit_X9_endOf rfl rfl rfl hdX9_endOf ⟨Nat.le_of_ble_eq_true rfl, Nat.le_of_ble_eq_true rfl⟩) rfl rfl rfl rfl (Nat.le_of_ble_eq_true rfl) dX9_commit_44 rfl (fun v_7 H locs h hP hD hS => ?_)
        have hP : va_P (dC, dI) vwCl (cs9 cI q0 v_7) H :=  hP
        have hD : va_D A (cs9 cI q0 v_7) :=  hD
        refine lv_iconst (v := 1) hx hb dX9_commit_47 (by decide) ?_
        exact hret _ _ _ _ _ v_7 dX9_commit_48 (by decide) h hP hD hS
      · have h := h.2 cd
        refine lv_iconst (v := 0) hx hb dX9_commit_27 (by decide) ?_
        exact hret _ _ _ _ _ u0 dX9_commit_28 (by decide) h hP hD hS

abbrev rX9_abort : Room := { frames := 3, cells := 0, slots := 0, locals := 67 }
theorem hdX9_abort : yX9_abort.cls = RX9 ∧ yX9_abort.cls ≠ "java/lang/invoke/MethodHandle" ∧ yX9_abort.cls ≠ "java/lang/invoke/VarHandle" ∧ (parseMethodDescriptor yX9_abort.desc).map (fun d => d.parameters.length) = some 1 := by decide +kernel
theorem inX9_abort_0 : ∀ w ∈ wsX00, w ∈ wsX9_abort := by decide +kernel
theorem inX9_abort_5 : ∀ w ∈ wsX50, w ∈ wsX9_abort := by decide +kernel
theorem inX9_abort_9 : ∀ w ∈ wsX90, w ∈ wsX9_abort := by decide +kernel
theorem kX9_abort_0 : Cond.fieldLink RX9 129 "AheadStore$Claims" "waits" "[I" ∈ wsX9_abort := by decide +kernel
theorem kX9_abort_1 : Cond.fieldLink RX9 35 "AheadStore$World" "claims" "LAheadStore$Claims;" ∈ wsX9_abort := by decide +kernel
theorem kX9_abort_2 : Cond.fieldLink RX9 77 "AheadStore$Roster" "is" "[I" ∈ wsX9_abort := by decide +kernel
theorem kX9_abort_3 : Cond.fieldLink RX9 28 "AheadStore$World" "roster" "LAheadStore$Roster;" ∈ wsX9_abort := by decide +kernel
theorem kX9_abort_4 : Cond.fieldLink RX9 123 "AheadStore$Roster" "cursor" "[I" ∈ wsX9_abort := by decide +kernel
set_option maxHeartbeats 4000000 in
set_option maxRecDepth 100000 in
theorem c_X9_abort {l : Launch} {dC : Nat → ClassId} {dI : Nat → Nat → Nat} {cI : ClassId} {q0 : Nat → Nat} {sz : Nat} {u0 : S9} {x1 : Int32} {Q : Int32 → S9 → Prop} (h : wp_X9_abort u0 x1 Q) : ctI sxE l yX9_abort wsX9_abort rX9_abort (dC, dI) vwCl [(cI, .int)] [.ref (q0 0), .int x1] (cs9 cI q0 u0) sz (fun (r : Int32) (v : S9) => Q r v) (fun (v : S9) => cs9 cI q0 v) := by
  refine mx_i (cc := cX9_abort) (maxL := 2) (ty := .boolean) (by decide) rfl (Nat.le_of_ble_eq_true rfl) ?_
  intro p e s m below meth c Z A ls args hx hb hml hown hts hA hP hK hD hE hl hret
  have hown : s.vm.findClass RX9 = some m.cls := hown
  have hl : lv_has ls 2 [(0, .ref (q0 0)), (1, .int x1)] := hl
  have hS : va_S A s.heap s.heap [] := va_S.rf
  refine lv_aload_n hx hb dX9_abort_0 rfl (lv_at hl 0 rfl) ?_
  refine lv_iload_n hx hb dX9_abort_1 rfl (lv_at hl 1 rfl) ?_
  refine cx_vi (As := [.int x1]) (rest := []) ⟨hx, hb, hml, hown, hts⟩ hl.1 ok_sxE hE hK hP hD hS hA (cut_43 cI q0 u0) (c_X9_isRunning (l := l) (dC := dC) (dI := dI) (cI := cI) (q0 := q0) h) (cwV 1 hts gX9_abort_X9_isRunning rfl rfl rfl hdX9_isRunning ⟨Nat.le_of_ble_eq_true rfl, Nat.le_of_ble_eq_true rfl⟩) rfl rfl rfl rfl (Nat.le_of_ble_eq_true rfl) dX9_abort_2 rfl (fun r_1 _ H locs h hP hD hS => ?_)
  refine lv_if_ne (tgt := 10) hx hb dX9_abort_5 (by decide) (fun cd => ?_) (fun cd => ?_)
  · have h := h.2 cd
    refine lv_aload_n hx hb dX9_abort_10 rfl (lv_at hl 0 rfl) ?_
    refine va_get (D := (dC, dI)) (ci := 9) (v := .ref (q0 13)) (C := RX9) (T := TX9) (N := 11) hx hb hts inX9_abort_9 hown hK hP 0 rfl rfl 2 (by decide) (hts _ kX9_abort_3) (fun _ h9 => h9) rfl dX9_abort_11 ?_
    refine va_get (D := (dC, dI)) (ci := 5) (v := .ref (q0 16)) (C := RX5) (T := TX5) (N := 3) hx hb hts inX9_abort_5 hown hK hP 13 rfl rfl 2 (by decide) (hts _ kX9_abort_4) (fun _ h9 => h9) rfl dX9_abort_14 ?_
    refine lv_iload_n hx hb dX9_abort_17 rfl (lv_at hl 1 rfl) ?_
    refine lv_aload_n hx hb dX9_abort_18 rfl (lv_at hl 0 rfl) ?_
    refine lv_iload_n hx hb dX9_abort_19 rfl (lv_at hl 1 rfl) ?_
    refine lv_bipush (v := 6) hx hb dX9_abort_20 (by decide) ?_
    refine cx_vi (As := [.int x1, .int 6]) (rest := [.int x1, .ref (q0 16)]) ⟨hx, hb, hml, hown, hts⟩ hl.1 ok_sxE hE hK hP hD hS hA (cut_35 cI q0 u0) (c_X9_note (l := l) (dC := dC) (dI := dI) (cI := cI) (q0 := q0) h) (cwV 2 hts gX9_abort_X9_note rfl rfl rfl hdX9_note ⟨Nat.le_of_ble_eq_true rfl, Nat.le_of_ble_eq_true rfl⟩) rfl rfl rfl rfl (Nat.le_of_ble_eq_true rfl) dX9_abort_22 rfl (fun r_2 v_3 H locs h hP hD hS => ?_)
    have hP : va_P (dC, dI) vwCl (cs9 cI q0 v_3) H :=  hP
    have hD : va_D A (cs9 cI q0 v_3) :=  hD
    refine va_iast hx hb hK hP hD hS 16 0 rfl rfl h.1 dX9_abort_25 (fun H locs hP hD hS => ?_)
    have h := h.2
    obtain ⟨u0_4, e_u0_4⟩ : ∃ z, z = s9_roster v_3 (s5_cursor (g9_roster v_3) (upd (g5_cursor (g9_roster v_3)) x1.toNatClampNeg r_2)) := ⟨_, rfl⟩
    have h := h u0_4 e_u0_4
    have hP : va_P (dC, dI) vwCl (cs9 cI q0 u0_4) H := by rw [e_u0_4]; exact hP
    have hD : va_D A (cs9 cI q0 u0_4) := by rw [e_u0_4]; exact hD
    refine lv_aload_n hx hb dX9_abort_26 rfl (lv_at hl 0 rfl) ?_
    refine va_get (D := (dC, dI)) (ci := 9) (v := .ref (q0 13)) (C := RX9) (T := TX9) (N := 11) hx hb hts inX9_abort_9 hown hK hP 0 rfl rfl 2 (by decide) (hts _ kX9_abort_3) (fun _ h9 => h9) rfl dX9_abort_27 ?_
    refine va_get (D := (dC, dI)) (ci := 5) (v := .ref (q0 14)) (C := RX5) (T := TX5) (N := 3) hx hb hts inX9_abort_5 hown hK hP 13 rfl rfl 0 (by decide) (hts _ kX9_abort_2) (fun _ h9 => h9) rfl dX9_abort_30 ?_
    refine lv_iload_n hx hb dX9_abort_33 rfl (lv_at hl 1 rfl) ?_
    refine lv_iconst (v := 2) hx hb dX9_abort_34 (by decide) ?_
    refine va_iast hx hb hK hP hD hS 14 0 rfl rfl h.1 dX9_abort_35 (fun H locs hP hD hS => ?_)
    have h := h.2
    obtain ⟨u0_5, e_u0_5⟩ : ∃ z, z = s9_roster u0_4 (s5_is (g9_roster u0_4) (upd (g5_is (g9_roster u0_4)) x1.toNatClampNeg 2)) := ⟨_, rfl⟩
    have h := h u0_5 e_u0_5
    have hP : va_P (dC, dI) vwCl (cs9 cI q0 u0_5) H := by rw [e_u0_5]; exact hP
    have hD : va_D A (cs9 cI q0 u0_5) := by rw [e_u0_5]; exact hD
    refine lv_aload_n hx hb dX9_abort_36 rfl (lv_at hl 0 rfl) ?_
    refine va_get (D := (dC, dI)) (ci := 9) (v := .ref (q0 17)) (C := RX9) (T := TX9) (N := 11) hx hb hts inX9_abort_9 hown hK hP 0 rfl rfl 3 (by decide) (hts _ kX9_abort_1) (fun _ h9 => h9) rfl dX9_abort_37 ?_
    refine lv_iload_n hx hb dX9_abort_40 rfl (lv_at hl 1 rfl) ?_
    refine cx_vv (As := [.int x1]) (rest := []) ⟨hx, hb, hml, hown, hts⟩ hl.1 ok_sxE hE hK hP hD hS hA (cut_36 cI q0 u0_5) (c_X0_dropMarks (l := l) (dC := dC) (dI := dI) (cI := cI) (q0 := fun i => q0 (i + 17)) h) (cwV 1 hts gX9_abort_X0_dropMarks rfl rfl rfl hdX0_dropMarks ⟨Nat.le_of_ble_eq_true rfl, Nat.le_of_ble_eq_true rfl⟩) rfl rfl rfl rfl (Nat.le_of_ble_eq_true rfl) dX9_abort_41 rfl (fun v_6 H locs h hP hD hS => ?_)
    obtain ⟨u0_7, e_u0_7⟩ : ∃ z, z = s9_claims u0_5 v_6 := ⟨_, rfl⟩
    have h := h u0_7 e_u0_7
    have hP : va_P (dC, dI) vwCl (cs9 cI q0 u0_7) H := by rw [e_u0_7]; exact hP
    have hD : va_D A (cs9 cI q0 u0_7) := by rw [e_u0_7]; exact hD
    refine lv_aload_n hx hb dX9_abort_44 rfl (lv_at hl 0 rfl) ?_
    refine va_get (D := (dC, dI)) (ci := 9) (v := .ref (q0 17)) (C := RX9) (T := TX9) (N := 11) hx hb hts inX9_abort_9 hown hK hP 0 rfl rfl 3 (by decide) (hts _ kX9_abort_1) (fun _ h9 => h9) rfl dX9_abort_45 ?_
    refine va_get (D := (dC, dI)) (ci := 0) (v := .ref (q0 20)) (C := RX0) (T := TX0) (N := 7) hx hb hts inX9_abort_0 hown hK hP 17 rfl rfl 2 (by decide) (hts _ kX9_abort_0) (fun _ h9 => h9) rfl dX9_abort_48 ?_
    refine lv_iload_n hx hb dX9_abort_51 rfl (lv_at hl 1 rfl) ?_
    refine lv_iconst (v := 0) hx hb dX9_abort_52 (by decide) ?_
    refine va_iast hx hb hK hP hD hS 20 0 rfl rfl h.1 dX9_abort_53 (fun H locs hP hD hS => ?_)
    have h := h.2
    obtain ⟨u0_8, e_u0_8⟩ : ∃ z, z = s9_claims u0_7 (s0_waits (g9_claims u0_7) (upd (g0_waits (g9_claims u0_7)) x1.toNatClampNeg 0)) := ⟨_, rfl⟩
    have h := h u0_8 e_u0_8
    have hP : va_P (dC, dI) vwCl (cs9 cI q0 u0_8) H := by rw [e_u0_8]; exact hP
    have hD : va_D A (cs9 cI q0 u0_8) := by rw [e_u0_8]; exact hD
    refine lv_iconst (v := 1) hx hb dX9_abort_54 (by decide) ?_
    exact hret _ _ _ _ _ u0_8 dX9_abort_55 (by decide) h hP hD hS
  · have h := h.1 cd
    refine lv_iconst (v := 0) hx hb dX9_abort_8 (by decide) ?_
    exact hret _ _ _ _ _ u0 dX9_abort_9 (by decide) h hP hD hS

abbrev rX9_openTop : Room := { frames := 2, cells := 0, slots := 0, locals := 41 }
theorem hdX9_openTop : yX9_openTop.cls = RX9 ∧ yX9_openTop.cls ≠ "java/lang/invoke/MethodHandle" ∧ yX9_openTop.cls ≠ "java/lang/invoke/VarHandle" ∧ (parseMethodDescriptor yX9_openTop.desc).map (fun d => d.parameters.length) = some 1 := by decide +kernel
theorem inX9_openTop_5 : ∀ w ∈ wsX50, w ∈ wsX9_openTop := by decide +kernel
theorem inX9_openTop_9 : ∀ w ∈ wsX90, w ∈ wsX9_openTop := by decide +kernel
theorem kX9_openTop_0 : Cond.fieldLink RX9 85 "AheadStore$Roster" "last" "[I" ∈ wsX9_openTop := by decide +kernel
theorem kX9_openTop_1 : Cond.fieldLink RX9 28 "AheadStore$World" "roster" "LAheadStore$Roster;" ∈ wsX9_openTop := by decide +kernel
theorem kX9_openTop_2 : Cond.fieldLink RX9 35 "AheadStore$World" "claims" "LAheadStore$Claims;" ∈ wsX9_openTop := by decide +kernel
set_option maxHeartbeats 4000000 in
set_option maxRecDepth 100000 in
theorem c_X9_openTop {l : Launch} {dC : Nat → ClassId} {dI : Nat → Nat → Nat} {cI : ClassId} {q0 : Nat → Nat} {sz : Nat} {u0 : S9} {x1 : Int32} {Q : Int32 → S9 → Prop} (h : wp_X9_openTop u0 x1 Q) : ctI sxE l yX9_openTop wsX9_openTop rX9_openTop (dC, dI) vwCl [(cI, .int)] [.ref (q0 0), .int x1] (cs9 cI q0 u0) sz (fun (r : Int32) (v : S9) => Q r v) (fun (v : S9) => cs9 cI q0 v) := by
  refine mx_i (cc := cX9_openTop) (maxL := 2) (ty := .boolean) (by decide) rfl (Nat.le_of_ble_eq_true rfl) ?_
  intro p e s m below meth c Z A ls args hx hb hml hown hts hA hP hK hD hE hl hret
  have hown : s.vm.findClass RX9 = some m.cls := hown
  have hl : lv_has ls 2 [(0, .ref (q0 0)), (1, .int x1)] := hl
  have hS : va_S A s.heap s.heap [] := va_S.rf
  refine lv_aload_n hx hb dX9_openTop_0 rfl (lv_at hl 0 rfl) ?_
  refine lv_iload_n hx hb dX9_openTop_1 rfl (lv_at hl 1 rfl) ?_
  refine cx_vi (As := [.int x1]) (rest := []) ⟨hx, hb, hml, hown, hts⟩ hl.1 ok_sxE hE hK hP hD hS hA (cut_43 cI q0 u0) (c_X9_isRunning (l := l) (dC := dC) (dI := dI) (cI := cI) (q0 := q0) h) (cwV 1 hts gX9_openTop_X9_isRunning rfl rfl rfl hdX9_isRunning ⟨Nat.le_of_ble_eq_true rfl, Nat.le_of_ble_eq_true rfl⟩) rfl rfl rfl rfl (Nat.le_of_ble_eq_true rfl) dX9_openTop_2 rfl (fun r_1 _ H locs h hP hD hS => ?_)
  refine lv_if_eq (tgt := 32) hx hb dX9_openTop_5 (by decide) (fun cd => ?_) (fun cd => ?_)
  · have h := h.1 cd
    refine lv_iconst (v := 0) hx hb dX9_openTop_32 (by decide) ?_
    exact hret _ _ _ _ _ u0 dX9_openTop_33 (by decide) h hP hD hS
  · have h := h.2 cd
    refine lv_aload_n hx hb dX9_openTop_8 rfl (lv_at hl 0 rfl) ?_
    refine va_get (D := (dC, dI)) (ci := 9) (v := .ref (q0 17)) (C := RX9) (T := TX9) (N := 11) hx hb hts inX9_openTop_9 hown hK hP 0 rfl rfl 3 (by decide) (hts _ kX9_openTop_2) (fun _ h9 => h9) rfl dX9_openTop_9 ?_
    refine lv_iload_n hx hb dX9_openTop_12 rfl (lv_at hl 1 rfl) ?_
    refine lv_aload_n hx hb dX9_openTop_13 rfl (lv_at hl 0 rfl) ?_
    refine va_get (D := (dC, dI)) (ci := 9) (v := .ref (q0 13)) (C := RX9) (T := TX9) (N := 11) hx hb hts inX9_openTop_9 hown hK hP 0 rfl rfl 2 (by decide) (hts _ kX9_openTop_1) (fun _ h9 => h9) rfl dX9_openTop_14 ?_
    refine va_get (D := (dC, dI)) (ci := 5) (v := .ref (q0 15)) (C := RX5) (T := TX5) (N := 3) hx hb hts inX9_openTop_5 hown hK hP 13 rfl rfl 1 (by decide) (hts _ kX9_openTop_0) (fun _ h9 => h9) rfl dX9_openTop_17 ?_
    refine lv_iload_n hx hb dX9_openTop_20 rfl (lv_at hl 1 rfl) ?_
    refine va_iald hx hb hK hP 15 0 rfl rfl h.1 dX9_openTop_21 ?_
    have h := h.2
    refine cx_vi (As := [.int x1, .int ((g5_last (g9_roster u0)) x1.toNatClampNeg)]) (rest := []) ⟨hx, hb, hml, hown, hts⟩ hl.1 ok_sxE hE hK hP hD hS hA (cut_36 cI q0 u0) (c_X0_putTop (l := l) (dC := dC) (dI := dI) (cI := cI) (q0 := fun i => q0 (i + 17)) h) (cwV 2 hts gX9_openTop_X0_putTop rfl rfl rfl hdX0_putTop ⟨Nat.le_of_ble_eq_true rfl, Nat.le_of_ble_eq_true rfl⟩) rfl rfl rfl rfl (Nat.le_of_ble_eq_true rfl) dX9_openTop_22 rfl (fun r_2 v_3 H locs h hP hD hS => ?_)
    obtain ⟨u0_4, e_u0_4⟩ : ∃ z, z = s9_claims u0 v_3 := ⟨_, rfl⟩
    have h := h u0_4 e_u0_4
    have hP : va_P (dC, dI) vwCl (cs9 cI q0 u0_4) H := by rw [e_u0_4]; exact hP
    have hD : va_D A (cs9 cI q0 u0_4) := by rw [e_u0_4]; exact hD
    refine lv_if_eq (tgt := 32) hx hb dX9_openTop_25 (by decide) (fun cd => ?_) (fun cd => ?_)
    · have h := h.1 cd
      refine lv_iconst (v := 0) hx hb dX9_openTop_32 (by decide) ?_
      exact hret _ _ _ _ _ u0_4 dX9_openTop_33 (by decide) h hP hD hS
    · have h := h.2 cd
      refine lv_iconst (v := 1) hx hb dX9_openTop_28 (by decide) ?_
      refine lv_goto (tgt := 33) hx hb dX9_openTop_29 (by decide) ?_
      exact hret _ _ _ _ _ u0_4 dX9_openTop_33 (by decide) h hP hD hS

abbrev rX9_closeTop : Room := { frames := 2, cells := 0, slots := 0, locals := 45 }
theorem hdX9_closeTop : yX9_closeTop.cls = RX9 ∧ yX9_closeTop.cls ≠ "java/lang/invoke/MethodHandle" ∧ yX9_closeTop.cls ≠ "java/lang/invoke/VarHandle" ∧ (parseMethodDescriptor yX9_closeTop.desc).map (fun d => d.parameters.length) = some 1 := by decide +kernel
theorem inX9_closeTop_0 : ∀ w ∈ wsX00, w ∈ wsX9_closeTop := by decide +kernel
theorem inX9_closeTop_5 : ∀ w ∈ wsX50, w ∈ wsX9_closeTop := by decide +kernel
theorem inX9_closeTop_9 : ∀ w ∈ wsX90, w ∈ wsX9_closeTop := by decide +kernel
theorem kX9_closeTop_0 : Cond.fieldLink RX9 35 "AheadStore$World" "claims" "LAheadStore$Claims;" ∈ wsX9_closeTop := by decide +kernel
theorem kX9_closeTop_1 : Cond.fieldLink RX9 12 "AheadStore$World" "journal" "LAheadStore$Journal;" ∈ wsX9_closeTop := by decide +kernel
theorem kX9_closeTop_2 : Cond.fieldLink RX9 85 "AheadStore$Roster" "last" "[I" ∈ wsX9_closeTop := by decide +kernel
theorem kX9_closeTop_3 : Cond.fieldLink RX9 28 "AheadStore$World" "roster" "LAheadStore$Roster;" ∈ wsX9_closeTop := by decide +kernel
theorem kX9_closeTop_4 : Cond.fieldLink RX9 114 "AheadStore$Claims" "topCount" "[I" ∈ wsX9_closeTop := by decide +kernel
set_option maxHeartbeats 4000000 in
set_option maxRecDepth 100000 in
theorem c_X9_closeTop {l : Launch} {dC : Nat → ClassId} {dI : Nat → Nat → Nat} {cI : ClassId} {q0 : Nat → Nat} {sz : Nat} {u0 : S9} {x1 : Int32} {Q : Int32 → S9 → Prop} (h : wp_X9_closeTop u0 x1 Q) : ctI sxE l yX9_closeTop wsX9_closeTop rX9_closeTop (dC, dI) vwCl [(cI, .int)] [.ref (q0 0), .int x1] (cs9 cI q0 u0) sz (fun (r : Int32) (v : S9) => Q r v) (fun (v : S9) => cs9 cI q0 v) := by
  refine mx_i (cc := cX9_closeTop) (maxL := 2) (ty := .boolean) (by decide) rfl (Nat.le_of_ble_eq_true rfl) ?_
  intro p e s m below meth c Z A ls args hx hb hml hown hts hA hP hK hD hE hl hret
  have hown : s.vm.findClass RX9 = some m.cls := hown
  have hl : lv_has ls 2 [(0, .ref (q0 0)), (1, .int x1)] := hl
  have hS : va_S A s.heap s.heap [] := va_S.rf
  refine lv_aload_n hx hb dX9_closeTop_0 rfl (lv_at hl 0 rfl) ?_
  refine lv_iload_n hx hb dX9_closeTop_1 rfl (lv_at hl 1 rfl) ?_
  refine cx_vi (As := [.int x1]) (rest := []) ⟨hx, hb, hml, hown, hts⟩ hl.1 ok_sxE hE hK hP hD hS hA (cut_43 cI q0 u0) (c_X9_isRunning (l := l) (dC := dC) (dI := dI) (cI := cI) (q0 := q0) h) (cwV 1 hts gX9_closeTop_X9_isRunning rfl rfl rfl hdX9_isRunning ⟨Nat.le_of_ble_eq_true rfl, Nat.le_of_ble_eq_true rfl⟩) rfl rfl rfl rfl (Nat.le_of_ble_eq_true rfl) dX9_closeTop_2 rfl (fun r_1 _ H locs h hP hD hS => ?_)
  refine lv_if_eq (tgt := 28) hx hb dX9_closeTop_5 (by decide) (fun cd => ?_) (fun cd => ?_)
  · have h := h.1 cd
    refine lv_iconst (v := 0) hx hb dX9_closeTop_28 (by decide) ?_
    exact hret _ _ _ _ _ u0 dX9_closeTop_29 (by decide) h hP hD hS
  · have h := h.2 cd
    refine lv_aload_n hx hb dX9_closeTop_8 rfl (lv_at hl 0 rfl) ?_
    refine va_get (D := (dC, dI)) (ci := 9) (v := .ref (q0 17)) (C := RX9) (T := TX9) (N := 11) hx hb hts inX9_closeTop_9 hown hK hP 0 rfl rfl 3 (by decide) (hts _ kX9_closeTop_0) (fun _ h9 => h9) rfl dX9_closeTop_9 ?_
    refine va_get (D := (dC, dI)) (ci := 0) (v := .ref (q0 22)) (C := RX0) (T := TX0) (N := 7) hx hb hts inX9_closeTop_0 hown hK hP 17 rfl rfl 4 (by decide) (hts _ kX9_closeTop_4) (fun _ h9 => h9) rfl dX9_closeTop_12 ?_
    refine lv_iload_n hx hb dX9_closeTop_15 rfl (lv_at hl 1 rfl) ?_
    refine va_iald hx hb hK hP 22 0 rfl rfl h.1 dX9_closeTop_16 ?_
    have h := h.2
    refine lv_iconst (v := 1) hx hb dX9_closeTop_17 (by decide) ?_
    refine lv_icmp_lt (tgt := 28) hx hb dX9_closeTop_18 (by decide) (fun cd => ?_) (fun cd => ?_)
    · have h := h.1 cd
      refine lv_iconst (v := 0) hx hb dX9_closeTop_28 (by decide) ?_
      exact hret _ _ _ _ _ u0 dX9_closeTop_29 (by decide) h hP hD hS
    · have h := h.2 cd
      refine lv_aload_n hx hb dX9_closeTop_21 rfl (lv_at hl 0 rfl) ?_
      refine cx_vi (As := []) (rest := []) ⟨hx, hb, hml, hown, hts⟩ hl.1 ok_sxE hE hK hP hD hS hA (cut_43 cI q0 u0) (c_X9_isFull (l := l) (dC := dC) (dI := dI) (cI := cI) (q0 := q0) h) (cwV 0 hts gX9_closeTop_X9_isFull rfl rfl rfl hdX9_isFull ⟨Nat.le_of_ble_eq_true rfl, Nat.le_of_ble_eq_true rfl⟩) rfl rfl rfl rfl (Nat.le_of_ble_eq_true rfl) dX9_closeTop_22 rfl (fun r_2 _ H locs h hP hD hS => ?_)
      refine lv_if_eq (tgt := 30) hx hb dX9_closeTop_25 (by decide) (fun cd => ?_) (fun cd => ?_)
      · have h := h.1 cd
        refine lv_aload_n hx hb dX9_closeTop_30 rfl (lv_at hl 0 rfl) ?_
        refine va_get (D := (dC, dI)) (ci := 9) (v := .ref (q0 1)) (C := RX9) (T := TX9) (N := 11) hx hb hts inX9_closeTop_9 hown hK hP 0 rfl rfl 0 (by decide) (hts _ kX9_closeTop_1) (fun _ h9 => h9) rfl dX9_closeTop_31 ?_
        refine lv_bipush (v := 9) hx hb dX9_closeTop_34 (by decide) ?_
        refine lv_iload_n hx hb dX9_closeTop_36 rfl (lv_at hl 1 rfl) ?_
        refine lv_aload_n hx hb dX9_closeTop_37 rfl (lv_at hl 0 rfl) ?_
        refine va_get (D := (dC, dI)) (ci := 9) (v := .ref (q0 13)) (C := RX9) (T := TX9) (N := 11) hx hb hts inX9_closeTop_9 hown hK hP 0 rfl rfl 2 (by decide) (hts _ kX9_closeTop_3) (fun _ h9 => h9) rfl dX9_closeTop_38 ?_
        refine va_get (D := (dC, dI)) (ci := 5) (v := .ref (q0 15)) (C := RX5) (T := TX5) (N := 3) hx hb hts inX9_closeTop_5 hown hK hP 13 rfl rfl 1 (by decide) (hts _ kX9_closeTop_2) (fun _ h9 => h9) rfl dX9_closeTop_41 ?_
        refine lv_iload_n hx hb dX9_closeTop_44 rfl (lv_at hl 1 rfl) ?_
        refine va_iald hx hb hK hP 15 0 rfl rfl h.1 dX9_closeTop_45 ?_
        have h := h.2
        refine cx_vv (As := [.int 9, .int x1, .int ((g5_last (g9_roster u0)) x1.toNatClampNeg)]) (rest := []) ⟨hx, hb, hml, hown, hts⟩ hl.1 ok_sxE hE hK hP hD hS hA (cut_34 cI q0 u0) (c_X2_start (l := l) (dC := dC) (dI := dI) (cI := cI) (q0 := fun i => q0 (i + 1)) h) (cwV 3 hts gX9_closeTop_X2_start rfl rfl rfl hdX2_start ⟨Nat.le_of_ble_eq_true rfl, Nat.le_of_ble_eq_true rfl⟩) rfl rfl rfl rfl (Nat.le_of_ble_eq_true rfl) dX9_closeTop_46 rfl (fun v_3 H locs h hP hD hS => ?_)
        obtain ⟨u0_4, e_u0_4⟩ : ∃ z, z = s9_journal u0 v_3 := ⟨_, rfl⟩
        have h := h u0_4 e_u0_4
        have hP : va_P (dC, dI) vwCl (cs9 cI q0 u0_4) H := by rw [e_u0_4]; exact hP
        have hD : va_D A (cs9 cI q0 u0_4) := by rw [e_u0_4]; exact hD
        refine lv_aload_n hx hb dX9_closeTop_49 rfl (lv_at hl 0 rfl) ?_
        refine va_get (D := (dC, dI)) (ci := 9) (v := .ref (q0 1)) (C := RX9) (T := TX9) (N := 11) hx hb hts inX9_closeTop_9 hown hK hP 0 rfl rfl 0 (by decide) (hts _ kX9_closeTop_1) (fun _ h9 => h9) rfl dX9_closeTop_50 ?_
        refine lv_aload_n hx hb dX9_closeTop_53 rfl (lv_at hl 0 rfl) ?_
        refine va_get (D := (dC, dI)) (ci := 9) (v := .ref (q0 17)) (C := RX9) (T := TX9) (N := 11) hx hb hts inX9_closeTop_9 hown hK hP 0 rfl rfl 3 (by decide) (hts _ kX9_closeTop_0) (fun _ h9 => h9) rfl dX9_closeTop_54 ?_
        refine lv_iload_n hx hb dX9_closeTop_57 rfl (lv_at hl 1 rfl) ?_
        refine cx_vi (As := [.int x1]) (rest := [.ref (q0 1)]) ⟨hx, hb, hml, hown, hts⟩ hl.1 ok_sxE hE hK hP hD hS hA (cut_36 cI q0 u0_4) (c_X0_takeTop (l := l) (dC := dC) (dI := dI) (cI := cI) (q0 := fun i => q0 (i + 17)) h) (cwV 1 hts gX9_closeTop_X0_takeTop rfl rfl rfl hdX0_takeTop ⟨Nat.le_of_ble_eq_true rfl, Nat.le_of_ble_eq_true rfl⟩) rfl rfl rfl rfl (Nat.le_of_ble_eq_true rfl) dX9_closeTop_58 rfl (fun r_5 v_6 H locs h hP hD hS => ?_)
        obtain ⟨u0_7, e_u0_7⟩ : ∃ z, z = s9_claims u0_4 v_6 := ⟨_, rfl⟩
        have h := h u0_7 e_u0_7
        have hP : va_P (dC, dI) vwCl (cs9 cI q0 u0_7) H := by rw [e_u0_7]; exact hP
        have hD : va_D A (cs9 cI q0 u0_7) := by rw [e_u0_7]; exact hD
        refine cx_vv (As := [.int r_5]) (rest := []) ⟨hx, hb, hml, hown, hts⟩ hl.1 ok_sxE hE hK hP hD hS hA (cut_34 cI q0 u0_7) (c_X2_putPair (l := l) (dC := dC) (dI := dI) (cI := cI) (q0 := fun i => q0 (i + 1)) h) (cwV 1 hts gX9_closeTop_X2_putPair rfl rfl rfl hdX2_putPair ⟨Nat.le_of_ble_eq_true rfl, Nat.le_of_ble_eq_true rfl⟩) rfl rfl rfl rfl (Nat.le_of_ble_eq_true rfl) dX9_closeTop_61 rfl (fun v_8 H locs h hP hD hS => ?_)
        obtain ⟨u0_9, e_u0_9⟩ : ∃ z, z = s9_journal u0_7 v_8 := ⟨_, rfl⟩
        have h := h u0_9 e_u0_9
        have hP : va_P (dC, dI) vwCl (cs9 cI q0 u0_9) H := by rw [e_u0_9]; exact hP
        have hD : va_D A (cs9 cI q0 u0_9) := by rw [e_u0_9]; exact hD
        refine lv_aload_n hx hb dX9_closeTop_64 rfl (lv_at hl 0 rfl) ?_
        refine lv_iload_n hx hb dX9_closeTop_65 rfl (lv_at hl 1 rfl) ?_
        refine cx_vi (As := [.int x1]) (rest := []) ⟨hx, hb, hml, hown, hts⟩ hl.1 ok_sxE hE hK hP hD hS hA (cut_35 cI q0 u0_9) (c_X9_finish (l := l) (dC := dC) (dI := dI) (cI := cI) (q0 := q0) h) (cwV 1 hts gX9_closeTop_X9_finish rfl rfl rfl hdX9_finish ⟨Nat.le_of_ble_eq_true rfl, Nat.le_of_ble_eq_true rfl⟩) rfl rfl rfl rfl (Nat.le_of_ble_eq_true rfl) dX9_closeTop_66 rfl (fun r_10 v_11 H locs h hP hD hS => ?_)
        have hP : va_P (dC, dI) vwCl (cs9 cI q0 v_11) H :=  hP
        have hD : va_D A (cs9 cI q0 v_11) :=  hD
        refine lv_pop hx hb dX9_closeTop_69 rfl ?_
        refine lv_iconst (v := 1) hx hb dX9_closeTop_70 (by decide) ?_
        exact hret _ _ _ _ _ v_11 dX9_closeTop_71 (by decide) h hP hD hS
      · have h := h.2 cd
        refine lv_iconst (v := 0) hx hb dX9_closeTop_28 (by decide) ?_
        exact hret _ _ _ _ _ u0 dX9_closeTop_29 (by decide) h hP hD hS

set_option maxRecDepth 100000 in
theorem cut_44 (cI : ClassId) (q0 : Nat → Nat) (u0 : S9) : Cut (cs9 cI q0 u0) (cs3 cI (fun i => q0 (i + 3)) (g9_pages u0)) (fun _ : Unit => cs3 cI (fun i => q0 (i + 3)) (g9_pages u0)) (fun _ : Unit => cs9 cI q0 u0) := ⟨[3, 4, 5, 6, 7, 8, 9, 10, 11, 12], [0, 1, 2, 13, 14, 15, 16, 17, 18, 19, 20, 21, 22, 23, 24, 25, 26, 27, 28, 29], rfl, rfl, rfl, by decide, by decide, fun _ => ⟨[0, 1, 2, 20, 21, 22, 23, 24, 25, 26, 27, 28, 29, 3, 4, 5, 6, 7, 8, 9, 10, 11, 12, 13, 14, 15, 16, 17, 18, 19], rfl, rfl⟩⟩

set_option maxRecDepth 100000 in
theorem cut_45 (cI : ClassId) (q0 : Nat → Nat) (u0 : S9) : Cut (cs9 cI q0 u0) (cs0 cI (fun i => q0 (i + 17)) (g9_claims u0)) (fun _ : Unit => cs0 cI (fun i => q0 (i + 17)) (g9_claims u0)) (fun _ : Unit => cs9 cI q0 u0) := ⟨[17, 18, 19, 20, 21, 22, 23, 24], [0, 1, 2, 3, 4, 5, 6, 7, 8, 9, 10, 11, 12, 13, 14, 15, 16, 25, 26, 27, 28, 29], rfl, rfl, rfl, by decide, by decide, fun _ => ⟨[0, 1, 2, 3, 4, 5, 6, 7, 8, 9, 10, 11, 12, 13, 14, 15, 16, 22, 23, 24, 25, 26, 27, 28, 29, 17, 18, 19, 20, 21], rfl, rfl⟩⟩

abbrev rX9_change : Room := { frames := 4, cells := 0, slots := 0, locals := 89 }
theorem hdX9_change : yX9_change.cls = RX9 ∧ yX9_change.cls ≠ "java/lang/invoke/MethodHandle" ∧ yX9_change.cls ≠ "java/lang/invoke/VarHandle" ∧ (parseMethodDescriptor yX9_change.desc).map (fun d => d.parameters.length) = some 4 := by decide +kernel
theorem inX9_change_0 : ∀ w ∈ wsX00, w ∈ wsX9_change := by decide +kernel
theorem inX9_change_5 : ∀ w ∈ wsX50, w ∈ wsX9_change := by decide +kernel
theorem inX9_change_9 : ∀ w ∈ wsX90, w ∈ wsX9_change := by decide +kernel
theorem kX9_change_0 : Cond.fieldLink RX9 129 "AheadStore$Claims" "waits" "[I" ∈ wsX9_change := by decide +kernel
theorem kX9_change_1 : Cond.fieldLink RX9 35 "AheadStore$World" "claims" "LAheadStore$Claims;" ∈ wsX9_change := by decide +kernel
theorem kX9_change_2 : Cond.fieldLink RX9 12 "AheadStore$World" "journal" "LAheadStore$Journal;" ∈ wsX9_change := by decide +kernel
theorem kX9_change_3 : Cond.fieldLink RX9 21 "AheadStore$World" "pages" "LAheadStore$Pages;" ∈ wsX9_change := by decide +kernel
theorem kX9_change_4 : Cond.fieldLink RX9 85 "AheadStore$Roster" "last" "[I" ∈ wsX9_change := by decide +kernel
theorem kX9_change_5 : Cond.fieldLink RX9 28 "AheadStore$World" "roster" "LAheadStore$Roster;" ∈ wsX9_change := by decide +kernel
set_option maxHeartbeats 4000000 in
set_option maxRecDepth 100000 in
theorem c_X9_change {l : Launch} {dC : Nat → ClassId} {dI : Nat → Nat → Nat} {cI : ClassId} {q0 : Nat → Nat} {sz : Nat} {u0 : S9} {x1 : Int32} {x2 : Int32} {x3 : Int32} {x4 : Int32} {Q : Int32 → S9 → Prop} (h : wp_X9_change u0 x1 x2 x3 x4 Q) : ctI sxE l yX9_change wsX9_change rX9_change (dC, dI) vwCl [(cI, .int)] [.ref (q0 0), .int x1, .int x2, .int x3, .int x4] (cs9 cI q0 u0) sz (fun (r : Int32) (v : S9) => Q r v) (fun (v : S9) => cs9 cI q0 v) := by
  refine mx_i (cc := cX9_change) (maxL := 8) (ty := .boolean) (by decide) rfl (Nat.le_of_ble_eq_true rfl) ?_
  intro p e s m below meth c Z A ls args hx hb hml hown hts hA hP hK hD hE hl hret
  have hown : s.vm.findClass RX9 = some m.cls := hown
  have hl : lv_has ls 8 [(0, .ref (q0 0)), (1, .int x1), (2, .int x2), (3, .int x3), (4, .int x4)] := hl
  have w_166 : ∀ (x1 : Int32) (x2 : Int32) (x3 : Int32) (x4 : Int32) (x7 : Int32) (u0 : S9) (H : Heap) (locs : List Loc) (ls : Array Slot) (_ : va_P (dC, dI) vwCl (cs9 cI q0 u0) H) (_ : va_D A (cs9 cI q0 u0)) (_ : va_S A s.heap H locs) (_ : lv_has ls 8 [(0, .ref (q0 0)), (1, .int x1), (2, .int x2), (3, .int x3), (4, .int x4), (7, .int x7)]) (_ : wp_X9_change_166 Q x1 x2 x3 x4 x7 u0), W p l e rX9_change s m args below meth c H locs 0 0 Z (F0 m 166 ls []) := by
    intro x1 x2 x3 x4 x7 u0 H locs ls hP hD hS hl h
    refine lv_aload_n hx hb dX9_change_166 rfl (lv_at hl 0 rfl) ?_
    refine va_get (D := (dC, dI)) (ci := 9) (v := .ref (q0 1)) (C := RX9) (T := TX9) (N := 11) hx hb hts inX9_change_9 hown hK hP 0 rfl rfl 0 (by decide) (hts _ kX9_change_2) (fun _ h9 => h9) rfl dX9_change_167 ?_
    refine lv_iload_n hx hb dX9_change_170 rfl (lv_at hl 3 rfl) ?_
    refine cx_vv (As := [.int x3]) (rest := []) ⟨hx, hb, hml, hown, hts⟩ hl.1 ok_sxE hE hK hP hD hS hA (cut_34 cI q0 u0) (c_X2_put (l := l) (dC := dC) (dI := dI) (cI := cI) (q0 := fun i => q0 (i + 1)) h) (cwV 1 hts gX9_change_X2_put rfl rfl rfl hdX2_put ⟨Nat.le_of_ble_eq_true rfl, Nat.le_of_ble_eq_true rfl⟩) rfl rfl rfl rfl (Nat.le_of_ble_eq_true rfl) dX9_change_171 rfl (fun v_1 H locs h hP hD hS => ?_)
    obtain ⟨u0_2, e_u0_2⟩ : ∃ z, z = s9_journal u0 v_1 := ⟨_, rfl⟩
    have h := h u0_2 e_u0_2
    have hP : va_P (dC, dI) vwCl (cs9 cI q0 u0_2) H := by rw [e_u0_2]; exact hP
    have hD : va_D A (cs9 cI q0 u0_2) := by rw [e_u0_2]; exact hD
    refine lv_aload_n hx hb dX9_change_174 rfl (lv_at hl 0 rfl) ?_
    refine va_get (D := (dC, dI)) (ci := 9) (v := .ref (q0 3)) (C := RX9) (T := TX9) (N := 11) hx hb hts inX9_change_9 hown hK hP 0 rfl rfl 1 (by decide) (hts _ kX9_change_3) (fun _ h9 => h9) rfl dX9_change_175 ?_
    refine lv_iload hx hb dX9_change_178 (lv_at hl 5 rfl) ?_
    refine lv_aload_n hx hb dX9_change_180 rfl (lv_at hl 0 rfl) ?_
    refine lv_iload_n hx hb dX9_change_181 rfl (lv_at hl 1 rfl) ?_
    refine cx_vi (As := [.int x1]) (rest := [.int x7, .ref (q0 3)]) ⟨hx, hb, hml, hown, hts⟩ hl.1 ok_sxE hE hK hP hD hS hA (cut_35 cI q0 u0_2) (c_X9_finish (l := l) (dC := dC) (dI := dI) (cI := cI) (q0 := q0) h) (cwV 1 hts gX9_change_X9_finish rfl rfl rfl hdX9_finish ⟨Nat.le_of_ble_eq_true rfl, Nat.le_of_ble_eq_true rfl⟩) rfl rfl rfl rfl (Nat.le_of_ble_eq_true rfl) dX9_change_182 rfl (fun r_3 v_4 H locs h hP hD hS => ?_)
    have hP : va_P (dC, dI) vwCl (cs9 cI q0 v_4) H :=  hP
    have hD : va_D A (cs9 cI q0 v_4) :=  hD
    refine lv_aload_n hx hb dX9_change_185 rfl (lv_at hl 0 rfl) ?_
    refine va_get (D := (dC, dI)) (ci := 9) (v := .ref (q0 1)) (C := RX9) (T := TX9) (N := 11) hx hb hts inX9_change_9 hown hK hP 0 rfl rfl 0 (by decide) (hts _ kX9_change_2) (fun _ h9 => h9) rfl dX9_change_186 ?_
    refine cx_vv (As := [.int x7, .int r_3, .ref (q0 1)]) (rest := []) ⟨hx, hb, hml, hown, hts⟩ hl.1 ok_sxE hE hK hP hD hS hA (cut_38 cI q0 v_4) (c_X3_doIn (l := l) (dC := dC) (dI := dI) (cI := cI) (q0 := fun i => q0 (i + 3)) (q1 := fun i => q0 (i + 1)) h) (cwV 3 hts gX9_change_X3_doIn rfl rfl rfl hdX3_doIn ⟨Nat.le_of_ble_eq_true rfl, Nat.le_of_ble_eq_true rfl⟩) rfl rfl rfl rfl (Nat.le_of_ble_eq_true rfl) dX9_change_189 rfl (fun v_5 H locs h hP hD hS => ?_)
    obtain ⟨u0_6, e_u0_6⟩ : ∃ z, z = s9_pages v_4 v_5 := ⟨_, rfl⟩
    have h := h u0_6 e_u0_6
    have hP : va_P (dC, dI) vwCl (cs9 cI q0 u0_6) H := by rw [e_u0_6]; exact hP
    have hD : va_D A (cs9 cI q0 u0_6) := by rw [e_u0_6]; exact hD
    refine lv_aload_n hx hb dX9_change_192 rfl (lv_at hl 0 rfl) ?_
    refine va_get (D := (dC, dI)) (ci := 9) (v := .ref (q0 17)) (C := RX9) (T := TX9) (N := 11) hx hb hts inX9_change_9 hown hK hP 0 rfl rfl 3 (by decide) (hts _ kX9_change_1) (fun _ h9 => h9) rfl dX9_change_193 ?_
    refine lv_iload_n hx hb dX9_change_196 rfl (lv_at hl 1 rfl) ?_
    refine lv_iload_n hx hb dX9_change_197 rfl (lv_at hl 2 rfl) ?_
    refine lv_iload hx hb dX9_change_198 (lv_at hl 4 rfl) ?_
    refine cx_vv (As := [.int x1, .int x2, .int x4]) (rest := []) ⟨hx, hb, hml, hown, hts⟩ hl.1 ok_sxE hE hK hP hD hS hA (cut_36 cI q0 u0_6) (c_X0_claim (l := l) (dC := dC) (dI := dI) (cI := cI) (q0 := fun i => q0 (i + 17)) h) (cwV 3 hts gX9_change_X0_claim rfl rfl rfl hdX0_claim ⟨Nat.le_of_ble_eq_true rfl, Nat.le_of_ble_eq_true rfl⟩) rfl rfl rfl rfl (Nat.le_of_ble_eq_true rfl) dX9_change_200 rfl (fun v_7 H locs h hP hD hS => ?_)
    obtain ⟨u0_8, e_u0_8⟩ : ∃ z, z = s9_claims u0_6 v_7 := ⟨_, rfl⟩
    have h := h u0_8 e_u0_8
    have hP : va_P (dC, dI) vwCl (cs9 cI q0 u0_8) H := by rw [e_u0_8]; exact hP
    have hD : va_D A (cs9 cI q0 u0_8) := by rw [e_u0_8]; exact hD
    refine lv_aload_n hx hb dX9_change_203 rfl (lv_at hl 0 rfl) ?_
    refine va_get (D := (dC, dI)) (ci := 9) (v := .ref (q0 17)) (C := RX9) (T := TX9) (N := 11) hx hb hts inX9_change_9 hown hK hP 0 rfl rfl 3 (by decide) (hts _ kX9_change_1) (fun _ h9 => h9) rfl dX9_change_204 ?_
    refine va_get (D := (dC, dI)) (ci := 0) (v := .ref (q0 20)) (C := RX0) (T := TX0) (N := 7) hx hb hts inX9_change_0 hown hK hP 17 rfl rfl 2 (by decide) (hts _ kX9_change_0) (fun _ h9 => h9) rfl dX9_change_207 ?_
    refine lv_iload_n hx hb dX9_change_210 rfl (lv_at hl 1 rfl) ?_
    refine lv_iconst (v := 0) hx hb dX9_change_211 (by decide) ?_
    refine va_iast hx hb hK hP hD hS 20 0 rfl rfl h.1 dX9_change_212 (fun H locs hP hD hS => ?_)
    have h := h.2
    obtain ⟨u0_9, e_u0_9⟩ : ∃ z, z = s9_claims u0_8 (s0_waits (g9_claims u0_8) (upd (g0_waits (g9_claims u0_8)) x1.toNatClampNeg 0)) := ⟨_, rfl⟩
    have h := h u0_9 e_u0_9
    have hP : va_P (dC, dI) vwCl (cs9 cI q0 u0_9) H := by rw [e_u0_9]; exact hP
    have hD : va_D A (cs9 cI q0 u0_9) := by rw [e_u0_9]; exact hD
    refine lv_iconst (v := 1) hx hb dX9_change_213 (by decide) ?_
    exact hret _ _ _ _ _ u0_9 dX9_change_214 (by decide) h hP hD hS
  have w_11 : ∀ (x1 : Int32) (x2 : Int32) (x3 : Int32) (x4 : Int32) (y0 : Int32) (u0 : S9) (H : Heap) (locs : List Loc) (ls : Array Slot) (_ : va_P (dC, dI) vwCl (cs9 cI q0 u0) H) (_ : va_D A (cs9 cI q0 u0)) (_ : va_S A s.heap H locs) (_ : lv_has ls 8 [(0, .ref (q0 0)), (1, .int x1), (2, .int x2), (3, .int x3), (4, .int x4)]) (_ : wp_X9_change_11 Q x1 x2 x3 x4 y0 u0), W p l e rX9_change s m args below meth c H locs 0 0 Z (F0 m 11 ls [.int y0]) := by
    intro x1 x2 x3 x4 y0 u0 H locs ls hP hD hS hl h
    refine lv_istore (lv' := [(5, .int y0), (0, .ref (q0 0)), (1, .int x1), (2, .int x2), (3, .int x3), (4, .int x4)]) hx hb dX9_change_11 hl (by decide) rfl (fun ls hl => ?_)
    refine lv_aload_n hx hb dX9_change_13 rfl (lv_at hl 1 rfl) ?_
    refine lv_iload_n hx hb dX9_change_14 rfl (lv_at hl 2 rfl) ?_
    refine cx_vi (As := [.int x1]) (rest := []) ⟨hx, hb, hml, hown, hts⟩ hl.1 ok_sxE hE hK hP hD hS hA (cut_43 cI q0 u0) (c_X9_isRunning (l := l) (dC := dC) (dI := dI) (cI := cI) (q0 := q0) h) (cwV 1 hts gX9_change_X9_isRunning rfl rfl rfl hdX9_isRunning ⟨Nat.le_of_ble_eq_true rfl, Nat.le_of_ble_eq_true rfl⟩) rfl rfl rfl rfl (Nat.le_of_ble_eq_true rfl) dX9_change_15 rfl (fun r_10 _ H locs h hP hD hS => ?_)
    refine lv_if_eq (tgt := 45) hx hb dX9_change_18 (by decide) (fun cd => ?_) (fun cd => ?_)
    · have h := h.1 cd
      refine lv_iconst (v := 0) hx hb dX9_change_45 (by decide) ?_
      exact hret _ _ _ _ _ u0 dX9_change_46 (by decide) h hP hD hS
    · have h := h.2 cd
      refine lv_iload_n hx hb dX9_change_21 rfl (lv_at hl 3 rfl) ?_
      refine lv_if_lt (tgt := 45) hx hb dX9_change_22 (by decide) (fun cd => ?_) (fun cd => ?_)
      · have h := h.1 cd
        refine lv_iconst (v := 0) hx hb dX9_change_45 (by decide) ?_
        exact hret _ _ _ _ _ u0 dX9_change_46 (by decide) h hP hD hS
      · have h := h.2 cd
        refine lv_iload_n hx hb dX9_change_25 rfl (lv_at hl 3 rfl) ?_
        refine lv_sipush (v := 256) hx hb dX9_change_26 (by decide) ?_
        refine lv_icmp_ge (tgt := 45) hx hb dX9_change_29 (by decide) (fun cd => ?_) (fun cd => ?_)
        · have h := h.1 cd
          refine lv_iconst (v := 0) hx hb dX9_change_45 (by decide) ?_
          exact hret _ _ _ _ _ u0 dX9_change_46 (by decide) h hP hD hS
        · have h := h.2 cd
          refine lv_iload_n hx hb dX9_change_32 rfl (lv_at hl 4 rfl) ?_
          refine lv_iload hx hb dX9_change_33 (lv_at hl 0 rfl) ?_
          refine lv_icmp_lt (tgt := 45) hx hb dX9_change_35 (by decide) (fun cd => ?_) (fun cd => ?_)
          · have h := h.1 cd
            refine lv_iconst (v := 0) hx hb dX9_change_45 (by decide) ?_
            exact hret _ _ _ _ _ u0 dX9_change_46 (by decide) h hP hD hS
          · have h := h.2 cd
            refine lv_iload_n hx hb dX9_change_38 rfl (lv_at hl 4 rfl) ?_
            refine lv_sipush (v := 255) hx hb dX9_change_39 (by decide) ?_
            refine lv_icmp_le (tgt := 47) hx hb dX9_change_42 (by decide) (fun cd => ?_) (fun cd => ?_)
            · have h := h.1 cd
              refine lv_aload_n hx hb dX9_change_47 rfl (lv_at hl 1 rfl) ?_
              refine cx_vi (As := []) (rest := []) ⟨hx, hb, hml, hown, hts⟩ hl.1 ok_sxE hE hK hP hD hS hA (cut_43 cI q0 u0) (c_X9_isFull (l := l) (dC := dC) (dI := dI) (cI := cI) (q0 := q0) h) (cwV 0 hts gX9_change_X9_isFull rfl rfl rfl hdX9_isFull ⟨Nat.le_of_ble_eq_true rfl, Nat.le_of_ble_eq_true rfl⟩) rfl rfl rfl rfl (Nat.le_of_ble_eq_true rfl) dX9_change_48 rfl (fun r_11 _ H locs h hP hD hS => ?_)
              refine lv_if_ne (tgt := 68) hx hb dX9_change_51 (by decide) (fun cd => ?_) (fun cd => ?_)
              · have h := h.2 cd
                refine lv_iconst (v := 0) hx hb dX9_change_68 (by decide) ?_
                exact hret _ _ _ _ _ u0 dX9_change_69 (by decide) h hP hD hS
              · have h := h.1 cd
                refine lv_aload_n hx hb dX9_change_54 rfl (lv_at hl 1 rfl) ?_
                refine va_get (D := (dC, dI)) (ci := 9) (v := .ref (q0 3)) (C := RX9) (T := TX9) (N := 11) hx hb hts inX9_change_9 hown hK hP 0 rfl rfl 1 (by decide) (hts _ kX9_change_3) (fun _ h9 => h9) rfl dX9_change_55 ?_
                refine lv_iload_n hx hb dX9_change_58 rfl (lv_at hl 3 rfl) ?_
                refine lv_bipush (v := 16) hx hb dX9_change_59 (by decide) ?_
                refine lv_idiv hx hb dX9_change_61 (by decide) ?_
                refine cx_vi (As := [.int (x2 / 16)]) (rest := []) ⟨hx, hb, hml, hown, hts⟩ hl.1 ok_sxE hE hK hP hD hS hA (cut_44 cI q0 u0) (c_X3_isLost (l := l) (dC := dC) (dI := dI) (cI := cI) (q0 := fun i => q0 (i + 3)) h) (cwV 1 hts gX9_change_X3_isLost rfl rfl rfl hdX3_isLost ⟨Nat.le_of_ble_eq_true rfl, Nat.le_of_ble_eq_true rfl⟩) rfl rfl rfl rfl (Nat.le_of_ble_eq_true rfl) dX9_change_62 rfl (fun r_12 _ H locs h hP hD hS => ?_)
                refine lv_if_eq (tgt := 70) hx hb dX9_change_65 (by decide) (fun cd => ?_) (fun cd => ?_)
                · have h := h.1 cd
                  refine lv_aload_n hx hb dX9_change_70 rfl (lv_at hl 1 rfl) ?_
                  refine va_get (D := (dC, dI)) (ci := 9) (v := .ref (q0 17)) (C := RX9) (T := TX9) (N := 11) hx hb hts inX9_change_9 hown hK hP 0 rfl rfl 3 (by decide) (hts _ kX9_change_1) (fun _ h9 => h9) rfl dX9_change_71 ?_
                  refine lv_iload_n hx hb dX9_change_74 rfl (lv_at hl 2 rfl) ?_
                  refine lv_iload_n hx hb dX9_change_75 rfl (lv_at hl 3 rfl) ?_
                  refine lv_iload hx hb dX9_change_76 (lv_at hl 5 rfl) ?_
                  refine cx_vi (As := [.int x1, .int x2, .int x4]) (rest := []) ⟨hx, hb, hml, hown, hts⟩ hl.1 ok_sxE hE hK hP hD hS hA (cut_45 cI q0 u0) (c_X0_othersInTheWay (l := l) (dC := dC) (dI := dI) (cI := cI) (q0 := fun i => q0 (i + 17)) h) (cwV 3 hts gX9_change_X0_othersInTheWay rfl rfl rfl hdX0_othersInTheWay ⟨Nat.le_of_ble_eq_true rfl, Nat.le_of_ble_eq_true rfl⟩) rfl rfl rfl rfl (Nat.le_of_ble_eq_true rfl) dX9_change_78 rfl (fun r_13 _ H locs h hP hD hS => ?_)
                  refine lv_istore (lv' := [(6, .int r_13), (5, .int y0), (0, .ref (q0 0)), (1, .int x1), (2, .int x2), (3, .int x3), (4, .int x4)]) hx hb dX9_change_81 hl (by decide) rfl (fun ls hl => ?_)
                  refine lv_iload hx hb dX9_change_83 (lv_at hl 0 rfl) ?_
                  refine lv_if_eq (tgt := 101) hx hb dX9_change_85 (by decide) (fun cd => ?_) (fun cd => ?_)
                  · have h := h.1 cd
                    refine lv_aload_n hx hb dX9_change_101 rfl (lv_at hl 2 rfl) ?_
                    refine va_get (D := (dC, dI)) (ci := 9) (v := .ref (q0 3)) (C := RX9) (T := TX9) (N := 11) hx hb hts inX9_change_9 hown hK hP 0 rfl rfl 1 (by decide) (hts _ kX9_change_3) (fun _ h9 => h9) rfl dX9_change_102 ?_
                    refine lv_iload_n hx hb dX9_change_105 rfl (lv_at hl 4 rfl) ?_
                    refine lv_bipush (v := 16) hx hb dX9_change_106 (by decide) ?_
                    refine lv_idiv hx hb dX9_change_108 (by decide) ?_
                    refine lv_aload_n hx hb dX9_change_109 rfl (lv_at hl 2 rfl) ?_
                    refine va_get (D := (dC, dI)) (ci := 9) (v := .ref (q0 1)) (C := RX9) (T := TX9) (N := 11) hx hb hts inX9_change_9 hown hK hP 0 rfl rfl 0 (by decide) (hts _ kX9_change_2) (fun _ h9 => h9) rfl dX9_change_110 ?_
                    refine cx_vi (As := [.int (x2 / 16), .ref (q0 1)]) (rest := []) ⟨hx, hb, hml, hown, hts⟩ hl.1 ok_sxE hE hK hP hD hS hA (cut_40 cI q0 u0) (c_X3_fetch (l := l) (dC := dC) (dI := dI) (cI := cI) (q0 := fun i => q0 (i + 3)) (q1 := fun i => q0 (i + 1)) h) (cwV 2 hts gX9_change_X3_fetch rfl rfl rfl hdX3_fetch ⟨Nat.le_of_ble_eq_true rfl, Nat.le_of_ble_eq_true rfl⟩) rfl rfl rfl rfl (Nat.le_of_ble_eq_true rfl) dX9_change_113 rfl (fun r_14 vv H locs h hP hD hS => ?_)
                    obtain ⟨v_15, v_16⟩ := vv
                    obtain ⟨u0_17, e_u0_17⟩ : ∃ z, z = s9_journal (s9_pages u0 v_15) v_16 := ⟨_, rfl⟩
                    have h := h u0_17 e_u0_17
                    have hP : va_P (dC, dI) vwCl (cs9 cI q0 u0_17) H := by rw [e_u0_17]; exact hP
                    have hD : va_D A (cs9 cI q0 u0_17) := by rw [e_u0_17]; exact hD
                    refine lv_istore (lv' := [(7, .int r_14), (6, .int r_13), (5, .int y0), (0, .ref (q0 0)), (1, .int x1), (2, .int x2), (3, .int x3), (4, .int x4)]) hx hb dX9_change_116 hl (by decide) rfl (fun ls hl => ?_)
                    refine lv_aload_n hx hb dX9_change_118 rfl (lv_at hl 3 rfl) ?_
                    refine va_get (D := (dC, dI)) (ci := 9) (v := .ref (q0 1)) (C := RX9) (T := TX9) (N := 11) hx hb hts inX9_change_9 hown hK hP 0 rfl rfl 0 (by decide) (hts _ kX9_change_2) (fun _ h9 => h9) rfl dX9_change_119 ?_
                    refine lv_iload hx hb dX9_change_122 (lv_at hl 7 rfl) ?_
                    refine lv_iload_n hx hb dX9_change_124 rfl (lv_at hl 4 rfl) ?_
                    refine lv_aload_n hx hb dX9_change_125 rfl (lv_at hl 3 rfl) ?_
                    refine va_get (D := (dC, dI)) (ci := 9) (v := .ref (q0 13)) (C := RX9) (T := TX9) (N := 11) hx hb hts inX9_change_9 hown hK hP 0 rfl rfl 2 (by decide) (hts _ kX9_change_5) (fun _ h9 => h9) rfl dX9_change_126 ?_
                    refine va_get (D := (dC, dI)) (ci := 5) (v := .ref (q0 15)) (C := RX5) (T := TX5) (N := 3) hx hb hts inX9_change_5 hown hK hP 13 rfl rfl 1 (by decide) (hts _ kX9_change_4) (fun _ h9 => h9) rfl dX9_change_129 ?_
                    refine lv_iload_n hx hb dX9_change_132 rfl (lv_at hl 4 rfl) ?_
                    refine va_iald hx hb hK hP 15 0 rfl rfl h.1 dX9_change_133 ?_
                    have h := h.2
                    refine cx_vv (As := [.int x4, .int x1, .int ((g5_last (g9_roster u0_17)) x1.toNatClampNeg)]) (rest := []) ⟨hx, hb, hml, hown, hts⟩ hl.1 ok_sxE hE hK hP hD hS hA (cut_34 cI q0 u0_17) (c_X2_start (l := l) (dC := dC) (dI := dI) (cI := cI) (q0 := fun i => q0 (i + 1)) h) (cwV 3 hts gX9_change_X2_start rfl rfl rfl hdX2_start ⟨Nat.le_of_ble_eq_true rfl, Nat.le_of_ble_eq_true rfl⟩) rfl rfl rfl rfl (Nat.le_of_ble_eq_true rfl) dX9_change_134 rfl (fun v_18 H locs h hP hD hS => ?_)
                    obtain ⟨u0_19, e_u0_19⟩ : ∃ z, z = s9_journal u0_17 v_18 := ⟨_, rfl⟩
                    have h := h u0_19 e_u0_19
                    have hP : va_P (dC, dI) vwCl (cs9 cI q0 u0_19) H := by rw [e_u0_19]; exact hP
                    have hD : va_D A (cs9 cI q0 u0_19) := by rw [e_u0_19]; exact hD
                    refine lv_aload_n hx hb dX9_change_137 rfl (lv_at hl 3 rfl) ?_
                    refine va_get (D := (dC, dI)) (ci := 9) (v := .ref (q0 1)) (C := RX9) (T := TX9) (N := 11) hx hb hts inX9_change_9 hown hK hP 0 rfl rfl 0 (by decide) (hts _ kX9_change_2) (fun _ h9 => h9) rfl dX9_change_138 ?_
                    refine lv_iload_n hx hb dX9_change_141 rfl (lv_at hl 5 rfl) ?_
                    refine cx_vv (As := [.int x2]) (rest := []) ⟨hx, hb, hml, hown, hts⟩ hl.1 ok_sxE hE hK hP hD hS hA (cut_34 cI q0 u0_19) (c_X2_put (l := l) (dC := dC) (dI := dI) (cI := cI) (q0 := fun i => q0 (i + 1)) h) (cwV 1 hts gX9_change_X2_put rfl rfl rfl hdX2_put ⟨Nat.le_of_ble_eq_true rfl, Nat.le_of_ble_eq_true rfl⟩) rfl rfl rfl rfl (Nat.le_of_ble_eq_true rfl) dX9_change_142 rfl (fun v_20 H locs h hP hD hS => ?_)
                    obtain ⟨u0_21, e_u0_21⟩ : ∃ z, z = s9_journal u0_19 v_20 := ⟨_, rfl⟩
                    have h := h u0_21 e_u0_21
                    have hP : va_P (dC, dI) vwCl (cs9 cI q0 u0_21) H := by rw [e_u0_21]; exact hP
                    have hD : va_D A (cs9 cI q0 u0_21) := by rw [e_u0_21]; exact hD
                    refine lv_iload hx hb dX9_change_145 (lv_at hl 7 rfl) ?_
                    refine lv_iconst (v := 2) hx hb dX9_change_147 (by decide) ?_
                    refine lv_icmp_ne (tgt := 166) hx hb dX9_change_148 (by decide) (fun cd => ?_) (fun cd => ?_)
                    · have h := h.2 cd
                      exact w_166 x1 x2 x3 x4 r_14 u0_21 _ _ _ hP hD hS (lv_sub hl [3, 4, 5, 6, 7, 0] rfl) h
                    · have h := h.1 cd
                      refine lv_aload_n hx hb dX9_change_151 rfl (lv_at hl 3 rfl) ?_
                      refine va_get (D := (dC, dI)) (ci := 9) (v := .ref (q0 1)) (C := RX9) (T := TX9) (N := 11) hx hb hts inX9_change_9 hown hK hP 0 rfl rfl 0 (by decide) (hts _ kX9_change_2) (fun _ h9 => h9) rfl dX9_change_152 ?_
                      refine lv_aload_n hx hb dX9_change_155 rfl (lv_at hl 3 rfl) ?_
                      refine va_get (D := (dC, dI)) (ci := 9) (v := .ref (q0 3)) (C := RX9) (T := TX9) (N := 11) hx hb hts inX9_change_9 hown hK hP 0 rfl rfl 1 (by decide) (hts _ kX9_change_3) (fun _ h9 => h9) rfl dX9_change_156 ?_
                      refine lv_iload_n hx hb dX9_change_159 rfl (lv_at hl 5 rfl) ?_
                      refine cx_vi (As := [.int x2]) (rest := [.ref (q0 1)]) ⟨hx, hb, hml, hown, hts⟩ hl.1 ok_sxE hE hK hP hD hS hA (cut_44 cI q0 u0_21) (c_X3_byteNow (l := l) (dC := dC) (dI := dI) (cI := cI) (q0 := fun i => q0 (i + 3)) h) (cwV 1 hts gX9_change_X3_byteNow rfl rfl rfl hdX3_byteNow ⟨Nat.le_of_ble_eq_true rfl, Nat.le_of_ble_eq_true rfl⟩) rfl rfl rfl rfl (Nat.le_of_ble_eq_true rfl) dX9_change_160 rfl (fun r_22 _ H locs h hP hD hS => ?_)
                      refine cx_vv (As := [.int r_22]) (rest := []) ⟨hx, hb, hml, hown, hts⟩ hl.1 ok_sxE hE hK hP hD hS hA (cut_34 cI q0 u0_21) (c_X2_put (l := l) (dC := dC) (dI := dI) (cI := cI) (q0 := fun i => q0 (i + 1)) h) (cwV 1 hts gX9_change_X2_put rfl rfl rfl hdX2_put ⟨Nat.le_of_ble_eq_true rfl, Nat.le_of_ble_eq_true rfl⟩) rfl rfl rfl rfl (Nat.le_of_ble_eq_true rfl) dX9_change_163 rfl (fun v_23 H locs h hP hD hS => ?_)
                      obtain ⟨u0_24, e_u0_24⟩ : ∃ z, z = s9_journal u0_21 v_23 := ⟨_, rfl⟩
                      have h := h u0_24 e_u0_24
                      have hP : va_P (dC, dI) vwCl (cs9 cI q0 u0_24) H := by rw [e_u0_24]; exact hP
                      have hD : va_D A (cs9 cI q0 u0_24) := by rw [e_u0_24]; exact hD
                      exact w_166 x1 x2 x3 x4 r_14 u0_24 _ _ _ hP hD hS (lv_sub hl [3, 4, 5, 6, 7, 0] rfl) h
                  · have h := h.2 cd
                    refine lv_aload_n hx hb dX9_change_88 rfl (lv_at hl 2 rfl) ?_
                    refine va_get (D := (dC, dI)) (ci := 9) (v := .ref (q0 17)) (C := RX9) (T := TX9) (N := 11) hx hb hts inX9_change_9 hown hK hP 0 rfl rfl 3 (by decide) (hts _ kX9_change_1) (fun _ h9 => h9) rfl dX9_change_89 ?_
                    refine va_get (D := (dC, dI)) (ci := 0) (v := .ref (q0 20)) (C := RX0) (T := TX0) (N := 7) hx hb hts inX9_change_0 hown hK hP 17 rfl rfl 2 (by decide) (hts _ kX9_change_0) (fun _ h9 => h9) rfl dX9_change_92 ?_
                    refine lv_iload_n hx hb dX9_change_95 rfl (lv_at hl 3 rfl) ?_
                    refine lv_iload hx hb dX9_change_96 (lv_at hl 0 rfl) ?_
                    refine va_iast hx hb hK hP hD hS 20 0 rfl rfl h.1 dX9_change_98 (fun H locs hP hD hS => ?_)
                    have h := h.2
                    obtain ⟨u0_25, e_u0_25⟩ : ∃ z, z = s9_claims u0 (s0_waits (g9_claims u0) (upd (g0_waits (g9_claims u0)) x1.toNatClampNeg r_13)) := ⟨_, rfl⟩
                    have h := h u0_25 e_u0_25
                    have hP : va_P (dC, dI) vwCl (cs9 cI q0 u0_25) H := by rw [e_u0_25]; exact hP
                    have hD : va_D A (cs9 cI q0 u0_25) := by rw [e_u0_25]; exact hD
                    refine lv_iconst (v := 0) hx hb dX9_change_99 (by decide) ?_
                    exact hret _ _ _ _ _ u0_25 dX9_change_100 (by decide) h hP hD hS
                · have h := h.2 cd
                  refine lv_iconst (v := 0) hx hb dX9_change_68 (by decide) ?_
                  exact hret _ _ _ _ _ u0 dX9_change_69 (by decide) h hP hD hS
            · have h := h.2 cd
              refine lv_iconst (v := 0) hx hb dX9_change_45 (by decide) ?_
              exact hret _ _ _ _ _ u0 dX9_change_46 (by decide) h hP hD hS
  have hS : va_S A s.heap s.heap [] := va_S.rf
  refine lv_iload hx hb dX9_change_0 (lv_at hl 4 rfl) ?_
  refine lv_iconst (v := 3) hx hb dX9_change_2 (by decide) ?_
  refine lv_icmp_ne (tgt := 10) hx hb dX9_change_3 (by decide) (fun cd => ?_) (fun cd => ?_)
  · have h := h.2 cd
    refine lv_iconst (v := 0) hx hb dX9_change_10 (by decide) ?_
    exact w_11 x1 x2 x3 x4 0 u0 _ _ _ hP hD hS (lv_sub hl [0, 1, 2, 3, 4] rfl) h
  · have h := h.1 cd
    refine lv_iconst (v := 1) hx hb dX9_change_6 (by decide) ?_
    refine lv_goto (tgt := 11) hx hb dX9_change_7 (by decide) ?_
    exact w_11 x1 x2 x3 x4 1 u0 _ _ _ hP hD hS (lv_sub hl [0, 1, 2, 3, 4] rfl) h

abbrev rX9_putSave : Room := { frames := 2, cells := 0, slots := 0, locals := 41 }
theorem hdX9_putSave : yX9_putSave.cls = RX9 ∧ yX9_putSave.cls ≠ "java/lang/invoke/MethodHandle" ∧ yX9_putSave.cls ≠ "java/lang/invoke/VarHandle" ∧ (parseMethodDescriptor yX9_putSave.desc).map (fun d => d.parameters.length) = some 1 := by decide +kernel
theorem inX9_putSave_0 : ∀ w ∈ wsX00, w ∈ wsX9_putSave := by decide +kernel
theorem inX9_putSave_5 : ∀ w ∈ wsX50, w ∈ wsX9_putSave := by decide +kernel
theorem inX9_putSave_9 : ∀ w ∈ wsX90, w ∈ wsX9_putSave := by decide +kernel
theorem kX9_putSave_0 : Cond.fieldLink RX9 169 "AheadStore$Claims" "saveCount" "[I" ∈ wsX9_putSave := by decide +kernel
theorem kX9_putSave_1 : Cond.fieldLink RX9 35 "AheadStore$World" "claims" "LAheadStore$Claims;" ∈ wsX9_putSave := by decide +kernel
theorem kX9_putSave_2 : Cond.fieldLink RX9 85 "AheadStore$Roster" "last" "[I" ∈ wsX9_putSave := by decide +kernel
theorem kX9_putSave_3 : Cond.fieldLink RX9 28 "AheadStore$World" "roster" "LAheadStore$Roster;" ∈ wsX9_putSave := by decide +kernel
set_option maxHeartbeats 4000000 in
set_option maxRecDepth 100000 in
theorem c_X9_putSave {l : Launch} {dC : Nat → ClassId} {dI : Nat → Nat → Nat} {cI : ClassId} {q0 : Nat → Nat} {sz : Nat} {u0 : S9} {x1 : Int32} {Q : Int32 → S9 → Prop} (h : wp_X9_putSave u0 x1 Q) : ctI sxE l yX9_putSave wsX9_putSave rX9_putSave (dC, dI) vwCl [(cI, .int)] [.ref (q0 0), .int x1] (cs9 cI q0 u0) sz (fun (r : Int32) (v : S9) => Q r v) (fun (v : S9) => cs9 cI q0 v) := by
  refine mx_i (cc := cX9_putSave) (maxL := 2) (ty := .int) (by decide) rfl (Nat.le_of_ble_eq_true rfl) ?_
  intro p e s m below meth c Z A ls args hx hb hml hown hts hA hP hK hD hE hl hret
  have hown : s.vm.findClass RX9 = some m.cls := hown
  have hl : lv_has ls 2 [(0, .ref (q0 0)), (1, .int x1)] := hl
  have hS : va_S A s.heap s.heap [] := va_S.rf
  refine lv_aload_n hx hb dX9_putSave_0 rfl (lv_at hl 0 rfl) ?_
  refine lv_iload_n hx hb dX9_putSave_1 rfl (lv_at hl 1 rfl) ?_
  refine cx_vi (As := [.int x1]) (rest := []) ⟨hx, hb, hml, hown, hts⟩ hl.1 ok_sxE hE hK hP hD hS hA (cut_43 cI q0 u0) (c_X9_isRunning (l := l) (dC := dC) (dI := dI) (cI := cI) (q0 := q0) h) (cwV 1 hts gX9_putSave_X9_isRunning rfl rfl rfl hdX9_isRunning ⟨Nat.le_of_ble_eq_true rfl, Nat.le_of_ble_eq_true rfl⟩) rfl rfl rfl rfl (Nat.le_of_ble_eq_true rfl) dX9_putSave_2 rfl (fun r_1 _ H locs h hP hD hS => ?_)
  refine lv_if_eq (tgt := 42) hx hb dX9_putSave_5 (by decide) (fun cd => ?_) (fun cd => ?_)
  · have h := h.1 cd
    refine lv_iconst (v := (-1)) hx hb dX9_putSave_42 (by decide) ?_
    exact hret _ _ _ _ _ u0 dX9_putSave_43 (vp_nar_int _) h hP hD hS
  · have h := h.2 cd
    refine lv_aload_n hx hb dX9_putSave_8 rfl (lv_at hl 0 rfl) ?_
    refine va_get (D := (dC, dI)) (ci := 9) (v := .ref (q0 17)) (C := RX9) (T := TX9) (N := 11) hx hb hts inX9_putSave_9 hown hK hP 0 rfl rfl 3 (by decide) (hts _ kX9_putSave_1) (fun _ h9 => h9) rfl dX9_putSave_9 ?_
    refine lv_iload_n hx hb dX9_putSave_12 rfl (lv_at hl 1 rfl) ?_
    refine lv_aload_n hx hb dX9_putSave_13 rfl (lv_at hl 0 rfl) ?_
    refine va_get (D := (dC, dI)) (ci := 9) (v := .ref (q0 13)) (C := RX9) (T := TX9) (N := 11) hx hb hts inX9_putSave_9 hown hK hP 0 rfl rfl 2 (by decide) (hts _ kX9_putSave_3) (fun _ h9 => h9) rfl dX9_putSave_14 ?_
    refine va_get (D := (dC, dI)) (ci := 5) (v := .ref (q0 15)) (C := RX5) (T := TX5) (N := 3) hx hb hts inX9_putSave_5 hown hK hP 13 rfl rfl 1 (by decide) (hts _ kX9_putSave_2) (fun _ h9 => h9) rfl dX9_putSave_17 ?_
    refine lv_iload_n hx hb dX9_putSave_20 rfl (lv_at hl 1 rfl) ?_
    refine va_iald hx hb hK hP 15 0 rfl rfl h.1 dX9_putSave_21 ?_
    have h := h.2
    refine cx_vi (As := [.int x1, .int ((g5_last (g9_roster u0)) x1.toNatClampNeg)]) (rest := []) ⟨hx, hb, hml, hown, hts⟩ hl.1 ok_sxE hE hK hP hD hS hA (cut_36 cI q0 u0) (c_X0_putSave (l := l) (dC := dC) (dI := dI) (cI := cI) (q0 := fun i => q0 (i + 17)) h) (cwV 2 hts gX9_putSave_X0_putSave rfl rfl rfl hdX0_putSave ⟨Nat.le_of_ble_eq_true rfl, Nat.le_of_ble_eq_true rfl⟩) rfl rfl rfl rfl (Nat.le_of_ble_eq_true rfl) dX9_putSave_22 rfl (fun r_2 v_3 H locs h hP hD hS => ?_)
    obtain ⟨u0_4, e_u0_4⟩ : ∃ z, z = s9_claims u0 v_3 := ⟨_, rfl⟩
    have h := h u0_4 e_u0_4
    have hP : va_P (dC, dI) vwCl (cs9 cI q0 u0_4) H := by rw [e_u0_4]; exact hP
    have hD : va_D A (cs9 cI q0 u0_4) := by rw [e_u0_4]; exact hD
    refine lv_if_eq (tgt := 42) hx hb dX9_putSave_25 (by decide) (fun cd => ?_) (fun cd => ?_)
    · have h := h.1 cd
      refine lv_iconst (v := (-1)) hx hb dX9_putSave_42 (by decide) ?_
      exact hret _ _ _ _ _ u0_4 dX9_putSave_43 (vp_nar_int _) h hP hD hS
    · have h := h.2 cd
      refine lv_aload_n hx hb dX9_putSave_28 rfl (lv_at hl 0 rfl) ?_
      refine va_get (D := (dC, dI)) (ci := 9) (v := .ref (q0 17)) (C := RX9) (T := TX9) (N := 11) hx hb hts inX9_putSave_9 hown hK hP 0 rfl rfl 3 (by decide) (hts _ kX9_putSave_1) (fun _ h9 => h9) rfl dX9_putSave_29 ?_
      refine va_get (D := (dC, dI)) (ci := 0) (v := .ref (q0 21)) (C := RX0) (T := TX0) (N := 7) hx hb hts inX9_putSave_0 hown hK hP 17 rfl rfl 3 (by decide) (hts _ kX9_putSave_0) (fun _ h9 => h9) rfl dX9_putSave_32 ?_
      refine lv_iload_n hx hb dX9_putSave_35 rfl (lv_at hl 1 rfl) ?_
      refine va_iald hx hb hK hP 21 0 rfl rfl h.1 dX9_putSave_36 ?_
      have h := h.2
      refine lv_iconst (v := 1) hx hb dX9_putSave_37 (by decide) ?_
      refine lv_isub hx hb dX9_putSave_38 ?_
      refine lv_goto (tgt := 43) hx hb dX9_putSave_39 (by decide) ?_
      exact hret _ _ _ _ _ u0_4 dX9_putSave_43 (vp_nar_int _) h hP hD hS

abbrev rX9_goBack : Room := { frames := 5, cells := 0, slots := 0, locals := 114 }
theorem hdX9_goBack : yX9_goBack.cls = RX9 ∧ yX9_goBack.cls ≠ "java/lang/invoke/MethodHandle" ∧ yX9_goBack.cls ≠ "java/lang/invoke/VarHandle" ∧ (parseMethodDescriptor yX9_goBack.desc).map (fun d => d.parameters.length) = some 2 := by decide +kernel
theorem inX9_goBack_0 : ∀ w ∈ wsX00, w ∈ wsX9_goBack := by decide +kernel
theorem inX9_goBack_5 : ∀ w ∈ wsX50, w ∈ wsX9_goBack := by decide +kernel
theorem inX9_goBack_9 : ∀ w ∈ wsX90, w ∈ wsX9_goBack := by decide +kernel
theorem kX9_goBack_0 : Cond.fieldLink RX9 129 "AheadStore$Claims" "waits" "[I" ∈ wsX9_goBack := by decide +kernel
theorem kX9_goBack_1 : Cond.fieldLink RX9 35 "AheadStore$World" "claims" "LAheadStore$Claims;" ∈ wsX9_goBack := by decide +kernel
theorem kX9_goBack_2 : Cond.fieldLink RX9 12 "AheadStore$World" "journal" "LAheadStore$Journal;" ∈ wsX9_goBack := by decide +kernel
theorem kX9_goBack_3 : Cond.constant RX9 175 (1000000) ∈ wsX9_goBack := by decide +kernel
theorem kX9_goBack_4 : Cond.fieldLink RX9 85 "AheadStore$Roster" "last" "[I" ∈ wsX9_goBack := by decide +kernel
theorem kX9_goBack_5 : Cond.fieldLink RX9 28 "AheadStore$World" "roster" "LAheadStore$Roster;" ∈ wsX9_goBack := by decide +kernel
theorem kX9_goBack_6 : Cond.fieldLink RX9 169 "AheadStore$Claims" "saveCount" "[I" ∈ wsX9_goBack := by decide +kernel
set_option maxHeartbeats 4000000 in
set_option maxRecDepth 100000 in
theorem c_X9_goBack {l : Launch} {dC : Nat → ClassId} {dI : Nat → Nat → Nat} {cI : ClassId} {q0 : Nat → Nat} {sz : Nat} {u0 : S9} {x1 : Int32} {x2 : Int32} {Q : Int32 → S9 → Prop} (h : wp_X9_goBack u0 x1 x2 Q) : ctI sxE l yX9_goBack wsX9_goBack rX9_goBack (dC, dI) vwCl [(cI, .int)] [.ref (q0 0), .int x1, .int x2] (cs9 cI q0 u0) sz (fun (r : Int32) (v : S9) => Q r v) (fun (v : S9) => cs9 cI q0 v) := by
  refine mx_i (cc := cX9_goBack) (maxL := 7) (ty := .int) (by decide) rfl (Nat.le_of_ble_eq_true rfl) ?_
  intro p e s m below meth c Z A ls args hx hb hml hown hts hA hP hK hD hE hl hret
  have hown : s.vm.findClass RX9 = some m.cls := hown
  have hl : lv_has ls 7 [(0, .ref (q0 0)), (1, .int x1), (2, .int x2)] := hl
  have w_106 : ∀ (x1 : Int32) (x2 : Int32) (x4 : Int32) (u0 : S9) (H : Heap) (locs : List Loc) (ls : Array Slot) (_ : va_P (dC, dI) vwCl (cs9 cI q0 u0) H) (_ : va_D A (cs9 cI q0 u0)) (_ : va_S A s.heap H locs) (_ : lv_has ls 7 [(0, .ref (q0 0)), (1, .int x1), (2, .int x2), (4, .int x4)]) (_ : wp_X9_goBack_106 Q x1 x2 x4 u0), W p l e rX9_goBack s m args below meth c H locs 0 0 Z (F0 m 106 ls []) := by
    intro x1 x2 x4 u0 H locs ls hP hD hS hl h
    refine lv_aload_n hx hb dX9_goBack_106 rfl (lv_at hl 0 rfl) ?_
    refine va_get (D := (dC, dI)) (ci := 9) (v := .ref (q0 17)) (C := RX9) (T := TX9) (N := 11) hx hb hts inX9_goBack_9 hown hK hP 0 rfl rfl 3 (by decide) (hts _ kX9_goBack_1) (fun _ h9 => h9) rfl dX9_goBack_107 ?_
    refine lv_iload_n hx hb dX9_goBack_110 rfl (lv_at hl 1 rfl) ?_
    refine lv_iload_n hx hb dX9_goBack_111 rfl (lv_at hl 2 rfl) ?_
    refine cx_vv (As := [.int x1, .int x2]) (rest := []) ⟨hx, hb, hml, hown, hts⟩ hl.1 ok_sxE hE hK hP hD hS hA (cut_36 cI q0 u0) (c_X0_cutBack (l := l) (dC := dC) (dI := dI) (cI := cI) (q0 := fun i => q0 (i + 17)) h) (cwV 2 hts gX9_goBack_X0_cutBack rfl rfl rfl hdX0_cutBack ⟨Nat.le_of_ble_eq_true rfl, Nat.le_of_ble_eq_true rfl⟩) rfl rfl rfl rfl (Nat.le_of_ble_eq_true rfl) dX9_goBack_112 rfl (fun v_1 H locs h hP hD hS => ?_)
    obtain ⟨u0_2, e_u0_2⟩ : ∃ z, z = s9_claims u0 v_1 := ⟨_, rfl⟩
    have h := h u0_2 e_u0_2
    have hP : va_P (dC, dI) vwCl (cs9 cI q0 u0_2) H := by rw [e_u0_2]; exact hP
    have hD : va_D A (cs9 cI q0 u0_2) := by rw [e_u0_2]; exact hD
    refine lv_aload_n hx hb dX9_goBack_115 rfl (lv_at hl 0 rfl) ?_
    refine va_get (D := (dC, dI)) (ci := 9) (v := .ref (q0 17)) (C := RX9) (T := TX9) (N := 11) hx hb hts inX9_goBack_9 hown hK hP 0 rfl rfl 3 (by decide) (hts _ kX9_goBack_1) (fun _ h9 => h9) rfl dX9_goBack_116 ?_
    refine va_get (D := (dC, dI)) (ci := 0) (v := .ref (q0 20)) (C := RX0) (T := TX0) (N := 7) hx hb hts inX9_goBack_0 hown hK hP 17 rfl rfl 2 (by decide) (hts _ kX9_goBack_0) (fun _ h9 => h9) rfl dX9_goBack_119 ?_
    refine lv_iload_n hx hb dX9_goBack_122 rfl (lv_at hl 1 rfl) ?_
    refine lv_iconst (v := 0) hx hb dX9_goBack_123 (by decide) ?_
    refine va_iast hx hb hK hP hD hS 20 0 rfl rfl h.1 dX9_goBack_124 (fun H locs hP hD hS => ?_)
    have h := h.2
    obtain ⟨u0_3, e_u0_3⟩ : ∃ z, z = s9_claims u0_2 (s0_waits (g9_claims u0_2) (upd (g0_waits (g9_claims u0_2)) x1.toNatClampNeg 0)) := ⟨_, rfl⟩
    have h := h u0_3 e_u0_3
    have hP : va_P (dC, dI) vwCl (cs9 cI q0 u0_3) H := by rw [e_u0_3]; exact hP
    have hD : va_D A (cs9 cI q0 u0_3) := by rw [e_u0_3]; exact hD
    refine lv_iload hx hb dX9_goBack_125 (lv_at hl 3 rfl) ?_
    exact hret _ _ _ _ _ u0_3 dX9_goBack_127 (vp_nar_int _) h hP hD hS
  have w_89 : ∀ (k_54 : Int32 → Int32 → Int32 → Int32 → Int32 → Int32 → S9 → Prop) (hk_54 : ∀ (x1 : Int32) (x2 : Int32) (x3 : Int32) (x4 : Int32) (x5 : Int32) (x6 : Int32) (u0 : S9) (H : Heap) (locs : List Loc) (ls : Array Slot) (_ : va_P (dC, dI) vwCl (cs9 cI q0 u0) H) (_ : va_D A (cs9 cI q0 u0)) (_ : va_S A s.heap H locs) (_ : lv_has ls 7 [(0, .ref (q0 0)), (1, .int x1), (2, .int x2), (3, .int x3), (4, .int x4), (5, .int x5), (6, .int x6)]) (_ : k_54 x1 x2 x3 x4 x5 x6 u0), W p l e rX9_goBack s m args below meth c H locs 0 0 Z (F0 m 54 ls [])) (x1 : Int32) (x2 : Int32) (x3 : Int32) (x4 : Int32) (x5 : Int32) (x6 : Int32) (u0 : S9) (H : Heap) (locs : List Loc) (ls : Array Slot) (_ : va_P (dC, dI) vwCl (cs9 cI q0 u0) H) (_ : va_D A (cs9 cI q0 u0)) (_ : va_S A s.heap H locs) (_ : lv_has ls 7 [(0, .ref (q0 0)), (1, .int x1), (2, .int x2), (3, .int x3), (4, .int x4), (5, .int x5), (6, .int x6)]) (_ : wp_X9_goBack_89 k_54 Q x1 x2 x3 x4 x5 x6 u0), W p l e rX9_goBack s m args below meth c H locs 0 0 Z (F0 m 89 ls []) := by
    intro k_54 hk_54 x1 x2 x3 x4 x5 x6 u0 H locs ls hP hD hS hl h
    refine lv_aload_n hx hb dX9_goBack_89 rfl (lv_at hl 0 rfl) ?_
    refine va_get (D := (dC, dI)) (ci := 9) (v := .ref (q0 1)) (C := RX9) (T := TX9) (N := 11) hx hb hts inX9_goBack_9 hown hK hP 0 rfl rfl 0 (by decide) (hts _ kX9_goBack_2) (fun _ h9 => h9) rfl dX9_goBack_90 ?_
    refine lv_iload hx hb dX9_goBack_93 (lv_at hl 5 rfl) ?_
    refine cx_vi (As := [.int x5]) (rest := []) ⟨hx, hb, hml, hown, hts⟩ hl.1 ok_sxE hE hK hP hD hS hA (cut_39 cI q0 u0) (c_X2_onward (l := l) (dC := dC) (dI := dI) (cI := cI) (q0 := fun i => q0 (i + 1)) h) (cwV 1 hts gX9_goBack_X2_onward rfl rfl rfl hdX2_onward ⟨Nat.le_of_ble_eq_true rfl, Nat.le_of_ble_eq_true rfl⟩) rfl rfl rfl rfl (Nat.le_of_ble_eq_true rfl) dX9_goBack_95 rfl (fun r_4 _ H locs h hP hD hS => ?_)
    refine lv_istore (lv' := [(5, .int r_4), (0, .ref (q0 0)), (1, .int x1), (2, .int x2), (3, .int x3), (4, .int x4), (6, .int x6)]) hx hb dX9_goBack_98 hl (by decide) rfl (fun ls hl => ?_)
    obtain ⟨x6_5, e_x6_5⟩ : ∃ z : Int32, z = x6 + 1 := ⟨_, rfl⟩
    have h := h x6_5 e_x6_5
    refine lv_iinc (v := x6_5) (lv' := [(6, .int x6_5), (5, .int r_4), (0, .ref (q0 0)), (1, .int x1), (2, .int x2), (3, .int x3), (4, .int x4)]) hx hb dX9_goBack_100 hl (k := 6) rfl (by rw [e_x6_5]; rfl) (by decide) rfl (fun ls hl => ?_)
    refine lv_goto (tgt := 54) hx hb dX9_goBack_103 (by decide) ?_
    exact hk_54 x1 x2 x3 x4 r_4 x6_5 u0 _ _ _ hP hD hS (lv_sub hl [2, 3, 4, 5, 6, 1, 0] rfl) h
  have w_54 : ∀ (n : Nat) (x1 : Int32) (x2 : Int32) (x3 : Int32) (x4 : Int32) (x5 : Int32) (x6 : Int32) (u0 : S9) (H : Heap) (locs : List Loc) (ls : Array Slot) (_ : va_P (dC, dI) vwCl (cs9 cI q0 u0) H) (_ : va_D A (cs9 cI q0 u0)) (_ : va_S A s.heap H locs) (_ : lv_has ls 7 [(0, .ref (q0 0)), (1, .int x1), (2, .int x2), (3, .int x3), (4, .int x4), (5, .int x5), (6, .int x6)]) (_ : wp_X9_goBack_54 Q n x1 x2 x3 x4 x5 x6 u0), W p l e rX9_goBack s m args below meth c H locs 0 0 Z (F0 m 54 ls []) := by
    intro n
    induction n with
    | zero => intro x1 x2 x3 x4 x5 x6 u0 H locs ls hP hD hS hl h; exact False.elim h
    | succ n ih =>
      intro x1 x2 x3 x4 x5 x6 u0 H locs ls hP hD hS hl h
      refine lv_iload hx hb dX9_goBack_54 (lv_at hl 6 rfl) ?_
      refine lv_ldc (v := 1000000) hx hb hown (hts _ kX9_goBack_3) dX9_goBack_56 ?_
      refine lv_icmp_ge (tgt := 106) hx hb dX9_goBack_58 (by decide) (fun cd => ?_) (fun cd => ?_)
      · have h := h.1 cd
        exact w_106 x1 x2 x4 u0 _ _ _ hP hD hS (lv_sub hl [0, 1, 2, 4] rfl) h
      · have h := h.2 cd
        refine lv_iload hx hb dX9_goBack_61 (lv_at hl 5 rfl) ?_
        refine lv_iload_n hx hb dX9_goBack_63 rfl (lv_at hl 3 rfl) ?_
        refine lv_icmp_le (tgt := 106) hx hb dX9_goBack_64 (by decide) (fun cd => ?_) (fun cd => ?_)
        · have h := h.1 cd
          exact w_106 x1 x2 x4 u0 _ _ _ hP hD hS (lv_sub hl [0, 1, 2, 4] rfl) h
        · have h := h.2 cd
          refine lv_aload_n hx hb dX9_goBack_67 rfl (lv_at hl 0 rfl) ?_
          refine va_get (D := (dC, dI)) (ci := 9) (v := .ref (q0 1)) (C := RX9) (T := TX9) (N := 11) hx hb hts inX9_goBack_9 hown hK hP 0 rfl rfl 0 (by decide) (hts _ kX9_goBack_2) (fun _ h9 => h9) rfl dX9_goBack_68 ?_
          refine lv_iload hx hb dX9_goBack_71 (lv_at hl 5 rfl) ?_
          refine cx_vi (As := [.int x5]) (rest := []) ⟨hx, hb, hml, hown, hts⟩ hl.1 ok_sxE hE hK hP hD hS hA (cut_39 cI q0 u0) (c_X2_undoable (l := l) (dC := dC) (dI := dI) (cI := cI) (q0 := fun i => q0 (i + 1)) h) (cwV 1 hts gX9_goBack_X2_undoable rfl rfl rfl hdX2_undoable ⟨Nat.le_of_ble_eq_true rfl, Nat.le_of_ble_eq_true rfl⟩) rfl rfl rfl rfl (Nat.le_of_ble_eq_true rfl) dX9_goBack_73 rfl (fun r_6 _ H locs h hP hD hS => ?_)
          refine lv_if_eq (tgt := 89) hx hb dX9_goBack_76 (by decide) (fun cd => ?_) (fun cd => ?_)
          · have h := h.1 cd
            exact w_89 (fun x1 x2 x3 x4 x5 x6 u0 => wp_X9_goBack_54 Q n x1 x2 x3 x4 x5 x6 u0) (fun x1 x2 x3 x4 x5 x6 u0 H locs ls hP hD hS hl h => ih x1 x2 x3 x4 x5 x6 u0 H locs ls hP hD hS hl h) x1 x2 x3 x4 x5 x6 u0 _ _ _ hP hD hS (lv_sub hl [0, 1, 2, 3, 4, 5, 6] rfl) h
          · have h := h.2 cd
            refine lv_aload_n hx hb dX9_goBack_79 rfl (lv_at hl 0 rfl) ?_
            refine lv_iload_n hx hb dX9_goBack_80 rfl (lv_at hl 1 rfl) ?_
            refine lv_iload hx hb dX9_goBack_81 (lv_at hl 5 rfl) ?_
            refine cx_vv (As := [.int x1, .int x5]) (rest := []) ⟨hx, hb, hml, hown, hts⟩ hl.1 ok_sxE hE hK hP hD hS hA (cut_35 cI q0 u0) (c_X9_compensate (l := l) (dC := dC) (dI := dI) (cI := cI) (q0 := q0) h) (cwV 2 hts gX9_goBack_X9_compensate rfl rfl rfl hdX9_compensate ⟨Nat.le_of_ble_eq_true rfl, Nat.le_of_ble_eq_true rfl⟩) rfl rfl rfl rfl (Nat.le_of_ble_eq_true rfl) dX9_goBack_83 rfl (fun v_7 H locs h hP hD hS => ?_)
            have hP : va_P (dC, dI) vwCl (cs9 cI q0 v_7) H :=  hP
            have hD : va_D A (cs9 cI q0 v_7) :=  hD
            obtain ⟨x4_8, e_x4_8⟩ : ∃ z : Int32, z = x4 + 1 := ⟨_, rfl⟩
            have h := h x4_8 e_x4_8
            refine lv_iinc (v := x4_8) (lv' := [(4, .int x4_8), (0, .ref (q0 0)), (1, .int x1), (2, .int x2), (3, .int x3), (5, .int x5), (6, .int x6)]) hx hb dX9_goBack_86 hl (k := 4) rfl (by rw [e_x4_8]; rfl) (by decide) rfl (fun ls hl => ?_)
            exact w_89 (fun x1 x2 x3 x4 x5 x6 u0 => wp_X9_goBack_54 Q n x1 x2 x3 x4 x5 x6 u0) (fun x1 x2 x3 x4 x5 x6 u0 H locs ls hP hD hS hl h => ih x1 x2 x3 x4 x5 x6 u0 H locs ls hP hD hS hl h) x1 x2 x3 x4_8 x5 x6 v_7 _ _ _ hP hD hS (lv_sub hl [1, 2, 3, 4, 0, 5, 6] rfl) h
  have hS : va_S A s.heap s.heap [] := va_S.rf
  refine lv_aload_n hx hb dX9_goBack_0 rfl (lv_at hl 0 rfl) ?_
  refine lv_iload_n hx hb dX9_goBack_1 rfl (lv_at hl 1 rfl) ?_
  refine cx_vi (As := [.int x1]) (rest := []) ⟨hx, hb, hml, hown, hts⟩ hl.1 ok_sxE hE hK hP hD hS hA (cut_43 cI q0 u0) (c_X9_isRunning (l := l) (dC := dC) (dI := dI) (cI := cI) (q0 := q0) h) (cwV 1 hts gX9_goBack_X9_isRunning rfl rfl rfl hdX9_isRunning ⟨Nat.le_of_ble_eq_true rfl, Nat.le_of_ble_eq_true rfl⟩) rfl rfl rfl rfl (Nat.le_of_ble_eq_true rfl) dX9_goBack_2 rfl (fun r_9 _ H locs h hP hD hS => ?_)
  refine lv_if_eq (tgt := 25) hx hb dX9_goBack_5 (by decide) (fun cd => ?_) (fun cd => ?_)
  · have h := h.1 cd
    refine lv_iconst (v := (-1)) hx hb dX9_goBack_25 (by decide) ?_
    exact hret _ _ _ _ _ u0 dX9_goBack_26 (vp_nar_int _) h hP hD hS
  · have h := h.2 cd
    refine lv_iload_n hx hb dX9_goBack_8 rfl (lv_at hl 2 rfl) ?_
    refine lv_if_lt (tgt := 25) hx hb dX9_goBack_9 (by decide) (fun cd => ?_) (fun cd => ?_)
    · have h := h.1 cd
      refine lv_iconst (v := (-1)) hx hb dX9_goBack_25 (by decide) ?_
      exact hret _ _ _ _ _ u0 dX9_goBack_26 (vp_nar_int _) h hP hD hS
    · have h := h.2 cd
      refine lv_iload_n hx hb dX9_goBack_12 rfl (lv_at hl 2 rfl) ?_
      refine lv_aload_n hx hb dX9_goBack_13 rfl (lv_at hl 0 rfl) ?_
      refine va_get (D := (dC, dI)) (ci := 9) (v := .ref (q0 17)) (C := RX9) (T := TX9) (N := 11) hx hb hts inX9_goBack_9 hown hK hP 0 rfl rfl 3 (by decide) (hts _ kX9_goBack_1) (fun _ h9 => h9) rfl dX9_goBack_14 ?_
      refine va_get (D := (dC, dI)) (ci := 0) (v := .ref (q0 21)) (C := RX0) (T := TX0) (N := 7) hx hb hts inX9_goBack_0 hown hK hP 17 rfl rfl 3 (by decide) (hts _ kX9_goBack_6) (fun _ h9 => h9) rfl dX9_goBack_17 ?_
      refine lv_iload_n hx hb dX9_goBack_20 rfl (lv_at hl 1 rfl) ?_
      refine va_iald hx hb hK hP 21 0 rfl rfl h.1 dX9_goBack_21 ?_
      have h := h.2
      refine lv_icmp_lt (tgt := 27) hx hb dX9_goBack_22 (by decide) (fun cd => ?_) (fun cd => ?_)
      · have h := h.1 cd
        refine lv_aload_n hx hb dX9_goBack_27 rfl (lv_at hl 0 rfl) ?_
        refine va_get (D := (dC, dI)) (ci := 9) (v := .ref (q0 17)) (C := RX9) (T := TX9) (N := 11) hx hb hts inX9_goBack_9 hown hK hP 0 rfl rfl 3 (by decide) (hts _ kX9_goBack_1) (fun _ h9 => h9) rfl dX9_goBack_28 ?_
        refine lv_iload_n hx hb dX9_goBack_31 rfl (lv_at hl 1 rfl) ?_
        refine lv_iload_n hx hb dX9_goBack_32 rfl (lv_at hl 2 rfl) ?_
        refine cx_vi (As := [.int x1, .int x2]) (rest := []) ⟨hx, hb, hml, hown, hts⟩ hl.1 ok_sxE hE hK hP hD hS hA (cut_45 cI q0 u0) (c_X0_saved (l := l) (dC := dC) (dI := dI) (cI := cI) (q0 := fun i => q0 (i + 17)) h) (cwV 2 hts gX9_goBack_X0_saved rfl rfl rfl hdX0_saved ⟨Nat.le_of_ble_eq_true rfl, Nat.le_of_ble_eq_true rfl⟩) rfl rfl rfl rfl (Nat.le_of_ble_eq_true rfl) dX9_goBack_33 rfl (fun r_10 _ H locs h hP hD hS => ?_)
        refine lv_istore_n (lv' := [(3, .int r_10), (0, .ref (q0 0)), (1, .int x1), (2, .int x2)]) hx hb dX9_goBack_36 rfl hl (by decide) rfl (fun ls hl => ?_)
        refine lv_iconst (v := 0) hx hb dX9_goBack_37 (by decide) ?_
        refine lv_istore (lv' := [(4, .int 0), (3, .int r_10), (0, .ref (q0 0)), (1, .int x1), (2, .int x2)]) hx hb dX9_goBack_38 hl (by decide) rfl (fun ls hl => ?_)
        refine lv_aload_n hx hb dX9_goBack_40 rfl (lv_at hl 2 rfl) ?_
        refine va_get (D := (dC, dI)) (ci := 9) (v := .ref (q0 13)) (C := RX9) (T := TX9) (N := 11) hx hb hts inX9_goBack_9 hown hK hP 0 rfl rfl 2 (by decide) (hts _ kX9_goBack_5) (fun _ h9 => h9) rfl dX9_goBack_41 ?_
        refine va_get (D := (dC, dI)) (ci := 5) (v := .ref (q0 15)) (C := RX5) (T := TX5) (N := 3) hx hb hts inX9_goBack_5 hown hK hP 13 rfl rfl 1 (by decide) (hts _ kX9_goBack_4) (fun _ h9 => h9) rfl dX9_goBack_44 ?_
        refine lv_iload_n hx hb dX9_goBack_47 rfl (lv_at hl 3 rfl) ?_
        refine va_iald hx hb hK hP 15 0 rfl rfl h.1 dX9_goBack_48 ?_
        have h := h.2
        refine lv_topi (fun x5_11 e_x5_11 => ?_)
        have h := h x5_11 e_x5_11
        refine lv_istore (lv' := [(5, .int x5_11), (4, .int 0), (3, .int r_10), (0, .ref (q0 0)), (1, .int x1), (2, .int x2)]) hx hb dX9_goBack_49 hl (by decide) rfl (fun ls hl => ?_)
        refine lv_iconst (v := 0) hx hb dX9_goBack_51 (by decide) ?_
        refine lv_istore (lv' := [(6, .int 0), (5, .int x5_11), (4, .int 0), (3, .int r_10), (0, .ref (q0 0)), (1, .int x1), (2, .int x2)]) hx hb dX9_goBack_52 hl (by decide) rfl (fun ls hl => ?_)
        obtain ⟨n0, h⟩ := h
        exact w_54 n0 x1 x2 r_10 0 x5_11 0 u0 _ _ _ hP hD hS (lv_sub hl [4, 5, 6, 3, 2, 1, 0] rfl) h
      · have h := h.2 cd
        refine lv_iconst (v := (-1)) hx hb dX9_goBack_25 (by decide) ?_
        exact hret _ _ _ _ _ u0 dX9_goBack_26 (vp_nar_int _) h hP hD hS

abbrev rX9_rollBack : Room := { frames := 5, cells := 0, slots := 0, locals := 114 }
theorem hdX9_rollBack : yX9_rollBack.cls = RX9 ∧ yX9_rollBack.cls ≠ "java/lang/invoke/MethodHandle" ∧ yX9_rollBack.cls ≠ "java/lang/invoke/VarHandle" ∧ (parseMethodDescriptor yX9_rollBack.desc).map (fun d => d.parameters.length) = some 2 := by decide +kernel
theorem inX9_rollBack_5 : ∀ w ∈ wsX50, w ∈ wsX9_rollBack := by decide +kernel
theorem inX9_rollBack_9 : ∀ w ∈ wsX90, w ∈ wsX9_rollBack := by decide +kernel
theorem kX9_rollBack_0 : Cond.fieldLink RX9 12 "AheadStore$World" "journal" "LAheadStore$Journal;" ∈ wsX9_rollBack := by decide +kernel
theorem kX9_rollBack_1 : Cond.fieldLink RX9 123 "AheadStore$Roster" "cursor" "[I" ∈ wsX9_rollBack := by decide +kernel
theorem kX9_rollBack_2 : Cond.fieldLink RX9 28 "AheadStore$World" "roster" "LAheadStore$Roster;" ∈ wsX9_rollBack := by decide +kernel
theorem kX9_rollBack_3 : Cond.fieldLink RX9 77 "AheadStore$Roster" "is" "[I" ∈ wsX9_rollBack := by decide +kernel
theorem kX9_rollBack_4 : Cond.initialized RX10 ∈ wsX9_rollBack := by decide +kernel
theorem kX9_rollBack_5 : Cond.static yX10_isParty ∈ wsX9_rollBack := by decide +kernel
set_option maxHeartbeats 4000000 in
set_option maxRecDepth 100000 in
theorem c_X9_rollBack {l : Launch} {dC : Nat → ClassId} {dI : Nat → Nat → Nat} {cI : ClassId} {q0 : Nat → Nat} {sz : Nat} {u0 : S9} {x1 : Int32} {x2 : Int32} {Q : Int32 → S9 → Prop} (h : wp_X9_rollBack u0 x1 x2 Q) : ctI sxE l yX9_rollBack wsX9_rollBack rX9_rollBack (dC, dI) vwCl [(cI, .int)] [.ref (q0 0), .int x1, .int x2] (cs9 cI q0 u0) sz (fun (r : Int32) (v : S9) => Q r v) (fun (v : S9) => cs9 cI q0 v) := by
  refine mx_i (cc := cX9_rollBack) (maxL := 6) (ty := .int) (by decide) rfl (Nat.le_of_ble_eq_true rfl) ?_
  intro p e s m below meth c Z A ls args hx hb hml hown hts hA hP hK hD hE hl hret
  have hown : s.vm.findClass RX9 = some m.cls := hown
  have hl : lv_has ls 6 [(0, .ref (q0 0)), (1, .int x1), (2, .int x2)] := hl
  have w_102 : ∀ (k_27 : Int32 → Int32 → Int32 → Int32 → S9 → Prop) (hk_27 : ∀ (x1 : Int32) (x2 : Int32) (x3 : Int32) (x4 : Int32) (u0 : S9) (H : Heap) (locs : List Loc) (ls : Array Slot) (_ : va_P (dC, dI) vwCl (cs9 cI q0 u0) H) (_ : va_D A (cs9 cI q0 u0)) (_ : va_S A s.heap H locs) (_ : lv_has ls 6 [(0, .ref (q0 0)), (1, .int x1), (2, .int x2), (3, .int x3), (4, .int x4)]) (_ : k_27 x1 x2 x3 x4 u0), W p l e rX9_rollBack s m args below meth c H locs 0 0 Z (F0 m 27 ls [])) (x1 : Int32) (x2 : Int32) (x3 : Int32) (x4 : Int32) (u0 : S9) (H : Heap) (locs : List Loc) (ls : Array Slot) (_ : va_P (dC, dI) vwCl (cs9 cI q0 u0) H) (_ : va_D A (cs9 cI q0 u0)) (_ : va_S A s.heap H locs) (_ : lv_has ls 6 [(0, .ref (q0 0)), (1, .int x1), (2, .int x2), (3, .int x3), (4, .int x4)]) (_ : wp_X9_rollBack_102 k_27 Q x1 x2 x3 x4 u0), W p l e rX9_rollBack s m args below meth c H locs 0 0 Z (F0 m 102 ls []) := by
    intro k_27 hk_27 x1 x2 x3 x4 u0 H locs ls hP hD hS hl h
    obtain ⟨x3_1, e_x3_1⟩ : ∃ z : Int32, z = x3 + 1 := ⟨_, rfl⟩
    have h := h x3_1 e_x3_1
    refine lv_iinc (v := x3_1) (lv' := [(3, .int x3_1), (0, .ref (q0 0)), (1, .int x1), (2, .int x2), (4, .int x4)]) hx hb dX9_rollBack_102 hl (k := 3) rfl (by rw [e_x3_1]; rfl) (by decide) rfl (fun ls hl => ?_)
    obtain ⟨x4_2, e_x4_2⟩ : ∃ z : Int32, z = x4 + 1 := ⟨_, rfl⟩
    have h := h x4_2 e_x4_2
    refine lv_iinc (v := x4_2) (lv' := [(4, .int x4_2), (3, .int x3_1), (0, .ref (q0 0)), (1, .int x1), (2, .int x2)]) hx hb dX9_rollBack_105 hl (k := 4) rfl (by rw [e_x4_2]; rfl) (by decide) rfl (fun ls hl => ?_)
    refine lv_goto (tgt := 27) hx hb dX9_rollBack_108 (by decide) ?_
    exact hk_27 x1 x2 x3_1 x4_2 u0 _ _ _ hP hD hS (lv_sub hl [2, 3, 4, 1, 0] rfl) h
  have w_27 : ∀ (n : Nat) (x1 : Int32) (x2 : Int32) (x3 : Int32) (x4 : Int32) (u0 : S9) (H : Heap) (locs : List Loc) (ls : Array Slot) (_ : va_P (dC, dI) vwCl (cs9 cI q0 u0) H) (_ : va_D A (cs9 cI q0 u0)) (_ : va_S A s.heap H locs) (_ : lv_has ls 6 [(0, .ref (q0 0)), (1, .int x1), (2, .int x2), (3, .int x3), (4, .int x4)]) (_ : wp_X9_rollBack_27 Q n x1 x2 x3 x4 u0), W p l e rX9_rollBack s m args below meth c H locs 0 0 Z (F0 m 27 ls []) := by
    intro n
    induction n with
    | zero => intro x1 x2 x3 x4 u0 H locs ls hP hD hS hl h; exact False.elim h
    | succ n ih =>
      intro x1 x2 x3 x4 u0 H locs ls hP hD hS hl h
      refine lv_iload hx hb dX9_rollBack_27 (lv_at hl 4 rfl) ?_
      refine lv_iload_n hx hb dX9_rollBack_29 rfl (lv_at hl 2 rfl) ?_
      refine lv_icmp_ge (tgt := 111) hx hb dX9_rollBack_30 (by decide) (fun cd => ?_) (fun cd => ?_)
      · have h := h.1 cd
        refine lv_iload_n hx hb dX9_rollBack_111 rfl (lv_at hl 3 rfl) ?_
        exact hret _ _ _ _ _ u0 dX9_rollBack_112 (vp_nar_int _) h hP hD hS
      · have h := h.2 cd
        refine lv_aload_n hx hb dX9_rollBack_33 rfl (lv_at hl 0 rfl) ?_
        refine va_get (D := (dC, dI)) (ci := 9) (v := .ref (q0 13)) (C := RX9) (T := TX9) (N := 11) hx hb hts inX9_rollBack_9 hown hK hP 0 rfl rfl 2 (by decide) (hts _ kX9_rollBack_2) (fun _ h9 => h9) rfl dX9_rollBack_34 ?_
        refine va_get (D := (dC, dI)) (ci := 5) (v := .ref (q0 14)) (C := RX5) (T := TX5) (N := 3) hx hb hts inX9_rollBack_5 hown hK hP 13 rfl rfl 0 (by decide) (hts _ kX9_rollBack_3) (fun _ h9 => h9) rfl dX9_rollBack_37 ?_
        refine lv_iload_n hx hb dX9_rollBack_40 rfl (lv_at hl 1 rfl) ?_
        refine va_iald hx hb hK hP 14 0 rfl rfl h.1 dX9_rollBack_41 ?_
        have h := h.2
        refine lv_iconst (v := 2) hx hb dX9_rollBack_42 (by decide) ?_
        refine lv_icmp_ne (tgt := 111) hx hb dX9_rollBack_43 (by decide) (fun cd => ?_) (fun cd => ?_)
        · have h := h.2 cd
          refine lv_iload_n hx hb dX9_rollBack_111 rfl (lv_at hl 3 rfl) ?_
          exact hret _ _ _ _ _ u0 dX9_rollBack_112 (vp_nar_int _) h hP hD hS
        · have h := h.1 cd
          refine lv_aload_n hx hb dX9_rollBack_46 rfl (lv_at hl 0 rfl) ?_
          refine va_get (D := (dC, dI)) (ci := 9) (v := .ref (q0 1)) (C := RX9) (T := TX9) (N := 11) hx hb hts inX9_rollBack_9 hown hK hP 0 rfl rfl 0 (by decide) (hts _ kX9_rollBack_0) (fun _ h9 => h9) rfl dX9_rollBack_47 ?_
          refine lv_aload_n hx hb dX9_rollBack_50 rfl (lv_at hl 0 rfl) ?_
          refine va_get (D := (dC, dI)) (ci := 9) (v := .ref (q0 13)) (C := RX9) (T := TX9) (N := 11) hx hb hts inX9_rollBack_9 hown hK hP 0 rfl rfl 2 (by decide) (hts _ kX9_rollBack_2) (fun _ h9 => h9) rfl dX9_rollBack_51 ?_
          refine va_get (D := (dC, dI)) (ci := 5) (v := .ref (q0 16)) (C := RX5) (T := TX5) (N := 3) hx hb hts inX9_rollBack_5 hown hK hP 13 rfl rfl 2 (by decide) (hts _ kX9_rollBack_1) (fun _ h9 => h9) rfl dX9_rollBack_54 ?_
          refine lv_iload_n hx hb dX9_rollBack_57 rfl (lv_at hl 1 rfl) ?_
          refine va_iald hx hb hK hP 16 0 rfl rfl h.1 dX9_rollBack_58 ?_
          have h := h.2
          refine cx_vi (As := [.int ((g5_cursor (g9_roster u0)) x1.toNatClampNeg)]) (rest := []) ⟨hx, hb, hml, hown, hts⟩ hl.1 ok_sxE hE hK hP hD hS hA (cut_39 cI q0 u0) (c_X2_nextUndoable (l := l) (dC := dC) (dI := dI) (cI := cI) (q0 := fun i => q0 (i + 1)) h) (cwV 1 hts gX9_rollBack_X2_nextUndoable rfl rfl rfl hdX2_nextUndoable ⟨Nat.le_of_ble_eq_true rfl, Nat.le_of_ble_eq_true rfl⟩) rfl rfl rfl rfl (Nat.le_of_ble_eq_true rfl) dX9_rollBack_59 rfl (fun r_3 _ H locs h hP hD hS => ?_)
          refine lv_istore (lv' := [(5, .int r_3), (0, .ref (q0 0)), (1, .int x1), (2, .int x2), (3, .int x3), (4, .int x4)]) hx hb dX9_rollBack_62 hl (by decide) rfl (fun ls hl => ?_)
          refine lv_iload hx hb dX9_rollBack_64 (lv_at hl 0 rfl) ?_
          refine lv_if_ne (tgt := 77) hx hb dX9_rollBack_66 (by decide) (fun cd => ?_) (fun cd => ?_)
          · have h := h.2 cd
            refine lv_aload_n hx hb dX9_rollBack_77 rfl (lv_at hl 1 rfl) ?_
            refine lv_iload_n hx hb dX9_rollBack_78 rfl (lv_at hl 2 rfl) ?_
            refine lv_iload hx hb dX9_rollBack_79 (lv_at hl 0 rfl) ?_
            refine cx_vv (As := [.int x1, .int r_3]) (rest := []) ⟨hx, hb, hml, hown, hts⟩ hl.1 ok_sxE hE hK hP hD hS hA (cut_35 cI q0 u0) (c_X9_compensate (l := l) (dC := dC) (dI := dI) (cI := cI) (q0 := q0) h) (cwV 2 hts gX9_rollBack_X9_compensate rfl rfl rfl hdX9_compensate ⟨Nat.le_of_ble_eq_true rfl, Nat.le_of_ble_eq_true rfl⟩) rfl rfl rfl rfl (Nat.le_of_ble_eq_true rfl) dX9_rollBack_81 rfl (fun v_4 H locs h hP hD hS => ?_)
            have hP : va_P (dC, dI) vwCl (cs9 cI q0 v_4) H :=  hP
            have hD : va_D A (cs9 cI q0 v_4) :=  hD
            refine lv_aload_n hx hb dX9_rollBack_84 rfl (lv_at hl 1 rfl) ?_
            refine va_get (D := (dC, dI)) (ci := 9) (v := .ref (q0 13)) (C := RX9) (T := TX9) (N := 11) hx hb hts inX9_rollBack_9 hown hK hP 0 rfl rfl 2 (by decide) (hts _ kX9_rollBack_2) (fun _ h9 => h9) rfl dX9_rollBack_85 ?_
            refine va_get (D := (dC, dI)) (ci := 5) (v := .ref (q0 16)) (C := RX5) (T := TX5) (N := 3) hx hb hts inX9_rollBack_5 hown hK hP 13 rfl rfl 2 (by decide) (hts _ kX9_rollBack_1) (fun _ h9 => h9) rfl dX9_rollBack_88 ?_
            refine lv_iload_n hx hb dX9_rollBack_91 rfl (lv_at hl 2 rfl) ?_
            refine lv_aload_n hx hb dX9_rollBack_92 rfl (lv_at hl 1 rfl) ?_
            refine va_get (D := (dC, dI)) (ci := 9) (v := .ref (q0 1)) (C := RX9) (T := TX9) (N := 11) hx hb hts inX9_rollBack_9 hown hK hP 0 rfl rfl 0 (by decide) (hts _ kX9_rollBack_0) (fun _ h9 => h9) rfl dX9_rollBack_93 ?_
            refine lv_iload hx hb dX9_rollBack_96 (lv_at hl 0 rfl) ?_
            refine cx_vi (As := [.int r_3]) (rest := [.int x1, .ref (q0 16)]) ⟨hx, hb, hml, hown, hts⟩ hl.1 ok_sxE hE hK hP hD hS hA (cut_39 cI q0 v_4) (c_X2_onward (l := l) (dC := dC) (dI := dI) (cI := cI) (q0 := fun i => q0 (i + 1)) h) (cwV 1 hts gX9_rollBack_X2_onward rfl rfl rfl hdX2_onward ⟨Nat.le_of_ble_eq_true rfl, Nat.le_of_ble_eq_true rfl⟩) rfl rfl rfl rfl (Nat.le_of_ble_eq_true rfl) dX9_rollBack_98 rfl (fun r_5 _ H locs h hP hD hS => ?_)
            refine va_iast hx hb hK hP hD hS 16 0 rfl rfl h.1 dX9_rollBack_101 (fun H locs hP hD hS => ?_)
            have h := h.2
            obtain ⟨u0_6, e_u0_6⟩ : ∃ z, z = s9_roster v_4 (s5_cursor (g9_roster v_4) (upd (g5_cursor (g9_roster v_4)) x1.toNatClampNeg r_5)) := ⟨_, rfl⟩
            have h := h u0_6 e_u0_6
            have hP : va_P (dC, dI) vwCl (cs9 cI q0 u0_6) H := by rw [e_u0_6]; exact hP
            have hD : va_D A (cs9 cI q0 u0_6) := by rw [e_u0_6]; exact hD
            exact w_102 (fun x1 x2 x3 x4 u0 => wp_X9_rollBack_27 Q n x1 x2 x3 x4 u0) (fun x1 x2 x3 x4 u0 H locs ls hP hD hS hl h => ih x1 x2 x3 x4 u0 H locs ls hP hD hS hl h) x1 x2 x3 x4 u0_6 _ _ _ hP hD hS (lv_sub hl [1, 2, 3, 4, 5] rfl) h
          · have h := h.1 cd
            refine lv_aload_n hx hb dX9_rollBack_69 rfl (lv_at hl 1 rfl) ?_
            refine lv_iload_n hx hb dX9_rollBack_70 rfl (lv_at hl 2 rfl) ?_
            refine cx_vv (As := [.int x1]) (rest := []) ⟨hx, hb, hml, hown, hts⟩ hl.1 ok_sxE hE hK hP hD hS hA (cut_35 cI q0 u0) (c_X9_endOf (l := l) (dC := dC) (dI := dI) (cI := cI) (q0 := q0) h) (cwV 1 hts gX9_rollBack_X9_endOf rfl rfl rfl hdX9_endOf ⟨Nat.le_of_ble_eq_true rfl, Nat.le_of_ble_eq_true rfl⟩) rfl rfl rfl rfl (Nat.le_of_ble_eq_true rfl) dX9_rollBack_71 rfl (fun v_7 H locs h hP hD hS => ?_)
            have hP : va_P (dC, dI) vwCl (cs9 cI q0 v_7) H :=  hP
            have hD : va_D A (cs9 cI q0 v_7) :=  hD
            refine lv_goto (tgt := 102) hx hb dX9_rollBack_74 (by decide) ?_
            exact w_102 (fun x1 x2 x3 x4 u0 => wp_X9_rollBack_27 Q n x1 x2 x3 x4 u0) (fun x1 x2 x3 x4 u0 H locs ls hP hD hS hl h => ih x1 x2 x3 x4 u0 H locs ls hP hD hS hl h) x1 x2 x3 x4 v_7 _ _ _ hP hD hS (lv_sub hl [1, 2, 3, 4, 5] rfl) h
  have hS : va_S A s.heap s.heap [] := va_S.rf
  refine lv_iload_n hx hb dX9_rollBack_0 rfl (lv_at hl 1 rfl) ?_
  refine cx_ni (As := [.int x1]) (rest := []) ⟨hx, hb, hml, hown, hts⟩ hl.1 ok_noE trivial hK hP hD hS hA (cut_42 cI q0 u0) (c_X10_isParty (l := l) (dC := dC) (dI := dI) (cI := cI) h) ⟨va_cnB 1 hts gX9_rollBack_X10_isParty_n73 rfl rfl rfl (hE.1.1 (RX9, 73, yX10_isParty, "AheadStore") (List.mem_of_getElem? (i := 14) rfl)) (hts _ kX9_rollBack_4) hdX10_isParty ⟨Nat.le_of_ble_eq_true rfl, Nat.le_of_ble_eq_true rfl⟩, hts _ kX9_rollBack_5, trivial⟩ rfl (Nat.le_of_ble_eq_true rfl) dX9_rollBack_1 rfl (fun r_8 _ H locs h hP hD hS => ?_)
  refine lv_if_eq (tgt := 20) hx hb dX9_rollBack_4 (by decide) (fun cd => ?_) (fun cd => ?_)
  · have h := h.1 cd
    refine lv_iconst (v := (-1)) hx hb dX9_rollBack_20 (by decide) ?_
    exact hret _ _ _ _ _ u0 dX9_rollBack_21 (vp_nar_int _) h hP hD hS
  · have h := h.2 cd
    refine lv_aload_n hx hb dX9_rollBack_7 rfl (lv_at hl 0 rfl) ?_
    refine va_get (D := (dC, dI)) (ci := 9) (v := .ref (q0 13)) (C := RX9) (T := TX9) (N := 11) hx hb hts inX9_rollBack_9 hown hK hP 0 rfl rfl 2 (by decide) (hts _ kX9_rollBack_2) (fun _ h9 => h9) rfl dX9_rollBack_8 ?_
    refine va_get (D := (dC, dI)) (ci := 5) (v := .ref (q0 14)) (C := RX5) (T := TX5) (N := 3) hx hb hts inX9_rollBack_5 hown hK hP 13 rfl rfl 0 (by decide) (hts _ kX9_rollBack_3) (fun _ h9 => h9) rfl dX9_rollBack_11 ?_
    refine lv_iload_n hx hb dX9_rollBack_14 rfl (lv_at hl 1 rfl) ?_
    refine va_iald hx hb hK hP 14 0 rfl rfl h.1 dX9_rollBack_15 ?_
    have h := h.2
    refine lv_iconst (v := 2) hx hb dX9_rollBack_16 (by decide) ?_
    refine lv_icmp_eq (tgt := 22) hx hb dX9_rollBack_17 (by decide) (fun cd => ?_) (fun cd => ?_)
    · have h := h.1 cd
      refine lv_iconst (v := 0) hx hb dX9_rollBack_22 (by decide) ?_
      refine lv_istore_n (lv' := [(3, .int 0), (0, .ref (q0 0)), (1, .int x1), (2, .int x2)]) hx hb dX9_rollBack_23 rfl hl (by decide) rfl (fun ls hl => ?_)
      refine lv_iconst (v := 0) hx hb dX9_rollBack_24 (by decide) ?_
      refine lv_istore (lv' := [(4, .int 0), (3, .int 0), (0, .ref (q0 0)), (1, .int x1), (2, .int x2)]) hx hb dX9_rollBack_25 hl (by decide) rfl (fun ls hl => ?_)
      obtain ⟨n0, h⟩ := h
      exact w_27 n0 x1 x2 0 0 u0 _ _ _ hP hD hS (lv_sub hl [2, 3, 4, 1, 0] rfl) h
    · have h := h.2 cd
      refine lv_iconst (v := (-1)) hx hb dX9_rollBack_20 (by decide) ?_
      exact hret _ _ _ _ _ u0 dX9_rollBack_21 (vp_nar_int _) h hP hD hS

abbrev rX9_cost : Room := { frames := 4, cells := 0, slots := 0, locals := 87 }
theorem hdX9_cost : yX9_cost.cls = RX9 ∧ yX9_cost.cls ≠ "java/lang/invoke/MethodHandle" ∧ yX9_cost.cls ≠ "java/lang/invoke/VarHandle" ∧ (parseMethodDescriptor yX9_cost.desc).map (fun d => d.parameters.length) = some 1 := by decide +kernel
theorem inX9_cost_5 : ∀ w ∈ wsX50, w ∈ wsX9_cost := by decide +kernel
theorem inX9_cost_9 : ∀ w ∈ wsX90, w ∈ wsX9_cost := by decide +kernel
theorem kX9_cost_0 : Cond.fieldLink RX9 85 "AheadStore$Roster" "last" "[I" ∈ wsX9_cost := by decide +kernel
theorem kX9_cost_1 : Cond.fieldLink RX9 28 "AheadStore$World" "roster" "LAheadStore$Roster;" ∈ wsX9_cost := by decide +kernel
theorem kX9_cost_2 : Cond.fieldLink RX9 12 "AheadStore$World" "journal" "LAheadStore$Journal;" ∈ wsX9_cost := by decide +kernel
theorem kX9_cost_3 : Cond.fieldLink RX9 123 "AheadStore$Roster" "cursor" "[I" ∈ wsX9_cost := by decide +kernel
theorem kX9_cost_4 : Cond.fieldLink RX9 77 "AheadStore$Roster" "is" "[I" ∈ wsX9_cost := by decide +kernel
set_option maxHeartbeats 4000000 in
set_option maxRecDepth 100000 in
theorem c_X9_cost {l : Launch} {dC : Nat → ClassId} {dI : Nat → Nat → Nat} {cI : ClassId} {q0 : Nat → Nat} {sz : Nat} {u0 : S9} {x1 : Int32} {Q : Int32 → Prop} (h : wp_X9_cost u0 x1 Q) : ctI sxE l yX9_cost wsX9_cost rX9_cost (dC, dI) vwCl [(cI, .int)] [.ref (q0 0), .int x1] (cs9 cI q0 u0) sz (fun (r : Int32) (_ : Unit) => Q r) (fun (_ : Unit) => cs9 cI q0 u0) := by
  refine mx_i (cc := cX9_cost) (maxL := 2) (ty := .int) (by decide) rfl (Nat.le_of_ble_eq_true rfl) ?_
  intro p e s m below meth c Z A ls args hx hb hml hown hts hA hP hK hD hE hl hret
  have hown : s.vm.findClass RX9 = some m.cls := hown
  have hl : lv_has ls 2 [(0, .ref (q0 0)), (1, .int x1)] := hl
  have hS : va_S A s.heap s.heap [] := va_S.rf
  refine lv_aload_n hx hb dX9_cost_0 rfl (lv_at hl 0 rfl) ?_
  refine va_get (D := (dC, dI)) (ci := 9) (v := .ref (q0 13)) (C := RX9) (T := TX9) (N := 11) hx hb hts inX9_cost_9 hown hK hP 0 rfl rfl 2 (by decide) (hts _ kX9_cost_1) (fun _ h9 => h9) rfl dX9_cost_1 ?_
  refine va_get (D := (dC, dI)) (ci := 5) (v := .ref (q0 14)) (C := RX5) (T := TX5) (N := 3) hx hb hts inX9_cost_5 hown hK hP 13 rfl rfl 0 (by decide) (hts _ kX9_cost_4) (fun _ h9 => h9) rfl dX9_cost_4 ?_
  refine lv_iload_n hx hb dX9_cost_7 rfl (lv_at hl 1 rfl) ?_
  refine va_iald hx hb hK hP 14 0 rfl rfl h.1 dX9_cost_8 ?_
  have h := h.2
  by_cases c0 : ((g5_is (g9_roster u0)) x1.toNatClampNeg) = 1
  · have h := h.1 c0
    refine lv_lookup (tgt := 36) (off := 27) hx hb dX9_cost_9 (by decide) (by rw [c0]; rfl) (by decide) ?_
    refine lv_aload_n hx hb dX9_cost_36 rfl (lv_at hl 0 rfl) ?_
    refine va_get (D := (dC, dI)) (ci := 9) (v := .ref (q0 1)) (C := RX9) (T := TX9) (N := 11) hx hb hts inX9_cost_9 hown hK hP 0 rfl rfl 0 (by decide) (hts _ kX9_cost_2) (fun _ h9 => h9) rfl dX9_cost_37 ?_
    refine lv_aload_n hx hb dX9_cost_40 rfl (lv_at hl 0 rfl) ?_
    refine va_get (D := (dC, dI)) (ci := 9) (v := .ref (q0 13)) (C := RX9) (T := TX9) (N := 11) hx hb hts inX9_cost_9 hown hK hP 0 rfl rfl 2 (by decide) (hts _ kX9_cost_1) (fun _ h9 => h9) rfl dX9_cost_41 ?_
    refine va_get (D := (dC, dI)) (ci := 5) (v := .ref (q0 15)) (C := RX5) (T := TX5) (N := 3) hx hb hts inX9_cost_5 hown hK hP 13 rfl rfl 1 (by decide) (hts _ kX9_cost_0) (fun _ h9 => h9) rfl dX9_cost_44 ?_
    refine lv_iload_n hx hb dX9_cost_47 rfl (lv_at hl 1 rfl) ?_
    refine va_iald hx hb hK hP 15 0 rfl rfl h.1 dX9_cost_48 ?_
    have h := h.2
    refine cx_vi (As := [.int ((g5_last (g9_roster u0)) x1.toNatClampNeg)]) (rest := []) ⟨hx, hb, hml, hown, hts⟩ hl.1 ok_sxE hE hK hP hD hS hA (cut_39 cI q0 u0) (c_X2_undoCount (l := l) (dC := dC) (dI := dI) (cI := cI) (q0 := fun i => q0 (i + 1)) h) (cwV 1 hts gX9_cost_X2_undoCount rfl rfl rfl hdX2_undoCount ⟨Nat.le_of_ble_eq_true rfl, Nat.le_of_ble_eq_true rfl⟩) rfl rfl rfl rfl (Nat.le_of_ble_eq_true rfl) dX9_cost_49 rfl (fun r_1 _ H locs h hP hD hS => ?_)
    exact hret _ _ _ _ _ () dX9_cost_52 (vp_nar_int _) h hP hD hS
  have h := h.2 c0
  by_cases c1 : ((g5_is (g9_roster u0)) x1.toNatClampNeg) = 2
  · have h := h.1 c1
    refine lv_lookup (tgt := 53) (off := 44) hx hb dX9_cost_9 (by decide) (by rw [c1]; rfl) (by decide) ?_
    refine lv_aload_n hx hb dX9_cost_53 rfl (lv_at hl 0 rfl) ?_
    refine va_get (D := (dC, dI)) (ci := 9) (v := .ref (q0 1)) (C := RX9) (T := TX9) (N := 11) hx hb hts inX9_cost_9 hown hK hP 0 rfl rfl 0 (by decide) (hts _ kX9_cost_2) (fun _ h9 => h9) rfl dX9_cost_54 ?_
    refine lv_aload_n hx hb dX9_cost_57 rfl (lv_at hl 0 rfl) ?_
    refine va_get (D := (dC, dI)) (ci := 9) (v := .ref (q0 13)) (C := RX9) (T := TX9) (N := 11) hx hb hts inX9_cost_9 hown hK hP 0 rfl rfl 2 (by decide) (hts _ kX9_cost_1) (fun _ h9 => h9) rfl dX9_cost_58 ?_
    refine va_get (D := (dC, dI)) (ci := 5) (v := .ref (q0 16)) (C := RX5) (T := TX5) (N := 3) hx hb hts inX9_cost_5 hown hK hP 13 rfl rfl 2 (by decide) (hts _ kX9_cost_3) (fun _ h9 => h9) rfl dX9_cost_61 ?_
    refine lv_iload_n hx hb dX9_cost_64 rfl (lv_at hl 1 rfl) ?_
    refine va_iald hx hb hK hP 16 0 rfl rfl h.1 dX9_cost_65 ?_
    have h := h.2
    refine cx_vi (As := [.int ((g5_cursor (g9_roster u0)) x1.toNatClampNeg)]) (rest := []) ⟨hx, hb, hml, hown, hts⟩ hl.1 ok_sxE hE hK hP hD hS hA (cut_39 cI q0 u0) (c_X2_undoCount (l := l) (dC := dC) (dI := dI) (cI := cI) (q0 := fun i => q0 (i + 1)) h) (cwV 1 hts gX9_cost_X2_undoCount rfl rfl rfl hdX2_undoCount ⟨Nat.le_of_ble_eq_true rfl, Nat.le_of_ble_eq_true rfl⟩) rfl rfl rfl rfl (Nat.le_of_ble_eq_true rfl) dX9_cost_66 rfl (fun r_2 _ H locs h hP hD hS => ?_)
    exact hret _ _ _ _ _ () dX9_cost_69 (vp_nar_int _) h hP hD hS
  have h := h.2 c1
  refine lv_lookup (tgt := 70) (off := 61) hx hb dX9_cost_9 (by decide) (by rw [show Op.lookupswitch.offset _ _ _ = _ from lv_osw c0 (by decide)]; rw [show Op.lookupswitch.offset _ _ _ = _ from lv_osw c1 (by decide)]; rfl) (by decide) ?_
  refine lv_iconst (v := 0) hx hb dX9_cost_70 (by decide) ?_
  exact hret _ _ _ _ _ () dX9_cost_71 (vp_nar_int _) h hP hD hS

abbrev rX9_flush : Room := { frames := 4, cells := 0, slots := 0, locals := 91 }
theorem hdX9_flush : yX9_flush.cls = RX9 ∧ yX9_flush.cls ≠ "java/lang/invoke/MethodHandle" ∧ yX9_flush.cls ≠ "java/lang/invoke/VarHandle" ∧ (parseMethodDescriptor yX9_flush.desc).map (fun d => d.parameters.length) = some 1 := by decide +kernel
theorem inX9_flush_9 : ∀ w ∈ wsX90, w ∈ wsX9_flush := by decide +kernel
theorem kX9_flush_0 : Cond.fieldLink RX9 12 "AheadStore$World" "journal" "LAheadStore$Journal;" ∈ wsX9_flush := by decide +kernel
theorem kX9_flush_1 : Cond.fieldLink RX9 53 "AheadStore$World" "up" "Z" ∈ wsX9_flush := by decide +kernel
set_option maxHeartbeats 4000000 in
set_option maxRecDepth 100000 in
theorem c_X9_flush {l : Launch} {dC : Nat → ClassId} {dI : Nat → Nat → Nat} {cI : ClassId} {q0 : Nat → Nat} {sz : Nat} {u0 : S9} {x1 : Int32} {Q : Int32 → S9 → Prop} (h : wp_X9_flush u0 x1 Q) : ctI sxE l yX9_flush wsX9_flush rX9_flush (dC, dI) vwCl [(cI, .int)] [.ref (q0 0), .int x1] (cs9 cI q0 u0) sz (fun (r : Int32) (v : S9) => Q r v) (fun (v : S9) => cs9 cI q0 v) := by
  refine mx_i (cc := cX9_flush) (maxL := 2) (ty := .boolean) (by decide) rfl (Nat.le_of_ble_eq_true rfl) ?_
  intro p e s m below meth c Z A ls args hx hb hml hown hts hA hP hK hD hE hl hret
  have hown : s.vm.findClass RX9 = some m.cls := hown
  have hl : lv_has ls 2 [(0, .ref (q0 0)), (1, .int x1)] := hl
  have w_24 : ∀ (x1 : Int32) (u0 : S9) (H : Heap) (locs : List Loc) (ls : Array Slot) (_ : va_P (dC, dI) vwCl (cs9 cI q0 u0) H) (_ : va_D A (cs9 cI q0 u0)) (_ : va_S A s.heap H locs) (_ : lv_has ls 2 [(0, .ref (q0 0)), (1, .int x1)]) (_ : wp_X9_flush_24 Q x1 u0), W p l e rX9_flush s m args below meth c H locs 0 0 Z (F0 m 24 ls []) := by
    intro x1 u0 H locs ls hP hD hS hl h
    refine lv_iload_n hx hb dX9_flush_24 rfl (lv_at hl 1 rfl) ?_
    refine lv_if_ne (tgt := 38) hx hb dX9_flush_25 (by decide) (fun cd => ?_) (fun cd => ?_)
    · have h := h.2 cd
      refine lv_aload_n hx hb dX9_flush_38 rfl (lv_at hl 0 rfl) ?_
      refine va_get (D := (dC, dI)) (ci := 9) (v := .ref (q0 1)) (C := RX9) (T := TX9) (N := 11) hx hb hts inX9_flush_9 hown hK hP 0 rfl rfl 0 (by decide) (hts _ kX9_flush_0) (fun _ h9 => h9) rfl dX9_flush_39 ?_
      refine lv_iload_n hx hb dX9_flush_42 rfl (lv_at hl 1 rfl) ?_
      refine cx_vv (As := [.int x1]) (rest := []) ⟨hx, hb, hml, hown, hts⟩ hl.1 ok_sxE hE hK hP hD hS hA (cut_34 cI q0 u0) (c_X2_flushThrough (l := l) (dC := dC) (dI := dI) (cI := cI) (q0 := fun i => q0 (i + 1)) h) (cwV 1 hts gX9_flush_X2_flushThrough rfl rfl rfl hdX2_flushThrough ⟨Nat.le_of_ble_eq_true rfl, Nat.le_of_ble_eq_true rfl⟩) rfl rfl rfl rfl (Nat.le_of_ble_eq_true rfl) dX9_flush_43 rfl (fun v_1 H locs h hP hD hS => ?_)
      obtain ⟨u0_2, e_u0_2⟩ : ∃ z, z = s9_journal u0 v_1 := ⟨_, rfl⟩
      have h := h u0_2 e_u0_2
      have hP : va_P (dC, dI) vwCl (cs9 cI q0 u0_2) H := by rw [e_u0_2]; exact hP
      have hD : va_D A (cs9 cI q0 u0_2) := by rw [e_u0_2]; exact hD
      refine lv_iconst (v := 1) hx hb dX9_flush_46 (by decide) ?_
      exact hret _ _ _ _ _ u0_2 dX9_flush_47 (by decide) h hP hD hS
    · have h := h.1 cd
      refine lv_aload_n hx hb dX9_flush_28 rfl (lv_at hl 0 rfl) ?_
      refine va_get (D := (dC, dI)) (ci := 9) (v := .ref (q0 1)) (C := RX9) (T := TX9) (N := 11) hx hb hts inX9_flush_9 hown hK hP 0 rfl rfl 0 (by decide) (hts _ kX9_flush_0) (fun _ h9 => h9) rfl dX9_flush_29 ?_
      refine cx_vv (As := []) (rest := []) ⟨hx, hb, hml, hown, hts⟩ hl.1 ok_sxE hE hK hP hD hS hA (cut_34 cI q0 u0) (c_X2_flushAll (l := l) (dC := dC) (dI := dI) (cI := cI) (q0 := fun i => q0 (i + 1)) h) (cwV 0 hts gX9_flush_X2_flushAll rfl rfl rfl hdX2_flushAll ⟨Nat.le_of_ble_eq_true rfl, Nat.le_of_ble_eq_true rfl⟩) rfl rfl rfl rfl (Nat.le_of_ble_eq_true rfl) dX9_flush_32 rfl (fun v_3 H locs h hP hD hS => ?_)
      obtain ⟨u0_4, e_u0_4⟩ : ∃ z, z = s9_journal u0 v_3 := ⟨_, rfl⟩
      have h := h u0_4 e_u0_4
      have hP : va_P (dC, dI) vwCl (cs9 cI q0 u0_4) H := by rw [e_u0_4]; exact hP
      have hD : va_D A (cs9 cI q0 u0_4) := by rw [e_u0_4]; exact hD
      refine lv_goto (tgt := 46) hx hb dX9_flush_35 (by decide) ?_
      refine lv_iconst (v := 1) hx hb dX9_flush_46 (by decide) ?_
      exact hret _ _ _ _ _ u0_4 dX9_flush_47 (by decide) h hP hD hS
  have hS : va_S A s.heap s.heap [] := va_S.rf
  refine lv_aload_n hx hb dX9_flush_0 rfl (lv_at hl 0 rfl) ?_
  refine va_get (D := (dC, dI)) (ci := 9) (v := .int (g9_up u0)) (C := RX9) (T := TX9) (N := 11) hx hb hts inX9_flush_9 hown hK hP 0 rfl rfl 6 (by decide) (hts _ kX9_flush_1) (fun _ h9 => h9) rfl dX9_flush_1 ?_
  refine lv_if_eq (tgt := 22) hx hb dX9_flush_4 (by decide) (fun cd => ?_) (fun cd => ?_)
  · have h := h.1 cd
    refine lv_iconst (v := 0) hx hb dX9_flush_22 (by decide) ?_
    exact hret _ _ _ _ _ u0 dX9_flush_23 (by decide) h hP hD hS
  · have h := h.2 cd
    refine lv_iload_n hx hb dX9_flush_7 rfl (lv_at hl 1 rfl) ?_
    refine lv_if_eq (tgt := 24) hx hb dX9_flush_8 (by decide) (fun cd => ?_) (fun cd => ?_)
    · have h := h.1 cd
      exact w_24 x1 u0 _ _ _ hP hD hS (lv_sub hl [0, 1] rfl) h
    · have h := h.2 cd
      refine lv_aload_n hx hb dX9_flush_11 rfl (lv_at hl 0 rfl) ?_
      refine va_get (D := (dC, dI)) (ci := 9) (v := .ref (q0 1)) (C := RX9) (T := TX9) (N := 11) hx hb hts inX9_flush_9 hown hK hP 0 rfl rfl 0 (by decide) (hts _ kX9_flush_0) (fun _ h9 => h9) rfl dX9_flush_12 ?_
      refine lv_iload_n hx hb dX9_flush_15 rfl (lv_at hl 1 rfl) ?_
      refine cx_vi (As := [.int x1]) (rest := []) ⟨hx, hb, hml, hown, hts⟩ hl.1 ok_sxE hE hK hP hD hS hA (cut_39 cI q0 u0) (c_X2_beginsAt (l := l) (dC := dC) (dI := dI) (cI := cI) (q0 := fun i => q0 (i + 1)) h) (cwV 1 hts gX9_flush_X2_beginsAt rfl rfl rfl hdX2_beginsAt ⟨Nat.le_of_ble_eq_true rfl, Nat.le_of_ble_eq_true rfl⟩) rfl rfl rfl rfl (Nat.le_of_ble_eq_true rfl) dX9_flush_16 rfl (fun r_5 _ H locs h hP hD hS => ?_)
      refine lv_if_ne (tgt := 24) hx hb dX9_flush_19 (by decide) (fun cd => ?_) (fun cd => ?_)
      · have h := h.2 cd
        exact w_24 x1 u0 _ _ _ hP hD hS (lv_sub hl [0, 1] rfl) h
      · have h := h.1 cd
        refine lv_iconst (v := 0) hx hb dX9_flush_22 (by decide) ?_
        exact hret _ _ _ _ _ u0 dX9_flush_23 (by decide) h hP hD hS

abbrev rX9_writePage : Room := { frames := 3, cells := 0, slots := 0, locals := 66 }
theorem hdX9_writePage : yX9_writePage.cls = RX9 ∧ yX9_writePage.cls ≠ "java/lang/invoke/MethodHandle" ∧ yX9_writePage.cls ≠ "java/lang/invoke/VarHandle" ∧ (parseMethodDescriptor yX9_writePage.desc).map (fun d => d.parameters.length) = some 1 := by decide +kernel
theorem inX9_writePage_3 : ∀ w ∈ wsX30, w ∈ wsX9_writePage := by decide +kernel
theorem inX9_writePage_9 : ∀ w ∈ wsX90, w ∈ wsX9_writePage := by decide +kernel
theorem kX9_writePage_0 : Cond.fieldLink RX9 12 "AheadStore$World" "journal" "LAheadStore$Journal;" ∈ wsX9_writePage := by decide +kernel
theorem kX9_writePage_1 : Cond.fieldLink RX9 21 "AheadStore$World" "pages" "LAheadStore$Pages;" ∈ wsX9_writePage := by decide +kernel
theorem kX9_writePage_2 : Cond.fieldLink RX9 216 "AheadStore$Pages" "recs" "[I" ∈ wsX9_writePage := by decide +kernel
theorem kX9_writePage_3 : Cond.initialized RX10 ∈ wsX9_writePage := by decide +kernel
theorem kX9_writePage_4 : Cond.static yX10_isPage ∈ wsX9_writePage := by decide +kernel
theorem kX9_writePage_5 : Cond.fieldLink RX9 53 "AheadStore$World" "up" "Z" ∈ wsX9_writePage := by decide +kernel
set_option maxHeartbeats 4000000 in
set_option maxRecDepth 100000 in
theorem c_X9_writePage {l : Launch} {dC : Nat → ClassId} {dI : Nat → Nat → Nat} {cI : ClassId} {q0 : Nat → Nat} {sz : Nat} {u0 : S9} {x1 : Int32} {Q : Int32 → S9 → Prop} (h : wp_X9_writePage u0 x1 Q) : ctI sxE l yX9_writePage wsX9_writePage rX9_writePage (dC, dI) vwCl [(cI, .int)] [.ref (q0 0), .int x1] (cs9 cI q0 u0) sz (fun (r : Int32) (v : S9) => Q r v) (fun (v : S9) => cs9 cI q0 v) := by
  refine mx_i (cc := cX9_writePage) (maxL := 3) (ty := .boolean) (by decide) rfl (Nat.le_of_ble_eq_true rfl) ?_
  intro p e s m below meth c Z A ls args hx hb hml hown hts hA hP hK hD hE hl hret
  have hown : s.vm.findClass RX9 = some m.cls := hown
  have hl : lv_has ls 3 [(0, .ref (q0 0)), (1, .int x1)] := hl
  have w_26 : ∀ (y0 : Int32) (u0 : S9) (H : Heap) (locs : List Loc) (ls : Array Slot) (_ : va_P (dC, dI) vwCl (cs9 cI q0 u0) H) (_ : va_D A (cs9 cI q0 u0)) (_ : va_S A s.heap H locs) (_ : lv_has ls 3 [(0, .ref (q0 0))]) (_ : wp_X9_writePage_26 Q y0 u0), W p l e rX9_writePage s m args below meth c H locs 0 0 Z (F0 m 26 ls [.int y0]) := by
    intro y0 u0 H locs ls hP hD hS hl h
    refine lv_istore_n (lv' := [(2, .int y0), (0, .ref (q0 0))]) hx hb dX9_writePage_26 rfl hl (by decide) rfl (fun ls hl => ?_)
    refine lv_iload_n hx hb dX9_writePage_27 rfl (lv_at hl 0 rfl) ?_
    refine lv_if_lt (tgt := 43) hx hb dX9_writePage_28 (by decide) (fun cd => ?_) (fun cd => ?_)
    · have h := h.1 cd
      refine lv_iconst (v := 0) hx hb dX9_writePage_43 (by decide) ?_
      exact hret _ _ _ _ _ u0 dX9_writePage_44 (by decide) h hP hD hS
    · have h := h.2 cd
      refine lv_aload_n hx hb dX9_writePage_31 rfl (lv_at hl 1 rfl) ?_
      refine va_get (D := (dC, dI)) (ci := 9) (v := .ref (q0 3)) (C := RX9) (T := TX9) (N := 11) hx hb hts inX9_writePage_9 hown hK hP 0 rfl rfl 1 (by decide) (hts _ kX9_writePage_1) (fun _ h9 => h9) rfl dX9_writePage_32 ?_
      refine va_get (D := (dC, dI)) (ci := 3) (v := .ref (q0 11)) (C := RX3) (T := TX3) (N := 12) hx hb hts inX9_writePage_3 hown hK hP 3 rfl rfl 9 (by decide) (hts _ kX9_writePage_2) (fun _ h9 => h9) rfl dX9_writePage_35 ?_
      refine lv_iload_n hx hb dX9_writePage_38 rfl (lv_at hl 0 rfl) ?_
      refine va_iald hx hb hK hP 11 0 rfl rfl h.1 dX9_writePage_39 ?_
      have h := h.2
      refine lv_if_ne (tgt := 45) hx hb dX9_writePage_40 (by decide) (fun cd => ?_) (fun cd => ?_)
      · have h := h.2 cd
        refine lv_aload_n hx hb dX9_writePage_45 rfl (lv_at hl 1 rfl) ?_
        refine va_get (D := (dC, dI)) (ci := 9) (v := .ref (q0 3)) (C := RX9) (T := TX9) (N := 11) hx hb hts inX9_writePage_9 hown hK hP 0 rfl rfl 1 (by decide) (hts _ kX9_writePage_1) (fun _ h9 => h9) rfl dX9_writePage_46 ?_
        refine lv_iload_n hx hb dX9_writePage_49 rfl (lv_at hl 0 rfl) ?_
        refine lv_aload_n hx hb dX9_writePage_50 rfl (lv_at hl 1 rfl) ?_
        refine va_get (D := (dC, dI)) (ci := 9) (v := .ref (q0 1)) (C := RX9) (T := TX9) (N := 11) hx hb hts inX9_writePage_9 hown hK hP 0 rfl rfl 0 (by decide) (hts _ kX9_writePage_0) (fun _ h9 => h9) rfl dX9_writePage_51 ?_
        refine cx_vv (As := [.int y0, .ref (q0 1)]) (rest := []) ⟨hx, hb, hml, hown, hts⟩ hl.1 ok_sxE hE hK hP hD hS hA (cut_40 cI q0 u0) (c_X3_writeOut (l := l) (dC := dC) (dI := dI) (cI := cI) (q0 := fun i => q0 (i + 3)) (q1 := fun i => q0 (i + 1)) h) (cwV 2 hts gX9_writePage_X3_writeOut rfl rfl rfl hdX3_writeOut ⟨Nat.le_of_ble_eq_true rfl, Nat.le_of_ble_eq_true rfl⟩) rfl rfl rfl rfl (Nat.le_of_ble_eq_true rfl) dX9_writePage_54 rfl (fun vv H locs h hP hD hS => ?_)
        obtain ⟨v_1, v_2⟩ := vv
        obtain ⟨u0_3, e_u0_3⟩ : ∃ z, z = s9_journal (s9_pages u0 v_1) v_2 := ⟨_, rfl⟩
        have h := h u0_3 e_u0_3
        have hP : va_P (dC, dI) vwCl (cs9 cI q0 u0_3) H := by rw [e_u0_3]; exact hP
        have hD : va_D A (cs9 cI q0 u0_3) := by rw [e_u0_3]; exact hD
        refine lv_iconst (v := 1) hx hb dX9_writePage_57 (by decide) ?_
        exact hret _ _ _ _ _ u0_3 dX9_writePage_58 (by decide) h hP hD hS
      · have h := h.1 cd
        refine lv_iconst (v := 0) hx hb dX9_writePage_43 (by decide) ?_
        exact hret _ _ _ _ _ u0 dX9_writePage_44 (by decide) h hP hD hS
  have w_25 : ∀ (k_26 : Int32 → S9 → Prop) (hk_26 : ∀ (y0 : Int32) (u0 : S9) (H : Heap) (locs : List Loc) (ls : Array Slot) (_ : va_P (dC, dI) vwCl (cs9 cI q0 u0) H) (_ : va_D A (cs9 cI q0 u0)) (_ : va_S A s.heap H locs) (_ : lv_has ls 3 [(0, .ref (q0 0))]) (_ : k_26 y0 u0), W p l e rX9_writePage s m args below meth c H locs 0 0 Z (F0 m 26 ls [.int y0])) (u0 : S9) (H : Heap) (locs : List Loc) (ls : Array Slot) (_ : va_P (dC, dI) vwCl (cs9 cI q0 u0) H) (_ : va_D A (cs9 cI q0 u0)) (_ : va_S A s.heap H locs) (_ : lv_has ls 3 [(0, .ref (q0 0))]) (_ : wp_X9_writePage_25 k_26 Q u0), W p l e rX9_writePage s m args below meth c H locs 0 0 Z (F0 m 25 ls []) := by
    intro k_26 hk_26 u0 H locs ls hP hD hS hl h
    refine lv_iconst (v := (-1)) hx hb dX9_writePage_25 (by decide) ?_
    exact hk_26 (-1) u0 _ _ _ hP hD hS (lv_sub hl [0] rfl) h
  have hS : va_S A s.heap s.heap [] := va_S.rf
  refine lv_aload_n hx hb dX9_writePage_0 rfl (lv_at hl 0 rfl) ?_
  refine va_get (D := (dC, dI)) (ci := 9) (v := .int (g9_up u0)) (C := RX9) (T := TX9) (N := 11) hx hb hts inX9_writePage_9 hown hK hP 0 rfl rfl 6 (by decide) (hts _ kX9_writePage_5) (fun _ h9 => h9) rfl dX9_writePage_1 ?_
  refine lv_if_eq (tgt := 25) hx hb dX9_writePage_4 (by decide) (fun cd => ?_) (fun cd => ?_)
  · have h := h.1 cd
    exact w_25 (fun y0 u0 => wp_X9_writePage_26 Q y0 u0) (fun y0 u0 H locs ls hP hD hS hl h => w_26 y0 u0 H locs ls hP hD hS hl h) u0 _ _ _ hP hD hS (lv_sub hl [0] rfl) h
  · have h := h.2 cd
    refine lv_iload_n hx hb dX9_writePage_7 rfl (lv_at hl 1 rfl) ?_
    refine cx_ni (As := [.int x1]) (rest := []) ⟨hx, hb, hml, hown, hts⟩ hl.1 ok_noE trivial hK hP hD hS hA (cut_42 cI q0 u0) (c_X10_isPage (l := l) (dC := dC) (dI := dI) (cI := cI) h) ⟨va_cnB 1 hts gX9_writePage_X10_isPage_n210 rfl rfl rfl (hE.1.1 (RX9, 210, yX10_isPage, "AheadStore") (List.mem_of_getElem? (i := 15) rfl)) (hts _ kX9_writePage_3) hdX10_isPage ⟨Nat.le_of_ble_eq_true rfl, Nat.le_of_ble_eq_true rfl⟩, hts _ kX9_writePage_4, trivial⟩ rfl (Nat.le_of_ble_eq_true rfl) dX9_writePage_8 rfl (fun r_4 _ H locs h hP hD hS => ?_)
    refine lv_if_eq (tgt := 25) hx hb dX9_writePage_11 (by decide) (fun cd => ?_) (fun cd => ?_)
    · have h := h.1 cd
      exact w_25 (fun y0 u0 => wp_X9_writePage_26 Q y0 u0) (fun y0 u0 H locs ls hP hD hS hl h => w_26 y0 u0 H locs ls hP hD hS hl h) u0 _ _ _ hP hD hS (lv_sub hl [0] rfl) h
    · have h := h.2 cd
      refine lv_aload_n hx hb dX9_writePage_14 rfl (lv_at hl 0 rfl) ?_
      refine va_get (D := (dC, dI)) (ci := 9) (v := .ref (q0 3)) (C := RX9) (T := TX9) (N := 11) hx hb hts inX9_writePage_9 hown hK hP 0 rfl rfl 1 (by decide) (hts _ kX9_writePage_1) (fun _ h9 => h9) rfl dX9_writePage_15 ?_
      refine lv_iload_n hx hb dX9_writePage_18 rfl (lv_at hl 1 rfl) ?_
      refine cx_vi (As := [.int x1]) (rest := []) ⟨hx, hb, hml, hown, hts⟩ hl.1 ok_sxE hE hK hP hD hS hA (cut_44 cI q0 u0) (c_X3_frameOf (l := l) (dC := dC) (dI := dI) (cI := cI) (q0 := fun i => q0 (i + 3)) h) (cwV 1 hts gX9_writePage_X3_frameOf rfl rfl rfl hdX3_frameOf ⟨Nat.le_of_ble_eq_true rfl, Nat.le_of_ble_eq_true rfl⟩) rfl rfl rfl rfl (Nat.le_of_ble_eq_true rfl) dX9_writePage_19 rfl (fun r_5 _ H locs h hP hD hS => ?_)
      refine lv_goto (tgt := 26) hx hb dX9_writePage_22 (by decide) ?_
      exact w_26 r_5 u0 _ _ _ hP hD hS (lv_sub hl [0] rfl) h

abbrev rX9_checkBegins : Room := { frames := 2, cells := 0, slots := 0, locals := 44 }
theorem hdX9_checkBegins : yX9_checkBegins.cls = RX9 ∧ yX9_checkBegins.cls ≠ "java/lang/invoke/MethodHandle" ∧ yX9_checkBegins.cls ≠ "java/lang/invoke/VarHandle" ∧ (parseMethodDescriptor yX9_checkBegins.desc).map (fun d => d.parameters.length) = some 0 := by decide +kernel
theorem inX9_checkBegins_9 : ∀ w ∈ wsX90, w ∈ wsX9_checkBegins := by decide +kernel
theorem kX9_checkBegins_0 : Cond.fieldLink RX9 61 "AheadStore$World" "openCheck" "I" ∈ wsX9_checkBegins := by decide +kernel
theorem kX9_checkBegins_1 : Cond.fieldLink RX9 12 "AheadStore$World" "journal" "LAheadStore$Journal;" ∈ wsX9_checkBegins := by decide +kernel
theorem kX9_checkBegins_2 : Cond.fieldLink RX9 53 "AheadStore$World" "up" "Z" ∈ wsX9_checkBegins := by decide +kernel
set_option maxHeartbeats 4000000 in
set_option maxRecDepth 100000 in
theorem c_X9_checkBegins {l : Launch} {dC : Nat → ClassId} {dI : Nat → Nat → Nat} {cI : ClassId} {q0 : Nat → Nat} {sz : Nat} {u0 : S9}  {Q : Int32 → S9 → Prop} (h : wp_X9_checkBegins u0 Q) : ctI sxE l yX9_checkBegins wsX9_checkBegins rX9_checkBegins (dC, dI) vwCl [(cI, .int)] [.ref (q0 0)] (cs9 cI q0 u0) sz (fun (r : Int32) (v : S9) => Q r v) (fun (v : S9) => cs9 cI q0 v) := by
  refine mx_i (cc := cX9_checkBegins) (maxL := 1) (ty := .boolean) (by decide) rfl (Nat.le_of_ble_eq_true rfl) ?_
  intro p e s m below meth c Z A ls args hx hb hml hown hts hA hP hK hD hE hl hret
  have hown : s.vm.findClass RX9 = some m.cls := hown
  have hl : lv_has ls 1 [(0, .ref (q0 0))] := hl
  have hS : va_S A s.heap s.heap [] := va_S.rf
  refine lv_aload_n hx hb dX9_checkBegins_0 rfl (lv_at hl 0 rfl) ?_
  refine va_get (D := (dC, dI)) (ci := 9) (v := .int (g9_up u0)) (C := RX9) (T := TX9) (N := 11) hx hb hts inX9_checkBegins_9 hown hK hP 0 rfl rfl 6 (by decide) (hts _ kX9_checkBegins_2) (fun _ h9 => h9) rfl dX9_checkBegins_1 ?_
  refine lv_if_eq (tgt := 21) hx hb dX9_checkBegins_4 (by decide) (fun cd => ?_) (fun cd => ?_)
  · have h := h.1 cd
    refine lv_iconst (v := 0) hx hb dX9_checkBegins_21 (by decide) ?_
    exact hret _ _ _ _ _ u0 dX9_checkBegins_22 (by decide) h hP hD hS
  · have h := h.2 cd
    refine lv_aload_n hx hb dX9_checkBegins_7 rfl (lv_at hl 0 rfl) ?_
    refine va_get (D := (dC, dI)) (ci := 9) (v := .int (g9_openCheck u0)) (C := RX9) (T := TX9) (N := 11) hx hb hts inX9_checkBegins_9 hown hK hP 0 rfl rfl 8 (by decide) (hts _ kX9_checkBegins_0) (fun _ h9 => h9) rfl dX9_checkBegins_8 ?_
    refine lv_if_ne (tgt := 21) hx hb dX9_checkBegins_11 (by decide) (fun cd => ?_) (fun cd => ?_)
    · have h := h.2 cd
      refine lv_iconst (v := 0) hx hb dX9_checkBegins_21 (by decide) ?_
      exact hret _ _ _ _ _ u0 dX9_checkBegins_22 (by decide) h hP hD hS
    · have h := h.1 cd
      refine lv_aload_n hx hb dX9_checkBegins_14 rfl (lv_at hl 0 rfl) ?_
      refine cx_vi (As := []) (rest := []) ⟨hx, hb, hml, hown, hts⟩ hl.1 ok_sxE hE hK hP hD hS hA (cut_43 cI q0 u0) (c_X9_isFull (l := l) (dC := dC) (dI := dI) (cI := cI) (q0 := q0) h) (cwV 0 hts gX9_checkBegins_X9_isFull rfl rfl rfl hdX9_isFull ⟨Nat.le_of_ble_eq_true rfl, Nat.le_of_ble_eq_true rfl⟩) rfl rfl rfl rfl (Nat.le_of_ble_eq_true rfl) dX9_checkBegins_15 rfl (fun r_1 _ H locs h hP hD hS => ?_)
      refine lv_if_eq (tgt := 23) hx hb dX9_checkBegins_18 (by decide) (fun cd => ?_) (fun cd => ?_)
      · have h := h.1 cd
        refine lv_aload_n hx hb dX9_checkBegins_23 rfl (lv_at hl 0 rfl) ?_
        refine va_get (D := (dC, dI)) (ci := 9) (v := .ref (q0 1)) (C := RX9) (T := TX9) (N := 11) hx hb hts inX9_checkBegins_9 hown hK hP 0 rfl rfl 0 (by decide) (hts _ kX9_checkBegins_1) (fun _ h9 => h9) rfl dX9_checkBegins_24 ?_
        refine lv_bipush (v := 8) hx hb dX9_checkBegins_27 (by decide) ?_
        refine lv_iconst (v := 0) hx hb dX9_checkBegins_29 (by decide) ?_
        refine lv_iconst (v := 0) hx hb dX9_checkBegins_30 (by decide) ?_
        refine cx_vv (As := [.int 8, .int 0, .int 0]) (rest := []) ⟨hx, hb, hml, hown, hts⟩ hl.1 ok_sxE hE hK hP hD hS hA (cut_34 cI q0 u0) (c_X2_start (l := l) (dC := dC) (dI := dI) (cI := cI) (q0 := fun i => q0 (i + 1)) h) (cwV 3 hts gX9_checkBegins_X2_start rfl rfl rfl hdX2_start ⟨Nat.le_of_ble_eq_true rfl, Nat.le_of_ble_eq_true rfl⟩) rfl rfl rfl rfl (Nat.le_of_ble_eq_true rfl) dX9_checkBegins_31 rfl (fun v_2 H locs h hP hD hS => ?_)
        obtain ⟨u0_3, e_u0_3⟩ : ∃ z, z = s9_journal u0 v_2 := ⟨_, rfl⟩
        have h := h u0_3 e_u0_3
        have hP : va_P (dC, dI) vwCl (cs9 cI q0 u0_3) H := by rw [e_u0_3]; exact hP
        have hD : va_D A (cs9 cI q0 u0_3) := by rw [e_u0_3]; exact hD
        refine lv_aload_n hx hb dX9_checkBegins_34 rfl (lv_at hl 0 rfl) ?_
        refine lv_aload_n hx hb dX9_checkBegins_35 rfl (lv_at hl 0 rfl) ?_
        refine va_get (D := (dC, dI)) (ci := 9) (v := .ref (q0 1)) (C := RX9) (T := TX9) (N := 11) hx hb hts inX9_checkBegins_9 hown hK hP 0 rfl rfl 0 (by decide) (hts _ kX9_checkBegins_1) (fun _ h9 => h9) rfl dX9_checkBegins_36 ?_
        refine cx_vi (As := []) (rest := [.ref (q0 0)]) ⟨hx, hb, hml, hown, hts⟩ hl.1 ok_sxE hE hK hP hD hS hA (cut_34 cI q0 u0_3) (c_X2_seal (l := l) (dC := dC) (dI := dI) (cI := cI) (q0 := fun i => q0 (i + 1)) h) (cwV 0 hts gX9_checkBegins_X2_seal rfl rfl rfl hdX2_seal ⟨Nat.le_of_ble_eq_true rfl, Nat.le_of_ble_eq_true rfl⟩) rfl rfl rfl rfl (Nat.le_of_ble_eq_true rfl) dX9_checkBegins_39 rfl (fun r_4 v_5 H locs h hP hD hS => ?_)
        obtain ⟨u0_6, e_u0_6⟩ : ∃ z, z = s9_journal u0_3 v_5 := ⟨_, rfl⟩
        have h := h u0_6 e_u0_6
        have hP : va_P (dC, dI) vwCl (cs9 cI q0 u0_6) H := by rw [e_u0_6]; exact hP
        have hD : va_D A (cs9 cI q0 u0_6) := by rw [e_u0_6]; exact hD
        refine va_put (D := (dC, dI)) (ci := 9) (v := .int r_4) (ty := .int) (C := RX9) (T := TX9) (N := 11) hx hb hts inX9_checkBegins_9 tyX9 tyX9_ok nmX9 hown hK hP hD hS 0 rfl rfl 8 (by decide) (hts _ kX9_checkBegins_0) (fun _ h9 => h9) rfl (tyX9_ok 8 (by decide)) rfl rfl (Nat.le_of_ble_eq_true rfl) dX9_checkBegins_42 (fun H locs hP hD hS => ?_)
        obtain ⟨u0_7, e_u0_7⟩ : ∃ z, z = s9_openCheck u0_6 r_4 := ⟨_, rfl⟩
        have h := h u0_7 e_u0_7
        have hP : va_P (dC, dI) vwCl (cs9 cI q0 u0_7) H := by rw [e_u0_7]; exact hP
        have hD : va_D A (cs9 cI q0 u0_7) := by rw [e_u0_7]; exact hD
        refine lv_iconst (v := 1) hx hb dX9_checkBegins_45 (by decide) ?_
        exact hret _ _ _ _ _ u0_7 dX9_checkBegins_46 (by decide) h hP hD hS
      · have h := h.2 cd
        refine lv_iconst (v := 0) hx hb dX9_checkBegins_21 (by decide) ?_
        exact hret _ _ _ _ _ u0 dX9_checkBegins_22 (by decide) h hP hD hS

set_option maxRecDepth 100000 in
theorem cut_46 (cI : ClassId) (q0 : Nat → Nat) (u0 : S9) : Cut (cs9 cI q0 u0) (cs5 cI (fun i => q0 (i + 13)) (g9_roster u0)) (fun _ : Unit => cs5 cI (fun i => q0 (i + 13)) (g9_roster u0)) (fun _ : Unit => cs9 cI q0 u0) := ⟨[13, 14, 15, 16], [0, 1, 2, 3, 4, 5, 6, 7, 8, 9, 10, 11, 12, 17, 18, 19, 20, 21, 22, 23, 24, 25, 26, 27, 28, 29], rfl, rfl, rfl, by decide, by decide, fun _ => ⟨[0, 1, 2, 3, 4, 5, 6, 7, 8, 9, 10, 11, 12, 26, 27, 28, 29, 13, 14, 15, 16, 17, 18, 19, 20, 21, 22, 23, 24, 25], rfl, rfl⟩⟩

abbrev rX9_checkEnds : Room := { frames := 2, cells := 0, slots := 0, locals := 44 }
theorem hdX9_checkEnds : yX9_checkEnds.cls = RX9 ∧ yX9_checkEnds.cls ≠ "java/lang/invoke/MethodHandle" ∧ yX9_checkEnds.cls ≠ "java/lang/invoke/VarHandle" ∧ (parseMethodDescriptor yX9_checkEnds.desc).map (fun d => d.parameters.length) = some 0 := by decide +kernel
theorem inX9_checkEnds_3 : ∀ w ∈ wsX30, w ∈ wsX9_checkEnds := by decide +kernel
theorem inX9_checkEnds_5 : ∀ w ∈ wsX50, w ∈ wsX9_checkEnds := by decide +kernel
theorem inX9_checkEnds_9 : ∀ w ∈ wsX90, w ∈ wsX9_checkEnds := by decide +kernel
theorem kX9_checkEnds_0 : Cond.fieldLink RX9 61 "AheadStore$World" "openCheck" "I" ∈ wsX9_checkEnds := by decide +kernel
theorem kX9_checkEnds_1 : Cond.fieldLink RX9 57 "AheadStore$World" "master" "I" ∈ wsX9_checkEnds := by decide +kernel
theorem kX9_checkEnds_2 : Cond.fieldLink RX9 12 "AheadStore$World" "journal" "LAheadStore$Journal;" ∈ wsX9_checkEnds := by decide +kernel
theorem kX9_checkEnds_3 : Cond.fieldLink RX9 216 "AheadStore$Pages" "recs" "[I" ∈ wsX9_checkEnds := by decide +kernel
theorem kX9_checkEnds_4 : Cond.fieldLink RX9 21 "AheadStore$World" "pages" "LAheadStore$Pages;" ∈ wsX9_checkEnds := by decide +kernel
theorem kX9_checkEnds_5 : Cond.fieldLink RX9 85 "AheadStore$Roster" "last" "[I" ∈ wsX9_checkEnds := by decide +kernel
theorem kX9_checkEnds_6 : Cond.fieldLink RX9 28 "AheadStore$World" "roster" "LAheadStore$Roster;" ∈ wsX9_checkEnds := by decide +kernel
theorem kX9_checkEnds_7 : Cond.fieldLink RX9 77 "AheadStore$Roster" "is" "[I" ∈ wsX9_checkEnds := by decide +kernel
theorem kX9_checkEnds_8 : Cond.fieldLink RX9 53 "AheadStore$World" "up" "Z" ∈ wsX9_checkEnds := by decide +kernel
set_option maxHeartbeats 4000000 in
set_option maxRecDepth 100000 in
theorem c_X9_checkEnds {l : Launch} {dC : Nat → ClassId} {dI : Nat → Nat → Nat} {cI : ClassId} {q0 : Nat → Nat} {sz : Nat} {u0 : S9}  {Q : Int32 → S9 → Prop} (h : wp_X9_checkEnds u0 Q) : ctI sxE l yX9_checkEnds wsX9_checkEnds rX9_checkEnds (dC, dI) vwCl [(cI, .int)] [.ref (q0 0)] (cs9 cI q0 u0) sz (fun (r : Int32) (v : S9) => Q r v) (fun (v : S9) => cs9 cI q0 v) := by
  refine mx_i (cc := cX9_checkEnds) (maxL := 4) (ty := .boolean) (by decide) rfl (Nat.le_of_ble_eq_true rfl) ?_
  intro p e s m below meth c Z A ls args hx hb hml hown hts hA hP hK hD hE hl hret
  have hown : s.vm.findClass RX9 = some m.cls := hown
  have hl : lv_has ls 4 [(0, .ref (q0 0))] := hl
  have w_200 : ∀ (k_145 : Int32 → S9 → Prop) (hk_145 : ∀ (x2 : Int32) (u0 : S9) (H : Heap) (locs : List Loc) (ls : Array Slot) (_ : va_P (dC, dI) vwCl (cs9 cI q0 u0) H) (_ : va_D A (cs9 cI q0 u0)) (_ : va_S A s.heap H locs) (_ : lv_has ls 4 [(0, .ref (q0 0)), (2, .int x2)]) (_ : k_145 x2 u0), W p l e rX9_checkEnds s m args below meth c H locs 0 0 Z (F0 m 145 ls [])) (x2 : Int32) (u0 : S9) (H : Heap) (locs : List Loc) (ls : Array Slot) (_ : va_P (dC, dI) vwCl (cs9 cI q0 u0) H) (_ : va_D A (cs9 cI q0 u0)) (_ : va_S A s.heap H locs) (_ : lv_has ls 4 [(0, .ref (q0 0)), (2, .int x2)]) (_ : wp_X9_checkEnds_200 k_145 Q x2 u0), W p l e rX9_checkEnds s m args below meth c H locs 0 0 Z (F0 m 200 ls []) := by
    intro k_145 hk_145 x2 u0 H locs ls hP hD hS hl h
    obtain ⟨x2_1, e_x2_1⟩ : ∃ z : Int32, z = x2 + 1 := ⟨_, rfl⟩
    have h := h x2_1 e_x2_1
    refine lv_iinc (v := x2_1) (lv' := [(2, .int x2_1), (0, .ref (q0 0))]) hx hb dX9_checkEnds_200 hl (k := 1) rfl (by rw [e_x2_1]; rfl) (by decide) rfl (fun ls hl => ?_)
    refine lv_goto (tgt := 145) hx hb dX9_checkEnds_203 (by decide) ?_
    exact hk_145 x2_1 u0 _ _ _ hP hD hS (lv_sub hl [1, 0] rfl) h
  have w_145 : ∀ (n : Nat) (x2 : Int32) (u0 : S9) (H : Heap) (locs : List Loc) (ls : Array Slot) (_ : va_P (dC, dI) vwCl (cs9 cI q0 u0) H) (_ : va_D A (cs9 cI q0 u0)) (_ : va_S A s.heap H locs) (_ : lv_has ls 4 [(0, .ref (q0 0)), (2, .int x2)]) (_ : wp_X9_checkEnds_145 Q n x2 u0), W p l e rX9_checkEnds s m args below meth c H locs 0 0 Z (F0 m 145 ls []) := by
    intro n
    induction n with
    | zero => intro x2 u0 H locs ls hP hD hS hl h; exact False.elim h
    | succ n ih =>
      intro x2 u0 H locs ls hP hD hS hl h
      refine lv_iload_n hx hb dX9_checkEnds_145 rfl (lv_at hl 1 rfl) ?_
      refine lv_bipush (v := 16) hx hb dX9_checkEnds_146 (by decide) ?_
      refine lv_icmp_ge (tgt := 206) hx hb dX9_checkEnds_148 (by decide) (fun cd => ?_) (fun cd => ?_)
      · have h := h.1 cd
        refine lv_aload_n hx hb dX9_checkEnds_206 rfl (lv_at hl 0 rfl) ?_
        refine va_get (D := (dC, dI)) (ci := 9) (v := .ref (q0 1)) (C := RX9) (T := TX9) (N := 11) hx hb hts inX9_checkEnds_9 hown hK hP 0 rfl rfl 0 (by decide) (hts _ kX9_checkEnds_2) (fun _ h9 => h9) rfl dX9_checkEnds_207 ?_
        refine lv_aload_n hx hb dX9_checkEnds_210 rfl (lv_at hl 0 rfl) ?_
        refine va_get (D := (dC, dI)) (ci := 9) (v := .ref (q0 1)) (C := RX9) (T := TX9) (N := 11) hx hb hts inX9_checkEnds_9 hown hK hP 0 rfl rfl 0 (by decide) (hts _ kX9_checkEnds_2) (fun _ h9 => h9) rfl dX9_checkEnds_211 ?_
        refine cx_vi (As := []) (rest := [.ref (q0 1)]) ⟨hx, hb, hml, hown, hts⟩ hl.1 ok_sxE hE hK hP hD hS hA (cut_34 cI q0 u0) (c_X2_seal (l := l) (dC := dC) (dI := dI) (cI := cI) (q0 := fun i => q0 (i + 1)) h) (cwV 0 hts gX9_checkEnds_X2_seal rfl rfl rfl hdX2_seal ⟨Nat.le_of_ble_eq_true rfl, Nat.le_of_ble_eq_true rfl⟩) rfl rfl rfl rfl (Nat.le_of_ble_eq_true rfl) dX9_checkEnds_214 rfl (fun r_2 v_3 H locs h hP hD hS => ?_)
        obtain ⟨u0_4, e_u0_4⟩ : ∃ z, z = s9_journal u0 v_3 := ⟨_, rfl⟩
        have h := h u0_4 e_u0_4
        have hP : va_P (dC, dI) vwCl (cs9 cI q0 u0_4) H := by rw [e_u0_4]; exact hP
        have hD : va_D A (cs9 cI q0 u0_4) := by rw [e_u0_4]; exact hD
        refine cx_vv (As := [.int r_2]) (rest := []) ⟨hx, hb, hml, hown, hts⟩ hl.1 ok_sxE hE hK hP hD hS hA (cut_34 cI q0 u0_4) (c_X2_flushThrough (l := l) (dC := dC) (dI := dI) (cI := cI) (q0 := fun i => q0 (i + 1)) h) (cwV 1 hts gX9_checkEnds_X2_flushThrough rfl rfl rfl hdX2_flushThrough ⟨Nat.le_of_ble_eq_true rfl, Nat.le_of_ble_eq_true rfl⟩) rfl rfl rfl rfl (Nat.le_of_ble_eq_true rfl) dX9_checkEnds_217 rfl (fun v_5 H locs h hP hD hS => ?_)
        obtain ⟨u0_6, e_u0_6⟩ : ∃ z, z = s9_journal u0_4 v_5 := ⟨_, rfl⟩
        have h := h u0_6 e_u0_6
        have hP : va_P (dC, dI) vwCl (cs9 cI q0 u0_6) H := by rw [e_u0_6]; exact hP
        have hD : va_D A (cs9 cI q0 u0_6) := by rw [e_u0_6]; exact hD
        refine lv_aload_n hx hb dX9_checkEnds_220 rfl (lv_at hl 0 rfl) ?_
        refine lv_aload_n hx hb dX9_checkEnds_221 rfl (lv_at hl 0 rfl) ?_
        refine va_get (D := (dC, dI)) (ci := 9) (v := .int (g9_openCheck u0_6)) (C := RX9) (T := TX9) (N := 11) hx hb hts inX9_checkEnds_9 hown hK hP 0 rfl rfl 8 (by decide) (hts _ kX9_checkEnds_0) (fun _ h9 => h9) rfl dX9_checkEnds_222 ?_
        refine va_put (D := (dC, dI)) (ci := 9) (v := .int (g9_openCheck u0_6)) (ty := .int) (C := RX9) (T := TX9) (N := 11) hx hb hts inX9_checkEnds_9 tyX9 tyX9_ok nmX9 hown hK hP hD hS 0 rfl rfl 7 (by decide) (hts _ kX9_checkEnds_1) (fun _ h9 => h9) rfl (tyX9_ok 7 (by decide)) rfl rfl (Nat.le_of_ble_eq_true rfl) dX9_checkEnds_225 (fun H locs hP hD hS => ?_)
        obtain ⟨u0_7, e_u0_7⟩ : ∃ z, z = s9_master u0_6 (g9_openCheck u0_6) := ⟨_, rfl⟩
        have h := h u0_7 e_u0_7
        have hP : va_P (dC, dI) vwCl (cs9 cI q0 u0_7) H := by rw [e_u0_7]; exact hP
        have hD : va_D A (cs9 cI q0 u0_7) := by rw [e_u0_7]; exact hD
        refine lv_aload_n hx hb dX9_checkEnds_228 rfl (lv_at hl 0 rfl) ?_
        refine lv_iconst (v := 0) hx hb dX9_checkEnds_229 (by decide) ?_
        refine va_put (D := (dC, dI)) (ci := 9) (v := .int 0) (ty := .int) (C := RX9) (T := TX9) (N := 11) hx hb hts inX9_checkEnds_9 tyX9 tyX9_ok nmX9 hown hK hP hD hS 0 rfl rfl 8 (by decide) (hts _ kX9_checkEnds_0) (fun _ h9 => h9) rfl (tyX9_ok 8 (by decide)) rfl rfl (Nat.le_of_ble_eq_true rfl) dX9_checkEnds_230 (fun H locs hP hD hS => ?_)
        obtain ⟨u0_8, e_u0_8⟩ : ∃ z, z = s9_openCheck u0_7 0 := ⟨_, rfl⟩
        have h := h u0_8 e_u0_8
        have hP : va_P (dC, dI) vwCl (cs9 cI q0 u0_8) H := by rw [e_u0_8]; exact hP
        have hD : va_D A (cs9 cI q0 u0_8) := by rw [e_u0_8]; exact hD
        refine lv_iconst (v := 1) hx hb dX9_checkEnds_233 (by decide) ?_
        exact hret _ _ _ _ _ u0_8 dX9_checkEnds_234 (by decide) h hP hD hS
      · have h := h.2 cd
        refine lv_aload_n hx hb dX9_checkEnds_151 rfl (lv_at hl 0 rfl) ?_
        refine va_get (D := (dC, dI)) (ci := 9) (v := .ref (q0 3)) (C := RX9) (T := TX9) (N := 11) hx hb hts inX9_checkEnds_9 hown hK hP 0 rfl rfl 1 (by decide) (hts _ kX9_checkEnds_4) (fun _ h9 => h9) rfl dX9_checkEnds_152 ?_
        refine lv_iload_n hx hb dX9_checkEnds_155 rfl (lv_at hl 1 rfl) ?_
        refine cx_vi (As := [.int x2]) (rest := []) ⟨hx, hb, hml, hown, hts⟩ hl.1 ok_sxE hE hK hP hD hS hA (cut_44 cI q0 u0) (c_X3_frameOf (l := l) (dC := dC) (dI := dI) (cI := cI) (q0 := fun i => q0 (i + 3)) h) (cwV 1 hts gX9_checkEnds_X3_frameOf rfl rfl rfl hdX3_frameOf ⟨Nat.le_of_ble_eq_true rfl, Nat.le_of_ble_eq_true rfl⟩) rfl rfl rfl rfl (Nat.le_of_ble_eq_true rfl) dX9_checkEnds_156 rfl (fun r_9 _ H locs h hP hD hS => ?_)
        refine lv_istore_n (lv' := [(3, .int r_9), (0, .ref (q0 0)), (2, .int x2)]) hx hb dX9_checkEnds_159 rfl hl (by decide) rfl (fun ls hl => ?_)
        refine lv_iload_n hx hb dX9_checkEnds_160 rfl (lv_at hl 0 rfl) ?_
        refine lv_if_lt (tgt := 200) hx hb dX9_checkEnds_161 (by decide) (fun cd => ?_) (fun cd => ?_)
        · have h := h.1 cd
          exact w_200 (fun x2 u0 => wp_X9_checkEnds_145 Q n x2 u0) (fun x2 u0 H locs ls hP hD hS hl h => ih x2 u0 H locs ls hP hD hS hl h) x2 u0 _ _ _ hP hD hS (lv_sub hl [1, 2] rfl) h
        · have h := h.2 cd
          refine lv_aload_n hx hb dX9_checkEnds_164 rfl (lv_at hl 1 rfl) ?_
          refine va_get (D := (dC, dI)) (ci := 9) (v := .ref (q0 3)) (C := RX9) (T := TX9) (N := 11) hx hb hts inX9_checkEnds_9 hown hK hP 0 rfl rfl 1 (by decide) (hts _ kX9_checkEnds_4) (fun _ h9 => h9) rfl dX9_checkEnds_165 ?_
          refine va_get (D := (dC, dI)) (ci := 3) (v := .ref (q0 11)) (C := RX3) (T := TX3) (N := 12) hx hb hts inX9_checkEnds_3 hown hK hP 3 rfl rfl 9 (by decide) (hts _ kX9_checkEnds_3) (fun _ h9 => h9) rfl dX9_checkEnds_168 ?_
          refine lv_iload_n hx hb dX9_checkEnds_171 rfl (lv_at hl 0 rfl) ?_
          refine va_iald hx hb hK hP 11 0 rfl rfl h.1 dX9_checkEnds_172 ?_
          have h := h.2
          refine lv_if_eq (tgt := 200) hx hb dX9_checkEnds_173 (by decide) (fun cd => ?_) (fun cd => ?_)
          · have h := h.1 cd
            exact w_200 (fun x2 u0 => wp_X9_checkEnds_145 Q n x2 u0) (fun x2 u0 H locs ls hP hD hS hl h => ih x2 u0 H locs ls hP hD hS hl h) x2 u0 _ _ _ hP hD hS (lv_sub hl [1, 2] rfl) h
          · have h := h.2 cd
            refine lv_aload_n hx hb dX9_checkEnds_176 rfl (lv_at hl 1 rfl) ?_
            refine va_get (D := (dC, dI)) (ci := 9) (v := .ref (q0 1)) (C := RX9) (T := TX9) (N := 11) hx hb hts inX9_checkEnds_9 hown hK hP 0 rfl rfl 0 (by decide) (hts _ kX9_checkEnds_2) (fun _ h9 => h9) rfl dX9_checkEnds_177 ?_
            refine lv_iload_n hx hb dX9_checkEnds_180 rfl (lv_at hl 2 rfl) ?_
            refine cx_vv (As := [.int x2]) (rest := []) ⟨hx, hb, hml, hown, hts⟩ hl.1 ok_sxE hE hK hP hD hS hA (cut_34 cI q0 u0) (c_X2_put (l := l) (dC := dC) (dI := dI) (cI := cI) (q0 := fun i => q0 (i + 1)) h) (cwV 1 hts gX9_checkEnds_X2_put rfl rfl rfl hdX2_put ⟨Nat.le_of_ble_eq_true rfl, Nat.le_of_ble_eq_true rfl⟩) rfl rfl rfl rfl (Nat.le_of_ble_eq_true rfl) dX9_checkEnds_181 rfl (fun v_10 H locs h hP hD hS => ?_)
            obtain ⟨u0_11, e_u0_11⟩ : ∃ z, z = s9_journal u0 v_10 := ⟨_, rfl⟩
            have h := h u0_11 e_u0_11
            have hP : va_P (dC, dI) vwCl (cs9 cI q0 u0_11) H := by rw [e_u0_11]; exact hP
            have hD : va_D A (cs9 cI q0 u0_11) := by rw [e_u0_11]; exact hD
            refine lv_aload_n hx hb dX9_checkEnds_184 rfl (lv_at hl 1 rfl) ?_
            refine va_get (D := (dC, dI)) (ci := 9) (v := .ref (q0 1)) (C := RX9) (T := TX9) (N := 11) hx hb hts inX9_checkEnds_9 hown hK hP 0 rfl rfl 0 (by decide) (hts _ kX9_checkEnds_2) (fun _ h9 => h9) rfl dX9_checkEnds_185 ?_
            refine lv_aload_n hx hb dX9_checkEnds_188 rfl (lv_at hl 1 rfl) ?_
            refine va_get (D := (dC, dI)) (ci := 9) (v := .ref (q0 3)) (C := RX9) (T := TX9) (N := 11) hx hb hts inX9_checkEnds_9 hown hK hP 0 rfl rfl 1 (by decide) (hts _ kX9_checkEnds_4) (fun _ h9 => h9) rfl dX9_checkEnds_189 ?_
            refine va_get (D := (dC, dI)) (ci := 3) (v := .ref (q0 11)) (C := RX3) (T := TX3) (N := 12) hx hb hts inX9_checkEnds_3 hown hK hP 3 rfl rfl 9 (by decide) (hts _ kX9_checkEnds_3) (fun _ h9 => h9) rfl dX9_checkEnds_192 ?_
            refine lv_iload_n hx hb dX9_checkEnds_195 rfl (lv_at hl 0 rfl) ?_
            refine va_iald hx hb hK hP 11 0 rfl rfl h.1 dX9_checkEnds_196 ?_
            have h := h.2
            refine cx_vv (As := [.int ((g3_recs (g9_pages u0_11)) r_9.toNatClampNeg)]) (rest := []) ⟨hx, hb, hml, hown, hts⟩ hl.1 ok_sxE hE hK hP hD hS hA (cut_34 cI q0 u0_11) (c_X2_putPair (l := l) (dC := dC) (dI := dI) (cI := cI) (q0 := fun i => q0 (i + 1)) h) (cwV 1 hts gX9_checkEnds_X2_putPair rfl rfl rfl hdX2_putPair ⟨Nat.le_of_ble_eq_true rfl, Nat.le_of_ble_eq_true rfl⟩) rfl rfl rfl rfl (Nat.le_of_ble_eq_true rfl) dX9_checkEnds_197 rfl (fun v_12 H locs h hP hD hS => ?_)
            obtain ⟨u0_13, e_u0_13⟩ : ∃ z, z = s9_journal u0_11 v_12 := ⟨_, rfl⟩
            have h := h u0_13 e_u0_13
            have hP : va_P (dC, dI) vwCl (cs9 cI q0 u0_13) H := by rw [e_u0_13]; exact hP
            have hD : va_D A (cs9 cI q0 u0_13) := by rw [e_u0_13]; exact hD
            exact w_200 (fun x2 u0 => wp_X9_checkEnds_145 Q n x2 u0) (fun x2 u0 H locs ls hP hD hS hl h => ih x2 u0 H locs ls hP hD hS hl h) x2 u0_13 _ _ _ hP hD hS (lv_sub hl [1, 2] rfl) h
  have w_123 : ∀ (k_65 : Int32 → S9 → Prop) (hk_65 : ∀ (x2 : Int32) (u0 : S9) (H : Heap) (locs : List Loc) (ls : Array Slot) (_ : va_P (dC, dI) vwCl (cs9 cI q0 u0) H) (_ : va_D A (cs9 cI q0 u0)) (_ : va_S A s.heap H locs) (_ : lv_has ls 4 [(0, .ref (q0 0)), (2, .int x2)]) (_ : k_65 x2 u0), W p l e rX9_checkEnds s m args below meth c H locs 0 0 Z (F0 m 65 ls [])) (x2 : Int32) (u0 : S9) (H : Heap) (locs : List Loc) (ls : Array Slot) (_ : va_P (dC, dI) vwCl (cs9 cI q0 u0) H) (_ : va_D A (cs9 cI q0 u0)) (_ : va_S A s.heap H locs) (_ : lv_has ls 4 [(0, .ref (q0 0)), (2, .int x2)]) (_ : wp_X9_checkEnds_123 k_65 Q x2 u0), W p l e rX9_checkEnds s m args below meth c H locs 0 0 Z (F0 m 123 ls []) := by
    intro k_65 hk_65 x2 u0 H locs ls hP hD hS hl h
    obtain ⟨x2_14, e_x2_14⟩ : ∃ z : Int32, z = x2 + 1 := ⟨_, rfl⟩
    have h := h x2_14 e_x2_14
    refine lv_iinc (v := x2_14) (lv' := [(2, .int x2_14), (0, .ref (q0 0))]) hx hb dX9_checkEnds_123 hl (k := 1) rfl (by rw [e_x2_14]; rfl) (by decide) rfl (fun ls hl => ?_)
    refine lv_goto (tgt := 65) hx hb dX9_checkEnds_126 (by decide) ?_
    exact hk_65 x2_14 u0 _ _ _ hP hD hS (lv_sub hl [1, 0] rfl) h
  have w_65 : ∀ (n : Nat) (x2 : Int32) (u0 : S9) (H : Heap) (locs : List Loc) (ls : Array Slot) (_ : va_P (dC, dI) vwCl (cs9 cI q0 u0) H) (_ : va_D A (cs9 cI q0 u0)) (_ : va_S A s.heap H locs) (_ : lv_has ls 4 [(0, .ref (q0 0)), (2, .int x2)]) (_ : wp_X9_checkEnds_65 Q n x2 u0), W p l e rX9_checkEnds s m args below meth c H locs 0 0 Z (F0 m 65 ls []) := by
    intro n
    induction n with
    | zero => intro x2 u0 H locs ls hP hD hS hl h; exact False.elim h
    | succ n ih =>
      intro x2 u0 H locs ls hP hD hS hl h
      refine lv_iload_n hx hb dX9_checkEnds_65 rfl (lv_at hl 1 rfl) ?_
      refine lv_bipush (v := 9) hx hb dX9_checkEnds_66 (by decide) ?_
      refine lv_icmp_gt (tgt := 129) hx hb dX9_checkEnds_68 (by decide) (fun cd => ?_) (fun cd => ?_)
      · have h := h.1 cd
        refine lv_aload_n hx hb dX9_checkEnds_129 rfl (lv_at hl 0 rfl) ?_
        refine va_get (D := (dC, dI)) (ci := 9) (v := .ref (q0 1)) (C := RX9) (T := TX9) (N := 11) hx hb hts inX9_checkEnds_9 hown hK hP 0 rfl rfl 0 (by decide) (hts _ kX9_checkEnds_2) (fun _ h9 => h9) rfl dX9_checkEnds_130 ?_
        refine lv_aload_n hx hb dX9_checkEnds_133 rfl (lv_at hl 0 rfl) ?_
        refine va_get (D := (dC, dI)) (ci := 9) (v := .ref (q0 3)) (C := RX9) (T := TX9) (N := 11) hx hb hts inX9_checkEnds_9 hown hK hP 0 rfl rfl 1 (by decide) (hts _ kX9_checkEnds_4) (fun _ h9 => h9) rfl dX9_checkEnds_134 ?_
        refine cx_vi (As := []) (rest := [.ref (q0 1)]) ⟨hx, hb, hml, hown, hts⟩ hl.1 ok_sxE hE hK hP hD hS hA (cut_44 cI q0 u0) (c_X3_uncleanCount (l := l) (dC := dC) (dI := dI) (cI := cI) (q0 := fun i => q0 (i + 3)) h) (cwV 0 hts gX9_checkEnds_X3_uncleanCount rfl rfl rfl hdX3_uncleanCount ⟨Nat.le_of_ble_eq_true rfl, Nat.le_of_ble_eq_true rfl⟩) rfl rfl rfl rfl (Nat.le_of_ble_eq_true rfl) dX9_checkEnds_137 rfl (fun r_15 _ H locs h hP hD hS => ?_)
        refine cx_vv (As := [.int r_15]) (rest := []) ⟨hx, hb, hml, hown, hts⟩ hl.1 ok_sxE hE hK hP hD hS hA (cut_34 cI q0 u0) (c_X2_put (l := l) (dC := dC) (dI := dI) (cI := cI) (q0 := fun i => q0 (i + 1)) h) (cwV 1 hts gX9_checkEnds_X2_put rfl rfl rfl hdX2_put ⟨Nat.le_of_ble_eq_true rfl, Nat.le_of_ble_eq_true rfl⟩) rfl rfl rfl rfl (Nat.le_of_ble_eq_true rfl) dX9_checkEnds_140 rfl (fun v_16 H locs h hP hD hS => ?_)
        obtain ⟨u0_17, e_u0_17⟩ : ∃ z, z = s9_journal u0 v_16 := ⟨_, rfl⟩
        have h := h u0_17 e_u0_17
        have hP : va_P (dC, dI) vwCl (cs9 cI q0 u0_17) H := by rw [e_u0_17]; exact hP
        have hD : va_D A (cs9 cI q0 u0_17) := by rw [e_u0_17]; exact hD
        refine lv_iconst (v := 0) hx hb dX9_checkEnds_143 (by decide) ?_
        refine lv_istore_n (lv' := [(2, .int 0), (0, .ref (q0 0))]) hx hb dX9_checkEnds_144 rfl hl (by decide) rfl (fun ls hl => ?_)
        obtain ⟨n0, h⟩ := h
        exact w_145 n0 0 u0_17 _ _ _ hP hD hS (lv_sub hl [1, 0] rfl) h
      · have h := h.2 cd
        refine lv_aload_n hx hb dX9_checkEnds_71 rfl (lv_at hl 0 rfl) ?_
        refine va_get (D := (dC, dI)) (ci := 9) (v := .ref (q0 13)) (C := RX9) (T := TX9) (N := 11) hx hb hts inX9_checkEnds_9 hown hK hP 0 rfl rfl 2 (by decide) (hts _ kX9_checkEnds_6) (fun _ h9 => h9) rfl dX9_checkEnds_72 ?_
        refine va_get (D := (dC, dI)) (ci := 5) (v := .ref (q0 14)) (C := RX5) (T := TX5) (N := 3) hx hb hts inX9_checkEnds_5 hown hK hP 13 rfl rfl 0 (by decide) (hts _ kX9_checkEnds_7) (fun _ h9 => h9) rfl dX9_checkEnds_75 ?_
        refine lv_iload_n hx hb dX9_checkEnds_78 rfl (lv_at hl 1 rfl) ?_
        refine va_iald hx hb hK hP 14 0 rfl rfl h.1 dX9_checkEnds_79 ?_
        have h := h.2
        refine lv_if_eq (tgt := 123) hx hb dX9_checkEnds_80 (by decide) (fun cd => ?_) (fun cd => ?_)
        · have h := h.1 cd
          exact w_123 (fun x2 u0 => wp_X9_checkEnds_65 Q n x2 u0) (fun x2 u0 H locs ls hP hD hS hl h => ih x2 u0 H locs ls hP hD hS hl h) x2 u0 _ _ _ hP hD hS (lv_sub hl [0, 1] rfl) h
        · have h := h.2 cd
          refine lv_aload_n hx hb dX9_checkEnds_83 rfl (lv_at hl 0 rfl) ?_
          refine va_get (D := (dC, dI)) (ci := 9) (v := .ref (q0 1)) (C := RX9) (T := TX9) (N := 11) hx hb hts inX9_checkEnds_9 hown hK hP 0 rfl rfl 0 (by decide) (hts _ kX9_checkEnds_2) (fun _ h9 => h9) rfl dX9_checkEnds_84 ?_
          refine lv_iload_n hx hb dX9_checkEnds_87 rfl (lv_at hl 1 rfl) ?_
          refine cx_vv (As := [.int x2]) (rest := []) ⟨hx, hb, hml, hown, hts⟩ hl.1 ok_sxE hE hK hP hD hS hA (cut_34 cI q0 u0) (c_X2_put (l := l) (dC := dC) (dI := dI) (cI := cI) (q0 := fun i => q0 (i + 1)) h) (cwV 1 hts gX9_checkEnds_X2_put rfl rfl rfl hdX2_put ⟨Nat.le_of_ble_eq_true rfl, Nat.le_of_ble_eq_true rfl⟩) rfl rfl rfl rfl (Nat.le_of_ble_eq_true rfl) dX9_checkEnds_88 rfl (fun v_19 H locs h hP hD hS => ?_)
          obtain ⟨u0_20, e_u0_20⟩ : ∃ z, z = s9_journal u0 v_19 := ⟨_, rfl⟩
          have h := h u0_20 e_u0_20
          have hP : va_P (dC, dI) vwCl (cs9 cI q0 u0_20) H := by rw [e_u0_20]; exact hP
          have hD : va_D A (cs9 cI q0 u0_20) := by rw [e_u0_20]; exact hD
          refine lv_aload_n hx hb dX9_checkEnds_91 rfl (lv_at hl 0 rfl) ?_
          refine va_get (D := (dC, dI)) (ci := 9) (v := .ref (q0 1)) (C := RX9) (T := TX9) (N := 11) hx hb hts inX9_checkEnds_9 hown hK hP 0 rfl rfl 0 (by decide) (hts _ kX9_checkEnds_2) (fun _ h9 => h9) rfl dX9_checkEnds_92 ?_
          refine lv_aload_n hx hb dX9_checkEnds_95 rfl (lv_at hl 0 rfl) ?_
          refine va_get (D := (dC, dI)) (ci := 9) (v := .ref (q0 13)) (C := RX9) (T := TX9) (N := 11) hx hb hts inX9_checkEnds_9 hown hK hP 0 rfl rfl 2 (by decide) (hts _ kX9_checkEnds_6) (fun _ h9 => h9) rfl dX9_checkEnds_96 ?_
          refine va_get (D := (dC, dI)) (ci := 5) (v := .ref (q0 14)) (C := RX5) (T := TX5) (N := 3) hx hb hts inX9_checkEnds_5 hown hK hP 13 rfl rfl 0 (by decide) (hts _ kX9_checkEnds_7) (fun _ h9 => h9) rfl dX9_checkEnds_99 ?_
          refine lv_iload_n hx hb dX9_checkEnds_102 rfl (lv_at hl 1 rfl) ?_
          refine va_iald hx hb hK hP 14 0 rfl rfl h.1 dX9_checkEnds_103 ?_
          have h := h.2
          refine cx_vv (As := [.int ((g5_is (g9_roster u0_20)) x2.toNatClampNeg)]) (rest := []) ⟨hx, hb, hml, hown, hts⟩ hl.1 ok_sxE hE hK hP hD hS hA (cut_34 cI q0 u0_20) (c_X2_put (l := l) (dC := dC) (dI := dI) (cI := cI) (q0 := fun i => q0 (i + 1)) h) (cwV 1 hts gX9_checkEnds_X2_put rfl rfl rfl hdX2_put ⟨Nat.le_of_ble_eq_true rfl, Nat.le_of_ble_eq_true rfl⟩) rfl rfl rfl rfl (Nat.le_of_ble_eq_true rfl) dX9_checkEnds_104 rfl (fun v_21 H locs h hP hD hS => ?_)
          obtain ⟨u0_22, e_u0_22⟩ : ∃ z, z = s9_journal u0_20 v_21 := ⟨_, rfl⟩
          have h := h u0_22 e_u0_22
          have hP : va_P (dC, dI) vwCl (cs9 cI q0 u0_22) H := by rw [e_u0_22]; exact hP
          have hD : va_D A (cs9 cI q0 u0_22) := by rw [e_u0_22]; exact hD
          refine lv_aload_n hx hb dX9_checkEnds_107 rfl (lv_at hl 0 rfl) ?_
          refine va_get (D := (dC, dI)) (ci := 9) (v := .ref (q0 1)) (C := RX9) (T := TX9) (N := 11) hx hb hts inX9_checkEnds_9 hown hK hP 0 rfl rfl 0 (by decide) (hts _ kX9_checkEnds_2) (fun _ h9 => h9) rfl dX9_checkEnds_108 ?_
          refine lv_aload_n hx hb dX9_checkEnds_111 rfl (lv_at hl 0 rfl) ?_
          refine va_get (D := (dC, dI)) (ci := 9) (v := .ref (q0 13)) (C := RX9) (T := TX9) (N := 11) hx hb hts inX9_checkEnds_9 hown hK hP 0 rfl rfl 2 (by decide) (hts _ kX9_checkEnds_6) (fun _ h9 => h9) rfl dX9_checkEnds_112 ?_
          refine va_get (D := (dC, dI)) (ci := 5) (v := .ref (q0 15)) (C := RX5) (T := TX5) (N := 3) hx hb hts inX9_checkEnds_5 hown hK hP 13 rfl rfl 1 (by decide) (hts _ kX9_checkEnds_5) (fun _ h9 => h9) rfl dX9_checkEnds_115 ?_
          refine lv_iload_n hx hb dX9_checkEnds_118 rfl (lv_at hl 1 rfl) ?_
          refine va_iald hx hb hK hP 15 0 rfl rfl h.1 dX9_checkEnds_119 ?_
          have h := h.2
          refine cx_vv (As := [.int ((g5_last (g9_roster u0_22)) x2.toNatClampNeg)]) (rest := []) ⟨hx, hb, hml, hown, hts⟩ hl.1 ok_sxE hE hK hP hD hS hA (cut_34 cI q0 u0_22) (c_X2_putPair (l := l) (dC := dC) (dI := dI) (cI := cI) (q0 := fun i => q0 (i + 1)) h) (cwV 1 hts gX9_checkEnds_X2_putPair rfl rfl rfl hdX2_putPair ⟨Nat.le_of_ble_eq_true rfl, Nat.le_of_ble_eq_true rfl⟩) rfl rfl rfl rfl (Nat.le_of_ble_eq_true rfl) dX9_checkEnds_120 rfl (fun v_23 H locs h hP hD hS => ?_)
          obtain ⟨u0_24, e_u0_24⟩ : ∃ z, z = s9_journal u0_22 v_23 := ⟨_, rfl⟩
          have h := h u0_24 e_u0_24
          have hP : va_P (dC, dI) vwCl (cs9 cI q0 u0_24) H := by rw [e_u0_24]; exact hP
          have hD : va_D A (cs9 cI q0 u0_24) := by rw [e_u0_24]; exact hD
          exact w_123 (fun x2 u0 => wp_X9_checkEnds_65 Q n x2 u0) (fun x2 u0 H locs ls hP hD hS hl h => ih x2 u0 H locs ls hP hD hS hl h) x2 u0_24 _ _ _ hP hD hS (lv_sub hl [0, 1] rfl) h
  have hS : va_S A s.heap s.heap [] := va_S.rf
  refine lv_aload_n hx hb dX9_checkEnds_0 rfl (lv_at hl 0 rfl) ?_
  refine va_get (D := (dC, dI)) (ci := 9) (v := .int (g9_up u0)) (C := RX9) (T := TX9) (N := 11) hx hb hts inX9_checkEnds_9 hown hK hP 0 rfl rfl 6 (by decide) (hts _ kX9_checkEnds_8) (fun _ h9 => h9) rfl dX9_checkEnds_1 ?_
  refine lv_if_eq (tgt := 21) hx hb dX9_checkEnds_4 (by decide) (fun cd => ?_) (fun cd => ?_)
  · have h := h.1 cd
    refine lv_iconst (v := 0) hx hb dX9_checkEnds_21 (by decide) ?_
    exact hret _ _ _ _ _ u0 dX9_checkEnds_22 (by decide) h hP hD hS
  · have h := h.2 cd
    refine lv_aload_n hx hb dX9_checkEnds_7 rfl (lv_at hl 0 rfl) ?_
    refine va_get (D := (dC, dI)) (ci := 9) (v := .int (g9_openCheck u0)) (C := RX9) (T := TX9) (N := 11) hx hb hts inX9_checkEnds_9 hown hK hP 0 rfl rfl 8 (by decide) (hts _ kX9_checkEnds_0) (fun _ h9 => h9) rfl dX9_checkEnds_8 ?_
    refine lv_if_eq (tgt := 21) hx hb dX9_checkEnds_11 (by decide) (fun cd => ?_) (fun cd => ?_)
    · have h := h.1 cd
      refine lv_iconst (v := 0) hx hb dX9_checkEnds_21 (by decide) ?_
      exact hret _ _ _ _ _ u0 dX9_checkEnds_22 (by decide) h hP hD hS
    · have h := h.2 cd
      refine lv_aload_n hx hb dX9_checkEnds_14 rfl (lv_at hl 0 rfl) ?_
      refine cx_vi (As := []) (rest := []) ⟨hx, hb, hml, hown, hts⟩ hl.1 ok_sxE hE hK hP hD hS hA (cut_43 cI q0 u0) (c_X9_isFull (l := l) (dC := dC) (dI := dI) (cI := cI) (q0 := q0) h) (cwV 0 hts gX9_checkEnds_X9_isFull rfl rfl rfl hdX9_isFull ⟨Nat.le_of_ble_eq_true rfl, Nat.le_of_ble_eq_true rfl⟩) rfl rfl rfl rfl (Nat.le_of_ble_eq_true rfl) dX9_checkEnds_15 rfl (fun r_25 _ H locs h hP hD hS => ?_)
      refine lv_if_eq (tgt := 23) hx hb dX9_checkEnds_18 (by decide) (fun cd => ?_) (fun cd => ?_)
      · have h := h.1 cd
        refine lv_aload_n hx hb dX9_checkEnds_23 rfl (lv_at hl 0 rfl) ?_
        refine va_get (D := (dC, dI)) (ci := 9) (v := .ref (q0 1)) (C := RX9) (T := TX9) (N := 11) hx hb hts inX9_checkEnds_9 hown hK hP 0 rfl rfl 0 (by decide) (hts _ kX9_checkEnds_2) (fun _ h9 => h9) rfl dX9_checkEnds_24 ?_
        refine lv_bipush (v := 10) hx hb dX9_checkEnds_27 (by decide) ?_
        refine lv_iconst (v := 0) hx hb dX9_checkEnds_29 (by decide) ?_
        refine lv_iconst (v := 0) hx hb dX9_checkEnds_30 (by decide) ?_
        refine cx_vv (As := [.int 10, .int 0, .int 0]) (rest := []) ⟨hx, hb, hml, hown, hts⟩ hl.1 ok_sxE hE hK hP hD hS hA (cut_34 cI q0 u0) (c_X2_start (l := l) (dC := dC) (dI := dI) (cI := cI) (q0 := fun i => q0 (i + 1)) h) (cwV 3 hts gX9_checkEnds_X2_start rfl rfl rfl hdX2_start ⟨Nat.le_of_ble_eq_true rfl, Nat.le_of_ble_eq_true rfl⟩) rfl rfl rfl rfl (Nat.le_of_ble_eq_true rfl) dX9_checkEnds_31 rfl (fun v_26 H locs h hP hD hS => ?_)
        obtain ⟨u0_27, e_u0_27⟩ : ∃ z, z = s9_journal u0 v_26 := ⟨_, rfl⟩
        have h := h u0_27 e_u0_27
        have hP : va_P (dC, dI) vwCl (cs9 cI q0 u0_27) H := by rw [e_u0_27]; exact hP
        have hD : va_D A (cs9 cI q0 u0_27) := by rw [e_u0_27]; exact hD
        refine lv_aload_n hx hb dX9_checkEnds_34 rfl (lv_at hl 0 rfl) ?_
        refine va_get (D := (dC, dI)) (ci := 9) (v := .ref (q0 13)) (C := RX9) (T := TX9) (N := 11) hx hb hts inX9_checkEnds_9 hown hK hP 0 rfl rfl 2 (by decide) (hts _ kX9_checkEnds_6) (fun _ h9 => h9) rfl dX9_checkEnds_35 ?_
        refine lv_iconst (v := 1) hx hb dX9_checkEnds_38 (by decide) ?_
        refine cx_vi (As := [.int 1]) (rest := []) ⟨hx, hb, hml, hown, hts⟩ hl.1 ok_sxE hE hK hP hD hS hA (cut_46 cI q0 u0_27) (c_X5_allThatAre (l := l) (dC := dC) (dI := dI) (cI := cI) (q0 := fun i => q0 (i + 13)) h) (cwV 1 hts gX9_checkEnds_X5_allThatAre rfl rfl rfl hdX5_allThatAre ⟨Nat.le_of_ble_eq_true rfl, Nat.le_of_ble_eq_true rfl⟩) rfl rfl rfl rfl (Nat.le_of_ble_eq_true rfl) dX9_checkEnds_39 rfl (fun r_28 _ H locs h hP hD hS => ?_)
        refine lv_aload_n hx hb dX9_checkEnds_42 rfl (lv_at hl 0 rfl) ?_
        refine va_get (D := (dC, dI)) (ci := 9) (v := .ref (q0 13)) (C := RX9) (T := TX9) (N := 11) hx hb hts inX9_checkEnds_9 hown hK hP 0 rfl rfl 2 (by decide) (hts _ kX9_checkEnds_6) (fun _ h9 => h9) rfl dX9_checkEnds_43 ?_
        refine lv_iconst (v := 2) hx hb dX9_checkEnds_46 (by decide) ?_
        refine cx_vi (As := [.int 2]) (rest := [.int r_28]) ⟨hx, hb, hml, hown, hts⟩ hl.1 ok_sxE hE hK hP hD hS hA (cut_46 cI q0 u0_27) (c_X5_allThatAre (l := l) (dC := dC) (dI := dI) (cI := cI) (q0 := fun i => q0 (i + 13)) h) (cwV 1 hts gX9_checkEnds_X5_allThatAre rfl rfl rfl hdX5_allThatAre ⟨Nat.le_of_ble_eq_true rfl, Nat.le_of_ble_eq_true rfl⟩) rfl rfl rfl rfl (Nat.le_of_ble_eq_true rfl) dX9_checkEnds_47 rfl (fun r_29 _ H locs h hP hD hS => ?_)
        refine lv_ior hx hb dX9_checkEnds_50 ?_
        refine lv_topi (fun x1_30 e_x1_30 => ?_)
        have h := h x1_30 e_x1_30
        refine lv_istore_n (lv' := [(1, .int x1_30), (0, .ref (q0 0))]) hx hb dX9_checkEnds_51 rfl hl (by decide) rfl (fun ls hl => ?_)
        refine lv_aload_n hx hb dX9_checkEnds_52 rfl (lv_at hl 1 rfl) ?_
        refine va_get (D := (dC, dI)) (ci := 9) (v := .ref (q0 1)) (C := RX9) (T := TX9) (N := 11) hx hb hts inX9_checkEnds_9 hown hK hP 0 rfl rfl 0 (by decide) (hts _ kX9_checkEnds_2) (fun _ h9 => h9) rfl dX9_checkEnds_53 ?_
        refine lv_iload_n hx hb dX9_checkEnds_56 rfl (lv_at hl 0 rfl) ?_
        refine cx_si (As := [.int x1_30]) (rest := [.ref (q0 1)]) ⟨hx, hb, hml, hown, hts⟩ hl.1 ok_noE trivial hK hP hD hS hA (cut_42 cI q0 u0_27) (c_J6_bitCount_0f7a4 (l := l) (dC := dC) (dI := dI) (cI := cI) h) (va_cwS 1 hts gX9_checkEnds_J6_bitCount_0f7a4 rfl rfl rfl hdJ6_bitCount_0f7a4 ⟨Nat.le_of_ble_eq_true rfl, Nat.le_of_ble_eq_true rfl⟩) rfl (Nat.le_of_ble_eq_true rfl) dX9_checkEnds_57 rfl (fun r_31 _ H locs h hP hD hS => ?_)
        refine cx_vv (As := [.int r_31]) (rest := []) ⟨hx, hb, hml, hown, hts⟩ hl.1 ok_sxE hE hK hP hD hS hA (cut_34 cI q0 u0_27) (c_X2_put (l := l) (dC := dC) (dI := dI) (cI := cI) (q0 := fun i => q0 (i + 1)) h) (cwV 1 hts gX9_checkEnds_X2_put rfl rfl rfl hdX2_put ⟨Nat.le_of_ble_eq_true rfl, Nat.le_of_ble_eq_true rfl⟩) rfl rfl rfl rfl (Nat.le_of_ble_eq_true rfl) dX9_checkEnds_60 rfl (fun v_32 H locs h hP hD hS => ?_)
        obtain ⟨u0_33, e_u0_33⟩ : ∃ z, z = s9_journal u0_27 v_32 := ⟨_, rfl⟩
        have h := h u0_33 e_u0_33
        have hP : va_P (dC, dI) vwCl (cs9 cI q0 u0_33) H := by rw [e_u0_33]; exact hP
        have hD : va_D A (cs9 cI q0 u0_33) := by rw [e_u0_33]; exact hD
        refine lv_iconst (v := 1) hx hb dX9_checkEnds_63 (by decide) ?_
        refine lv_istore_n (lv' := [(2, .int 1), (1, .int x1_30), (0, .ref (q0 0))]) hx hb dX9_checkEnds_64 rfl hl (by decide) rfl (fun ls hl => ?_)
        obtain ⟨n0, h⟩ := h
        exact w_65 n0 1 u0_33 _ _ _ hP hD hS (lv_sub hl [2, 0] rfl) h
      · have h := h.2 cd
        refine lv_iconst (v := 0) hx hb dX9_checkEnds_21 (by decide) ?_
        exact hret _ _ _ _ _ u0 dX9_checkEnds_22 (by decide) h hP hD hS

abbrev rX9_dumpPage : Room := { frames := 2, cells := 0, slots := 0, locals := 61 }
theorem hdX9_dumpPage : yX9_dumpPage.cls = RX9 ∧ yX9_dumpPage.cls ≠ "java/lang/invoke/MethodHandle" ∧ yX9_dumpPage.cls ≠ "java/lang/invoke/VarHandle" ∧ (parseMethodDescriptor yX9_dumpPage.desc).map (fun d => d.parameters.length) = some 1 := by decide +kernel
theorem inX9_dumpPage_9 : ∀ w ∈ wsX90, w ∈ wsX9_dumpPage := by decide +kernel
theorem kX9_dumpPage_0 : Cond.fieldLink RX9 21 "AheadStore$World" "pages" "LAheadStore$Pages;" ∈ wsX9_dumpPage := by decide +kernel
theorem kX9_dumpPage_1 : Cond.initialized RX10 ∈ wsX9_dumpPage := by decide +kernel
theorem kX9_dumpPage_2 : Cond.static yX10_isPage ∈ wsX9_dumpPage := by decide +kernel
theorem kX9_dumpPage_3 : Cond.fieldLink RX9 53 "AheadStore$World" "up" "Z" ∈ wsX9_dumpPage := by decide +kernel
set_option maxHeartbeats 4000000 in
set_option maxRecDepth 100000 in
theorem c_X9_dumpPage {l : Launch} {dC : Nat → ClassId} {dI : Nat → Nat → Nat} {cI : ClassId} {q0 : Nat → Nat} {sz : Nat} {u0 : S9} {x1 : Int32} {Q : Int32 → S9 → Prop} (h : wp_X9_dumpPage u0 x1 Q) : ctI sxE l yX9_dumpPage wsX9_dumpPage rX9_dumpPage (dC, dI) vwCl [(cI, .int)] [.ref (q0 0), .int x1] (cs9 cI q0 u0) sz (fun (r : Int32) (v : S9) => Q r v) (fun (v : S9) => cs9 cI q0 v) := by
  refine mx_i (cc := cX9_dumpPage) (maxL := 2) (ty := .boolean) (by decide) rfl (Nat.le_of_ble_eq_true rfl) ?_
  intro p e s m below meth c Z A ls args hx hb hml hown hts hA hP hK hD hE hl hret
  have hown : s.vm.findClass RX9 = some m.cls := hown
  have hl : lv_has ls 2 [(0, .ref (q0 0)), (1, .int x1)] := hl
  have hS : va_S A s.heap s.heap [] := va_S.rf
  refine lv_aload_n hx hb dX9_dumpPage_0 rfl (lv_at hl 0 rfl) ?_
  refine va_get (D := (dC, dI)) (ci := 9) (v := .int (g9_up u0)) (C := RX9) (T := TX9) (N := 11) hx hb hts inX9_dumpPage_9 hown hK hP 0 rfl rfl 6 (by decide) (hts _ kX9_dumpPage_3) (fun _ h9 => h9) rfl dX9_dumpPage_1 ?_
  refine lv_if_eq (tgt := 25) hx hb dX9_dumpPage_4 (by decide) (fun cd => ?_) (fun cd => ?_)
  · have h := h.1 cd
    refine lv_iconst (v := 0) hx hb dX9_dumpPage_25 (by decide) ?_
    exact hret _ _ _ _ _ u0 dX9_dumpPage_26 (by decide) h hP hD hS
  · have h := h.2 cd
    refine lv_iload_n hx hb dX9_dumpPage_7 rfl (lv_at hl 1 rfl) ?_
    refine cx_ni (As := [.int x1]) (rest := []) ⟨hx, hb, hml, hown, hts⟩ hl.1 ok_noE trivial hK hP hD hS hA (cut_42 cI q0 u0) (c_X10_isPage (l := l) (dC := dC) (dI := dI) (cI := cI) h) ⟨va_cnB 1 hts gX9_dumpPage_X10_isPage_n210 rfl rfl rfl (hE.1.1 (RX9, 210, yX10_isPage, "AheadStore") (List.mem_of_getElem? (i := 15) rfl)) (hts _ kX9_dumpPage_1) hdX10_isPage ⟨Nat.le_of_ble_eq_true rfl, Nat.le_of_ble_eq_true rfl⟩, hts _ kX9_dumpPage_2, trivial⟩ rfl (Nat.le_of_ble_eq_true rfl) dX9_dumpPage_8 rfl (fun r_1 _ H locs h hP hD hS => ?_)
    refine lv_if_eq (tgt := 25) hx hb dX9_dumpPage_11 (by decide) (fun cd => ?_) (fun cd => ?_)
    · have h := h.1 cd
      refine lv_iconst (v := 0) hx hb dX9_dumpPage_25 (by decide) ?_
      exact hret _ _ _ _ _ u0 dX9_dumpPage_26 (by decide) h hP hD hS
    · have h := h.2 cd
      refine lv_aload_n hx hb dX9_dumpPage_14 rfl (lv_at hl 0 rfl) ?_
      refine va_get (D := (dC, dI)) (ci := 9) (v := .ref (q0 3)) (C := RX9) (T := TX9) (N := 11) hx hb hts inX9_dumpPage_9 hown hK hP 0 rfl rfl 1 (by decide) (hts _ kX9_dumpPage_0) (fun _ h9 => h9) rfl dX9_dumpPage_15 ?_
      refine lv_iload_n hx hb dX9_dumpPage_18 rfl (lv_at hl 1 rfl) ?_
      refine cx_vi (As := [.int x1]) (rest := []) ⟨hx, hb, hml, hown, hts⟩ hl.1 ok_sxE hE hK hP hD hS hA (cut_44 cI q0 u0) (c_X3_isLost (l := l) (dC := dC) (dI := dI) (cI := cI) (q0 := fun i => q0 (i + 3)) h) (cwV 1 hts gX9_dumpPage_X3_isLost rfl rfl rfl hdX3_isLost ⟨Nat.le_of_ble_eq_true rfl, Nat.le_of_ble_eq_true rfl⟩) rfl rfl rfl rfl (Nat.le_of_ble_eq_true rfl) dX9_dumpPage_19 rfl (fun r_2 _ H locs h hP hD hS => ?_)
      refine lv_if_eq (tgt := 27) hx hb dX9_dumpPage_22 (by decide) (fun cd => ?_) (fun cd => ?_)
      · have h := h.1 cd
        refine lv_aload_n hx hb dX9_dumpPage_27 rfl (lv_at hl 0 rfl) ?_
        refine va_get (D := (dC, dI)) (ci := 9) (v := .ref (q0 3)) (C := RX9) (T := TX9) (N := 11) hx hb hts inX9_dumpPage_9 hown hK hP 0 rfl rfl 1 (by decide) (hts _ kX9_dumpPage_0) (fun _ h9 => h9) rfl dX9_dumpPage_28 ?_
        refine lv_iload_n hx hb dX9_dumpPage_31 rfl (lv_at hl 1 rfl) ?_
        refine cx_vv (As := [.int x1]) (rest := []) ⟨hx, hb, hml, hown, hts⟩ hl.1 ok_sxE hE hK hP hD hS hA (cut_41 cI q0 u0) (c_X3_dump (l := l) (dC := dC) (dI := dI) (cI := cI) (q0 := fun i => q0 (i + 3)) h) (cwV 1 hts gX9_dumpPage_X3_dump rfl rfl rfl hdX3_dump ⟨Nat.le_of_ble_eq_true rfl, Nat.le_of_ble_eq_true rfl⟩) rfl rfl rfl rfl (Nat.le_of_ble_eq_true rfl) dX9_dumpPage_32 rfl (fun v_3 H locs h hP hD hS => ?_)
        obtain ⟨u0_4, e_u0_4⟩ : ∃ z, z = s9_pages u0 v_3 := ⟨_, rfl⟩
        have h := h u0_4 e_u0_4
        have hP : va_P (dC, dI) vwCl (cs9 cI q0 u0_4) H := by rw [e_u0_4]; exact hP
        have hD : va_D A (cs9 cI q0 u0_4) := by rw [e_u0_4]; exact hD
        refine lv_iconst (v := 1) hx hb dX9_dumpPage_35 (by decide) ?_
        exact hret _ _ _ _ _ u0_4 dX9_dumpPage_36 (by decide) h hP hD hS
      · have h := h.2 cd
        refine lv_iconst (v := 0) hx hb dX9_dumpPage_25 (by decide) ?_
        exact hret _ _ _ _ _ u0 dX9_dumpPage_26 (by decide) h hP hD hS

abbrev rX9_losePage : Room := { frames := 1, cells := 0, slots := 0, locals := 22 }
theorem hdX9_losePage : yX9_losePage.cls = RX9 ∧ yX9_losePage.cls ≠ "java/lang/invoke/MethodHandle" ∧ yX9_losePage.cls ≠ "java/lang/invoke/VarHandle" ∧ (parseMethodDescriptor yX9_losePage.desc).map (fun d => d.parameters.length) = some 1 := by decide +kernel
theorem inX9_losePage_9 : ∀ w ∈ wsX90, w ∈ wsX9_losePage := by decide +kernel
theorem kX9_losePage_0 : Cond.fieldLink RX9 21 "AheadStore$World" "pages" "LAheadStore$Pages;" ∈ wsX9_losePage := by decide +kernel
theorem kX9_losePage_1 : Cond.fieldLink RX9 35 "AheadStore$World" "claims" "LAheadStore$Claims;" ∈ wsX9_losePage := by decide +kernel
theorem kX9_losePage_2 : Cond.initialized RX10 ∈ wsX9_losePage := by decide +kernel
theorem kX9_losePage_3 : Cond.static yX10_isPage ∈ wsX9_losePage := by decide +kernel
theorem kX9_losePage_4 : Cond.fieldLink RX9 53 "AheadStore$World" "up" "Z" ∈ wsX9_losePage := by decide +kernel
set_option maxHeartbeats 4000000 in
set_option maxRecDepth 100000 in
theorem c_X9_losePage {l : Launch} {dC : Nat → ClassId} {dI : Nat → Nat → Nat} {cI : ClassId} {q0 : Nat → Nat} {sz : Nat} {u0 : S9} {x1 : Int32} {Q : Int32 → S9 → Prop} (h : wp_X9_losePage u0 x1 Q) : ctI sxE l yX9_losePage wsX9_losePage rX9_losePage (dC, dI) vwCl [(cI, .int)] [.ref (q0 0), .int x1] (cs9 cI q0 u0) sz (fun (r : Int32) (v : S9) => Q r v) (fun (v : S9) => cs9 cI q0 v) := by
  refine mx_i (cc := cX9_losePage) (maxL := 2) (ty := .boolean) (by decide) rfl (Nat.le_of_ble_eq_true rfl) ?_
  intro p e s m below meth c Z A ls args hx hb hml hown hts hA hP hK hD hE hl hret
  have hown : s.vm.findClass RX9 = some m.cls := hown
  have hl : lv_has ls 2 [(0, .ref (q0 0)), (1, .int x1)] := hl
  have hS : va_S A s.heap s.heap [] := va_S.rf
  refine lv_aload_n hx hb dX9_losePage_0 rfl (lv_at hl 0 rfl) ?_
  refine va_get (D := (dC, dI)) (ci := 9) (v := .int (g9_up u0)) (C := RX9) (T := TX9) (N := 11) hx hb hts inX9_losePage_9 hown hK hP 0 rfl rfl 6 (by decide) (hts _ kX9_losePage_4) (fun _ h9 => h9) rfl dX9_losePage_1 ?_
  refine lv_if_eq (tgt := 47) hx hb dX9_losePage_4 (by decide) (fun cd => ?_) (fun cd => ?_)
  · have h := h.1 cd
    refine lv_iconst (v := 0) hx hb dX9_losePage_47 (by decide) ?_
    exact hret _ _ _ _ _ u0 dX9_losePage_48 (by decide) h hP hD hS
  · have h := h.2 cd
    refine lv_iload_n hx hb dX9_losePage_7 rfl (lv_at hl 1 rfl) ?_
    refine cx_ni (As := [.int x1]) (rest := []) ⟨hx, hb, hml, hown, hts⟩ hl.1 ok_noE trivial hK hP hD hS hA (cut_42 cI q0 u0) (c_X10_isPage (l := l) (dC := dC) (dI := dI) (cI := cI) h) ⟨va_cnB 1 hts gX9_losePage_X10_isPage_n210 rfl rfl rfl (hE.1.1 (RX9, 210, yX10_isPage, "AheadStore") (List.mem_of_getElem? (i := 15) rfl)) (hts _ kX9_losePage_2) hdX10_isPage ⟨Nat.le_of_ble_eq_true rfl, Nat.le_of_ble_eq_true rfl⟩, hts _ kX9_losePage_3, trivial⟩ rfl (Nat.le_of_ble_eq_true rfl) dX9_losePage_8 rfl (fun r_1 _ H locs h hP hD hS => ?_)
    refine lv_if_eq (tgt := 47) hx hb dX9_losePage_11 (by decide) (fun cd => ?_) (fun cd => ?_)
    · have h := h.1 cd
      refine lv_iconst (v := 0) hx hb dX9_losePage_47 (by decide) ?_
      exact hret _ _ _ _ _ u0 dX9_losePage_48 (by decide) h hP hD hS
    · have h := h.2 cd
      refine lv_aload_n hx hb dX9_losePage_14 rfl (lv_at hl 0 rfl) ?_
      refine va_get (D := (dC, dI)) (ci := 9) (v := .ref (q0 3)) (C := RX9) (T := TX9) (N := 11) hx hb hts inX9_losePage_9 hown hK hP 0 rfl rfl 1 (by decide) (hts _ kX9_losePage_0) (fun _ h9 => h9) rfl dX9_losePage_15 ?_
      refine lv_iload_n hx hb dX9_losePage_18 rfl (lv_at hl 1 rfl) ?_
      refine cx_vi (As := [.int x1]) (rest := []) ⟨hx, hb, hml, hown, hts⟩ hl.1 ok_sxE hE hK hP hD hS hA (cut_44 cI q0 u0) (c_X3_isLost (l := l) (dC := dC) (dI := dI) (cI := cI) (q0 := fun i => q0 (i + 3)) h) (cwV 1 hts gX9_losePage_X3_isLost rfl rfl rfl hdX3_isLost ⟨Nat.le_of_ble_eq_true rfl, Nat.le_of_ble_eq_true rfl⟩) rfl rfl rfl rfl (Nat.le_of_ble_eq_true rfl) dX9_losePage_19 rfl (fun r_2 _ H locs h hP hD hS => ?_)
      refine lv_if_ne (tgt := 47) hx hb dX9_losePage_22 (by decide) (fun cd => ?_) (fun cd => ?_)
      · have h := h.2 cd
        refine lv_iconst (v := 0) hx hb dX9_losePage_47 (by decide) ?_
        exact hret _ _ _ _ _ u0 dX9_losePage_48 (by decide) h hP hD hS
      · have h := h.1 cd
        refine lv_aload_n hx hb dX9_losePage_25 rfl (lv_at hl 0 rfl) ?_
        refine va_get (D := (dC, dI)) (ci := 9) (v := .ref (q0 3)) (C := RX9) (T := TX9) (N := 11) hx hb hts inX9_losePage_9 hown hK hP 0 rfl rfl 1 (by decide) (hts _ kX9_losePage_0) (fun _ h9 => h9) rfl dX9_losePage_26 ?_
        refine lv_iload_n hx hb dX9_losePage_29 rfl (lv_at hl 1 rfl) ?_
        refine cx_vi (As := [.int x1]) (rest := []) ⟨hx, hb, hml, hown, hts⟩ hl.1 ok_sxE hE hK hP hD hS hA (cut_44 cI q0 u0) (c_X3_frameOf (l := l) (dC := dC) (dI := dI) (cI := cI) (q0 := fun i => q0 (i + 3)) h) (cwV 1 hts gX9_losePage_X3_frameOf rfl rfl rfl hdX3_frameOf ⟨Nat.le_of_ble_eq_true rfl, Nat.le_of_ble_eq_true rfl⟩) rfl rfl rfl rfl (Nat.le_of_ble_eq_true rfl) dX9_losePage_30 rfl (fun r_3 _ H locs h hP hD hS => ?_)
        refine lv_if_ge (tgt := 47) hx hb dX9_losePage_33 (by decide) (fun cd => ?_) (fun cd => ?_)
        · have h := h.1 cd
          refine lv_iconst (v := 0) hx hb dX9_losePage_47 (by decide) ?_
          exact hret _ _ _ _ _ u0 dX9_losePage_48 (by decide) h hP hD hS
        · have h := h.2 cd
          refine lv_aload_n hx hb dX9_losePage_36 rfl (lv_at hl 0 rfl) ?_
          refine va_get (D := (dC, dI)) (ci := 9) (v := .ref (q0 17)) (C := RX9) (T := TX9) (N := 11) hx hb hts inX9_losePage_9 hown hK hP 0 rfl rfl 3 (by decide) (hts _ kX9_losePage_1) (fun _ h9 => h9) rfl dX9_losePage_37 ?_
          refine lv_iload_n hx hb dX9_losePage_40 rfl (lv_at hl 1 rfl) ?_
          refine cx_vi (As := [.int x1]) (rest := []) ⟨hx, hb, hml, hown, hts⟩ hl.1 ok_sxE hE hK hP hD hS hA (cut_45 cI q0 u0) (c_X0_anyIn (l := l) (dC := dC) (dI := dI) (cI := cI) (q0 := fun i => q0 (i + 17)) h) (cwV 1 hts gX9_losePage_X0_anyIn rfl rfl rfl hdX0_anyIn ⟨Nat.le_of_ble_eq_true rfl, Nat.le_of_ble_eq_true rfl⟩) rfl rfl rfl rfl (Nat.le_of_ble_eq_true rfl) dX9_losePage_41 rfl (fun r_4 _ H locs h hP hD hS => ?_)
          refine lv_if_eq (tgt := 49) hx hb dX9_losePage_44 (by decide) (fun cd => ?_) (fun cd => ?_)
          · have h := h.1 cd
            refine lv_aload_n hx hb dX9_losePage_49 rfl (lv_at hl 0 rfl) ?_
            refine va_get (D := (dC, dI)) (ci := 9) (v := .ref (q0 3)) (C := RX9) (T := TX9) (N := 11) hx hb hts inX9_losePage_9 hown hK hP 0 rfl rfl 1 (by decide) (hts _ kX9_losePage_0) (fun _ h9 => h9) rfl dX9_losePage_50 ?_
            refine lv_iload_n hx hb dX9_losePage_53 rfl (lv_at hl 1 rfl) ?_
            refine cx_vv (As := [.int x1]) (rest := []) ⟨hx, hb, hml, hown, hts⟩ hl.1 ok_sxE hE hK hP hD hS hA (cut_41 cI q0 u0) (c_X3_lose (l := l) (dC := dC) (dI := dI) (cI := cI) (q0 := fun i => q0 (i + 3)) h) (cwV 1 hts gX9_losePage_X3_lose rfl rfl rfl hdX3_lose ⟨Nat.le_of_ble_eq_true rfl, Nat.le_of_ble_eq_true rfl⟩) rfl rfl rfl rfl (Nat.le_of_ble_eq_true rfl) dX9_losePage_54 rfl (fun v_5 H locs h hP hD hS => ?_)
            obtain ⟨u0_6, e_u0_6⟩ : ∃ z, z = s9_pages u0 v_5 := ⟨_, rfl⟩
            have h := h u0_6 e_u0_6
            have hP : va_P (dC, dI) vwCl (cs9 cI q0 u0_6) H := by rw [e_u0_6]; exact hP
            have hD : va_D A (cs9 cI q0 u0_6) := by rw [e_u0_6]; exact hD
            refine lv_iconst (v := 1) hx hb dX9_losePage_57 (by decide) ?_
            exact hret _ _ _ _ _ u0_6 dX9_losePage_58 (by decide) h hP hD hS
          · have h := h.2 cd
            refine lv_iconst (v := 0) hx hb dX9_losePage_47 (by decide) ?_
            exact hret _ _ _ _ _ u0 dX9_losePage_48 (by decide) h hP hD hS

abbrev rX9_restorePage : Room := { frames := 4, cells := 0, slots := 0, locals := 93 }
theorem hdX9_restorePage : yX9_restorePage.cls = RX9 ∧ yX9_restorePage.cls ≠ "java/lang/invoke/MethodHandle" ∧ yX9_restorePage.cls ≠ "java/lang/invoke/VarHandle" ∧ (parseMethodDescriptor yX9_restorePage.desc).map (fun d => d.parameters.length) = some 1 := by decide +kernel
theorem inX9_restorePage_9 : ∀ w ∈ wsX90, w ∈ wsX9_restorePage := by decide +kernel
theorem kX9_restorePage_0 : Cond.fieldLink RX9 12 "AheadStore$World" "journal" "LAheadStore$Journal;" ∈ wsX9_restorePage := by decide +kernel
theorem kX9_restorePage_1 : Cond.fieldLink RX9 21 "AheadStore$World" "pages" "LAheadStore$Pages;" ∈ wsX9_restorePage := by decide +kernel
theorem kX9_restorePage_2 : Cond.initialized RX10 ∈ wsX9_restorePage := by decide +kernel
theorem kX9_restorePage_3 : Cond.static yX10_isPage ∈ wsX9_restorePage := by decide +kernel
theorem kX9_restorePage_4 : Cond.fieldLink RX9 53 "AheadStore$World" "up" "Z" ∈ wsX9_restorePage := by decide +kernel
set_option maxHeartbeats 4000000 in
set_option maxRecDepth 100000 in
theorem c_X9_restorePage {l : Launch} {dC : Nat → ClassId} {dI : Nat → Nat → Nat} {cI : ClassId} {q0 : Nat → Nat} {sz : Nat} {u0 : S9} {x1 : Int32} {Q : Int32 → S9 → Prop} (h : wp_X9_restorePage u0 x1 Q) : ctI sxE l yX9_restorePage wsX9_restorePage rX9_restorePage (dC, dI) vwCl [(cI, .int)] [.ref (q0 0), .int x1] (cs9 cI q0 u0) sz (fun (r : Int32) (v : S9) => Q r v) (fun (v : S9) => cs9 cI q0 v) := by
  refine mx_i (cc := cX9_restorePage) (maxL := 2) (ty := .boolean) (by decide) rfl (Nat.le_of_ble_eq_true rfl) ?_
  intro p e s m below meth c Z A ls args hx hb hml hown hts hA hP hK hD hE hl hret
  have hown : s.vm.findClass RX9 = some m.cls := hown
  have hl : lv_has ls 2 [(0, .ref (q0 0)), (1, .int x1)] := hl
  have hS : va_S A s.heap s.heap [] := va_S.rf
  refine lv_aload_n hx hb dX9_restorePage_0 rfl (lv_at hl 0 rfl) ?_
  refine va_get (D := (dC, dI)) (ci := 9) (v := .int (g9_up u0)) (C := RX9) (T := TX9) (N := 11) hx hb hts inX9_restorePage_9 hown hK hP 0 rfl rfl 6 (by decide) (hts _ kX9_restorePage_4) (fun _ h9 => h9) rfl dX9_restorePage_1 ?_
  refine lv_if_eq (tgt := 25) hx hb dX9_restorePage_4 (by decide) (fun cd => ?_) (fun cd => ?_)
  · have h := h.1 cd
    refine lv_iconst (v := 0) hx hb dX9_restorePage_25 (by decide) ?_
    exact hret _ _ _ _ _ u0 dX9_restorePage_26 (by decide) h hP hD hS
  · have h := h.2 cd
    refine lv_iload_n hx hb dX9_restorePage_7 rfl (lv_at hl 1 rfl) ?_
    refine cx_ni (As := [.int x1]) (rest := []) ⟨hx, hb, hml, hown, hts⟩ hl.1 ok_noE trivial hK hP hD hS hA (cut_42 cI q0 u0) (c_X10_isPage (l := l) (dC := dC) (dI := dI) (cI := cI) h) ⟨va_cnB 1 hts gX9_restorePage_X10_isPage_n210 rfl rfl rfl (hE.1.1 (RX9, 210, yX10_isPage, "AheadStore") (List.mem_of_getElem? (i := 15) rfl)) (hts _ kX9_restorePage_2) hdX10_isPage ⟨Nat.le_of_ble_eq_true rfl, Nat.le_of_ble_eq_true rfl⟩, hts _ kX9_restorePage_3, trivial⟩ rfl (Nat.le_of_ble_eq_true rfl) dX9_restorePage_8 rfl (fun r_1 _ H locs h hP hD hS => ?_)
    refine lv_if_eq (tgt := 25) hx hb dX9_restorePage_11 (by decide) (fun cd => ?_) (fun cd => ?_)
    · have h := h.1 cd
      refine lv_iconst (v := 0) hx hb dX9_restorePage_25 (by decide) ?_
      exact hret _ _ _ _ _ u0 dX9_restorePage_26 (by decide) h hP hD hS
    · have h := h.2 cd
      refine lv_aload_n hx hb dX9_restorePage_14 rfl (lv_at hl 0 rfl) ?_
      refine va_get (D := (dC, dI)) (ci := 9) (v := .ref (q0 3)) (C := RX9) (T := TX9) (N := 11) hx hb hts inX9_restorePage_9 hown hK hP 0 rfl rfl 1 (by decide) (hts _ kX9_restorePage_1) (fun _ h9 => h9) rfl dX9_restorePage_15 ?_
      refine lv_iload_n hx hb dX9_restorePage_18 rfl (lv_at hl 1 rfl) ?_
      refine cx_vi (As := [.int x1]) (rest := []) ⟨hx, hb, hml, hown, hts⟩ hl.1 ok_sxE hE hK hP hD hS hA (cut_44 cI q0 u0) (c_X3_isLost (l := l) (dC := dC) (dI := dI) (cI := cI) (q0 := fun i => q0 (i + 3)) h) (cwV 1 hts gX9_restorePage_X3_isLost rfl rfl rfl hdX3_isLost ⟨Nat.le_of_ble_eq_true rfl, Nat.le_of_ble_eq_true rfl⟩) rfl rfl rfl rfl (Nat.le_of_ble_eq_true rfl) dX9_restorePage_19 rfl (fun r_2 _ H locs h hP hD hS => ?_)
      refine lv_if_ne (tgt := 27) hx hb dX9_restorePage_22 (by decide) (fun cd => ?_) (fun cd => ?_)
      · have h := h.2 cd
        refine lv_aload_n hx hb dX9_restorePage_27 rfl (lv_at hl 0 rfl) ?_
        refine va_get (D := (dC, dI)) (ci := 9) (v := .ref (q0 3)) (C := RX9) (T := TX9) (N := 11) hx hb hts inX9_restorePage_9 hown hK hP 0 rfl rfl 1 (by decide) (hts _ kX9_restorePage_1) (fun _ h9 => h9) rfl dX9_restorePage_28 ?_
        refine lv_iload_n hx hb dX9_restorePage_31 rfl (lv_at hl 1 rfl) ?_
        refine lv_aload_n hx hb dX9_restorePage_32 rfl (lv_at hl 0 rfl) ?_
        refine va_get (D := (dC, dI)) (ci := 9) (v := .ref (q0 1)) (C := RX9) (T := TX9) (N := 11) hx hb hts inX9_restorePage_9 hown hK hP 0 rfl rfl 0 (by decide) (hts _ kX9_restorePage_0) (fun _ h9 => h9) rfl dX9_restorePage_33 ?_
        refine cx_vv (As := [.int x1, .ref (q0 1)]) (rest := []) ⟨hx, hb, hml, hown, hts⟩ hl.1 ok_sxE hE hK hP hD hS hA (cut_40 cI q0 u0) (c_X3_restore (l := l) (dC := dC) (dI := dI) (cI := cI) (q0 := fun i => q0 (i + 3)) (q1 := fun i => q0 (i + 1)) h) (cwV 2 hts gX9_restorePage_X3_restore rfl rfl rfl hdX3_restore ⟨Nat.le_of_ble_eq_true rfl, Nat.le_of_ble_eq_true rfl⟩) rfl rfl rfl rfl (Nat.le_of_ble_eq_true rfl) dX9_restorePage_36 rfl (fun vv H locs h hP hD hS => ?_)
        obtain ⟨v_3, v_4⟩ := vv
        obtain ⟨u0_5, e_u0_5⟩ : ∃ z, z = s9_journal (s9_pages u0 v_3) v_4 := ⟨_, rfl⟩
        have h := h u0_5 e_u0_5
        have hP : va_P (dC, dI) vwCl (cs9 cI q0 u0_5) H := by rw [e_u0_5]; exact hP
        have hD : va_D A (cs9 cI q0 u0_5) := by rw [e_u0_5]; exact hD
        refine lv_iconst (v := 1) hx hb dX9_restorePage_39 (by decide) ?_
        exact hret _ _ _ _ _ u0_5 dX9_restorePage_40 (by decide) h hP hD hS
      · have h := h.1 cd
        refine lv_iconst (v := 0) hx hb dX9_restorePage_25 (by decide) ?_
        exact hret _ _ _ _ _ u0 dX9_restorePage_26 (by decide) h hP hD hS

abbrev rX9_firstOf : Room := { frames := 2, cells := 0, slots := 0, locals := 42 }
theorem hdX9_firstOf : yX9_firstOf.cls = RX9 ∧ yX9_firstOf.cls ≠ "java/lang/invoke/MethodHandle" ∧ yX9_firstOf.cls ≠ "java/lang/invoke/VarHandle" ∧ (parseMethodDescriptor yX9_firstOf.desc).map (fun d => d.parameters.length) = some 1 := by decide +kernel
theorem inX9_firstOf_5 : ∀ w ∈ wsX50, w ∈ wsX9_firstOf := by decide +kernel
theorem inX9_firstOf_9 : ∀ w ∈ wsX90, w ∈ wsX9_firstOf := by decide +kernel
theorem kX9_firstOf_0 : Cond.fieldLink RX9 12 "AheadStore$World" "journal" "LAheadStore$Journal;" ∈ wsX9_firstOf := by decide +kernel
theorem kX9_firstOf_1 : Cond.constant RX9 175 (1000000) ∈ wsX9_firstOf := by decide +kernel
theorem kX9_firstOf_2 : Cond.fieldLink RX9 85 "AheadStore$Roster" "last" "[I" ∈ wsX9_firstOf := by decide +kernel
theorem kX9_firstOf_3 : Cond.fieldLink RX9 28 "AheadStore$World" "roster" "LAheadStore$Roster;" ∈ wsX9_firstOf := by decide +kernel
set_option maxHeartbeats 4000000 in
set_option maxRecDepth 100000 in
theorem c_X9_firstOf {l : Launch} {dC : Nat → ClassId} {dI : Nat → Nat → Nat} {cI : ClassId} {q0 : Nat → Nat} {sz : Nat} {u0 : S9} {x1 : Int32} {Q : Int32 → Prop} (h : wp_X9_firstOf u0 x1 Q) : ctI sxE l yX9_firstOf wsX9_firstOf rX9_firstOf (dC, dI) vwCl [(cI, .int)] [.ref (q0 0), .int x1] (cs9 cI q0 u0) sz (fun (r : Int32) (_ : Unit) => Q r) (fun (_ : Unit) => cs9 cI q0 u0) := by
  refine mx_i (cc := cX9_firstOf) (maxL := 4) (ty := .int) (by decide) rfl (Nat.le_of_ble_eq_true rfl) ?_
  intro p e s m below meth c Z A ls args hx hb hml hown hts hA hP hK hD hE hl hret
  have hown : s.vm.findClass RX9 = some m.cls := hown
  have hl : lv_has ls 4 [(0, .ref (q0 0)), (1, .int x1)] := hl
  have w_12 : ∀ (n : Nat) (x2 : Int32) (x3 : Int32) (H : Heap) (locs : List Loc) (ls : Array Slot) (_ : va_P (dC, dI) vwCl (cs9 cI q0 u0) H) (_ : va_D A (cs9 cI q0 u0)) (_ : va_S A s.heap H locs) (_ : lv_has ls 4 [(0, .ref (q0 0)), (2, .int x2), (3, .int x3)]) (_ : wp_X9_firstOf_12 u0 Q n x2 x3), W p l e rX9_firstOf s m args below meth c H locs 0 0 Z (F0 m 12 ls []) := by
    intro n
    induction n with
    | zero => intro x2 x3 H locs ls hP hD hS hl h; exact False.elim h
    | succ n ih =>
      intro x2 x3 H locs ls hP hD hS hl h
      refine lv_iload_n hx hb dX9_firstOf_12 rfl (lv_at hl 2 rfl) ?_
      refine lv_ldc (v := 1000000) hx hb hown (hts _ kX9_firstOf_1) dX9_firstOf_13 ?_
      refine lv_icmp_ge (tgt := 48) hx hb dX9_firstOf_15 (by decide) (fun cd => ?_) (fun cd => ?_)
      · have h := h.1 cd
        refine lv_iload_n hx hb dX9_firstOf_48 rfl (lv_at hl 1 rfl) ?_
        exact hret _ _ _ _ _ () dX9_firstOf_49 (vp_nar_int _) h hP hD hS
      · have h := h.2 cd
        refine lv_aload_n hx hb dX9_firstOf_18 rfl (lv_at hl 0 rfl) ?_
        refine va_get (D := (dC, dI)) (ci := 9) (v := .ref (q0 1)) (C := RX9) (T := TX9) (N := 11) hx hb hts inX9_firstOf_9 hown hK hP 0 rfl rfl 0 (by decide) (hts _ kX9_firstOf_0) (fun _ h9 => h9) rfl dX9_firstOf_19 ?_
        refine lv_iload_n hx hb dX9_firstOf_22 rfl (lv_at hl 1 rfl) ?_
        refine lv_iconst (v := 3) hx hb dX9_firstOf_23 (by decide) ?_
        refine lv_iadd hx hb dX9_firstOf_24 ?_
        refine cx_vi (As := [.int (x2 + 3)]) (rest := []) ⟨hx, hb, hml, hown, hts⟩ hl.1 ok_sxE hE hK hP hD hS hA (cut_39 cI q0 u0) (c_X2_pairAt (l := l) (dC := dC) (dI := dI) (cI := cI) (q0 := fun i => q0 (i + 1)) h) (cwV 1 hts gX9_firstOf_X2_pairAt rfl rfl rfl hdX2_pairAt ⟨Nat.le_of_ble_eq_true rfl, Nat.le_of_ble_eq_true rfl⟩) rfl rfl rfl rfl (Nat.le_of_ble_eq_true rfl) dX9_firstOf_25 rfl (fun r_1 _ H locs h hP hD hS => ?_)
        refine lv_if_eq (tgt := 48) hx hb dX9_firstOf_28 (by decide) (fun cd => ?_) (fun cd => ?_)
        · have h := h.1 cd
          refine lv_iload_n hx hb dX9_firstOf_48 rfl (lv_at hl 1 rfl) ?_
          exact hret _ _ _ _ _ () dX9_firstOf_49 (vp_nar_int _) h hP hD hS
        · have h := h.2 cd
          refine lv_aload_n hx hb dX9_firstOf_31 rfl (lv_at hl 0 rfl) ?_
          refine va_get (D := (dC, dI)) (ci := 9) (v := .ref (q0 1)) (C := RX9) (T := TX9) (N := 11) hx hb hts inX9_firstOf_9 hown hK hP 0 rfl rfl 0 (by decide) (hts _ kX9_firstOf_0) (fun _ h9 => h9) rfl dX9_firstOf_32 ?_
          refine lv_iload_n hx hb dX9_firstOf_35 rfl (lv_at hl 1 rfl) ?_
          refine lv_iconst (v := 3) hx hb dX9_firstOf_36 (by decide) ?_
          refine lv_iadd hx hb dX9_firstOf_37 ?_
          refine cx_vi (As := [.int (x2 + 3)]) (rest := []) ⟨hx, hb, hml, hown, hts⟩ hl.1 ok_sxE hE hK hP hD hS hA (cut_39 cI q0 u0) (c_X2_pairAt (l := l) (dC := dC) (dI := dI) (cI := cI) (q0 := fun i => q0 (i + 1)) h) (cwV 1 hts gX9_firstOf_X2_pairAt rfl rfl rfl hdX2_pairAt ⟨Nat.le_of_ble_eq_true rfl, Nat.le_of_ble_eq_true rfl⟩) rfl rfl rfl rfl (Nat.le_of_ble_eq_true rfl) dX9_firstOf_38 rfl (fun r_2 _ H locs h hP hD hS => ?_)
          refine lv_istore_n (lv' := [(2, .int r_2), (0, .ref (q0 0)), (3, .int x3)]) hx hb dX9_firstOf_41 rfl hl (by decide) rfl (fun ls hl => ?_)
          obtain ⟨x3_3, e_x3_3⟩ : ∃ z : Int32, z = x3 + 1 := ⟨_, rfl⟩
          have h := h x3_3 e_x3_3
          refine lv_iinc (v := x3_3) (lv' := [(3, .int x3_3), (2, .int r_2), (0, .ref (q0 0))]) hx hb dX9_firstOf_42 hl (k := 2) rfl (by rw [e_x3_3]; rfl) (by decide) rfl (fun ls hl => ?_)
          refine lv_goto (tgt := 12) hx hb dX9_firstOf_45 (by decide) ?_
          exact ih r_2 x3_3 _ _ _ hP hD hS (lv_sub hl [2, 1, 0] rfl) h
  have hS : va_S A s.heap s.heap [] := va_S.rf
  refine lv_aload_n hx hb dX9_firstOf_0 rfl (lv_at hl 0 rfl) ?_
  refine va_get (D := (dC, dI)) (ci := 9) (v := .ref (q0 13)) (C := RX9) (T := TX9) (N := 11) hx hb hts inX9_firstOf_9 hown hK hP 0 rfl rfl 2 (by decide) (hts _ kX9_firstOf_3) (fun _ h9 => h9) rfl dX9_firstOf_1 ?_
  refine va_get (D := (dC, dI)) (ci := 5) (v := .ref (q0 15)) (C := RX5) (T := TX5) (N := 3) hx hb hts inX9_firstOf_5 hown hK hP 13 rfl rfl 1 (by decide) (hts _ kX9_firstOf_2) (fun _ h9 => h9) rfl dX9_firstOf_4 ?_
  refine lv_iload_n hx hb dX9_firstOf_7 rfl (lv_at hl 1 rfl) ?_
  refine va_iald hx hb hK hP 15 0 rfl rfl h.1 dX9_firstOf_8 ?_
  have h := h.2
  refine lv_topi (fun x2_4 e_x2_4 => ?_)
  have h := h x2_4 e_x2_4
  refine lv_istore_n (lv' := [(2, .int x2_4), (0, .ref (q0 0)), (1, .int x1)]) hx hb dX9_firstOf_9 rfl hl (by decide) rfl (fun ls hl => ?_)
  refine lv_iconst (v := 0) hx hb dX9_firstOf_10 (by decide) ?_
  refine lv_istore_n (lv' := [(3, .int 0), (2, .int x2_4), (0, .ref (q0 0)), (1, .int x1)]) hx hb dX9_firstOf_11 rfl hl (by decide) rfl (fun ls hl => ?_)
  obtain ⟨n0, h⟩ := h
  exact w_12 n0 x2_4 0 _ _ _ hP hD hS (lv_sub hl [2, 1, 0] rfl) h

abbrev rX9_needed : Room := { frames := 3, cells := 0, slots := 0, locals := 65 }
theorem hdX9_needed : yX9_needed.cls = RX9 ∧ yX9_needed.cls ≠ "java/lang/invoke/MethodHandle" ∧ yX9_needed.cls ≠ "java/lang/invoke/VarHandle" ∧ (parseMethodDescriptor yX9_needed.desc).map (fun d => d.parameters.length) = some 0 := by decide +kernel
theorem inX9_needed_3 : ∀ w ∈ wsX30, w ∈ wsX9_needed := by decide +kernel
theorem inX9_needed_5 : ∀ w ∈ wsX50, w ∈ wsX9_needed := by decide +kernel
theorem inX9_needed_9 : ∀ w ∈ wsX90, w ∈ wsX9_needed := by decide +kernel
theorem kX9_needed_0 : Cond.methodLink RX9 249 Lib.Math.min.name ∈ wsX9_needed := by decide +kernel
theorem kX9_needed_1 : Cond.static Lib.Math.min.name ∈ wsX9_needed := by decide +kernel
theorem kX9_needed_2 : Cond.initialized "java/lang/Math" ∈ wsX9_needed := by decide +kernel
theorem kX9_needed_3 : Cond.code Lib.Math.min.name Lib.Math.min.code 2 (some .int) ∈ wsX9_needed := by decide +kernel
theorem kX9_needed_4 : Cond.fieldLink RX9 77 "AheadStore$Roster" "is" "[I" ∈ wsX9_needed := by decide +kernel
theorem kX9_needed_5 : Cond.fieldLink RX9 28 "AheadStore$World" "roster" "LAheadStore$Roster;" ∈ wsX9_needed := by decide +kernel
theorem kX9_needed_6 : Cond.fieldLink RX9 216 "AheadStore$Pages" "recs" "[I" ∈ wsX9_needed := by decide +kernel
theorem kX9_needed_7 : Cond.fieldLink RX9 21 "AheadStore$World" "pages" "LAheadStore$Pages;" ∈ wsX9_needed := by decide +kernel
theorem kX9_needed_8 : Cond.fieldLink RX9 53 "AheadStore$World" "up" "Z" ∈ wsX9_needed := by decide +kernel
set_option maxHeartbeats 4000000 in
set_option maxRecDepth 100000 in
theorem c_X9_needed {l : Launch} {dC : Nat → ClassId} {dI : Nat → Nat → Nat} {cI : ClassId} {q0 : Nat → Nat} {sz : Nat} {u0 : S9}  {Q : Int32 → Prop} (h : wp_X9_needed u0 Q) : ctI sxE l yX9_needed wsX9_needed rX9_needed (dC, dI) vwCl [(cI, .int)] [.ref (q0 0)] (cs9 cI q0 u0) sz (fun (r : Int32) (_ : Unit) => Q r) (fun (_ : Unit) => cs9 cI q0 u0) := by
  refine mx_i (cc := cX9_needed) (maxL := 3) (ty := .int) (by decide) rfl (Nat.le_of_ble_eq_true rfl) ?_
  intro p e s m below meth c Z A ls args hx hb hml hown hts hA hP hK hD hE hl hret
  have hown : s.vm.findClass RX9 = some m.cls := hown
  have hl : lv_has ls 3 [(0, .ref (q0 0))] := hl
  have w_85 : ∀ (k_57 : Int32 → Int32 → Prop) (hk_57 : ∀ (x1 : Int32) (x2 : Int32) (H : Heap) (locs : List Loc) (ls : Array Slot) (_ : va_P (dC, dI) vwCl (cs9 cI q0 u0) H) (_ : va_D A (cs9 cI q0 u0)) (_ : va_S A s.heap H locs) (_ : lv_has ls 3 [(0, .ref (q0 0)), (1, .int x1), (2, .int x2)]) (_ : k_57 x1 x2), W p l e rX9_needed s m args below meth c H locs 0 0 Z (F0 m 57 ls [])) (x1 : Int32) (x2 : Int32) (H : Heap) (locs : List Loc) (ls : Array Slot) (_ : va_P (dC, dI) vwCl (cs9 cI q0 u0) H) (_ : va_D A (cs9 cI q0 u0)) (_ : va_S A s.heap H locs) (_ : lv_has ls 3 [(0, .ref (q0 0)), (1, .int x1), (2, .int x2)]) (_ : wp_X9_needed_85 u0 k_57 Q x1 x2), W p l e rX9_needed s m args below meth c H locs 0 0 Z (F0 m 85 ls []) := by
    intro k_57 hk_57 x1 x2 H locs ls hP hD hS hl h
    obtain ⟨x2_1, e_x2_1⟩ : ∃ z : Int32, z = x2 + 1 := ⟨_, rfl⟩
    have h := h x2_1 e_x2_1
    refine lv_iinc (v := x2_1) (lv' := [(2, .int x2_1), (0, .ref (q0 0)), (1, .int x1)]) hx hb dX9_needed_85 hl (k := 2) rfl (by rw [e_x2_1]; rfl) (by decide) rfl (fun ls hl => ?_)
    refine lv_goto (tgt := 57) hx hb dX9_needed_88 (by decide) ?_
    exact hk_57 x1 x2_1 _ _ _ hP hD hS (lv_sub hl [1, 2, 0] rfl) h
  have w_57 : ∀ (n : Nat) (x1 : Int32) (x2 : Int32) (H : Heap) (locs : List Loc) (ls : Array Slot) (_ : va_P (dC, dI) vwCl (cs9 cI q0 u0) H) (_ : va_D A (cs9 cI q0 u0)) (_ : va_S A s.heap H locs) (_ : lv_has ls 3 [(0, .ref (q0 0)), (1, .int x1), (2, .int x2)]) (_ : wp_X9_needed_57 u0 Q n x1 x2), W p l e rX9_needed s m args below meth c H locs 0 0 Z (F0 m 57 ls []) := by
    intro n
    induction n with
    | zero => intro x1 x2 H locs ls hP hD hS hl h; exact False.elim h
    | succ n ih =>
      intro x1 x2 H locs ls hP hD hS hl h
      refine lv_iload_n hx hb dX9_needed_57 rfl (lv_at hl 2 rfl) ?_
      refine lv_bipush (v := 9) hx hb dX9_needed_58 (by decide) ?_
      refine lv_icmp_gt (tgt := 91) hx hb dX9_needed_60 (by decide) (fun cd => ?_) (fun cd => ?_)
      · have h := h.1 cd
        refine lv_iload_n hx hb dX9_needed_91 rfl (lv_at hl 1 rfl) ?_
        exact hret _ _ _ _ _ () dX9_needed_92 (vp_nar_int _) h hP hD hS
      · have h := h.2 cd
        refine lv_aload_n hx hb dX9_needed_63 rfl (lv_at hl 0 rfl) ?_
        refine va_get (D := (dC, dI)) (ci := 9) (v := .ref (q0 13)) (C := RX9) (T := TX9) (N := 11) hx hb hts inX9_needed_9 hown hK hP 0 rfl rfl 2 (by decide) (hts _ kX9_needed_5) (fun _ h9 => h9) rfl dX9_needed_64 ?_
        refine va_get (D := (dC, dI)) (ci := 5) (v := .ref (q0 14)) (C := RX5) (T := TX5) (N := 3) hx hb hts inX9_needed_5 hown hK hP 13 rfl rfl 0 (by decide) (hts _ kX9_needed_4) (fun _ h9 => h9) rfl dX9_needed_67 ?_
        refine lv_iload_n hx hb dX9_needed_70 rfl (lv_at hl 2 rfl) ?_
        refine va_iald hx hb hK hP 14 0 rfl rfl h.1 dX9_needed_71 ?_
        have h := h.2
        refine lv_if_eq (tgt := 85) hx hb dX9_needed_72 (by decide) (fun cd => ?_) (fun cd => ?_)
        · have h := h.1 cd
          exact w_85 (fun x1 x2 => wp_X9_needed_57 u0 Q n x1 x2) (fun x1 x2 H locs ls hP hD hS hl h => ih x1 x2 H locs ls hP hD hS hl h) x1 x2 _ _ _ hP hD hS (lv_sub hl [0, 1, 2] rfl) h
        · have h := h.2 cd
          refine lv_iload_n hx hb dX9_needed_75 rfl (lv_at hl 1 rfl) ?_
          refine lv_aload_n hx hb dX9_needed_76 rfl (lv_at hl 0 rfl) ?_
          refine lv_iload_n hx hb dX9_needed_77 rfl (lv_at hl 2 rfl) ?_
          refine cx_vi (As := [.int x2]) (rest := [.int x1]) ⟨hx, hb, hml, hown, hts⟩ hl.1 ok_sxE hE hK hP hD hS hA (cut_43 cI q0 u0) (c_X9_firstOf (l := l) (dC := dC) (dI := dI) (cI := cI) (q0 := q0) h) (cwV 1 hts gX9_needed_X9_firstOf rfl rfl rfl hdX9_firstOf ⟨Nat.le_of_ble_eq_true rfl, Nat.le_of_ble_eq_true rfl⟩) rfl rfl rfl rfl (Nat.le_of_ble_eq_true rfl) dX9_needed_78 rfl (fun r_2 _ H locs h hP hD hS => ?_)
          refine va_mmin hx hb (hml.trans hl.1.symm) hown (hts _ kX9_needed_0) (hts _ kX9_needed_1) (hts _ kX9_needed_2) (hts _ kX9_needed_3) (Nat.le_of_ble_eq_true rfl) (Nat.le_of_ble_eq_true rfl) (Nat.zero_le _) (Nat.zero_le _) dX9_needed_81 ?_
          refine lv_topi (fun x1_3 e_x1_3 => ?_)
          have h := h x1_3 e_x1_3
          refine lv_istore_n (lv' := [(1, .int x1_3), (0, .ref (q0 0)), (2, .int x2)]) hx hb dX9_needed_84 rfl hl (by decide) rfl (fun ls hl => ?_)
          exact w_85 (fun x1 x2 => wp_X9_needed_57 u0 Q n x1 x2) (fun x1 x2 H locs ls hP hD hS hl h => ih x1 x2 H locs ls hP hD hS hl h) x1_3 x2 _ _ _ hP hD hS (lv_sub hl [1, 0, 2] rfl) h
  have w_49 : ∀ (k_17 : Int32 → Int32 → Prop) (hk_17 : ∀ (x1 : Int32) (x2 : Int32) (H : Heap) (locs : List Loc) (ls : Array Slot) (_ : va_P (dC, dI) vwCl (cs9 cI q0 u0) H) (_ : va_D A (cs9 cI q0 u0)) (_ : va_S A s.heap H locs) (_ : lv_has ls 3 [(0, .ref (q0 0)), (1, .int x1), (2, .int x2)]) (_ : k_17 x1 x2), W p l e rX9_needed s m args below meth c H locs 0 0 Z (F0 m 17 ls [])) (x1 : Int32) (x2 : Int32) (H : Heap) (locs : List Loc) (ls : Array Slot) (_ : va_P (dC, dI) vwCl (cs9 cI q0 u0) H) (_ : va_D A (cs9 cI q0 u0)) (_ : va_S A s.heap H locs) (_ : lv_has ls 3 [(0, .ref (q0 0)), (1, .int x1), (2, .int x2)]) (_ : wp_X9_needed_49 u0 k_17 Q x1 x2), W p l e rX9_needed s m args below meth c H locs 0 0 Z (F0 m 49 ls []) := by
    intro k_17 hk_17 x1 x2 H locs ls hP hD hS hl h
    obtain ⟨x2_4, e_x2_4⟩ : ∃ z : Int32, z = x2 + 1 := ⟨_, rfl⟩
    have h := h x2_4 e_x2_4
    refine lv_iinc (v := x2_4) (lv' := [(2, .int x2_4), (0, .ref (q0 0)), (1, .int x1)]) hx hb dX9_needed_49 hl (k := 2) rfl (by rw [e_x2_4]; rfl) (by decide) rfl (fun ls hl => ?_)
    refine lv_goto (tgt := 17) hx hb dX9_needed_52 (by decide) ?_
    exact hk_17 x1 x2_4 _ _ _ hP hD hS (lv_sub hl [1, 2, 0] rfl) h
  have w_17 : ∀ (n : Nat) (x1 : Int32) (x2 : Int32) (H : Heap) (locs : List Loc) (ls : Array Slot) (_ : va_P (dC, dI) vwCl (cs9 cI q0 u0) H) (_ : va_D A (cs9 cI q0 u0)) (_ : va_S A s.heap H locs) (_ : lv_has ls 3 [(0, .ref (q0 0)), (1, .int x1), (2, .int x2)]) (_ : wp_X9_needed_17 u0 Q n x1 x2), W p l e rX9_needed s m args below meth c H locs 0 0 Z (F0 m 17 ls []) := by
    intro n
    induction n with
    | zero => intro x1 x2 H locs ls hP hD hS hl h; exact False.elim h
    | succ n ih =>
      intro x1 x2 H locs ls hP hD hS hl h
      refine lv_iload_n hx hb dX9_needed_17 rfl (lv_at hl 2 rfl) ?_
      refine lv_bipush (v := 8) hx hb dX9_needed_18 (by decide) ?_
      refine lv_icmp_ge (tgt := 55) hx hb dX9_needed_20 (by decide) (fun cd => ?_) (fun cd => ?_)
      · have h := h.1 cd
        refine lv_iconst (v := 1) hx hb dX9_needed_55 (by decide) ?_
        refine lv_istore_n (lv' := [(2, .int 1), (0, .ref (q0 0)), (1, .int x1)]) hx hb dX9_needed_56 rfl hl (by decide) rfl (fun ls hl => ?_)
        obtain ⟨n0, h⟩ := h
        exact w_57 n0 x1 1 _ _ _ hP hD hS (lv_sub hl [1, 2, 0] rfl) h
      · have h := h.2 cd
        refine lv_aload_n hx hb dX9_needed_23 rfl (lv_at hl 0 rfl) ?_
        refine va_get (D := (dC, dI)) (ci := 9) (v := .ref (q0 3)) (C := RX9) (T := TX9) (N := 11) hx hb hts inX9_needed_9 hown hK hP 0 rfl rfl 1 (by decide) (hts _ kX9_needed_7) (fun _ h9 => h9) rfl dX9_needed_24 ?_
        refine va_get (D := (dC, dI)) (ci := 3) (v := .ref (q0 11)) (C := RX3) (T := TX3) (N := 12) hx hb hts inX9_needed_3 hown hK hP 3 rfl rfl 9 (by decide) (hts _ kX9_needed_6) (fun _ h9 => h9) rfl dX9_needed_27 ?_
        refine lv_iload_n hx hb dX9_needed_30 rfl (lv_at hl 2 rfl) ?_
        refine va_iald hx hb hK hP 11 0 rfl rfl h.1 dX9_needed_31 ?_
        have h := h.2
        refine lv_if_eq (tgt := 49) hx hb dX9_needed_32 (by decide) (fun cd => ?_) (fun cd => ?_)
        · have h := h.1 cd
          exact w_49 (fun x1 x2 => wp_X9_needed_17 u0 Q n x1 x2) (fun x1 x2 H locs ls hP hD hS hl h => ih x1 x2 H locs ls hP hD hS hl h) x1 x2 _ _ _ hP hD hS (lv_sub hl [0, 1, 2] rfl) h
        · have h := h.2 cd
          refine lv_iload_n hx hb dX9_needed_35 rfl (lv_at hl 1 rfl) ?_
          refine lv_aload_n hx hb dX9_needed_36 rfl (lv_at hl 0 rfl) ?_
          refine va_get (D := (dC, dI)) (ci := 9) (v := .ref (q0 3)) (C := RX9) (T := TX9) (N := 11) hx hb hts inX9_needed_9 hown hK hP 0 rfl rfl 1 (by decide) (hts _ kX9_needed_7) (fun _ h9 => h9) rfl dX9_needed_37 ?_
          refine va_get (D := (dC, dI)) (ci := 3) (v := .ref (q0 11)) (C := RX3) (T := TX3) (N := 12) hx hb hts inX9_needed_3 hown hK hP 3 rfl rfl 9 (by decide) (hts _ kX9_needed_6) (fun _ h9 => h9) rfl dX9_needed_40 ?_
          refine lv_iload_n hx hb dX9_needed_43 rfl (lv_at hl 2 rfl) ?_
          refine va_iald hx hb hK hP 11 0 rfl rfl h.1 dX9_needed_44 ?_
          have h := h.2
          refine va_mmin hx hb (hml.trans hl.1.symm) hown (hts _ kX9_needed_0) (hts _ kX9_needed_1) (hts _ kX9_needed_2) (hts _ kX9_needed_3) (Nat.le_of_ble_eq_true rfl) (Nat.le_of_ble_eq_true rfl) (Nat.zero_le _) (Nat.zero_le _) dX9_needed_45 ?_
          refine lv_topi (fun x1_6 e_x1_6 => ?_)
          have h := h x1_6 e_x1_6
          refine lv_istore_n (lv' := [(1, .int x1_6), (0, .ref (q0 0)), (2, .int x2)]) hx hb dX9_needed_48 rfl hl (by decide) rfl (fun ls hl => ?_)
          exact w_49 (fun x1 x2 => wp_X9_needed_17 u0 Q n x1 x2) (fun x1 x2 H locs ls hP hD hS hl h => ih x1 x2 H locs ls hP hD hS hl h) x1_6 x2 _ _ _ hP hD hS (lv_sub hl [1, 0, 2] rfl) h
  have hS : va_S A s.heap s.heap [] := va_S.rf
  refine lv_aload_n hx hb dX9_needed_0 rfl (lv_at hl 0 rfl) ?_
  refine va_get (D := (dC, dI)) (ci := 9) (v := .int (g9_up u0)) (C := RX9) (T := TX9) (N := 11) hx hb hts inX9_needed_9 hown hK hP 0 rfl rfl 6 (by decide) (hts _ kX9_needed_8) (fun _ h9 => h9) rfl dX9_needed_1 ?_
  refine lv_if_ne (tgt := 10) hx hb dX9_needed_4 (by decide) (fun cd => ?_) (fun cd => ?_)
  · have h := h.2 cd
    refine lv_aload_n hx hb dX9_needed_10 rfl (lv_at hl 0 rfl) ?_
    refine cx_vi (As := []) (rest := []) ⟨hx, hb, hml, hown, hts⟩ hl.1 ok_sxE hE hK hP hD hS hA (cut_43 cI q0 u0) (c_X9_firstFrom (l := l) (dC := dC) (dI := dI) (cI := cI) (q0 := q0) h) (cwV 0 hts gX9_needed_X9_firstFrom rfl rfl rfl hdX9_firstFrom ⟨Nat.le_of_ble_eq_true rfl, Nat.le_of_ble_eq_true rfl⟩) rfl rfl rfl rfl (Nat.le_of_ble_eq_true rfl) dX9_needed_11 rfl (fun r_7 _ H locs h hP hD hS => ?_)
    refine lv_istore_n (lv' := [(1, .int r_7), (0, .ref (q0 0))]) hx hb dX9_needed_14 rfl hl (by decide) rfl (fun ls hl => ?_)
    refine lv_iconst (v := 0) hx hb dX9_needed_15 (by decide) ?_
    refine lv_istore_n (lv' := [(2, .int 0), (1, .int r_7), (0, .ref (q0 0))]) hx hb dX9_needed_16 rfl hl (by decide) rfl (fun ls hl => ?_)
    obtain ⟨n0, h⟩ := h
    exact w_17 n0 r_7 0 _ _ _ hP hD hS (lv_sub hl [2, 1, 0] rfl) h
  · have h := h.1 cd
    refine lv_bipush (v := 8) hx hb dX9_needed_7 (by decide) ?_
    exact hret _ _ _ _ _ () dX9_needed_9 (vp_nar_int _) h hP hD hS

set_option maxRecDepth 100000 in
theorem cut_47 (cI : ClassId) (q0 : Nat → Nat) (q1 : Nat → Nat) (u0 : S9) (u1 : S9) : Cut (cs9 cI q0 u0 ++ cs9 cI q1 u1) (cs6 cI (fun i => q0 (i + 28)) (g9_script u0) ++ cs6 cI (fun i => q1 (i + 28)) (g9_script u1)) (fun v : S6 => cs6 cI (fun i => q0 (i + 28)) v ++ cs6 cI (fun i => q1 (i + 28)) (g9_script u1)) (fun v : S6 => (cs9 cI q0 (s9_script u0 v) ++ cs9 cI q1 u1)) := ⟨[28, 29, 58, 59], [0, 1, 2, 3, 4, 5, 6, 7, 8, 9, 10, 11, 12, 13, 14, 15, 16, 17, 18, 19, 20, 21, 22, 23, 24, 25, 26, 27, 30, 31, 32, 33, 34, 35, 36, 37, 38, 39, 40, 41, 42, 43, 44, 45, 46, 47, 48, 49, 50, 51, 52, 53, 54, 55, 56, 57], rfl, rfl, rfl, by decide, by decide, fun v => ⟨[0, 1, 2, 3, 4, 5, 6, 7, 8, 9, 10, 11, 12, 13, 14, 15, 16, 17, 18, 19, 20, 21, 22, 23, 24, 25, 26, 27, 56, 57, 28, 29, 30, 31, 32, 33, 34, 35, 36, 37, 38, 39, 40, 41, 42, 43, 44, 45, 46, 47, 48, 49, 50, 51, 52, 53, 54, 55, 58, 59], rfl, rfl⟩⟩

set_option maxRecDepth 100000 in
theorem cut_48 (cI : ClassId) (q0 : Nat → Nat) (q1 : Nat → Nat) (u0 : S9) (u1 : S9) : Cut (cs9 cI q0 u0 ++ cs9 cI q1 u1) (cs7 cI (fun i => q0 (i + 25)) (g9_standby u0) ++ cs7 cI (fun i => q1 (i + 25)) (g9_standby u1)) (fun v : S7 => cs7 cI (fun i => q0 (i + 25)) v ++ cs7 cI (fun i => q1 (i + 25)) (g9_standby u1)) (fun v : S7 => (cs9 cI q0 (s9_standby u0 v) ++ cs9 cI q1 u1)) := ⟨[25, 26, 27, 55, 56, 57], [0, 1, 2, 3, 4, 5, 6, 7, 8, 9, 10, 11, 12, 13, 14, 15, 16, 17, 18, 19, 20, 21, 22, 23, 24, 28, 29, 30, 31, 32, 33, 34, 35, 36, 37, 38, 39, 40, 41, 42, 43, 44, 45, 46, 47, 48, 49, 50, 51, 52, 53, 54, 58, 59], rfl, rfl, rfl, by decide, by decide, fun v => ⟨[0, 1, 2, 3, 4, 5, 6, 7, 8, 9, 10, 11, 12, 13, 14, 15, 16, 17, 18, 19, 20, 21, 22, 23, 24, 54, 55, 56, 25, 26, 27, 28, 29, 30, 31, 32, 33, 34, 35, 36, 37, 38, 39, 40, 41, 42, 43, 44, 45, 46, 47, 48, 49, 50, 51, 57, 58, 59, 52, 53], rfl, rfl⟩⟩

set_option maxRecDepth 100000 in
theorem cut_49 (cI : ClassId) (q0 : Nat → Nat) (q1 : Nat → Nat) (u0 : S9) (u1 : S9) : Cut (cs9 cI q0 u0 ++ cs9 cI q1 u1) (cs0 cI (fun i => q0 (i + 17)) (g9_claims u0) ++ cs0 cI (fun i => q1 (i + 17)) (g9_claims u1)) (fun v : S0 => cs0 cI (fun i => q0 (i + 17)) v ++ cs0 cI (fun i => q1 (i + 17)) (g9_claims u1)) (fun v : S0 => (cs9 cI q0 (s9_claims u0 v) ++ cs9 cI q1 u1)) := ⟨[17, 18, 19, 20, 21, 22, 23, 24, 47, 48, 49, 50, 51, 52, 53, 54], [0, 1, 2, 3, 4, 5, 6, 7, 8, 9, 10, 11, 12, 13, 14, 15, 16, 25, 26, 27, 28, 29, 30, 31, 32, 33, 34, 35, 36, 37, 38, 39, 40, 41, 42, 43, 44, 45, 46, 55, 56, 57, 58, 59], rfl, rfl, rfl, by decide, by decide, fun v => ⟨[0, 1, 2, 3, 4, 5, 6, 7, 8, 9, 10, 11, 12, 13, 14, 15, 16, 44, 45, 46, 47, 48, 49, 50, 51, 17, 18, 19, 20, 21, 22, 23, 24, 25, 26, 27, 28, 29, 30, 31, 32, 33, 34, 35, 36, 37, 38, 52, 53, 54, 55, 56, 57, 58, 59, 39, 40, 41, 42, 43], rfl, rfl⟩⟩

set_option maxRecDepth 100000 in
theorem cut_50 (cI : ClassId) (q0 : Nat → Nat) (q1 : Nat → Nat) (u0 : S9) (u1 : S9) : Cut (cs9 cI q0 u0 ++ cs9 cI q1 u1) (cs5 cI (fun i => q0 (i + 13)) (g9_roster u0) ++ cs5 cI (fun i => q1 (i + 13)) (g9_roster u1)) (fun v : S5 => cs5 cI (fun i => q0 (i + 13)) v ++ cs5 cI (fun i => q1 (i + 13)) (g9_roster u1)) (fun v : S5 => (cs9 cI q0 (s9_roster u0 v) ++ cs9 cI q1 u1)) := ⟨[13, 14, 15, 16, 43, 44, 45, 46], [0, 1, 2, 3, 4, 5, 6, 7, 8, 9, 10, 11, 12, 17, 18, 19, 20, 21, 22, 23, 24, 25, 26, 27, 28, 29, 30, 31, 32, 33, 34, 35, 36, 37, 38, 39, 40, 41, 42, 47, 48, 49, 50, 51, 52, 53, 54, 55, 56, 57, 58, 59], rfl, rfl, rfl, by decide, by decide, fun v => ⟨[0, 1, 2, 3, 4, 5, 6, 7, 8, 9, 10, 11, 12, 52, 53, 54, 55, 13, 14, 15, 16, 17, 18, 19, 20, 21, 22, 23, 24, 25, 26, 27, 28, 29, 30, 31, 32, 33, 34, 35, 36, 37, 38, 56, 57, 58, 59, 39, 40, 41, 42, 43, 44, 45, 46, 47, 48, 49, 50, 51], rfl, rfl⟩⟩

set_option maxRecDepth 100000 in
theorem cut_51 (cI : ClassId) (q0 : Nat → Nat) (q1 : Nat → Nat) (u0 : S9) (u1 : S9) : Cut (cs9 cI q0 u0 ++ cs9 cI q1 u1) (cs3 cI (fun i => q0 (i + 3)) (g9_pages u0) ++ cs3 cI (fun i => q1 (i + 3)) (g9_pages u1)) (fun v : S3 => cs3 cI (fun i => q0 (i + 3)) v ++ cs3 cI (fun i => q1 (i + 3)) (g9_pages u1)) (fun v : S3 => (cs9 cI q0 (s9_pages u0 v) ++ cs9 cI q1 u1)) := ⟨[3, 4, 5, 6, 7, 8, 9, 10, 11, 12, 33, 34, 35, 36, 37, 38, 39, 40, 41, 42], [0, 1, 2, 13, 14, 15, 16, 17, 18, 19, 20, 21, 22, 23, 24, 25, 26, 27, 28, 29, 30, 31, 32, 43, 44, 45, 46, 47, 48, 49, 50, 51, 52, 53, 54, 55, 56, 57, 58, 59], rfl, rfl, rfl, by decide, by decide, fun v => ⟨[0, 1, 2, 40, 41, 42, 43, 44, 45, 46, 47, 48, 49, 3, 4, 5, 6, 7, 8, 9, 10, 11, 12, 13, 14, 15, 16, 17, 18, 19, 20, 21, 22, 50, 51, 52, 53, 54, 55, 56, 57, 58, 59, 23, 24, 25, 26, 27, 28, 29, 30, 31, 32, 33, 34, 35, 36, 37, 38, 39], rfl, rfl⟩⟩

set_option maxRecDepth 100000 in
theorem cut_52 (cI : ClassId) (q0 : Nat → Nat) (q1 : Nat → Nat) (u0 : S9) (u1 : S9) : Cut (cs9 cI q0 u0 ++ cs9 cI q1 u1) (cs2 cI (fun i => q0 (i + 1)) (g9_journal u0) ++ cs2 cI (fun i => q1 (i + 1)) (g9_journal u1)) (fun v : S2 => cs2 cI (fun i => q0 (i + 1)) v ++ cs2 cI (fun i => q1 (i + 1)) (g9_journal u1)) (fun v : S2 => (cs9 cI q0 (s9_journal u0 v) ++ cs9 cI q1 u1)) := ⟨[1, 2, 31, 32], [0, 3, 4, 5, 6, 7, 8, 9, 10, 11, 12, 13, 14, 15, 16, 17, 18, 19, 20, 21, 22, 23, 24, 25, 26, 27, 28, 29, 30, 33, 34, 35, 36, 37, 38, 39, 40, 41, 42, 43, 44, 45, 46, 47, 48, 49, 50, 51, 52, 53, 54, 55, 56, 57, 58, 59], rfl, rfl, rfl, by decide, by decide, fun v => ⟨[0, 56, 57, 1, 2, 3, 4, 5, 6, 7, 8, 9, 10, 11, 12, 13, 14, 15, 16, 17, 18, 19, 20, 21, 22, 23, 24, 25, 26, 27, 28, 58, 59, 29, 30, 31, 32, 33, 34, 35, 36, 37, 38, 39, 40, 41, 42, 43, 44, 45, 46, 47, 48, 49, 50, 51, 52, 53, 54, 55], rfl, rfl⟩⟩

abbrev rX9_copyFrom : Room := { frames := 2, cells := 0, slots := 0, locals := 61 }
theorem hdX9_copyFrom : yX9_copyFrom.cls = RX9 ∧ yX9_copyFrom.cls ≠ "java/lang/invoke/MethodHandle" ∧ yX9_copyFrom.cls ≠ "java/lang/invoke/VarHandle" ∧ (parseMethodDescriptor yX9_copyFrom.desc).map (fun d => d.parameters.length) = some 1 := by decide +kernel
theorem inX9_copyFrom_9 : ∀ w ∈ wsX90, w ∈ wsX9_copyFrom := by decide +kernel
theorem kX9_copyFrom_0 : Cond.fieldLink RX9 67 "AheadStore$World" "crashes" "I" ∈ wsX9_copyFrom := by decide +kernel
theorem kX9_copyFrom_1 : Cond.fieldLink RX9 64 "AheadStore$World" "redone" "I" ∈ wsX9_copyFrom := by decide +kernel
theorem kX9_copyFrom_2 : Cond.fieldLink RX9 61 "AheadStore$World" "openCheck" "I" ∈ wsX9_copyFrom := by decide +kernel
theorem kX9_copyFrom_3 : Cond.fieldLink RX9 57 "AheadStore$World" "master" "I" ∈ wsX9_copyFrom := by decide +kernel
theorem kX9_copyFrom_4 : Cond.fieldLink RX9 53 "AheadStore$World" "up" "Z" ∈ wsX9_copyFrom := by decide +kernel
theorem kX9_copyFrom_5 : Cond.fieldLink RX9 49 "AheadStore$World" "script" "LAheadStore$Script;" ∈ wsX9_copyFrom := by decide +kernel
theorem kX9_copyFrom_6 : Cond.fieldLink RX9 42 "AheadStore$World" "standby" "LAheadStore$Standby;" ∈ wsX9_copyFrom := by decide +kernel
theorem kX9_copyFrom_7 : Cond.fieldLink RX9 35 "AheadStore$World" "claims" "LAheadStore$Claims;" ∈ wsX9_copyFrom := by decide +kernel
theorem kX9_copyFrom_8 : Cond.fieldLink RX9 28 "AheadStore$World" "roster" "LAheadStore$Roster;" ∈ wsX9_copyFrom := by decide +kernel
theorem kX9_copyFrom_9 : Cond.fieldLink RX9 21 "AheadStore$World" "pages" "LAheadStore$Pages;" ∈ wsX9_copyFrom := by decide +kernel
theorem kX9_copyFrom_10 : Cond.fieldLink RX9 12 "AheadStore$World" "journal" "LAheadStore$Journal;" ∈ wsX9_copyFrom := by decide +kernel
set_option maxHeartbeats 4000000 in
set_option maxRecDepth 100000 in
theorem c_X9_copyFrom {l : Launch} {dC : Nat → ClassId} {dI : Nat → Nat → Nat} {cI : ClassId} {q0 : Nat → Nat} {q1 : Nat → Nat} {sz : Nat} {u0 : S9} {u1 : S9}  {Q : S9 → Prop} (h : wp_X9_copyFrom u0 u1 Q) : ctV sxE l yX9_copyFrom wsX9_copyFrom rX9_copyFrom (dC, dI) vwCl [(cI, .int)] [.ref (q0 0), .ref (q1 0)] (cs9 cI q0 u0 ++ cs9 cI q1 u1) sz (fun (v : S9) => Q v) (fun (v : S9) => (cs9 cI q0 v ++ cs9 cI q1 u1)) := by
  refine mx_v (cc := cX9_copyFrom) (maxL := 2) (by decide) rfl (Nat.le_of_ble_eq_true rfl) ?_
  intro p e s m below meth c Z A ls args hx hb hml hown hts hA hP hK hD hE hl hret
  have hown : s.vm.findClass RX9 = some m.cls := hown
  have hl : lv_has ls 2 [(0, .ref (q0 0)), (1, .ref (q1 0))] := hl
  have hS : va_S A s.heap s.heap [] := va_S.rf
  refine lv_aload_n hx hb dX9_copyFrom_0 rfl (lv_at hl 0 rfl) ?_
  refine va_get (D := (dC, dI)) (ci := 9) (v := .ref (q0 1)) (C := RX9) (T := TX9) (N := 11) hx hb hts inX9_copyFrom_9 hown hK hP 0 rfl rfl 0 (by decide) (hts _ kX9_copyFrom_10) (fun _ h9 => h9) rfl dX9_copyFrom_1 ?_
  refine lv_aload_n hx hb dX9_copyFrom_4 rfl (lv_at hl 1 rfl) ?_
  refine va_get (D := (dC, dI)) (ci := 9) (v := .ref (q1 1)) (C := RX9) (T := TX9) (N := 11) hx hb hts inX9_copyFrom_9 hown hK hP 30 rfl rfl 0 (by decide) (hts _ kX9_copyFrom_10) (fun _ h9 => h9) rfl dX9_copyFrom_5 ?_
  refine cx_vv (As := [.ref (q1 1)]) (rest := []) ⟨hx, hb, hml, hown, hts⟩ hl.1 ok_sxE hE hK hP hD hS hA (cut_52 cI q0 q1 u0 u1) (c_X2_copyFrom (l := l) (dC := dC) (dI := dI) (cI := cI) (q0 := fun i => q0 (i + 1)) (q1 := fun i => q1 (i + 1)) h) (cwV 1 hts gX9_copyFrom_X2_copyFrom rfl rfl rfl hdX2_copyFrom ⟨Nat.le_of_ble_eq_true rfl, Nat.le_of_ble_eq_true rfl⟩) rfl rfl rfl rfl (Nat.le_of_ble_eq_true rfl) dX9_copyFrom_8 rfl (fun v_1 H locs h hP hD hS => ?_)
  obtain ⟨u0_2, e_u0_2⟩ : ∃ z, z = s9_journal u0 v_1 := ⟨_, rfl⟩
  have h := h u0_2 e_u0_2
  have hP : va_P (dC, dI) vwCl (cs9 cI q0 u0_2 ++ cs9 cI q1 u1) H := by rw [e_u0_2]; exact hP
  have hD : va_D A (cs9 cI q0 u0_2 ++ cs9 cI q1 u1) := by rw [e_u0_2]; exact hD
  refine lv_aload_n hx hb dX9_copyFrom_11 rfl (lv_at hl 0 rfl) ?_
  refine va_get (D := (dC, dI)) (ci := 9) (v := .ref (q0 3)) (C := RX9) (T := TX9) (N := 11) hx hb hts inX9_copyFrom_9 hown hK hP 0 rfl rfl 1 (by decide) (hts _ kX9_copyFrom_9) (fun _ h9 => h9) rfl dX9_copyFrom_12 ?_
  refine lv_aload_n hx hb dX9_copyFrom_15 rfl (lv_at hl 1 rfl) ?_
  refine va_get (D := (dC, dI)) (ci := 9) (v := .ref (q1 3)) (C := RX9) (T := TX9) (N := 11) hx hb hts inX9_copyFrom_9 hown hK hP 30 rfl rfl 1 (by decide) (hts _ kX9_copyFrom_9) (fun _ h9 => h9) rfl dX9_copyFrom_16 ?_
  refine cx_vv (As := [.ref (q1 3)]) (rest := []) ⟨hx, hb, hml, hown, hts⟩ hl.1 ok_sxE hE hK hP hD hS hA (cut_51 cI q0 q1 u0_2 u1) (c_X3_copyFrom (l := l) (dC := dC) (dI := dI) (cI := cI) (q0 := fun i => q0 (i + 3)) (q1 := fun i => q1 (i + 3)) h) (cwV 1 hts gX9_copyFrom_X3_copyFrom rfl rfl rfl hdX3_copyFrom ⟨Nat.le_of_ble_eq_true rfl, Nat.le_of_ble_eq_true rfl⟩) rfl rfl rfl rfl (Nat.le_of_ble_eq_true rfl) dX9_copyFrom_19 rfl (fun v_3 H locs h hP hD hS => ?_)
  obtain ⟨u0_4, e_u0_4⟩ : ∃ z, z = s9_pages u0_2 v_3 := ⟨_, rfl⟩
  have h := h u0_4 e_u0_4
  have hP : va_P (dC, dI) vwCl (cs9 cI q0 u0_4 ++ cs9 cI q1 u1) H := by rw [e_u0_4]; exact hP
  have hD : va_D A (cs9 cI q0 u0_4 ++ cs9 cI q1 u1) := by rw [e_u0_4]; exact hD
  refine lv_aload_n hx hb dX9_copyFrom_22 rfl (lv_at hl 0 rfl) ?_
  refine va_get (D := (dC, dI)) (ci := 9) (v := .ref (q0 13)) (C := RX9) (T := TX9) (N := 11) hx hb hts inX9_copyFrom_9 hown hK hP 0 rfl rfl 2 (by decide) (hts _ kX9_copyFrom_8) (fun _ h9 => h9) rfl dX9_copyFrom_23 ?_
  refine lv_aload_n hx hb dX9_copyFrom_26 rfl (lv_at hl 1 rfl) ?_
  refine va_get (D := (dC, dI)) (ci := 9) (v := .ref (q1 13)) (C := RX9) (T := TX9) (N := 11) hx hb hts inX9_copyFrom_9 hown hK hP 30 rfl rfl 2 (by decide) (hts _ kX9_copyFrom_8) (fun _ h9 => h9) rfl dX9_copyFrom_27 ?_
  refine cx_vv (As := [.ref (q1 13)]) (rest := []) ⟨hx, hb, hml, hown, hts⟩ hl.1 ok_sxE hE hK hP hD hS hA (cut_50 cI q0 q1 u0_4 u1) (c_X5_copyFrom (l := l) (dC := dC) (dI := dI) (cI := cI) (q0 := fun i => q0 (i + 13)) (q1 := fun i => q1 (i + 13)) h) (cwV 1 hts gX9_copyFrom_X5_copyFrom rfl rfl rfl hdX5_copyFrom ⟨Nat.le_of_ble_eq_true rfl, Nat.le_of_ble_eq_true rfl⟩) rfl rfl rfl rfl (Nat.le_of_ble_eq_true rfl) dX9_copyFrom_30 rfl (fun v_5 H locs h hP hD hS => ?_)
  obtain ⟨u0_6, e_u0_6⟩ : ∃ z, z = s9_roster u0_4 v_5 := ⟨_, rfl⟩
  have h := h u0_6 e_u0_6
  have hP : va_P (dC, dI) vwCl (cs9 cI q0 u0_6 ++ cs9 cI q1 u1) H := by rw [e_u0_6]; exact hP
  have hD : va_D A (cs9 cI q0 u0_6 ++ cs9 cI q1 u1) := by rw [e_u0_6]; exact hD
  refine lv_aload_n hx hb dX9_copyFrom_33 rfl (lv_at hl 0 rfl) ?_
  refine va_get (D := (dC, dI)) (ci := 9) (v := .ref (q0 17)) (C := RX9) (T := TX9) (N := 11) hx hb hts inX9_copyFrom_9 hown hK hP 0 rfl rfl 3 (by decide) (hts _ kX9_copyFrom_7) (fun _ h9 => h9) rfl dX9_copyFrom_34 ?_
  refine lv_aload_n hx hb dX9_copyFrom_37 rfl (lv_at hl 1 rfl) ?_
  refine va_get (D := (dC, dI)) (ci := 9) (v := .ref (q1 17)) (C := RX9) (T := TX9) (N := 11) hx hb hts inX9_copyFrom_9 hown hK hP 30 rfl rfl 3 (by decide) (hts _ kX9_copyFrom_7) (fun _ h9 => h9) rfl dX9_copyFrom_38 ?_
  refine cx_vv (As := [.ref (q1 17)]) (rest := []) ⟨hx, hb, hml, hown, hts⟩ hl.1 ok_sxE hE hK hP hD hS hA (cut_49 cI q0 q1 u0_6 u1) (c_X0_copyFrom (l := l) (dC := dC) (dI := dI) (cI := cI) (q0 := fun i => q0 (i + 17)) (q1 := fun i => q1 (i + 17)) h) (cwV 1 hts gX9_copyFrom_X0_copyFrom rfl rfl rfl hdX0_copyFrom ⟨Nat.le_of_ble_eq_true rfl, Nat.le_of_ble_eq_true rfl⟩) rfl rfl rfl rfl (Nat.le_of_ble_eq_true rfl) dX9_copyFrom_41 rfl (fun v_7 H locs h hP hD hS => ?_)
  obtain ⟨u0_8, e_u0_8⟩ : ∃ z, z = s9_claims u0_6 v_7 := ⟨_, rfl⟩
  have h := h u0_8 e_u0_8
  have hP : va_P (dC, dI) vwCl (cs9 cI q0 u0_8 ++ cs9 cI q1 u1) H := by rw [e_u0_8]; exact hP
  have hD : va_D A (cs9 cI q0 u0_8 ++ cs9 cI q1 u1) := by rw [e_u0_8]; exact hD
  refine lv_aload_n hx hb dX9_copyFrom_44 rfl (lv_at hl 0 rfl) ?_
  refine va_get (D := (dC, dI)) (ci := 9) (v := .ref (q0 25)) (C := RX9) (T := TX9) (N := 11) hx hb hts inX9_copyFrom_9 hown hK hP 0 rfl rfl 4 (by decide) (hts _ kX9_copyFrom_6) (fun _ h9 => h9) rfl dX9_copyFrom_45 ?_
  refine lv_aload_n hx hb dX9_copyFrom_48 rfl (lv_at hl 1 rfl) ?_
  refine va_get (D := (dC, dI)) (ci := 9) (v := .ref (q1 25)) (C := RX9) (T := TX9) (N := 11) hx hb hts inX9_copyFrom_9 hown hK hP 30 rfl rfl 4 (by decide) (hts _ kX9_copyFrom_6) (fun _ h9 => h9) rfl dX9_copyFrom_49 ?_
  refine cx_vv (As := [.ref (q1 25)]) (rest := []) ⟨hx, hb, hml, hown, hts⟩ hl.1 ok_sxE hE hK hP hD hS hA (cut_48 cI q0 q1 u0_8 u1) (c_X7_copyFrom (l := l) (dC := dC) (dI := dI) (cI := cI) (q0 := fun i => q0 (i + 25)) (q1 := fun i => q1 (i + 25)) h) (cwV 1 hts gX9_copyFrom_X7_copyFrom rfl rfl rfl hdX7_copyFrom ⟨Nat.le_of_ble_eq_true rfl, Nat.le_of_ble_eq_true rfl⟩) rfl rfl rfl rfl (Nat.le_of_ble_eq_true rfl) dX9_copyFrom_52 rfl (fun v_9 H locs h hP hD hS => ?_)
  obtain ⟨u0_10, e_u0_10⟩ : ∃ z, z = s9_standby u0_8 v_9 := ⟨_, rfl⟩
  have h := h u0_10 e_u0_10
  have hP : va_P (dC, dI) vwCl (cs9 cI q0 u0_10 ++ cs9 cI q1 u1) H := by rw [e_u0_10]; exact hP
  have hD : va_D A (cs9 cI q0 u0_10 ++ cs9 cI q1 u1) := by rw [e_u0_10]; exact hD
  refine lv_aload_n hx hb dX9_copyFrom_55 rfl (lv_at hl 0 rfl) ?_
  refine va_get (D := (dC, dI)) (ci := 9) (v := .ref (q0 28)) (C := RX9) (T := TX9) (N := 11) hx hb hts inX9_copyFrom_9 hown hK hP 0 rfl rfl 5 (by decide) (hts _ kX9_copyFrom_5) (fun _ h9 => h9) rfl dX9_copyFrom_56 ?_
  refine lv_aload_n hx hb dX9_copyFrom_59 rfl (lv_at hl 1 rfl) ?_
  refine va_get (D := (dC, dI)) (ci := 9) (v := .ref (q1 28)) (C := RX9) (T := TX9) (N := 11) hx hb hts inX9_copyFrom_9 hown hK hP 30 rfl rfl 5 (by decide) (hts _ kX9_copyFrom_5) (fun _ h9 => h9) rfl dX9_copyFrom_60 ?_
  refine cx_vv (As := [.ref (q1 28)]) (rest := []) ⟨hx, hb, hml, hown, hts⟩ hl.1 ok_sxE hE hK hP hD hS hA (cut_47 cI q0 q1 u0_10 u1) (c_X6_copyFrom (l := l) (dC := dC) (dI := dI) (cI := cI) (q0 := fun i => q0 (i + 28)) (q1 := fun i => q1 (i + 28)) h) (cwV 1 hts gX9_copyFrom_X6_copyFrom rfl rfl rfl hdX6_copyFrom ⟨Nat.le_of_ble_eq_true rfl, Nat.le_of_ble_eq_true rfl⟩) rfl rfl rfl rfl (Nat.le_of_ble_eq_true rfl) dX9_copyFrom_63 rfl (fun v_11 H locs h hP hD hS => ?_)
  obtain ⟨u0_12, e_u0_12⟩ : ∃ z, z = s9_script u0_10 v_11 := ⟨_, rfl⟩
  have h := h u0_12 e_u0_12
  have hP : va_P (dC, dI) vwCl (cs9 cI q0 u0_12 ++ cs9 cI q1 u1) H := by rw [e_u0_12]; exact hP
  have hD : va_D A (cs9 cI q0 u0_12 ++ cs9 cI q1 u1) := by rw [e_u0_12]; exact hD
  refine lv_aload_n hx hb dX9_copyFrom_66 rfl (lv_at hl 0 rfl) ?_
  refine lv_aload_n hx hb dX9_copyFrom_67 rfl (lv_at hl 1 rfl) ?_
  refine va_get (D := (dC, dI)) (ci := 9) (v := .int (g9_up u1)) (C := RX9) (T := TX9) (N := 11) hx hb hts inX9_copyFrom_9 hown hK hP 30 rfl rfl 6 (by decide) (hts _ kX9_copyFrom_4) (fun _ h9 => h9) rfl dX9_copyFrom_68 ?_
  refine va_put (D := (dC, dI)) (ci := 9) (v := .int (g9_up u1)) (ty := .boolean) (C := RX9) (T := TX9) (N := 11) hx hb hts inX9_copyFrom_9 tyX9 tyX9_ok nmX9 hown hK hP hD hS 0 rfl rfl 6 (by decide) (hts _ kX9_copyFrom_4) (fun _ h9 => h9) rfl (tyX9_ok 6 (by decide)) (zb_n h.1) (zb_f h.1) (Nat.le_of_ble_eq_true rfl) dX9_copyFrom_71 (fun H locs hP hD hS => ?_)
  have h := h.2
  obtain ⟨u0_13, e_u0_13⟩ : ∃ z, z = s9_up u0_12 (g9_up u1) := ⟨_, rfl⟩
  have h := h u0_13 e_u0_13
  have hP : va_P (dC, dI) vwCl (cs9 cI q0 u0_13 ++ cs9 cI q1 u1) H := by rw [e_u0_13]; exact hP
  have hD : va_D A (cs9 cI q0 u0_13 ++ cs9 cI q1 u1) := by rw [e_u0_13]; exact hD
  refine lv_aload_n hx hb dX9_copyFrom_74 rfl (lv_at hl 0 rfl) ?_
  refine lv_aload_n hx hb dX9_copyFrom_75 rfl (lv_at hl 1 rfl) ?_
  refine va_get (D := (dC, dI)) (ci := 9) (v := .int (g9_master u1)) (C := RX9) (T := TX9) (N := 11) hx hb hts inX9_copyFrom_9 hown hK hP 30 rfl rfl 7 (by decide) (hts _ kX9_copyFrom_3) (fun _ h9 => h9) rfl dX9_copyFrom_76 ?_
  refine va_put (D := (dC, dI)) (ci := 9) (v := .int (g9_master u1)) (ty := .int) (C := RX9) (T := TX9) (N := 11) hx hb hts inX9_copyFrom_9 tyX9 tyX9_ok nmX9 hown hK hP hD hS 0 rfl rfl 7 (by decide) (hts _ kX9_copyFrom_3) (fun _ h9 => h9) rfl (tyX9_ok 7 (by decide)) rfl rfl (Nat.le_of_ble_eq_true rfl) dX9_copyFrom_79 (fun H locs hP hD hS => ?_)
  obtain ⟨u0_14, e_u0_14⟩ : ∃ z, z = s9_master u0_13 (g9_master u1) := ⟨_, rfl⟩
  have h := h u0_14 e_u0_14
  have hP : va_P (dC, dI) vwCl (cs9 cI q0 u0_14 ++ cs9 cI q1 u1) H := by rw [e_u0_14]; exact hP
  have hD : va_D A (cs9 cI q0 u0_14 ++ cs9 cI q1 u1) := by rw [e_u0_14]; exact hD
  refine lv_aload_n hx hb dX9_copyFrom_82 rfl (lv_at hl 0 rfl) ?_
  refine lv_aload_n hx hb dX9_copyFrom_83 rfl (lv_at hl 1 rfl) ?_
  refine va_get (D := (dC, dI)) (ci := 9) (v := .int (g9_openCheck u1)) (C := RX9) (T := TX9) (N := 11) hx hb hts inX9_copyFrom_9 hown hK hP 30 rfl rfl 8 (by decide) (hts _ kX9_copyFrom_2) (fun _ h9 => h9) rfl dX9_copyFrom_84 ?_
  refine va_put (D := (dC, dI)) (ci := 9) (v := .int (g9_openCheck u1)) (ty := .int) (C := RX9) (T := TX9) (N := 11) hx hb hts inX9_copyFrom_9 tyX9 tyX9_ok nmX9 hown hK hP hD hS 0 rfl rfl 8 (by decide) (hts _ kX9_copyFrom_2) (fun _ h9 => h9) rfl (tyX9_ok 8 (by decide)) rfl rfl (Nat.le_of_ble_eq_true rfl) dX9_copyFrom_87 (fun H locs hP hD hS => ?_)
  obtain ⟨u0_15, e_u0_15⟩ : ∃ z, z = s9_openCheck u0_14 (g9_openCheck u1) := ⟨_, rfl⟩
  have h := h u0_15 e_u0_15
  have hP : va_P (dC, dI) vwCl (cs9 cI q0 u0_15 ++ cs9 cI q1 u1) H := by rw [e_u0_15]; exact hP
  have hD : va_D A (cs9 cI q0 u0_15 ++ cs9 cI q1 u1) := by rw [e_u0_15]; exact hD
  refine lv_aload_n hx hb dX9_copyFrom_90 rfl (lv_at hl 0 rfl) ?_
  refine lv_aload_n hx hb dX9_copyFrom_91 rfl (lv_at hl 1 rfl) ?_
  refine va_get (D := (dC, dI)) (ci := 9) (v := .int (g9_redone u1)) (C := RX9) (T := TX9) (N := 11) hx hb hts inX9_copyFrom_9 hown hK hP 30 rfl rfl 9 (by decide) (hts _ kX9_copyFrom_1) (fun _ h9 => h9) rfl dX9_copyFrom_92 ?_
  refine va_put (D := (dC, dI)) (ci := 9) (v := .int (g9_redone u1)) (ty := .int) (C := RX9) (T := TX9) (N := 11) hx hb hts inX9_copyFrom_9 tyX9 tyX9_ok nmX9 hown hK hP hD hS 0 rfl rfl 9 (by decide) (hts _ kX9_copyFrom_1) (fun _ h9 => h9) rfl (tyX9_ok 9 (by decide)) rfl rfl (Nat.le_of_ble_eq_true rfl) dX9_copyFrom_95 (fun H locs hP hD hS => ?_)
  obtain ⟨u0_16, e_u0_16⟩ : ∃ z, z = s9_redone u0_15 (g9_redone u1) := ⟨_, rfl⟩
  have h := h u0_16 e_u0_16
  have hP : va_P (dC, dI) vwCl (cs9 cI q0 u0_16 ++ cs9 cI q1 u1) H := by rw [e_u0_16]; exact hP
  have hD : va_D A (cs9 cI q0 u0_16 ++ cs9 cI q1 u1) := by rw [e_u0_16]; exact hD
  refine lv_aload_n hx hb dX9_copyFrom_98 rfl (lv_at hl 0 rfl) ?_
  refine lv_aload_n hx hb dX9_copyFrom_99 rfl (lv_at hl 1 rfl) ?_
  refine va_get (D := (dC, dI)) (ci := 9) (v := .int (g9_crashes u1)) (C := RX9) (T := TX9) (N := 11) hx hb hts inX9_copyFrom_9 hown hK hP 30 rfl rfl 10 (by decide) (hts _ kX9_copyFrom_0) (fun _ h9 => h9) rfl dX9_copyFrom_100 ?_
  refine va_put (D := (dC, dI)) (ci := 9) (v := .int (g9_crashes u1)) (ty := .int) (C := RX9) (T := TX9) (N := 11) hx hb hts inX9_copyFrom_9 tyX9 tyX9_ok nmX9 hown hK hP hD hS 0 rfl rfl 10 (by decide) (hts _ kX9_copyFrom_0) (fun _ h9 => h9) rfl (tyX9_ok 10 (by decide)) rfl rfl (Nat.le_of_ble_eq_true rfl) dX9_copyFrom_103 (fun H locs hP hD hS => ?_)
  obtain ⟨u0_17, e_u0_17⟩ : ∃ z, z = s9_crashes u0_16 (g9_crashes u1) := ⟨_, rfl⟩
  have h := h u0_17 e_u0_17
  have hP : va_P (dC, dI) vwCl (cs9 cI q0 u0_17 ++ cs9 cI q1 u1) H := by rw [e_u0_17]; exact hP
  have hD : va_D A (cs9 cI q0 u0_17 ++ cs9 cI q1 u1) := by rw [e_u0_17]; exact hD
  exact hret _ _ _ _ u0_17 dX9_copyFrom_106 h hP hD hS
