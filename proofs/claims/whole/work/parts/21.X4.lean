abbrev rX4_reset : Room := { frames := 0, cells := 0, slots := 0, locals := 0 }
theorem hdX4_reset : yX4_reset.cls = RX4 ∧ yX4_reset.cls ≠ "java/lang/invoke/MethodHandle" ∧ yX4_reset.cls ≠ "java/lang/invoke/VarHandle" ∧ (parseMethodDescriptor yX4_reset.desc).map (fun d => d.parameters.length) = some 0 := by decide +kernel
theorem inX4_reset_4 : ∀ w ∈ wsX40, w ∈ wsX4_reset := by decide +kernel
theorem kX4_reset_0 : Cond.fieldLink RX4 32 "AheadStore$Recovery" "redoneInAll" "I" ∈ wsX4_reset := by decide +kernel
theorem kX4_reset_1 : Cond.fieldLink RX4 29 "AheadStore$Recovery" "ended" "I" ∈ wsX4_reset := by decide +kernel
theorem kX4_reset_2 : Cond.fieldLink RX4 26 "AheadStore$Recovery" "compensated" "I" ∈ wsX4_reset := by decide +kernel
theorem kX4_reset_3 : Cond.fieldLink RX4 19 "AheadStore$Recovery" "analysed" "Z" ∈ wsX4_reset := by decide +kernel
set_option maxHeartbeats 4000000 in
set_option maxRecDepth 100000 in
theorem c_X4_reset {l : Launch} {dC : Nat → ClassId} {dI : Nat → Nat → Nat} {cI : ClassId} {q0 : Nat → Nat} {sz : Nat} {u0 : S4}  {Q : S4 → Prop} (h : wp_X4_reset u0 Q) : ctV sxE l yX4_reset wsX4_reset rX4_reset (dC, dI) vwCl [(cI, .int)] [.ref (q0 0)] (cs4 cI q0 u0) sz (fun (v : S4) => Q v) (fun (v : S4) => cs4 cI q0 v) := by
  refine mx_v (cc := cX4_reset) (maxL := 1) (by decide) rfl (Nat.le_of_ble_eq_true rfl) ?_
  intro p e s m below meth c Z A ls args hx hb hml hown hts hA hP hK hD hE hl hret
  have hown : s.vm.findClass RX4 = some m.cls := hown
  have hl : lv_has ls 1 [(0, .ref (q0 0))] := hl
  have hS : va_S A s.heap s.heap [] := va_S.rf
  refine lv_aload_n hx hb dX4_reset_0 rfl (lv_at hl 0 rfl) ?_
  refine lv_iconst (v := 0) hx hb dX4_reset_1 (by decide) ?_
  refine va_put (D := (dC, dI)) (ci := 4) (v := .int 0) (ty := .boolean) (C := RX4) (T := TX4) (N := 7) hx hb hts inX4_reset_4 tyX4 tyX4_ok nmX4 hown hK hP hD hS 0 rfl rfl 2 (by decide) (hts _ kX4_reset_3) (fun _ h9 => h9) rfl (tyX4_ok 2 (by decide)) (by decide) (by decide) (Nat.le_of_ble_eq_true rfl) dX4_reset_2 (fun H locs hP hD hS => ?_)
  obtain ⟨u0_1, e_u0_1⟩ : ∃ z, z = s4_analysed u0 0 := ⟨_, rfl⟩
  have h := h u0_1 e_u0_1
  have hP : va_P (dC, dI) vwCl (cs4 cI q0 u0_1) H := by rw [e_u0_1]; exact hP
  have hD : va_D A (cs4 cI q0 u0_1) := by rw [e_u0_1]; exact hD
  refine lv_aload_n hx hb dX4_reset_5 rfl (lv_at hl 0 rfl) ?_
  refine lv_iconst (v := 0) hx hb dX4_reset_6 (by decide) ?_
  refine va_put (D := (dC, dI)) (ci := 4) (v := .int 0) (ty := .int) (C := RX4) (T := TX4) (N := 7) hx hb hts inX4_reset_4 tyX4 tyX4_ok nmX4 hown hK hP hD hS 0 rfl rfl 4 (by decide) (hts _ kX4_reset_2) (fun _ h9 => h9) rfl (tyX4_ok 4 (by decide)) rfl rfl (Nat.le_of_ble_eq_true rfl) dX4_reset_7 (fun H locs hP hD hS => ?_)
  obtain ⟨u0_2, e_u0_2⟩ : ∃ z, z = s4_compensated u0_1 0 := ⟨_, rfl⟩
  have h := h u0_2 e_u0_2
  have hP : va_P (dC, dI) vwCl (cs4 cI q0 u0_2) H := by rw [e_u0_2]; exact hP
  have hD : va_D A (cs4 cI q0 u0_2) := by rw [e_u0_2]; exact hD
  refine lv_aload_n hx hb dX4_reset_10 rfl (lv_at hl 0 rfl) ?_
  refine lv_iconst (v := 0) hx hb dX4_reset_11 (by decide) ?_
  refine va_put (D := (dC, dI)) (ci := 4) (v := .int 0) (ty := .int) (C := RX4) (T := TX4) (N := 7) hx hb hts inX4_reset_4 tyX4 tyX4_ok nmX4 hown hK hP hD hS 0 rfl rfl 5 (by decide) (hts _ kX4_reset_1) (fun _ h9 => h9) rfl (tyX4_ok 5 (by decide)) rfl rfl (Nat.le_of_ble_eq_true rfl) dX4_reset_12 (fun H locs hP hD hS => ?_)
  obtain ⟨u0_3, e_u0_3⟩ : ∃ z, z = s4_ended u0_2 0 := ⟨_, rfl⟩
  have h := h u0_3 e_u0_3
  have hP : va_P (dC, dI) vwCl (cs4 cI q0 u0_3) H := by rw [e_u0_3]; exact hP
  have hD : va_D A (cs4 cI q0 u0_3) := by rw [e_u0_3]; exact hD
  refine lv_aload_n hx hb dX4_reset_15 rfl (lv_at hl 0 rfl) ?_
  refine lv_iconst (v := 0) hx hb dX4_reset_16 (by decide) ?_
  refine va_put (D := (dC, dI)) (ci := 4) (v := .int 0) (ty := .int) (C := RX4) (T := TX4) (N := 7) hx hb hts inX4_reset_4 tyX4 tyX4_ok nmX4 hown hK hP hD hS 0 rfl rfl 6 (by decide) (hts _ kX4_reset_0) (fun _ h9 => h9) rfl (tyX4_ok 6 (by decide)) rfl rfl (Nat.le_of_ble_eq_true rfl) dX4_reset_17 (fun H locs hP hD hS => ?_)
  obtain ⟨u0_4, e_u0_4⟩ : ∃ z, z = s4_redoneInAll u0_3 0 := ⟨_, rfl⟩
  have h := h u0_4 e_u0_4
  have hP : va_P (dC, dI) vwCl (cs4 cI q0 u0_4) H := by rw [e_u0_4]; exact hP
  have hD : va_D A (cs4 cI q0 u0_4) := by rw [e_u0_4]; exact hD
  exact hret _ _ _ _ u0_4 dX4_reset_20 h hP hD hS

set_option maxRecDepth 100000 in
theorem cut_53 (cI : ClassId) (q0 : Nat → Nat) (u0 : S4) : Cut (cs4 cI q0 u0) (([] : va_W)) (fun _ : Unit => ([] : va_W)) (fun _ : Unit => cs4 cI q0 u0) := ⟨[], [0, 1], rfl, rfl, rfl, by decide, by decide, fun _ => ⟨[0, 1], rfl, rfl⟩⟩

abbrev rX4_markUnclean : Room := { frames := 1, cells := 0, slots := 0, locals := 20 }
theorem hdX4_markUnclean : yX4_markUnclean.cls = RX4 ∧ yX4_markUnclean.cls ≠ "java/lang/invoke/MethodHandle" ∧ yX4_markUnclean.cls ≠ "java/lang/invoke/VarHandle" ∧ (parseMethodDescriptor yX4_markUnclean.desc).map (fun d => d.parameters.length) = some 2 := by decide +kernel
theorem inX4_markUnclean_4 : ∀ w ∈ wsX40, w ∈ wsX4_markUnclean := by decide +kernel
theorem kX4_markUnclean_0 : Cond.fieldLink RX4 9 "AheadStore$Recovery" "unclean" "[I" ∈ wsX4_markUnclean := by decide +kernel
theorem kX4_markUnclean_1 : Cond.initialized RX10 ∈ wsX4_markUnclean := by decide +kernel
theorem kX4_markUnclean_2 : Cond.static yX10_isPage ∈ wsX4_markUnclean := by decide +kernel
set_option maxHeartbeats 4000000 in
set_option maxRecDepth 100000 in
theorem c_X4_markUnclean {l : Launch} {dC : Nat → ClassId} {dI : Nat → Nat → Nat} {cI : ClassId} {q0 : Nat → Nat} {sz : Nat} {u0 : S4} {x1 : Int32} {x2 : Int32} {Q : S4 → Prop} (h : wp_X4_markUnclean u0 x1 x2 Q) : ctV sxE l yX4_markUnclean wsX4_markUnclean rX4_markUnclean (dC, dI) vwCl [(cI, .int)] [.ref (q0 0), .int x1, .int x2] (cs4 cI q0 u0) sz (fun (v : S4) => Q v) (fun (v : S4) => cs4 cI q0 v) := by
  refine mx_v (cc := cX4_markUnclean) (maxL := 3) (by decide) rfl (Nat.le_of_ble_eq_true rfl) ?_
  intro p e s m below meth c Z A ls args hx hb hml hown hts hA hP hK hD hE hl hret
  have hown : s.vm.findClass RX4 = some m.cls := hown
  have hl : lv_has ls 3 [(0, .ref (q0 0)), (1, .int x1), (2, .int x2)] := hl
  have w_26 : ∀ (x1 : Int32) (x2 : Int32) (u0 : S4) (H : Heap) (locs : List Loc) (ls : Array Slot) (_ : va_P (dC, dI) vwCl (cs4 cI q0 u0) H) (_ : va_D A (cs4 cI q0 u0)) (_ : va_S A s.heap H locs) (_ : lv_has ls 3 [(0, .ref (q0 0)), (1, .int x1), (2, .int x2)]) (_ : wp_X4_markUnclean_26 Q x1 x2 u0), W p l e rX4_markUnclean s m args below meth c H locs 0 0 Z (F0 m 26 ls []) := by
    intro x1 x2 u0 H locs ls hP hD hS hl h
    refine lv_aload_n hx hb dX4_markUnclean_26 rfl (lv_at hl 0 rfl) ?_
    refine va_get (D := (dC, dI)) (ci := 4) (v := .ref (q0 1)) (C := RX4) (T := TX4) (N := 7) hx hb hts inX4_markUnclean_4 hown hK hP 0 rfl rfl 0 (by decide) (hts _ kX4_markUnclean_0) (fun _ h9 => h9) rfl dX4_markUnclean_27 ?_
    refine lv_iload_n hx hb dX4_markUnclean_30 rfl (lv_at hl 1 rfl) ?_
    refine lv_iload_n hx hb dX4_markUnclean_31 rfl (lv_at hl 2 rfl) ?_
    refine va_iast hx hb hK hP hD hS 1 0 rfl rfl h.1 dX4_markUnclean_32 (fun H locs hP hD hS => ?_)
    have h := h.2
    obtain ⟨u0_1, e_u0_1⟩ : ∃ z, z = s4_unclean u0 (upd (g4_unclean u0) x1.toNatClampNeg x2) := ⟨_, rfl⟩
    have h := h u0_1 e_u0_1
    have hP : va_P (dC, dI) vwCl (cs4 cI q0 u0_1) H := by rw [e_u0_1]; exact hP
    have hD : va_D A (cs4 cI q0 u0_1) := by rw [e_u0_1]; exact hD
    exact hret _ _ _ _ u0_1 dX4_markUnclean_33 h hP hD hS
  have hS : va_S A s.heap s.heap [] := va_S.rf
  refine lv_iload_n hx hb dX4_markUnclean_0 rfl (lv_at hl 1 rfl) ?_
  refine cx_ni (As := [.int x1]) (rest := []) ⟨hx, hb, hml, hown, hts⟩ hl.1 ok_noE trivial hK hP hD hS hA (cut_53 cI q0 u0) (c_X10_isPage (l := l) (dC := dC) (dI := dI) (cI := cI) h) ⟨va_cnB 1 hts gX4_markUnclean_X10_isPage_n148 rfl rfl rfl (hE.1.1 (RX4, 148, yX10_isPage, "AheadStore") (List.mem_of_getElem? (i := 6) rfl)) (hts _ kX4_markUnclean_1) hdX10_isPage ⟨Nat.le_of_ble_eq_true rfl, Nat.le_of_ble_eq_true rfl⟩, hts _ kX4_markUnclean_2, trivial⟩ rfl (Nat.le_of_ble_eq_true rfl) dX4_markUnclean_1 rfl (fun r_2 _ H locs h hP hD hS => ?_)
  refine lv_if_eq (tgt := 33) hx hb dX4_markUnclean_4 (by decide) (fun cd => ?_) (fun cd => ?_)
  · have h := h.1 cd
    exact hret _ _ _ _ u0 dX4_markUnclean_33 h hP hD hS
  · have h := h.2 cd
    refine lv_aload_n hx hb dX4_markUnclean_7 rfl (lv_at hl 0 rfl) ?_
    refine va_get (D := (dC, dI)) (ci := 4) (v := .ref (q0 1)) (C := RX4) (T := TX4) (N := 7) hx hb hts inX4_markUnclean_4 hown hK hP 0 rfl rfl 0 (by decide) (hts _ kX4_markUnclean_0) (fun _ h9 => h9) rfl dX4_markUnclean_8 ?_
    refine lv_iload_n hx hb dX4_markUnclean_11 rfl (lv_at hl 1 rfl) ?_
    refine va_iald hx hb hK hP 1 0 rfl rfl h.1 dX4_markUnclean_12 ?_
    have h := h.2
    refine lv_if_eq (tgt := 26) hx hb dX4_markUnclean_13 (by decide) (fun cd => ?_) (fun cd => ?_)
    · have h := h.1 cd
      exact w_26 x1 x2 u0 _ _ _ hP hD hS (lv_sub hl [0, 1, 2] rfl) h
    · have h := h.2 cd
      refine lv_iload_n hx hb dX4_markUnclean_16 rfl (lv_at hl 2 rfl) ?_
      refine lv_aload_n hx hb dX4_markUnclean_17 rfl (lv_at hl 0 rfl) ?_
      refine va_get (D := (dC, dI)) (ci := 4) (v := .ref (q0 1)) (C := RX4) (T := TX4) (N := 7) hx hb hts inX4_markUnclean_4 hown hK hP 0 rfl rfl 0 (by decide) (hts _ kX4_markUnclean_0) (fun _ h9 => h9) rfl dX4_markUnclean_18 ?_
      refine lv_iload_n hx hb dX4_markUnclean_21 rfl (lv_at hl 1 rfl) ?_
      refine va_iald hx hb hK hP 1 0 rfl rfl h.1 dX4_markUnclean_22 ?_
      have h := h.2
      refine lv_icmp_ge (tgt := 33) hx hb dX4_markUnclean_23 (by decide) (fun cd => ?_) (fun cd => ?_)
      · have h := h.1 cd
        exact hret _ _ _ _ u0 dX4_markUnclean_33 h hP hD hS
      · have h := h.2 cd
        exact w_26 x1 x2 u0 _ _ _ hP hD hS (lv_sub hl [0, 1, 2] rfl) h

set_option maxRecDepth 100000 in
theorem cut_54 (cI : ClassId) (q0 : Nat → Nat) (q1 : Nat → Nat) (u0 : S4) (u1 : S2) : Cut (cs4 cI q0 u0 ++ cs2 cI q1 u1) (cs4 cI q0 u0) (fun v : S4 => cs4 cI q0 v) (fun v : S4 => (cs4 cI q0 v ++ cs2 cI q1 u1)) := ⟨[0, 1], [2, 3], rfl, rfl, rfl, by decide, by decide, fun v => ⟨[2, 3, 0, 1], rfl, rfl⟩⟩

set_option maxRecDepth 100000 in
theorem cut_55 (cI : ClassId) (q0 : Nat → Nat) (q1 : Nat → Nat) (u0 : S4) (u1 : S2) : Cut (cs4 cI q0 u0 ++ cs2 cI q1 u1) (cs2 cI q1 u1) (fun _ : Unit => cs2 cI q1 u1) (fun _ : Unit => (cs4 cI q0 u0 ++ cs2 cI q1 u1)) := ⟨[2, 3], [0, 1], rfl, rfl, rfl, by decide, by decide, fun _ => ⟨[0, 1, 2, 3], rfl, rfl⟩⟩

abbrev rX4_markTold : Room := { frames := 2, cells := 0, slots := 0, locals := 42 }
theorem hdX4_markTold : yX4_markTold.cls = RX4 ∧ yX4_markTold.cls ≠ "java/lang/invoke/MethodHandle" ∧ yX4_markTold.cls ≠ "java/lang/invoke/VarHandle" ∧ (parseMethodDescriptor yX4_markTold.desc).map (fun d => d.parameters.length) = some 2 := by decide +kernel
set_option maxHeartbeats 4000000 in
set_option maxRecDepth 100000 in
theorem c_X4_markTold {l : Launch} {dC : Nat → ClassId} {dI : Nat → Nat → Nat} {cI : ClassId} {q0 : Nat → Nat} {q1 : Nat → Nat} {sz : Nat} {u0 : S4} {u1 : S2} {x2 : Int32} {Q : S4 → Prop} (h : wp_X4_markTold u0 u1 x2 Q) : ctV sxE l yX4_markTold wsX4_markTold rX4_markTold (dC, dI) vwCl [(cI, .int)] [.ref (q0 0), .ref (q1 0), .int x2] (cs4 cI q0 u0 ++ cs2 cI q1 u1) sz (fun (v : S4) => Q v) (fun (v : S4) => (cs4 cI q0 v ++ cs2 cI q1 u1)) := by
  refine mx_v (cc := cX4_markTold) (maxL := 5) (by decide) rfl (Nat.le_of_ble_eq_true rfl) ?_
  intro p e s m below meth c Z A ls args hx hb hml hown hts hA hP hK hD hE hl hret
  have hown : s.vm.findClass RX4 = some m.cls := hown
  have hl : lv_has ls 5 [(0, .ref (q0 0)), (1, .ref (q1 0)), (2, .int x2)] := hl
  have w_9 : ∀ (n : Nat) (x2 : Int32) (x3 : Int32) (x4 : Int32) (u0 : S4) (H : Heap) (locs : List Loc) (ls : Array Slot) (_ : va_P (dC, dI) vwCl (cs4 cI q0 u0 ++ cs2 cI q1 u1) H) (_ : va_D A (cs4 cI q0 u0 ++ cs2 cI q1 u1)) (_ : va_S A s.heap H locs) (_ : lv_has ls 5 [(0, .ref (q0 0)), (1, .ref (q1 0)), (2, .int x2), (3, .int x3), (4, .int x4)]) (_ : wp_X4_markTold_9 u1 Q n x2 x3 x4 u0), W p l e rX4_markTold s m args below meth c H locs 0 0 Z (F0 m 9 ls []) := by
    intro n
    induction n with
    | zero => intro x2 x3 x4 u0 H locs ls hP hD hS hl h; exact False.elim h
    | succ n ih =>
      intro x2 x3 x4 u0 H locs ls hP hD hS hl h
      refine lv_iload hx hb dX4_markTold_9 (lv_at hl 4 rfl) ?_
      refine lv_iload_n hx hb dX4_markTold_11 rfl (lv_at hl 3 rfl) ?_
      refine lv_icmp_ge (tgt := 49) hx hb dX4_markTold_12 (by decide) (fun cd => ?_) (fun cd => ?_)
      · have h := h.1 cd
        exact hret _ _ _ _ u0 dX4_markTold_49 h hP hD hS
      · have h := h.2 cd
        refine lv_aload_n hx hb dX4_markTold_15 rfl (lv_at hl 0 rfl) ?_
        refine lv_aload_n hx hb dX4_markTold_16 rfl (lv_at hl 1 rfl) ?_
        refine lv_iload_n hx hb dX4_markTold_17 rfl (lv_at hl 2 rfl) ?_
        refine lv_iconst (v := 1) hx hb dX4_markTold_18 (by decide) ?_
        refine lv_iadd hx hb dX4_markTold_19 ?_
        refine lv_iconst (v := 3) hx hb dX4_markTold_20 (by decide) ?_
        refine lv_iload hx hb dX4_markTold_21 (lv_at hl 4 rfl) ?_
        refine lv_imul hx hb dX4_markTold_23 ?_
        refine lv_iadd hx hb dX4_markTold_24 ?_
        refine cx_vi (As := [.int ((x2 + 1) + (3 * x4))]) (rest := [.ref (q0 0)]) ⟨hx, hb, hml, hown, hts⟩ hl.1 ok_sxE hE hK hP hD hS hA (cut_55 cI q0 q1 u0 u1) (c_X2_byteAt (l := l) (dC := dC) (dI := dI) (cI := cI) (q0 := q1) h) (cwV 1 hts gX4_markTold_X2_byteAt rfl rfl rfl hdX2_byteAt ⟨Nat.le_of_ble_eq_true rfl, Nat.le_of_ble_eq_true rfl⟩) rfl rfl rfl rfl (Nat.le_of_ble_eq_true rfl) dX4_markTold_25 rfl (fun r_1 _ H locs h hP hD hS => ?_)
        refine lv_aload_n hx hb dX4_markTold_28 rfl (lv_at hl 1 rfl) ?_
        refine lv_iload_n hx hb dX4_markTold_29 rfl (lv_at hl 2 rfl) ?_
        refine lv_iconst (v := 2) hx hb dX4_markTold_30 (by decide) ?_
        refine lv_iadd hx hb dX4_markTold_31 ?_
        refine lv_iconst (v := 3) hx hb dX4_markTold_32 (by decide) ?_
        refine lv_iload hx hb dX4_markTold_33 (lv_at hl 4 rfl) ?_
        refine lv_imul hx hb dX4_markTold_35 ?_
        refine lv_iadd hx hb dX4_markTold_36 ?_
        refine cx_vi (As := [.int ((x2 + 2) + (3 * x4))]) (rest := [.int r_1, .ref (q0 0)]) ⟨hx, hb, hml, hown, hts⟩ hl.1 ok_sxE hE hK hP hD hS hA (cut_55 cI q0 q1 u0 u1) (c_X2_pairAt (l := l) (dC := dC) (dI := dI) (cI := cI) (q0 := q1) h) (cwV 1 hts gX4_markTold_X2_pairAt rfl rfl rfl hdX2_pairAt ⟨Nat.le_of_ble_eq_true rfl, Nat.le_of_ble_eq_true rfl⟩) rfl rfl rfl rfl (Nat.le_of_ble_eq_true rfl) dX4_markTold_37 rfl (fun r_2 _ H locs h hP hD hS => ?_)
        refine cx_vv (As := [.int r_1, .int r_2]) (rest := []) ⟨hx, hb, hml, hown, hts⟩ hl.1 ok_sxE hE hK hP hD hS hA (cut_54 cI q0 q1 u0 u1) (c_X4_markUnclean (l := l) (dC := dC) (dI := dI) (cI := cI) (q0 := q0) h) (cwV 2 hts gX4_markTold_X4_markUnclean rfl rfl rfl hdX4_markUnclean ⟨Nat.le_of_ble_eq_true rfl, Nat.le_of_ble_eq_true rfl⟩) rfl rfl rfl rfl (Nat.le_of_ble_eq_true rfl) dX4_markTold_40 rfl (fun v_3 H locs h hP hD hS => ?_)
        have hP : va_P (dC, dI) vwCl (cs4 cI q0 v_3 ++ cs2 cI q1 u1) H :=  hP
        have hD : va_D A (cs4 cI q0 v_3 ++ cs2 cI q1 u1) :=  hD
        obtain ⟨x4_4, e_x4_4⟩ : ∃ z : Int32, z = x4 + 1 := ⟨_, rfl⟩
        have h := h x4_4 e_x4_4
        refine lv_iinc (v := x4_4) (lv' := [(4, .int x4_4), (0, .ref (q0 0)), (1, .ref (q1 0)), (2, .int x2), (3, .int x3)]) hx hb dX4_markTold_43 hl (k := 4) rfl (by rw [e_x4_4]; rfl) (by decide) rfl (fun ls hl => ?_)
        refine lv_goto (tgt := 9) hx hb dX4_markTold_46 (by decide) ?_
        exact ih x2 x3 x4_4 v_3 _ _ _ hP hD hS (lv_sub hl [1, 2, 3, 4, 0] rfl) h
  have hS : va_S A s.heap s.heap [] := va_S.rf
  refine lv_aload_n hx hb dX4_markTold_0 rfl (lv_at hl 1 rfl) ?_
  refine lv_iload_n hx hb dX4_markTold_1 rfl (lv_at hl 2 rfl) ?_
  refine cx_vi (As := [.int x2]) (rest := []) ⟨hx, hb, hml, hown, hts⟩ hl.1 ok_sxE hE hK hP hD hS hA (cut_55 cI q0 q1 u0 u1) (c_X2_byteAt (l := l) (dC := dC) (dI := dI) (cI := cI) (q0 := q1) h) (cwV 1 hts gX4_markTold_X2_byteAt rfl rfl rfl hdX2_byteAt ⟨Nat.le_of_ble_eq_true rfl, Nat.le_of_ble_eq_true rfl⟩) rfl rfl rfl rfl (Nat.le_of_ble_eq_true rfl) dX4_markTold_2 rfl (fun r_5 _ H locs h hP hD hS => ?_)
  refine lv_istore_n (lv' := [(3, .int r_5), (0, .ref (q0 0)), (1, .ref (q1 0)), (2, .int x2)]) hx hb dX4_markTold_5 rfl hl (by decide) rfl (fun ls hl => ?_)
  refine lv_iconst (v := 0) hx hb dX4_markTold_6 (by decide) ?_
  refine lv_istore (lv' := [(4, .int 0), (3, .int r_5), (0, .ref (q0 0)), (1, .ref (q1 0)), (2, .int x2)]) hx hb dX4_markTold_7 hl (by decide) rfl (fun ls hl => ?_)
  obtain ⟨n0, h⟩ := h
  exact w_9 n0 x2 r_5 0 u0 _ _ _ hP hD hS (lv_sub hl [2, 3, 4, 1, 0] rfl) h

set_option maxRecDepth 100000 in
theorem cut_56 (cI : ClassId) (q0 : Nat → Nat) (q1 : Nat → Nat) (u0 : S4) (u1 : S9) : Cut (cs4 cI q0 u0 ++ cs9 cI q1 u1) (cs5 cI (fun i => q1 (i + 13)) (g9_roster u1)) (fun _ : Unit => cs5 cI (fun i => q1 (i + 13)) (g9_roster u1)) (fun _ : Unit => (cs4 cI q0 u0 ++ cs9 cI q1 u1)) := ⟨[15, 16, 17, 18], [0, 1, 2, 3, 4, 5, 6, 7, 8, 9, 10, 11, 12, 13, 14, 19, 20, 21, 22, 23, 24, 25, 26, 27, 28, 29, 30, 31], rfl, rfl, rfl, by decide, by decide, fun _ => ⟨[0, 1, 2, 3, 4, 5, 6, 7, 8, 9, 10, 11, 12, 13, 14, 28, 29, 30, 31, 15, 16, 17, 18, 19, 20, 21, 22, 23, 24, 25, 26, 27], rfl, rfl⟩⟩

set_option maxRecDepth 100000 in
theorem cut_57 (cI : ClassId) (q0 : Nat → Nat) (q1 : Nat → Nat) (u0 : S4) (u1 : S9) : Cut (cs4 cI q0 u0 ++ cs9 cI q1 u1) (cs5 cI (fun i => q1 (i + 13)) (g9_roster u1)) (fun v : S5 => cs5 cI (fun i => q1 (i + 13)) v) (fun v : S5 => (cs4 cI q0 u0 ++ cs9 cI q1 (s9_roster u1 v))) := ⟨[15, 16, 17, 18], [0, 1, 2, 3, 4, 5, 6, 7, 8, 9, 10, 11, 12, 13, 14, 19, 20, 21, 22, 23, 24, 25, 26, 27, 28, 29, 30, 31], rfl, rfl, rfl, by decide, by decide, fun v => ⟨[0, 1, 2, 3, 4, 5, 6, 7, 8, 9, 10, 11, 12, 13, 14, 28, 29, 30, 31, 15, 16, 17, 18, 19, 20, 21, 22, 23, 24, 25, 26, 27], rfl, rfl⟩⟩

set_option maxRecDepth 100000 in
theorem cut_58 (cI : ClassId) (q0 : Nat → Nat) (q1 : Nat → Nat) (u0 : S4) (u1 : S9) : Cut (cs4 cI q0 u0 ++ cs9 cI q1 u1) (cs2 cI (fun i => q1 (i + 1)) (g9_journal u1)) (fun v : S2 => cs2 cI (fun i => q1 (i + 1)) v) (fun v : S2 => (cs4 cI q0 u0 ++ cs9 cI q1 (s9_journal u1 v))) := ⟨[3, 4], [0, 1, 2, 5, 6, 7, 8, 9, 10, 11, 12, 13, 14, 15, 16, 17, 18, 19, 20, 21, 22, 23, 24, 25, 26, 27, 28, 29, 30, 31], rfl, rfl, rfl, by decide, by decide, fun v => ⟨[0, 1, 2, 30, 31, 3, 4, 5, 6, 7, 8, 9, 10, 11, 12, 13, 14, 15, 16, 17, 18, 19, 20, 21, 22, 23, 24, 25, 26, 27, 28, 29], rfl, rfl⟩⟩

set_option maxRecDepth 100000 in
theorem cut_59 (cI : ClassId) (q0 : Nat → Nat) (q1 : Nat → Nat) (u0 : S4) (u1 : S9) : Cut (cs4 cI q0 u0 ++ cs9 cI q1 u1) (cs2 cI (fun i => q1 (i + 1)) (g9_journal u1)) (fun _ : Unit => cs2 cI (fun i => q1 (i + 1)) (g9_journal u1)) (fun _ : Unit => (cs4 cI q0 u0 ++ cs9 cI q1 u1)) := ⟨[3, 4], [0, 1, 2, 5, 6, 7, 8, 9, 10, 11, 12, 13, 14, 15, 16, 17, 18, 19, 20, 21, 22, 23, 24, 25, 26, 27, 28, 29, 30, 31], rfl, rfl, rfl, by decide, by decide, fun _ => ⟨[0, 1, 2, 30, 31, 3, 4, 5, 6, 7, 8, 9, 10, 11, 12, 13, 14, 15, 16, 17, 18, 19, 20, 21, 22, 23, 24, 25, 26, 27, 28, 29], rfl, rfl⟩⟩

set_option maxRecDepth 100000 in
theorem cut_60 (cI : ClassId) (q0 : Nat → Nat) (q1 : Nat → Nat) (u0 : S4) (u1 : S9) : Cut (cs4 cI q0 u0 ++ cs9 cI q1 u1) (cs4 cI q0 u0 ++ cs2 cI (fun i => q1 (i + 1)) (g9_journal u1)) (fun v : S4 => cs4 cI q0 v ++ cs2 cI (fun i => q1 (i + 1)) (g9_journal u1)) (fun v : S4 => (cs4 cI q0 v ++ cs9 cI q1 u1)) := ⟨[0, 1, 3, 4], [2, 5, 6, 7, 8, 9, 10, 11, 12, 13, 14, 15, 16, 17, 18, 19, 20, 21, 22, 23, 24, 25, 26, 27, 28, 29, 30, 31], rfl, rfl, rfl, by decide, by decide, fun v => ⟨[28, 29, 0, 30, 31, 1, 2, 3, 4, 5, 6, 7, 8, 9, 10, 11, 12, 13, 14, 15, 16, 17, 18, 19, 20, 21, 22, 23, 24, 25, 26, 27], rfl, rfl⟩⟩

set_option maxRecDepth 100000 in
theorem cut_61 (cI : ClassId) (q0 : Nat → Nat) (q1 : Nat → Nat) (u0 : S4) (u1 : S9) : Cut (cs4 cI q0 u0 ++ cs9 cI q1 u1) (cs4 cI q0 u0) (fun v : S4 => cs4 cI q0 v) (fun v : S4 => (cs4 cI q0 v ++ cs9 cI q1 u1)) := ⟨[0, 1], [2, 3, 4, 5, 6, 7, 8, 9, 10, 11, 12, 13, 14, 15, 16, 17, 18, 19, 20, 21, 22, 23, 24, 25, 26, 27, 28, 29, 30, 31], rfl, rfl, rfl, by decide, by decide, fun v => ⟨[30, 31, 0, 1, 2, 3, 4, 5, 6, 7, 8, 9, 10, 11, 12, 13, 14, 15, 16, 17, 18, 19, 20, 21, 22, 23, 24, 25, 26, 27, 28, 29], rfl, rfl⟩⟩

set_option maxRecDepth 100000 in
theorem cut_62 (cI : ClassId) (q0 : Nat → Nat) (q1 : Nat → Nat) (u0 : S4) (u1 : S9) : Cut (cs4 cI q0 u0 ++ cs9 cI q1 u1) (cs5 cI (fun i => q1 (i + 13)) (g9_roster u1) ++ cs2 cI (fun i => q1 (i + 1)) (g9_journal u1)) (fun v : S5 => cs5 cI (fun i => q1 (i + 13)) v ++ cs2 cI (fun i => q1 (i + 1)) (g9_journal u1)) (fun v : S5 => (cs4 cI q0 u0 ++ cs9 cI q1 (s9_roster u1 v))) := ⟨[15, 16, 17, 18, 3, 4], [0, 1, 2, 5, 6, 7, 8, 9, 10, 11, 12, 13, 14, 19, 20, 21, 22, 23, 24, 25, 26, 27, 28, 29, 30, 31], rfl, rfl, rfl, by decide, by decide, fun v => ⟨[0, 1, 2, 30, 31, 3, 4, 5, 6, 7, 8, 9, 10, 11, 12, 26, 27, 28, 29, 13, 14, 15, 16, 17, 18, 19, 20, 21, 22, 23, 24, 25], rfl, rfl⟩⟩

set_option maxRecDepth 100000 in
theorem cut_63 (cI : ClassId) (q0 : Nat → Nat) (q1 : Nat → Nat) (u0 : S4) (u1 : S9) : Cut (cs4 cI q0 u0 ++ cs9 cI q1 u1) (cs9 cI q1 u1) (fun _ : Unit => cs9 cI q1 u1) (fun _ : Unit => (cs4 cI q0 u0 ++ cs9 cI q1 u1)) := ⟨[2, 3, 4, 5, 6, 7, 8, 9, 10, 11, 12, 13, 14, 15, 16, 17, 18, 19, 20, 21, 22, 23, 24, 25, 26, 27, 28, 29, 30, 31], [0, 1], rfl, rfl, rfl, by decide, by decide, fun _ => ⟨[0, 1, 2, 3, 4, 5, 6, 7, 8, 9, 10, 11, 12, 13, 14, 15, 16, 17, 18, 19, 20, 21, 22, 23, 24, 25, 26, 27, 28, 29, 30, 31], rfl, rfl⟩⟩

set_option maxRecDepth 100000 in
theorem cut_64 (cI : ClassId) (q0 : Nat → Nat) (q1 : Nat → Nat) (u0 : S4) (u1 : S9) : Cut (cs4 cI q0 u0 ++ cs9 cI q1 u1) ([((fun i => q0 (i + 1)) 0, .inl (cI, 16, .inl (g4_unclean u0)))]) (fun v : (Nat → Int32) => [((fun i => q0 (i + 1)) 0, .inl (cI, 16, .inl v))]) (fun v : (Nat → Int32) => (cs4 cI q0 (s4_unclean u0 v) ++ cs9 cI q1 u1)) := ⟨[1], [0, 2, 3, 4, 5, 6, 7, 8, 9, 10, 11, 12, 13, 14, 15, 16, 17, 18, 19, 20, 21, 22, 23, 24, 25, 26, 27, 28, 29, 30, 31], rfl, rfl, rfl, by decide, by decide, fun v => ⟨[0, 31, 1, 2, 3, 4, 5, 6, 7, 8, 9, 10, 11, 12, 13, 14, 15, 16, 17, 18, 19, 20, 21, 22, 23, 24, 25, 26, 27, 28, 29, 30], rfl, rfl⟩⟩

abbrev rX4_analyse : Room := { frames := 4, cells := 0, slots := 0, locals := 92 }
theorem hdX4_analyse : yX4_analyse.cls = RX4 ∧ yX4_analyse.cls ≠ "java/lang/invoke/MethodHandle" ∧ yX4_analyse.cls ≠ "java/lang/invoke/VarHandle" ∧ (parseMethodDescriptor yX4_analyse.desc).map (fun d => d.parameters.length) = some 1 := by decide +kernel
theorem inX4_analyse_2 : ∀ w ∈ wsX20, w ∈ wsX4_analyse := by decide +kernel
theorem inX4_analyse_4 : ∀ w ∈ wsX40, w ∈ wsX4_analyse := by decide +kernel
theorem inX4_analyse_7 : ∀ w ∈ wsX70, w ∈ wsX4_analyse := by decide +kernel
theorem inX4_analyse_9 : ∀ w ∈ wsX90, w ∈ wsX4_analyse := by decide +kernel
theorem kX4_analyse_0 : Cond.fieldLink RX4 19 "AheadStore$Recovery" "analysed" "Z" ∈ wsX4_analyse := by decide +kernel
theorem kX4_analyse_1 : Cond.fieldLink RX4 23 "AheadStore$Recovery" "losers" "I" ∈ wsX4_analyse := by decide +kernel
theorem kX4_analyse_2 : Cond.fieldLink RX4 94 "AheadStore$World" "roster" "LAheadStore$Roster;" ∈ wsX4_analyse := by decide +kernel
theorem kX4_analyse_3 : Cond.fieldLink RX4 131 "AheadStore$Standby" "received" "I" ∈ wsX4_analyse := by decide +kernel
theorem kX4_analyse_4 : Cond.methodLink RX4 136 Lib.Math.min.name ∈ wsX4_analyse := by decide +kernel
theorem kX4_analyse_5 : Cond.static Lib.Math.min.name ∈ wsX4_analyse := by decide +kernel
theorem kX4_analyse_6 : Cond.initialized "java/lang/Math" ∈ wsX4_analyse := by decide +kernel
theorem kX4_analyse_7 : Cond.code Lib.Math.min.name Lib.Math.min.code 2 (some .int) ∈ wsX4_analyse := by decide +kernel
theorem kX4_analyse_8 : Cond.fieldLink RX4 127 "AheadStore$World" "standby" "LAheadStore$Standby;" ∈ wsX4_analyse := by decide +kernel
theorem kX4_analyse_9 : Cond.fieldLink RX4 86 "AheadStore$Journal" "endPlace" "I" ∈ wsX4_analyse := by decide +kernel
theorem kX4_analyse_10 : Cond.fieldLink RX4 9 "AheadStore$Recovery" "unclean" "[I" ∈ wsX4_analyse := by decide +kernel
theorem kX4_analyse_11 : Cond.fieldLink RX4 50 "AheadStore$World" "journal" "LAheadStore$Journal;" ∈ wsX4_analyse := by decide +kernel
set_option maxHeartbeats 4000000 in
set_option maxRecDepth 100000 in
theorem c_X4_analyse {l : Launch} {dC : Nat → ClassId} {dI : Nat → Nat → Nat} {cI : ClassId} {q0 : Nat → Nat} {q1 : Nat → Nat} {sz : Nat} {u0 : S4} {u1 : S9}  {Q : S4 → S9 → Prop} (h : wp_X4_analyse u0 u1 Q) : ctV sxE l yX4_analyse wsX4_analyse rX4_analyse (dC, dI) vwCl [(cI, .int)] [.ref (q0 0), .ref (q1 0)] (cs4 cI q0 u0 ++ cs9 cI q1 u1) sz (fun (v : S4 × S9) => Q v.1 v.2) (fun (v : S4 × S9) => (cs4 cI q0 v.1 ++ cs9 cI q1 v.2)) := by
  refine mx_v (cc := cX4_analyse) (maxL := 4) (by decide) rfl (Nat.le_of_ble_eq_true rfl) ?_
  intro p e s m below meth c Z A ls args hx hb hml hown hts hA hP hK hD hE hl hret
  have hown : s.vm.findClass RX4 = some m.cls := hown
  have hl : lv_has ls 4 [(0, .ref (q0 0)), (1, .ref (q1 0))] := hl
  have w_105 : ∀ (x3 : Int32) (u0 : S4) (u1 : S9) (H : Heap) (locs : List Loc) (ls : Array Slot) (_ : va_P (dC, dI) vwCl (cs4 cI q0 u0 ++ cs9 cI q1 u1) H) (_ : va_D A (cs4 cI q0 u0 ++ cs9 cI q1 u1)) (_ : va_S A s.heap H locs) (_ : lv_has ls 4 [(0, .ref (q0 0)), (1, .ref (q1 0)), (2, .ref (q1 1)), (3, .int x3)]) (_ : wp_X4_analyse_105 Q x3 u0 u1), W p l e rX4_analyse s m args below meth c H locs 0 0 Z (F0 m 105 ls []) := by
    intro x3 u0 u1 H locs ls hP hD hS hl h
    refine lv_aload_n hx hb dX4_analyse_105 rfl (lv_at hl 2 rfl) ?_
    refine lv_iload_n hx hb dX4_analyse_106 rfl (lv_at hl 3 rfl) ?_
    refine cx_vv (As := [.int x3]) (rest := []) ⟨hx, hb, hml, hown, hts⟩ hl.1 ok_sxE hE hK hP hD hS hA (cut_58 cI q0 q1 u0 u1) (c_X2_endAt (l := l) (dC := dC) (dI := dI) (cI := cI) (q0 := fun i => q1 (i + 1)) h) (cwV 1 hts gX4_analyse_X2_endAt rfl rfl rfl hdX2_endAt ⟨Nat.le_of_ble_eq_true rfl, Nat.le_of_ble_eq_true rfl⟩) rfl rfl rfl rfl (Nat.le_of_ble_eq_true rfl) dX4_analyse_107 rfl (fun v_1 H locs h hP hD hS => ?_)
    obtain ⟨u1_2, e_u1_2⟩ : ∃ z, z = s9_journal u1 v_1 := ⟨_, rfl⟩
    have h := h u1_2 e_u1_2
    have hP : va_P (dC, dI) vwCl (cs4 cI q0 u0 ++ cs9 cI q1 u1_2) H := by rw [e_u1_2]; exact hP
    have hD : va_D A (cs4 cI q0 u0 ++ cs9 cI q1 u1_2) := by rw [e_u1_2]; exact hD
    refine lv_aload_n hx hb dX4_analyse_110 rfl (lv_at hl 1 rfl) ?_
    refine va_get (D := (dC, dI)) (ci := 9) (v := .ref (q1 25)) (C := RX9) (T := TX9) (N := 11) hx hb hts inX4_analyse_9 hown hK hP 2 rfl rfl 4 (by decide) (hts _ kX4_analyse_8) (fun _ h9 => h9) rfl dX4_analyse_111 ?_
    refine lv_aload_n hx hb dX4_analyse_114 rfl (lv_at hl 1 rfl) ?_
    refine va_get (D := (dC, dI)) (ci := 9) (v := .ref (q1 25)) (C := RX9) (T := TX9) (N := 11) hx hb hts inX4_analyse_9 hown hK hP 2 rfl rfl 4 (by decide) (hts _ kX4_analyse_8) (fun _ h9 => h9) rfl dX4_analyse_115 ?_
    refine va_get (D := (dC, dI)) (ci := 7) (v := .int (g7_received (g9_standby u1_2))) (C := RX7) (T := TX7) (N := 4) hx hb hts inX4_analyse_7 hown hK hP 27 rfl rfl 2 (by decide) (hts _ kX4_analyse_3) (fun _ h9 => h9) rfl dX4_analyse_118 ?_
    refine lv_iload_n hx hb dX4_analyse_121 rfl (lv_at hl 3 rfl) ?_
    refine va_mmin hx hb (hml.trans hl.1.symm) hown (hts _ kX4_analyse_4) (hts _ kX4_analyse_5) (hts _ kX4_analyse_6) (hts _ kX4_analyse_7) (Nat.le_of_ble_eq_true rfl) (Nat.le_of_ble_eq_true rfl) (Nat.zero_le _) (Nat.zero_le _) dX4_analyse_122 ?_
    refine va_put (D := (dC, dI)) (ci := 7) (v := .int (if x3 < (g7_received (g9_standby u1_2)) then x3 else (g7_received (g9_standby u1_2)))) (ty := .int) (C := RX7) (T := TX7) (N := 4) hx hb hts inX4_analyse_7 tyX7 tyX7_ok nmX7 hown hK hP hD hS 27 rfl rfl 2 (by decide) (hts _ kX4_analyse_3) (fun _ h9 => h9) rfl (tyX7_ok 2 (by decide)) rfl rfl (Nat.le_of_ble_eq_true rfl) dX4_analyse_125 (fun H locs hP hD hS => ?_)
    obtain ⟨u1_3, e_u1_3⟩ : ∃ z, z = s9_standby u1_2 (s7_received (g9_standby u1_2) (if x3 < (g7_received (g9_standby u1_2)) then x3 else (g7_received (g9_standby u1_2)))) := ⟨_, rfl⟩
    have h := h u1_3 e_u1_3
    have hP : va_P (dC, dI) vwCl (cs4 cI q0 u0 ++ cs9 cI q1 u1_3) H := by rw [e_u1_3]; exact hP
    have hD : va_D A (cs4 cI q0 u0 ++ cs9 cI q1 u1_3) := by rw [e_u1_3]; exact hD
    refine lv_aload_n hx hb dX4_analyse_128 rfl (lv_at hl 1 rfl) ?_
    refine va_get (D := (dC, dI)) (ci := 9) (v := .ref (q1 13)) (C := RX9) (T := TX9) (N := 11) hx hb hts inX4_analyse_9 hown hK hP 2 rfl rfl 2 (by decide) (hts _ kX4_analyse_2) (fun _ h9 => h9) rfl dX4_analyse_129 ?_
    refine cx_vv (As := []) (rest := []) ⟨hx, hb, hml, hown, hts⟩ hl.1 ok_sxE hE hK hP hD hS hA (cut_57 cI q0 q1 u0 u1_3) (c_X5_startUndo (l := l) (dC := dC) (dI := dI) (cI := cI) (q0 := fun i => q1 (i + 13)) h) (cwV 0 hts gX4_analyse_X5_startUndo rfl rfl rfl hdX5_startUndo ⟨Nat.le_of_ble_eq_true rfl, Nat.le_of_ble_eq_true rfl⟩) rfl rfl rfl rfl (Nat.le_of_ble_eq_true rfl) dX4_analyse_132 rfl (fun v_4 H locs h hP hD hS => ?_)
    obtain ⟨u1_5, e_u1_5⟩ : ∃ z, z = s9_roster u1_3 v_4 := ⟨_, rfl⟩
    have h := h u1_5 e_u1_5
    have hP : va_P (dC, dI) vwCl (cs4 cI q0 u0 ++ cs9 cI q1 u1_5) H := by rw [e_u1_5]; exact hP
    have hD : va_D A (cs4 cI q0 u0 ++ cs9 cI q1 u1_5) := by rw [e_u1_5]; exact hD
    refine lv_aload_n hx hb dX4_analyse_135 rfl (lv_at hl 0 rfl) ?_
    refine va_get (D := (dC, dI)) (ci := 4) (v := .int (g4_analysed u0)) (C := RX4) (T := TX4) (N := 7) hx hb hts inX4_analyse_4 hown hK hP 0 rfl rfl 2 (by decide) (hts _ kX4_analyse_0) (fun _ h9 => h9) rfl dX4_analyse_136 ?_
    refine lv_if_ne (tgt := 168) hx hb dX4_analyse_139 (by decide) (fun cd => ?_) (fun cd => ?_)
    · have h := h.2 cd
      exact hret _ _ _ _ (u0, u1_5) dX4_analyse_168 h hP hD hS
    · have h := h.1 cd
      refine lv_aload_n hx hb dX4_analyse_142 rfl (lv_at hl 0 rfl) ?_
      refine lv_aload_n hx hb dX4_analyse_143 rfl (lv_at hl 1 rfl) ?_
      refine va_get (D := (dC, dI)) (ci := 9) (v := .ref (q1 13)) (C := RX9) (T := TX9) (N := 11) hx hb hts inX4_analyse_9 hown hK hP 2 rfl rfl 2 (by decide) (hts _ kX4_analyse_2) (fun _ h9 => h9) rfl dX4_analyse_144 ?_
      refine lv_iconst (v := 1) hx hb dX4_analyse_147 (by decide) ?_
      refine cx_vi (As := [.int 1]) (rest := [.ref (q0 0)]) ⟨hx, hb, hml, hown, hts⟩ hl.1 ok_sxE hE hK hP hD hS hA (cut_56 cI q0 q1 u0 u1_5) (c_X5_allThatAre (l := l) (dC := dC) (dI := dI) (cI := cI) (q0 := fun i => q1 (i + 13)) h) (cwV 1 hts gX4_analyse_X5_allThatAre rfl rfl rfl hdX5_allThatAre ⟨Nat.le_of_ble_eq_true rfl, Nat.le_of_ble_eq_true rfl⟩) rfl rfl rfl rfl (Nat.le_of_ble_eq_true rfl) dX4_analyse_148 rfl (fun r_6 _ H locs h hP hD hS => ?_)
      refine lv_aload_n hx hb dX4_analyse_151 rfl (lv_at hl 1 rfl) ?_
      refine va_get (D := (dC, dI)) (ci := 9) (v := .ref (q1 13)) (C := RX9) (T := TX9) (N := 11) hx hb hts inX4_analyse_9 hown hK hP 2 rfl rfl 2 (by decide) (hts _ kX4_analyse_2) (fun _ h9 => h9) rfl dX4_analyse_152 ?_
      refine lv_iconst (v := 2) hx hb dX4_analyse_155 (by decide) ?_
      refine cx_vi (As := [.int 2]) (rest := [.int r_6, .ref (q0 0)]) ⟨hx, hb, hml, hown, hts⟩ hl.1 ok_sxE hE hK hP hD hS hA (cut_56 cI q0 q1 u0 u1_5) (c_X5_allThatAre (l := l) (dC := dC) (dI := dI) (cI := cI) (q0 := fun i => q1 (i + 13)) h) (cwV 1 hts gX4_analyse_X5_allThatAre rfl rfl rfl hdX5_allThatAre ⟨Nat.le_of_ble_eq_true rfl, Nat.le_of_ble_eq_true rfl⟩) rfl rfl rfl rfl (Nat.le_of_ble_eq_true rfl) dX4_analyse_156 rfl (fun r_7 _ H locs h hP hD hS => ?_)
      refine lv_ior hx hb dX4_analyse_159 ?_
      refine va_put (D := (dC, dI)) (ci := 4) (v := .int (r_6 ||| r_7)) (ty := .int) (C := RX4) (T := TX4) (N := 7) hx hb hts inX4_analyse_4 tyX4 tyX4_ok nmX4 hown hK hP hD hS 0 rfl rfl 3 (by decide) (hts _ kX4_analyse_1) (fun _ h9 => h9) rfl (tyX4_ok 3 (by decide)) rfl rfl (Nat.le_of_ble_eq_true rfl) dX4_analyse_160 (fun H locs hP hD hS => ?_)
      obtain ⟨u0_8, e_u0_8⟩ : ∃ z, z = s4_losers u0 (r_6 ||| r_7) := ⟨_, rfl⟩
      have h := h u0_8 e_u0_8
      have hP : va_P (dC, dI) vwCl (cs4 cI q0 u0_8 ++ cs9 cI q1 u1_5) H := by rw [e_u0_8]; exact hP
      have hD : va_D A (cs4 cI q0 u0_8 ++ cs9 cI q1 u1_5) := by rw [e_u0_8]; exact hD
      refine lv_aload_n hx hb dX4_analyse_163 rfl (lv_at hl 0 rfl) ?_
      refine lv_iconst (v := 1) hx hb dX4_analyse_164 (by decide) ?_
      refine va_put (D := (dC, dI)) (ci := 4) (v := .int 1) (ty := .boolean) (C := RX4) (T := TX4) (N := 7) hx hb hts inX4_analyse_4 tyX4 tyX4_ok nmX4 hown hK hP hD hS 0 rfl rfl 2 (by decide) (hts _ kX4_analyse_0) (fun _ h9 => h9) rfl (tyX4_ok 2 (by decide)) (by decide) (by decide) (Nat.le_of_ble_eq_true rfl) dX4_analyse_165 (fun H locs hP hD hS => ?_)
      obtain ⟨u0_9, e_u0_9⟩ : ∃ z, z = s4_analysed u0_8 1 := ⟨_, rfl⟩
      have h := h u0_9 e_u0_9
      have hP : va_P (dC, dI) vwCl (cs4 cI q0 u0_9 ++ cs9 cI q1 u1_5) H := by rw [e_u0_9]; exact hP
      have hD : va_D A (cs4 cI q0 u0_9 ++ cs9 cI q1 u1_5) := by rw [e_u0_9]; exact hD
      exact hret _ _ _ _ (u0_9, u1_5) dX4_analyse_168 h hP hD hS
  have w_96 : ∀ (k_18 : Int32 → S4 → S9 → Prop) (hk_18 : ∀ (x3 : Int32) (u0 : S4) (u1 : S9) (H : Heap) (locs : List Loc) (ls : Array Slot) (_ : va_P (dC, dI) vwCl (cs4 cI q0 u0 ++ cs9 cI q1 u1) H) (_ : va_D A (cs4 cI q0 u0 ++ cs9 cI q1 u1)) (_ : va_S A s.heap H locs) (_ : lv_has ls 4 [(0, .ref (q0 0)), (1, .ref (q1 0)), (2, .ref (q1 1)), (3, .int x3)]) (_ : k_18 x3 u0 u1), W p l e rX4_analyse s m args below meth c H locs 0 0 Z (F0 m 18 ls [])) (x3 : Int32) (u0 : S4) (u1 : S9) (H : Heap) (locs : List Loc) (ls : Array Slot) (_ : va_P (dC, dI) vwCl (cs4 cI q0 u0 ++ cs9 cI q1 u1) H) (_ : va_D A (cs4 cI q0 u0 ++ cs9 cI q1 u1)) (_ : va_S A s.heap H locs) (_ : lv_has ls 4 [(0, .ref (q0 0)), (1, .ref (q1 0)), (2, .ref (q1 1)), (3, .int x3)]) (_ : wp_X4_analyse_96 k_18 Q x3 u0 u1), W p l e rX4_analyse s m args below meth c H locs 0 0 Z (F0 m 96 ls []) := by
    intro k_18 hk_18 x3 u0 u1 H locs ls hP hD hS hl h
    refine lv_aload_n hx hb dX4_analyse_96 rfl (lv_at hl 2 rfl) ?_
    refine lv_iload_n hx hb dX4_analyse_97 rfl (lv_at hl 3 rfl) ?_
    refine cx_vi (As := [.int x3]) (rest := []) ⟨hx, hb, hml, hown, hts⟩ hl.1 ok_sxE hE hK hP hD hS hA (cut_59 cI q0 q1 u0 u1) (c_X2_behind (l := l) (dC := dC) (dI := dI) (cI := cI) (q0 := fun i => q1 (i + 1)) h) (cwV 1 hts gX4_analyse_X2_behind rfl rfl rfl hdX2_behind ⟨Nat.le_of_ble_eq_true rfl, Nat.le_of_ble_eq_true rfl⟩) rfl rfl rfl rfl (Nat.le_of_ble_eq_true rfl) dX4_analyse_98 rfl (fun r_10 _ H locs h hP hD hS => ?_)
    refine lv_istore_n (lv' := [(3, .int r_10), (0, .ref (q0 0)), (1, .ref (q1 0)), (2, .ref (q1 1))]) hx hb dX4_analyse_101 rfl hl (by decide) rfl (fun ls hl => ?_)
    refine lv_goto (tgt := 18) hx hb dX4_analyse_102 (by decide) ?_
    exact hk_18 r_10 u0 u1 _ _ _ hP hD hS (lv_sub hl [1, 2, 3, 0] rfl) h
  have w_18 : ∀ (n : Nat) (x3 : Int32) (u0 : S4) (u1 : S9) (H : Heap) (locs : List Loc) (ls : Array Slot) (_ : va_P (dC, dI) vwCl (cs4 cI q0 u0 ++ cs9 cI q1 u1) H) (_ : va_D A (cs4 cI q0 u0 ++ cs9 cI q1 u1)) (_ : va_S A s.heap H locs) (_ : lv_has ls 4 [(0, .ref (q0 0)), (1, .ref (q1 0)), (2, .ref (q1 1)), (3, .int x3)]) (_ : wp_X4_analyse_18 Q n x3 u0 u1), W p l e rX4_analyse s m args below meth c H locs 0 0 Z (F0 m 18 ls []) := by
    intro n
    induction n with
    | zero => intro x3 u0 u1 H locs ls hP hD hS hl h; exact False.elim h
    | succ n ih =>
      intro x3 u0 u1 H locs ls hP hD hS hl h
      refine lv_iload_n hx hb dX4_analyse_18 rfl (lv_at hl 3 rfl) ?_
      refine lv_aload_n hx hb dX4_analyse_19 rfl (lv_at hl 2 rfl) ?_
      refine va_get (D := (dC, dI)) (ci := 2) (v := .int (g2_endPlace (g9_journal u1))) (C := RX2) (T := TX2) (N := 4) hx hb hts inX4_analyse_2 hown hK hP 3 rfl rfl 1 (by decide) (hts _ kX4_analyse_9) (fun _ h9 => h9) rfl dX4_analyse_20 ?_
      refine lv_icmp_ge (tgt := 105) hx hb dX4_analyse_23 (by decide) (fun cd => ?_) (fun cd => ?_)
      · have h := h.1 cd
        exact w_105 x3 u0 u1 _ _ _ hP hD hS (lv_sub hl [0, 1, 2, 3] rfl) h
      · have h := h.2 cd
        refine lv_aload_n hx hb dX4_analyse_26 rfl (lv_at hl 2 rfl) ?_
        refine lv_iload_n hx hb dX4_analyse_27 rfl (lv_at hl 3 rfl) ?_
        refine cx_vi (As := [.int x3]) (rest := []) ⟨hx, hb, hml, hown, hts⟩ hl.1 ok_sxE hE hK hP hD hS hA (cut_59 cI q0 q1 u0 u1) (c_X2_wholeAt (l := l) (dC := dC) (dI := dI) (cI := cI) (q0 := fun i => q1 (i + 1)) h) (cwV 1 hts gX4_analyse_X2_wholeAt rfl rfl rfl hdX2_wholeAt ⟨Nat.le_of_ble_eq_true rfl, Nat.le_of_ble_eq_true rfl⟩) rfl rfl rfl rfl (Nat.le_of_ble_eq_true rfl) dX4_analyse_28 rfl (fun r_11 _ H locs h hP hD hS => ?_)
        refine lv_if_eq (tgt := 105) hx hb dX4_analyse_31 (by decide) (fun cd => ?_) (fun cd => ?_)
        · have h := h.1 cd
          exact w_105 x3 u0 u1 _ _ _ hP hD hS (lv_sub hl [0, 1, 2, 3] rfl) h
        · have h := h.2 cd
          refine lv_aload_n hx hb dX4_analyse_34 rfl (lv_at hl 1 rfl) ?_
          refine va_get (D := (dC, dI)) (ci := 9) (v := .ref (q1 13)) (C := RX9) (T := TX9) (N := 11) hx hb hts inX4_analyse_9 hown hK hP 2 rfl rfl 2 (by decide) (hts _ kX4_analyse_2) (fun _ h9 => h9) rfl dX4_analyse_35 ?_
          refine lv_aload_n hx hb dX4_analyse_38 rfl (lv_at hl 2 rfl) ?_
          refine lv_iload_n hx hb dX4_analyse_39 rfl (lv_at hl 3 rfl) ?_
          refine cx_vv (As := [.ref (q1 1), .int x3]) (rest := []) ⟨hx, hb, hml, hown, hts⟩ hl.1 ok_sxE hE hK hP hD hS hA (cut_62 cI q0 q1 u0 u1) (c_X5_learn (l := l) (dC := dC) (dI := dI) (cI := cI) (q0 := fun i => q1 (i + 13)) (q1 := fun i => q1 (i + 1)) h) (cwV 2 hts gX4_analyse_X5_learn rfl rfl rfl hdX5_learn ⟨Nat.le_of_ble_eq_true rfl, Nat.le_of_ble_eq_true rfl⟩) rfl rfl rfl rfl (Nat.le_of_ble_eq_true rfl) dX4_analyse_40 rfl (fun v_12 H locs h hP hD hS => ?_)
          obtain ⟨u1_13, e_u1_13⟩ : ∃ z, z = s9_roster u1 v_12 := ⟨_, rfl⟩
          have h := h u1_13 e_u1_13
          have hP : va_P (dC, dI) vwCl (cs4 cI q0 u0 ++ cs9 cI q1 u1_13) H := by rw [e_u1_13]; exact hP
          have hD : va_D A (cs4 cI q0 u0 ++ cs9 cI q1 u1_13) := by rw [e_u1_13]; exact hD
          refine lv_aload_n hx hb dX4_analyse_43 rfl (lv_at hl 2 rfl) ?_
          refine lv_iload_n hx hb dX4_analyse_44 rfl (lv_at hl 3 rfl) ?_
          refine cx_vi (As := [.int x3]) (rest := []) ⟨hx, hb, hml, hown, hts⟩ hl.1 ok_sxE hE hK hP hD hS hA (cut_59 cI q0 q1 u0 u1_13) (c_X2_touches (l := l) (dC := dC) (dI := dI) (cI := cI) (q0 := fun i => q1 (i + 1)) h) (cwV 1 hts gX4_analyse_X2_touches rfl rfl rfl hdX2_touches ⟨Nat.le_of_ble_eq_true rfl, Nat.le_of_ble_eq_true rfl⟩) rfl rfl rfl rfl (Nat.le_of_ble_eq_true rfl) dX4_analyse_45 rfl (fun r_14 _ H locs h hP hD hS => ?_)
          refine lv_if_eq (tgt := 67) hx hb dX4_analyse_48 (by decide) (fun cd => ?_) (fun cd => ?_)
          · have h := h.1 cd
            refine lv_aload_n hx hb dX4_analyse_67 rfl (lv_at hl 2 rfl) ?_
            refine lv_iload_n hx hb dX4_analyse_68 rfl (lv_at hl 3 rfl) ?_
            refine cx_vi (As := [.int x3]) (rest := []) ⟨hx, hb, hml, hown, hts⟩ hl.1 ok_sxE hE hK hP hD hS hA (cut_59 cI q0 q1 u0 u1_13) (c_X2_byteAt (l := l) (dC := dC) (dI := dI) (cI := cI) (q0 := fun i => q1 (i + 1)) h) (cwV 1 hts gX4_analyse_X2_byteAt rfl rfl rfl hdX2_byteAt ⟨Nat.le_of_ble_eq_true rfl, Nat.le_of_ble_eq_true rfl⟩) rfl rfl rfl rfl (Nat.le_of_ble_eq_true rfl) dX4_analyse_69 rfl (fun r_15 _ H locs h hP hD hS => ?_)
            refine lv_bipush (v := 10) hx hb dX4_analyse_72 (by decide) ?_
            refine lv_icmp_ne (tgt := 96) hx hb dX4_analyse_74 (by decide) (fun cd => ?_) (fun cd => ?_)
            · have h := h.2 cd
              exact w_96 (fun x3 u0 u1 => wp_X4_analyse_18 Q n x3 u0 u1) (fun x3 u0 u1 H locs ls hP hD hS hl h => ih x3 u0 u1 H locs ls hP hD hS hl h) x3 u0 u1_13 _ _ _ hP hD hS (lv_sub hl [0, 1, 2, 3] rfl) h
            · have h := h.1 cd
              refine lv_aload_n hx hb dX4_analyse_77 rfl (lv_at hl 0 rfl) ?_
              refine lv_aload_n hx hb dX4_analyse_78 rfl (lv_at hl 2 rfl) ?_
              refine lv_iload_n hx hb dX4_analyse_79 rfl (lv_at hl 3 rfl) ?_
              refine lv_bipush (v := 6) hx hb dX4_analyse_80 (by decide) ?_
              refine lv_iadd hx hb dX4_analyse_82 ?_
              refine lv_iconst (v := 4) hx hb dX4_analyse_83 (by decide) ?_
              refine lv_aload_n hx hb dX4_analyse_84 rfl (lv_at hl 2 rfl) ?_
              refine lv_iload_n hx hb dX4_analyse_85 rfl (lv_at hl 3 rfl) ?_
              refine lv_iconst (v := 5) hx hb dX4_analyse_86 (by decide) ?_
              refine lv_iadd hx hb dX4_analyse_87 ?_
              refine cx_vi (As := [.int (x3 + 5)]) (rest := [.int 4, .int (x3 + 6), .ref (q1 1), .ref (q0 0)]) ⟨hx, hb, hml, hown, hts⟩ hl.1 ok_sxE hE hK hP hD hS hA (cut_59 cI q0 q1 u0 u1_13) (c_X2_byteAt (l := l) (dC := dC) (dI := dI) (cI := cI) (q0 := fun i => q1 (i + 1)) h) (cwV 1 hts gX4_analyse_X2_byteAt rfl rfl rfl hdX2_byteAt ⟨Nat.le_of_ble_eq_true rfl, Nat.le_of_ble_eq_true rfl⟩) rfl rfl rfl rfl (Nat.le_of_ble_eq_true rfl) dX4_analyse_88 rfl (fun r_16 _ H locs h hP hD hS => ?_)
              refine lv_imul hx hb dX4_analyse_91 ?_
              refine lv_iadd hx hb dX4_analyse_92 ?_
              refine cx_vv (As := [.ref (q1 1), .int ((x3 + 6) + (4 * r_16))]) (rest := []) ⟨hx, hb, hml, hown, hts⟩ hl.1 ok_sxE hE hK hP hD hS hA (cut_60 cI q0 q1 u0 u1_13) (c_X4_markTold (l := l) (dC := dC) (dI := dI) (cI := cI) (q0 := q0) (q1 := fun i => q1 (i + 1)) h) (cwV 2 hts gX4_analyse_X4_markTold rfl rfl rfl hdX4_markTold ⟨Nat.le_of_ble_eq_true rfl, Nat.le_of_ble_eq_true rfl⟩) rfl rfl rfl rfl (Nat.le_of_ble_eq_true rfl) dX4_analyse_93 rfl (fun v_17 H locs h hP hD hS => ?_)
              have hP : va_P (dC, dI) vwCl (cs4 cI q0 v_17 ++ cs9 cI q1 u1_13) H :=  hP
              have hD : va_D A (cs4 cI q0 v_17 ++ cs9 cI q1 u1_13) :=  hD
              exact w_96 (fun x3 u0 u1 => wp_X4_analyse_18 Q n x3 u0 u1) (fun x3 u0 u1 H locs ls hP hD hS hl h => ih x3 u0 u1 H locs ls hP hD hS hl h) x3 v_17 u1_13 _ _ _ hP hD hS (lv_sub hl [0, 1, 2, 3] rfl) h
          · have h := h.2 cd
            refine lv_aload_n hx hb dX4_analyse_51 rfl (lv_at hl 0 rfl) ?_
            refine lv_aload_n hx hb dX4_analyse_52 rfl (lv_at hl 2 rfl) ?_
            refine lv_iload_n hx hb dX4_analyse_53 rfl (lv_at hl 3 rfl) ?_
            refine cx_vi (As := [.int x3]) (rest := [.ref (q0 0)]) ⟨hx, hb, hml, hown, hts⟩ hl.1 ok_sxE hE hK hP hD hS hA (cut_59 cI q0 q1 u0 u1_13) (c_X2_addressAt (l := l) (dC := dC) (dI := dI) (cI := cI) (q0 := fun i => q1 (i + 1)) h) (cwV 1 hts gX4_analyse_X2_addressAt rfl rfl rfl hdX2_addressAt ⟨Nat.le_of_ble_eq_true rfl, Nat.le_of_ble_eq_true rfl⟩) rfl rfl rfl rfl (Nat.le_of_ble_eq_true rfl) dX4_analyse_54 rfl (fun r_18 _ H locs h hP hD hS => ?_)
            refine lv_bipush (v := 16) hx hb dX4_analyse_57 (by decide) ?_
            refine lv_idiv hx hb dX4_analyse_59 (by decide) ?_
            refine lv_iload_n hx hb dX4_analyse_60 rfl (lv_at hl 3 rfl) ?_
            refine cx_vv (As := [.int (r_18 / 16), .int x3]) (rest := []) ⟨hx, hb, hml, hown, hts⟩ hl.1 ok_sxE hE hK hP hD hS hA (cut_61 cI q0 q1 u0 u1_13) (c_X4_markUnclean (l := l) (dC := dC) (dI := dI) (cI := cI) (q0 := q0) h) (cwV 2 hts gX4_analyse_X4_markUnclean rfl rfl rfl hdX4_markUnclean ⟨Nat.le_of_ble_eq_true rfl, Nat.le_of_ble_eq_true rfl⟩) rfl rfl rfl rfl (Nat.le_of_ble_eq_true rfl) dX4_analyse_61 rfl (fun v_19 H locs h hP hD hS => ?_)
            have hP : va_P (dC, dI) vwCl (cs4 cI q0 v_19 ++ cs9 cI q1 u1_13) H :=  hP
            have hD : va_D A (cs4 cI q0 v_19 ++ cs9 cI q1 u1_13) :=  hD
            refine lv_goto (tgt := 96) hx hb dX4_analyse_64 (by decide) ?_
            exact w_96 (fun x3 u0 u1 => wp_X4_analyse_18 Q n x3 u0 u1) (fun x3 u0 u1 H locs ls hP hD hS hl h => ih x3 u0 u1 H locs ls hP hD hS hl h) x3 v_19 u1_13 _ _ _ hP hD hS (lv_sub hl [0, 1, 2, 3] rfl) h
  have hS : va_S A s.heap s.heap [] := va_S.rf
  refine lv_aload_n hx hb dX4_analyse_0 rfl (lv_at hl 1 rfl) ?_
  refine va_get (D := (dC, dI)) (ci := 9) (v := .ref (q1 1)) (C := RX9) (T := TX9) (N := 11) hx hb hts inX4_analyse_9 hown hK hP 2 rfl rfl 0 (by decide) (hts _ kX4_analyse_11) (fun _ h9 => h9) rfl dX4_analyse_1 ?_
  refine lv_astore_n (lv' := [(2, .ref (q1 1)), (0, .ref (q0 0)), (1, .ref (q1 0))]) hx hb dX4_analyse_4 rfl hl (by decide) rfl (fun ls hl => ?_)
  refine lv_aload_n hx hb dX4_analyse_5 rfl (lv_at hl 1 rfl) ?_
  refine va_get (D := (dC, dI)) (ci := 4) (v := .ref (q0 1)) (C := RX4) (T := TX4) (N := 7) hx hb hts inX4_analyse_4 hown hK hP 0 rfl rfl 0 (by decide) (hts _ kX4_analyse_10) (fun _ h9 => h9) rfl dX4_analyse_6 ?_
  refine lv_iconst (v := 0) hx hb dX4_analyse_9 (by decide) ?_
  refine cx_sv (As := [.ref (q0 1), .int 0]) (rest := []) ⟨hx, hb, hml, hown, hts⟩ hl.1 ok_noE trivial hK hP hD hS hA (cut_64 cI q0 q1 u0 u1) (c_J7_fill_53178 (l := l) (dC := dC) (dI := dI) (cI := cI) (q0 := fun i => q0 (i + 1)) h) (va_cwS 2 hts gX4_analyse_J7_fill_53178 rfl rfl rfl hdJ7_fill_53178 ⟨Nat.le_of_ble_eq_true rfl, Nat.le_of_ble_eq_true rfl⟩) rfl (Nat.le_of_ble_eq_true rfl) dX4_analyse_10 rfl (fun v_20 H locs h hP hD hS => ?_)
  obtain ⟨u0_21, e_u0_21⟩ : ∃ z, z = s4_unclean u0 v_20 := ⟨_, rfl⟩
  have h := h u0_21 e_u0_21
  have hP : va_P (dC, dI) vwCl (cs4 cI q0 u0_21 ++ cs9 cI q1 u1) H := by rw [e_u0_21]; exact hP
  have hD : va_D A (cs4 cI q0 u0_21 ++ cs9 cI q1 u1) := by rw [e_u0_21]; exact hD
  refine lv_aload_n hx hb dX4_analyse_13 rfl (lv_at hl 2 rfl) ?_
  refine cx_vi (As := []) (rest := []) ⟨hx, hb, hml, hown, hts⟩ hl.1 ok_sxE hE hK hP hD hS hA (cut_63 cI q0 q1 u0_21 u1) (c_X9_firstFrom (l := l) (dC := dC) (dI := dI) (cI := cI) (q0 := q1) h) (cwV 0 hts gX4_analyse_X9_firstFrom rfl rfl rfl hdX9_firstFrom ⟨Nat.le_of_ble_eq_true rfl, Nat.le_of_ble_eq_true rfl⟩) rfl rfl rfl rfl (Nat.le_of_ble_eq_true rfl) dX4_analyse_14 rfl (fun r_22 _ H locs h hP hD hS => ?_)
  refine lv_istore_n (lv' := [(3, .int r_22), (2, .ref (q1 1)), (0, .ref (q0 0)), (1, .ref (q1 0))]) hx hb dX4_analyse_17 rfl hl (by decide) rfl (fun ls hl => ?_)
  obtain ⟨n0, h⟩ := h
  exact w_18 n0 r_22 u0_21 u1 _ _ _ hP hD hS (lv_sub hl [2, 3, 1, 0] rfl) h

set_option maxRecDepth 100000 in
theorem cut_65 (cI : ClassId) (q0 : Nat → Nat) (q1 : Nat → Nat) (u0 : S4) (u1 : S9) : Cut (cs4 cI q0 u0 ++ cs9 cI q1 u1) (cs3 cI (fun i => q1 (i + 3)) (g9_pages u1) ++ cs2 cI (fun i => q1 (i + 1)) (g9_journal u1)) (fun v : S3 => cs3 cI (fun i => q1 (i + 3)) v ++ cs2 cI (fun i => q1 (i + 1)) (g9_journal u1)) (fun v : S3 => (cs4 cI q0 u0 ++ cs9 cI q1 (s9_pages u1 v))) := ⟨[5, 6, 7, 8, 9, 10, 11, 12, 13, 14, 3, 4], [0, 1, 2, 15, 16, 17, 18, 19, 20, 21, 22, 23, 24, 25, 26, 27, 28, 29, 30, 31], rfl, rfl, rfl, by decide, by decide, fun v => ⟨[0, 1, 2, 30, 31, 20, 21, 22, 23, 24, 25, 26, 27, 28, 29, 3, 4, 5, 6, 7, 8, 9, 10, 11, 12, 13, 14, 15, 16, 17, 18, 19], rfl, rfl⟩⟩

set_option maxRecDepth 100000 in
theorem cut_66 (cI : ClassId) (q0 : Nat → Nat) (q1 : Nat → Nat) (u0 : S4) (u1 : S9) : Cut (cs4 cI q0 u0 ++ cs9 cI q1 u1) (cs3 cI (fun i => q1 (i + 3)) (g9_pages u1) ++ cs2 cI (fun i => q1 (i + 1)) (g9_journal u1)) (fun v : S3 × S2 => cs3 cI (fun i => q1 (i + 3)) v.1 ++ cs2 cI (fun i => q1 (i + 1)) v.2) (fun v : S3 × S2 => (cs4 cI q0 u0 ++ cs9 cI q1 (s9_journal (s9_pages u1 v.1) v.2))) := ⟨[5, 6, 7, 8, 9, 10, 11, 12, 13, 14, 3, 4], [0, 1, 2, 15, 16, 17, 18, 19, 20, 21, 22, 23, 24, 25, 26, 27, 28, 29, 30, 31], rfl, rfl, rfl, by decide, by decide, fun v => ⟨[0, 1, 2, 30, 31, 20, 21, 22, 23, 24, 25, 26, 27, 28, 29, 3, 4, 5, 6, 7, 8, 9, 10, 11, 12, 13, 14, 15, 16, 17, 18, 19], rfl, rfl⟩⟩

abbrev rX4_redo : Room := { frames := 4, cells := 0, slots := 0, locals := 89 }
theorem hdX4_redo : yX4_redo.cls = RX4 ∧ yX4_redo.cls ≠ "java/lang/invoke/MethodHandle" ∧ yX4_redo.cls ≠ "java/lang/invoke/VarHandle" ∧ (parseMethodDescriptor yX4_redo.desc).map (fun d => d.parameters.length) = some 1 := by decide +kernel
theorem inX4_redo_2 : ∀ w ∈ wsX20, w ∈ wsX4_redo := by decide +kernel
theorem inX4_redo_3 : ∀ w ∈ wsX30, w ∈ wsX4_redo := by decide +kernel
theorem inX4_redo_4 : ∀ w ∈ wsX40, w ∈ wsX4_redo := by decide +kernel
theorem inX4_redo_9 : ∀ w ∈ wsX90, w ∈ wsX4_redo := by decide +kernel
theorem kX4_redo_0 : Cond.fieldLink RX4 35 "AheadStore$World" "redone" "I" ∈ wsX4_redo := by decide +kernel
theorem kX4_redo_1 : Cond.fieldLink RX4 40 "AheadStore$World" "pages" "LAheadStore$Pages;" ∈ wsX4_redo := by decide +kernel
theorem kX4_redo_2 : Cond.fieldLink RX4 158 "AheadStore$Pages" "stamps" "[I" ∈ wsX4_redo := by decide +kernel
theorem kX4_redo_3 : Cond.fieldLink RX4 9 "AheadStore$Recovery" "unclean" "[I" ∈ wsX4_redo := by decide +kernel
theorem kX4_redo_4 : Cond.fieldLink RX4 86 "AheadStore$Journal" "endPlace" "I" ∈ wsX4_redo := by decide +kernel
theorem kX4_redo_5 : Cond.methodLink RX4 136 Lib.Math.min.name ∈ wsX4_redo := by decide +kernel
theorem kX4_redo_6 : Cond.static Lib.Math.min.name ∈ wsX4_redo := by decide +kernel
theorem kX4_redo_7 : Cond.initialized "java/lang/Math" ∈ wsX4_redo := by decide +kernel
theorem kX4_redo_8 : Cond.code Lib.Math.min.name Lib.Math.min.code 2 (some .int) ∈ wsX4_redo := by decide +kernel
theorem kX4_redo_9 : Cond.fieldLink RX4 50 "AheadStore$World" "journal" "LAheadStore$Journal;" ∈ wsX4_redo := by decide +kernel
set_option maxHeartbeats 4000000 in
set_option maxRecDepth 100000 in
theorem c_X4_redo {l : Launch} {dC : Nat → ClassId} {dI : Nat → Nat → Nat} {cI : ClassId} {q0 : Nat → Nat} {q1 : Nat → Nat} {sz : Nat} {u0 : S4} {u1 : S9}  {Q : S9 → Prop} (h : wp_X4_redo u0 u1 Q) : ctV sxE l yX4_redo wsX4_redo rX4_redo (dC, dI) vwCl [(cI, .int)] [.ref (q0 0), .ref (q1 0)] (cs4 cI q0 u0 ++ cs9 cI q1 u1) sz (fun (v : S9) => Q v) (fun (v : S9) => (cs4 cI q0 u0 ++ cs9 cI q1 v)) := by
  refine mx_v (cc := cX4_redo) (maxL := 7) (by decide) rfl (Nat.le_of_ble_eq_true rfl) ?_
  intro p e s m below meth c Z A ls args hx hb hml hown hts hA hP hK hD hE hl hret
  have hown : s.vm.findClass RX4 = some m.cls := hown
  have hl : lv_has ls 7 [(0, .ref (q0 0)), (1, .ref (q1 0))] := hl
  have w_151 : ∀ (k_51 : Int32 → S9 → Prop) (hk_51 : ∀ (x4 : Int32) (u1 : S9) (H : Heap) (locs : List Loc) (ls : Array Slot) (_ : va_P (dC, dI) vwCl (cs4 cI q0 u0 ++ cs9 cI q1 u1) H) (_ : va_D A (cs4 cI q0 u0 ++ cs9 cI q1 u1)) (_ : va_S A s.heap H locs) (_ : lv_has ls 7 [(0, .ref (q0 0)), (1, .ref (q1 0)), (2, .ref (q1 1)), (4, .int x4)]) (_ : k_51 x4 u1), W p l e rX4_redo s m args below meth c H locs 0 0 Z (F0 m 51 ls [])) (x4 : Int32) (u1 : S9) (H : Heap) (locs : List Loc) (ls : Array Slot) (_ : va_P (dC, dI) vwCl (cs4 cI q0 u0 ++ cs9 cI q1 u1) H) (_ : va_D A (cs4 cI q0 u0 ++ cs9 cI q1 u1)) (_ : va_S A s.heap H locs) (_ : lv_has ls 7 [(0, .ref (q0 0)), (1, .ref (q1 0)), (2, .ref (q1 1)), (4, .int x4)]) (_ : wp_X4_redo_151 u0 k_51 Q x4 u1), W p l e rX4_redo s m args below meth c H locs 0 0 Z (F0 m 151 ls []) := by
    intro k_51 hk_51 x4 u1 H locs ls hP hD hS hl h
    refine lv_aload_n hx hb dX4_redo_151 rfl (lv_at hl 2 rfl) ?_
    refine lv_iload hx hb dX4_redo_152 (lv_at hl 3 rfl) ?_
    refine cx_vi (As := [.int x4]) (rest := []) ⟨hx, hb, hml, hown, hts⟩ hl.1 ok_sxE hE hK hP hD hS hA (cut_59 cI q0 q1 u0 u1) (c_X2_behind (l := l) (dC := dC) (dI := dI) (cI := cI) (q0 := fun i => q1 (i + 1)) h) (cwV 1 hts gX4_redo_X2_behind rfl rfl rfl hdX2_behind ⟨Nat.le_of_ble_eq_true rfl, Nat.le_of_ble_eq_true rfl⟩) rfl rfl rfl rfl (Nat.le_of_ble_eq_true rfl) dX4_redo_154 rfl (fun r_1 _ H locs h hP hD hS => ?_)
    refine lv_istore (lv' := [(4, .int r_1), (0, .ref (q0 0)), (1, .ref (q1 0)), (2, .ref (q1 1))]) hx hb dX4_redo_157 hl (by decide) rfl (fun ls hl => ?_)
    refine lv_goto (tgt := 51) hx hb dX4_redo_159 (by decide) ?_
    exact hk_51 r_1 u1 _ _ _ hP hD hS (lv_sub hl [1, 2, 3, 0] rfl) h
  have w_51 : ∀ (n : Nat) (x4 : Int32) (u1 : S9) (H : Heap) (locs : List Loc) (ls : Array Slot) (_ : va_P (dC, dI) vwCl (cs4 cI q0 u0 ++ cs9 cI q1 u1) H) (_ : va_D A (cs4 cI q0 u0 ++ cs9 cI q1 u1)) (_ : va_S A s.heap H locs) (_ : lv_has ls 7 [(0, .ref (q0 0)), (1, .ref (q1 0)), (2, .ref (q1 1)), (4, .int x4)]) (_ : wp_X4_redo_51 u0 Q n x4 u1), W p l e rX4_redo s m args below meth c H locs 0 0 Z (F0 m 51 ls []) := by
    intro n
    induction n with
    | zero => intro x4 u1 H locs ls hP hD hS hl h; exact False.elim h
    | succ n ih =>
      intro x4 u1 H locs ls hP hD hS hl h
      refine lv_iload hx hb dX4_redo_51 (lv_at hl 3 rfl) ?_
      refine lv_aload_n hx hb dX4_redo_53 rfl (lv_at hl 2 rfl) ?_
      refine va_get (D := (dC, dI)) (ci := 2) (v := .int (g2_endPlace (g9_journal u1))) (C := RX2) (T := TX2) (N := 4) hx hb hts inX4_redo_2 hown hK hP 3 rfl rfl 1 (by decide) (hts _ kX4_redo_4) (fun _ h9 => h9) rfl dX4_redo_54 ?_
      refine lv_icmp_ge (tgt := 162) hx hb dX4_redo_57 (by decide) (fun cd => ?_) (fun cd => ?_)
      · have h := h.1 cd
        exact hret _ _ _ _ u1 dX4_redo_162 h hP hD hS
      · have h := h.2 cd
        refine lv_aload_n hx hb dX4_redo_60 rfl (lv_at hl 2 rfl) ?_
        refine lv_iload hx hb dX4_redo_61 (lv_at hl 3 rfl) ?_
        refine cx_vi (As := [.int x4]) (rest := []) ⟨hx, hb, hml, hown, hts⟩ hl.1 ok_sxE hE hK hP hD hS hA (cut_59 cI q0 q1 u0 u1) (c_X2_addressAt (l := l) (dC := dC) (dI := dI) (cI := cI) (q0 := fun i => q1 (i + 1)) h) (cwV 1 hts gX4_redo_X2_addressAt rfl rfl rfl hdX2_addressAt ⟨Nat.le_of_ble_eq_true rfl, Nat.le_of_ble_eq_true rfl⟩) rfl rfl rfl rfl (Nat.le_of_ble_eq_true rfl) dX4_redo_63 rfl (fun r_2 _ H locs h hP hD hS => ?_)
        refine lv_bipush (v := 16) hx hb dX4_redo_66 (by decide) ?_
        refine lv_idiv hx hb dX4_redo_68 (by decide) ?_
        refine lv_topi (fun x5_3 e_x5_3 => ?_)
        have h := h x5_3 e_x5_3
        refine lv_istore (lv' := [(5, .int x5_3), (0, .ref (q0 0)), (1, .ref (q1 0)), (2, .ref (q1 1)), (4, .int x4)]) hx hb dX4_redo_69 hl (by decide) rfl (fun ls hl => ?_)
        refine lv_aload_n hx hb dX4_redo_71 rfl (lv_at hl 3 rfl) ?_
        refine lv_iload hx hb dX4_redo_72 (lv_at hl 4 rfl) ?_
        refine cx_vi (As := [.int x4]) (rest := []) ⟨hx, hb, hml, hown, hts⟩ hl.1 ok_sxE hE hK hP hD hS hA (cut_59 cI q0 q1 u0 u1) (c_X2_touches (l := l) (dC := dC) (dI := dI) (cI := cI) (q0 := fun i => q1 (i + 1)) h) (cwV 1 hts gX4_redo_X2_touches rfl rfl rfl hdX2_touches ⟨Nat.le_of_ble_eq_true rfl, Nat.le_of_ble_eq_true rfl⟩) rfl rfl rfl rfl (Nat.le_of_ble_eq_true rfl) dX4_redo_74 rfl (fun r_4 _ H locs h hP hD hS => ?_)
        refine lv_if_eq (tgt := 151) hx hb dX4_redo_77 (by decide) (fun cd => ?_) (fun cd => ?_)
        · have h := h.1 cd
          exact w_151 (fun x4 u1 => wp_X4_redo_51 u0 Q n x4 u1) (fun x4 u1 H locs ls hP hD hS hl h => ih x4 u1 H locs ls hP hD hS hl h) x4 u1 _ _ _ hP hD hS (lv_sub hl [1, 2, 3, 4] rfl) h
        · have h := h.2 cd
          refine lv_aload_n hx hb dX4_redo_80 rfl (lv_at hl 1 rfl) ?_
          refine va_get (D := (dC, dI)) (ci := 4) (v := .ref (q0 1)) (C := RX4) (T := TX4) (N := 7) hx hb hts inX4_redo_4 hown hK hP 0 rfl rfl 0 (by decide) (hts _ kX4_redo_3) (fun _ h9 => h9) rfl dX4_redo_81 ?_
          refine lv_iload hx hb dX4_redo_84 (lv_at hl 0 rfl) ?_
          refine va_iald hx hb hK hP 1 0 rfl rfl h.1 dX4_redo_86 ?_
          have h := h.2
          refine lv_if_eq (tgt := 151) hx hb dX4_redo_87 (by decide) (fun cd => ?_) (fun cd => ?_)
          · have h := h.1 cd
            exact w_151 (fun x4 u1 => wp_X4_redo_51 u0 Q n x4 u1) (fun x4 u1 H locs ls hP hD hS hl h => ih x4 u1 H locs ls hP hD hS hl h) x4 u1 _ _ _ hP hD hS (lv_sub hl [1, 2, 3, 4] rfl) h
          · have h := h.2 cd
            refine lv_iload hx hb dX4_redo_90 (lv_at hl 4 rfl) ?_
            refine lv_aload_n hx hb dX4_redo_92 rfl (lv_at hl 1 rfl) ?_
            refine va_get (D := (dC, dI)) (ci := 4) (v := .ref (q0 1)) (C := RX4) (T := TX4) (N := 7) hx hb hts inX4_redo_4 hown hK hP 0 rfl rfl 0 (by decide) (hts _ kX4_redo_3) (fun _ h9 => h9) rfl dX4_redo_93 ?_
            refine lv_iload hx hb dX4_redo_96 (lv_at hl 0 rfl) ?_
            refine va_iald hx hb hK hP 1 0 rfl rfl h.1 dX4_redo_98 ?_
            have h := h.2
            refine lv_icmp_lt (tgt := 151) hx hb dX4_redo_99 (by decide) (fun cd => ?_) (fun cd => ?_)
            · have h := h.1 cd
              exact w_151 (fun x4 u1 => wp_X4_redo_51 u0 Q n x4 u1) (fun x4 u1 H locs ls hP hD hS hl h => ih x4 u1 H locs ls hP hD hS hl h) x4 u1 _ _ _ hP hD hS (lv_sub hl [1, 2, 3, 4] rfl) h
            · have h := h.2 cd
              refine lv_aload_n hx hb dX4_redo_102 rfl (lv_at hl 2 rfl) ?_
              refine va_get (D := (dC, dI)) (ci := 9) (v := .ref (q1 3)) (C := RX9) (T := TX9) (N := 11) hx hb hts inX4_redo_9 hown hK hP 2 rfl rfl 1 (by decide) (hts _ kX4_redo_1) (fun _ h9 => h9) rfl dX4_redo_103 ?_
              refine lv_iload hx hb dX4_redo_106 (lv_at hl 0 rfl) ?_
              refine lv_aload_n hx hb dX4_redo_108 rfl (lv_at hl 3 rfl) ?_
              refine cx_vi (As := [.int x5_3, .ref (q1 1)]) (rest := []) ⟨hx, hb, hml, hown, hts⟩ hl.1 ok_sxE hE hK hP hD hS hA (cut_66 cI q0 q1 u0 u1) (c_X3_fetch (l := l) (dC := dC) (dI := dI) (cI := cI) (q0 := fun i => q1 (i + 3)) (q1 := fun i => q1 (i + 1)) h) (cwV 2 hts gX4_redo_X3_fetch rfl rfl rfl hdX3_fetch ⟨Nat.le_of_ble_eq_true rfl, Nat.le_of_ble_eq_true rfl⟩) rfl rfl rfl rfl (Nat.le_of_ble_eq_true rfl) dX4_redo_109 rfl (fun r_5 vv H locs h hP hD hS => ?_)
              obtain ⟨v_6, v_7⟩ := vv
              obtain ⟨u1_8, e_u1_8⟩ : ∃ z, z = s9_journal (s9_pages u1 v_6) v_7 := ⟨_, rfl⟩
              have h := h u1_8 e_u1_8
              have hP : va_P (dC, dI) vwCl (cs4 cI q0 u0 ++ cs9 cI q1 u1_8) H := by rw [e_u1_8]; exact hP
              have hD : va_D A (cs4 cI q0 u0 ++ cs9 cI q1 u1_8) := by rw [e_u1_8]; exact hD
              refine lv_istore (lv' := [(6, .int r_5), (5, .int x5_3), (0, .ref (q0 0)), (1, .ref (q1 0)), (2, .ref (q1 1)), (4, .int x4)]) hx hb dX4_redo_112 hl (by decide) rfl (fun ls hl => ?_)
              refine lv_aload_n hx hb dX4_redo_114 rfl (lv_at hl 3 rfl) ?_
              refine va_get (D := (dC, dI)) (ci := 9) (v := .ref (q1 3)) (C := RX9) (T := TX9) (N := 11) hx hb hts inX4_redo_9 hown hK hP 2 rfl rfl 1 (by decide) (hts _ kX4_redo_1) (fun _ h9 => h9) rfl dX4_redo_115 ?_
              refine va_get (D := (dC, dI)) (ci := 3) (v := .ref (q1 10)) (C := RX3) (T := TX3) (N := 12) hx hb hts inX4_redo_3 hown hK hP 5 rfl rfl 8 (by decide) (hts _ kX4_redo_2) (fun _ h9 => h9) rfl dX4_redo_118 ?_
              refine lv_iload hx hb dX4_redo_121 (lv_at hl 0 rfl) ?_
              refine va_iald hx hb hK hP 12 0 rfl rfl h.1 dX4_redo_123 ?_
              have h := h.2
              refine lv_iload hx hb dX4_redo_124 (lv_at hl 5 rfl) ?_
              refine lv_icmp_ge (tgt := 151) hx hb dX4_redo_126 (by decide) (fun cd => ?_) (fun cd => ?_)
              · have h := h.1 cd
                exact w_151 (fun x4 u1 => wp_X4_redo_51 u0 Q n x4 u1) (fun x4 u1 H locs ls hP hD hS hl h => ih x4 u1 H locs ls hP hD hS hl h) x4 u1_8 _ _ _ hP hD hS (lv_sub hl [2, 3, 4, 5] rfl) h
              · have h := h.2 cd
                refine lv_aload_n hx hb dX4_redo_129 rfl (lv_at hl 3 rfl) ?_
                refine va_get (D := (dC, dI)) (ci := 9) (v := .ref (q1 3)) (C := RX9) (T := TX9) (N := 11) hx hb hts inX4_redo_9 hown hK hP 2 rfl rfl 1 (by decide) (hts _ kX4_redo_1) (fun _ h9 => h9) rfl dX4_redo_130 ?_
                refine lv_iload hx hb dX4_redo_133 (lv_at hl 0 rfl) ?_
                refine lv_iload hx hb dX4_redo_135 (lv_at hl 5 rfl) ?_
                refine lv_aload_n hx hb dX4_redo_137 rfl (lv_at hl 4 rfl) ?_
                refine cx_vv (As := [.int r_5, .int x4, .ref (q1 1)]) (rest := []) ⟨hx, hb, hml, hown, hts⟩ hl.1 ok_sxE hE hK hP hD hS hA (cut_65 cI q0 q1 u0 u1_8) (c_X3_doIn (l := l) (dC := dC) (dI := dI) (cI := cI) (q0 := fun i => q1 (i + 3)) (q1 := fun i => q1 (i + 1)) h) (cwV 3 hts gX4_redo_X3_doIn rfl rfl rfl hdX3_doIn ⟨Nat.le_of_ble_eq_true rfl, Nat.le_of_ble_eq_true rfl⟩) rfl rfl rfl rfl (Nat.le_of_ble_eq_true rfl) dX4_redo_138 rfl (fun v_9 H locs h hP hD hS => ?_)
                obtain ⟨u1_10, e_u1_10⟩ : ∃ z, z = s9_pages u1_8 v_9 := ⟨_, rfl⟩
                have h := h u1_10 e_u1_10
                have hP : va_P (dC, dI) vwCl (cs4 cI q0 u0 ++ cs9 cI q1 u1_10) H := by rw [e_u1_10]; exact hP
                have hD : va_D A (cs4 cI q0 u0 ++ cs9 cI q1 u1_10) := by rw [e_u1_10]; exact hD
                refine lv_aload_n hx hb dX4_redo_141 rfl (lv_at hl 3 rfl) ?_
                refine lv_dup hx hb dX4_redo_142 rfl ?_
                refine va_get (D := (dC, dI)) (ci := 9) (v := .int (g9_redone u1_10)) (C := RX9) (T := TX9) (N := 11) hx hb hts inX4_redo_9 hown hK hP 2 rfl rfl 9 (by decide) (hts _ kX4_redo_0) (fun _ h9 => h9) rfl dX4_redo_143 ?_
                refine lv_iconst (v := 1) hx hb dX4_redo_146 (by decide) ?_
                refine lv_iadd hx hb dX4_redo_147 ?_
                refine va_put (D := (dC, dI)) (ci := 9) (v := .int ((g9_redone u1_10) + 1)) (ty := .int) (C := RX9) (T := TX9) (N := 11) hx hb hts inX4_redo_9 tyX9 tyX9_ok nmX9 hown hK hP hD hS 2 rfl rfl 9 (by decide) (hts _ kX4_redo_0) (fun _ h9 => h9) rfl (tyX9_ok 9 (by decide)) rfl rfl (Nat.le_of_ble_eq_true rfl) dX4_redo_148 (fun H locs hP hD hS => ?_)
                obtain ⟨u1_11, e_u1_11⟩ : ∃ z, z = s9_redone u1_10 ((g9_redone u1_10) + 1) := ⟨_, rfl⟩
                have h := h u1_11 e_u1_11
                have hP : va_P (dC, dI) vwCl (cs4 cI q0 u0 ++ cs9 cI q1 u1_11) H := by rw [e_u1_11]; exact hP
                have hD : va_D A (cs4 cI q0 u0 ++ cs9 cI q1 u1_11) := by rw [e_u1_11]; exact hD
                exact w_151 (fun x4 u1 => wp_X4_redo_51 u0 Q n x4 u1) (fun x4 u1 H locs ls hP hD hS hl h => ih x4 u1 H locs ls hP hD hS hl h) x4 u1_11 _ _ _ hP hD hS (lv_sub hl [2, 3, 4, 5] rfl) h
  have w_42 : ∀ (k_13 : Int32 → Int32 → S9 → Prop) (hk_13 : ∀ (x3 : Int32) (x4 : Int32) (u1 : S9) (H : Heap) (locs : List Loc) (ls : Array Slot) (_ : va_P (dC, dI) vwCl (cs4 cI q0 u0 ++ cs9 cI q1 u1) H) (_ : va_D A (cs4 cI q0 u0 ++ cs9 cI q1 u1)) (_ : va_S A s.heap H locs) (_ : lv_has ls 7 [(0, .ref (q0 0)), (1, .ref (q1 0)), (2, .ref (q1 1)), (3, .int x3), (4, .int x4)]) (_ : k_13 x3 x4 u1), W p l e rX4_redo s m args below meth c H locs 0 0 Z (F0 m 13 ls [])) (x3 : Int32) (x4 : Int32) (u1 : S9) (H : Heap) (locs : List Loc) (ls : Array Slot) (_ : va_P (dC, dI) vwCl (cs4 cI q0 u0 ++ cs9 cI q1 u1) H) (_ : va_D A (cs4 cI q0 u0 ++ cs9 cI q1 u1)) (_ : va_S A s.heap H locs) (_ : lv_has ls 7 [(0, .ref (q0 0)), (1, .ref (q1 0)), (2, .ref (q1 1)), (3, .int x3), (4, .int x4)]) (_ : wp_X4_redo_42 u0 k_13 Q x3 x4 u1), W p l e rX4_redo s m args below meth c H locs 0 0 Z (F0 m 42 ls []) := by
    intro k_13 hk_13 x3 x4 u1 H locs ls hP hD hS hl h
    obtain ⟨x4_12, e_x4_12⟩ : ∃ z : Int32, z = x4 + 1 := ⟨_, rfl⟩
    have h := h x4_12 e_x4_12
    refine lv_iinc (v := x4_12) (lv' := [(4, .int x4_12), (0, .ref (q0 0)), (1, .ref (q1 0)), (2, .ref (q1 1)), (3, .int x3)]) hx hb dX4_redo_42 hl (k := 4) rfl (by rw [e_x4_12]; rfl) (by decide) rfl (fun ls hl => ?_)
    refine lv_goto (tgt := 13) hx hb dX4_redo_45 (by decide) ?_
    exact hk_13 x3 x4_12 u1 _ _ _ hP hD hS (lv_sub hl [1, 2, 3, 4, 0] rfl) h
  have w_13 : ∀ (n : Nat) (x3 : Int32) (x4 : Int32) (u1 : S9) (H : Heap) (locs : List Loc) (ls : Array Slot) (_ : va_P (dC, dI) vwCl (cs4 cI q0 u0 ++ cs9 cI q1 u1) H) (_ : va_D A (cs4 cI q0 u0 ++ cs9 cI q1 u1)) (_ : va_S A s.heap H locs) (_ : lv_has ls 7 [(0, .ref (q0 0)), (1, .ref (q1 0)), (2, .ref (q1 1)), (3, .int x3), (4, .int x4)]) (_ : wp_X4_redo_13 u0 Q n x3 x4 u1), W p l e rX4_redo s m args below meth c H locs 0 0 Z (F0 m 13 ls []) := by
    intro n
    induction n with
    | zero => intro x3 x4 u1 H locs ls hP hD hS hl h; exact False.elim h
    | succ n ih =>
      intro x3 x4 u1 H locs ls hP hD hS hl h
      refine lv_iload hx hb dX4_redo_13 (lv_at hl 4 rfl) ?_
      refine lv_bipush (v := 16) hx hb dX4_redo_15 (by decide) ?_
      refine lv_icmp_ge (tgt := 48) hx hb dX4_redo_17 (by decide) (fun cd => ?_) (fun cd => ?_)
      · have h := h.1 cd
        refine lv_iload_n hx hb dX4_redo_48 rfl (lv_at hl 3 rfl) ?_
        refine lv_istore (lv' := [(4, .int x3), (0, .ref (q0 0)), (1, .ref (q1 0)), (2, .ref (q1 1)), (3, .int x3)]) hx hb dX4_redo_49 hl (by decide) rfl (fun ls hl => ?_)
        obtain ⟨n0, h⟩ := h
        exact w_51 n0 x3 u1 _ _ _ hP hD hS (lv_sub hl [1, 2, 3, 0] rfl) h
      · have h := h.2 cd
        refine lv_aload_n hx hb dX4_redo_20 rfl (lv_at hl 0 rfl) ?_
        refine va_get (D := (dC, dI)) (ci := 4) (v := .ref (q0 1)) (C := RX4) (T := TX4) (N := 7) hx hb hts inX4_redo_4 hown hK hP 0 rfl rfl 0 (by decide) (hts _ kX4_redo_3) (fun _ h9 => h9) rfl dX4_redo_21 ?_
        refine lv_iload hx hb dX4_redo_24 (lv_at hl 4 rfl) ?_
        refine va_iald hx hb hK hP 1 0 rfl rfl h.1 dX4_redo_26 ?_
        have h := h.2
        refine lv_if_eq (tgt := 42) hx hb dX4_redo_27 (by decide) (fun cd => ?_) (fun cd => ?_)
        · have h := h.1 cd
          exact w_42 (fun x3 x4 u1 => wp_X4_redo_13 u0 Q n x3 x4 u1) (fun x3 x4 u1 H locs ls hP hD hS hl h => ih x3 x4 u1 H locs ls hP hD hS hl h) x3 x4 u1 _ _ _ hP hD hS (lv_sub hl [0, 1, 2, 3, 4] rfl) h
        · have h := h.2 cd
          refine lv_iload_n hx hb dX4_redo_30 rfl (lv_at hl 3 rfl) ?_
          refine lv_aload_n hx hb dX4_redo_31 rfl (lv_at hl 0 rfl) ?_
          refine va_get (D := (dC, dI)) (ci := 4) (v := .ref (q0 1)) (C := RX4) (T := TX4) (N := 7) hx hb hts inX4_redo_4 hown hK hP 0 rfl rfl 0 (by decide) (hts _ kX4_redo_3) (fun _ h9 => h9) rfl dX4_redo_32 ?_
          refine lv_iload hx hb dX4_redo_35 (lv_at hl 4 rfl) ?_
          refine va_iald hx hb hK hP 1 0 rfl rfl h.1 dX4_redo_37 ?_
          have h := h.2
          refine va_mmin hx hb (hml.trans hl.1.symm) hown (hts _ kX4_redo_5) (hts _ kX4_redo_6) (hts _ kX4_redo_7) (hts _ kX4_redo_8) (Nat.le_of_ble_eq_true rfl) (Nat.le_of_ble_eq_true rfl) (Nat.zero_le _) (Nat.zero_le _) dX4_redo_38 ?_
          refine lv_topi (fun x3_14 e_x3_14 => ?_)
          have h := h x3_14 e_x3_14
          refine lv_istore_n (lv' := [(3, .int x3_14), (0, .ref (q0 0)), (1, .ref (q1 0)), (2, .ref (q1 1)), (4, .int x4)]) hx hb dX4_redo_41 rfl hl (by decide) rfl (fun ls hl => ?_)
          exact w_42 (fun x3 x4 u1 => wp_X4_redo_13 u0 Q n x3 x4 u1) (fun x3 x4 u1 H locs ls hP hD hS hl h => ih x3 x4 u1 H locs ls hP hD hS hl h) x3_14 x4 u1 _ _ _ hP hD hS (lv_sub hl [1, 2, 3, 0, 4] rfl) h
  have hS : va_S A s.heap s.heap [] := va_S.rf
  refine lv_aload_n hx hb dX4_redo_0 rfl (lv_at hl 1 rfl) ?_
  refine va_get (D := (dC, dI)) (ci := 9) (v := .ref (q1 1)) (C := RX9) (T := TX9) (N := 11) hx hb hts inX4_redo_9 hown hK hP 2 rfl rfl 0 (by decide) (hts _ kX4_redo_9) (fun _ h9 => h9) rfl dX4_redo_1 ?_
  refine lv_astore_n (lv' := [(2, .ref (q1 1)), (0, .ref (q0 0)), (1, .ref (q1 0))]) hx hb dX4_redo_4 rfl hl (by decide) rfl (fun ls hl => ?_)
  refine lv_aload_n hx hb dX4_redo_5 rfl (lv_at hl 0 rfl) ?_
  refine va_get (D := (dC, dI)) (ci := 2) (v := .int (g2_endPlace (g9_journal u1))) (C := RX2) (T := TX2) (N := 4) hx hb hts inX4_redo_2 hown hK hP 3 rfl rfl 1 (by decide) (hts _ kX4_redo_4) (fun _ h9 => h9) rfl dX4_redo_6 ?_
  refine lv_topi (fun x3_15 e_x3_15 => ?_)
  have h := h x3_15 e_x3_15
  refine lv_istore_n (lv' := [(3, .int x3_15), (2, .ref (q1 1)), (0, .ref (q0 0)), (1, .ref (q1 0))]) hx hb dX4_redo_9 rfl hl (by decide) rfl (fun ls hl => ?_)
  refine lv_iconst (v := 0) hx hb dX4_redo_10 (by decide) ?_
  refine lv_istore (lv' := [(4, .int 0), (3, .int x3_15), (2, .ref (q1 1)), (0, .ref (q0 0)), (1, .ref (q1 0))]) hx hb dX4_redo_11 hl (by decide) rfl (fun ls hl => ?_)
  obtain ⟨n0, h⟩ := h
  exact w_13 n0 x3_15 0 u1 _ _ _ hP hD hS (lv_sub hl [3, 4, 2, 1, 0] rfl) h

set_option maxRecDepth 100000 in
theorem cut_67 (cI : ClassId) (q0 : Nat → Nat) (q1 : Nat → Nat) (u0 : S4) (u1 : S9) : Cut (cs4 cI q0 u0 ++ cs9 cI q1 u1) (cs9 cI q1 u1) (fun v : S9 => cs9 cI q1 v) (fun v : S9 => (cs4 cI q0 u0 ++ cs9 cI q1 v)) := ⟨[2, 3, 4, 5, 6, 7, 8, 9, 10, 11, 12, 13, 14, 15, 16, 17, 18, 19, 20, 21, 22, 23, 24, 25, 26, 27, 28, 29, 30, 31], [0, 1], rfl, rfl, rfl, by decide, by decide, fun v => ⟨[0, 1, 2, 3, 4, 5, 6, 7, 8, 9, 10, 11, 12, 13, 14, 15, 16, 17, 18, 19, 20, 21, 22, 23, 24, 25, 26, 27, 28, 29, 30, 31], rfl, rfl⟩⟩

abbrev rX4_endOne : Room := { frames := 4, cells := 0, slots := 0, locals := 88 }
theorem hdX4_endOne : yX4_endOne.cls = RX4 ∧ yX4_endOne.cls ≠ "java/lang/invoke/MethodHandle" ∧ yX4_endOne.cls ≠ "java/lang/invoke/VarHandle" ∧ (parseMethodDescriptor yX4_endOne.desc).map (fun d => d.parameters.length) = some 2 := by decide +kernel
theorem inX4_endOne_4 : ∀ w ∈ wsX40, w ∈ wsX4_endOne := by decide +kernel
theorem inX4_endOne_9 : ∀ w ∈ wsX90, w ∈ wsX4_endOne := by decide +kernel
theorem kX4_endOne_0 : Cond.fieldLink RX4 29 "AheadStore$Recovery" "ended" "I" ∈ wsX4_endOne := by decide +kernel
theorem kX4_endOne_1 : Cond.fieldLink RX4 15 "AheadStore$Recovery" "written" "I" ∈ wsX4_endOne := by decide +kernel
theorem kX4_endOne_2 : Cond.fieldLink RX4 50 "AheadStore$World" "journal" "LAheadStore$Journal;" ∈ wsX4_endOne := by decide +kernel
set_option maxHeartbeats 4000000 in
set_option maxRecDepth 100000 in
theorem c_X4_endOne {l : Launch} {dC : Nat → ClassId} {dI : Nat → Nat → Nat} {cI : ClassId} {q0 : Nat → Nat} {q1 : Nat → Nat} {sz : Nat} {u0 : S4} {u1 : S9} {x2 : Int32} {Q : S4 → S9 → Prop} (h : wp_X4_endOne u0 u1 x2 Q) : ctV sxE l yX4_endOne wsX4_endOne rX4_endOne (dC, dI) vwCl [(cI, .int)] [.ref (q0 0), .ref (q1 0), .int x2] (cs4 cI q0 u0 ++ cs9 cI q1 u1) sz (fun (v : S4 × S9) => Q v.1 v.2) (fun (v : S4 × S9) => (cs4 cI q0 v.1 ++ cs9 cI q1 v.2)) := by
  refine mx_v (cc := cX4_endOne) (maxL := 3) (by decide) rfl (Nat.le_of_ble_eq_true rfl) ?_
  intro p e s m below meth c Z A ls args hx hb hml hown hts hA hP hK hD hE hl hret
  have hown : s.vm.findClass RX4 = some m.cls := hown
  have hl : lv_has ls 3 [(0, .ref (q0 0)), (1, .ref (q1 0)), (2, .int x2)] := hl
  have hS : va_S A s.heap s.heap [] := va_S.rf
  refine lv_aload_n hx hb dX4_endOne_0 rfl (lv_at hl 1 rfl) ?_
  refine lv_iload_n hx hb dX4_endOne_1 rfl (lv_at hl 2 rfl) ?_
  refine cx_vv (As := [.int x2]) (rest := []) ⟨hx, hb, hml, hown, hts⟩ hl.1 ok_sxE hE hK hP hD hS hA (cut_67 cI q0 q1 u0 u1) (c_X9_endOf (l := l) (dC := dC) (dI := dI) (cI := cI) (q0 := q1) h) (cwV 1 hts gX4_endOne_X9_endOf rfl rfl rfl hdX9_endOf ⟨Nat.le_of_ble_eq_true rfl, Nat.le_of_ble_eq_true rfl⟩) rfl rfl rfl rfl (Nat.le_of_ble_eq_true rfl) dX4_endOne_2 rfl (fun v_1 H locs h hP hD hS => ?_)
  have hP : va_P (dC, dI) vwCl (cs4 cI q0 u0 ++ cs9 cI q1 v_1) H :=  hP
  have hD : va_D A (cs4 cI q0 u0 ++ cs9 cI q1 v_1) :=  hD
  refine lv_aload_n hx hb dX4_endOne_5 rfl (lv_at hl 1 rfl) ?_
  refine va_get (D := (dC, dI)) (ci := 9) (v := .ref (q1 1)) (C := RX9) (T := TX9) (N := 11) hx hb hts inX4_endOne_9 hown hK hP 2 rfl rfl 0 (by decide) (hts _ kX4_endOne_2) (fun _ h9 => h9) rfl dX4_endOne_6 ?_
  refine cx_vv (As := []) (rest := []) ⟨hx, hb, hml, hown, hts⟩ hl.1 ok_sxE hE hK hP hD hS hA (cut_58 cI q0 q1 u0 v_1) (c_X2_flushAll (l := l) (dC := dC) (dI := dI) (cI := cI) (q0 := fun i => q1 (i + 1)) h) (cwV 0 hts gX4_endOne_X2_flushAll rfl rfl rfl hdX2_flushAll ⟨Nat.le_of_ble_eq_true rfl, Nat.le_of_ble_eq_true rfl⟩) rfl rfl rfl rfl (Nat.le_of_ble_eq_true rfl) dX4_endOne_9 rfl (fun v_2 H locs h hP hD hS => ?_)
  obtain ⟨u1_3, e_u1_3⟩ : ∃ z, z = s9_journal v_1 v_2 := ⟨_, rfl⟩
  have h := h u1_3 e_u1_3
  have hP : va_P (dC, dI) vwCl (cs4 cI q0 u0 ++ cs9 cI q1 u1_3) H := by rw [e_u1_3]; exact hP
  have hD : va_D A (cs4 cI q0 u0 ++ cs9 cI q1 u1_3) := by rw [e_u1_3]; exact hD
  refine lv_aload_n hx hb dX4_endOne_12 rfl (lv_at hl 0 rfl) ?_
  refine lv_dup hx hb dX4_endOne_13 rfl ?_
  refine va_get (D := (dC, dI)) (ci := 4) (v := .int (g4_written u0)) (C := RX4) (T := TX4) (N := 7) hx hb hts inX4_endOne_4 hown hK hP 0 rfl rfl 1 (by decide) (hts _ kX4_endOne_1) (fun _ h9 => h9) rfl dX4_endOne_14 ?_
  refine lv_iconst (v := 1) hx hb dX4_endOne_17 (by decide) ?_
  refine lv_iadd hx hb dX4_endOne_18 ?_
  refine va_put (D := (dC, dI)) (ci := 4) (v := .int ((g4_written u0) + 1)) (ty := .int) (C := RX4) (T := TX4) (N := 7) hx hb hts inX4_endOne_4 tyX4 tyX4_ok nmX4 hown hK hP hD hS 0 rfl rfl 1 (by decide) (hts _ kX4_endOne_1) (fun _ h9 => h9) rfl (tyX4_ok 1 (by decide)) rfl rfl (Nat.le_of_ble_eq_true rfl) dX4_endOne_19 (fun H locs hP hD hS => ?_)
  obtain ⟨u0_4, e_u0_4⟩ : ∃ z, z = s4_written u0 ((g4_written u0) + 1) := ⟨_, rfl⟩
  have h := h u0_4 e_u0_4
  have hP : va_P (dC, dI) vwCl (cs4 cI q0 u0_4 ++ cs9 cI q1 u1_3) H := by rw [e_u0_4]; exact hP
  have hD : va_D A (cs4 cI q0 u0_4 ++ cs9 cI q1 u1_3) := by rw [e_u0_4]; exact hD
  refine lv_aload_n hx hb dX4_endOne_22 rfl (lv_at hl 0 rfl) ?_
  refine lv_dup hx hb dX4_endOne_23 rfl ?_
  refine va_get (D := (dC, dI)) (ci := 4) (v := .int (g4_ended u0_4)) (C := RX4) (T := TX4) (N := 7) hx hb hts inX4_endOne_4 hown hK hP 0 rfl rfl 5 (by decide) (hts _ kX4_endOne_0) (fun _ h9 => h9) rfl dX4_endOne_24 ?_
  refine lv_iconst (v := 1) hx hb dX4_endOne_27 (by decide) ?_
  refine lv_iadd hx hb dX4_endOne_28 ?_
  refine va_put (D := (dC, dI)) (ci := 4) (v := .int ((g4_ended u0_4) + 1)) (ty := .int) (C := RX4) (T := TX4) (N := 7) hx hb hts inX4_endOne_4 tyX4 tyX4_ok nmX4 hown hK hP hD hS 0 rfl rfl 5 (by decide) (hts _ kX4_endOne_0) (fun _ h9 => h9) rfl (tyX4_ok 5 (by decide)) rfl rfl (Nat.le_of_ble_eq_true rfl) dX4_endOne_29 (fun H locs hP hD hS => ?_)
  obtain ⟨u0_5, e_u0_5⟩ : ∃ z, z = s4_ended u0_4 ((g4_ended u0_4) + 1) := ⟨_, rfl⟩
  have h := h u0_5 e_u0_5
  have hP : va_P (dC, dI) vwCl (cs4 cI q0 u0_5 ++ cs9 cI q1 u1_3) H := by rw [e_u0_5]; exact hP
  have hD : va_D A (cs4 cI q0 u0_5 ++ cs9 cI q1 u1_3) := by rw [e_u0_5]; exact hD
  exact hret _ _ _ _ (u0_5, u1_3) dX4_endOne_32 h hP hD hS

set_option maxRecDepth 100000 in
theorem cut_68 (cI : ClassId) (q0 : Nat → Nat) (q1 : Nat → Nat) (u0 : S4) (u1 : S9) : Cut (cs4 cI q0 u0 ++ cs9 cI q1 u1) (cs4 cI q0 u0 ++ cs9 cI q1 u1) (fun v : S4 × S9 => cs4 cI q0 v.1 ++ cs9 cI q1 v.2) (fun v : S4 × S9 => (cs4 cI q0 v.1 ++ cs9 cI q1 v.2)) := ⟨[0, 1, 2, 3, 4, 5, 6, 7, 8, 9, 10, 11, 12, 13, 14, 15, 16, 17, 18, 19, 20, 21, 22, 23, 24, 25, 26, 27, 28, 29, 30, 31], [], rfl, rfl, rfl, by decide, by decide, fun v => ⟨[0, 1, 2, 3, 4, 5, 6, 7, 8, 9, 10, 11, 12, 13, 14, 15, 16, 17, 18, 19, 20, 21, 22, 23, 24, 25, 26, 27, 28, 29, 30, 31], rfl, rfl⟩⟩

abbrev rX4_undo : Room := { frames := 5, cells := 0, slots := 0, locals := 114 }
theorem hdX4_undo : yX4_undo.cls = RX4 ∧ yX4_undo.cls ≠ "java/lang/invoke/MethodHandle" ∧ yX4_undo.cls ≠ "java/lang/invoke/VarHandle" ∧ (parseMethodDescriptor yX4_undo.desc).map (fun d => d.parameters.length) = some 2 := by decide +kernel
theorem inX4_undo_4 : ∀ w ∈ wsX40, w ∈ wsX4_undo := by decide +kernel
theorem inX4_undo_5 : ∀ w ∈ wsX50, w ∈ wsX4_undo := by decide +kernel
theorem inX4_undo_9 : ∀ w ∈ wsX90, w ∈ wsX4_undo := by decide +kernel
theorem kX4_undo_0 : Cond.fieldLink RX4 50 "AheadStore$World" "journal" "LAheadStore$Journal;" ∈ wsX4_undo := by decide +kernel
theorem kX4_undo_1 : Cond.fieldLink RX4 176 "AheadStore$Roster" "cursor" "[I" ∈ wsX4_undo := by decide +kernel
theorem kX4_undo_2 : Cond.fieldLink RX4 26 "AheadStore$Recovery" "compensated" "I" ∈ wsX4_undo := by decide +kernel
theorem kX4_undo_3 : Cond.fieldLink RX4 15 "AheadStore$Recovery" "written" "I" ∈ wsX4_undo := by decide +kernel
theorem kX4_undo_4 : Cond.constant RX4 172 (1000000) ∈ wsX4_undo := by decide +kernel
theorem kX4_undo_5 : Cond.fieldLink RX4 165 "AheadStore$Roster" "is" "[I" ∈ wsX4_undo := by decide +kernel
theorem kX4_undo_6 : Cond.fieldLink RX4 94 "AheadStore$World" "roster" "LAheadStore$Roster;" ∈ wsX4_undo := by decide +kernel
set_option maxHeartbeats 4000000 in
set_option maxRecDepth 100000 in
theorem c_X4_undo {l : Launch} {dC : Nat → ClassId} {dI : Nat → Nat → Nat} {cI : ClassId} {q0 : Nat → Nat} {q1 : Nat → Nat} {sz : Nat} {u0 : S4} {u1 : S9} {x2 : Int32} {Q : Int32 → S4 → S9 → Prop} (h : wp_X4_undo u0 u1 x2 Q) : ctI sxE l yX4_undo wsX4_undo rX4_undo (dC, dI) vwCl [(cI, .int)] [.ref (q0 0), .ref (q1 0), .int x2] (cs4 cI q0 u0 ++ cs9 cI q1 u1) sz (fun (r : Int32) (v : S4 × S9) => Q r v.1 v.2) (fun (v : S4 × S9) => (cs4 cI q0 v.1 ++ cs9 cI q1 v.2)) := by
  refine mx_i (cc := cX4_undo) (maxL := 8) (ty := .boolean) (by decide) rfl (Nat.le_of_ble_eq_true rfl) ?_
  intro p e s m below meth c Z A ls args hx hb hml hown hts hA hP hK hD hE hl hret
  have hown : s.vm.findClass RX4 = some m.cls := hown
  have hl : lv_has ls 8 [(0, .ref (q0 0)), (1, .ref (q1 0)), (2, .int x2)] := hl
  have w_191 : ∀ (k_52 : Int32 → Int32 → S4 → S9 → Prop) (hk_52 : ∀ (x2 : Int32) (x4 : Int32) (u0 : S4) (u1 : S9) (H : Heap) (locs : List Loc) (ls : Array Slot) (_ : va_P (dC, dI) vwCl (cs4 cI q0 u0 ++ cs9 cI q1 u1) H) (_ : va_D A (cs4 cI q0 u0 ++ cs9 cI q1 u1)) (_ : va_S A s.heap H locs) (_ : lv_has ls 8 [(0, .ref (q0 0)), (1, .ref (q1 0)), (2, .int x2), (3, .ref (q1 13)), (4, .int x4)]) (_ : k_52 x2 x4 u0 u1), W p l e rX4_undo s m args below meth c H locs 0 0 Z (F0 m 52 ls [])) (x2 : Int32) (x4 : Int32) (u0 : S4) (u1 : S9) (H : Heap) (locs : List Loc) (ls : Array Slot) (_ : va_P (dC, dI) vwCl (cs4 cI q0 u0 ++ cs9 cI q1 u1) H) (_ : va_D A (cs4 cI q0 u0 ++ cs9 cI q1 u1)) (_ : va_S A s.heap H locs) (_ : lv_has ls 8 [(0, .ref (q0 0)), (1, .ref (q1 0)), (2, .int x2), (3, .ref (q1 13)), (4, .int x4)]) (_ : wp_X4_undo_191 k_52 Q x2 x4 u0 u1), W p l e rX4_undo s m args below meth c H locs 0 0 Z (F0 m 191 ls []) := by
    intro k_52 hk_52 x2 x4 u0 u1 H locs ls hP hD hS hl h
    obtain ⟨x4_1, e_x4_1⟩ : ∃ z : Int32, z = x4 + 1 := ⟨_, rfl⟩
    have h := h x4_1 e_x4_1
    refine lv_iinc (v := x4_1) (lv' := [(4, .int x4_1), (0, .ref (q0 0)), (1, .ref (q1 0)), (2, .int x2), (3, .ref (q1 13))]) hx hb dX4_undo_191 hl (k := 4) rfl (by rw [e_x4_1]; rfl) (by decide) rfl (fun ls hl => ?_)
    refine lv_goto (tgt := 52) hx hb dX4_undo_194 (by decide) ?_
    exact hk_52 x2 x4_1 u0 u1 _ _ _ hP hD hS (lv_sub hl [1, 2, 3, 4, 0] rfl) h
  have w_175 : ∀ (k_191 : Int32 → Int32 → S4 → S9 → Prop) (hk_191 : ∀ (x2 : Int32) (x4 : Int32) (u0 : S4) (u1 : S9) (H : Heap) (locs : List Loc) (ls : Array Slot) (_ : va_P (dC, dI) vwCl (cs4 cI q0 u0 ++ cs9 cI q1 u1) H) (_ : va_D A (cs4 cI q0 u0 ++ cs9 cI q1 u1)) (_ : va_S A s.heap H locs) (_ : lv_has ls 8 [(0, .ref (q0 0)), (1, .ref (q1 0)), (2, .int x2), (3, .ref (q1 13)), (4, .int x4)]) (_ : k_191 x2 x4 u0 u1), W p l e rX4_undo s m args below meth c H locs 0 0 Z (F0 m 191 ls [])) (x2 : Int32) (x4 : Int32) (x5 : Int32) (x6 : Int32) (u0 : S4) (u1 : S9) (H : Heap) (locs : List Loc) (ls : Array Slot) (_ : va_P (dC, dI) vwCl (cs4 cI q0 u0 ++ cs9 cI q1 u1) H) (_ : va_D A (cs4 cI q0 u0 ++ cs9 cI q1 u1)) (_ : va_S A s.heap H locs) (_ : lv_has ls 8 [(0, .ref (q0 0)), (1, .ref (q1 0)), (2, .int x2), (3, .ref (q1 13)), (4, .int x4), (5, .int x5), (6, .int x6)]) (_ : wp_X4_undo_175 k_191 Q x2 x4 x5 x6 u0 u1), W p l e rX4_undo s m args below meth c H locs 0 0 Z (F0 m 175 ls []) := by
    intro k_191 hk_191 x2 x4 x5 x6 u0 u1 H locs ls hP hD hS hl h
    refine lv_aload_n hx hb dX4_undo_175 rfl (lv_at hl 3 rfl) ?_
    refine va_get (D := (dC, dI)) (ci := 5) (v := .ref (q1 16)) (C := RX5) (T := TX5) (N := 3) hx hb hts inX4_undo_5 hown hK hP 15 rfl rfl 2 (by decide) (hts _ kX4_undo_1) (fun _ h9 => h9) rfl dX4_undo_176 ?_
    refine lv_iload hx hb dX4_undo_179 (lv_at hl 5 rfl) ?_
    refine lv_aload_n hx hb dX4_undo_181 rfl (lv_at hl 1 rfl) ?_
    refine va_get (D := (dC, dI)) (ci := 9) (v := .ref (q1 1)) (C := RX9) (T := TX9) (N := 11) hx hb hts inX4_undo_9 hown hK hP 2 rfl rfl 0 (by decide) (hts _ kX4_undo_0) (fun _ h9 => h9) rfl dX4_undo_182 ?_
    refine lv_iload hx hb dX4_undo_185 (lv_at hl 6 rfl) ?_
    refine cx_vi (As := [.int x6]) (rest := [.int x5, .ref (q1 16)]) ⟨hx, hb, hml, hown, hts⟩ hl.1 ok_sxE hE hK hP hD hS hA (cut_59 cI q0 q1 u0 u1) (c_X2_onward (l := l) (dC := dC) (dI := dI) (cI := cI) (q0 := fun i => q1 (i + 1)) h) (cwV 1 hts gX4_undo_X2_onward rfl rfl rfl hdX2_onward ⟨Nat.le_of_ble_eq_true rfl, Nat.le_of_ble_eq_true rfl⟩) rfl rfl rfl rfl (Nat.le_of_ble_eq_true rfl) dX4_undo_187 rfl (fun r_2 _ H locs h hP hD hS => ?_)
    refine va_iast hx hb hK hP hD hS 18 0 rfl rfl h.1 dX4_undo_190 (fun H locs hP hD hS => ?_)
    have h := h.2
    obtain ⟨u1_3, e_u1_3⟩ : ∃ z, z = s9_roster u1 (s5_cursor (g9_roster u1) (upd (g5_cursor (g9_roster u1)) x5.toNatClampNeg r_2)) := ⟨_, rfl⟩
    have h := h u1_3 e_u1_3
    have hP : va_P (dC, dI) vwCl (cs4 cI q0 u0 ++ cs9 cI q1 u1_3) H := by rw [e_u1_3]; exact hP
    have hD : va_D A (cs4 cI q0 u0 ++ cs9 cI q1 u1_3) := by rw [e_u1_3]; exact hD
    exact hk_191 x2 x4 u0 u1_3 _ _ _ hP hD hS (lv_sub hl [0, 1, 2, 3, 4] rfl) h
  have w_120 : ∀ (k_52 : Int32 → Int32 → S4 → S9 → Prop) (hk_52 : ∀ (x2 : Int32) (x4 : Int32) (u0 : S4) (u1 : S9) (H : Heap) (locs : List Loc) (ls : Array Slot) (_ : va_P (dC, dI) vwCl (cs4 cI q0 u0 ++ cs9 cI q1 u1) H) (_ : va_D A (cs4 cI q0 u0 ++ cs9 cI q1 u1)) (_ : va_S A s.heap H locs) (_ : lv_has ls 8 [(0, .ref (q0 0)), (1, .ref (q1 0)), (2, .int x2), (3, .ref (q1 13)), (4, .int x4)]) (_ : k_52 x2 x4 u0 u1), W p l e rX4_undo s m args below meth c H locs 0 0 Z (F0 m 52 ls [])) (x2 : Int32) (x4 : Int32) (x5 : Int32) (x6 : Int32) (x7 : Int32) (u0 : S4) (u1 : S9) (H : Heap) (locs : List Loc) (ls : Array Slot) (_ : va_P (dC, dI) vwCl (cs4 cI q0 u0 ++ cs9 cI q1 u1) H) (_ : va_D A (cs4 cI q0 u0 ++ cs9 cI q1 u1)) (_ : va_S A s.heap H locs) (_ : lv_has ls 8 [(0, .ref (q0 0)), (1, .ref (q1 0)), (2, .int x2), (3, .ref (q1 13)), (4, .int x4), (5, .int x5), (6, .int x6), (7, .int x7)]) (_ : wp_X4_undo_120 k_52 Q x2 x4 x5 x6 x7 u0 u1), W p l e rX4_undo s m args below meth c H locs 0 0 Z (F0 m 120 ls []) := by
    intro k_52 hk_52 x2 x4 x5 x6 x7 u0 u1 H locs ls hP hD hS hl h
    refine lv_iload hx hb dX4_undo_120 (lv_at hl 6 rfl) ?_
    refine lv_if_ne (tgt := 135) hx hb dX4_undo_122 (by decide) (fun cd => ?_) (fun cd => ?_)
    · have h := h.2 cd
      refine lv_iload hx hb dX4_undo_135 (lv_at hl 7 rfl) ?_
      refine lv_if_eq (tgt := 175) hx hb dX4_undo_137 (by decide) (fun cd => ?_) (fun cd => ?_)
      · have h := h.1 cd
        exact w_175 (fun x2 x4 u0 u1 => wp_X4_undo_191 k_52 Q x2 x4 u0 u1) (fun x2 x4 u0 u1 H locs ls hP hD hS hl h => w_191 k_52 hk_52 x2 x4 u0 u1 H locs ls hP hD hS hl h) x2 x4 x5 x6 u0 u1 _ _ _ hP hD hS (lv_sub hl [0, 1, 2, 3, 4, 5, 6] rfl) h
      · have h := h.2 cd
        refine lv_aload_n hx hb dX4_undo_140 rfl (lv_at hl 1 rfl) ?_
        refine lv_iload hx hb dX4_undo_141 (lv_at hl 5 rfl) ?_
        refine lv_iload hx hb dX4_undo_143 (lv_at hl 6 rfl) ?_
        refine cx_vv (As := [.int x5, .int x6]) (rest := []) ⟨hx, hb, hml, hown, hts⟩ hl.1 ok_sxE hE hK hP hD hS hA (cut_67 cI q0 q1 u0 u1) (c_X9_compensate (l := l) (dC := dC) (dI := dI) (cI := cI) (q0 := q1) h) (cwV 2 hts gX4_undo_X9_compensate rfl rfl rfl hdX9_compensate ⟨Nat.le_of_ble_eq_true rfl, Nat.le_of_ble_eq_true rfl⟩) rfl rfl rfl rfl (Nat.le_of_ble_eq_true rfl) dX4_undo_145 rfl (fun v_4 H locs h hP hD hS => ?_)
        have hP : va_P (dC, dI) vwCl (cs4 cI q0 u0 ++ cs9 cI q1 v_4) H :=  hP
        have hD : va_D A (cs4 cI q0 u0 ++ cs9 cI q1 v_4) :=  hD
        refine lv_aload_n hx hb dX4_undo_148 rfl (lv_at hl 1 rfl) ?_
        refine va_get (D := (dC, dI)) (ci := 9) (v := .ref (q1 1)) (C := RX9) (T := TX9) (N := 11) hx hb hts inX4_undo_9 hown hK hP 2 rfl rfl 0 (by decide) (hts _ kX4_undo_0) (fun _ h9 => h9) rfl dX4_undo_149 ?_
        refine cx_vv (As := []) (rest := []) ⟨hx, hb, hml, hown, hts⟩ hl.1 ok_sxE hE hK hP hD hS hA (cut_58 cI q0 q1 u0 v_4) (c_X2_flushAll (l := l) (dC := dC) (dI := dI) (cI := cI) (q0 := fun i => q1 (i + 1)) h) (cwV 0 hts gX4_undo_X2_flushAll rfl rfl rfl hdX2_flushAll ⟨Nat.le_of_ble_eq_true rfl, Nat.le_of_ble_eq_true rfl⟩) rfl rfl rfl rfl (Nat.le_of_ble_eq_true rfl) dX4_undo_152 rfl (fun v_5 H locs h hP hD hS => ?_)
        obtain ⟨u1_6, e_u1_6⟩ : ∃ z, z = s9_journal v_4 v_5 := ⟨_, rfl⟩
        have h := h u1_6 e_u1_6
        have hP : va_P (dC, dI) vwCl (cs4 cI q0 u0 ++ cs9 cI q1 u1_6) H := by rw [e_u1_6]; exact hP
        have hD : va_D A (cs4 cI q0 u0 ++ cs9 cI q1 u1_6) := by rw [e_u1_6]; exact hD
        refine lv_aload_n hx hb dX4_undo_155 rfl (lv_at hl 0 rfl) ?_
        refine lv_dup hx hb dX4_undo_156 rfl ?_
        refine va_get (D := (dC, dI)) (ci := 4) (v := .int (g4_written u0)) (C := RX4) (T := TX4) (N := 7) hx hb hts inX4_undo_4 hown hK hP 0 rfl rfl 1 (by decide) (hts _ kX4_undo_3) (fun _ h9 => h9) rfl dX4_undo_157 ?_
        refine lv_iconst (v := 1) hx hb dX4_undo_160 (by decide) ?_
        refine lv_iadd hx hb dX4_undo_161 ?_
        refine va_put (D := (dC, dI)) (ci := 4) (v := .int ((g4_written u0) + 1)) (ty := .int) (C := RX4) (T := TX4) (N := 7) hx hb hts inX4_undo_4 tyX4 tyX4_ok nmX4 hown hK hP hD hS 0 rfl rfl 1 (by decide) (hts _ kX4_undo_3) (fun _ h9 => h9) rfl (tyX4_ok 1 (by decide)) rfl rfl (Nat.le_of_ble_eq_true rfl) dX4_undo_162 (fun H locs hP hD hS => ?_)
        obtain ⟨u0_7, e_u0_7⟩ : ∃ z, z = s4_written u0 ((g4_written u0) + 1) := ⟨_, rfl⟩
        have h := h u0_7 e_u0_7
        have hP : va_P (dC, dI) vwCl (cs4 cI q0 u0_7 ++ cs9 cI q1 u1_6) H := by rw [e_u0_7]; exact hP
        have hD : va_D A (cs4 cI q0 u0_7 ++ cs9 cI q1 u1_6) := by rw [e_u0_7]; exact hD
        refine lv_aload_n hx hb dX4_undo_165 rfl (lv_at hl 0 rfl) ?_
        refine lv_dup hx hb dX4_undo_166 rfl ?_
        refine va_get (D := (dC, dI)) (ci := 4) (v := .int (g4_compensated u0_7)) (C := RX4) (T := TX4) (N := 7) hx hb hts inX4_undo_4 hown hK hP 0 rfl rfl 4 (by decide) (hts _ kX4_undo_2) (fun _ h9 => h9) rfl dX4_undo_167 ?_
        refine lv_iconst (v := 1) hx hb dX4_undo_170 (by decide) ?_
        refine lv_iadd hx hb dX4_undo_171 ?_
        refine va_put (D := (dC, dI)) (ci := 4) (v := .int ((g4_compensated u0_7) + 1)) (ty := .int) (C := RX4) (T := TX4) (N := 7) hx hb hts inX4_undo_4 tyX4 tyX4_ok nmX4 hown hK hP hD hS 0 rfl rfl 4 (by decide) (hts _ kX4_undo_2) (fun _ h9 => h9) rfl (tyX4_ok 4 (by decide)) rfl rfl (Nat.le_of_ble_eq_true rfl) dX4_undo_172 (fun H locs hP hD hS => ?_)
        obtain ⟨u0_8, e_u0_8⟩ : ∃ z, z = s4_compensated u0_7 ((g4_compensated u0_7) + 1) := ⟨_, rfl⟩
        have h := h u0_8 e_u0_8
        have hP : va_P (dC, dI) vwCl (cs4 cI q0 u0_8 ++ cs9 cI q1 u1_6) H := by rw [e_u0_8]; exact hP
        have hD : va_D A (cs4 cI q0 u0_8 ++ cs9 cI q1 u1_6) := by rw [e_u0_8]; exact hD
        exact w_175 (fun x2 x4 u0 u1 => wp_X4_undo_191 k_52 Q x2 x4 u0 u1) (fun x2 x4 u0 u1 H locs ls hP hD hS hl h => w_191 k_52 hk_52 x2 x4 u0 u1 H locs ls hP hD hS hl h) x2 x4 x5 x6 u0_8 u1_6 _ _ _ hP hD hS (lv_sub hl [0, 1, 2, 3, 4, 5, 6] rfl) h
    · have h := h.1 cd
      refine lv_aload_n hx hb dX4_undo_125 rfl (lv_at hl 0 rfl) ?_
      refine lv_aload_n hx hb dX4_undo_126 rfl (lv_at hl 1 rfl) ?_
      refine lv_iload hx hb dX4_undo_127 (lv_at hl 5 rfl) ?_
      refine cx_vv (As := [.ref (q1 0), .int x5]) (rest := []) ⟨hx, hb, hml, hown, hts⟩ hl.1 ok_sxE hE hK hP hD hS hA (cut_68 cI q0 q1 u0 u1) (c_X4_endOne (l := l) (dC := dC) (dI := dI) (cI := cI) (q0 := q0) (q1 := q1) h) (cwV 2 hts gX4_undo_X4_endOne rfl rfl rfl hdX4_endOne ⟨Nat.le_of_ble_eq_true rfl, Nat.le_of_ble_eq_true rfl⟩) rfl rfl rfl rfl (Nat.le_of_ble_eq_true rfl) dX4_undo_129 rfl (fun vv H locs h hP hD hS => ?_)
      obtain ⟨v_9, v_10⟩ := vv
      have hP : va_P (dC, dI) vwCl (cs4 cI q0 v_9 ++ cs9 cI q1 v_10) H :=  hP
      have hD : va_D A (cs4 cI q0 v_9 ++ cs9 cI q1 v_10) :=  hD
      refine lv_goto (tgt := 191) hx hb dX4_undo_132 (by decide) ?_
      exact w_191 k_52 hk_52 x2 x4 v_9 v_10 _ _ _ hP hD hS (lv_sub hl [0, 1, 2, 3, 4] rfl) h
  have w_103 : ∀ (k_52 : Int32 → Int32 → S4 → S9 → Prop) (hk_52 : ∀ (x2 : Int32) (x4 : Int32) (u0 : S4) (u1 : S9) (H : Heap) (locs : List Loc) (ls : Array Slot) (_ : va_P (dC, dI) vwCl (cs4 cI q0 u0 ++ cs9 cI q1 u1) H) (_ : va_D A (cs4 cI q0 u0 ++ cs9 cI q1 u1)) (_ : va_S A s.heap H locs) (_ : lv_has ls 8 [(0, .ref (q0 0)), (1, .ref (q1 0)), (2, .int x2), (3, .ref (q1 13)), (4, .int x4)]) (_ : k_52 x2 x4 u0 u1), W p l e rX4_undo s m args below meth c H locs 0 0 Z (F0 m 52 ls [])) (x2 : Int32) (x4 : Int32) (x5 : Int32) (x6 : Int32) (y0 : Int32) (u0 : S4) (u1 : S9) (H : Heap) (locs : List Loc) (ls : Array Slot) (_ : va_P (dC, dI) vwCl (cs4 cI q0 u0 ++ cs9 cI q1 u1) H) (_ : va_D A (cs4 cI q0 u0 ++ cs9 cI q1 u1)) (_ : va_S A s.heap H locs) (_ : lv_has ls 8 [(0, .ref (q0 0)), (1, .ref (q1 0)), (2, .int x2), (3, .ref (q1 13)), (4, .int x4), (5, .int x5), (6, .int x6)]) (_ : wp_X4_undo_103 k_52 Q x2 x4 x5 x6 y0 u0 u1), W p l e rX4_undo s m args below meth c H locs 0 0 Z (F0 m 103 ls [.int y0]) := by
    intro k_52 hk_52 x2 x4 x5 x6 y0 u0 u1 H locs ls hP hD hS hl h
    refine lv_istore (lv' := [(7, .int y0), (0, .ref (q0 0)), (1, .ref (q1 0)), (2, .int x2), (3, .ref (q1 13)), (4, .int x4), (5, .int x5), (6, .int x6)]) hx hb dX4_undo_103 hl (by decide) rfl (fun ls hl => ?_)
    refine lv_iload hx hb dX4_undo_105 (lv_at hl 0 rfl) ?_
    refine lv_if_eq (tgt := 120) hx hb dX4_undo_107 (by decide) (fun cd => ?_) (fun cd => ?_)
    · have h := h.1 cd
      exact w_120 k_52 hk_52 x2 x4 x5 x6 y0 u0 u1 _ _ _ hP hD hS (lv_sub hl [1, 2, 3, 4, 5, 6, 7, 0] rfl) h
    · have h := h.2 cd
      refine lv_aload_n hx hb dX4_undo_110 rfl (lv_at hl 1 rfl) ?_
      refine va_get (D := (dC, dI)) (ci := 4) (v := .int (g4_written u0)) (C := RX4) (T := TX4) (N := 7) hx hb hts inX4_undo_4 hown hK hP 0 rfl rfl 1 (by decide) (hts _ kX4_undo_3) (fun _ h9 => h9) rfl dX4_undo_111 ?_
      refine lv_iload_n hx hb dX4_undo_114 rfl (lv_at hl 3 rfl) ?_
      refine lv_icmp_ne (tgt := 120) hx hb dX4_undo_115 (by decide) (fun cd => ?_) (fun cd => ?_)
      · have h := h.2 cd
        exact w_120 k_52 hk_52 x2 x4 x5 x6 y0 u0 u1 _ _ _ hP hD hS (lv_sub hl [1, 2, 3, 4, 5, 6, 7, 0] rfl) h
      · have h := h.1 cd
        refine lv_iconst (v := 0) hx hb dX4_undo_118 (by decide) ?_
        exact hret _ _ _ _ _ (u0, u1) dX4_undo_119 (by decide) h hP hD hS
  have w_98 : ∀ (k_103 : Int32 → Int32 → Int32 → Int32 → Int32 → S4 → S9 → Prop) (hk_103 : ∀ (x2 : Int32) (x4 : Int32) (x5 : Int32) (x6 : Int32) (y0 : Int32) (u0 : S4) (u1 : S9) (H : Heap) (locs : List Loc) (ls : Array Slot) (_ : va_P (dC, dI) vwCl (cs4 cI q0 u0 ++ cs9 cI q1 u1) H) (_ : va_D A (cs4 cI q0 u0 ++ cs9 cI q1 u1)) (_ : va_S A s.heap H locs) (_ : lv_has ls 8 [(0, .ref (q0 0)), (1, .ref (q1 0)), (2, .int x2), (3, .ref (q1 13)), (4, .int x4), (5, .int x5), (6, .int x6)]) (_ : k_103 x2 x4 x5 x6 y0 u0 u1), W p l e rX4_undo s m args below meth c H locs 0 0 Z (F0 m 103 ls [.int y0])) (x2 : Int32) (x4 : Int32) (x5 : Int32) (x6 : Int32) (u0 : S4) (u1 : S9) (H : Heap) (locs : List Loc) (ls : Array Slot) (_ : va_P (dC, dI) vwCl (cs4 cI q0 u0 ++ cs9 cI q1 u1) H) (_ : va_D A (cs4 cI q0 u0 ++ cs9 cI q1 u1)) (_ : va_S A s.heap H locs) (_ : lv_has ls 8 [(0, .ref (q0 0)), (1, .ref (q1 0)), (2, .int x2), (3, .ref (q1 13)), (4, .int x4), (5, .int x5), (6, .int x6)]) (_ : wp_X4_undo_98 k_103 Q x2 x4 x5 x6 u0 u1), W p l e rX4_undo s m args below meth c H locs 0 0 Z (F0 m 98 ls []) := by
    intro k_103 hk_103 x2 x4 x5 x6 u0 u1 H locs ls hP hD hS hl h
    refine lv_iconst (v := 1) hx hb dX4_undo_98 (by decide) ?_
    refine lv_goto (tgt := 103) hx hb dX4_undo_99 (by decide) ?_
    exact hk_103 x2 x4 x5 x6 1 u0 u1 _ _ _ hP hD hS (lv_sub hl [0, 1, 2, 3, 4, 5, 6] rfl) h
  have w_52 : ∀ (n : Nat) (x2 : Int32) (x4 : Int32) (u0 : S4) (u1 : S9) (H : Heap) (locs : List Loc) (ls : Array Slot) (_ : va_P (dC, dI) vwCl (cs4 cI q0 u0 ++ cs9 cI q1 u1) H) (_ : va_D A (cs4 cI q0 u0 ++ cs9 cI q1 u1)) (_ : va_S A s.heap H locs) (_ : lv_has ls 8 [(0, .ref (q0 0)), (1, .ref (q1 0)), (2, .int x2), (3, .ref (q1 13)), (4, .int x4)]) (_ : wp_X4_undo_52 Q n x2 x4 u0 u1), W p l e rX4_undo s m args below meth c H locs 0 0 Z (F0 m 52 ls []) := by
    intro n
    induction n with
    | zero => intro x2 x4 u0 u1 H locs ls hP hD hS hl h; exact False.elim h
    | succ n ih =>
      intro x2 x4 u0 u1 H locs ls hP hD hS hl h
      refine lv_iload hx hb dX4_undo_52 (lv_at hl 4 rfl) ?_
      refine lv_ldc (v := 1000000) hx hb hown (hts _ kX4_undo_4) dX4_undo_54 ?_
      refine lv_icmp_ge (tgt := 197) hx hb dX4_undo_56 (by decide) (fun cd => ?_) (fun cd => ?_)
      · have h := h.1 cd
        refine lv_iconst (v := 1) hx hb dX4_undo_197 (by decide) ?_
        exact hret _ _ _ _ _ (u0, u1) dX4_undo_198 (by decide) h hP hD hS
      · have h := h.2 cd
        refine lv_aload_n hx hb dX4_undo_59 rfl (lv_at hl 3 rfl) ?_
        refine cx_vi (As := []) (rest := []) ⟨hx, hb, hml, hown, hts⟩ hl.1 ok_sxE hE hK hP hD hS hA (cut_56 cI q0 q1 u0 u1) (c_X5_foremost (l := l) (dC := dC) (dI := dI) (cI := cI) (q0 := fun i => q1 (i + 13)) h) (cwV 0 hts gX4_undo_X5_foremost rfl rfl rfl hdX5_foremost ⟨Nat.le_of_ble_eq_true rfl, Nat.le_of_ble_eq_true rfl⟩) rfl rfl rfl rfl (Nat.le_of_ble_eq_true rfl) dX4_undo_60 rfl (fun r_11 _ H locs h hP hD hS => ?_)
        refine lv_istore (lv' := [(5, .int r_11), (0, .ref (q0 0)), (1, .ref (q1 0)), (2, .int x2), (3, .ref (q1 13)), (4, .int x4)]) hx hb dX4_undo_63 hl (by decide) rfl (fun ls hl => ?_)
        refine lv_iload hx hb dX4_undo_65 (lv_at hl 0 rfl) ?_
        refine lv_if_ne (tgt := 72) hx hb dX4_undo_67 (by decide) (fun cd => ?_) (fun cd => ?_)
        · have h := h.2 cd
          refine lv_aload_n hx hb dX4_undo_72 rfl (lv_at hl 4 rfl) ?_
          refine va_get (D := (dC, dI)) (ci := 5) (v := .ref (q1 16)) (C := RX5) (T := TX5) (N := 3) hx hb hts inX4_undo_5 hown hK hP 15 rfl rfl 2 (by decide) (hts _ kX4_undo_1) (fun _ h9 => h9) rfl dX4_undo_73 ?_
          refine lv_iload hx hb dX4_undo_76 (lv_at hl 0 rfl) ?_
          refine va_iald hx hb hK hP 18 0 rfl rfl h.1 dX4_undo_78 ?_
          have h := h.2
          refine lv_topi (fun x6_12 e_x6_12 => ?_)
          have h := h x6_12 e_x6_12
          refine lv_istore (lv' := [(6, .int x6_12), (5, .int r_11), (0, .ref (q0 0)), (1, .ref (q1 0)), (2, .int x2), (3, .ref (q1 13)), (4, .int x4)]) hx hb dX4_undo_79 hl (by decide) rfl (fun ls hl => ?_)
          refine lv_iload hx hb dX4_undo_81 (lv_at hl 0 rfl) ?_
          refine lv_if_eq (tgt := 98) hx hb dX4_undo_83 (by decide) (fun cd => ?_) (fun cd => ?_)
          · have h := h.1 cd
            exact w_98 (fun x2 x4 x5 x6 y0 u0 u1 => wp_X4_undo_103 (fun x2 x4 u0 u1 => wp_X4_undo_52 Q n x2 x4 u0 u1) Q x2 x4 x5 x6 y0 u0 u1) (fun x2 x4 x5 x6 y0 u0 u1 H locs ls hP hD hS hl h => w_103 (fun x2 x4 u0 u1 => wp_X4_undo_52 Q n x2 x4 u0 u1) (fun x2 x4 u0 u1 H locs ls hP hD hS hl h => ih x2 x4 u0 u1 H locs ls hP hD hS hl h) x2 x4 x5 x6 y0 u0 u1 H locs ls hP hD hS hl h) x2 x4 r_11 x6_12 u0 u1 _ _ _ hP hD hS (lv_sub hl [2, 3, 4, 5, 6, 1, 0] rfl) h
          · have h := h.2 cd
            refine lv_aload_n hx hb dX4_undo_86 rfl (lv_at hl 3 rfl) ?_
            refine va_get (D := (dC, dI)) (ci := 9) (v := .ref (q1 1)) (C := RX9) (T := TX9) (N := 11) hx hb hts inX4_undo_9 hown hK hP 2 rfl rfl 0 (by decide) (hts _ kX4_undo_0) (fun _ h9 => h9) rfl dX4_undo_87 ?_
            refine lv_iload hx hb dX4_undo_90 (lv_at hl 0 rfl) ?_
            refine cx_vi (As := [.int x6_12]) (rest := []) ⟨hx, hb, hml, hown, hts⟩ hl.1 ok_sxE hE hK hP hD hS hA (cut_59 cI q0 q1 u0 u1) (c_X2_undoable (l := l) (dC := dC) (dI := dI) (cI := cI) (q0 := fun i => q1 (i + 1)) h) (cwV 1 hts gX4_undo_X2_undoable rfl rfl rfl hdX2_undoable ⟨Nat.le_of_ble_eq_true rfl, Nat.le_of_ble_eq_true rfl⟩) rfl rfl rfl rfl (Nat.le_of_ble_eq_true rfl) dX4_undo_92 rfl (fun r_13 _ H locs h hP hD hS => ?_)
            refine lv_if_eq (tgt := 102) hx hb dX4_undo_95 (by decide) (fun cd => ?_) (fun cd => ?_)
            · have h := h.1 cd
              refine lv_iconst (v := 0) hx hb dX4_undo_102 (by decide) ?_
              exact w_103 (fun x2 x4 u0 u1 => wp_X4_undo_52 Q n x2 x4 u0 u1) (fun x2 x4 u0 u1 H locs ls hP hD hS hl h => ih x2 x4 u0 u1 H locs ls hP hD hS hl h) x2 x4 r_11 x6_12 0 u0 u1 _ _ _ hP hD hS (lv_sub hl [2, 3, 4, 5, 6, 1, 0] rfl) h
            · have h := h.2 cd
              exact w_98 (fun x2 x4 x5 x6 y0 u0 u1 => wp_X4_undo_103 (fun x2 x4 u0 u1 => wp_X4_undo_52 Q n x2 x4 u0 u1) Q x2 x4 x5 x6 y0 u0 u1) (fun x2 x4 x5 x6 y0 u0 u1 H locs ls hP hD hS hl h => w_103 (fun x2 x4 u0 u1 => wp_X4_undo_52 Q n x2 x4 u0 u1) (fun x2 x4 u0 u1 H locs ls hP hD hS hl h => ih x2 x4 u0 u1 H locs ls hP hD hS hl h) x2 x4 x5 x6 y0 u0 u1 H locs ls hP hD hS hl h) x2 x4 r_11 x6_12 u0 u1 _ _ _ hP hD hS (lv_sub hl [2, 3, 4, 5, 6, 1, 0] rfl) h
        · have h := h.1 cd
          refine lv_iconst (v := 1) hx hb dX4_undo_70 (by decide) ?_
          exact hret _ _ _ _ _ (u0, u1) dX4_undo_71 (by decide) h hP hD hS
  have w_43 : ∀ (k_8 : Int32 → Int32 → S4 → S9 → Prop) (hk_8 : ∀ (x2 : Int32) (x4 : Int32) (u0 : S4) (u1 : S9) (H : Heap) (locs : List Loc) (ls : Array Slot) (_ : va_P (dC, dI) vwCl (cs4 cI q0 u0 ++ cs9 cI q1 u1) H) (_ : va_D A (cs4 cI q0 u0 ++ cs9 cI q1 u1)) (_ : va_S A s.heap H locs) (_ : lv_has ls 8 [(0, .ref (q0 0)), (1, .ref (q1 0)), (2, .int x2), (3, .ref (q1 13)), (4, .int x4)]) (_ : k_8 x2 x4 u0 u1), W p l e rX4_undo s m args below meth c H locs 0 0 Z (F0 m 8 ls [])) (x2 : Int32) (x4 : Int32) (u0 : S4) (u1 : S9) (H : Heap) (locs : List Loc) (ls : Array Slot) (_ : va_P (dC, dI) vwCl (cs4 cI q0 u0 ++ cs9 cI q1 u1) H) (_ : va_D A (cs4 cI q0 u0 ++ cs9 cI q1 u1)) (_ : va_S A s.heap H locs) (_ : lv_has ls 8 [(0, .ref (q0 0)), (1, .ref (q1 0)), (2, .int x2), (3, .ref (q1 13)), (4, .int x4)]) (_ : wp_X4_undo_43 k_8 Q x2 x4 u0 u1), W p l e rX4_undo s m args below meth c H locs 0 0 Z (F0 m 43 ls []) := by
    intro k_8 hk_8 x2 x4 u0 u1 H locs ls hP hD hS hl h
    obtain ⟨x4_14, e_x4_14⟩ : ∃ z : Int32, z = x4 + 1 := ⟨_, rfl⟩
    have h := h x4_14 e_x4_14
    refine lv_iinc (v := x4_14) (lv' := [(4, .int x4_14), (0, .ref (q0 0)), (1, .ref (q1 0)), (2, .int x2), (3, .ref (q1 13))]) hx hb dX4_undo_43 hl (k := 4) rfl (by rw [e_x4_14]; rfl) (by decide) rfl (fun ls hl => ?_)
    refine lv_goto (tgt := 8) hx hb dX4_undo_46 (by decide) ?_
    exact hk_8 x2 x4_14 u0 u1 _ _ _ hP hD hS (lv_sub hl [1, 2, 3, 4, 0] rfl) h
  have w_8 : ∀ (n : Nat) (x2 : Int32) (x4 : Int32) (u0 : S4) (u1 : S9) (H : Heap) (locs : List Loc) (ls : Array Slot) (_ : va_P (dC, dI) vwCl (cs4 cI q0 u0 ++ cs9 cI q1 u1) H) (_ : va_D A (cs4 cI q0 u0 ++ cs9 cI q1 u1)) (_ : va_S A s.heap H locs) (_ : lv_has ls 8 [(0, .ref (q0 0)), (1, .ref (q1 0)), (2, .int x2), (3, .ref (q1 13)), (4, .int x4)]) (_ : wp_X4_undo_8 Q n x2 x4 u0 u1), W p l e rX4_undo s m args below meth c H locs 0 0 Z (F0 m 8 ls []) := by
    intro n
    induction n with
    | zero => intro x2 x4 u0 u1 H locs ls hP hD hS hl h; exact False.elim h
    | succ n ih =>
      intro x2 x4 u0 u1 H locs ls hP hD hS hl h
      refine lv_iload hx hb dX4_undo_8 (lv_at hl 4 rfl) ?_
      refine lv_bipush (v := 9) hx hb dX4_undo_10 (by decide) ?_
      refine lv_icmp_gt (tgt := 49) hx hb dX4_undo_12 (by decide) (fun cd => ?_) (fun cd => ?_)
      · have h := h.1 cd
        refine lv_iconst (v := 0) hx hb dX4_undo_49 (by decide) ?_
        refine lv_istore (lv' := [(4, .int 0), (0, .ref (q0 0)), (1, .ref (q1 0)), (2, .int x2), (3, .ref (q1 13))]) hx hb dX4_undo_50 hl (by decide) rfl (fun ls hl => ?_)
        obtain ⟨n0, h⟩ := h
        exact w_52 n0 x2 0 u0 u1 _ _ _ hP hD hS (lv_sub hl [1, 2, 3, 4, 0] rfl) h
      · have h := h.2 cd
        refine lv_aload_n hx hb dX4_undo_15 rfl (lv_at hl 3 rfl) ?_
        refine va_get (D := (dC, dI)) (ci := 5) (v := .ref (q1 14)) (C := RX5) (T := TX5) (N := 3) hx hb hts inX4_undo_5 hown hK hP 15 rfl rfl 0 (by decide) (hts _ kX4_undo_5) (fun _ h9 => h9) rfl dX4_undo_16 ?_
        refine lv_iload hx hb dX4_undo_19 (lv_at hl 4 rfl) ?_
        refine va_iald hx hb hK hP 16 0 rfl rfl h.1 dX4_undo_21 ?_
        have h := h.2
        refine lv_iconst (v := 3) hx hb dX4_undo_22 (by decide) ?_
        refine lv_icmp_ne (tgt := 43) hx hb dX4_undo_23 (by decide) (fun cd => ?_) (fun cd => ?_)
        · have h := h.2 cd
          exact w_43 (fun x2 x4 u0 u1 => wp_X4_undo_8 Q n x2 x4 u0 u1) (fun x2 x4 u0 u1 H locs ls hP hD hS hl h => ih x2 x4 u0 u1 H locs ls hP hD hS hl h) x2 x4 u0 u1 _ _ _ hP hD hS (lv_sub hl [0, 1, 2, 3, 4] rfl) h
        · have h := h.1 cd
          refine lv_aload_n hx hb dX4_undo_26 rfl (lv_at hl 0 rfl) ?_
          refine va_get (D := (dC, dI)) (ci := 4) (v := .int (g4_written u0)) (C := RX4) (T := TX4) (N := 7) hx hb hts inX4_undo_4 hown hK hP 0 rfl rfl 1 (by decide) (hts _ kX4_undo_3) (fun _ h9 => h9) rfl dX4_undo_27 ?_
          refine lv_iload_n hx hb dX4_undo_30 rfl (lv_at hl 2 rfl) ?_
          refine lv_icmp_ne (tgt := 36) hx hb dX4_undo_31 (by decide) (fun cd => ?_) (fun cd => ?_)
          · have h := h.2 cd
            refine lv_aload_n hx hb dX4_undo_36 rfl (lv_at hl 0 rfl) ?_
            refine lv_aload_n hx hb dX4_undo_37 rfl (lv_at hl 1 rfl) ?_
            refine lv_iload hx hb dX4_undo_38 (lv_at hl 4 rfl) ?_
            refine cx_vv (As := [.ref (q1 0), .int x4]) (rest := []) ⟨hx, hb, hml, hown, hts⟩ hl.1 ok_sxE hE hK hP hD hS hA (cut_68 cI q0 q1 u0 u1) (c_X4_endOne (l := l) (dC := dC) (dI := dI) (cI := cI) (q0 := q0) (q1 := q1) h) (cwV 2 hts gX4_undo_X4_endOne rfl rfl rfl hdX4_endOne ⟨Nat.le_of_ble_eq_true rfl, Nat.le_of_ble_eq_true rfl⟩) rfl rfl rfl rfl (Nat.le_of_ble_eq_true rfl) dX4_undo_40 rfl (fun vv H locs h hP hD hS => ?_)
            obtain ⟨v_16, v_17⟩ := vv
            have hP : va_P (dC, dI) vwCl (cs4 cI q0 v_16 ++ cs9 cI q1 v_17) H :=  hP
            have hD : va_D A (cs4 cI q0 v_16 ++ cs9 cI q1 v_17) :=  hD
            exact w_43 (fun x2 x4 u0 u1 => wp_X4_undo_8 Q n x2 x4 u0 u1) (fun x2 x4 u0 u1 H locs ls hP hD hS hl h => ih x2 x4 u0 u1 H locs ls hP hD hS hl h) x2 x4 v_16 v_17 _ _ _ hP hD hS (lv_sub hl [0, 1, 2, 3, 4] rfl) h
          · have h := h.1 cd
            refine lv_iconst (v := 0) hx hb dX4_undo_34 (by decide) ?_
            exact hret _ _ _ _ _ (u0, u1) dX4_undo_35 (by decide) h hP hD hS
  have hS : va_S A s.heap s.heap [] := va_S.rf
  refine lv_aload_n hx hb dX4_undo_0 rfl (lv_at hl 1 rfl) ?_
  refine va_get (D := (dC, dI)) (ci := 9) (v := .ref (q1 13)) (C := RX9) (T := TX9) (N := 11) hx hb hts inX4_undo_9 hown hK hP 2 rfl rfl 2 (by decide) (hts _ kX4_undo_6) (fun _ h9 => h9) rfl dX4_undo_1 ?_
  refine lv_astore_n (lv' := [(3, .ref (q1 13)), (0, .ref (q0 0)), (1, .ref (q1 0)), (2, .int x2)]) hx hb dX4_undo_4 rfl hl (by decide) rfl (fun ls hl => ?_)
  refine lv_iconst (v := 1) hx hb dX4_undo_5 (by decide) ?_
  refine lv_istore (lv' := [(4, .int 1), (3, .ref (q1 13)), (0, .ref (q0 0)), (1, .ref (q1 0)), (2, .int x2)]) hx hb dX4_undo_6 hl (by decide) rfl (fun ls hl => ?_)
  obtain ⟨n0, h⟩ := h
  exact w_8 n0 x2 1 u0 u1 _ _ _ hP hD hS (lv_sub hl [2, 3, 4, 1, 0] rfl) h

set_option maxRecDepth 100000 in
theorem cut_69 (cI : ClassId) (q0 : Nat → Nat) (q1 : Nat → Nat) (u0 : S4) (u1 : S9) : Cut (cs4 cI q0 u0 ++ cs9 cI q1 u1) (cs4 cI q0 u0 ++ cs9 cI q1 u1) (fun v : S9 => cs4 cI q0 u0 ++ cs9 cI q1 v) (fun v : S9 => (cs4 cI q0 u0 ++ cs9 cI q1 v)) := ⟨[0, 1, 2, 3, 4, 5, 6, 7, 8, 9, 10, 11, 12, 13, 14, 15, 16, 17, 18, 19, 20, 21, 22, 23, 24, 25, 26, 27, 28, 29, 30, 31], [], rfl, rfl, rfl, by decide, by decide, fun v => ⟨[0, 1, 2, 3, 4, 5, 6, 7, 8, 9, 10, 11, 12, 13, 14, 15, 16, 17, 18, 19, 20, 21, 22, 23, 24, 25, 26, 27, 28, 29, 30, 31], rfl, rfl⟩⟩

set_option maxRecDepth 100000 in
theorem cut_70 (cI : ClassId) (q0 : Nat → Nat) (q1 : Nat → Nat) (u0 : S4) (u1 : S9) : Cut (cs4 cI q0 u0 ++ cs9 cI q1 u1) (cs3 cI (fun i => q1 (i + 3)) (g9_pages u1)) (fun _ : Unit => cs3 cI (fun i => q1 (i + 3)) (g9_pages u1)) (fun _ : Unit => (cs4 cI q0 u0 ++ cs9 cI q1 u1)) := ⟨[5, 6, 7, 8, 9, 10, 11, 12, 13, 14], [0, 1, 2, 3, 4, 15, 16, 17, 18, 19, 20, 21, 22, 23, 24, 25, 26, 27, 28, 29, 30, 31], rfl, rfl, rfl, by decide, by decide, fun _ => ⟨[0, 1, 2, 3, 4, 22, 23, 24, 25, 26, 27, 28, 29, 30, 31, 5, 6, 7, 8, 9, 10, 11, 12, 13, 14, 15, 16, 17, 18, 19, 20, 21], rfl, rfl⟩⟩

abbrev rX4_attempt : Room := { frames := 6, cells := 0, slots := 0, locals := 141 }
theorem hdX4_attempt : yX4_attempt.cls = RX4 ∧ yX4_attempt.cls ≠ "java/lang/invoke/MethodHandle" ∧ yX4_attempt.cls ≠ "java/lang/invoke/VarHandle" ∧ (parseMethodDescriptor yX4_attempt.desc).map (fun d => d.parameters.length) = some 2 := by decide +kernel
theorem inX4_attempt_4 : ∀ w ∈ wsX40, w ∈ wsX4_attempt := by decide +kernel
theorem inX4_attempt_9 : ∀ w ∈ wsX90, w ∈ wsX4_attempt := by decide +kernel
theorem kX4_attempt_0 : Cond.fieldLink RX4 15 "AheadStore$Recovery" "written" "I" ∈ wsX4_attempt := by decide +kernel
theorem kX4_attempt_1 : Cond.fieldLink RX4 69 "AheadStore$World" "up" "Z" ∈ wsX4_attempt := by decide +kernel
theorem kX4_attempt_2 : Cond.fieldLink RX4 32 "AheadStore$Recovery" "redoneInAll" "I" ∈ wsX4_attempt := by decide +kernel
theorem kX4_attempt_3 : Cond.fieldLink RX4 35 "AheadStore$World" "redone" "I" ∈ wsX4_attempt := by decide +kernel
theorem kX4_attempt_4 : Cond.fieldLink RX4 50 "AheadStore$World" "journal" "LAheadStore$Journal;" ∈ wsX4_attempt := by decide +kernel
theorem kX4_attempt_5 : Cond.fieldLink RX4 40 "AheadStore$World" "pages" "LAheadStore$Pages;" ∈ wsX4_attempt := by decide +kernel
set_option maxHeartbeats 4000000 in
set_option maxRecDepth 100000 in
theorem c_X4_attempt {l : Launch} {dC : Nat → ClassId} {dI : Nat → Nat → Nat} {cI : ClassId} {q0 : Nat → Nat} {q1 : Nat → Nat} {sz : Nat} {u0 : S4} {u1 : S9} {x2 : Int32} {Q : Int32 → S4 → S9 → Prop} (h : wp_X4_attempt u0 u1 x2 Q) : ctI sxE l yX4_attempt wsX4_attempt rX4_attempt (dC, dI) vwCl [(cI, .int)] [.ref (q0 0), .ref (q1 0), .int x2] (cs4 cI q0 u0 ++ cs9 cI q1 u1) sz (fun (r : Int32) (v : S4 × S9) => Q r v.1 v.2) (fun (v : S4 × S9) => (cs4 cI q0 v.1 ++ cs9 cI q1 v.2)) := by
  refine mx_i (cc := cX4_attempt) (maxL := 4) (ty := .int) (by decide) rfl (Nat.le_of_ble_eq_true rfl) ?_
  intro p e s m below meth c Z A ls args hx hb hml hown hts hA hP hK hD hE hl hret
  have hown : s.vm.findClass RX4 = some m.cls := hown
  have hl : lv_has ls 4 [(0, .ref (q0 0)), (1, .ref (q1 0)), (2, .int x2)] := hl
  have w_41 : ∀ (k_12 : Int32 → Int32 → S4 → S9 → Prop) (hk_12 : ∀ (x2 : Int32) (x3 : Int32) (u0 : S4) (u1 : S9) (H : Heap) (locs : List Loc) (ls : Array Slot) (_ : va_P (dC, dI) vwCl (cs4 cI q0 u0 ++ cs9 cI q1 u1) H) (_ : va_D A (cs4 cI q0 u0 ++ cs9 cI q1 u1)) (_ : va_S A s.heap H locs) (_ : lv_has ls 4 [(0, .ref (q0 0)), (1, .ref (q1 0)), (2, .int x2), (3, .int x3)]) (_ : k_12 x2 x3 u0 u1), W p l e rX4_attempt s m args below meth c H locs 0 0 Z (F0 m 12 ls [])) (x2 : Int32) (x3 : Int32) (u0 : S4) (u1 : S9) (H : Heap) (locs : List Loc) (ls : Array Slot) (_ : va_P (dC, dI) vwCl (cs4 cI q0 u0 ++ cs9 cI q1 u1) H) (_ : va_D A (cs4 cI q0 u0 ++ cs9 cI q1 u1)) (_ : va_S A s.heap H locs) (_ : lv_has ls 4 [(0, .ref (q0 0)), (1, .ref (q1 0)), (2, .int x2), (3, .int x3)]) (_ : wp_X4_attempt_41 k_12 Q x2 x3 u0 u1), W p l e rX4_attempt s m args below meth c H locs 0 0 Z (F0 m 41 ls []) := by
    intro k_12 hk_12 x2 x3 u0 u1 H locs ls hP hD hS hl h
    obtain ⟨x3_1, e_x3_1⟩ : ∃ z : Int32, z = x3 + 1 := ⟨_, rfl⟩
    have h := h x3_1 e_x3_1
    refine lv_iinc (v := x3_1) (lv' := [(3, .int x3_1), (0, .ref (q0 0)), (1, .ref (q1 0)), (2, .int x2)]) hx hb dX4_attempt_41 hl (k := 3) rfl (by rw [e_x3_1]; rfl) (by decide) rfl (fun ls hl => ?_)
    refine lv_goto (tgt := 12) hx hb dX4_attempt_44 (by decide) ?_
    exact hk_12 x2 x3_1 u0 u1 _ _ _ hP hD hS (lv_sub hl [1, 2, 3, 0] rfl) h
  have w_12 : ∀ (n : Nat) (x2 : Int32) (x3 : Int32) (u0 : S4) (u1 : S9) (H : Heap) (locs : List Loc) (ls : Array Slot) (_ : va_P (dC, dI) vwCl (cs4 cI q0 u0 ++ cs9 cI q1 u1) H) (_ : va_D A (cs4 cI q0 u0 ++ cs9 cI q1 u1)) (_ : va_S A s.heap H locs) (_ : lv_has ls 4 [(0, .ref (q0 0)), (1, .ref (q1 0)), (2, .int x2), (3, .int x3)]) (_ : wp_X4_attempt_12 Q n x2 x3 u0 u1), W p l e rX4_attempt s m args below meth c H locs 0 0 Z (F0 m 12 ls []) := by
    intro n
    induction n with
    | zero => intro x2 x3 u0 u1 H locs ls hP hD hS hl h; exact False.elim h
    | succ n ih =>
      intro x2 x3 u0 u1 H locs ls hP hD hS hl h
      refine lv_iload_n hx hb dX4_attempt_12 rfl (lv_at hl 3 rfl) ?_
      refine lv_bipush (v := 16) hx hb dX4_attempt_13 (by decide) ?_
      refine lv_icmp_ge (tgt := 47) hx hb dX4_attempt_15 (by decide) (fun cd => ?_) (fun cd => ?_)
      · have h := h.1 cd
        refine lv_aload_n hx hb dX4_attempt_47 rfl (lv_at hl 0 rfl) ?_
        refine lv_aload_n hx hb dX4_attempt_48 rfl (lv_at hl 1 rfl) ?_
        refine cx_vv (As := [.ref (q1 0)]) (rest := []) ⟨hx, hb, hml, hown, hts⟩ hl.1 ok_sxE hE hK hP hD hS hA (cut_68 cI q0 q1 u0 u1) (c_X4_analyse (l := l) (dC := dC) (dI := dI) (cI := cI) (q0 := q0) (q1 := q1) h) (cwV 1 hts gX4_attempt_X4_analyse rfl rfl rfl hdX4_analyse ⟨Nat.le_of_ble_eq_true rfl, Nat.le_of_ble_eq_true rfl⟩) rfl rfl rfl rfl (Nat.le_of_ble_eq_true rfl) dX4_attempt_49 rfl (fun vv H locs h hP hD hS => ?_)
        obtain ⟨v_2, v_3⟩ := vv
        have hP : va_P (dC, dI) vwCl (cs4 cI q0 v_2 ++ cs9 cI q1 v_3) H :=  hP
        have hD : va_D A (cs4 cI q0 v_2 ++ cs9 cI q1 v_3) :=  hD
        refine lv_aload_n hx hb dX4_attempt_52 rfl (lv_at hl 0 rfl) ?_
        refine lv_aload_n hx hb dX4_attempt_53 rfl (lv_at hl 1 rfl) ?_
        refine cx_vv (As := [.ref (q1 0)]) (rest := []) ⟨hx, hb, hml, hown, hts⟩ hl.1 ok_sxE hE hK hP hD hS hA (cut_69 cI q0 q1 v_2 v_3) (c_X4_redo (l := l) (dC := dC) (dI := dI) (cI := cI) (q0 := q0) (q1 := q1) h) (cwV 1 hts gX4_attempt_X4_redo rfl rfl rfl hdX4_redo ⟨Nat.le_of_ble_eq_true rfl, Nat.le_of_ble_eq_true rfl⟩) rfl rfl rfl rfl (Nat.le_of_ble_eq_true rfl) dX4_attempt_54 rfl (fun v_4 H locs h hP hD hS => ?_)
        have hP : va_P (dC, dI) vwCl (cs4 cI q0 v_2 ++ cs9 cI q1 v_4) H :=  hP
        have hD : va_D A (cs4 cI q0 v_2 ++ cs9 cI q1 v_4) :=  hD
        refine lv_aload_n hx hb dX4_attempt_57 rfl (lv_at hl 0 rfl) ?_
        refine lv_dup hx hb dX4_attempt_58 rfl ?_
        refine va_get (D := (dC, dI)) (ci := 4) (v := .int (g4_redoneInAll v_2)) (C := RX4) (T := TX4) (N := 7) hx hb hts inX4_attempt_4 hown hK hP 0 rfl rfl 6 (by decide) (hts _ kX4_attempt_2) (fun _ h9 => h9) rfl dX4_attempt_59 ?_
        refine lv_aload_n hx hb dX4_attempt_62 rfl (lv_at hl 1 rfl) ?_
        refine va_get (D := (dC, dI)) (ci := 9) (v := .int (g9_redone v_4)) (C := RX9) (T := TX9) (N := 11) hx hb hts inX4_attempt_9 hown hK hP 2 rfl rfl 9 (by decide) (hts _ kX4_attempt_3) (fun _ h9 => h9) rfl dX4_attempt_63 ?_
        refine lv_iadd hx hb dX4_attempt_66 ?_
        refine va_put (D := (dC, dI)) (ci := 4) (v := .int ((g4_redoneInAll v_2) + (g9_redone v_4))) (ty := .int) (C := RX4) (T := TX4) (N := 7) hx hb hts inX4_attempt_4 tyX4 tyX4_ok nmX4 hown hK hP hD hS 0 rfl rfl 6 (by decide) (hts _ kX4_attempt_2) (fun _ h9 => h9) rfl (tyX4_ok 6 (by decide)) rfl rfl (Nat.le_of_ble_eq_true rfl) dX4_attempt_67 (fun H locs hP hD hS => ?_)
        obtain ⟨u0_5, e_u0_5⟩ : ∃ z, z = s4_redoneInAll v_2 ((g4_redoneInAll v_2) + (g9_redone v_4)) := ⟨_, rfl⟩
        have h := h u0_5 e_u0_5
        have hP : va_P (dC, dI) vwCl (cs4 cI q0 u0_5 ++ cs9 cI q1 v_4) H := by rw [e_u0_5]; exact hP
        have hD : va_D A (cs4 cI q0 u0_5 ++ cs9 cI q1 v_4) := by rw [e_u0_5]; exact hD
        refine lv_aload_n hx hb dX4_attempt_70 rfl (lv_at hl 0 rfl) ?_
        refine lv_aload_n hx hb dX4_attempt_71 rfl (lv_at hl 1 rfl) ?_
        refine lv_iload_n hx hb dX4_attempt_72 rfl (lv_at hl 2 rfl) ?_
        refine cx_vi (As := [.ref (q1 0), .int x2]) (rest := []) ⟨hx, hb, hml, hown, hts⟩ hl.1 ok_sxE hE hK hP hD hS hA (cut_68 cI q0 q1 u0_5 v_4) (c_X4_undo (l := l) (dC := dC) (dI := dI) (cI := cI) (q0 := q0) (q1 := q1) h) (cwV 2 hts gX4_attempt_X4_undo rfl rfl rfl hdX4_undo ⟨Nat.le_of_ble_eq_true rfl, Nat.le_of_ble_eq_true rfl⟩) rfl rfl rfl rfl (Nat.le_of_ble_eq_true rfl) dX4_attempt_73 rfl (fun r_6 vv H locs h hP hD hS => ?_)
        obtain ⟨v_7, v_8⟩ := vv
        have hP : va_P (dC, dI) vwCl (cs4 cI q0 v_7 ++ cs9 cI q1 v_8) H :=  hP
        have hD : va_D A (cs4 cI q0 v_7 ++ cs9 cI q1 v_8) :=  hD
        refine lv_if_eq (tgt := 87) hx hb dX4_attempt_76 (by decide) (fun cd => ?_) (fun cd => ?_)
        · have h := h.1 cd
          refine lv_aload_n hx hb dX4_attempt_87 rfl (lv_at hl 1 rfl) ?_
          refine lv_iconst (v := 0) hx hb dX4_attempt_88 (by decide) ?_
          refine cx_vv (As := [.int 0]) (rest := []) ⟨hx, hb, hml, hown, hts⟩ hl.1 ok_sxE hE hK hP hD hS hA (cut_67 cI q0 q1 v_7 v_8) (c_X9_fall (l := l) (dC := dC) (dI := dI) (cI := cI) (q0 := q1) h) (cwV 1 hts gX4_attempt_X9_fall rfl rfl rfl hdX9_fall ⟨Nat.le_of_ble_eq_true rfl, Nat.le_of_ble_eq_true rfl⟩) rfl rfl rfl rfl (Nat.le_of_ble_eq_true rfl) dX4_attempt_89 rfl (fun v_9 H locs h hP hD hS => ?_)
          have hP : va_P (dC, dI) vwCl (cs4 cI q0 v_7 ++ cs9 cI q1 v_9) H :=  hP
          have hD : va_D A (cs4 cI q0 v_7 ++ cs9 cI q1 v_9) :=  hD
          refine lv_aload_n hx hb dX4_attempt_92 rfl (lv_at hl 0 rfl) ?_
          refine va_get (D := (dC, dI)) (ci := 4) (v := .int (g4_written v_7)) (C := RX4) (T := TX4) (N := 7) hx hb hts inX4_attempt_4 hown hK hP 0 rfl rfl 1 (by decide) (hts _ kX4_attempt_0) (fun _ h9 => h9) rfl dX4_attempt_93 ?_
          exact hret _ _ _ _ _ (v_7, v_9) dX4_attempt_96 (vp_nar_int _) h hP hD hS
        · have h := h.2 cd
          refine lv_aload_n hx hb dX4_attempt_79 rfl (lv_at hl 1 rfl) ?_
          refine lv_iconst (v := 1) hx hb dX4_attempt_80 (by decide) ?_
          refine va_put (D := (dC, dI)) (ci := 9) (v := .int 1) (ty := .boolean) (C := RX9) (T := TX9) (N := 11) hx hb hts inX4_attempt_9 tyX9 tyX9_ok nmX9 hown hK hP hD hS 2 rfl rfl 6 (by decide) (hts _ kX4_attempt_1) (fun _ h9 => h9) rfl (tyX9_ok 6 (by decide)) (by decide) (by decide) (Nat.le_of_ble_eq_true rfl) dX4_attempt_81 (fun H locs hP hD hS => ?_)
          obtain ⟨u1_10, e_u1_10⟩ : ∃ z, z = s9_up v_8 1 := ⟨_, rfl⟩
          have h := h u1_10 e_u1_10
          have hP : va_P (dC, dI) vwCl (cs4 cI q0 v_7 ++ cs9 cI q1 u1_10) H := by rw [e_u1_10]; exact hP
          have hD : va_D A (cs4 cI q0 v_7 ++ cs9 cI q1 u1_10) := by rw [e_u1_10]; exact hD
          refine lv_goto (tgt := 92) hx hb dX4_attempt_84 (by decide) ?_
          refine lv_aload_n hx hb dX4_attempt_92 rfl (lv_at hl 0 rfl) ?_
          refine va_get (D := (dC, dI)) (ci := 4) (v := .int (g4_written v_7)) (C := RX4) (T := TX4) (N := 7) hx hb hts inX4_attempt_4 hown hK hP 0 rfl rfl 1 (by decide) (hts _ kX4_attempt_0) (fun _ h9 => h9) rfl dX4_attempt_93 ?_
          exact hret _ _ _ _ _ (v_7, u1_10) dX4_attempt_96 (vp_nar_int _) h hP hD hS
      · have h := h.2 cd
        refine lv_aload_n hx hb dX4_attempt_18 rfl (lv_at hl 1 rfl) ?_
        refine va_get (D := (dC, dI)) (ci := 9) (v := .ref (q1 3)) (C := RX9) (T := TX9) (N := 11) hx hb hts inX4_attempt_9 hown hK hP 2 rfl rfl 1 (by decide) (hts _ kX4_attempt_5) (fun _ h9 => h9) rfl dX4_attempt_19 ?_
        refine lv_iload_n hx hb dX4_attempt_22 rfl (lv_at hl 3 rfl) ?_
        refine cx_vi (As := [.int x3]) (rest := []) ⟨hx, hb, hml, hown, hts⟩ hl.1 ok_sxE hE hK hP hD hS hA (cut_70 cI q0 q1 u0 u1) (c_X3_isLost (l := l) (dC := dC) (dI := dI) (cI := cI) (q0 := fun i => q1 (i + 3)) h) (cwV 1 hts gX4_attempt_X3_isLost rfl rfl rfl hdX3_isLost ⟨Nat.le_of_ble_eq_true rfl, Nat.le_of_ble_eq_true rfl⟩) rfl rfl rfl rfl (Nat.le_of_ble_eq_true rfl) dX4_attempt_23 rfl (fun r_11 _ H locs h hP hD hS => ?_)
        refine lv_if_eq (tgt := 41) hx hb dX4_attempt_26 (by decide) (fun cd => ?_) (fun cd => ?_)
        · have h := h.1 cd
          exact w_41 (fun x2 x3 u0 u1 => wp_X4_attempt_12 Q n x2 x3 u0 u1) (fun x2 x3 u0 u1 H locs ls hP hD hS hl h => ih x2 x3 u0 u1 H locs ls hP hD hS hl h) x2 x3 u0 u1 _ _ _ hP hD hS (lv_sub hl [0, 1, 2, 3] rfl) h
        · have h := h.2 cd
          refine lv_aload_n hx hb dX4_attempt_29 rfl (lv_at hl 1 rfl) ?_
          refine va_get (D := (dC, dI)) (ci := 9) (v := .ref (q1 3)) (C := RX9) (T := TX9) (N := 11) hx hb hts inX4_attempt_9 hown hK hP 2 rfl rfl 1 (by decide) (hts _ kX4_attempt_5) (fun _ h9 => h9) rfl dX4_attempt_30 ?_
          refine lv_iload_n hx hb dX4_attempt_33 rfl (lv_at hl 3 rfl) ?_
          refine lv_aload_n hx hb dX4_attempt_34 rfl (lv_at hl 1 rfl) ?_
          refine va_get (D := (dC, dI)) (ci := 9) (v := .ref (q1 1)) (C := RX9) (T := TX9) (N := 11) hx hb hts inX4_attempt_9 hown hK hP 2 rfl rfl 0 (by decide) (hts _ kX4_attempt_4) (fun _ h9 => h9) rfl dX4_attempt_35 ?_
          refine cx_vv (As := [.int x3, .ref (q1 1)]) (rest := []) ⟨hx, hb, hml, hown, hts⟩ hl.1 ok_sxE hE hK hP hD hS hA (cut_66 cI q0 q1 u0 u1) (c_X3_restore (l := l) (dC := dC) (dI := dI) (cI := cI) (q0 := fun i => q1 (i + 3)) (q1 := fun i => q1 (i + 1)) h) (cwV 2 hts gX4_attempt_X3_restore rfl rfl rfl hdX3_restore ⟨Nat.le_of_ble_eq_true rfl, Nat.le_of_ble_eq_true rfl⟩) rfl rfl rfl rfl (Nat.le_of_ble_eq_true rfl) dX4_attempt_38 rfl (fun vv H locs h hP hD hS => ?_)
          obtain ⟨v_12, v_13⟩ := vv
          obtain ⟨u1_14, e_u1_14⟩ : ∃ z, z = s9_journal (s9_pages u1 v_12) v_13 := ⟨_, rfl⟩
          have h := h u1_14 e_u1_14
          have hP : va_P (dC, dI) vwCl (cs4 cI q0 u0 ++ cs9 cI q1 u1_14) H := by rw [e_u1_14]; exact hP
          have hD : va_D A (cs4 cI q0 u0 ++ cs9 cI q1 u1_14) := by rw [e_u1_14]; exact hD
          exact w_41 (fun x2 x3 u0 u1 => wp_X4_attempt_12 Q n x2 x3 u0 u1) (fun x2 x3 u0 u1 H locs ls hP hD hS hl h => ih x2 x3 u0 u1 H locs ls hP hD hS hl h) x2 x3 u0 u1_14 _ _ _ hP hD hS (lv_sub hl [0, 1, 2, 3] rfl) h
  have hS : va_S A s.heap s.heap [] := va_S.rf
  refine lv_aload_n hx hb dX4_attempt_0 rfl (lv_at hl 0 rfl) ?_
  refine lv_iconst (v := 0) hx hb dX4_attempt_1 (by decide) ?_
  refine va_put (D := (dC, dI)) (ci := 4) (v := .int 0) (ty := .int) (C := RX4) (T := TX4) (N := 7) hx hb hts inX4_attempt_4 tyX4 tyX4_ok nmX4 hown hK hP hD hS 0 rfl rfl 1 (by decide) (hts _ kX4_attempt_0) (fun _ h9 => h9) rfl (tyX4_ok 1 (by decide)) rfl rfl (Nat.le_of_ble_eq_true rfl) dX4_attempt_2 (fun H locs hP hD hS => ?_)
  obtain ⟨u0_15, e_u0_15⟩ : ∃ z, z = s4_written u0 0 := ⟨_, rfl⟩
  have h := h u0_15 e_u0_15
  have hP : va_P (dC, dI) vwCl (cs4 cI q0 u0_15 ++ cs9 cI q1 u1) H := by rw [e_u0_15]; exact hP
  have hD : va_D A (cs4 cI q0 u0_15 ++ cs9 cI q1 u1) := by rw [e_u0_15]; exact hD
  refine lv_aload_n hx hb dX4_attempt_5 rfl (lv_at hl 1 rfl) ?_
  refine lv_iconst (v := 0) hx hb dX4_attempt_6 (by decide) ?_
  refine va_put (D := (dC, dI)) (ci := 9) (v := .int 0) (ty := .int) (C := RX9) (T := TX9) (N := 11) hx hb hts inX4_attempt_9 tyX9 tyX9_ok nmX9 hown hK hP hD hS 2 rfl rfl 9 (by decide) (hts _ kX4_attempt_3) (fun _ h9 => h9) rfl (tyX9_ok 9 (by decide)) rfl rfl (Nat.le_of_ble_eq_true rfl) dX4_attempt_7 (fun H locs hP hD hS => ?_)
  obtain ⟨u1_16, e_u1_16⟩ : ∃ z, z = s9_redone u1 0 := ⟨_, rfl⟩
  have h := h u1_16 e_u1_16
  have hP : va_P (dC, dI) vwCl (cs4 cI q0 u0_15 ++ cs9 cI q1 u1_16) H := by rw [e_u1_16]; exact hP
  have hD : va_D A (cs4 cI q0 u0_15 ++ cs9 cI q1 u1_16) := by rw [e_u1_16]; exact hD
  refine lv_iconst (v := 0) hx hb dX4_attempt_10 (by decide) ?_
  refine lv_istore_n (lv' := [(3, .int 0), (0, .ref (q0 0)), (1, .ref (q1 0)), (2, .int x2)]) hx hb dX4_attempt_11 rfl hl (by decide) rfl (fun ls hl => ?_)
  obtain ⟨n0, h⟩ := h
  exact w_12 n0 x2 0 u0_15 u1_16 _ _ _ hP hD hS (lv_sub hl [1, 2, 3, 0] rfl) h
