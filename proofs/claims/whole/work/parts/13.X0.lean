abbrev rX0_putSave : Room := { frames := 0, cells := 0, slots := 0, locals := 0 }
theorem hdX0_putSave : yX0_putSave.cls = RX0 ∧ yX0_putSave.cls ≠ "java/lang/invoke/MethodHandle" ∧ yX0_putSave.cls ≠ "java/lang/invoke/VarHandle" ∧ (parseMethodDescriptor yX0_putSave.desc).map (fun d => d.parameters.length) = some 2 := by decide +kernel
theorem inX0_putSave_0 : ∀ w ∈ wsX00, w ∈ wsX0_putSave := by decide +kernel
theorem kX0_putSave_0 : Cond.fieldLink RX0 21 "AheadStore$Claims" "saveCount" "[I" ∈ wsX0_putSave := by decide +kernel
theorem kX0_putSave_1 : Cond.fieldLink RX0 27 "AheadStore$Claims" "saves" "[I" ∈ wsX0_putSave := by decide +kernel
set_option maxHeartbeats 4000000 in
set_option maxRecDepth 100000 in
theorem c_X0_putSave {l : Launch} {dC : Nat → ClassId} {dI : Nat → Nat → Nat} {cI : ClassId} {q0 : Nat → Nat} {sz : Nat} {u0 : S0} {x1 : Int32} {x2 : Int32} {Q : Int32 → S0 → Prop} (h : wp_X0_putSave u0 x1 x2 Q) : ctI sxE l yX0_putSave wsX0_putSave rX0_putSave (dC, dI) vwCl [(cI, .int)] [.ref (q0 0), .int x1, .int x2] (cs0 cI q0 u0) sz (fun (r : Int32) (v : S0) => Q r v) (fun (v : S0) => cs0 cI q0 v) := by
  refine mx_i (cc := cX0_putSave) (maxL := 3) (ty := .boolean) (by decide) rfl (Nat.le_of_ble_eq_true rfl) ?_
  intro p e s m below meth c Z A ls args hx hb hml hown hts hA hP hK hD hE hl hret
  have hown : s.vm.findClass RX0 = some m.cls := hown
  have hl : lv_has ls 3 [(0, .ref (q0 0)), (1, .int x1), (2, .int x2)] := hl
  have hS : va_S A s.heap s.heap [] := va_S.rf
  refine lv_aload_n hx hb dX0_putSave_0 rfl (lv_at hl 0 rfl) ?_
  refine va_get (D := (dC, dI)) (ci := 0) (v := .ref (q0 4)) (C := RX0) (T := TX0) (N := 7) hx hb hts inX0_putSave_0 hown hK hP 0 rfl rfl 3 (by decide) (hts _ kX0_putSave_0) (fun _ h9 => h9) rfl dX0_putSave_1 ?_
  refine lv_iload_n hx hb dX0_putSave_4 rfl (lv_at hl 1 rfl) ?_
  refine va_iald hx hb hK hP 4 0 rfl rfl h.1 dX0_putSave_5 ?_
  have h := h.2
  refine lv_bipush (v := 8) hx hb dX0_putSave_6 (by decide) ?_
  refine lv_icmp_lt (tgt := 13) hx hb dX0_putSave_8 (by decide) (fun cd => ?_) (fun cd => ?_)
  · have h := h.1 cd
    refine lv_aload_n hx hb dX0_putSave_13 rfl (lv_at hl 0 rfl) ?_
    refine va_get (D := (dC, dI)) (ci := 0) (v := .ref (q0 6)) (C := RX0) (T := TX0) (N := 7) hx hb hts inX0_putSave_0 hown hK hP 0 rfl rfl 5 (by decide) (hts _ kX0_putSave_1) (fun _ h9 => h9) rfl dX0_putSave_14 ?_
    refine lv_iload_n hx hb dX0_putSave_17 rfl (lv_at hl 1 rfl) ?_
    refine lv_bipush (v := 8) hx hb dX0_putSave_18 (by decide) ?_
    refine lv_imul hx hb dX0_putSave_20 ?_
    refine lv_aload_n hx hb dX0_putSave_21 rfl (lv_at hl 0 rfl) ?_
    refine va_get (D := (dC, dI)) (ci := 0) (v := .ref (q0 4)) (C := RX0) (T := TX0) (N := 7) hx hb hts inX0_putSave_0 hown hK hP 0 rfl rfl 3 (by decide) (hts _ kX0_putSave_0) (fun _ h9 => h9) rfl dX0_putSave_22 ?_
    refine lv_iload_n hx hb dX0_putSave_25 rfl (lv_at hl 1 rfl) ?_
    refine va_iald hx hb hK hP 4 0 rfl rfl h.1 dX0_putSave_26 ?_
    have h := h.2
    refine lv_iadd hx hb dX0_putSave_27 ?_
    refine lv_iload_n hx hb dX0_putSave_28 rfl (lv_at hl 2 rfl) ?_
    refine va_iast hx hb hK hP hD hS 6 0 rfl rfl h.1 dX0_putSave_29 (fun H locs hP hD hS => ?_)
    have h := h.2
    obtain ⟨u0_1, e_u0_1⟩ : ∃ z, z = s0_saves u0 (upd (g0_saves u0) ((x1 * 8) + ((g0_saveCount u0) x1.toNatClampNeg)).toNatClampNeg x2) := ⟨_, rfl⟩
    have h := h u0_1 e_u0_1
    have hP : va_P (dC, dI) vwCl (cs0 cI q0 u0_1) H := by rw [e_u0_1]; exact hP
    have hD : va_D A (cs0 cI q0 u0_1) := by rw [e_u0_1]; exact hD
    refine lv_aload_n hx hb dX0_putSave_30 rfl (lv_at hl 0 rfl) ?_
    refine va_get (D := (dC, dI)) (ci := 0) (v := .ref (q0 4)) (C := RX0) (T := TX0) (N := 7) hx hb hts inX0_putSave_0 hown hK hP 0 rfl rfl 3 (by decide) (hts _ kX0_putSave_0) (fun _ h9 => h9) rfl dX0_putSave_31 ?_
    refine lv_iload_n hx hb dX0_putSave_34 rfl (lv_at hl 1 rfl) ?_
    refine lv_dup2_11 hx hb dX0_putSave_35 rfl rfl ?_
    refine va_iald hx hb hK hP 4 0 rfl rfl h.1 dX0_putSave_36 ?_
    have h := h.2
    refine lv_iconst (v := 1) hx hb dX0_putSave_37 (by decide) ?_
    refine lv_iadd hx hb dX0_putSave_38 ?_
    refine va_iast hx hb hK hP hD hS 4 0 rfl rfl h.1 dX0_putSave_39 (fun H locs hP hD hS => ?_)
    have h := h.2
    obtain ⟨u0_2, e_u0_2⟩ : ∃ z, z = s0_saveCount u0_1 (upd (g0_saveCount u0_1) x1.toNatClampNeg (((g0_saveCount u0_1) x1.toNatClampNeg) + 1)) := ⟨_, rfl⟩
    have h := h u0_2 e_u0_2
    have hP : va_P (dC, dI) vwCl (cs0 cI q0 u0_2) H := by rw [e_u0_2]; exact hP
    have hD : va_D A (cs0 cI q0 u0_2) := by rw [e_u0_2]; exact hD
    refine lv_iconst (v := 1) hx hb dX0_putSave_40 (by decide) ?_
    exact hret _ _ _ _ _ u0_2 dX0_putSave_41 (by decide) h hP hD hS
  · have h := h.2 cd
    refine lv_iconst (v := 0) hx hb dX0_putSave_11 (by decide) ?_
    exact hret _ _ _ _ _ u0 dX0_putSave_12 (by decide) h hP hD hS

abbrev rX0_saved : Room := { frames := 0, cells := 0, slots := 0, locals := 0 }
theorem hdX0_saved : yX0_saved.cls = RX0 ∧ yX0_saved.cls ≠ "java/lang/invoke/MethodHandle" ∧ yX0_saved.cls ≠ "java/lang/invoke/VarHandle" ∧ (parseMethodDescriptor yX0_saved.desc).map (fun d => d.parameters.length) = some 2 := by decide +kernel
theorem inX0_saved_0 : ∀ w ∈ wsX00, w ∈ wsX0_saved := by decide +kernel
theorem kX0_saved_0 : Cond.fieldLink RX0 27 "AheadStore$Claims" "saves" "[I" ∈ wsX0_saved := by decide +kernel
set_option maxHeartbeats 4000000 in
set_option maxRecDepth 100000 in
theorem c_X0_saved {l : Launch} {dC : Nat → ClassId} {dI : Nat → Nat → Nat} {cI : ClassId} {q0 : Nat → Nat} {sz : Nat} {u0 : S0} {x1 : Int32} {x2 : Int32} {Q : Int32 → Prop} (h : wp_X0_saved u0 x1 x2 Q) : ctI sxE l yX0_saved wsX0_saved rX0_saved (dC, dI) vwCl [(cI, .int)] [.ref (q0 0), .int x1, .int x2] (cs0 cI q0 u0) sz (fun (r : Int32) (_ : Unit) => Q r) (fun (_ : Unit) => cs0 cI q0 u0) := by
  refine mx_i (cc := cX0_saved) (maxL := 3) (ty := .int) (by decide) rfl (Nat.le_of_ble_eq_true rfl) ?_
  intro p e s m below meth c Z A ls args hx hb hml hown hts hA hP hK hD hE hl hret
  have hown : s.vm.findClass RX0 = some m.cls := hown
  have hl : lv_has ls 3 [(0, .ref (q0 0)), (1, .int x1), (2, .int x2)] := hl
  have hS : va_S A s.heap s.heap [] := va_S.rf
  refine lv_aload_n hx hb dX0_saved_0 rfl (lv_at hl 0 rfl) ?_
  refine va_get (D := (dC, dI)) (ci := 0) (v := .ref (q0 6)) (C := RX0) (T := TX0) (N := 7) hx hb hts inX0_saved_0 hown hK hP 0 rfl rfl 5 (by decide) (hts _ kX0_saved_0) (fun _ h9 => h9) rfl dX0_saved_1 ?_
  refine lv_iload_n hx hb dX0_saved_4 rfl (lv_at hl 1 rfl) ?_
  refine lv_bipush (v := 8) hx hb dX0_saved_5 (by decide) ?_
  refine lv_imul hx hb dX0_saved_7 ?_
  refine lv_iload_n hx hb dX0_saved_8 rfl (lv_at hl 2 rfl) ?_
  refine lv_iadd hx hb dX0_saved_9 ?_
  refine va_iald hx hb hK hP 6 0 rfl rfl h.1 dX0_saved_10 ?_
  have h := h.2
  exact hret _ _ _ _ _ () dX0_saved_11 (vp_nar_int _) h hP hD hS

abbrev rX0_putTop : Room := { frames := 0, cells := 0, slots := 0, locals := 0 }
theorem hdX0_putTop : yX0_putTop.cls = RX0 ∧ yX0_putTop.cls ≠ "java/lang/invoke/MethodHandle" ∧ yX0_putTop.cls ≠ "java/lang/invoke/VarHandle" ∧ (parseMethodDescriptor yX0_putTop.desc).map (fun d => d.parameters.length) = some 2 := by decide +kernel
theorem inX0_putTop_0 : ∀ w ∈ wsX00, w ∈ wsX0_putTop := by decide +kernel
theorem kX0_putTop_0 : Cond.fieldLink RX0 24 "AheadStore$Claims" "topCount" "[I" ∈ wsX0_putTop := by decide +kernel
theorem kX0_putTop_1 : Cond.fieldLink RX0 30 "AheadStore$Claims" "tops" "[I" ∈ wsX0_putTop := by decide +kernel
set_option maxHeartbeats 4000000 in
set_option maxRecDepth 100000 in
theorem c_X0_putTop {l : Launch} {dC : Nat → ClassId} {dI : Nat → Nat → Nat} {cI : ClassId} {q0 : Nat → Nat} {sz : Nat} {u0 : S0} {x1 : Int32} {x2 : Int32} {Q : Int32 → S0 → Prop} (h : wp_X0_putTop u0 x1 x2 Q) : ctI sxE l yX0_putTop wsX0_putTop rX0_putTop (dC, dI) vwCl [(cI, .int)] [.ref (q0 0), .int x1, .int x2] (cs0 cI q0 u0) sz (fun (r : Int32) (v : S0) => Q r v) (fun (v : S0) => cs0 cI q0 v) := by
  refine mx_i (cc := cX0_putTop) (maxL := 3) (ty := .boolean) (by decide) rfl (Nat.le_of_ble_eq_true rfl) ?_
  intro p e s m below meth c Z A ls args hx hb hml hown hts hA hP hK hD hE hl hret
  have hown : s.vm.findClass RX0 = some m.cls := hown
  have hl : lv_has ls 3 [(0, .ref (q0 0)), (1, .int x1), (2, .int x2)] := hl
  have hS : va_S A s.heap s.heap [] := va_S.rf
  refine lv_aload_n hx hb dX0_putTop_0 rfl (lv_at hl 0 rfl) ?_
  refine va_get (D := (dC, dI)) (ci := 0) (v := .ref (q0 5)) (C := RX0) (T := TX0) (N := 7) hx hb hts inX0_putTop_0 hown hK hP 0 rfl rfl 4 (by decide) (hts _ kX0_putTop_0) (fun _ h9 => h9) rfl dX0_putTop_1 ?_
  refine lv_iload_n hx hb dX0_putTop_4 rfl (lv_at hl 1 rfl) ?_
  refine va_iald hx hb hK hP 5 0 rfl rfl h.1 dX0_putTop_5 ?_
  have h := h.2
  refine lv_iconst (v := 4) hx hb dX0_putTop_6 (by decide) ?_
  refine lv_icmp_lt (tgt := 12) hx hb dX0_putTop_7 (by decide) (fun cd => ?_) (fun cd => ?_)
  · have h := h.1 cd
    refine lv_aload_n hx hb dX0_putTop_12 rfl (lv_at hl 0 rfl) ?_
    refine va_get (D := (dC, dI)) (ci := 0) (v := .ref (q0 7)) (C := RX0) (T := TX0) (N := 7) hx hb hts inX0_putTop_0 hown hK hP 0 rfl rfl 6 (by decide) (hts _ kX0_putTop_1) (fun _ h9 => h9) rfl dX0_putTop_13 ?_
    refine lv_iload_n hx hb dX0_putTop_16 rfl (lv_at hl 1 rfl) ?_
    refine lv_iconst (v := 4) hx hb dX0_putTop_17 (by decide) ?_
    refine lv_imul hx hb dX0_putTop_18 ?_
    refine lv_aload_n hx hb dX0_putTop_19 rfl (lv_at hl 0 rfl) ?_
    refine va_get (D := (dC, dI)) (ci := 0) (v := .ref (q0 5)) (C := RX0) (T := TX0) (N := 7) hx hb hts inX0_putTop_0 hown hK hP 0 rfl rfl 4 (by decide) (hts _ kX0_putTop_0) (fun _ h9 => h9) rfl dX0_putTop_20 ?_
    refine lv_iload_n hx hb dX0_putTop_23 rfl (lv_at hl 1 rfl) ?_
    refine va_iald hx hb hK hP 5 0 rfl rfl h.1 dX0_putTop_24 ?_
    have h := h.2
    refine lv_iadd hx hb dX0_putTop_25 ?_
    refine lv_iload_n hx hb dX0_putTop_26 rfl (lv_at hl 2 rfl) ?_
    refine va_iast hx hb hK hP hD hS 7 0 rfl rfl h.1 dX0_putTop_27 (fun H locs hP hD hS => ?_)
    have h := h.2
    obtain ⟨u0_1, e_u0_1⟩ : ∃ z, z = s0_tops u0 (upd (g0_tops u0) ((x1 * 4) + ((g0_topCount u0) x1.toNatClampNeg)).toNatClampNeg x2) := ⟨_, rfl⟩
    have h := h u0_1 e_u0_1
    have hP : va_P (dC, dI) vwCl (cs0 cI q0 u0_1) H := by rw [e_u0_1]; exact hP
    have hD : va_D A (cs0 cI q0 u0_1) := by rw [e_u0_1]; exact hD
    refine lv_aload_n hx hb dX0_putTop_28 rfl (lv_at hl 0 rfl) ?_
    refine va_get (D := (dC, dI)) (ci := 0) (v := .ref (q0 5)) (C := RX0) (T := TX0) (N := 7) hx hb hts inX0_putTop_0 hown hK hP 0 rfl rfl 4 (by decide) (hts _ kX0_putTop_0) (fun _ h9 => h9) rfl dX0_putTop_29 ?_
    refine lv_iload_n hx hb dX0_putTop_32 rfl (lv_at hl 1 rfl) ?_
    refine lv_dup2_11 hx hb dX0_putTop_33 rfl rfl ?_
    refine va_iald hx hb hK hP 5 0 rfl rfl h.1 dX0_putTop_34 ?_
    have h := h.2
    refine lv_iconst (v := 1) hx hb dX0_putTop_35 (by decide) ?_
    refine lv_iadd hx hb dX0_putTop_36 ?_
    refine va_iast hx hb hK hP hD hS 5 0 rfl rfl h.1 dX0_putTop_37 (fun H locs hP hD hS => ?_)
    have h := h.2
    obtain ⟨u0_2, e_u0_2⟩ : ∃ z, z = s0_topCount u0_1 (upd (g0_topCount u0_1) x1.toNatClampNeg (((g0_topCount u0_1) x1.toNatClampNeg) + 1)) := ⟨_, rfl⟩
    have h := h u0_2 e_u0_2
    have hP : va_P (dC, dI) vwCl (cs0 cI q0 u0_2) H := by rw [e_u0_2]; exact hP
    have hD : va_D A (cs0 cI q0 u0_2) := by rw [e_u0_2]; exact hD
    refine lv_iconst (v := 1) hx hb dX0_putTop_38 (by decide) ?_
    exact hret _ _ _ _ _ u0_2 dX0_putTop_39 (by decide) h hP hD hS
  · have h := h.2 cd
    refine lv_iconst (v := 0) hx hb dX0_putTop_10 (by decide) ?_
    exact hret _ _ _ _ _ u0 dX0_putTop_11 (by decide) h hP hD hS

abbrev rX0_takeTop : Room := { frames := 0, cells := 0, slots := 0, locals := 0 }
theorem hdX0_takeTop : yX0_takeTop.cls = RX0 ∧ yX0_takeTop.cls ≠ "java/lang/invoke/MethodHandle" ∧ yX0_takeTop.cls ≠ "java/lang/invoke/VarHandle" ∧ (parseMethodDescriptor yX0_takeTop.desc).map (fun d => d.parameters.length) = some 1 := by decide +kernel
theorem inX0_takeTop_0 : ∀ w ∈ wsX00, w ∈ wsX0_takeTop := by decide +kernel
theorem kX0_takeTop_0 : Cond.fieldLink RX0 24 "AheadStore$Claims" "topCount" "[I" ∈ wsX0_takeTop := by decide +kernel
theorem kX0_takeTop_1 : Cond.fieldLink RX0 30 "AheadStore$Claims" "tops" "[I" ∈ wsX0_takeTop := by decide +kernel
set_option maxHeartbeats 4000000 in
set_option maxRecDepth 100000 in
theorem c_X0_takeTop {l : Launch} {dC : Nat → ClassId} {dI : Nat → Nat → Nat} {cI : ClassId} {q0 : Nat → Nat} {sz : Nat} {u0 : S0} {x1 : Int32} {Q : Int32 → S0 → Prop} (h : wp_X0_takeTop u0 x1 Q) : ctI sxE l yX0_takeTop wsX0_takeTop rX0_takeTop (dC, dI) vwCl [(cI, .int)] [.ref (q0 0), .int x1] (cs0 cI q0 u0) sz (fun (r : Int32) (v : S0) => Q r v) (fun (v : S0) => cs0 cI q0 v) := by
  refine mx_i (cc := cX0_takeTop) (maxL := 2) (ty := .int) (by decide) rfl (Nat.le_of_ble_eq_true rfl) ?_
  intro p e s m below meth c Z A ls args hx hb hml hown hts hA hP hK hD hE hl hret
  have hown : s.vm.findClass RX0 = some m.cls := hown
  have hl : lv_has ls 2 [(0, .ref (q0 0)), (1, .int x1)] := hl
  have hS : va_S A s.heap s.heap [] := va_S.rf
  refine lv_aload_n hx hb dX0_takeTop_0 rfl (lv_at hl 0 rfl) ?_
  refine va_get (D := (dC, dI)) (ci := 0) (v := .ref (q0 5)) (C := RX0) (T := TX0) (N := 7) hx hb hts inX0_takeTop_0 hown hK hP 0 rfl rfl 4 (by decide) (hts _ kX0_takeTop_0) (fun _ h9 => h9) rfl dX0_takeTop_1 ?_
  refine lv_iload_n hx hb dX0_takeTop_4 rfl (lv_at hl 1 rfl) ?_
  refine va_iald hx hb hK hP 5 0 rfl rfl h.1 dX0_takeTop_5 ?_
  have h := h.2
  refine lv_iconst (v := 1) hx hb dX0_takeTop_6 (by decide) ?_
  refine lv_icmp_ge (tgt := 12) hx hb dX0_takeTop_7 (by decide) (fun cd => ?_) (fun cd => ?_)
  · have h := h.1 cd
    refine lv_aload_n hx hb dX0_takeTop_12 rfl (lv_at hl 0 rfl) ?_
    refine va_get (D := (dC, dI)) (ci := 0) (v := .ref (q0 5)) (C := RX0) (T := TX0) (N := 7) hx hb hts inX0_takeTop_0 hown hK hP 0 rfl rfl 4 (by decide) (hts _ kX0_takeTop_0) (fun _ h9 => h9) rfl dX0_takeTop_13 ?_
    refine lv_iload_n hx hb dX0_takeTop_16 rfl (lv_at hl 1 rfl) ?_
    refine lv_dup2_11 hx hb dX0_takeTop_17 rfl rfl ?_
    refine va_iald hx hb hK hP 5 0 rfl rfl h.1 dX0_takeTop_18 ?_
    have h := h.2
    refine lv_iconst (v := 1) hx hb dX0_takeTop_19 (by decide) ?_
    refine lv_isub hx hb dX0_takeTop_20 ?_
    refine va_iast hx hb hK hP hD hS 5 0 rfl rfl h.1 dX0_takeTop_21 (fun H locs hP hD hS => ?_)
    have h := h.2
    obtain ⟨u0_1, e_u0_1⟩ : ∃ z, z = s0_topCount u0 (upd (g0_topCount u0) x1.toNatClampNeg (((g0_topCount u0) x1.toNatClampNeg) - 1)) := ⟨_, rfl⟩
    have h := h u0_1 e_u0_1
    have hP : va_P (dC, dI) vwCl (cs0 cI q0 u0_1) H := by rw [e_u0_1]; exact hP
    have hD : va_D A (cs0 cI q0 u0_1) := by rw [e_u0_1]; exact hD
    refine lv_aload_n hx hb dX0_takeTop_22 rfl (lv_at hl 0 rfl) ?_
    refine va_get (D := (dC, dI)) (ci := 0) (v := .ref (q0 7)) (C := RX0) (T := TX0) (N := 7) hx hb hts inX0_takeTop_0 hown hK hP 0 rfl rfl 6 (by decide) (hts _ kX0_takeTop_1) (fun _ h9 => h9) rfl dX0_takeTop_23 ?_
    refine lv_iload_n hx hb dX0_takeTop_26 rfl (lv_at hl 1 rfl) ?_
    refine lv_iconst (v := 4) hx hb dX0_takeTop_27 (by decide) ?_
    refine lv_imul hx hb dX0_takeTop_28 ?_
    refine lv_aload_n hx hb dX0_takeTop_29 rfl (lv_at hl 0 rfl) ?_
    refine va_get (D := (dC, dI)) (ci := 0) (v := .ref (q0 5)) (C := RX0) (T := TX0) (N := 7) hx hb hts inX0_takeTop_0 hown hK hP 0 rfl rfl 4 (by decide) (hts _ kX0_takeTop_0) (fun _ h9 => h9) rfl dX0_takeTop_30 ?_
    refine lv_iload_n hx hb dX0_takeTop_33 rfl (lv_at hl 1 rfl) ?_
    refine va_iald hx hb hK hP 5 0 rfl rfl h.1 dX0_takeTop_34 ?_
    have h := h.2
    refine lv_iadd hx hb dX0_takeTop_35 ?_
    refine va_iald hx hb hK hP 7 0 rfl rfl h.1 dX0_takeTop_36 ?_
    have h := h.2
    exact hret _ _ _ _ _ u0_1 dX0_takeTop_37 (vp_nar_int _) h hP hD hS
  · have h := h.2 cd
    refine lv_iconst (v := 0) hx hb dX0_takeTop_10 (by decide) ?_
    exact hret _ _ _ _ _ u0 dX0_takeTop_11 (vp_nar_int _) h hP hD hS

set_option maxRecDepth 100000 in
theorem cut_2 (cI : ClassId) (q0 : Nat → Nat) (u0 : S0) : Cut (cs0 cI q0 u0) (cs0 cI q0 u0) (fun _ : Unit => cs0 cI q0 u0) (fun _ : Unit => cs0 cI q0 u0) := ⟨[0, 1, 2, 3, 4, 5, 6, 7], [], rfl, rfl, rfl, by decide, by decide, fun _ => ⟨[0, 1, 2, 3, 4, 5, 6, 7], rfl, rfl⟩⟩

abbrev rX0_cutBack : Room := { frames := 1, cells := 0, slots := 0, locals := 22 }
theorem hdX0_cutBack : yX0_cutBack.cls = RX0 ∧ yX0_cutBack.cls ≠ "java/lang/invoke/MethodHandle" ∧ yX0_cutBack.cls ≠ "java/lang/invoke/VarHandle" ∧ (parseMethodDescriptor yX0_cutBack.desc).map (fun d => d.parameters.length) = some 2 := by decide +kernel
theorem inX0_cutBack_0 : ∀ w ∈ wsX00, w ∈ wsX0_cutBack := by decide +kernel
theorem kX0_cutBack_0 : Cond.fieldLink RX0 24 "AheadStore$Claims" "topCount" "[I" ∈ wsX0_cutBack := by decide +kernel
theorem kX0_cutBack_1 : Cond.fieldLink RX0 30 "AheadStore$Claims" "tops" "[I" ∈ wsX0_cutBack := by decide +kernel
theorem kX0_cutBack_2 : Cond.fieldLink RX0 21 "AheadStore$Claims" "saveCount" "[I" ∈ wsX0_cutBack := by decide +kernel
set_option maxHeartbeats 4000000 in
set_option maxRecDepth 100000 in
theorem c_X0_cutBack {l : Launch} {dC : Nat → ClassId} {dI : Nat → Nat → Nat} {cI : ClassId} {q0 : Nat → Nat} {sz : Nat} {u0 : S0} {x1 : Int32} {x2 : Int32} {Q : S0 → Prop} (h : wp_X0_cutBack u0 x1 x2 Q) : ctV sxE l yX0_cutBack wsX0_cutBack rX0_cutBack (dC, dI) vwCl [(cI, .int)] [.ref (q0 0), .int x1, .int x2] (cs0 cI q0 u0) sz (fun (v : S0) => Q v) (fun (v : S0) => cs0 cI q0 v) := by
  refine mx_v (cc := cX0_cutBack) (maxL := 5) (by decide) rfl (Nat.le_of_ble_eq_true rfl) ?_
  intro p e s m below meth c Z A ls args hx hb hml hown hts hA hP hK hD hE hl hret
  have hown : s.vm.findClass RX0 = some m.cls := hown
  have hl : lv_has ls 5 [(0, .ref (q0 0)), (1, .int x1), (2, .int x2)] := hl
  have w_19 : ∀ (n : Nat) (x1 : Int32) (x3 : Int32) (x4 : Int32) (u0 : S0) (H : Heap) (locs : List Loc) (ls : Array Slot) (_ : va_P (dC, dI) vwCl (cs0 cI q0 u0) H) (_ : va_D A (cs0 cI q0 u0)) (_ : va_S A s.heap H locs) (_ : lv_has ls 5 [(0, .ref (q0 0)), (1, .int x1), (3, .int x3), (4, .int x4)]) (_ : wp_X0_cutBack_19 Q n x1 x3 x4 u0), W p l e rX0_cutBack s m args below meth c H locs 0 0 Z (F0 m 19 ls []) := by
    intro n
    induction n with
    | zero => intro x1 x3 x4 u0 H locs ls hP hD hS hl h; exact False.elim h
    | succ n ih =>
      intro x1 x3 x4 u0 H locs ls hP hD hS hl h
      refine lv_iload hx hb dX0_cutBack_19 (lv_at hl 3 rfl) ?_
      refine lv_iconst (v := 4) hx hb dX0_cutBack_21 (by decide) ?_
      refine lv_icmp_ge (tgt := 74) hx hb dX0_cutBack_22 (by decide) (fun cd => ?_) (fun cd => ?_)
      · have h := h.1 cd
        exact hret _ _ _ _ u0 dX0_cutBack_74 h hP hD hS
      · have h := h.2 cd
        refine lv_aload_n hx hb dX0_cutBack_25 rfl (lv_at hl 0 rfl) ?_
        refine va_get (D := (dC, dI)) (ci := 0) (v := .ref (q0 5)) (C := RX0) (T := TX0) (N := 7) hx hb hts inX0_cutBack_0 hown hK hP 0 rfl rfl 4 (by decide) (hts _ kX0_cutBack_0) (fun _ h9 => h9) rfl dX0_cutBack_26 ?_
        refine lv_iload_n hx hb dX0_cutBack_29 rfl (lv_at hl 1 rfl) ?_
        refine va_iald hx hb hK hP 5 0 rfl rfl h.1 dX0_cutBack_30 ?_
        have h := h.2
        refine lv_if_le (tgt := 74) hx hb dX0_cutBack_31 (by decide) (fun cd => ?_) (fun cd => ?_)
        · have h := h.1 cd
          exact hret _ _ _ _ u0 dX0_cutBack_74 h hP hD hS
        · have h := h.2 cd
          refine lv_aload_n hx hb dX0_cutBack_34 rfl (lv_at hl 0 rfl) ?_
          refine va_get (D := (dC, dI)) (ci := 0) (v := .ref (q0 7)) (C := RX0) (T := TX0) (N := 7) hx hb hts inX0_cutBack_0 hown hK hP 0 rfl rfl 6 (by decide) (hts _ kX0_cutBack_1) (fun _ h9 => h9) rfl dX0_cutBack_35 ?_
          refine lv_iload_n hx hb dX0_cutBack_38 rfl (lv_at hl 1 rfl) ?_
          refine lv_iconst (v := 4) hx hb dX0_cutBack_39 (by decide) ?_
          refine lv_imul hx hb dX0_cutBack_40 ?_
          refine lv_aload_n hx hb dX0_cutBack_41 rfl (lv_at hl 0 rfl) ?_
          refine va_get (D := (dC, dI)) (ci := 0) (v := .ref (q0 5)) (C := RX0) (T := TX0) (N := 7) hx hb hts inX0_cutBack_0 hown hK hP 0 rfl rfl 4 (by decide) (hts _ kX0_cutBack_0) (fun _ h9 => h9) rfl dX0_cutBack_42 ?_
          refine lv_iload_n hx hb dX0_cutBack_45 rfl (lv_at hl 1 rfl) ?_
          refine va_iald hx hb hK hP 5 0 rfl rfl h.1 dX0_cutBack_46 ?_
          have h := h.2
          refine lv_iadd hx hb dX0_cutBack_47 ?_
          refine lv_iconst (v := 1) hx hb dX0_cutBack_48 (by decide) ?_
          refine lv_isub hx hb dX0_cutBack_49 ?_
          refine va_iald hx hb hK hP 7 0 rfl rfl h.1 dX0_cutBack_50 ?_
          have h := h.2
          refine lv_iload_n hx hb dX0_cutBack_51 rfl (lv_at hl 2 rfl) ?_
          refine lv_icmp_gt (tgt := 58) hx hb dX0_cutBack_52 (by decide) (fun cd => ?_) (fun cd => ?_)
          · have h := h.1 cd
            refine lv_aload_n hx hb dX0_cutBack_58 rfl (lv_at hl 0 rfl) ?_
            refine va_get (D := (dC, dI)) (ci := 0) (v := .ref (q0 5)) (C := RX0) (T := TX0) (N := 7) hx hb hts inX0_cutBack_0 hown hK hP 0 rfl rfl 4 (by decide) (hts _ kX0_cutBack_0) (fun _ h9 => h9) rfl dX0_cutBack_59 ?_
            refine lv_iload_n hx hb dX0_cutBack_62 rfl (lv_at hl 1 rfl) ?_
            refine lv_dup2_11 hx hb dX0_cutBack_63 rfl rfl ?_
            refine va_iald hx hb hK hP 5 0 rfl rfl h.1 dX0_cutBack_64 ?_
            have h := h.2
            refine lv_iconst (v := 1) hx hb dX0_cutBack_65 (by decide) ?_
            refine lv_isub hx hb dX0_cutBack_66 ?_
            refine va_iast hx hb hK hP hD hS 5 0 rfl rfl h.1 dX0_cutBack_67 (fun H locs hP hD hS => ?_)
            have h := h.2
            obtain ⟨u0_1, e_u0_1⟩ : ∃ z, z = s0_topCount u0 (upd (g0_topCount u0) x1.toNatClampNeg (((g0_topCount u0) x1.toNatClampNeg) - 1)) := ⟨_, rfl⟩
            have h := h u0_1 e_u0_1
            have hP : va_P (dC, dI) vwCl (cs0 cI q0 u0_1) H := by rw [e_u0_1]; exact hP
            have hD : va_D A (cs0 cI q0 u0_1) := by rw [e_u0_1]; exact hD
            obtain ⟨x4_2, e_x4_2⟩ : ∃ z : Int32, z = x4 + 1 := ⟨_, rfl⟩
            have h := h x4_2 e_x4_2
            refine lv_iinc (v := x4_2) (lv' := [(4, .int x4_2), (0, .ref (q0 0)), (1, .int x1), (3, .int x3)]) hx hb dX0_cutBack_68 hl (k := 3) rfl (by rw [e_x4_2]; rfl) (by decide) rfl (fun ls hl => ?_)
            refine lv_goto (tgt := 19) hx hb dX0_cutBack_71 (by decide) ?_
            exact ih x1 x3 x4_2 u0_1 _ _ _ hP hD hS (lv_sub hl [1, 2, 3, 0] rfl) h
          · have h := h.2 cd
            refine lv_goto (tgt := 74) hx hb dX0_cutBack_55 (by decide) ?_
            exact hret _ _ _ _ u0 dX0_cutBack_74 h hP hD hS
  have hS : va_S A s.heap s.heap [] := va_S.rf
  refine lv_aload_n hx hb dX0_cutBack_0 rfl (lv_at hl 0 rfl) ?_
  refine lv_iload_n hx hb dX0_cutBack_1 rfl (lv_at hl 1 rfl) ?_
  refine lv_iload_n hx hb dX0_cutBack_2 rfl (lv_at hl 2 rfl) ?_
  refine cx_vi (As := [.int x1, .int x2]) (rest := []) ⟨hx, hb, hml, hown, hts⟩ hl.1 ok_sxE hE hK hP hD hS hA (cut_2 cI q0 u0) (c_X0_saved (l := l) (dC := dC) (dI := dI) (cI := cI) (q0 := q0) h) (cwV 2 hts gX0_cutBack_X0_saved rfl rfl rfl hdX0_saved ⟨Nat.le_of_ble_eq_true rfl, Nat.le_of_ble_eq_true rfl⟩) rfl rfl rfl rfl (Nat.le_of_ble_eq_true rfl) dX0_cutBack_3 rfl (fun r_3 _ H locs h hP hD hS => ?_)
  refine lv_istore_n (lv' := [(3, .int r_3), (0, .ref (q0 0)), (1, .int x1), (2, .int x2)]) hx hb dX0_cutBack_6 rfl hl (by decide) rfl (fun ls hl => ?_)
  refine lv_aload_n hx hb dX0_cutBack_7 rfl (lv_at hl 1 rfl) ?_
  refine va_get (D := (dC, dI)) (ci := 0) (v := .ref (q0 4)) (C := RX0) (T := TX0) (N := 7) hx hb hts inX0_cutBack_0 hown hK hP 0 rfl rfl 3 (by decide) (hts _ kX0_cutBack_2) (fun _ h9 => h9) rfl dX0_cutBack_8 ?_
  refine lv_iload_n hx hb dX0_cutBack_11 rfl (lv_at hl 2 rfl) ?_
  refine lv_iload_n hx hb dX0_cutBack_12 rfl (lv_at hl 3 rfl) ?_
  refine lv_iconst (v := 1) hx hb dX0_cutBack_13 (by decide) ?_
  refine lv_iadd hx hb dX0_cutBack_14 ?_
  refine va_iast hx hb hK hP hD hS 4 0 rfl rfl h.1 dX0_cutBack_15 (fun H locs hP hD hS => ?_)
  have h := h.2
  obtain ⟨u0_4, e_u0_4⟩ : ∃ z, z = s0_saveCount u0 (upd (g0_saveCount u0) x1.toNatClampNeg (x2 + 1)) := ⟨_, rfl⟩
  have h := h u0_4 e_u0_4
  have hP : va_P (dC, dI) vwCl (cs0 cI q0 u0_4) H := by rw [e_u0_4]; exact hP
  have hD : va_D A (cs0 cI q0 u0_4) := by rw [e_u0_4]; exact hD
  refine lv_iconst (v := 0) hx hb dX0_cutBack_16 (by decide) ?_
  refine lv_istore (lv' := [(4, .int 0), (3, .int r_3), (0, .ref (q0 0)), (1, .int x1), (2, .int x2)]) hx hb dX0_cutBack_17 hl (by decide) rfl (fun ls hl => ?_)
  obtain ⟨n0, h⟩ := h
  exact w_19 n0 x1 r_3 0 u0_4 _ _ _ hP hD hS (lv_sub hl [2, 3, 1, 0] rfl) h

abbrev rX0_dropMarks : Room := { frames := 0, cells := 0, slots := 0, locals := 0 }
theorem hdX0_dropMarks : yX0_dropMarks.cls = RX0 ∧ yX0_dropMarks.cls ≠ "java/lang/invoke/MethodHandle" ∧ yX0_dropMarks.cls ≠ "java/lang/invoke/VarHandle" ∧ (parseMethodDescriptor yX0_dropMarks.desc).map (fun d => d.parameters.length) = some 1 := by decide +kernel
theorem inX0_dropMarks_0 : ∀ w ∈ wsX00, w ∈ wsX0_dropMarks := by decide +kernel
theorem kX0_dropMarks_0 : Cond.fieldLink RX0 24 "AheadStore$Claims" "topCount" "[I" ∈ wsX0_dropMarks := by decide +kernel
theorem kX0_dropMarks_1 : Cond.fieldLink RX0 21 "AheadStore$Claims" "saveCount" "[I" ∈ wsX0_dropMarks := by decide +kernel
set_option maxHeartbeats 4000000 in
set_option maxRecDepth 100000 in
theorem c_X0_dropMarks {l : Launch} {dC : Nat → ClassId} {dI : Nat → Nat → Nat} {cI : ClassId} {q0 : Nat → Nat} {sz : Nat} {u0 : S0} {x1 : Int32} {Q : S0 → Prop} (h : wp_X0_dropMarks u0 x1 Q) : ctV sxE l yX0_dropMarks wsX0_dropMarks rX0_dropMarks (dC, dI) vwCl [(cI, .int)] [.ref (q0 0), .int x1] (cs0 cI q0 u0) sz (fun (v : S0) => Q v) (fun (v : S0) => cs0 cI q0 v) := by
  refine mx_v (cc := cX0_dropMarks) (maxL := 2) (by decide) rfl (Nat.le_of_ble_eq_true rfl) ?_
  intro p e s m below meth c Z A ls args hx hb hml hown hts hA hP hK hD hE hl hret
  have hown : s.vm.findClass RX0 = some m.cls := hown
  have hl : lv_has ls 2 [(0, .ref (q0 0)), (1, .int x1)] := hl
  have hS : va_S A s.heap s.heap [] := va_S.rf
  refine lv_aload_n hx hb dX0_dropMarks_0 rfl (lv_at hl 0 rfl) ?_
  refine va_get (D := (dC, dI)) (ci := 0) (v := .ref (q0 4)) (C := RX0) (T := TX0) (N := 7) hx hb hts inX0_dropMarks_0 hown hK hP 0 rfl rfl 3 (by decide) (hts _ kX0_dropMarks_1) (fun _ h9 => h9) rfl dX0_dropMarks_1 ?_
  refine lv_iload_n hx hb dX0_dropMarks_4 rfl (lv_at hl 1 rfl) ?_
  refine lv_iconst (v := 0) hx hb dX0_dropMarks_5 (by decide) ?_
  refine va_iast hx hb hK hP hD hS 4 0 rfl rfl h.1 dX0_dropMarks_6 (fun H locs hP hD hS => ?_)
  have h := h.2
  obtain ⟨u0_1, e_u0_1⟩ : ∃ z, z = s0_saveCount u0 (upd (g0_saveCount u0) x1.toNatClampNeg 0) := ⟨_, rfl⟩
  have h := h u0_1 e_u0_1
  have hP : va_P (dC, dI) vwCl (cs0 cI q0 u0_1) H := by rw [e_u0_1]; exact hP
  have hD : va_D A (cs0 cI q0 u0_1) := by rw [e_u0_1]; exact hD
  refine lv_aload_n hx hb dX0_dropMarks_7 rfl (lv_at hl 0 rfl) ?_
  refine va_get (D := (dC, dI)) (ci := 0) (v := .ref (q0 5)) (C := RX0) (T := TX0) (N := 7) hx hb hts inX0_dropMarks_0 hown hK hP 0 rfl rfl 4 (by decide) (hts _ kX0_dropMarks_0) (fun _ h9 => h9) rfl dX0_dropMarks_8 ?_
  refine lv_iload_n hx hb dX0_dropMarks_11 rfl (lv_at hl 1 rfl) ?_
  refine lv_iconst (v := 0) hx hb dX0_dropMarks_12 (by decide) ?_
  refine va_iast hx hb hK hP hD hS 5 0 rfl rfl h.1 dX0_dropMarks_13 (fun H locs hP hD hS => ?_)
  have h := h.2
  obtain ⟨u0_2, e_u0_2⟩ : ∃ z, z = s0_topCount u0_1 (upd (g0_topCount u0_1) x1.toNatClampNeg 0) := ⟨_, rfl⟩
  have h := h u0_2 e_u0_2
  have hP : va_P (dC, dI) vwCl (cs0 cI q0 u0_2) H := by rw [e_u0_2]; exact hP
  have hD : va_D A (cs0 cI q0 u0_2) := by rw [e_u0_2]; exact hD
  exact hret _ _ _ _ u0_2 dX0_dropMarks_14 h hP hD hS

abbrev rX0_othersInTheWay : Room := { frames := 0, cells := 0, slots := 0, locals := 0 }
theorem hdX0_othersInTheWay : yX0_othersInTheWay.cls = RX0 ∧ yX0_othersInTheWay.cls ≠ "java/lang/invoke/MethodHandle" ∧ yX0_othersInTheWay.cls ≠ "java/lang/invoke/VarHandle" ∧ (parseMethodDescriptor yX0_othersInTheWay.desc).map (fun d => d.parameters.length) = some 3 := by decide +kernel
theorem inX0_othersInTheWay_0 : ∀ w ∈ wsX00, w ∈ wsX0_othersInTheWay := by decide +kernel
theorem kX0_othersInTheWay_0 : Cond.fieldLink RX0 9 "AheadStore$Claims" "wrote" "[I" ∈ wsX0_othersInTheWay := by decide +kernel
theorem kX0_othersInTheWay_1 : Cond.fieldLink RX0 15 "AheadStore$Claims" "added" "[I" ∈ wsX0_othersInTheWay := by decide +kernel
set_option maxHeartbeats 4000000 in
set_option maxRecDepth 100000 in
theorem c_X0_othersInTheWay {l : Launch} {dC : Nat → ClassId} {dI : Nat → Nat → Nat} {cI : ClassId} {q0 : Nat → Nat} {sz : Nat} {u0 : S0} {x1 : Int32} {x2 : Int32} {x3 : Int32} {Q : Int32 → Prop} (h : wp_X0_othersInTheWay u0 x1 x2 x3 Q) : ctI sxE l yX0_othersInTheWay wsX0_othersInTheWay rX0_othersInTheWay (dC, dI) vwCl [(cI, .int)] [.ref (q0 0), .int x1, .int x2, .int x3] (cs0 cI q0 u0) sz (fun (r : Int32) (_ : Unit) => Q r) (fun (_ : Unit) => cs0 cI q0 u0) := by
  refine mx_i (cc := cX0_othersInTheWay) (maxL := 5) (ty := .int) (by decide) rfl (Nat.le_of_ble_eq_true rfl) ?_
  intro p e s m below meth c Z A ls args hx hb hml hown hts hA hP hK hD hE hl hret
  have hown : s.vm.findClass RX0 = some m.cls := hown
  have hl : lv_has ls 5 [(0, .ref (q0 0)), (1, .int x1), (2, .int x2), (3, .int x3)] := hl
  have w_27 : ∀ (x1 : Int32) (y0 : Int32) (H : Heap) (locs : List Loc) (ls : Array Slot) (_ : va_P (dC, dI) vwCl (cs0 cI q0 u0) H) (_ : va_D A (cs0 cI q0 u0)) (_ : va_S A s.heap H locs) (_ : lv_has ls 5 [(1, .int x1)]) (_ : wp_X0_othersInTheWay_27 u0 Q x1 y0), W p l e rX0_othersInTheWay s m args below meth c H locs 0 0 Z (F0 m 27 ls [.int y0]) := by
    intro x1 y0 H locs ls hP hD hS hl h
    refine lv_istore (lv' := [(4, .int y0), (1, .int x1)]) hx hb dX0_othersInTheWay_27 hl (by decide) rfl (fun ls hl => ?_)
    refine lv_iload hx hb dX0_othersInTheWay_29 (lv_at hl 0 rfl) ?_
    refine lv_iconst (v := 1) hx hb dX0_othersInTheWay_31 (by decide) ?_
    refine lv_iload_n hx hb dX0_othersInTheWay_32 rfl (lv_at hl 1 rfl) ?_
    refine lv_ishl hx hb dX0_othersInTheWay_33 ?_
    refine lv_iconst (v := (-1)) hx hb dX0_othersInTheWay_34 (by decide) ?_
    refine lv_ixor hx hb dX0_othersInTheWay_35 ?_
    refine lv_iand hx hb dX0_othersInTheWay_36 ?_
    exact hret _ _ _ _ _ () dX0_othersInTheWay_37 (vp_nar_int _) h hP hD hS
  have hS : va_S A s.heap s.heap [] := va_S.rf
  refine lv_iload_n hx hb dX0_othersInTheWay_0 rfl (lv_at hl 3 rfl) ?_
  refine lv_iconst (v := 2) hx hb dX0_othersInTheWay_1 (by decide) ?_
  refine lv_icmp_ne (tgt := 21) hx hb dX0_othersInTheWay_2 (by decide) (fun cd => ?_) (fun cd => ?_)
  · have h := h.2 cd
    refine lv_aload_n hx hb dX0_othersInTheWay_21 rfl (lv_at hl 0 rfl) ?_
    refine va_get (D := (dC, dI)) (ci := 0) (v := .ref (q0 1)) (C := RX0) (T := TX0) (N := 7) hx hb hts inX0_othersInTheWay_0 hown hK hP 0 rfl rfl 0 (by decide) (hts _ kX0_othersInTheWay_0) (fun _ h9 => h9) rfl dX0_othersInTheWay_22 ?_
    refine lv_iload_n hx hb dX0_othersInTheWay_25 rfl (lv_at hl 2 rfl) ?_
    refine va_iald hx hb hK hP 1 0 rfl rfl h.1 dX0_othersInTheWay_26 ?_
    have h := h.2
    exact w_27 x1 ((g0_wrote u0) x2.toNatClampNeg) _ _ _ hP hD hS (lv_sub hl [1] rfl) h
  · have h := h.1 cd
    refine lv_aload_n hx hb dX0_othersInTheWay_5 rfl (lv_at hl 0 rfl) ?_
    refine va_get (D := (dC, dI)) (ci := 0) (v := .ref (q0 1)) (C := RX0) (T := TX0) (N := 7) hx hb hts inX0_othersInTheWay_0 hown hK hP 0 rfl rfl 0 (by decide) (hts _ kX0_othersInTheWay_0) (fun _ h9 => h9) rfl dX0_othersInTheWay_6 ?_
    refine lv_iload_n hx hb dX0_othersInTheWay_9 rfl (lv_at hl 2 rfl) ?_
    refine va_iald hx hb hK hP 1 0 rfl rfl h.1 dX0_othersInTheWay_10 ?_
    have h := h.2
    refine lv_aload_n hx hb dX0_othersInTheWay_11 rfl (lv_at hl 0 rfl) ?_
    refine va_get (D := (dC, dI)) (ci := 0) (v := .ref (q0 2)) (C := RX0) (T := TX0) (N := 7) hx hb hts inX0_othersInTheWay_0 hown hK hP 0 rfl rfl 1 (by decide) (hts _ kX0_othersInTheWay_1) (fun _ h9 => h9) rfl dX0_othersInTheWay_12 ?_
    refine lv_iload_n hx hb dX0_othersInTheWay_15 rfl (lv_at hl 2 rfl) ?_
    refine va_iald hx hb hK hP 2 0 rfl rfl h.1 dX0_othersInTheWay_16 ?_
    have h := h.2
    refine lv_ior hx hb dX0_othersInTheWay_17 ?_
    refine lv_goto (tgt := 27) hx hb dX0_othersInTheWay_18 (by decide) ?_
    exact w_27 x1 (((g0_wrote u0) x2.toNatClampNeg) ||| ((g0_added u0) x2.toNatClampNeg)) _ _ _ hP hD hS (lv_sub hl [1] rfl) h

abbrev rX0_claim : Room := { frames := 0, cells := 0, slots := 0, locals := 0 }
theorem hdX0_claim : yX0_claim.cls = RX0 ∧ yX0_claim.cls ≠ "java/lang/invoke/MethodHandle" ∧ yX0_claim.cls ≠ "java/lang/invoke/VarHandle" ∧ (parseMethodDescriptor yX0_claim.desc).map (fun d => d.parameters.length) = some 3 := by decide +kernel
theorem inX0_claim_0 : ∀ w ∈ wsX00, w ∈ wsX0_claim := by decide +kernel
theorem kX0_claim_0 : Cond.fieldLink RX0 15 "AheadStore$Claims" "added" "[I" ∈ wsX0_claim := by decide +kernel
theorem kX0_claim_1 : Cond.fieldLink RX0 9 "AheadStore$Claims" "wrote" "[I" ∈ wsX0_claim := by decide +kernel
set_option maxHeartbeats 4000000 in
set_option maxRecDepth 100000 in
theorem c_X0_claim {l : Launch} {dC : Nat → ClassId} {dI : Nat → Nat → Nat} {cI : ClassId} {q0 : Nat → Nat} {sz : Nat} {u0 : S0} {x1 : Int32} {x2 : Int32} {x3 : Int32} {Q : S0 → Prop} (h : wp_X0_claim u0 x1 x2 x3 Q) : ctV sxE l yX0_claim wsX0_claim rX0_claim (dC, dI) vwCl [(cI, .int)] [.ref (q0 0), .int x1, .int x2, .int x3] (cs0 cI q0 u0) sz (fun (v : S0) => Q v) (fun (v : S0) => cs0 cI q0 v) := by
  refine mx_v (cc := cX0_claim) (maxL := 4) (by decide) rfl (Nat.le_of_ble_eq_true rfl) ?_
  intro p e s m below meth c Z A ls args hx hb hml hown hts hA hP hK hD hE hl hret
  have hown : s.vm.findClass RX0 = some m.cls := hown
  have hl : lv_has ls 4 [(0, .ref (q0 0)), (1, .int x1), (2, .int x2), (3, .int x3)] := hl
  have hS : va_S A s.heap s.heap [] := va_S.rf
  refine lv_iload_n hx hb dX0_claim_0 rfl (lv_at hl 3 rfl) ?_
  refine lv_iconst (v := 2) hx hb dX0_claim_1 (by decide) ?_
  refine lv_icmp_ne (tgt := 20) hx hb dX0_claim_2 (by decide) (fun cd => ?_) (fun cd => ?_)
  · have h := h.2 cd
    refine lv_aload_n hx hb dX0_claim_20 rfl (lv_at hl 0 rfl) ?_
    refine va_get (D := (dC, dI)) (ci := 0) (v := .ref (q0 2)) (C := RX0) (T := TX0) (N := 7) hx hb hts inX0_claim_0 hown hK hP 0 rfl rfl 1 (by decide) (hts _ kX0_claim_0) (fun _ h9 => h9) rfl dX0_claim_21 ?_
    refine lv_iload_n hx hb dX0_claim_24 rfl (lv_at hl 2 rfl) ?_
    refine lv_dup2_11 hx hb dX0_claim_25 rfl rfl ?_
    refine va_iald hx hb hK hP 2 0 rfl rfl h.1 dX0_claim_26 ?_
    have h := h.2
    refine lv_iconst (v := 1) hx hb dX0_claim_27 (by decide) ?_
    refine lv_iload_n hx hb dX0_claim_28 rfl (lv_at hl 1 rfl) ?_
    refine lv_ishl hx hb dX0_claim_29 ?_
    refine lv_ior hx hb dX0_claim_30 ?_
    refine va_iast hx hb hK hP hD hS 2 0 rfl rfl h.1 dX0_claim_31 (fun H locs hP hD hS => ?_)
    have h := h.2
    obtain ⟨u0_1, e_u0_1⟩ : ∃ z, z = s0_added u0 (upd (g0_added u0) x2.toNatClampNeg (((g0_added u0) x2.toNatClampNeg) ||| (1 <<< (x1 &&& 31)))) := ⟨_, rfl⟩
    have h := h u0_1 e_u0_1
    have hP : va_P (dC, dI) vwCl (cs0 cI q0 u0_1) H := by rw [e_u0_1]; exact hP
    have hD : va_D A (cs0 cI q0 u0_1) := by rw [e_u0_1]; exact hD
    exact hret _ _ _ _ u0_1 dX0_claim_32 h hP hD hS
  · have h := h.1 cd
    refine lv_aload_n hx hb dX0_claim_5 rfl (lv_at hl 0 rfl) ?_
    refine va_get (D := (dC, dI)) (ci := 0) (v := .ref (q0 1)) (C := RX0) (T := TX0) (N := 7) hx hb hts inX0_claim_0 hown hK hP 0 rfl rfl 0 (by decide) (hts _ kX0_claim_1) (fun _ h9 => h9) rfl dX0_claim_6 ?_
    refine lv_iload_n hx hb dX0_claim_9 rfl (lv_at hl 2 rfl) ?_
    refine lv_dup2_11 hx hb dX0_claim_10 rfl rfl ?_
    refine va_iald hx hb hK hP 1 0 rfl rfl h.1 dX0_claim_11 ?_
    have h := h.2
    refine lv_iconst (v := 1) hx hb dX0_claim_12 (by decide) ?_
    refine lv_iload_n hx hb dX0_claim_13 rfl (lv_at hl 1 rfl) ?_
    refine lv_ishl hx hb dX0_claim_14 ?_
    refine lv_ior hx hb dX0_claim_15 ?_
    refine va_iast hx hb hK hP hD hS 1 0 rfl rfl h.1 dX0_claim_16 (fun H locs hP hD hS => ?_)
    have h := h.2
    obtain ⟨u0_2, e_u0_2⟩ : ∃ z, z = s0_wrote u0 (upd (g0_wrote u0) x2.toNatClampNeg (((g0_wrote u0) x2.toNatClampNeg) ||| (1 <<< (x1 &&& 31)))) := ⟨_, rfl⟩
    have h := h u0_2 e_u0_2
    have hP : va_P (dC, dI) vwCl (cs0 cI q0 u0_2) H := by rw [e_u0_2]; exact hP
    have hD : va_D A (cs0 cI q0 u0_2) := by rw [e_u0_2]; exact hD
    refine lv_goto (tgt := 32) hx hb dX0_claim_17 (by decide) ?_
    exact hret _ _ _ _ u0_2 dX0_claim_32 h hP hD hS

abbrev rX0_anyIn : Room := { frames := 0, cells := 0, slots := 0, locals := 0 }
theorem hdX0_anyIn : yX0_anyIn.cls = RX0 ∧ yX0_anyIn.cls ≠ "java/lang/invoke/MethodHandle" ∧ yX0_anyIn.cls ≠ "java/lang/invoke/VarHandle" ∧ (parseMethodDescriptor yX0_anyIn.desc).map (fun d => d.parameters.length) = some 1 := by decide +kernel
theorem inX0_anyIn_0 : ∀ w ∈ wsX00, w ∈ wsX0_anyIn := by decide +kernel
theorem kX0_anyIn_0 : Cond.fieldLink RX0 15 "AheadStore$Claims" "added" "[I" ∈ wsX0_anyIn := by decide +kernel
theorem kX0_anyIn_1 : Cond.fieldLink RX0 9 "AheadStore$Claims" "wrote" "[I" ∈ wsX0_anyIn := by decide +kernel
set_option maxHeartbeats 4000000 in
set_option maxRecDepth 100000 in
theorem c_X0_anyIn {l : Launch} {dC : Nat → ClassId} {dI : Nat → Nat → Nat} {cI : ClassId} {q0 : Nat → Nat} {sz : Nat} {u0 : S0} {x1 : Int32} {Q : Int32 → Prop} (h : wp_X0_anyIn u0 x1 Q) : ctI sxE l yX0_anyIn wsX0_anyIn rX0_anyIn (dC, dI) vwCl [(cI, .int)] [.ref (q0 0), .int x1] (cs0 cI q0 u0) sz (fun (r : Int32) (_ : Unit) => Q r) (fun (_ : Unit) => cs0 cI q0 u0) := by
  refine mx_i (cc := cX0_anyIn) (maxL := 3) (ty := .boolean) (by decide) rfl (Nat.le_of_ble_eq_true rfl) ?_
  intro p e s m below meth c Z A ls args hx hb hml hown hts hA hP hK hD hE hl hret
  have hown : s.vm.findClass RX0 = some m.cls := hown
  have hl : lv_has ls 3 [(0, .ref (q0 0)), (1, .int x1)] := hl
  have w_5 : ∀ (n : Nat) (x1 : Int32) (x2 : Int32) (H : Heap) (locs : List Loc) (ls : Array Slot) (_ : va_P (dC, dI) vwCl (cs0 cI q0 u0) H) (_ : va_D A (cs0 cI q0 u0)) (_ : va_S A s.heap H locs) (_ : lv_has ls 3 [(0, .ref (q0 0)), (1, .int x1), (2, .int x2)]) (_ : wp_X0_anyIn_5 u0 Q n x1 x2), W p l e rX0_anyIn s m args below meth c H locs 0 0 Z (F0 m 5 ls []) := by
    intro n
    induction n with
    | zero => intro x1 x2 H locs ls hP hD hS hl h; exact False.elim h
    | succ n ih =>
      intro x1 x2 H locs ls hP hD hS hl h
      refine lv_iload_n hx hb dX0_anyIn_5 rfl (lv_at hl 2 rfl) ?_
      refine lv_iload_n hx hb dX0_anyIn_6 rfl (lv_at hl 1 rfl) ?_
      refine lv_iconst (v := 1) hx hb dX0_anyIn_7 (by decide) ?_
      refine lv_iadd hx hb dX0_anyIn_8 ?_
      refine lv_bipush (v := 16) hx hb dX0_anyIn_9 (by decide) ?_
      refine lv_imul hx hb dX0_anyIn_11 ?_
      refine lv_icmp_ge (tgt := 39) hx hb dX0_anyIn_12 (by decide) (fun cd => ?_) (fun cd => ?_)
      · have h := h.1 cd
        refine lv_iconst (v := 0) hx hb dX0_anyIn_39 (by decide) ?_
        exact hret _ _ _ _ _ () dX0_anyIn_40 (by decide) h hP hD hS
      · have h := h.2 cd
        refine lv_aload_n hx hb dX0_anyIn_15 rfl (lv_at hl 0 rfl) ?_
        refine va_get (D := (dC, dI)) (ci := 0) (v := .ref (q0 1)) (C := RX0) (T := TX0) (N := 7) hx hb hts inX0_anyIn_0 hown hK hP 0 rfl rfl 0 (by decide) (hts _ kX0_anyIn_1) (fun _ h9 => h9) rfl dX0_anyIn_16 ?_
        refine lv_iload_n hx hb dX0_anyIn_19 rfl (lv_at hl 2 rfl) ?_
        refine va_iald hx hb hK hP 1 0 rfl rfl h.1 dX0_anyIn_20 ?_
        have h := h.2
        refine lv_aload_n hx hb dX0_anyIn_21 rfl (lv_at hl 0 rfl) ?_
        refine va_get (D := (dC, dI)) (ci := 0) (v := .ref (q0 2)) (C := RX0) (T := TX0) (N := 7) hx hb hts inX0_anyIn_0 hown hK hP 0 rfl rfl 1 (by decide) (hts _ kX0_anyIn_0) (fun _ h9 => h9) rfl dX0_anyIn_22 ?_
        refine lv_iload_n hx hb dX0_anyIn_25 rfl (lv_at hl 2 rfl) ?_
        refine va_iald hx hb hK hP 2 0 rfl rfl h.1 dX0_anyIn_26 ?_
        have h := h.2
        refine lv_ior hx hb dX0_anyIn_27 ?_
        refine lv_if_eq (tgt := 33) hx hb dX0_anyIn_28 (by decide) (fun cd => ?_) (fun cd => ?_)
        · have h := h.1 cd
          obtain ⟨x2_1, e_x2_1⟩ : ∃ z : Int32, z = x2 + 1 := ⟨_, rfl⟩
          have h := h x2_1 e_x2_1
          refine lv_iinc (v := x2_1) (lv' := [(2, .int x2_1), (0, .ref (q0 0)), (1, .int x1)]) hx hb dX0_anyIn_33 hl (k := 2) rfl (by rw [e_x2_1]; rfl) (by decide) rfl (fun ls hl => ?_)
          refine lv_goto (tgt := 5) hx hb dX0_anyIn_36 (by decide) ?_
          exact ih x1 x2_1 _ _ _ hP hD hS (lv_sub hl [1, 2, 0] rfl) h
        · have h := h.2 cd
          refine lv_iconst (v := 1) hx hb dX0_anyIn_31 (by decide) ?_
          exact hret _ _ _ _ _ () dX0_anyIn_32 (by decide) h hP hD hS
  have hS : va_S A s.heap s.heap [] := va_S.rf
  refine lv_iload_n hx hb dX0_anyIn_0 rfl (lv_at hl 1 rfl) ?_
  refine lv_bipush (v := 16) hx hb dX0_anyIn_1 (by decide) ?_
  refine lv_imul hx hb dX0_anyIn_3 ?_
  refine lv_topi (fun x2_2 e_x2_2 => ?_)
  have h := h x2_2 e_x2_2
  refine lv_istore_n (lv' := [(2, .int x2_2), (0, .ref (q0 0)), (1, .int x1)]) hx hb dX0_anyIn_4 rfl hl (by decide) rfl (fun ls hl => ?_)
  obtain ⟨n0, h⟩ := h
  exact w_5 n0 x1 x2_2 _ _ _ hP hD hS (lv_sub hl [1, 2, 0] rfl) h

set_option maxRecDepth 100000 in
theorem cut_3 (cI : ClassId) (q0 : Nat → Nat) (u0 : S0) : Cut (cs0 cI q0 u0) (cs0 cI q0 u0) (fun v : S0 => cs0 cI q0 v) (fun v : S0 => cs0 cI q0 v) := ⟨[0, 1, 2, 3, 4, 5, 6, 7], [], rfl, rfl, rfl, by decide, by decide, fun v => ⟨[0, 1, 2, 3, 4, 5, 6, 7], rfl, rfl⟩⟩

abbrev rX0_forget : Room := { frames := 1, cells := 0, slots := 0, locals := 21 }
theorem hdX0_forget : yX0_forget.cls = RX0 ∧ yX0_forget.cls ≠ "java/lang/invoke/MethodHandle" ∧ yX0_forget.cls ≠ "java/lang/invoke/VarHandle" ∧ (parseMethodDescriptor yX0_forget.desc).map (fun d => d.parameters.length) = some 1 := by decide +kernel
theorem inX0_forget_0 : ∀ w ∈ wsX00, w ∈ wsX0_forget := by decide +kernel
theorem kX0_forget_0 : Cond.fieldLink RX0 15 "AheadStore$Claims" "added" "[I" ∈ wsX0_forget := by decide +kernel
theorem kX0_forget_1 : Cond.fieldLink RX0 9 "AheadStore$Claims" "wrote" "[I" ∈ wsX0_forget := by decide +kernel
theorem kX0_forget_2 : Cond.fieldLink RX0 18 "AheadStore$Claims" "waits" "[I" ∈ wsX0_forget := by decide +kernel
set_option maxHeartbeats 4000000 in
set_option maxRecDepth 100000 in
theorem c_X0_forget {l : Launch} {dC : Nat → ClassId} {dI : Nat → Nat → Nat} {cI : ClassId} {q0 : Nat → Nat} {sz : Nat} {u0 : S0} {x1 : Int32} {Q : S0 → Prop} (h : wp_X0_forget u0 x1 Q) : ctV sxE l yX0_forget wsX0_forget rX0_forget (dC, dI) vwCl [(cI, .int)] [.ref (q0 0), .int x1] (cs0 cI q0 u0) sz (fun (v : S0) => Q v) (fun (v : S0) => cs0 cI q0 v) := by
  refine mx_v (cc := cX0_forget) (maxL := 4) (by decide) rfl (Nat.le_of_ble_eq_true rfl) ?_
  intro p e s m below meth c Z A ls args hx hb hml hown hts hA hP hK hD hE hl hret
  have hown : s.vm.findClass RX0 = some m.cls := hown
  have hl : lv_has ls 4 [(0, .ref (q0 0)), (1, .int x1)] := hl
  have w_44 : ∀ (n : Nat) (x2 : Int32) (x3 : Int32) (u0 : S0) (H : Heap) (locs : List Loc) (ls : Array Slot) (_ : va_P (dC, dI) vwCl (cs0 cI q0 u0) H) (_ : va_D A (cs0 cI q0 u0)) (_ : va_S A s.heap H locs) (_ : lv_has ls 4 [(0, .ref (q0 0)), (2, .int x2), (3, .int x3)]) (_ : wp_X0_forget_44 Q n x2 x3 u0), W p l e rX0_forget s m args below meth c H locs 0 0 Z (F0 m 44 ls []) := by
    intro n
    induction n with
    | zero => intro x2 x3 u0 H locs ls hP hD hS hl h; exact False.elim h
    | succ n ih =>
      intro x2 x3 u0 H locs ls hP hD hS hl h
      refine lv_iload_n hx hb dX0_forget_44 rfl (lv_at hl 2 rfl) ?_
      refine lv_sipush (v := 256) hx hb dX0_forget_45 (by decide) ?_
      refine lv_icmp_ge (tgt := 77) hx hb dX0_forget_48 (by decide) (fun cd => ?_) (fun cd => ?_)
      · have h := h.1 cd
        exact hret _ _ _ _ u0 dX0_forget_77 h hP hD hS
      · have h := h.2 cd
        refine lv_aload_n hx hb dX0_forget_51 rfl (lv_at hl 0 rfl) ?_
        refine va_get (D := (dC, dI)) (ci := 0) (v := .ref (q0 1)) (C := RX0) (T := TX0) (N := 7) hx hb hts inX0_forget_0 hown hK hP 0 rfl rfl 0 (by decide) (hts _ kX0_forget_1) (fun _ h9 => h9) rfl dX0_forget_52 ?_
        refine lv_iload_n hx hb dX0_forget_55 rfl (lv_at hl 2 rfl) ?_
        refine lv_dup2_11 hx hb dX0_forget_56 rfl rfl ?_
        refine va_iald hx hb hK hP 1 0 rfl rfl h.1 dX0_forget_57 ?_
        have h := h.2
        refine lv_iload_n hx hb dX0_forget_58 rfl (lv_at hl 1 rfl) ?_
        refine lv_iand hx hb dX0_forget_59 ?_
        refine va_iast hx hb hK hP hD hS 1 0 rfl rfl h.1 dX0_forget_60 (fun H locs hP hD hS => ?_)
        have h := h.2
        obtain ⟨u0_1, e_u0_1⟩ : ∃ z, z = s0_wrote u0 (upd (g0_wrote u0) x3.toNatClampNeg (((g0_wrote u0) x3.toNatClampNeg) &&& x2)) := ⟨_, rfl⟩
        have h := h u0_1 e_u0_1
        have hP : va_P (dC, dI) vwCl (cs0 cI q0 u0_1) H := by rw [e_u0_1]; exact hP
        have hD : va_D A (cs0 cI q0 u0_1) := by rw [e_u0_1]; exact hD
        refine lv_aload_n hx hb dX0_forget_61 rfl (lv_at hl 0 rfl) ?_
        refine va_get (D := (dC, dI)) (ci := 0) (v := .ref (q0 2)) (C := RX0) (T := TX0) (N := 7) hx hb hts inX0_forget_0 hown hK hP 0 rfl rfl 1 (by decide) (hts _ kX0_forget_0) (fun _ h9 => h9) rfl dX0_forget_62 ?_
        refine lv_iload_n hx hb dX0_forget_65 rfl (lv_at hl 2 rfl) ?_
        refine lv_dup2_11 hx hb dX0_forget_66 rfl rfl ?_
        refine va_iald hx hb hK hP 2 0 rfl rfl h.1 dX0_forget_67 ?_
        have h := h.2
        refine lv_iload_n hx hb dX0_forget_68 rfl (lv_at hl 1 rfl) ?_
        refine lv_iand hx hb dX0_forget_69 ?_
        refine va_iast hx hb hK hP hD hS 2 0 rfl rfl h.1 dX0_forget_70 (fun H locs hP hD hS => ?_)
        have h := h.2
        obtain ⟨u0_2, e_u0_2⟩ : ∃ z, z = s0_added u0_1 (upd (g0_added u0_1) x3.toNatClampNeg (((g0_added u0_1) x3.toNatClampNeg) &&& x2)) := ⟨_, rfl⟩
        have h := h u0_2 e_u0_2
        have hP : va_P (dC, dI) vwCl (cs0 cI q0 u0_2) H := by rw [e_u0_2]; exact hP
        have hD : va_D A (cs0 cI q0 u0_2) := by rw [e_u0_2]; exact hD
        obtain ⟨x3_3, e_x3_3⟩ : ∃ z : Int32, z = x3 + 1 := ⟨_, rfl⟩
        have h := h x3_3 e_x3_3
        refine lv_iinc (v := x3_3) (lv' := [(3, .int x3_3), (0, .ref (q0 0)), (2, .int x2)]) hx hb dX0_forget_71 hl (k := 2) rfl (by rw [e_x3_3]; rfl) (by decide) rfl (fun ls hl => ?_)
        refine lv_goto (tgt := 44) hx hb dX0_forget_74 (by decide) ?_
        exact ih x2 x3_3 u0_2 _ _ _ hP hD hS (lv_sub hl [1, 2, 0] rfl) h
  have w_20 : ∀ (n : Nat) (x2 : Int32) (x3 : Int32) (u0 : S0) (H : Heap) (locs : List Loc) (ls : Array Slot) (_ : va_P (dC, dI) vwCl (cs0 cI q0 u0) H) (_ : va_D A (cs0 cI q0 u0)) (_ : va_S A s.heap H locs) (_ : lv_has ls 4 [(0, .ref (q0 0)), (2, .int x2), (3, .int x3)]) (_ : wp_X0_forget_20 Q n x2 x3 u0), W p l e rX0_forget s m args below meth c H locs 0 0 Z (F0 m 20 ls []) := by
    intro n
    induction n with
    | zero => intro x2 x3 u0 H locs ls hP hD hS hl h; exact False.elim h
    | succ n ih =>
      intro x2 x3 u0 H locs ls hP hD hS hl h
      refine lv_iload_n hx hb dX0_forget_20 rfl (lv_at hl 2 rfl) ?_
      refine lv_bipush (v := 9) hx hb dX0_forget_21 (by decide) ?_
      refine lv_icmp_gt (tgt := 42) hx hb dX0_forget_23 (by decide) (fun cd => ?_) (fun cd => ?_)
      · have h := h.1 cd
        refine lv_iconst (v := 0) hx hb dX0_forget_42 (by decide) ?_
        refine lv_istore_n (lv' := [(3, .int 0), (0, .ref (q0 0)), (2, .int x2)]) hx hb dX0_forget_43 rfl hl (by decide) rfl (fun ls hl => ?_)
        obtain ⟨n0, h⟩ := h
        exact w_44 n0 x2 0 u0 _ _ _ hP hD hS (lv_sub hl [1, 2, 0] rfl) h
      · have h := h.2 cd
        refine lv_aload_n hx hb dX0_forget_26 rfl (lv_at hl 0 rfl) ?_
        refine va_get (D := (dC, dI)) (ci := 0) (v := .ref (q0 3)) (C := RX0) (T := TX0) (N := 7) hx hb hts inX0_forget_0 hown hK hP 0 rfl rfl 2 (by decide) (hts _ kX0_forget_2) (fun _ h9 => h9) rfl dX0_forget_27 ?_
        refine lv_iload_n hx hb dX0_forget_30 rfl (lv_at hl 2 rfl) ?_
        refine lv_dup2_11 hx hb dX0_forget_31 rfl rfl ?_
        refine va_iald hx hb hK hP 3 0 rfl rfl h.1 dX0_forget_32 ?_
        have h := h.2
        refine lv_iload_n hx hb dX0_forget_33 rfl (lv_at hl 1 rfl) ?_
        refine lv_iand hx hb dX0_forget_34 ?_
        refine va_iast hx hb hK hP hD hS 3 0 rfl rfl h.1 dX0_forget_35 (fun H locs hP hD hS => ?_)
        have h := h.2
        obtain ⟨u0_5, e_u0_5⟩ : ∃ z, z = s0_waits u0 (upd (g0_waits u0) x3.toNatClampNeg (((g0_waits u0) x3.toNatClampNeg) &&& x2)) := ⟨_, rfl⟩
        have h := h u0_5 e_u0_5
        have hP : va_P (dC, dI) vwCl (cs0 cI q0 u0_5) H := by rw [e_u0_5]; exact hP
        have hD : va_D A (cs0 cI q0 u0_5) := by rw [e_u0_5]; exact hD
        obtain ⟨x3_6, e_x3_6⟩ : ∃ z : Int32, z = x3 + 1 := ⟨_, rfl⟩
        have h := h x3_6 e_x3_6
        refine lv_iinc (v := x3_6) (lv' := [(3, .int x3_6), (0, .ref (q0 0)), (2, .int x2)]) hx hb dX0_forget_36 hl (k := 2) rfl (by rw [e_x3_6]; rfl) (by decide) rfl (fun ls hl => ?_)
        refine lv_goto (tgt := 20) hx hb dX0_forget_39 (by decide) ?_
        exact ih x2 x3_6 u0_5 _ _ _ hP hD hS (lv_sub hl [1, 2, 0] rfl) h
  have hS : va_S A s.heap s.heap [] := va_S.rf
  refine lv_iconst (v := 1) hx hb dX0_forget_0 (by decide) ?_
  refine lv_iload_n hx hb dX0_forget_1 rfl (lv_at hl 1 rfl) ?_
  refine lv_ishl hx hb dX0_forget_2 ?_
  refine lv_iconst (v := (-1)) hx hb dX0_forget_3 (by decide) ?_
  refine lv_ixor hx hb dX0_forget_4 ?_
  refine lv_topi (fun x2_7 e_x2_7 => ?_)
  have h := h x2_7 e_x2_7
  refine lv_istore_n (lv' := [(2, .int x2_7), (0, .ref (q0 0)), (1, .int x1)]) hx hb dX0_forget_5 rfl hl (by decide) rfl (fun ls hl => ?_)
  refine lv_aload_n hx hb dX0_forget_6 rfl (lv_at hl 1 rfl) ?_
  refine lv_iload_n hx hb dX0_forget_7 rfl (lv_at hl 2 rfl) ?_
  refine cx_vv (As := [.int x1]) (rest := []) ⟨hx, hb, hml, hown, hts⟩ hl.1 ok_sxE hE hK hP hD hS hA (cut_3 cI q0 u0) (c_X0_dropMarks (l := l) (dC := dC) (dI := dI) (cI := cI) (q0 := q0) h) (cwV 1 hts gX0_forget_X0_dropMarks rfl rfl rfl hdX0_dropMarks ⟨Nat.le_of_ble_eq_true rfl, Nat.le_of_ble_eq_true rfl⟩) rfl rfl rfl rfl (Nat.le_of_ble_eq_true rfl) dX0_forget_8 rfl (fun v_8 H locs h hP hD hS => ?_)
  have hP : va_P (dC, dI) vwCl (cs0 cI q0 v_8) H :=  hP
  have hD : va_D A (cs0 cI q0 v_8) :=  hD
  refine lv_aload_n hx hb dX0_forget_11 rfl (lv_at hl 1 rfl) ?_
  refine va_get (D := (dC, dI)) (ci := 0) (v := .ref (q0 3)) (C := RX0) (T := TX0) (N := 7) hx hb hts inX0_forget_0 hown hK hP 0 rfl rfl 2 (by decide) (hts _ kX0_forget_2) (fun _ h9 => h9) rfl dX0_forget_12 ?_
  refine lv_iload_n hx hb dX0_forget_15 rfl (lv_at hl 2 rfl) ?_
  refine lv_iconst (v := 0) hx hb dX0_forget_16 (by decide) ?_
  refine va_iast hx hb hK hP hD hS 3 0 rfl rfl h.1 dX0_forget_17 (fun H locs hP hD hS => ?_)
  have h := h.2
  obtain ⟨u0_9, e_u0_9⟩ : ∃ z, z = s0_waits v_8 (upd (g0_waits v_8) x1.toNatClampNeg 0) := ⟨_, rfl⟩
  have h := h u0_9 e_u0_9
  have hP : va_P (dC, dI) vwCl (cs0 cI q0 u0_9) H := by rw [e_u0_9]; exact hP
  have hD : va_D A (cs0 cI q0 u0_9) := by rw [e_u0_9]; exact hD
  refine lv_iconst (v := 1) hx hb dX0_forget_18 (by decide) ?_
  refine lv_istore_n (lv' := [(3, .int 1), (2, .int x2_7), (0, .ref (q0 0)), (1, .int x1)]) hx hb dX0_forget_19 rfl hl (by decide) rfl (fun ls hl => ?_)
  obtain ⟨n0, h⟩ := h
  exact w_20 n0 x2_7 1 u0_9 _ _ _ hP hD hS (lv_sub hl [2, 1, 0] rfl) h

set_option maxRecDepth 100000 in
theorem cut_4 (cI : ClassId) (q0 : Nat → Nat) (u0 : S0) : Cut (cs0 cI q0 u0) ([((fun i => q0 (i + 5)) 0, .inl (cI, 10, .inl (g0_topCount u0)))]) (fun v : (Nat → Int32) => [((fun i => q0 (i + 5)) 0, .inl (cI, 10, .inl v))]) (fun v : (Nat → Int32) => cs0 cI q0 (s0_topCount u0 v)) := ⟨[5], [0, 1, 2, 3, 4, 6, 7], rfl, rfl, rfl, by decide, by decide, fun v => ⟨[0, 1, 2, 3, 4, 7, 5, 6], rfl, rfl⟩⟩

set_option maxRecDepth 100000 in
theorem cut_5 (cI : ClassId) (q0 : Nat → Nat) (u0 : S0) : Cut (cs0 cI q0 u0) ([((fun i => q0 (i + 4)) 0, .inl (cI, 10, .inl (g0_saveCount u0)))]) (fun v : (Nat → Int32) => [((fun i => q0 (i + 4)) 0, .inl (cI, 10, .inl v))]) (fun v : (Nat → Int32) => cs0 cI q0 (s0_saveCount u0 v)) := ⟨[4], [0, 1, 2, 3, 5, 6, 7], rfl, rfl, rfl, by decide, by decide, fun v => ⟨[0, 1, 2, 3, 7, 4, 5, 6], rfl, rfl⟩⟩

set_option maxRecDepth 100000 in
theorem cut_6 (cI : ClassId) (q0 : Nat → Nat) (u0 : S0) : Cut (cs0 cI q0 u0) ([((fun i => q0 (i + 3)) 0, .inl (cI, 10, .inl (g0_waits u0)))]) (fun v : (Nat → Int32) => [((fun i => q0 (i + 3)) 0, .inl (cI, 10, .inl v))]) (fun v : (Nat → Int32) => cs0 cI q0 (s0_waits u0 v)) := ⟨[3], [0, 1, 2, 4, 5, 6, 7], rfl, rfl, rfl, by decide, by decide, fun v => ⟨[0, 1, 2, 7, 3, 4, 5, 6], rfl, rfl⟩⟩

set_option maxRecDepth 100000 in
theorem cut_7 (cI : ClassId) (q0 : Nat → Nat) (u0 : S0) : Cut (cs0 cI q0 u0) ([((fun i => q0 (i + 2)) 0, .inl (cI, 256, .inl (g0_added u0)))]) (fun v : (Nat → Int32) => [((fun i => q0 (i + 2)) 0, .inl (cI, 256, .inl v))]) (fun v : (Nat → Int32) => cs0 cI q0 (s0_added u0 v)) := ⟨[2], [0, 1, 3, 4, 5, 6, 7], rfl, rfl, rfl, by decide, by decide, fun v => ⟨[0, 1, 7, 2, 3, 4, 5, 6], rfl, rfl⟩⟩

set_option maxRecDepth 100000 in
theorem cut_8 (cI : ClassId) (q0 : Nat → Nat) (u0 : S0) : Cut (cs0 cI q0 u0) ([((fun i => q0 (i + 1)) 0, .inl (cI, 256, .inl (g0_wrote u0)))]) (fun v : (Nat → Int32) => [((fun i => q0 (i + 1)) 0, .inl (cI, 256, .inl v))]) (fun v : (Nat → Int32) => cs0 cI q0 (s0_wrote u0 v)) := ⟨[1], [0, 2, 3, 4, 5, 6, 7], rfl, rfl, rfl, by decide, by decide, fun v => ⟨[0, 7, 1, 2, 3, 4, 5, 6], rfl, rfl⟩⟩

abbrev rX0_clear : Room := { frames := 1, cells := 0, slots := 0, locals := 23 }
theorem hdX0_clear : yX0_clear.cls = RX0 ∧ yX0_clear.cls ≠ "java/lang/invoke/MethodHandle" ∧ yX0_clear.cls ≠ "java/lang/invoke/VarHandle" ∧ (parseMethodDescriptor yX0_clear.desc).map (fun d => d.parameters.length) = some 0 := by decide +kernel
theorem inX0_clear_0 : ∀ w ∈ wsX00, w ∈ wsX0_clear := by decide +kernel
theorem kX0_clear_0 : Cond.fieldLink RX0 24 "AheadStore$Claims" "topCount" "[I" ∈ wsX0_clear := by decide +kernel
theorem kX0_clear_1 : Cond.fieldLink RX0 21 "AheadStore$Claims" "saveCount" "[I" ∈ wsX0_clear := by decide +kernel
theorem kX0_clear_2 : Cond.fieldLink RX0 18 "AheadStore$Claims" "waits" "[I" ∈ wsX0_clear := by decide +kernel
theorem kX0_clear_3 : Cond.fieldLink RX0 15 "AheadStore$Claims" "added" "[I" ∈ wsX0_clear := by decide +kernel
theorem kX0_clear_4 : Cond.fieldLink RX0 9 "AheadStore$Claims" "wrote" "[I" ∈ wsX0_clear := by decide +kernel
set_option maxHeartbeats 4000000 in
set_option maxRecDepth 100000 in
theorem c_X0_clear {l : Launch} {dC : Nat → ClassId} {dI : Nat → Nat → Nat} {cI : ClassId} {q0 : Nat → Nat} {sz : Nat} {u0 : S0}  {Q : S0 → Prop} (h : wp_X0_clear u0 Q) : ctV sxE l yX0_clear wsX0_clear rX0_clear (dC, dI) vwCl [(cI, .int)] [.ref (q0 0)] (cs0 cI q0 u0) sz (fun (v : S0) => Q v) (fun (v : S0) => cs0 cI q0 v) := by
  refine mx_v (cc := cX0_clear) (maxL := 1) (by decide) rfl (Nat.le_of_ble_eq_true rfl) ?_
  intro p e s m below meth c Z A ls args hx hb hml hown hts hA hP hK hD hE hl hret
  have hown : s.vm.findClass RX0 = some m.cls := hown
  have hl : lv_has ls 1 [(0, .ref (q0 0))] := hl
  have hS : va_S A s.heap s.heap [] := va_S.rf
  refine lv_aload_n hx hb dX0_clear_0 rfl (lv_at hl 0 rfl) ?_
  refine va_get (D := (dC, dI)) (ci := 0) (v := .ref (q0 1)) (C := RX0) (T := TX0) (N := 7) hx hb hts inX0_clear_0 hown hK hP 0 rfl rfl 0 (by decide) (hts _ kX0_clear_4) (fun _ h9 => h9) rfl dX0_clear_1 ?_
  refine lv_iconst (v := 0) hx hb dX0_clear_4 (by decide) ?_
  refine cx_sv (As := [.ref (q0 1), .int 0]) (rest := []) ⟨hx, hb, hml, hown, hts⟩ hl.1 ok_noE trivial hK hP hD hS hA (cut_8 cI q0 u0) (c_J7_fill_53178 (l := l) (dC := dC) (dI := dI) (cI := cI) (q0 := fun i => q0 (i + 1)) h) (va_cwS 2 hts gX0_clear_J7_fill_53178 rfl rfl rfl hdJ7_fill_53178 ⟨Nat.le_of_ble_eq_true rfl, Nat.le_of_ble_eq_true rfl⟩) rfl (Nat.le_of_ble_eq_true rfl) dX0_clear_5 rfl (fun v_1 H locs h hP hD hS => ?_)
  obtain ⟨u0_2, e_u0_2⟩ : ∃ z, z = s0_wrote u0 v_1 := ⟨_, rfl⟩
  have h := h u0_2 e_u0_2
  have hP : va_P (dC, dI) vwCl (cs0 cI q0 u0_2) H := by rw [e_u0_2]; exact hP
  have hD : va_D A (cs0 cI q0 u0_2) := by rw [e_u0_2]; exact hD
  refine lv_aload_n hx hb dX0_clear_8 rfl (lv_at hl 0 rfl) ?_
  refine va_get (D := (dC, dI)) (ci := 0) (v := .ref (q0 2)) (C := RX0) (T := TX0) (N := 7) hx hb hts inX0_clear_0 hown hK hP 0 rfl rfl 1 (by decide) (hts _ kX0_clear_3) (fun _ h9 => h9) rfl dX0_clear_9 ?_
  refine lv_iconst (v := 0) hx hb dX0_clear_12 (by decide) ?_
  refine cx_sv (As := [.ref (q0 2), .int 0]) (rest := []) ⟨hx, hb, hml, hown, hts⟩ hl.1 ok_noE trivial hK hP hD hS hA (cut_7 cI q0 u0_2) (c_J7_fill_53178 (l := l) (dC := dC) (dI := dI) (cI := cI) (q0 := fun i => q0 (i + 2)) h) (va_cwS 2 hts gX0_clear_J7_fill_53178 rfl rfl rfl hdJ7_fill_53178 ⟨Nat.le_of_ble_eq_true rfl, Nat.le_of_ble_eq_true rfl⟩) rfl (Nat.le_of_ble_eq_true rfl) dX0_clear_13 rfl (fun v_3 H locs h hP hD hS => ?_)
  obtain ⟨u0_4, e_u0_4⟩ : ∃ z, z = s0_added u0_2 v_3 := ⟨_, rfl⟩
  have h := h u0_4 e_u0_4
  have hP : va_P (dC, dI) vwCl (cs0 cI q0 u0_4) H := by rw [e_u0_4]; exact hP
  have hD : va_D A (cs0 cI q0 u0_4) := by rw [e_u0_4]; exact hD
  refine lv_aload_n hx hb dX0_clear_16 rfl (lv_at hl 0 rfl) ?_
  refine va_get (D := (dC, dI)) (ci := 0) (v := .ref (q0 3)) (C := RX0) (T := TX0) (N := 7) hx hb hts inX0_clear_0 hown hK hP 0 rfl rfl 2 (by decide) (hts _ kX0_clear_2) (fun _ h9 => h9) rfl dX0_clear_17 ?_
  refine lv_iconst (v := 0) hx hb dX0_clear_20 (by decide) ?_
  refine cx_sv (As := [.ref (q0 3), .int 0]) (rest := []) ⟨hx, hb, hml, hown, hts⟩ hl.1 ok_noE trivial hK hP hD hS hA (cut_6 cI q0 u0_4) (c_J7_fill_53178 (l := l) (dC := dC) (dI := dI) (cI := cI) (q0 := fun i => q0 (i + 3)) h) (va_cwS 2 hts gX0_clear_J7_fill_53178 rfl rfl rfl hdJ7_fill_53178 ⟨Nat.le_of_ble_eq_true rfl, Nat.le_of_ble_eq_true rfl⟩) rfl (Nat.le_of_ble_eq_true rfl) dX0_clear_21 rfl (fun v_5 H locs h hP hD hS => ?_)
  obtain ⟨u0_6, e_u0_6⟩ : ∃ z, z = s0_waits u0_4 v_5 := ⟨_, rfl⟩
  have h := h u0_6 e_u0_6
  have hP : va_P (dC, dI) vwCl (cs0 cI q0 u0_6) H := by rw [e_u0_6]; exact hP
  have hD : va_D A (cs0 cI q0 u0_6) := by rw [e_u0_6]; exact hD
  refine lv_aload_n hx hb dX0_clear_24 rfl (lv_at hl 0 rfl) ?_
  refine va_get (D := (dC, dI)) (ci := 0) (v := .ref (q0 4)) (C := RX0) (T := TX0) (N := 7) hx hb hts inX0_clear_0 hown hK hP 0 rfl rfl 3 (by decide) (hts _ kX0_clear_1) (fun _ h9 => h9) rfl dX0_clear_25 ?_
  refine lv_iconst (v := 0) hx hb dX0_clear_28 (by decide) ?_
  refine cx_sv (As := [.ref (q0 4), .int 0]) (rest := []) ⟨hx, hb, hml, hown, hts⟩ hl.1 ok_noE trivial hK hP hD hS hA (cut_5 cI q0 u0_6) (c_J7_fill_53178 (l := l) (dC := dC) (dI := dI) (cI := cI) (q0 := fun i => q0 (i + 4)) h) (va_cwS 2 hts gX0_clear_J7_fill_53178 rfl rfl rfl hdJ7_fill_53178 ⟨Nat.le_of_ble_eq_true rfl, Nat.le_of_ble_eq_true rfl⟩) rfl (Nat.le_of_ble_eq_true rfl) dX0_clear_29 rfl (fun v_7 H locs h hP hD hS => ?_)
  obtain ⟨u0_8, e_u0_8⟩ : ∃ z, z = s0_saveCount u0_6 v_7 := ⟨_, rfl⟩
  have h := h u0_8 e_u0_8
  have hP : va_P (dC, dI) vwCl (cs0 cI q0 u0_8) H := by rw [e_u0_8]; exact hP
  have hD : va_D A (cs0 cI q0 u0_8) := by rw [e_u0_8]; exact hD
  refine lv_aload_n hx hb dX0_clear_32 rfl (lv_at hl 0 rfl) ?_
  refine va_get (D := (dC, dI)) (ci := 0) (v := .ref (q0 5)) (C := RX0) (T := TX0) (N := 7) hx hb hts inX0_clear_0 hown hK hP 0 rfl rfl 4 (by decide) (hts _ kX0_clear_0) (fun _ h9 => h9) rfl dX0_clear_33 ?_
  refine lv_iconst (v := 0) hx hb dX0_clear_36 (by decide) ?_
  refine cx_sv (As := [.ref (q0 5), .int 0]) (rest := []) ⟨hx, hb, hml, hown, hts⟩ hl.1 ok_noE trivial hK hP hD hS hA (cut_4 cI q0 u0_8) (c_J7_fill_53178 (l := l) (dC := dC) (dI := dI) (cI := cI) (q0 := fun i => q0 (i + 5)) h) (va_cwS 2 hts gX0_clear_J7_fill_53178 rfl rfl rfl hdJ7_fill_53178 ⟨Nat.le_of_ble_eq_true rfl, Nat.le_of_ble_eq_true rfl⟩) rfl (Nat.le_of_ble_eq_true rfl) dX0_clear_37 rfl (fun v_9 H locs h hP hD hS => ?_)
  obtain ⟨u0_10, e_u0_10⟩ : ∃ z, z = s0_topCount u0_8 v_9 := ⟨_, rfl⟩
  have h := h u0_10 e_u0_10
  have hP : va_P (dC, dI) vwCl (cs0 cI q0 u0_10) H := by rw [e_u0_10]; exact hP
  have hD : va_D A (cs0 cI q0 u0_10) := by rw [e_u0_10]; exact hD
  exact hret _ _ _ _ u0_10 dX0_clear_40 h hP hD hS

abbrev rX0_deadlocked : Room := { frames := 0, cells := 0, slots := 0, locals := 0 }
theorem hdX0_deadlocked : yX0_deadlocked.cls = RX0 ∧ yX0_deadlocked.cls ≠ "java/lang/invoke/MethodHandle" ∧ yX0_deadlocked.cls ≠ "java/lang/invoke/VarHandle" ∧ (parseMethodDescriptor yX0_deadlocked.desc).map (fun d => d.parameters.length) = some 1 := by decide +kernel
theorem inX0_deadlocked_0 : ∀ w ∈ wsX00, w ∈ wsX0_deadlocked := by decide +kernel
theorem kX0_deadlocked_0 : Cond.fieldLink RX0 18 "AheadStore$Claims" "waits" "[I" ∈ wsX0_deadlocked := by decide +kernel
set_option maxHeartbeats 4000000 in
set_option maxRecDepth 100000 in
theorem c_X0_deadlocked {l : Launch} {dC : Nat → ClassId} {dI : Nat → Nat → Nat} {cI : ClassId} {q0 : Nat → Nat} {sz : Nat} {u0 : S0} {x1 : Int32} {Q : Int32 → Prop} (h : wp_X0_deadlocked u0 x1 Q) : ctI sxE l yX0_deadlocked wsX0_deadlocked rX0_deadlocked (dC, dI) vwCl [(cI, .int)] [.ref (q0 0), .int x1] (cs0 cI q0 u0) sz (fun (r : Int32) (_ : Unit) => Q r) (fun (_ : Unit) => cs0 cI q0 u0) := by
  refine mx_i (cc := cX0_deadlocked) (maxL := 5) (ty := .boolean) (by decide) rfl (Nat.le_of_ble_eq_true rfl) ?_
  intro p e s m below meth c Z A ls args hx hb hml hown hts hA hP hK hD hE hl hret
  have hown : s.vm.findClass RX0 = some m.cls := hown
  have hl : lv_has ls 5 [(0, .ref (q0 0)), (1, .int x1)] := hl
  have w_45 : ∀ (k_18 : Int32 → Int32 → Int32 → Int32 → Prop) (hk_18 : ∀ (x1 : Int32) (x2 : Int32) (x3 : Int32) (x4 : Int32) (H : Heap) (locs : List Loc) (ls : Array Slot) (_ : va_P (dC, dI) vwCl (cs0 cI q0 u0) H) (_ : va_D A (cs0 cI q0 u0)) (_ : va_S A s.heap H locs) (_ : lv_has ls 5 [(0, .ref (q0 0)), (1, .int x1), (2, .int x2), (3, .int x3), (4, .int x4)]) (_ : k_18 x1 x2 x3 x4), W p l e rX0_deadlocked s m args below meth c H locs 0 0 Z (F0 m 18 ls [])) (x1 : Int32) (x2 : Int32) (x3 : Int32) (x4 : Int32) (H : Heap) (locs : List Loc) (ls : Array Slot) (_ : va_P (dC, dI) vwCl (cs0 cI q0 u0) H) (_ : va_D A (cs0 cI q0 u0)) (_ : va_S A s.heap H locs) (_ : lv_has ls 5 [(0, .ref (q0 0)), (1, .int x1), (2, .int x2), (3, .int x3), (4, .int x4)]) (_ : wp_X0_deadlocked_45 u0 k_18 Q x1 x2 x3 x4), W p l e rX0_deadlocked s m args below meth c H locs 0 0 Z (F0 m 45 ls []) := by
    intro k_18 hk_18 x1 x2 x3 x4 H locs ls hP hD hS hl h
    obtain ⟨x4_1, e_x4_1⟩ : ∃ z : Int32, z = x4 + 1 := ⟨_, rfl⟩
    have h := h x4_1 e_x4_1
    refine lv_iinc (v := x4_1) (lv' := [(4, .int x4_1), (0, .ref (q0 0)), (1, .int x1), (2, .int x2), (3, .int x3)]) hx hb dX0_deadlocked_45 hl (k := 4) rfl (by rw [e_x4_1]; rfl) (by decide) rfl (fun ls hl => ?_)
    refine lv_goto (tgt := 18) hx hb dX0_deadlocked_48 (by decide) ?_
    exact hk_18 x1 x2 x3 x4_1 _ _ _ hP hD hS (lv_sub hl [1, 2, 3, 4, 0] rfl) h
  have w_18 : ∀ (k_9 : Int32 → Int32 → Int32 → Prop) (hk_9 : ∀ (x1 : Int32) (x2 : Int32) (x3 : Int32) (H : Heap) (locs : List Loc) (ls : Array Slot) (_ : va_P (dC, dI) vwCl (cs0 cI q0 u0) H) (_ : va_D A (cs0 cI q0 u0)) (_ : va_S A s.heap H locs) (_ : lv_has ls 5 [(0, .ref (q0 0)), (1, .int x1), (2, .int x2), (3, .int x3)]) (_ : k_9 x1 x2 x3), W p l e rX0_deadlocked s m args below meth c H locs 0 0 Z (F0 m 9 ls [])) (n : Nat) (x1 : Int32) (x2 : Int32) (x3 : Int32) (x4 : Int32) (H : Heap) (locs : List Loc) (ls : Array Slot) (_ : va_P (dC, dI) vwCl (cs0 cI q0 u0) H) (_ : va_D A (cs0 cI q0 u0)) (_ : va_S A s.heap H locs) (_ : lv_has ls 5 [(0, .ref (q0 0)), (1, .int x1), (2, .int x2), (3, .int x3), (4, .int x4)]) (_ : wp_X0_deadlocked_18 u0 k_9 Q n x1 x2 x3 x4), W p l e rX0_deadlocked s m args below meth c H locs 0 0 Z (F0 m 18 ls []) := by
    intro k_9 hk_9 n
    induction n with
    | zero => intro x1 x2 x3 x4 H locs ls hP hD hS hl h; exact False.elim h
    | succ n ih =>
      intro x1 x2 x3 x4 H locs ls hP hD hS hl h
      refine lv_iload hx hb dX0_deadlocked_18 (lv_at hl 4 rfl) ?_
      refine lv_bipush (v := 9) hx hb dX0_deadlocked_20 (by decide) ?_
      refine lv_icmp_gt (tgt := 51) hx hb dX0_deadlocked_22 (by decide) (fun cd => ?_) (fun cd => ?_)
      · have h := h.1 cd
        obtain ⟨x3_2, e_x3_2⟩ : ∃ z : Int32, z = x3 + 1 := ⟨_, rfl⟩
        have h := h x3_2 e_x3_2
        refine lv_iinc (v := x3_2) (lv' := [(3, .int x3_2), (0, .ref (q0 0)), (1, .int x1), (2, .int x2), (4, .int x4)]) hx hb dX0_deadlocked_51 hl (k := 3) rfl (by rw [e_x3_2]; rfl) (by decide) rfl (fun ls hl => ?_)
        refine lv_goto (tgt := 9) hx hb dX0_deadlocked_54 (by decide) ?_
        exact hk_9 x1 x2 x3_2 _ _ _ hP hD hS (lv_sub hl [1, 2, 3, 0] rfl) h
      · have h := h.2 cd
        refine lv_iload_n hx hb dX0_deadlocked_25 rfl (lv_at hl 2 rfl) ?_
        refine lv_iload hx hb dX0_deadlocked_26 (lv_at hl 4 rfl) ?_
        refine lv_ishr hx hb dX0_deadlocked_28 ?_
        refine lv_iconst (v := 1) hx hb dX0_deadlocked_29 (by decide) ?_
        refine lv_iand hx hb dX0_deadlocked_30 ?_
        refine lv_iconst (v := 1) hx hb dX0_deadlocked_31 (by decide) ?_
        refine lv_icmp_ne (tgt := 45) hx hb dX0_deadlocked_32 (by decide) (fun cd => ?_) (fun cd => ?_)
        · have h := h.2 cd
          exact w_45 (fun x1 x2 x3 x4 => wp_X0_deadlocked_18 u0 k_9 Q n x1 x2 x3 x4) (fun x1 x2 x3 x4 H locs ls hP hD hS hl h => ih x1 x2 x3 x4 H locs ls hP hD hS hl h) x1 x2 x3 x4 _ _ _ hP hD hS (lv_sub hl [0, 1, 2, 3, 4] rfl) h
        · have h := h.1 cd
          refine lv_iload_n hx hb dX0_deadlocked_35 rfl (lv_at hl 2 rfl) ?_
          refine lv_aload_n hx hb dX0_deadlocked_36 rfl (lv_at hl 0 rfl) ?_
          refine va_get (D := (dC, dI)) (ci := 0) (v := .ref (q0 3)) (C := RX0) (T := TX0) (N := 7) hx hb hts inX0_deadlocked_0 hown hK hP 0 rfl rfl 2 (by decide) (hts _ kX0_deadlocked_0) (fun _ h9 => h9) rfl dX0_deadlocked_37 ?_
          refine lv_iload hx hb dX0_deadlocked_40 (lv_at hl 4 rfl) ?_
          refine va_iald hx hb hK hP 3 0 rfl rfl h.1 dX0_deadlocked_42 ?_
          have h := h.2
          refine lv_ior hx hb dX0_deadlocked_43 ?_
          refine lv_topi (fun x2_3 e_x2_3 => ?_)
          have h := h x2_3 e_x2_3
          refine lv_istore_n (lv' := [(2, .int x2_3), (0, .ref (q0 0)), (1, .int x1), (3, .int x3), (4, .int x4)]) hx hb dX0_deadlocked_44 rfl hl (by decide) rfl (fun ls hl => ?_)
          exact w_45 (fun x1 x2 x3 x4 => wp_X0_deadlocked_18 u0 k_9 Q n x1 x2 x3 x4) (fun x1 x2 x3 x4 H locs ls hP hD hS hl h => ih x1 x2 x3 x4 H locs ls hP hD hS hl h) x1 x2_3 x3 x4 _ _ _ hP hD hS (lv_sub hl [1, 2, 0, 3, 4] rfl) h
  have w_9 : ∀ (n : Nat) (x1 : Int32) (x2 : Int32) (x3 : Int32) (H : Heap) (locs : List Loc) (ls : Array Slot) (_ : va_P (dC, dI) vwCl (cs0 cI q0 u0) H) (_ : va_D A (cs0 cI q0 u0)) (_ : va_S A s.heap H locs) (_ : lv_has ls 5 [(0, .ref (q0 0)), (1, .int x1), (2, .int x2), (3, .int x3)]) (_ : wp_X0_deadlocked_9 u0 Q n x1 x2 x3), W p l e rX0_deadlocked s m args below meth c H locs 0 0 Z (F0 m 9 ls []) := by
    intro n
    induction n with
    | zero => intro x1 x2 x3 H locs ls hP hD hS hl h; exact False.elim h
    | succ n ih =>
      intro x1 x2 x3 H locs ls hP hD hS hl h
      refine lv_iload_n hx hb dX0_deadlocked_9 rfl (lv_at hl 3 rfl) ?_
      refine lv_bipush (v := 9) hx hb dX0_deadlocked_10 (by decide) ?_
      refine lv_icmp_ge (tgt := 57) hx hb dX0_deadlocked_12 (by decide) (fun cd => ?_) (fun cd => ?_)
      · have h := h.1 cd
        refine lv_iload_n hx hb dX0_deadlocked_57 rfl (lv_at hl 2 rfl) ?_
        refine lv_iload_n hx hb dX0_deadlocked_58 rfl (lv_at hl 1 rfl) ?_
        refine lv_ishr hx hb dX0_deadlocked_59 ?_
        refine lv_iconst (v := 1) hx hb dX0_deadlocked_60 (by decide) ?_
        refine lv_iand hx hb dX0_deadlocked_61 ?_
        refine lv_iconst (v := 1) hx hb dX0_deadlocked_62 (by decide) ?_
        refine lv_icmp_ne (tgt := 70) hx hb dX0_deadlocked_63 (by decide) (fun cd => ?_) (fun cd => ?_)
        · have h := h.2 cd
          refine lv_iconst (v := 0) hx hb dX0_deadlocked_70 (by decide) ?_
          exact hret _ _ _ _ _ () dX0_deadlocked_71 (by decide) h hP hD hS
        · have h := h.1 cd
          refine lv_iconst (v := 1) hx hb dX0_deadlocked_66 (by decide) ?_
          refine lv_goto (tgt := 71) hx hb dX0_deadlocked_67 (by decide) ?_
          exact hret _ _ _ _ _ () dX0_deadlocked_71 (by decide) h hP hD hS
      · have h := h.2 cd
        refine lv_iconst (v := 1) hx hb dX0_deadlocked_15 (by decide) ?_
        refine lv_istore (lv' := [(4, .int 1), (0, .ref (q0 0)), (1, .int x1), (2, .int x2), (3, .int x3)]) hx hb dX0_deadlocked_16 hl (by decide) rfl (fun ls hl => ?_)
        obtain ⟨n0, h⟩ := h
        exact w_18 (fun x1 x2 x3 => wp_X0_deadlocked_9 u0 Q n x1 x2 x3) (fun x1 x2 x3 H locs ls hP hD hS hl h => ih x1 x2 x3 H locs ls hP hD hS hl h) n0 x1 x2 x3 1 _ _ _ hP hD hS (lv_sub hl [1, 2, 3, 4, 0] rfl) h
  have hS : va_S A s.heap s.heap [] := va_S.rf
  refine lv_aload_n hx hb dX0_deadlocked_0 rfl (lv_at hl 0 rfl) ?_
  refine va_get (D := (dC, dI)) (ci := 0) (v := .ref (q0 3)) (C := RX0) (T := TX0) (N := 7) hx hb hts inX0_deadlocked_0 hown hK hP 0 rfl rfl 2 (by decide) (hts _ kX0_deadlocked_0) (fun _ h9 => h9) rfl dX0_deadlocked_1 ?_
  refine lv_iload_n hx hb dX0_deadlocked_4 rfl (lv_at hl 1 rfl) ?_
  refine va_iald hx hb hK hP 3 0 rfl rfl h.1 dX0_deadlocked_5 ?_
  have h := h.2
  refine lv_topi (fun x2_5 e_x2_5 => ?_)
  have h := h x2_5 e_x2_5
  refine lv_istore_n (lv' := [(2, .int x2_5), (0, .ref (q0 0)), (1, .int x1)]) hx hb dX0_deadlocked_6 rfl hl (by decide) rfl (fun ls hl => ?_)
  refine lv_iconst (v := 0) hx hb dX0_deadlocked_7 (by decide) ?_
  refine lv_istore_n (lv' := [(3, .int 0), (2, .int x2_5), (0, .ref (q0 0)), (1, .int x1)]) hx hb dX0_deadlocked_8 rfl hl (by decide) rfl (fun ls hl => ?_)
  obtain ⟨n0, h⟩ := h
  exact w_9 n0 x1 x2_5 0 _ _ _ hP hD hS (lv_sub hl [2, 3, 1, 0] rfl) h

abbrev rX0_allDeadlocked : Room := { frames := 1, cells := 0, slots := 0, locals := 24 }
theorem hdX0_allDeadlocked : yX0_allDeadlocked.cls = RX0 ∧ yX0_allDeadlocked.cls ≠ "java/lang/invoke/MethodHandle" ∧ yX0_allDeadlocked.cls ≠ "java/lang/invoke/VarHandle" ∧ (parseMethodDescriptor yX0_allDeadlocked.desc).map (fun d => d.parameters.length) = some 0 := by decide +kernel
set_option maxHeartbeats 4000000 in
set_option maxRecDepth 100000 in
theorem c_X0_allDeadlocked {l : Launch} {dC : Nat → ClassId} {dI : Nat → Nat → Nat} {cI : ClassId} {q0 : Nat → Nat} {sz : Nat} {u0 : S0}  {Q : Int32 → Prop} (h : wp_X0_allDeadlocked u0 Q) : ctI sxE l yX0_allDeadlocked wsX0_allDeadlocked rX0_allDeadlocked (dC, dI) vwCl [(cI, .int)] [.ref (q0 0)] (cs0 cI q0 u0) sz (fun (r : Int32) (_ : Unit) => Q r) (fun (_ : Unit) => cs0 cI q0 u0) := by
  refine mx_i (cc := cX0_allDeadlocked) (maxL := 3) (ty := .int) (by decide) rfl (Nat.le_of_ble_eq_true rfl) ?_
  intro p e s m below meth c Z A ls args hx hb hml hown hts hA hP hK hD hE hl hret
  have hown : s.vm.findClass RX0 = some m.cls := hown
  have hl : lv_has ls 3 [(0, .ref (q0 0))] := hl
  have w_24 : ∀ (k_4 : Int32 → Int32 → Prop) (hk_4 : ∀ (x1 : Int32) (x2 : Int32) (H : Heap) (locs : List Loc) (ls : Array Slot) (_ : va_P (dC, dI) vwCl (cs0 cI q0 u0) H) (_ : va_D A (cs0 cI q0 u0)) (_ : va_S A s.heap H locs) (_ : lv_has ls 3 [(0, .ref (q0 0)), (1, .int x1), (2, .int x2)]) (_ : k_4 x1 x2), W p l e rX0_allDeadlocked s m args below meth c H locs 0 0 Z (F0 m 4 ls [])) (x1 : Int32) (x2 : Int32) (H : Heap) (locs : List Loc) (ls : Array Slot) (_ : va_P (dC, dI) vwCl (cs0 cI q0 u0) H) (_ : va_D A (cs0 cI q0 u0)) (_ : va_S A s.heap H locs) (_ : lv_has ls 3 [(0, .ref (q0 0)), (1, .int x1), (2, .int x2)]) (_ : wp_X0_allDeadlocked_24 u0 k_4 Q x1 x2), W p l e rX0_allDeadlocked s m args below meth c H locs 0 0 Z (F0 m 24 ls []) := by
    intro k_4 hk_4 x1 x2 H locs ls hP hD hS hl h
    obtain ⟨x2_1, e_x2_1⟩ : ∃ z : Int32, z = x2 + 1 := ⟨_, rfl⟩
    have h := h x2_1 e_x2_1
    refine lv_iinc (v := x2_1) (lv' := [(2, .int x2_1), (0, .ref (q0 0)), (1, .int x1)]) hx hb dX0_allDeadlocked_24 hl (k := 2) rfl (by rw [e_x2_1]; rfl) (by decide) rfl (fun ls hl => ?_)
    refine lv_goto (tgt := 4) hx hb dX0_allDeadlocked_27 (by decide) ?_
    exact hk_4 x1 x2_1 _ _ _ hP hD hS (lv_sub hl [1, 2, 0] rfl) h
  have w_4 : ∀ (n : Nat) (x1 : Int32) (x2 : Int32) (H : Heap) (locs : List Loc) (ls : Array Slot) (_ : va_P (dC, dI) vwCl (cs0 cI q0 u0) H) (_ : va_D A (cs0 cI q0 u0)) (_ : va_S A s.heap H locs) (_ : lv_has ls 3 [(0, .ref (q0 0)), (1, .int x1), (2, .int x2)]) (_ : wp_X0_allDeadlocked_4 u0 Q n x1 x2), W p l e rX0_allDeadlocked s m args below meth c H locs 0 0 Z (F0 m 4 ls []) := by
    intro n
    induction n with
    | zero => intro x1 x2 H locs ls hP hD hS hl h; exact False.elim h
    | succ n ih =>
      intro x1 x2 H locs ls hP hD hS hl h
      refine lv_iload_n hx hb dX0_allDeadlocked_4 rfl (lv_at hl 2 rfl) ?_
      refine lv_bipush (v := 9) hx hb dX0_allDeadlocked_5 (by decide) ?_
      refine lv_icmp_gt (tgt := 30) hx hb dX0_allDeadlocked_7 (by decide) (fun cd => ?_) (fun cd => ?_)
      · have h := h.1 cd
        refine lv_iload_n hx hb dX0_allDeadlocked_30 rfl (lv_at hl 1 rfl) ?_
        exact hret _ _ _ _ _ () dX0_allDeadlocked_31 (vp_nar_int _) h hP hD hS
      · have h := h.2 cd
        refine lv_aload_n hx hb dX0_allDeadlocked_10 rfl (lv_at hl 0 rfl) ?_
        refine lv_iload_n hx hb dX0_allDeadlocked_11 rfl (lv_at hl 2 rfl) ?_
        refine cx_vi (As := [.int x2]) (rest := []) ⟨hx, hb, hml, hown, hts⟩ hl.1 ok_sxE hE hK hP hD hS hA (cut_2 cI q0 u0) (c_X0_deadlocked (l := l) (dC := dC) (dI := dI) (cI := cI) (q0 := q0) h) (cwV 1 hts gX0_allDeadlocked_X0_deadlocked rfl rfl rfl hdX0_deadlocked ⟨Nat.le_of_ble_eq_true rfl, Nat.le_of_ble_eq_true rfl⟩) rfl rfl rfl rfl (Nat.le_of_ble_eq_true rfl) dX0_allDeadlocked_12 rfl (fun r_2 _ H locs h hP hD hS => ?_)
        refine lv_if_eq (tgt := 24) hx hb dX0_allDeadlocked_15 (by decide) (fun cd => ?_) (fun cd => ?_)
        · have h := h.1 cd
          exact w_24 (fun x1 x2 => wp_X0_allDeadlocked_4 u0 Q n x1 x2) (fun x1 x2 H locs ls hP hD hS hl h => ih x1 x2 H locs ls hP hD hS hl h) x1 x2 _ _ _ hP hD hS (lv_sub hl [0, 1, 2] rfl) h
        · have h := h.2 cd
          refine lv_iload_n hx hb dX0_allDeadlocked_18 rfl (lv_at hl 1 rfl) ?_
          refine lv_iconst (v := 1) hx hb dX0_allDeadlocked_19 (by decide) ?_
          refine lv_iload_n hx hb dX0_allDeadlocked_20 rfl (lv_at hl 2 rfl) ?_
          refine lv_ishl hx hb dX0_allDeadlocked_21 ?_
          refine lv_ior hx hb dX0_allDeadlocked_22 ?_
          refine lv_topi (fun x1_3 e_x1_3 => ?_)
          have h := h x1_3 e_x1_3
          refine lv_istore_n (lv' := [(1, .int x1_3), (0, .ref (q0 0)), (2, .int x2)]) hx hb dX0_allDeadlocked_23 rfl hl (by decide) rfl (fun ls hl => ?_)
          exact w_24 (fun x1 x2 => wp_X0_allDeadlocked_4 u0 Q n x1 x2) (fun x1 x2 H locs ls hP hD hS hl h => ih x1 x2 H locs ls hP hD hS hl h) x1_3 x2 _ _ _ hP hD hS (lv_sub hl [1, 0, 2] rfl) h
  have hS : va_S A s.heap s.heap [] := va_S.rf
  refine lv_iconst (v := 0) hx hb dX0_allDeadlocked_0 (by decide) ?_
  refine lv_istore_n (lv' := [(1, .int 0), (0, .ref (q0 0))]) hx hb dX0_allDeadlocked_1 rfl hl (by decide) rfl (fun ls hl => ?_)
  refine lv_iconst (v := 1) hx hb dX0_allDeadlocked_2 (by decide) ?_
  refine lv_istore_n (lv' := [(2, .int 1), (1, .int 0), (0, .ref (q0 0))]) hx hb dX0_allDeadlocked_3 rfl hl (by decide) rfl (fun ls hl => ?_)
  obtain ⟨n0, h⟩ := h
  exact w_4 n0 0 1 _ _ _ hP hD hS (lv_sub hl [2, 1, 0] rfl) h

abbrev rX0_copyFrom : Room := { frames := 1, cells := 0, slots := 0, locals := 40 }
theorem hdX0_copyFrom : yX0_copyFrom.cls = RX0 ∧ yX0_copyFrom.cls ≠ "java/lang/invoke/MethodHandle" ∧ yX0_copyFrom.cls ≠ "java/lang/invoke/VarHandle" ∧ (parseMethodDescriptor yX0_copyFrom.desc).map (fun d => d.parameters.length) = some 1 := by decide +kernel
theorem inX0_copyFrom_0 : ∀ w ∈ wsX00, w ∈ wsX0_copyFrom := by decide +kernel
theorem kX0_copyFrom_0 : Cond.methodLink RX0 51 arraycopyName ∈ wsX0_copyFrom := by decide +kernel
theorem kX0_copyFrom_1 : Cond.native arraycopyName ∈ wsX0_copyFrom := by decide +kernel
theorem kX0_copyFrom_2 : Cond.static arraycopyName ∈ wsX0_copyFrom := by decide +kernel
theorem kX0_copyFrom_3 : Cond.initialized "java/lang/System" ∈ wsX0_copyFrom := by decide +kernel
theorem kX0_copyFrom_4 : Cond.fieldLink RX0 30 "AheadStore$Claims" "tops" "[I" ∈ wsX0_copyFrom := by decide +kernel
theorem kX0_copyFrom_5 : Cond.fieldLink RX0 27 "AheadStore$Claims" "saves" "[I" ∈ wsX0_copyFrom := by decide +kernel
theorem kX0_copyFrom_6 : Cond.fieldLink RX0 24 "AheadStore$Claims" "topCount" "[I" ∈ wsX0_copyFrom := by decide +kernel
theorem kX0_copyFrom_7 : Cond.fieldLink RX0 21 "AheadStore$Claims" "saveCount" "[I" ∈ wsX0_copyFrom := by decide +kernel
theorem kX0_copyFrom_8 : Cond.fieldLink RX0 18 "AheadStore$Claims" "waits" "[I" ∈ wsX0_copyFrom := by decide +kernel
theorem kX0_copyFrom_9 : Cond.fieldLink RX0 15 "AheadStore$Claims" "added" "[I" ∈ wsX0_copyFrom := by decide +kernel
theorem kX0_copyFrom_10 : Cond.fieldLink RX0 9 "AheadStore$Claims" "wrote" "[I" ∈ wsX0_copyFrom := by decide +kernel
set_option maxHeartbeats 4000000 in
set_option maxRecDepth 100000 in
theorem c_X0_copyFrom {l : Launch} {dC : Nat → ClassId} {dI : Nat → Nat → Nat} {cI : ClassId} {q0 : Nat → Nat} {q1 : Nat → Nat} {sz : Nat} {u0 : S0} {u1 : S0}  {Q : S0 → Prop} (h : wp_X0_copyFrom u0 u1 Q) : ctV sxE l yX0_copyFrom wsX0_copyFrom rX0_copyFrom (dC, dI) vwCl [(cI, .int)] [.ref (q0 0), .ref (q1 0)] (cs0 cI q0 u0 ++ cs0 cI q1 u1) sz (fun (v : S0) => Q v) (fun (v : S0) => (cs0 cI q0 v ++ cs0 cI q1 u1)) := by
  refine mx_v (cc := cX0_copyFrom) (maxL := 2) (by decide) rfl (Nat.le_of_ble_eq_true rfl) ?_
  intro p e s m below meth c Z A ls args hx hb hml hown hts hA hP hK hD hE hl hret
  have hown : s.vm.findClass RX0 = some m.cls := hown
  have hl : lv_has ls 2 [(0, .ref (q0 0)), (1, .ref (q1 0))] := hl
  have hS : va_S A s.heap s.heap [] := va_S.rf
  refine lv_aload_n hx hb dX0_copyFrom_0 rfl (lv_at hl 1 rfl) ?_
  refine va_get (D := (dC, dI)) (ci := 0) (v := .ref (q1 1)) (C := RX0) (T := TX0) (N := 7) hx hb hts inX0_copyFrom_0 hown hK hP 8 rfl rfl 0 (by decide) (hts _ kX0_copyFrom_10) (fun _ h9 => h9) rfl dX0_copyFrom_1 ?_
  refine lv_iconst (v := 0) hx hb dX0_copyFrom_4 (by decide) ?_
  refine lv_aload_n hx hb dX0_copyFrom_5 rfl (lv_at hl 0 rfl) ?_
  refine va_get (D := (dC, dI)) (ci := 0) (v := .ref (q0 1)) (C := RX0) (T := TX0) (N := 7) hx hb hts inX0_copyFrom_0 hown hK hP 0 rfl rfl 0 (by decide) (hts _ kX0_copyFrom_10) (fun _ h9 => h9) rfl dX0_copyFrom_6 ?_
  refine lv_iconst (v := 0) hx hb dX0_copyFrom_9 (by decide) ?_
  refine lv_sipush (v := 256) hx hb dX0_copyFrom_10 (by decide) ?_
  refine va_copyi hx hb (hml.trans hl.1.symm) hown (hts _ kX0_copyFrom_0) (hts _ kX0_copyFrom_1) (hts _ kX0_copyFrom_2) (hts _ kX0_copyFrom_3) hK hP hD hS 9 1 0 0 (ty := .int) rfl rfl rfl rfl rfl h.1.1 h.1.2.1 h.1.2.2.1 h.1.2.2.2.1 h.1.2.2.2.2 (fun _ _ => rfl) (Nat.le_of_ble_eq_true rfl) (Nat.le_of_ble_eq_true rfl) dX0_copyFrom_13 (fun H locs hP hD hS => ?_)
  have h := h.2
  obtain ⟨u0_1, e_u0_1⟩ : ∃ z, z = s0_wrote u0 (va_cpy (g0_wrote u1) (g0_wrote u0) (0 : Int32).toNatClampNeg (0 : Int32).toNatClampNeg (256 : Int32).toNatClampNeg) := ⟨_, rfl⟩
  have h := h u0_1 e_u0_1
  have hP : va_P (dC, dI) vwCl (cs0 cI q0 u0_1 ++ cs0 cI q1 u1) H := by rw [e_u0_1]; exact hP
  have hD : va_D A (cs0 cI q0 u0_1 ++ cs0 cI q1 u1) := by rw [e_u0_1]; exact hD
  refine lv_aload_n hx hb dX0_copyFrom_16 rfl (lv_at hl 1 rfl) ?_
  refine va_get (D := (dC, dI)) (ci := 0) (v := .ref (q1 2)) (C := RX0) (T := TX0) (N := 7) hx hb hts inX0_copyFrom_0 hown hK hP 8 rfl rfl 1 (by decide) (hts _ kX0_copyFrom_9) (fun _ h9 => h9) rfl dX0_copyFrom_17 ?_
  refine lv_iconst (v := 0) hx hb dX0_copyFrom_20 (by decide) ?_
  refine lv_aload_n hx hb dX0_copyFrom_21 rfl (lv_at hl 0 rfl) ?_
  refine va_get (D := (dC, dI)) (ci := 0) (v := .ref (q0 2)) (C := RX0) (T := TX0) (N := 7) hx hb hts inX0_copyFrom_0 hown hK hP 0 rfl rfl 1 (by decide) (hts _ kX0_copyFrom_9) (fun _ h9 => h9) rfl dX0_copyFrom_22 ?_
  refine lv_iconst (v := 0) hx hb dX0_copyFrom_25 (by decide) ?_
  refine lv_sipush (v := 256) hx hb dX0_copyFrom_26 (by decide) ?_
  refine va_copyi hx hb (hml.trans hl.1.symm) hown (hts _ kX0_copyFrom_0) (hts _ kX0_copyFrom_1) (hts _ kX0_copyFrom_2) (hts _ kX0_copyFrom_3) hK hP hD hS 10 2 0 0 (ty := .int) rfl rfl rfl rfl rfl h.1.1 h.1.2.1 h.1.2.2.1 h.1.2.2.2.1 h.1.2.2.2.2 (fun _ _ => rfl) (Nat.le_of_ble_eq_true rfl) (Nat.le_of_ble_eq_true rfl) dX0_copyFrom_29 (fun H locs hP hD hS => ?_)
  have h := h.2
  obtain ⟨u0_2, e_u0_2⟩ : ∃ z, z = s0_added u0_1 (va_cpy (g0_added u1) (g0_added u0_1) (0 : Int32).toNatClampNeg (0 : Int32).toNatClampNeg (256 : Int32).toNatClampNeg) := ⟨_, rfl⟩
  have h := h u0_2 e_u0_2
  have hP : va_P (dC, dI) vwCl (cs0 cI q0 u0_2 ++ cs0 cI q1 u1) H := by rw [e_u0_2]; exact hP
  have hD : va_D A (cs0 cI q0 u0_2 ++ cs0 cI q1 u1) := by rw [e_u0_2]; exact hD
  refine lv_aload_n hx hb dX0_copyFrom_32 rfl (lv_at hl 1 rfl) ?_
  refine va_get (D := (dC, dI)) (ci := 0) (v := .ref (q1 3)) (C := RX0) (T := TX0) (N := 7) hx hb hts inX0_copyFrom_0 hown hK hP 8 rfl rfl 2 (by decide) (hts _ kX0_copyFrom_8) (fun _ h9 => h9) rfl dX0_copyFrom_33 ?_
  refine lv_iconst (v := 0) hx hb dX0_copyFrom_36 (by decide) ?_
  refine lv_aload_n hx hb dX0_copyFrom_37 rfl (lv_at hl 0 rfl) ?_
  refine va_get (D := (dC, dI)) (ci := 0) (v := .ref (q0 3)) (C := RX0) (T := TX0) (N := 7) hx hb hts inX0_copyFrom_0 hown hK hP 0 rfl rfl 2 (by decide) (hts _ kX0_copyFrom_8) (fun _ h9 => h9) rfl dX0_copyFrom_38 ?_
  refine lv_iconst (v := 0) hx hb dX0_copyFrom_41 (by decide) ?_
  refine lv_bipush (v := 10) hx hb dX0_copyFrom_42 (by decide) ?_
  refine va_copyi hx hb (hml.trans hl.1.symm) hown (hts _ kX0_copyFrom_0) (hts _ kX0_copyFrom_1) (hts _ kX0_copyFrom_2) (hts _ kX0_copyFrom_3) hK hP hD hS 11 3 0 0 (ty := .int) rfl rfl rfl rfl rfl h.1.1 h.1.2.1 h.1.2.2.1 h.1.2.2.2.1 h.1.2.2.2.2 (fun _ _ => rfl) (Nat.le_of_ble_eq_true rfl) (Nat.le_of_ble_eq_true rfl) dX0_copyFrom_44 (fun H locs hP hD hS => ?_)
  have h := h.2
  obtain ⟨u0_3, e_u0_3⟩ : ∃ z, z = s0_waits u0_2 (va_cpy (g0_waits u1) (g0_waits u0_2) (0 : Int32).toNatClampNeg (0 : Int32).toNatClampNeg (10 : Int32).toNatClampNeg) := ⟨_, rfl⟩
  have h := h u0_3 e_u0_3
  have hP : va_P (dC, dI) vwCl (cs0 cI q0 u0_3 ++ cs0 cI q1 u1) H := by rw [e_u0_3]; exact hP
  have hD : va_D A (cs0 cI q0 u0_3 ++ cs0 cI q1 u1) := by rw [e_u0_3]; exact hD
  refine lv_aload_n hx hb dX0_copyFrom_47 rfl (lv_at hl 1 rfl) ?_
  refine va_get (D := (dC, dI)) (ci := 0) (v := .ref (q1 4)) (C := RX0) (T := TX0) (N := 7) hx hb hts inX0_copyFrom_0 hown hK hP 8 rfl rfl 3 (by decide) (hts _ kX0_copyFrom_7) (fun _ h9 => h9) rfl dX0_copyFrom_48 ?_
  refine lv_iconst (v := 0) hx hb dX0_copyFrom_51 (by decide) ?_
  refine lv_aload_n hx hb dX0_copyFrom_52 rfl (lv_at hl 0 rfl) ?_
  refine va_get (D := (dC, dI)) (ci := 0) (v := .ref (q0 4)) (C := RX0) (T := TX0) (N := 7) hx hb hts inX0_copyFrom_0 hown hK hP 0 rfl rfl 3 (by decide) (hts _ kX0_copyFrom_7) (fun _ h9 => h9) rfl dX0_copyFrom_53 ?_
  refine lv_iconst (v := 0) hx hb dX0_copyFrom_56 (by decide) ?_
  refine lv_bipush (v := 10) hx hb dX0_copyFrom_57 (by decide) ?_
  refine va_copyi hx hb (hml.trans hl.1.symm) hown (hts _ kX0_copyFrom_0) (hts _ kX0_copyFrom_1) (hts _ kX0_copyFrom_2) (hts _ kX0_copyFrom_3) hK hP hD hS 12 4 0 0 (ty := .int) rfl rfl rfl rfl rfl h.1.1 h.1.2.1 h.1.2.2.1 h.1.2.2.2.1 h.1.2.2.2.2 (fun _ _ => rfl) (Nat.le_of_ble_eq_true rfl) (Nat.le_of_ble_eq_true rfl) dX0_copyFrom_59 (fun H locs hP hD hS => ?_)
  have h := h.2
  obtain ⟨u0_4, e_u0_4⟩ : ∃ z, z = s0_saveCount u0_3 (va_cpy (g0_saveCount u1) (g0_saveCount u0_3) (0 : Int32).toNatClampNeg (0 : Int32).toNatClampNeg (10 : Int32).toNatClampNeg) := ⟨_, rfl⟩
  have h := h u0_4 e_u0_4
  have hP : va_P (dC, dI) vwCl (cs0 cI q0 u0_4 ++ cs0 cI q1 u1) H := by rw [e_u0_4]; exact hP
  have hD : va_D A (cs0 cI q0 u0_4 ++ cs0 cI q1 u1) := by rw [e_u0_4]; exact hD
  refine lv_aload_n hx hb dX0_copyFrom_62 rfl (lv_at hl 1 rfl) ?_
  refine va_get (D := (dC, dI)) (ci := 0) (v := .ref (q1 5)) (C := RX0) (T := TX0) (N := 7) hx hb hts inX0_copyFrom_0 hown hK hP 8 rfl rfl 4 (by decide) (hts _ kX0_copyFrom_6) (fun _ h9 => h9) rfl dX0_copyFrom_63 ?_
  refine lv_iconst (v := 0) hx hb dX0_copyFrom_66 (by decide) ?_
  refine lv_aload_n hx hb dX0_copyFrom_67 rfl (lv_at hl 0 rfl) ?_
  refine va_get (D := (dC, dI)) (ci := 0) (v := .ref (q0 5)) (C := RX0) (T := TX0) (N := 7) hx hb hts inX0_copyFrom_0 hown hK hP 0 rfl rfl 4 (by decide) (hts _ kX0_copyFrom_6) (fun _ h9 => h9) rfl dX0_copyFrom_68 ?_
  refine lv_iconst (v := 0) hx hb dX0_copyFrom_71 (by decide) ?_
  refine lv_bipush (v := 10) hx hb dX0_copyFrom_72 (by decide) ?_
  refine va_copyi hx hb (hml.trans hl.1.symm) hown (hts _ kX0_copyFrom_0) (hts _ kX0_copyFrom_1) (hts _ kX0_copyFrom_2) (hts _ kX0_copyFrom_3) hK hP hD hS 13 5 0 0 (ty := .int) rfl rfl rfl rfl rfl h.1.1 h.1.2.1 h.1.2.2.1 h.1.2.2.2.1 h.1.2.2.2.2 (fun _ _ => rfl) (Nat.le_of_ble_eq_true rfl) (Nat.le_of_ble_eq_true rfl) dX0_copyFrom_74 (fun H locs hP hD hS => ?_)
  have h := h.2
  obtain ⟨u0_5, e_u0_5⟩ : ∃ z, z = s0_topCount u0_4 (va_cpy (g0_topCount u1) (g0_topCount u0_4) (0 : Int32).toNatClampNeg (0 : Int32).toNatClampNeg (10 : Int32).toNatClampNeg) := ⟨_, rfl⟩
  have h := h u0_5 e_u0_5
  have hP : va_P (dC, dI) vwCl (cs0 cI q0 u0_5 ++ cs0 cI q1 u1) H := by rw [e_u0_5]; exact hP
  have hD : va_D A (cs0 cI q0 u0_5 ++ cs0 cI q1 u1) := by rw [e_u0_5]; exact hD
  refine lv_aload_n hx hb dX0_copyFrom_77 rfl (lv_at hl 1 rfl) ?_
  refine va_get (D := (dC, dI)) (ci := 0) (v := .ref (q1 6)) (C := RX0) (T := TX0) (N := 7) hx hb hts inX0_copyFrom_0 hown hK hP 8 rfl rfl 5 (by decide) (hts _ kX0_copyFrom_5) (fun _ h9 => h9) rfl dX0_copyFrom_78 ?_
  refine lv_iconst (v := 0) hx hb dX0_copyFrom_81 (by decide) ?_
  refine lv_aload_n hx hb dX0_copyFrom_82 rfl (lv_at hl 0 rfl) ?_
  refine va_get (D := (dC, dI)) (ci := 0) (v := .ref (q0 6)) (C := RX0) (T := TX0) (N := 7) hx hb hts inX0_copyFrom_0 hown hK hP 0 rfl rfl 5 (by decide) (hts _ kX0_copyFrom_5) (fun _ h9 => h9) rfl dX0_copyFrom_83 ?_
  refine lv_iconst (v := 0) hx hb dX0_copyFrom_86 (by decide) ?_
  refine lv_bipush (v := 80) hx hb dX0_copyFrom_87 (by decide) ?_
  refine va_copyi hx hb (hml.trans hl.1.symm) hown (hts _ kX0_copyFrom_0) (hts _ kX0_copyFrom_1) (hts _ kX0_copyFrom_2) (hts _ kX0_copyFrom_3) hK hP hD hS 14 6 0 0 (ty := .int) rfl rfl rfl rfl rfl h.1.1 h.1.2.1 h.1.2.2.1 h.1.2.2.2.1 h.1.2.2.2.2 (fun _ _ => rfl) (Nat.le_of_ble_eq_true rfl) (Nat.le_of_ble_eq_true rfl) dX0_copyFrom_89 (fun H locs hP hD hS => ?_)
  have h := h.2
  obtain ⟨u0_6, e_u0_6⟩ : ∃ z, z = s0_saves u0_5 (va_cpy (g0_saves u1) (g0_saves u0_5) (0 : Int32).toNatClampNeg (0 : Int32).toNatClampNeg (80 : Int32).toNatClampNeg) := ⟨_, rfl⟩
  have h := h u0_6 e_u0_6
  have hP : va_P (dC, dI) vwCl (cs0 cI q0 u0_6 ++ cs0 cI q1 u1) H := by rw [e_u0_6]; exact hP
  have hD : va_D A (cs0 cI q0 u0_6 ++ cs0 cI q1 u1) := by rw [e_u0_6]; exact hD
  refine lv_aload_n hx hb dX0_copyFrom_92 rfl (lv_at hl 1 rfl) ?_
  refine va_get (D := (dC, dI)) (ci := 0) (v := .ref (q1 7)) (C := RX0) (T := TX0) (N := 7) hx hb hts inX0_copyFrom_0 hown hK hP 8 rfl rfl 6 (by decide) (hts _ kX0_copyFrom_4) (fun _ h9 => h9) rfl dX0_copyFrom_93 ?_
  refine lv_iconst (v := 0) hx hb dX0_copyFrom_96 (by decide) ?_
  refine lv_aload_n hx hb dX0_copyFrom_97 rfl (lv_at hl 0 rfl) ?_
  refine va_get (D := (dC, dI)) (ci := 0) (v := .ref (q0 7)) (C := RX0) (T := TX0) (N := 7) hx hb hts inX0_copyFrom_0 hown hK hP 0 rfl rfl 6 (by decide) (hts _ kX0_copyFrom_4) (fun _ h9 => h9) rfl dX0_copyFrom_98 ?_
  refine lv_iconst (v := 0) hx hb dX0_copyFrom_101 (by decide) ?_
  refine lv_bipush (v := 40) hx hb dX0_copyFrom_102 (by decide) ?_
  refine va_copyi hx hb (hml.trans hl.1.symm) hown (hts _ kX0_copyFrom_0) (hts _ kX0_copyFrom_1) (hts _ kX0_copyFrom_2) (hts _ kX0_copyFrom_3) hK hP hD hS 15 7 0 0 (ty := .int) rfl rfl rfl rfl rfl h.1.1 h.1.2.1 h.1.2.2.1 h.1.2.2.2.1 h.1.2.2.2.2 (fun _ _ => rfl) (Nat.le_of_ble_eq_true rfl) (Nat.le_of_ble_eq_true rfl) dX0_copyFrom_104 (fun H locs hP hD hS => ?_)
  have h := h.2
  obtain ⟨u0_7, e_u0_7⟩ : ∃ z, z = s0_tops u0_6 (va_cpy (g0_tops u1) (g0_tops u0_6) (0 : Int32).toNatClampNeg (0 : Int32).toNatClampNeg (40 : Int32).toNatClampNeg) := ⟨_, rfl⟩
  have h := h u0_7 e_u0_7
  have hP : va_P (dC, dI) vwCl (cs0 cI q0 u0_7 ++ cs0 cI q1 u1) H := by rw [e_u0_7]; exact hP
  have hD : va_D A (cs0 cI q0 u0_7 ++ cs0 cI q1 u1) := by rw [e_u0_7]; exact hD
  exact hret _ _ _ _ u0_7 dX0_copyFrom_107 h hP hD hS
