abbrev rX6_part : Room := { frames := 0, cells := 0, slots := 0, locals := 0 }
theorem hdX6_part : yX6_part.cls = RX6 ∧ yX6_part.cls ≠ "java/lang/invoke/MethodHandle" ∧ yX6_part.cls ≠ "java/lang/invoke/VarHandle" ∧ (parseMethodDescriptor yX6_part.desc).map (fun d => d.parameters.length) = some 2 := by decide +kernel
theorem inX6_part_6 : ∀ w ∈ wsX60, w ∈ wsX6_part := by decide +kernel
theorem kX6_part_0 : Cond.fieldLink RX6 9 "AheadStore$Script" "parts" "[I" ∈ wsX6_part := by decide +kernel
set_option maxHeartbeats 4000000 in
set_option maxRecDepth 100000 in
theorem c_X6_part {l : Launch} {dC : Nat → ClassId} {dI : Nat → Nat → Nat} {cI : ClassId} {q0 : Nat → Nat} {sz : Nat} {u0 : S6} {x1 : Int32} {x2 : Int32} {Q : Int32 → Prop} (h : wp_X6_part u0 x1 x2 Q) : ctI sxE l yX6_part wsX6_part rX6_part (dC, dI) vwCl [(cI, .int)] [.ref (q0 0), .int x1, .int x2] (cs6 cI q0 u0) sz (fun (r : Int32) (_ : Unit) => Q r) (fun (_ : Unit) => cs6 cI q0 u0) := by
  refine mx_i (cc := cX6_part) (maxL := 4) (ty := .int) (by decide) rfl (Nat.le_of_ble_eq_true rfl) ?_
  intro p e s m below meth c Z A ls args hx hb hml hown hts hA hP hK hD hE hl hret
  have hown : s.vm.findClass RX6 = some m.cls := hown
  have hl : lv_has ls 4 [(0, .ref (q0 0)), (1, .int x1), (2, .int x2)] := hl
  have hS : va_S A s.heap s.heap [] := va_S.rf
  refine lv_iload_n hx hb dX6_part_0 rfl (lv_at hl 1 rfl) ?_
  refine lv_iconst (v := 4) hx hb dX6_part_1 (by decide) ?_
  refine lv_imul hx hb dX6_part_2 ?_
  refine lv_iload_n hx hb dX6_part_3 rfl (lv_at hl 2 rfl) ?_
  refine lv_iadd hx hb dX6_part_4 ?_
  refine lv_topi (fun x3_1 e_x3_1 => ?_)
  have h := h x3_1 e_x3_1
  refine lv_istore_n (lv' := [(3, .int x3_1), (0, .ref (q0 0)), (1, .int x1), (2, .int x2)]) hx hb dX6_part_5 rfl hl (by decide) rfl (fun ls hl => ?_)
  refine lv_iload_n hx hb dX6_part_6 rfl (lv_at hl 2 rfl) ?_
  refine lv_if_lt (tgt := 34) hx hb dX6_part_7 (by decide) (fun cd => ?_) (fun cd => ?_)
  · have h := h.1 cd
    refine lv_iconst (v := (-1)) hx hb dX6_part_34 (by decide) ?_
    exact hret _ _ _ _ _ () dX6_part_35 (vp_nar_int _) h hP hD hS
  · have h := h.2 cd
    refine lv_iload_n hx hb dX6_part_10 rfl (lv_at hl 2 rfl) ?_
    refine lv_bipush (v := 24) hx hb dX6_part_11 (by decide) ?_
    refine lv_icmp_ge (tgt := 34) hx hb dX6_part_13 (by decide) (fun cd => ?_) (fun cd => ?_)
    · have h := h.1 cd
      refine lv_iconst (v := (-1)) hx hb dX6_part_34 (by decide) ?_
      exact hret _ _ _ _ _ () dX6_part_35 (vp_nar_int _) h hP hD hS
    · have h := h.2 cd
      refine lv_iload_n hx hb dX6_part_16 rfl (lv_at hl 3 rfl) ?_
      refine lv_if_lt (tgt := 34) hx hb dX6_part_17 (by decide) (fun cd => ?_) (fun cd => ?_)
      · have h := h.1 cd
        refine lv_iconst (v := (-1)) hx hb dX6_part_34 (by decide) ?_
        exact hret _ _ _ _ _ () dX6_part_35 (vp_nar_int _) h hP hD hS
      · have h := h.2 cd
        refine lv_iload_n hx hb dX6_part_20 rfl (lv_at hl 3 rfl) ?_
        refine lv_iconst (v := 4) hx hb dX6_part_21 (by decide) ?_
        refine lv_icmp_ge (tgt := 34) hx hb dX6_part_22 (by decide) (fun cd => ?_) (fun cd => ?_)
        · have h := h.1 cd
          refine lv_iconst (v := (-1)) hx hb dX6_part_34 (by decide) ?_
          exact hret _ _ _ _ _ () dX6_part_35 (vp_nar_int _) h hP hD hS
        · have h := h.2 cd
          refine lv_aload_n hx hb dX6_part_25 rfl (lv_at hl 1 rfl) ?_
          refine va_get (D := (dC, dI)) (ci := 6) (v := .ref (q0 1)) (C := RX6) (T := TX6) (N := 3) hx hb hts inX6_part_6 hown hK hP 0 rfl rfl 0 (by decide) (hts _ kX6_part_0) (fun _ h9 => h9) rfl dX6_part_26 ?_
          refine lv_iload_n hx hb dX6_part_29 rfl (lv_at hl 0 rfl) ?_
          refine va_iald hx hb hK hP 1 0 rfl rfl h.1 dX6_part_30 ?_
          have h := h.2
          refine lv_goto (tgt := 35) hx hb dX6_part_31 (by decide) ?_
          exact hret _ _ _ _ _ () dX6_part_35 (vp_nar_int _) h hP hD hS

abbrev rX6_append : Room := { frames := 0, cells := 0, slots := 0, locals := 0 }
theorem hdX6_append : yX6_append.cls = RX6 ∧ yX6_append.cls ≠ "java/lang/invoke/MethodHandle" ∧ yX6_append.cls ≠ "java/lang/invoke/VarHandle" ∧ (parseMethodDescriptor yX6_append.desc).map (fun d => d.parameters.length) = some 4 := by decide +kernel
theorem inX6_append_6 : ∀ w ∈ wsX60, w ∈ wsX6_append := by decide +kernel
theorem kX6_append_0 : Cond.fieldLink RX6 15 "AheadStore$Script" "size" "I" ∈ wsX6_append := by decide +kernel
theorem kX6_append_1 : Cond.fieldLink RX6 9 "AheadStore$Script" "parts" "[I" ∈ wsX6_append := by decide +kernel
set_option maxHeartbeats 4000000 in
set_option maxRecDepth 100000 in
theorem c_X6_append {l : Launch} {dC : Nat → ClassId} {dI : Nat → Nat → Nat} {cI : ClassId} {q0 : Nat → Nat} {sz : Nat} {u0 : S6} {x1 : Int32} {x2 : Int32} {x3 : Int32} {x4 : Int32} {Q : S6 → Prop} (h : wp_X6_append u0 x1 x2 x3 x4 Q) : ctV sxE l yX6_append wsX6_append rX6_append (dC, dI) vwCl [(cI, .int)] [.ref (q0 0), .int x1, .int x2, .int x3, .int x4] (cs6 cI q0 u0) sz (fun (v : S6) => Q v) (fun (v : S6) => cs6 cI q0 v) := by
  refine mx_v (cc := cX6_append) (maxL := 6) (by decide) rfl (Nat.le_of_ble_eq_true rfl) ?_
  intro p e s m below meth c Z A ls args hx hb hml hown hts hA hP hK hD hE hl hret
  have hown : s.vm.findClass RX6 = some m.cls := hown
  have hl : lv_has ls 6 [(0, .ref (q0 0)), (1, .int x1), (2, .int x2), (3, .int x3), (4, .int x4)] := hl
  have hS : va_S A s.heap s.heap [] := va_S.rf
  refine lv_aload_n hx hb dX6_append_0 rfl (lv_at hl 0 rfl) ?_
  refine va_get (D := (dC, dI)) (ci := 6) (v := .int (g6_size u0)) (C := RX6) (T := TX6) (N := 3) hx hb hts inX6_append_6 hown hK hP 0 rfl rfl 1 (by decide) (hts _ kX6_append_0) (fun _ h9 => h9) rfl dX6_append_1 ?_
  refine lv_if_lt (tgt := 16) hx hb dX6_append_4 (by decide) (fun cd => ?_) (fun cd => ?_)
  · have h := h.1 cd
    exact hret _ _ _ _ u0 dX6_append_16 h hP hD hS
  · have h := h.2 cd
    refine lv_aload_n hx hb dX6_append_7 rfl (lv_at hl 0 rfl) ?_
    refine va_get (D := (dC, dI)) (ci := 6) (v := .int (g6_size u0)) (C := RX6) (T := TX6) (N := 3) hx hb hts inX6_append_6 hown hK hP 0 rfl rfl 1 (by decide) (hts _ kX6_append_0) (fun _ h9 => h9) rfl dX6_append_8 ?_
    refine lv_bipush (v := 24) hx hb dX6_append_11 (by decide) ?_
    refine lv_icmp_lt (tgt := 17) hx hb dX6_append_13 (by decide) (fun cd => ?_) (fun cd => ?_)
    · have h := h.1 cd
      refine lv_aload_n hx hb dX6_append_17 rfl (lv_at hl 0 rfl) ?_
      refine va_get (D := (dC, dI)) (ci := 6) (v := .int (g6_size u0)) (C := RX6) (T := TX6) (N := 3) hx hb hts inX6_append_6 hown hK hP 0 rfl rfl 1 (by decide) (hts _ kX6_append_0) (fun _ h9 => h9) rfl dX6_append_18 ?_
      refine lv_iconst (v := 4) hx hb dX6_append_21 (by decide) ?_
      refine lv_imul hx hb dX6_append_22 ?_
      refine lv_topi (fun x5_1 e_x5_1 => ?_)
      have h := h x5_1 e_x5_1
      refine lv_istore (lv' := [(5, .int x5_1), (0, .ref (q0 0)), (1, .int x1), (2, .int x2), (3, .int x3), (4, .int x4)]) hx hb dX6_append_23 hl (by decide) rfl (fun ls hl => ?_)
      refine lv_aload_n hx hb dX6_append_25 rfl (lv_at hl 1 rfl) ?_
      refine va_get (D := (dC, dI)) (ci := 6) (v := .ref (q0 1)) (C := RX6) (T := TX6) (N := 3) hx hb hts inX6_append_6 hown hK hP 0 rfl rfl 0 (by decide) (hts _ kX6_append_1) (fun _ h9 => h9) rfl dX6_append_26 ?_
      refine lv_iload hx hb dX6_append_29 (lv_at hl 0 rfl) ?_
      refine lv_iload_n hx hb dX6_append_31 rfl (lv_at hl 2 rfl) ?_
      refine va_iast hx hb hK hP hD hS 1 0 rfl rfl h.1 dX6_append_32 (fun H locs hP hD hS => ?_)
      have h := h.2
      obtain ⟨u0_2, e_u0_2⟩ : ∃ z, z = s6_parts u0 (upd (g6_parts u0) x5_1.toNatClampNeg x1) := ⟨_, rfl⟩
      have h := h u0_2 e_u0_2
      have hP : va_P (dC, dI) vwCl (cs6 cI q0 u0_2) H := by rw [e_u0_2]; exact hP
      have hD : va_D A (cs6 cI q0 u0_2) := by rw [e_u0_2]; exact hD
      refine lv_aload_n hx hb dX6_append_33 rfl (lv_at hl 1 rfl) ?_
      refine va_get (D := (dC, dI)) (ci := 6) (v := .ref (q0 1)) (C := RX6) (T := TX6) (N := 3) hx hb hts inX6_append_6 hown hK hP 0 rfl rfl 0 (by decide) (hts _ kX6_append_1) (fun _ h9 => h9) rfl dX6_append_34 ?_
      refine lv_iload hx hb dX6_append_37 (lv_at hl 0 rfl) ?_
      refine lv_iconst (v := 1) hx hb dX6_append_39 (by decide) ?_
      refine lv_iadd hx hb dX6_append_40 ?_
      refine lv_iload_n hx hb dX6_append_41 rfl (lv_at hl 3 rfl) ?_
      refine va_iast hx hb hK hP hD hS 1 0 rfl rfl h.1 dX6_append_42 (fun H locs hP hD hS => ?_)
      have h := h.2
      obtain ⟨u0_3, e_u0_3⟩ : ∃ z, z = s6_parts u0_2 (upd (g6_parts u0_2) (x5_1 + 1).toNatClampNeg x2) := ⟨_, rfl⟩
      have h := h u0_3 e_u0_3
      have hP : va_P (dC, dI) vwCl (cs6 cI q0 u0_3) H := by rw [e_u0_3]; exact hP
      have hD : va_D A (cs6 cI q0 u0_3) := by rw [e_u0_3]; exact hD
      refine lv_aload_n hx hb dX6_append_43 rfl (lv_at hl 1 rfl) ?_
      refine va_get (D := (dC, dI)) (ci := 6) (v := .ref (q0 1)) (C := RX6) (T := TX6) (N := 3) hx hb hts inX6_append_6 hown hK hP 0 rfl rfl 0 (by decide) (hts _ kX6_append_1) (fun _ h9 => h9) rfl dX6_append_44 ?_
      refine lv_iload hx hb dX6_append_47 (lv_at hl 0 rfl) ?_
      refine lv_iconst (v := 2) hx hb dX6_append_49 (by decide) ?_
      refine lv_iadd hx hb dX6_append_50 ?_
      refine lv_iload_n hx hb dX6_append_51 rfl (lv_at hl 4 rfl) ?_
      refine va_iast hx hb hK hP hD hS 1 0 rfl rfl h.1 dX6_append_52 (fun H locs hP hD hS => ?_)
      have h := h.2
      obtain ⟨u0_4, e_u0_4⟩ : ∃ z, z = s6_parts u0_3 (upd (g6_parts u0_3) (x5_1 + 2).toNatClampNeg x3) := ⟨_, rfl⟩
      have h := h u0_4 e_u0_4
      have hP : va_P (dC, dI) vwCl (cs6 cI q0 u0_4) H := by rw [e_u0_4]; exact hP
      have hD : va_D A (cs6 cI q0 u0_4) := by rw [e_u0_4]; exact hD
      refine lv_aload_n hx hb dX6_append_53 rfl (lv_at hl 1 rfl) ?_
      refine va_get (D := (dC, dI)) (ci := 6) (v := .ref (q0 1)) (C := RX6) (T := TX6) (N := 3) hx hb hts inX6_append_6 hown hK hP 0 rfl rfl 0 (by decide) (hts _ kX6_append_1) (fun _ h9 => h9) rfl dX6_append_54 ?_
      refine lv_iload hx hb dX6_append_57 (lv_at hl 0 rfl) ?_
      refine lv_iconst (v := 3) hx hb dX6_append_59 (by decide) ?_
      refine lv_iadd hx hb dX6_append_60 ?_
      refine lv_iload hx hb dX6_append_61 (lv_at hl 5 rfl) ?_
      refine va_iast hx hb hK hP hD hS 1 0 rfl rfl h.1 dX6_append_63 (fun H locs hP hD hS => ?_)
      have h := h.2
      obtain ⟨u0_5, e_u0_5⟩ : ∃ z, z = s6_parts u0_4 (upd (g6_parts u0_4) (x5_1 + 3).toNatClampNeg x4) := ⟨_, rfl⟩
      have h := h u0_5 e_u0_5
      have hP : va_P (dC, dI) vwCl (cs6 cI q0 u0_5) H := by rw [e_u0_5]; exact hP
      have hD : va_D A (cs6 cI q0 u0_5) := by rw [e_u0_5]; exact hD
      refine lv_aload_n hx hb dX6_append_64 rfl (lv_at hl 1 rfl) ?_
      refine lv_dup hx hb dX6_append_65 rfl ?_
      refine va_get (D := (dC, dI)) (ci := 6) (v := .int (g6_size u0_5)) (C := RX6) (T := TX6) (N := 3) hx hb hts inX6_append_6 hown hK hP 0 rfl rfl 1 (by decide) (hts _ kX6_append_0) (fun _ h9 => h9) rfl dX6_append_66 ?_
      refine lv_iconst (v := 1) hx hb dX6_append_69 (by decide) ?_
      refine lv_iadd hx hb dX6_append_70 ?_
      refine va_put (D := (dC, dI)) (ci := 6) (v := .int ((g6_size u0_5) + 1)) (ty := .int) (C := RX6) (T := TX6) (N := 3) hx hb hts inX6_append_6 tyX6 tyX6_ok nmX6 hown hK hP hD hS 0 rfl rfl 1 (by decide) (hts _ kX6_append_0) (fun _ h9 => h9) rfl (tyX6_ok 1 (by decide)) rfl rfl (Nat.le_of_ble_eq_true rfl) dX6_append_71 (fun H locs hP hD hS => ?_)
      obtain ⟨u0_6, e_u0_6⟩ : ∃ z, z = s6_size u0_5 ((g6_size u0_5) + 1) := ⟨_, rfl⟩
      have h := h u0_6 e_u0_6
      have hP : va_P (dC, dI) vwCl (cs6 cI q0 u0_6) H := by rw [e_u0_6]; exact hP
      have hD : va_D A (cs6 cI q0 u0_6) := by rw [e_u0_6]; exact hD
      exact hret _ _ _ _ u0_6 dX6_append_74 h hP hD hS
    · have h := h.2 cd
      exact hret _ _ _ _ u0 dX6_append_16 h hP hD hS

abbrev rX6_clear : Room := { frames := 0, cells := 0, slots := 0, locals := 0 }
theorem hdX6_clear : yX6_clear.cls = RX6 ∧ yX6_clear.cls ≠ "java/lang/invoke/MethodHandle" ∧ yX6_clear.cls ≠ "java/lang/invoke/VarHandle" ∧ (parseMethodDescriptor yX6_clear.desc).map (fun d => d.parameters.length) = some 0 := by decide +kernel
theorem inX6_clear_6 : ∀ w ∈ wsX60, w ∈ wsX6_clear := by decide +kernel
theorem kX6_clear_0 : Cond.fieldLink RX6 19 "AheadStore$Script" "ran" "I" ∈ wsX6_clear := by decide +kernel
theorem kX6_clear_1 : Cond.fieldLink RX6 15 "AheadStore$Script" "size" "I" ∈ wsX6_clear := by decide +kernel
set_option maxHeartbeats 4000000 in
set_option maxRecDepth 100000 in
theorem c_X6_clear {l : Launch} {dC : Nat → ClassId} {dI : Nat → Nat → Nat} {cI : ClassId} {q0 : Nat → Nat} {sz : Nat} {u0 : S6}  {Q : S6 → Prop} (h : wp_X6_clear u0 Q) : ctV sxE l yX6_clear wsX6_clear rX6_clear (dC, dI) vwCl [(cI, .int)] [.ref (q0 0)] (cs6 cI q0 u0) sz (fun (v : S6) => Q v) (fun (v : S6) => cs6 cI q0 v) := by
  refine mx_v (cc := cX6_clear) (maxL := 1) (by decide) rfl (Nat.le_of_ble_eq_true rfl) ?_
  intro p e s m below meth c Z A ls args hx hb hml hown hts hA hP hK hD hE hl hret
  have hown : s.vm.findClass RX6 = some m.cls := hown
  have hl : lv_has ls 1 [(0, .ref (q0 0))] := hl
  have hS : va_S A s.heap s.heap [] := va_S.rf
  refine lv_aload_n hx hb dX6_clear_0 rfl (lv_at hl 0 rfl) ?_
  refine lv_iconst (v := 0) hx hb dX6_clear_1 (by decide) ?_
  refine va_put (D := (dC, dI)) (ci := 6) (v := .int 0) (ty := .int) (C := RX6) (T := TX6) (N := 3) hx hb hts inX6_clear_6 tyX6 tyX6_ok nmX6 hown hK hP hD hS 0 rfl rfl 1 (by decide) (hts _ kX6_clear_1) (fun _ h9 => h9) rfl (tyX6_ok 1 (by decide)) rfl rfl (Nat.le_of_ble_eq_true rfl) dX6_clear_2 (fun H locs hP hD hS => ?_)
  obtain ⟨u0_1, e_u0_1⟩ : ∃ z, z = s6_size u0 0 := ⟨_, rfl⟩
  have h := h u0_1 e_u0_1
  have hP : va_P (dC, dI) vwCl (cs6 cI q0 u0_1) H := by rw [e_u0_1]; exact hP
  have hD : va_D A (cs6 cI q0 u0_1) := by rw [e_u0_1]; exact hD
  refine lv_aload_n hx hb dX6_clear_5 rfl (lv_at hl 0 rfl) ?_
  refine lv_iconst (v := 0) hx hb dX6_clear_6 (by decide) ?_
  refine va_put (D := (dC, dI)) (ci := 6) (v := .int 0) (ty := .int) (C := RX6) (T := TX6) (N := 3) hx hb hts inX6_clear_6 tyX6 tyX6_ok nmX6 hown hK hP hD hS 0 rfl rfl 2 (by decide) (hts _ kX6_clear_0) (fun _ h9 => h9) rfl (tyX6_ok 2 (by decide)) rfl rfl (Nat.le_of_ble_eq_true rfl) dX6_clear_7 (fun H locs hP hD hS => ?_)
  obtain ⟨u0_2, e_u0_2⟩ : ∃ z, z = s6_ran u0_1 0 := ⟨_, rfl⟩
  have h := h u0_2 e_u0_2
  have hP : va_P (dC, dI) vwCl (cs6 cI q0 u0_2) H := by rw [e_u0_2]; exact hP
  have hD : va_D A (cs6 cI q0 u0_2) := by rw [e_u0_2]; exact hD
  exact hret _ _ _ _ u0_2 dX6_clear_10 h hP hD hS

abbrev rX6_copyFrom : Room := { frames := 1, cells := 0, slots := 0, locals := 40 }
theorem hdX6_copyFrom : yX6_copyFrom.cls = RX6 ∧ yX6_copyFrom.cls ≠ "java/lang/invoke/MethodHandle" ∧ yX6_copyFrom.cls ≠ "java/lang/invoke/VarHandle" ∧ (parseMethodDescriptor yX6_copyFrom.desc).map (fun d => d.parameters.length) = some 1 := by decide +kernel
theorem inX6_copyFrom_6 : ∀ w ∈ wsX60, w ∈ wsX6_copyFrom := by decide +kernel
theorem kX6_copyFrom_0 : Cond.fieldLink RX6 19 "AheadStore$Script" "ran" "I" ∈ wsX6_copyFrom := by decide +kernel
theorem kX6_copyFrom_1 : Cond.fieldLink RX6 15 "AheadStore$Script" "size" "I" ∈ wsX6_copyFrom := by decide +kernel
theorem kX6_copyFrom_2 : Cond.methodLink RX6 22 arraycopyName ∈ wsX6_copyFrom := by decide +kernel
theorem kX6_copyFrom_3 : Cond.native arraycopyName ∈ wsX6_copyFrom := by decide +kernel
theorem kX6_copyFrom_4 : Cond.static arraycopyName ∈ wsX6_copyFrom := by decide +kernel
theorem kX6_copyFrom_5 : Cond.initialized "java/lang/System" ∈ wsX6_copyFrom := by decide +kernel
theorem kX6_copyFrom_6 : Cond.fieldLink RX6 9 "AheadStore$Script" "parts" "[I" ∈ wsX6_copyFrom := by decide +kernel
set_option maxHeartbeats 4000000 in
set_option maxRecDepth 100000 in
theorem c_X6_copyFrom {l : Launch} {dC : Nat → ClassId} {dI : Nat → Nat → Nat} {cI : ClassId} {q0 : Nat → Nat} {q1 : Nat → Nat} {sz : Nat} {u0 : S6} {u1 : S6}  {Q : S6 → Prop} (h : wp_X6_copyFrom u0 u1 Q) : ctV sxE l yX6_copyFrom wsX6_copyFrom rX6_copyFrom (dC, dI) vwCl [(cI, .int)] [.ref (q0 0), .ref (q1 0)] (cs6 cI q0 u0 ++ cs6 cI q1 u1) sz (fun (v : S6) => Q v) (fun (v : S6) => (cs6 cI q0 v ++ cs6 cI q1 u1)) := by
  refine mx_v (cc := cX6_copyFrom) (maxL := 2) (by decide) rfl (Nat.le_of_ble_eq_true rfl) ?_
  intro p e s m below meth c Z A ls args hx hb hml hown hts hA hP hK hD hE hl hret
  have hown : s.vm.findClass RX6 = some m.cls := hown
  have hl : lv_has ls 2 [(0, .ref (q0 0)), (1, .ref (q1 0))] := hl
  have hS : va_S A s.heap s.heap [] := va_S.rf
  refine lv_aload_n hx hb dX6_copyFrom_0 rfl (lv_at hl 1 rfl) ?_
  refine va_get (D := (dC, dI)) (ci := 6) (v := .ref (q1 1)) (C := RX6) (T := TX6) (N := 3) hx hb hts inX6_copyFrom_6 hown hK hP 2 rfl rfl 0 (by decide) (hts _ kX6_copyFrom_6) (fun _ h9 => h9) rfl dX6_copyFrom_1 ?_
  refine lv_iconst (v := 0) hx hb dX6_copyFrom_4 (by decide) ?_
  refine lv_aload_n hx hb dX6_copyFrom_5 rfl (lv_at hl 0 rfl) ?_
  refine va_get (D := (dC, dI)) (ci := 6) (v := .ref (q0 1)) (C := RX6) (T := TX6) (N := 3) hx hb hts inX6_copyFrom_6 hown hK hP 0 rfl rfl 0 (by decide) (hts _ kX6_copyFrom_6) (fun _ h9 => h9) rfl dX6_copyFrom_6 ?_
  refine lv_iconst (v := 0) hx hb dX6_copyFrom_9 (by decide) ?_
  refine lv_bipush (v := 96) hx hb dX6_copyFrom_10 (by decide) ?_
  refine va_copyi hx hb (hml.trans hl.1.symm) hown (hts _ kX6_copyFrom_2) (hts _ kX6_copyFrom_3) (hts _ kX6_copyFrom_4) (hts _ kX6_copyFrom_5) hK hP hD hS 3 1 0 0 (ty := .int) rfl rfl rfl rfl rfl h.1.1 h.1.2.1 h.1.2.2.1 h.1.2.2.2.1 h.1.2.2.2.2 (fun _ _ => rfl) (Nat.le_of_ble_eq_true rfl) (Nat.le_of_ble_eq_true rfl) dX6_copyFrom_12 (fun H locs hP hD hS => ?_)
  have h := h.2
  obtain ⟨u0_1, e_u0_1⟩ : ∃ z, z = s6_parts u0 (va_cpy (g6_parts u1) (g6_parts u0) (0 : Int32).toNatClampNeg (0 : Int32).toNatClampNeg (96 : Int32).toNatClampNeg) := ⟨_, rfl⟩
  have h := h u0_1 e_u0_1
  have hP : va_P (dC, dI) vwCl (cs6 cI q0 u0_1 ++ cs6 cI q1 u1) H := by rw [e_u0_1]; exact hP
  have hD : va_D A (cs6 cI q0 u0_1 ++ cs6 cI q1 u1) := by rw [e_u0_1]; exact hD
  refine lv_aload_n hx hb dX6_copyFrom_15 rfl (lv_at hl 0 rfl) ?_
  refine lv_aload_n hx hb dX6_copyFrom_16 rfl (lv_at hl 1 rfl) ?_
  refine va_get (D := (dC, dI)) (ci := 6) (v := .int (g6_size u1)) (C := RX6) (T := TX6) (N := 3) hx hb hts inX6_copyFrom_6 hown hK hP 2 rfl rfl 1 (by decide) (hts _ kX6_copyFrom_1) (fun _ h9 => h9) rfl dX6_copyFrom_17 ?_
  refine va_put (D := (dC, dI)) (ci := 6) (v := .int (g6_size u1)) (ty := .int) (C := RX6) (T := TX6) (N := 3) hx hb hts inX6_copyFrom_6 tyX6 tyX6_ok nmX6 hown hK hP hD hS 0 rfl rfl 1 (by decide) (hts _ kX6_copyFrom_1) (fun _ h9 => h9) rfl (tyX6_ok 1 (by decide)) rfl rfl (Nat.le_of_ble_eq_true rfl) dX6_copyFrom_20 (fun H locs hP hD hS => ?_)
  obtain ⟨u0_2, e_u0_2⟩ : ∃ z, z = s6_size u0_1 (g6_size u1) := ⟨_, rfl⟩
  have h := h u0_2 e_u0_2
  have hP : va_P (dC, dI) vwCl (cs6 cI q0 u0_2 ++ cs6 cI q1 u1) H := by rw [e_u0_2]; exact hP
  have hD : va_D A (cs6 cI q0 u0_2 ++ cs6 cI q1 u1) := by rw [e_u0_2]; exact hD
  refine lv_aload_n hx hb dX6_copyFrom_23 rfl (lv_at hl 0 rfl) ?_
  refine lv_aload_n hx hb dX6_copyFrom_24 rfl (lv_at hl 1 rfl) ?_
  refine va_get (D := (dC, dI)) (ci := 6) (v := .int (g6_ran u1)) (C := RX6) (T := TX6) (N := 3) hx hb hts inX6_copyFrom_6 hown hK hP 2 rfl rfl 2 (by decide) (hts _ kX6_copyFrom_0) (fun _ h9 => h9) rfl dX6_copyFrom_25 ?_
  refine va_put (D := (dC, dI)) (ci := 6) (v := .int (g6_ran u1)) (ty := .int) (C := RX6) (T := TX6) (N := 3) hx hb hts inX6_copyFrom_6 tyX6 tyX6_ok nmX6 hown hK hP hD hS 0 rfl rfl 2 (by decide) (hts _ kX6_copyFrom_0) (fun _ h9 => h9) rfl (tyX6_ok 2 (by decide)) rfl rfl (Nat.le_of_ble_eq_true rfl) dX6_copyFrom_28 (fun H locs hP hD hS => ?_)
  obtain ⟨u0_3, e_u0_3⟩ : ∃ z, z = s6_ran u0_2 (g6_ran u1) := ⟨_, rfl⟩
  have h := h u0_3 e_u0_3
  have hP : va_P (dC, dI) vwCl (cs6 cI q0 u0_3 ++ cs6 cI q1 u1) H := by rw [e_u0_3]; exact hP
  have hD : va_D A (cs6 cI q0 u0_3 ++ cs6 cI q1 u1) := by rw [e_u0_3]; exact hD
  exact hret _ _ _ _ u0_3 dX6_copyFrom_31 h hP hD hS

set_option maxRecDepth 100000 in
theorem cut_24 (cI : ClassId) (q0 : Nat → Nat) (q1 : Nat → Nat) (u0 : S7) (u1 : S2) : Cut (cs7 cI q0 u0 ++ cs2 cI q1 u1) (cs2 cI q1 u1) (fun _ : Unit => cs2 cI q1 u1) (fun _ : Unit => (cs7 cI q0 u0 ++ cs2 cI q1 u1)) := ⟨[3, 4], [0, 1, 2], rfl, rfl, rfl, by decide, by decide, fun _ => ⟨[0, 1, 2, 3, 4], rfl, rfl⟩⟩

abbrev rX7_take : Room := { frames := 3, cells := 0, slots := 0, locals := 69 }
theorem hdX7_take : yX7_take.cls = RX7 ∧ yX7_take.cls ≠ "java/lang/invoke/MethodHandle" ∧ yX7_take.cls ≠ "java/lang/invoke/VarHandle" ∧ (parseMethodDescriptor yX7_take.desc).map (fun d => d.parameters.length) = some 2 := by decide +kernel
theorem inX7_take_2 : ∀ w ∈ wsX20, w ∈ wsX7_take := by decide +kernel
theorem inX7_take_7 : ∀ w ∈ wsX70, w ∈ wsX7_take := by decide +kernel
theorem kX7_take_0 : Cond.fieldLink RX7 22 "AheadStore$Standby" "done" "I" ∈ wsX7_take := by decide +kernel
theorem kX7_take_1 : Cond.fieldLink RX7 15 "AheadStore$Standby" "stamps" "[I" ∈ wsX7_take := by decide +kernel
theorem kX7_take_2 : Cond.fieldLink RX7 9 "AheadStore$Standby" "row" "[I" ∈ wsX7_take := by decide +kernel
theorem kX7_take_3 : Cond.fieldLink RX7 18 "AheadStore$Standby" "received" "I" ∈ wsX7_take := by decide +kernel
theorem kX7_take_4 : Cond.methodLink RX7 30 Lib.Math.min.name ∈ wsX7_take := by decide +kernel
theorem kX7_take_5 : Cond.static Lib.Math.min.name ∈ wsX7_take := by decide +kernel
theorem kX7_take_6 : Cond.initialized "java/lang/Math" ∈ wsX7_take := by decide +kernel
theorem kX7_take_7 : Cond.code Lib.Math.min.name Lib.Math.min.code 2 (some .int) ∈ wsX7_take := by decide +kernel
theorem kX7_take_8 : Cond.fieldLink RX7 25 "AheadStore$Journal" "flushedPlace" "I" ∈ wsX7_take := by decide +kernel
set_option maxHeartbeats 4000000 in
set_option maxRecDepth 100000 in
theorem c_X7_take {l : Launch} {dC : Nat → ClassId} {dI : Nat → Nat → Nat} {cI : ClassId} {q0 : Nat → Nat} {q1 : Nat → Nat} {sz : Nat} {u0 : S7} {u1 : S2} {x2 : Int32} {Q : S7 → Prop} (h : wp_X7_take u0 u1 x2 Q) : ctV sxE l yX7_take wsX7_take rX7_take (dC, dI) vwCl [(cI, .int)] [.ref (q0 0), .ref (q1 0), .int x2] (cs7 cI q0 u0 ++ cs2 cI q1 u1) sz (fun (v : S7) => Q v) (fun (v : S7) => (cs7 cI q0 v ++ cs2 cI q1 u1)) := by
  refine mx_v (cc := cX7_take) (maxL := 4) (by decide) rfl (Nat.le_of_ble_eq_true rfl) ?_
  intro p e s m below meth c Z A ls args hx hb hml hown hts hA hP hK hD hE hl hret
  have hown : s.vm.findClass RX7 = some m.cls := hown
  have hl : lv_has ls 4 [(0, .ref (q0 0)), (1, .ref (q1 0)), (2, .int x2)] := hl
  have w_107 : ∀ (k_17 : S7 → Prop) (hk_17 : ∀ (u0 : S7) (H : Heap) (locs : List Loc) (ls : Array Slot) (_ : va_P (dC, dI) vwCl (cs7 cI q0 u0 ++ cs2 cI q1 u1) H) (_ : va_D A (cs7 cI q0 u0 ++ cs2 cI q1 u1)) (_ : va_S A s.heap H locs) (_ : lv_has ls 4 [(0, .ref (q0 0)), (1, .ref (q1 0))]) (_ : k_17 u0), W p l e rX7_take s m args below meth c H locs 0 0 Z (F0 m 17 ls [])) (u0 : S7) (H : Heap) (locs : List Loc) (ls : Array Slot) (_ : va_P (dC, dI) vwCl (cs7 cI q0 u0 ++ cs2 cI q1 u1) H) (_ : va_D A (cs7 cI q0 u0 ++ cs2 cI q1 u1)) (_ : va_S A s.heap H locs) (_ : lv_has ls 4 [(0, .ref (q0 0)), (1, .ref (q1 0))]) (_ : wp_X7_take_107 u1 k_17 Q u0), W p l e rX7_take s m args below meth c H locs 0 0 Z (F0 m 107 ls []) := by
    intro k_17 hk_17 u0 H locs ls hP hD hS hl h
    refine lv_aload_n hx hb dX7_take_107 rfl (lv_at hl 0 rfl) ?_
    refine lv_aload_n hx hb dX7_take_108 rfl (lv_at hl 1 rfl) ?_
    refine lv_aload_n hx hb dX7_take_109 rfl (lv_at hl 0 rfl) ?_
    refine va_get (D := (dC, dI)) (ci := 7) (v := .int (g7_done u0)) (C := RX7) (T := TX7) (N := 4) hx hb hts inX7_take_7 hown hK hP 0 rfl rfl 3 (by decide) (hts _ kX7_take_0) (fun _ h9 => h9) rfl dX7_take_110 ?_
    refine cx_vi (As := [.int (g7_done u0)]) (rest := [.ref (q0 0)]) ⟨hx, hb, hml, hown, hts⟩ hl.1 ok_sxE hE hK hP hD hS hA (cut_24 cI q0 q1 u0 u1) (c_X2_behind (l := l) (dC := dC) (dI := dI) (cI := cI) (q0 := q1) h) (cwV 1 hts gX7_take_X2_behind rfl rfl rfl hdX2_behind ⟨Nat.le_of_ble_eq_true rfl, Nat.le_of_ble_eq_true rfl⟩) rfl rfl rfl rfl (Nat.le_of_ble_eq_true rfl) dX7_take_113 rfl (fun r_1 _ H locs h hP hD hS => ?_)
    refine va_put (D := (dC, dI)) (ci := 7) (v := .int r_1) (ty := .int) (C := RX7) (T := TX7) (N := 4) hx hb hts inX7_take_7 tyX7 tyX7_ok nmX7 hown hK hP hD hS 0 rfl rfl 3 (by decide) (hts _ kX7_take_0) (fun _ h9 => h9) rfl (tyX7_ok 3 (by decide)) rfl rfl (Nat.le_of_ble_eq_true rfl) dX7_take_116 (fun H locs hP hD hS => ?_)
    obtain ⟨u0_2, e_u0_2⟩ : ∃ z, z = s7_done u0 r_1 := ⟨_, rfl⟩
    have h := h u0_2 e_u0_2
    have hP : va_P (dC, dI) vwCl (cs7 cI q0 u0_2 ++ cs2 cI q1 u1) H := by rw [e_u0_2]; exact hP
    have hD : va_D A (cs7 cI q0 u0_2 ++ cs2 cI q1 u1) := by rw [e_u0_2]; exact hD
    refine lv_goto (tgt := 17) hx hb dX7_take_119 (by decide) ?_
    exact hk_17 u0_2 _ _ _ hP hD hS (lv_sub hl [0, 1] rfl) h
  have w_17 : ∀ (n : Nat) (u0 : S7) (H : Heap) (locs : List Loc) (ls : Array Slot) (_ : va_P (dC, dI) vwCl (cs7 cI q0 u0 ++ cs2 cI q1 u1) H) (_ : va_D A (cs7 cI q0 u0 ++ cs2 cI q1 u1)) (_ : va_S A s.heap H locs) (_ : lv_has ls 4 [(0, .ref (q0 0)), (1, .ref (q1 0))]) (_ : wp_X7_take_17 u1 Q n u0), W p l e rX7_take s m args below meth c H locs 0 0 Z (F0 m 17 ls []) := by
    intro n
    induction n with
    | zero => intro u0 H locs ls hP hD hS hl h; exact False.elim h
    | succ n ih =>
      intro u0 H locs ls hP hD hS hl h
      refine lv_aload_n hx hb dX7_take_17 rfl (lv_at hl 0 rfl) ?_
      refine va_get (D := (dC, dI)) (ci := 7) (v := .int (g7_done u0)) (C := RX7) (T := TX7) (N := 4) hx hb hts inX7_take_7 hown hK hP 0 rfl rfl 3 (by decide) (hts _ kX7_take_0) (fun _ h9 => h9) rfl dX7_take_18 ?_
      refine lv_aload_n hx hb dX7_take_21 rfl (lv_at hl 0 rfl) ?_
      refine va_get (D := (dC, dI)) (ci := 7) (v := .int (g7_received u0)) (C := RX7) (T := TX7) (N := 4) hx hb hts inX7_take_7 hown hK hP 0 rfl rfl 2 (by decide) (hts _ kX7_take_3) (fun _ h9 => h9) rfl dX7_take_22 ?_
      refine lv_icmp_ge (tgt := 122) hx hb dX7_take_25 (by decide) (fun cd => ?_) (fun cd => ?_)
      · have h := h.1 cd
        exact hret _ _ _ _ u0 dX7_take_122 h hP hD hS
      · have h := h.2 cd
        refine lv_aload_n hx hb dX7_take_28 rfl (lv_at hl 1 rfl) ?_
        refine lv_aload_n hx hb dX7_take_29 rfl (lv_at hl 0 rfl) ?_
        refine va_get (D := (dC, dI)) (ci := 7) (v := .int (g7_done u0)) (C := RX7) (T := TX7) (N := 4) hx hb hts inX7_take_7 hown hK hP 0 rfl rfl 3 (by decide) (hts _ kX7_take_0) (fun _ h9 => h9) rfl dX7_take_30 ?_
        refine cx_vi (As := [.int (g7_done u0)]) (rest := []) ⟨hx, hb, hml, hown, hts⟩ hl.1 ok_sxE hE hK hP hD hS hA (cut_24 cI q0 q1 u0 u1) (c_X2_wholeAt (l := l) (dC := dC) (dI := dI) (cI := cI) (q0 := q1) h) (cwV 1 hts gX7_take_X2_wholeAt rfl rfl rfl hdX2_wholeAt ⟨Nat.le_of_ble_eq_true rfl, Nat.le_of_ble_eq_true rfl⟩) rfl rfl rfl rfl (Nat.le_of_ble_eq_true rfl) dX7_take_33 rfl (fun r_3 _ H locs h hP hD hS => ?_)
        refine lv_if_eq (tgt := 122) hx hb dX7_take_36 (by decide) (fun cd => ?_) (fun cd => ?_)
        · have h := h.1 cd
          exact hret _ _ _ _ u0 dX7_take_122 h hP hD hS
        · have h := h.2 cd
          refine lv_aload_n hx hb dX7_take_39 rfl (lv_at hl 1 rfl) ?_
          refine lv_aload_n hx hb dX7_take_40 rfl (lv_at hl 0 rfl) ?_
          refine va_get (D := (dC, dI)) (ci := 7) (v := .int (g7_done u0)) (C := RX7) (T := TX7) (N := 4) hx hb hts inX7_take_7 hown hK hP 0 rfl rfl 3 (by decide) (hts _ kX7_take_0) (fun _ h9 => h9) rfl dX7_take_41 ?_
          refine cx_vi (As := [.int (g7_done u0)]) (rest := []) ⟨hx, hb, hml, hown, hts⟩ hl.1 ok_sxE hE hK hP hD hS hA (cut_24 cI q0 q1 u0 u1) (c_X2_behind (l := l) (dC := dC) (dI := dI) (cI := cI) (q0 := q1) h) (cwV 1 hts gX7_take_X2_behind rfl rfl rfl hdX2_behind ⟨Nat.le_of_ble_eq_true rfl, Nat.le_of_ble_eq_true rfl⟩) rfl rfl rfl rfl (Nat.le_of_ble_eq_true rfl) dX7_take_44 rfl (fun r_4 _ H locs h hP hD hS => ?_)
          refine lv_aload_n hx hb dX7_take_47 rfl (lv_at hl 0 rfl) ?_
          refine va_get (D := (dC, dI)) (ci := 7) (v := .int (g7_received u0)) (C := RX7) (T := TX7) (N := 4) hx hb hts inX7_take_7 hown hK hP 0 rfl rfl 2 (by decide) (hts _ kX7_take_3) (fun _ h9 => h9) rfl dX7_take_48 ?_
          refine lv_icmp_gt (tgt := 122) hx hb dX7_take_51 (by decide) (fun cd => ?_) (fun cd => ?_)
          · have h := h.1 cd
            exact hret _ _ _ _ u0 dX7_take_122 h hP hD hS
          · have h := h.2 cd
            refine lv_aload_n hx hb dX7_take_54 rfl (lv_at hl 1 rfl) ?_
            refine lv_aload_n hx hb dX7_take_55 rfl (lv_at hl 0 rfl) ?_
            refine va_get (D := (dC, dI)) (ci := 7) (v := .int (g7_done u0)) (C := RX7) (T := TX7) (N := 4) hx hb hts inX7_take_7 hown hK hP 0 rfl rfl 3 (by decide) (hts _ kX7_take_0) (fun _ h9 => h9) rfl dX7_take_56 ?_
            refine cx_vi (As := [.int (g7_done u0)]) (rest := []) ⟨hx, hb, hml, hown, hts⟩ hl.1 ok_sxE hE hK hP hD hS hA (cut_24 cI q0 q1 u0 u1) (c_X2_touches (l := l) (dC := dC) (dI := dI) (cI := cI) (q0 := q1) h) (cwV 1 hts gX7_take_X2_touches rfl rfl rfl hdX2_touches ⟨Nat.le_of_ble_eq_true rfl, Nat.le_of_ble_eq_true rfl⟩) rfl rfl rfl rfl (Nat.le_of_ble_eq_true rfl) dX7_take_59 rfl (fun r_5 _ H locs h hP hD hS => ?_)
            refine lv_if_eq (tgt := 107) hx hb dX7_take_62 (by decide) (fun cd => ?_) (fun cd => ?_)
            · have h := h.1 cd
              exact w_107 (fun u0 => wp_X7_take_17 u1 Q n u0) (fun u0 H locs ls hP hD hS hl h => ih u0 H locs ls hP hD hS hl h) u0 _ _ _ hP hD hS (lv_sub hl [0, 1] rfl) h
            · have h := h.2 cd
              refine lv_aload_n hx hb dX7_take_65 rfl (lv_at hl 1 rfl) ?_
              refine lv_aload_n hx hb dX7_take_66 rfl (lv_at hl 0 rfl) ?_
              refine va_get (D := (dC, dI)) (ci := 7) (v := .int (g7_done u0)) (C := RX7) (T := TX7) (N := 4) hx hb hts inX7_take_7 hown hK hP 0 rfl rfl 3 (by decide) (hts _ kX7_take_0) (fun _ h9 => h9) rfl dX7_take_67 ?_
              refine cx_vi (As := [.int (g7_done u0)]) (rest := []) ⟨hx, hb, hml, hown, hts⟩ hl.1 ok_sxE hE hK hP hD hS hA (cut_24 cI q0 q1 u0 u1) (c_X2_addressAt (l := l) (dC := dC) (dI := dI) (cI := cI) (q0 := q1) h) (cwV 1 hts gX7_take_X2_addressAt rfl rfl rfl hdX2_addressAt ⟨Nat.le_of_ble_eq_true rfl, Nat.le_of_ble_eq_true rfl⟩) rfl rfl rfl rfl (Nat.le_of_ble_eq_true rfl) dX7_take_70 rfl (fun r_6 _ H locs h hP hD hS => ?_)
              refine lv_istore_n (lv' := [(3, .int r_6), (0, .ref (q0 0)), (1, .ref (q1 0))]) hx hb dX7_take_73 rfl hl (by decide) rfl (fun ls hl => ?_)
              refine lv_aload_n hx hb dX7_take_74 rfl (lv_at hl 1 rfl) ?_
              refine va_get (D := (dC, dI)) (ci := 7) (v := .ref (q0 1)) (C := RX7) (T := TX7) (N := 4) hx hb hts inX7_take_7 hown hK hP 0 rfl rfl 0 (by decide) (hts _ kX7_take_2) (fun _ h9 => h9) rfl dX7_take_75 ?_
              refine lv_iload_n hx hb dX7_take_78 rfl (lv_at hl 0 rfl) ?_
              refine lv_aload_n hx hb dX7_take_79 rfl (lv_at hl 2 rfl) ?_
              refine lv_aload_n hx hb dX7_take_80 rfl (lv_at hl 1 rfl) ?_
              refine va_get (D := (dC, dI)) (ci := 7) (v := .int (g7_done u0)) (C := RX7) (T := TX7) (N := 4) hx hb hts inX7_take_7 hown hK hP 0 rfl rfl 3 (by decide) (hts _ kX7_take_0) (fun _ h9 => h9) rfl dX7_take_81 ?_
              refine lv_aload_n hx hb dX7_take_84 rfl (lv_at hl 1 rfl) ?_
              refine va_get (D := (dC, dI)) (ci := 7) (v := .ref (q0 1)) (C := RX7) (T := TX7) (N := 4) hx hb hts inX7_take_7 hown hK hP 0 rfl rfl 0 (by decide) (hts _ kX7_take_2) (fun _ h9 => h9) rfl dX7_take_85 ?_
              refine lv_iload_n hx hb dX7_take_88 rfl (lv_at hl 0 rfl) ?_
              refine va_iald hx hb hK hP 1 0 rfl rfl h.1 dX7_take_89 ?_
              have h := h.2
              refine cx_vi (As := [.int (g7_done u0), .int ((g7_row u0) r_6.toNatClampNeg)]) (rest := [.int r_6, .ref (q0 1)]) ⟨hx, hb, hml, hown, hts⟩ hl.1 ok_sxE hE hK hP hD hS hA (cut_24 cI q0 q1 u0 u1) (c_X2_done (l := l) (dC := dC) (dI := dI) (cI := cI) (q0 := q1) h) (cwV 2 hts gX7_take_X2_done rfl rfl rfl hdX2_done ⟨Nat.le_of_ble_eq_true rfl, Nat.le_of_ble_eq_true rfl⟩) rfl rfl rfl rfl (Nat.le_of_ble_eq_true rfl) dX7_take_90 rfl (fun r_7 _ H locs h hP hD hS => ?_)
              refine va_iast hx hb hK hP hD hS 1 0 rfl rfl h.1 dX7_take_93 (fun H locs hP hD hS => ?_)
              have h := h.2
              obtain ⟨u0_8, e_u0_8⟩ : ∃ z, z = s7_row u0 (upd (g7_row u0) r_6.toNatClampNeg r_7) := ⟨_, rfl⟩
              have h := h u0_8 e_u0_8
              have hP : va_P (dC, dI) vwCl (cs7 cI q0 u0_8 ++ cs2 cI q1 u1) H := by rw [e_u0_8]; exact hP
              have hD : va_D A (cs7 cI q0 u0_8 ++ cs2 cI q1 u1) := by rw [e_u0_8]; exact hD
              refine lv_aload_n hx hb dX7_take_94 rfl (lv_at hl 1 rfl) ?_
              refine va_get (D := (dC, dI)) (ci := 7) (v := .ref (q0 2)) (C := RX7) (T := TX7) (N := 4) hx hb hts inX7_take_7 hown hK hP 0 rfl rfl 1 (by decide) (hts _ kX7_take_1) (fun _ h9 => h9) rfl dX7_take_95 ?_
              refine lv_iload_n hx hb dX7_take_98 rfl (lv_at hl 0 rfl) ?_
              refine lv_bipush (v := 16) hx hb dX7_take_99 (by decide) ?_
              refine lv_idiv hx hb dX7_take_101 (by decide) ?_
              refine lv_aload_n hx hb dX7_take_102 rfl (lv_at hl 1 rfl) ?_
              refine va_get (D := (dC, dI)) (ci := 7) (v := .int (g7_done u0_8)) (C := RX7) (T := TX7) (N := 4) hx hb hts inX7_take_7 hown hK hP 0 rfl rfl 3 (by decide) (hts _ kX7_take_0) (fun _ h9 => h9) rfl dX7_take_103 ?_
              refine va_iast hx hb hK hP hD hS 2 0 rfl rfl h.1 dX7_take_106 (fun H locs hP hD hS => ?_)
              have h := h.2
              obtain ⟨u0_9, e_u0_9⟩ : ∃ z, z = s7_stamps u0_8 (upd (g7_stamps u0_8) (r_6 / 16).toNatClampNeg (g7_done u0_8)) := ⟨_, rfl⟩
              have h := h u0_9 e_u0_9
              have hP : va_P (dC, dI) vwCl (cs7 cI q0 u0_9 ++ cs2 cI q1 u1) H := by rw [e_u0_9]; exact hP
              have hD : va_D A (cs7 cI q0 u0_9 ++ cs2 cI q1 u1) := by rw [e_u0_9]; exact hD
              exact w_107 (fun u0 => wp_X7_take_17 u1 Q n u0) (fun u0 H locs ls hP hD hS hl h => ih u0 H locs ls hP hD hS hl h) u0_9 _ _ _ hP hD hS (lv_sub hl [1, 2] rfl) h
  have hS : va_S A s.heap s.heap [] := va_S.rf
  refine lv_aload_n hx hb dX7_take_0 rfl (lv_at hl 0 rfl) ?_
  refine lv_aload_n hx hb dX7_take_1 rfl (lv_at hl 0 rfl) ?_
  refine va_get (D := (dC, dI)) (ci := 7) (v := .int (g7_received u0)) (C := RX7) (T := TX7) (N := 4) hx hb hts inX7_take_7 hown hK hP 0 rfl rfl 2 (by decide) (hts _ kX7_take_3) (fun _ h9 => h9) rfl dX7_take_2 ?_
  refine lv_iload_n hx hb dX7_take_5 rfl (lv_at hl 2 rfl) ?_
  refine lv_iadd hx hb dX7_take_6 ?_
  refine lv_aload_n hx hb dX7_take_7 rfl (lv_at hl 1 rfl) ?_
  refine va_get (D := (dC, dI)) (ci := 2) (v := .int (g2_flushedPlace u1)) (C := RX2) (T := TX2) (N := 4) hx hb hts inX7_take_2 hown hK hP 3 rfl rfl 2 (by decide) (hts _ kX7_take_8) (fun _ h9 => h9) rfl dX7_take_8 ?_
  refine va_mmin hx hb (hml.trans hl.1.symm) hown (hts _ kX7_take_4) (hts _ kX7_take_5) (hts _ kX7_take_6) (hts _ kX7_take_7) (Nat.le_of_ble_eq_true rfl) (Nat.le_of_ble_eq_true rfl) (Nat.zero_le _) (Nat.zero_le _) dX7_take_11 ?_
  refine va_put (D := (dC, dI)) (ci := 7) (v := .int (if (g2_flushedPlace u1) < ((g7_received u0) + x2) then (g2_flushedPlace u1) else ((g7_received u0) + x2))) (ty := .int) (C := RX7) (T := TX7) (N := 4) hx hb hts inX7_take_7 tyX7 tyX7_ok nmX7 hown hK hP hD hS 0 rfl rfl 2 (by decide) (hts _ kX7_take_3) (fun _ h9 => h9) rfl (tyX7_ok 2 (by decide)) rfl rfl (Nat.le_of_ble_eq_true rfl) dX7_take_14 (fun H locs hP hD hS => ?_)
  obtain ⟨u0_10, e_u0_10⟩ : ∃ z, z = s7_received u0 (if (g2_flushedPlace u1) < ((g7_received u0) + x2) then (g2_flushedPlace u1) else ((g7_received u0) + x2)) := ⟨_, rfl⟩
  have h := h u0_10 e_u0_10
  have hP : va_P (dC, dI) vwCl (cs7 cI q0 u0_10 ++ cs2 cI q1 u1) H := by rw [e_u0_10]; exact hP
  have hD : va_D A (cs7 cI q0 u0_10 ++ cs2 cI q1 u1) := by rw [e_u0_10]; exact hD
  obtain ⟨n0, h⟩ := h
  exact w_17 n0 u0_10 _ _ _ hP hD hS (lv_sub hl [0, 1] rfl) h

abbrev rX7_copyFrom : Room := { frames := 1, cells := 0, slots := 0, locals := 40 }
theorem hdX7_copyFrom : yX7_copyFrom.cls = RX7 ∧ yX7_copyFrom.cls ≠ "java/lang/invoke/MethodHandle" ∧ yX7_copyFrom.cls ≠ "java/lang/invoke/VarHandle" ∧ (parseMethodDescriptor yX7_copyFrom.desc).map (fun d => d.parameters.length) = some 1 := by decide +kernel
theorem inX7_copyFrom_7 : ∀ w ∈ wsX70, w ∈ wsX7_copyFrom := by decide +kernel
theorem kX7_copyFrom_0 : Cond.fieldLink RX7 22 "AheadStore$Standby" "done" "I" ∈ wsX7_copyFrom := by decide +kernel
theorem kX7_copyFrom_1 : Cond.fieldLink RX7 18 "AheadStore$Standby" "received" "I" ∈ wsX7_copyFrom := by decide +kernel
theorem kX7_copyFrom_2 : Cond.methodLink RX7 52 arraycopyName ∈ wsX7_copyFrom := by decide +kernel
theorem kX7_copyFrom_3 : Cond.native arraycopyName ∈ wsX7_copyFrom := by decide +kernel
theorem kX7_copyFrom_4 : Cond.static arraycopyName ∈ wsX7_copyFrom := by decide +kernel
theorem kX7_copyFrom_5 : Cond.initialized "java/lang/System" ∈ wsX7_copyFrom := by decide +kernel
theorem kX7_copyFrom_6 : Cond.fieldLink RX7 15 "AheadStore$Standby" "stamps" "[I" ∈ wsX7_copyFrom := by decide +kernel
theorem kX7_copyFrom_7 : Cond.fieldLink RX7 9 "AheadStore$Standby" "row" "[I" ∈ wsX7_copyFrom := by decide +kernel
set_option maxHeartbeats 4000000 in
set_option maxRecDepth 100000 in
theorem c_X7_copyFrom {l : Launch} {dC : Nat → ClassId} {dI : Nat → Nat → Nat} {cI : ClassId} {q0 : Nat → Nat} {q1 : Nat → Nat} {sz : Nat} {u0 : S7} {u1 : S7}  {Q : S7 → Prop} (h : wp_X7_copyFrom u0 u1 Q) : ctV sxE l yX7_copyFrom wsX7_copyFrom rX7_copyFrom (dC, dI) vwCl [(cI, .int)] [.ref (q0 0), .ref (q1 0)] (cs7 cI q0 u0 ++ cs7 cI q1 u1) sz (fun (v : S7) => Q v) (fun (v : S7) => (cs7 cI q0 v ++ cs7 cI q1 u1)) := by
  refine mx_v (cc := cX7_copyFrom) (maxL := 2) (by decide) rfl (Nat.le_of_ble_eq_true rfl) ?_
  intro p e s m below meth c Z A ls args hx hb hml hown hts hA hP hK hD hE hl hret
  have hown : s.vm.findClass RX7 = some m.cls := hown
  have hl : lv_has ls 2 [(0, .ref (q0 0)), (1, .ref (q1 0))] := hl
  have hS : va_S A s.heap s.heap [] := va_S.rf
  refine lv_aload_n hx hb dX7_copyFrom_0 rfl (lv_at hl 1 rfl) ?_
  refine va_get (D := (dC, dI)) (ci := 7) (v := .ref (q1 1)) (C := RX7) (T := TX7) (N := 4) hx hb hts inX7_copyFrom_7 hown hK hP 3 rfl rfl 0 (by decide) (hts _ kX7_copyFrom_7) (fun _ h9 => h9) rfl dX7_copyFrom_1 ?_
  refine lv_iconst (v := 0) hx hb dX7_copyFrom_4 (by decide) ?_
  refine lv_aload_n hx hb dX7_copyFrom_5 rfl (lv_at hl 0 rfl) ?_
  refine va_get (D := (dC, dI)) (ci := 7) (v := .ref (q0 1)) (C := RX7) (T := TX7) (N := 4) hx hb hts inX7_copyFrom_7 hown hK hP 0 rfl rfl 0 (by decide) (hts _ kX7_copyFrom_7) (fun _ h9 => h9) rfl dX7_copyFrom_6 ?_
  refine lv_iconst (v := 0) hx hb dX7_copyFrom_9 (by decide) ?_
  refine lv_sipush (v := 256) hx hb dX7_copyFrom_10 (by decide) ?_
  refine va_copyi hx hb (hml.trans hl.1.symm) hown (hts _ kX7_copyFrom_2) (hts _ kX7_copyFrom_3) (hts _ kX7_copyFrom_4) (hts _ kX7_copyFrom_5) hK hP hD hS 4 1 0 0 (ty := .int) rfl rfl rfl rfl rfl h.1.1 h.1.2.1 h.1.2.2.1 h.1.2.2.2.1 h.1.2.2.2.2 (fun _ _ => rfl) (Nat.le_of_ble_eq_true rfl) (Nat.le_of_ble_eq_true rfl) dX7_copyFrom_13 (fun H locs hP hD hS => ?_)
  have h := h.2
  obtain ⟨u0_1, e_u0_1⟩ : ∃ z, z = s7_row u0 (va_cpy (g7_row u1) (g7_row u0) (0 : Int32).toNatClampNeg (0 : Int32).toNatClampNeg (256 : Int32).toNatClampNeg) := ⟨_, rfl⟩
  have h := h u0_1 e_u0_1
  have hP : va_P (dC, dI) vwCl (cs7 cI q0 u0_1 ++ cs7 cI q1 u1) H := by rw [e_u0_1]; exact hP
  have hD : va_D A (cs7 cI q0 u0_1 ++ cs7 cI q1 u1) := by rw [e_u0_1]; exact hD
  refine lv_aload_n hx hb dX7_copyFrom_16 rfl (lv_at hl 1 rfl) ?_
  refine va_get (D := (dC, dI)) (ci := 7) (v := .ref (q1 2)) (C := RX7) (T := TX7) (N := 4) hx hb hts inX7_copyFrom_7 hown hK hP 3 rfl rfl 1 (by decide) (hts _ kX7_copyFrom_6) (fun _ h9 => h9) rfl dX7_copyFrom_17 ?_
  refine lv_iconst (v := 0) hx hb dX7_copyFrom_20 (by decide) ?_
  refine lv_aload_n hx hb dX7_copyFrom_21 rfl (lv_at hl 0 rfl) ?_
  refine va_get (D := (dC, dI)) (ci := 7) (v := .ref (q0 2)) (C := RX7) (T := TX7) (N := 4) hx hb hts inX7_copyFrom_7 hown hK hP 0 rfl rfl 1 (by decide) (hts _ kX7_copyFrom_6) (fun _ h9 => h9) rfl dX7_copyFrom_22 ?_
  refine lv_iconst (v := 0) hx hb dX7_copyFrom_25 (by decide) ?_
  refine lv_bipush (v := 16) hx hb dX7_copyFrom_26 (by decide) ?_
  refine va_copyi hx hb (hml.trans hl.1.symm) hown (hts _ kX7_copyFrom_2) (hts _ kX7_copyFrom_3) (hts _ kX7_copyFrom_4) (hts _ kX7_copyFrom_5) hK hP hD hS 5 2 0 0 (ty := .int) rfl rfl rfl rfl rfl h.1.1 h.1.2.1 h.1.2.2.1 h.1.2.2.2.1 h.1.2.2.2.2 (fun _ _ => rfl) (Nat.le_of_ble_eq_true rfl) (Nat.le_of_ble_eq_true rfl) dX7_copyFrom_28 (fun H locs hP hD hS => ?_)
  have h := h.2
  obtain ⟨u0_2, e_u0_2⟩ : ∃ z, z = s7_stamps u0_1 (va_cpy (g7_stamps u1) (g7_stamps u0_1) (0 : Int32).toNatClampNeg (0 : Int32).toNatClampNeg (16 : Int32).toNatClampNeg) := ⟨_, rfl⟩
  have h := h u0_2 e_u0_2
  have hP : va_P (dC, dI) vwCl (cs7 cI q0 u0_2 ++ cs7 cI q1 u1) H := by rw [e_u0_2]; exact hP
  have hD : va_D A (cs7 cI q0 u0_2 ++ cs7 cI q1 u1) := by rw [e_u0_2]; exact hD
  refine lv_aload_n hx hb dX7_copyFrom_31 rfl (lv_at hl 0 rfl) ?_
  refine lv_aload_n hx hb dX7_copyFrom_32 rfl (lv_at hl 1 rfl) ?_
  refine va_get (D := (dC, dI)) (ci := 7) (v := .int (g7_received u1)) (C := RX7) (T := TX7) (N := 4) hx hb hts inX7_copyFrom_7 hown hK hP 3 rfl rfl 2 (by decide) (hts _ kX7_copyFrom_1) (fun _ h9 => h9) rfl dX7_copyFrom_33 ?_
  refine va_put (D := (dC, dI)) (ci := 7) (v := .int (g7_received u1)) (ty := .int) (C := RX7) (T := TX7) (N := 4) hx hb hts inX7_copyFrom_7 tyX7 tyX7_ok nmX7 hown hK hP hD hS 0 rfl rfl 2 (by decide) (hts _ kX7_copyFrom_1) (fun _ h9 => h9) rfl (tyX7_ok 2 (by decide)) rfl rfl (Nat.le_of_ble_eq_true rfl) dX7_copyFrom_36 (fun H locs hP hD hS => ?_)
  obtain ⟨u0_3, e_u0_3⟩ : ∃ z, z = s7_received u0_2 (g7_received u1) := ⟨_, rfl⟩
  have h := h u0_3 e_u0_3
  have hP : va_P (dC, dI) vwCl (cs7 cI q0 u0_3 ++ cs7 cI q1 u1) H := by rw [e_u0_3]; exact hP
  have hD : va_D A (cs7 cI q0 u0_3 ++ cs7 cI q1 u1) := by rw [e_u0_3]; exact hD
  refine lv_aload_n hx hb dX7_copyFrom_39 rfl (lv_at hl 0 rfl) ?_
  refine lv_aload_n hx hb dX7_copyFrom_40 rfl (lv_at hl 1 rfl) ?_
  refine va_get (D := (dC, dI)) (ci := 7) (v := .int (g7_done u1)) (C := RX7) (T := TX7) (N := 4) hx hb hts inX7_copyFrom_7 hown hK hP 3 rfl rfl 3 (by decide) (hts _ kX7_copyFrom_0) (fun _ h9 => h9) rfl dX7_copyFrom_41 ?_
  refine va_put (D := (dC, dI)) (ci := 7) (v := .int (g7_done u1)) (ty := .int) (C := RX7) (T := TX7) (N := 4) hx hb hts inX7_copyFrom_7 tyX7 tyX7_ok nmX7 hown hK hP hD hS 0 rfl rfl 3 (by decide) (hts _ kX7_copyFrom_0) (fun _ h9 => h9) rfl (tyX7_ok 3 (by decide)) rfl rfl (Nat.le_of_ble_eq_true rfl) dX7_copyFrom_44 (fun H locs hP hD hS => ?_)
  obtain ⟨u0_4, e_u0_4⟩ : ∃ z, z = s7_done u0_3 (g7_done u1) := ⟨_, rfl⟩
  have h := h u0_4 e_u0_4
  have hP : va_P (dC, dI) vwCl (cs7 cI q0 u0_4 ++ cs7 cI q1 u1) H := by rw [e_u0_4]; exact hP
  have hD : va_D A (cs7 cI q0 u0_4 ++ cs7 cI q1 u1) := by rw [e_u0_4]; exact hD
  exact hret _ _ _ _ u0_4 dX7_copyFrom_47 h hP hD hS
