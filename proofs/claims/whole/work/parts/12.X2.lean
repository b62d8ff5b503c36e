abbrev rX2_byteAt : Room := { frames := 0, cells := 0, slots := 0, locals := 0 }
theorem hdX2_byteAt : yX2_byteAt.cls = RX2 ∧ yX2_byteAt.cls ≠ "java/lang/invoke/MethodHandle" ∧ yX2_byteAt.cls ≠ "java/lang/invoke/VarHandle" ∧ (parseMethodDescriptor yX2_byteAt.desc).map (fun d => d.parameters.length) = some 1 := by decide +kernel
theorem inX2_byteAt_2 : ∀ w ∈ wsX20, w ∈ wsX2_byteAt := by decide +kernel
theorem kX2_byteAt_0 : Cond.fieldLink RX2 9 "AheadStore$Journal" "row" "[I" ∈ wsX2_byteAt := by decide +kernel
theorem kX2_byteAt_1 : Cond.fieldLink RX2 15 "AheadStore$Journal" "endPlace" "I" ∈ wsX2_byteAt := by decide +kernel
set_option maxHeartbeats 4000000 in
set_option maxRecDepth 100000 in
theorem c_X2_byteAt {l : Launch} {dC : Nat → ClassId} {dI : Nat → Nat → Nat} {cI : ClassId} {q0 : Nat → Nat} {sz : Nat} {u0 : S2} {x1 : Int32} {Q : Int32 → Prop} (h : wp_X2_byteAt u0 x1 Q) : ctI sxE l yX2_byteAt wsX2_byteAt rX2_byteAt (dC, dI) vwCl [(cI, .int)] [.ref (q0 0), .int x1] (cs2 cI q0 u0) sz (fun (r : Int32) (_ : Unit) => Q r) (fun (_ : Unit) => cs2 cI q0 u0) := by
  refine mx_i (cc := cX2_byteAt) (maxL := 2) (ty := .int) (by decide) rfl (Nat.le_of_ble_eq_true rfl) ?_
  intro p e s m below meth c Z A ls args hx hb hml hown hts hA hP hK hD hE hl hret
  have hown : s.vm.findClass RX2 = some m.cls := hown
  have hl : lv_has ls 2 [(0, .ref (q0 0)), (1, .int x1)] := hl
  have hS : va_S A s.heap s.heap [] := va_S.rf
  refine lv_iload_n hx hb dX2_byteAt_0 rfl (lv_at hl 1 rfl) ?_
  refine lv_if_lt (tgt := 30) hx hb dX2_byteAt_1 (by decide) (fun cd => ?_) (fun cd => ?_)
  · have h := h.1 cd
    refine lv_iconst (v := 0) hx hb dX2_byteAt_30 (by decide) ?_
    exact hret _ _ _ _ _ () dX2_byteAt_31 (vp_nar_int _) h hP hD hS
  · have h := h.2 cd
    refine lv_iload_n hx hb dX2_byteAt_4 rfl (lv_at hl 1 rfl) ?_
    refine lv_aload_n hx hb dX2_byteAt_5 rfl (lv_at hl 0 rfl) ?_
    refine va_get (D := (dC, dI)) (ci := 2) (v := .int (g2_endPlace u0)) (C := RX2) (T := TX2) (N := 4) hx hb hts inX2_byteAt_2 hown hK hP 0 rfl rfl 1 (by decide) (hts _ kX2_byteAt_1) (fun _ h9 => h9) rfl dX2_byteAt_6 ?_
    refine lv_icmp_ge (tgt := 30) hx hb dX2_byteAt_9 (by decide) (fun cd => ?_) (fun cd => ?_)
    · have h := h.1 cd
      refine lv_iconst (v := 0) hx hb dX2_byteAt_30 (by decide) ?_
      exact hret _ _ _ _ _ () dX2_byteAt_31 (vp_nar_int _) h hP hD hS
    · have h := h.2 cd
      refine lv_iload_n hx hb dX2_byteAt_12 rfl (lv_at hl 1 rfl) ?_
      refine lv_aload_n hx hb dX2_byteAt_13 rfl (lv_at hl 0 rfl) ?_
      refine va_get (D := (dC, dI)) (ci := 2) (v := .ref (q0 1)) (C := RX2) (T := TX2) (N := 4) hx hb hts inX2_byteAt_2 hown hK hP 0 rfl rfl 0 (by decide) (hts _ kX2_byteAt_0) (fun _ h9 => h9) rfl dX2_byteAt_14 ?_
      refine va_alen (v := 8600) hx hb hK hP 1 0 rfl rfl rfl dX2_byteAt_17 ?_
      refine lv_icmp_ge (tgt := 30) hx hb dX2_byteAt_18 (by decide) (fun cd => ?_) (fun cd => ?_)
      · have h := h.1 cd
        refine lv_iconst (v := 0) hx hb dX2_byteAt_30 (by decide) ?_
        exact hret _ _ _ _ _ () dX2_byteAt_31 (vp_nar_int _) h hP hD hS
      · have h := h.2 cd
        refine lv_aload_n hx hb dX2_byteAt_21 rfl (lv_at hl 0 rfl) ?_
        refine va_get (D := (dC, dI)) (ci := 2) (v := .ref (q0 1)) (C := RX2) (T := TX2) (N := 4) hx hb hts inX2_byteAt_2 hown hK hP 0 rfl rfl 0 (by decide) (hts _ kX2_byteAt_0) (fun _ h9 => h9) rfl dX2_byteAt_22 ?_
        refine lv_iload_n hx hb dX2_byteAt_25 rfl (lv_at hl 1 rfl) ?_
        refine va_iald hx hb hK hP 1 0 rfl rfl h.1 dX2_byteAt_26 ?_
        have h := h.2
        refine lv_goto (tgt := 31) hx hb dX2_byteAt_27 (by decide) ?_
        exact hret _ _ _ _ _ () dX2_byteAt_31 (vp_nar_int _) h hP hD hS

set_option maxRecDepth 100000 in
theorem cut_0 (cI : ClassId) (q0 : Nat → Nat) (u0 : S2) : Cut (cs2 cI q0 u0) (cs2 cI q0 u0) (fun _ : Unit => cs2 cI q0 u0) (fun _ : Unit => cs2 cI q0 u0) := ⟨[0, 1], [], rfl, rfl, rfl, by decide, by decide, fun _ => ⟨[0, 1], rfl, rfl⟩⟩

abbrev rX2_pairAt : Room := { frames := 1, cells := 0, slots := 0, locals := 21 }
theorem hdX2_pairAt : yX2_pairAt.cls = RX2 ∧ yX2_pairAt.cls ≠ "java/lang/invoke/MethodHandle" ∧ yX2_pairAt.cls ≠ "java/lang/invoke/VarHandle" ∧ (parseMethodDescriptor yX2_pairAt.desc).map (fun d => d.parameters.length) = some 1 := by decide +kernel
set_option maxHeartbeats 4000000 in
set_option maxRecDepth 100000 in
theorem c_X2_pairAt {l : Launch} {dC : Nat → ClassId} {dI : Nat → Nat → Nat} {cI : ClassId} {q0 : Nat → Nat} {sz : Nat} {u0 : S2} {x1 : Int32} {Q : Int32 → Prop} (h : wp_X2_pairAt u0 x1 Q) : ctI sxE l yX2_pairAt wsX2_pairAt rX2_pairAt (dC, dI) vwCl [(cI, .int)] [.ref (q0 0), .int x1] (cs2 cI q0 u0) sz (fun (r : Int32) (_ : Unit) => Q r) (fun (_ : Unit) => cs2 cI q0 u0) := by
  refine mx_i (cc := cX2_pairAt) (maxL := 2) (ty := .int) (by decide) rfl (Nat.le_of_ble_eq_true rfl) ?_
  intro p e s m below meth c Z A ls args hx hb hml hown hts hA hP hK hD hE hl hret
  have hown : s.vm.findClass RX2 = some m.cls := hown
  have hl : lv_has ls 2 [(0, .ref (q0 0)), (1, .int x1)] := hl
  have hS : va_S A s.heap s.heap [] := va_S.rf
  refine lv_aload_n hx hb dX2_pairAt_0 rfl (lv_at hl 0 rfl) ?_
  refine lv_iload_n hx hb dX2_pairAt_1 rfl (lv_at hl 1 rfl) ?_
  refine cx_vi (As := [.int x1]) (rest := []) ⟨hx, hb, hml, hown, hts⟩ hl.1 ok_sxE hE hK hP hD hS hA (cut_0 cI q0 u0) (c_X2_byteAt (l := l) (dC := dC) (dI := dI) (cI := cI) (q0 := q0) h) (cwV 1 hts gX2_pairAt_X2_byteAt rfl rfl rfl hdX2_byteAt ⟨Nat.le_of_ble_eq_true rfl, Nat.le_of_ble_eq_true rfl⟩) rfl rfl rfl rfl (Nat.le_of_ble_eq_true rfl) dX2_pairAt_2 rfl (fun r_1 _ H locs h hP hD hS => ?_)
  refine lv_sipush (v := 256) hx hb dX2_pairAt_5 (by decide) ?_
  refine lv_imul hx hb dX2_pairAt_8 ?_
  refine lv_aload_n hx hb dX2_pairAt_9 rfl (lv_at hl 0 rfl) ?_
  refine lv_iload_n hx hb dX2_pairAt_10 rfl (lv_at hl 1 rfl) ?_
  refine lv_iconst (v := 1) hx hb dX2_pairAt_11 (by decide) ?_
  refine lv_iadd hx hb dX2_pairAt_12 ?_
  refine cx_vi (As := [.int (x1 + 1)]) (rest := [.int (r_1 * 256)]) ⟨hx, hb, hml, hown, hts⟩ hl.1 ok_sxE hE hK hP hD hS hA (cut_0 cI q0 u0) (c_X2_byteAt (l := l) (dC := dC) (dI := dI) (cI := cI) (q0 := q0) h) (cwV 1 hts gX2_pairAt_X2_byteAt rfl rfl rfl hdX2_byteAt ⟨Nat.le_of_ble_eq_true rfl, Nat.le_of_ble_eq_true rfl⟩) rfl rfl rfl rfl (Nat.le_of_ble_eq_true rfl) dX2_pairAt_13 rfl (fun r_2 _ H locs h hP hD hS => ?_)
  refine lv_iadd hx hb dX2_pairAt_16 ?_
  exact hret _ _ _ _ _ () dX2_pairAt_17 (vp_nar_int _) h hP hD hS

abbrev rX2_behind : Room := { frames := 1, cells := 0, slots := 0, locals := 21 }
theorem hdX2_behind : yX2_behind.cls = RX2 ∧ yX2_behind.cls ≠ "java/lang/invoke/MethodHandle" ∧ yX2_behind.cls ≠ "java/lang/invoke/VarHandle" ∧ (parseMethodDescriptor yX2_behind.desc).map (fun d => d.parameters.length) = some 1 := by decide +kernel
theorem kX2_behind_0 : Cond.methodLink RX2 29 Lib.Math.max.name ∈ wsX2_behind := by decide +kernel
theorem kX2_behind_1 : Cond.static Lib.Math.max.name ∈ wsX2_behind := by decide +kernel
theorem kX2_behind_2 : Cond.initialized "java/lang/Math" ∈ wsX2_behind := by decide +kernel
theorem kX2_behind_3 : Cond.code Lib.Math.max.name Lib.Math.max.code 2 (some .int) ∈ wsX2_behind := by decide +kernel
set_option maxHeartbeats 4000000 in
set_option maxRecDepth 100000 in
theorem c_X2_behind {l : Launch} {dC : Nat → ClassId} {dI : Nat → Nat → Nat} {cI : ClassId} {q0 : Nat → Nat} {sz : Nat} {u0 : S2} {x1 : Int32} {Q : Int32 → Prop} (h : wp_X2_behind u0 x1 Q) : ctI sxE l yX2_behind wsX2_behind rX2_behind (dC, dI) vwCl [(cI, .int)] [.ref (q0 0), .int x1] (cs2 cI q0 u0) sz (fun (r : Int32) (_ : Unit) => Q r) (fun (_ : Unit) => cs2 cI q0 u0) := by
  refine mx_i (cc := cX2_behind) (maxL := 2) (ty := .int) (by decide) rfl (Nat.le_of_ble_eq_true rfl) ?_
  intro p e s m below meth c Z A ls args hx hb hml hown hts hA hP hK hD hE hl hret
  have hown : s.vm.findClass RX2 = some m.cls := hown
  have hl : lv_has ls 2 [(0, .ref (q0 0)), (1, .int x1)] := hl
  have hS : va_S A s.heap s.heap [] := va_S.rf
  refine lv_iload_n hx hb dX2_behind_0 rfl (lv_at hl 1 rfl) ?_
  refine lv_aload_n hx hb dX2_behind_1 rfl (lv_at hl 0 rfl) ?_
  refine lv_iload_n hx hb dX2_behind_2 rfl (lv_at hl 1 rfl) ?_
  refine lv_iconst (v := 1) hx hb dX2_behind_3 (by decide) ?_
  refine lv_iadd hx hb dX2_behind_4 ?_
  refine cx_vi (As := [.int (x1 + 1)]) (rest := [.int x1]) ⟨hx, hb, hml, hown, hts⟩ hl.1 ok_sxE hE hK hP hD hS hA (cut_0 cI q0 u0) (c_X2_byteAt (l := l) (dC := dC) (dI := dI) (cI := cI) (q0 := q0) h) (cwV 1 hts gX2_behind_X2_byteAt rfl rfl rfl hdX2_byteAt ⟨Nat.le_of_ble_eq_true rfl, Nat.le_of_ble_eq_true rfl⟩) rfl rfl rfl rfl (Nat.le_of_ble_eq_true rfl) dX2_behind_5 rfl (fun r_1 _ H locs h hP hD hS => ?_)
  refine lv_bipush (v := 6) hx hb dX2_behind_8 (by decide) ?_
  refine va_mmax hx hb (hml.trans hl.1.symm) hown (hts _ kX2_behind_0) (hts _ kX2_behind_1) (hts _ kX2_behind_2) (hts _ kX2_behind_3) (Nat.le_of_ble_eq_true rfl) (Nat.le_of_ble_eq_true rfl) (Nat.zero_le _) (Nat.zero_le _) dX2_behind_10 ?_
  refine lv_iadd hx hb dX2_behind_13 ?_
  exact hret _ _ _ _ _ () dX2_behind_14 (vp_nar_int _) h hP hD hS

abbrev rX2_undoable : Room := { frames := 1, cells := 0, slots := 0, locals := 21 }
theorem hdX2_undoable : yX2_undoable.cls = RX2 ∧ yX2_undoable.cls ≠ "java/lang/invoke/MethodHandle" ∧ yX2_undoable.cls ≠ "java/lang/invoke/VarHandle" ∧ (parseMethodDescriptor yX2_undoable.desc).map (fun d => d.parameters.length) = some 1 := by decide +kernel
set_option maxHeartbeats 4000000 in
set_option maxRecDepth 100000 in
theorem c_X2_undoable {l : Launch} {dC : Nat → ClassId} {dI : Nat → Nat → Nat} {cI : ClassId} {q0 : Nat → Nat} {sz : Nat} {u0 : S2} {x1 : Int32} {Q : Int32 → Prop} (h : wp_X2_undoable u0 x1 Q) : ctI sxE l yX2_undoable wsX2_undoable rX2_undoable (dC, dI) vwCl [(cI, .int)] [.ref (q0 0), .int x1] (cs2 cI q0 u0) sz (fun (r : Int32) (_ : Unit) => Q r) (fun (_ : Unit) => cs2 cI q0 u0) := by
  refine mx_i (cc := cX2_undoable) (maxL := 3) (ty := .boolean) (by decide) rfl (Nat.le_of_ble_eq_true rfl) ?_
  intro p e s m below meth c Z A ls args hx hb hml hown hts hA hP hK hD hE hl hret
  have hown : s.vm.findClass RX2 = some m.cls := hown
  have hl : lv_has ls 3 [(0, .ref (q0 0)), (1, .int x1)] := hl
  have hS : va_S A s.heap s.heap [] := va_S.rf
  refine lv_aload_n hx hb dX2_undoable_0 rfl (lv_at hl 0 rfl) ?_
  refine lv_iload_n hx hb dX2_undoable_1 rfl (lv_at hl 1 rfl) ?_
  refine cx_vi (As := [.int x1]) (rest := []) ⟨hx, hb, hml, hown, hts⟩ hl.1 ok_sxE hE hK hP hD hS hA (cut_0 cI q0 u0) (c_X2_byteAt (l := l) (dC := dC) (dI := dI) (cI := cI) (q0 := q0) h) (cwV 1 hts gX2_undoable_X2_byteAt rfl rfl rfl hdX2_byteAt ⟨Nat.le_of_ble_eq_true rfl, Nat.le_of_ble_eq_true rfl⟩) rfl rfl rfl rfl (Nat.le_of_ble_eq_true rfl) dX2_undoable_2 rfl (fun r_1 _ H locs h hP hD hS => ?_)
  refine lv_istore_n (lv' := [(2, .int r_1), (0, .ref (q0 0)), (1, .int x1)]) hx hb dX2_undoable_5 rfl hl (by decide) rfl (fun ls hl => ?_)
  refine lv_iload_n hx hb dX2_undoable_6 rfl (lv_at hl 0 rfl) ?_
  refine lv_iconst (v := 2) hx hb dX2_undoable_7 (by decide) ?_
  refine lv_icmp_eq (tgt := 16) hx hb dX2_undoable_8 (by decide) (fun cd => ?_) (fun cd => ?_)
  · have h := h.1 cd
    refine lv_iconst (v := 1) hx hb dX2_undoable_16 (by decide) ?_
    refine lv_goto (tgt := 21) hx hb dX2_undoable_17 (by decide) ?_
    exact hret _ _ _ _ _ () dX2_undoable_21 (by decide) h hP hD hS
  · have h := h.2 cd
    refine lv_iload_n hx hb dX2_undoable_11 rfl (lv_at hl 0 rfl) ?_
    refine lv_iconst (v := 3) hx hb dX2_undoable_12 (by decide) ?_
    refine lv_icmp_ne (tgt := 20) hx hb dX2_undoable_13 (by decide) (fun cd => ?_) (fun cd => ?_)
    · have h := h.2 cd
      refine lv_iconst (v := 0) hx hb dX2_undoable_20 (by decide) ?_
      exact hret _ _ _ _ _ () dX2_undoable_21 (by decide) h hP hD hS
    · have h := h.1 cd
      refine lv_iconst (v := 1) hx hb dX2_undoable_16 (by decide) ?_
      refine lv_goto (tgt := 21) hx hb dX2_undoable_17 (by decide) ?_
      exact hret _ _ _ _ _ () dX2_undoable_21 (by decide) h hP hD hS

abbrev rX2_addressAt : Room := { frames := 1, cells := 0, slots := 0, locals := 21 }
theorem hdX2_addressAt : yX2_addressAt.cls = RX2 ∧ yX2_addressAt.cls ≠ "java/lang/invoke/MethodHandle" ∧ yX2_addressAt.cls ≠ "java/lang/invoke/VarHandle" ∧ (parseMethodDescriptor yX2_addressAt.desc).map (fun d => d.parameters.length) = some 1 := by decide +kernel
set_option maxHeartbeats 4000000 in
set_option maxRecDepth 100000 in
theorem c_X2_addressAt {l : Launch} {dC : Nat → ClassId} {dI : Nat → Nat → Nat} {cI : ClassId} {q0 : Nat → Nat} {sz : Nat} {u0 : S2} {x1 : Int32} {Q : Int32 → Prop} (h : wp_X2_addressAt u0 x1 Q) : ctI sxE l yX2_addressAt wsX2_addressAt rX2_addressAt (dC, dI) vwCl [(cI, .int)] [.ref (q0 0), .int x1] (cs2 cI q0 u0) sz (fun (r : Int32) (_ : Unit) => Q r) (fun (_ : Unit) => cs2 cI q0 u0) := by
  refine mx_i (cc := cX2_addressAt) (maxL := 2) (ty := .int) (by decide) rfl (Nat.le_of_ble_eq_true rfl) ?_
  intro p e s m below meth c Z A ls args hx hb hml hown hts hA hP hK hD hE hl hret
  have hown : s.vm.findClass RX2 = some m.cls := hown
  have hl : lv_has ls 2 [(0, .ref (q0 0)), (1, .int x1)] := hl
  have hS : va_S A s.heap s.heap [] := va_S.rf
  refine lv_aload_n hx hb dX2_addressAt_0 rfl (lv_at hl 0 rfl) ?_
  refine lv_iload_n hx hb dX2_addressAt_1 rfl (lv_at hl 1 rfl) ?_
  refine lv_iconst (v := 5) hx hb dX2_addressAt_2 (by decide) ?_
  refine lv_iadd hx hb dX2_addressAt_3 ?_
  refine cx_vi (As := [.int (x1 + 5)]) (rest := []) ⟨hx, hb, hml, hown, hts⟩ hl.1 ok_sxE hE hK hP hD hS hA (cut_0 cI q0 u0) (c_X2_byteAt (l := l) (dC := dC) (dI := dI) (cI := cI) (q0 := q0) h) (cwV 1 hts gX2_addressAt_X2_byteAt rfl rfl rfl hdX2_byteAt ⟨Nat.le_of_ble_eq_true rfl, Nat.le_of_ble_eq_true rfl⟩) rfl rfl rfl rfl (Nat.le_of_ble_eq_true rfl) dX2_addressAt_4 rfl (fun r_1 _ H locs h hP hD hS => ?_)
  refine lv_sipush (v := 255) hx hb dX2_addressAt_7 (by decide) ?_
  refine lv_iand hx hb dX2_addressAt_10 ?_
  exact hret _ _ _ _ _ () dX2_addressAt_11 (vp_nar_int _) h hP hD hS

abbrev rX2_undone : Room := { frames := 1, cells := 0, slots := 0, locals := 21 }
theorem hdX2_undone : yX2_undone.cls = RX2 ∧ yX2_undone.cls ≠ "java/lang/invoke/MethodHandle" ∧ yX2_undone.cls ≠ "java/lang/invoke/VarHandle" ∧ (parseMethodDescriptor yX2_undone.desc).map (fun d => d.parameters.length) = some 2 := by decide +kernel
set_option maxHeartbeats 4000000 in
set_option maxRecDepth 100000 in
theorem c_X2_undone {l : Launch} {dC : Nat → ClassId} {dI : Nat → Nat → Nat} {cI : ClassId} {q0 : Nat → Nat} {sz : Nat} {u0 : S2} {x1 : Int32} {x2 : Int32} {Q : Int32 → Prop} (h : wp_X2_undone u0 x1 x2 Q) : ctI sxE l yX2_undone wsX2_undone rX2_undone (dC, dI) vwCl [(cI, .int)] [.ref (q0 0), .int x1, .int x2] (cs2 cI q0 u0) sz (fun (r : Int32) (_ : Unit) => Q r) (fun (_ : Unit) => cs2 cI q0 u0) := by
  refine mx_i (cc := cX2_undone) (maxL := 3) (ty := .int) (by decide) rfl (Nat.le_of_ble_eq_true rfl) ?_
  intro p e s m below meth c Z A ls args hx hb hml hown hts hA hP hK hD hE hl hret
  have hown : s.vm.findClass RX2 = some m.cls := hown
  have hl : lv_has ls 3 [(0, .ref (q0 0)), (1, .int x1), (2, .int x2)] := hl
  have hS : va_S A s.heap s.heap [] := va_S.rf
  refine lv_aload_n hx hb dX2_undone_0 rfl (lv_at hl 0 rfl) ?_
  refine lv_iload_n hx hb dX2_undone_1 rfl (lv_at hl 1 rfl) ?_
  refine cx_vi (As := [.int x1]) (rest := []) ⟨hx, hb, hml, hown, hts⟩ hl.1 ok_sxE hE hK hP hD hS hA (cut_0 cI q0 u0) (c_X2_byteAt (l := l) (dC := dC) (dI := dI) (cI := cI) (q0 := q0) h) (cwV 1 hts gX2_undone_X2_byteAt rfl rfl rfl hdX2_byteAt ⟨Nat.le_of_ble_eq_true rfl, Nat.le_of_ble_eq_true rfl⟩) rfl rfl rfl rfl (Nat.le_of_ble_eq_true rfl) dX2_undone_2 rfl (fun r_1 _ H locs h hP hD hS => ?_)
  refine lv_iconst (v := 2) hx hb dX2_undone_5 (by decide) ?_
  refine lv_icmp_ne (tgt := 20) hx hb dX2_undone_6 (by decide) (fun cd => ?_) (fun cd => ?_)
  · have h := h.2 cd
    refine lv_iload_n hx hb dX2_undone_20 rfl (lv_at hl 2 rfl) ?_
    refine lv_aload_n hx hb dX2_undone_21 rfl (lv_at hl 0 rfl) ?_
    refine lv_iload_n hx hb dX2_undone_22 rfl (lv_at hl 1 rfl) ?_
    refine lv_bipush (v := 6) hx hb dX2_undone_23 (by decide) ?_
    refine lv_iadd hx hb dX2_undone_25 ?_
    refine cx_vi (As := [.int (x1 + 6)]) (rest := [.int x2]) ⟨hx, hb, hml, hown, hts⟩ hl.1 ok_sxE hE hK hP hD hS hA (cut_0 cI q0 u0) (c_X2_byteAt (l := l) (dC := dC) (dI := dI) (cI := cI) (q0 := q0) h) (cwV 1 hts gX2_undone_X2_byteAt rfl rfl rfl hdX2_byteAt ⟨Nat.le_of_ble_eq_true rfl, Nat.le_of_ble_eq_true rfl⟩) rfl rfl rfl rfl (Nat.le_of_ble_eq_true rfl) dX2_undone_26 rfl (fun r_2 _ H locs h hP hD hS => ?_)
    refine lv_isub hx hb dX2_undone_29 ?_
    refine lv_sipush (v := 255) hx hb dX2_undone_30 (by decide) ?_
    refine lv_iand hx hb dX2_undone_33 ?_
    exact hret _ _ _ _ _ () dX2_undone_34 (vp_nar_int _) h hP hD hS
  · have h := h.1 cd
    refine lv_aload_n hx hb dX2_undone_9 rfl (lv_at hl 0 rfl) ?_
    refine lv_iload_n hx hb dX2_undone_10 rfl (lv_at hl 1 rfl) ?_
    refine lv_bipush (v := 6) hx hb dX2_undone_11 (by decide) ?_
    refine lv_iadd hx hb dX2_undone_13 ?_
    refine cx_vi (As := [.int (x1 + 6)]) (rest := []) ⟨hx, hb, hml, hown, hts⟩ hl.1 ok_sxE hE hK hP hD hS hA (cut_0 cI q0 u0) (c_X2_byteAt (l := l) (dC := dC) (dI := dI) (cI := cI) (q0 := q0) h) (cwV 1 hts gX2_undone_X2_byteAt rfl rfl rfl hdX2_byteAt ⟨Nat.le_of_ble_eq_true rfl, Nat.le_of_ble_eq_true rfl⟩) rfl rfl rfl rfl (Nat.le_of_ble_eq_true rfl) dX2_undone_14 rfl (fun r_3 _ H locs h hP hD hS => ?_)
    refine lv_goto (tgt := 34) hx hb dX2_undone_17 (by decide) ?_
    exact hret _ _ _ _ _ () dX2_undone_34 (vp_nar_int _) h hP hD hS

abbrev rX2_onward : Room := { frames := 2, cells := 0, slots := 0, locals := 42 }
theorem hdX2_onward : yX2_onward.cls = RX2 ∧ yX2_onward.cls ≠ "java/lang/invoke/MethodHandle" ∧ yX2_onward.cls ≠ "java/lang/invoke/VarHandle" ∧ (parseMethodDescriptor yX2_onward.desc).map (fun d => d.parameters.length) = some 1 := by decide +kernel
set_option maxHeartbeats 4000000 in
set_option maxRecDepth 100000 in
theorem c_X2_onward {l : Launch} {dC : Nat → ClassId} {dI : Nat → Nat → Nat} {cI : ClassId} {q0 : Nat → Nat} {sz : Nat} {u0 : S2} {x1 : Int32} {Q : Int32 → Prop} (h : wp_X2_onward u0 x1 Q) : ctI sxE l yX2_onward wsX2_onward rX2_onward (dC, dI) vwCl [(cI, .int)] [.ref (q0 0), .int x1] (cs2 cI q0 u0) sz (fun (r : Int32) (_ : Unit) => Q r) (fun (_ : Unit) => cs2 cI q0 u0) := by
  refine mx_i (cc := cX2_onward) (maxL := 2) (ty := .int) (by decide) rfl (Nat.le_of_ble_eq_true rfl) ?_
  intro p e s m below meth c Z A ls args hx hb hml hown hts hA hP hK hD hE hl hret
  have hown : s.vm.findClass RX2 = some m.cls := hown
  have hl : lv_has ls 2 [(0, .ref (q0 0)), (1, .int x1)] := hl
  have hS : va_S A s.heap s.heap [] := va_S.rf
  refine lv_aload_n hx hb dX2_onward_0 rfl (lv_at hl 0 rfl) ?_
  refine lv_iload_n hx hb dX2_onward_1 rfl (lv_at hl 1 rfl) ?_
  refine cx_vi (As := [.int x1]) (rest := []) ⟨hx, hb, hml, hown, hts⟩ hl.1 ok_sxE hE hK hP hD hS hA (cut_0 cI q0 u0) (c_X2_byteAt (l := l) (dC := dC) (dI := dI) (cI := cI) (q0 := q0) h) (cwV 1 hts gX2_onward_X2_byteAt rfl rfl rfl hdX2_byteAt ⟨Nat.le_of_ble_eq_true rfl, Nat.le_of_ble_eq_true rfl⟩) rfl rfl rfl rfl (Nat.le_of_ble_eq_true rfl) dX2_onward_2 rfl (fun r_1 _ H locs h hP hD hS => ?_)
  by_cases c0 : r_1 = 4
  · have h := h.1 c0
    refine lv_lookup (tgt := 32) (off := 27) hx hb dX2_onward_5 (by decide) (by rw [c0]; rfl) (by decide) ?_
    refine lv_aload_n hx hb dX2_onward_32 rfl (lv_at hl 0 rfl) ?_
    refine lv_iload_n hx hb dX2_onward_33 rfl (lv_at hl 1 rfl) ?_
    refine lv_bipush (v := 8) hx hb dX2_onward_34 (by decide) ?_
    refine lv_iadd hx hb dX2_onward_36 ?_
    refine cx_vi (As := [.int (x1 + 8)]) (rest := []) ⟨hx, hb, hml, hown, hts⟩ hl.1 ok_sxE hE hK hP hD hS hA (cut_0 cI q0 u0) (c_X2_pairAt (l := l) (dC := dC) (dI := dI) (cI := cI) (q0 := q0) h) (cwV 1 hts gX2_onward_X2_pairAt rfl rfl rfl hdX2_pairAt ⟨Nat.le_of_ble_eq_true rfl, Nat.le_of_ble_eq_true rfl⟩) rfl rfl rfl rfl (Nat.le_of_ble_eq_true rfl) dX2_onward_37 rfl (fun r_3 _ H locs h hP hD hS => ?_)
    exact hret _ _ _ _ _ () dX2_onward_40 (vp_nar_int _) h hP hD hS
  have h := h.2 c0
  by_cases c1 : r_1 = 9
  · have h := h.1 c1
    refine lv_lookup (tgt := 41) (off := 36) hx hb dX2_onward_5 (by decide) (by rw [c1]; rfl) (by decide) ?_
    refine lv_aload_n hx hb dX2_onward_41 rfl (lv_at hl 0 rfl) ?_
    refine lv_iload_n hx hb dX2_onward_42 rfl (lv_at hl 1 rfl) ?_
    refine lv_iconst (v := 5) hx hb dX2_onward_43 (by decide) ?_
    refine lv_iadd hx hb dX2_onward_44 ?_
    refine cx_vi (As := [.int (x1 + 5)]) (rest := []) ⟨hx, hb, hml, hown, hts⟩ hl.1 ok_sxE hE hK hP hD hS hA (cut_0 cI q0 u0) (c_X2_pairAt (l := l) (dC := dC) (dI := dI) (cI := cI) (q0 := q0) h) (cwV 1 hts gX2_onward_X2_pairAt rfl rfl rfl hdX2_pairAt ⟨Nat.le_of_ble_eq_true rfl, Nat.le_of_ble_eq_true rfl⟩) rfl rfl rfl rfl (Nat.le_of_ble_eq_true rfl) dX2_onward_45 rfl (fun r_4 _ H locs h hP hD hS => ?_)
    exact hret _ _ _ _ _ () dX2_onward_48 (vp_nar_int _) h hP hD hS
  have h := h.2 c1
  refine lv_lookup (tgt := 49) (off := 44) hx hb dX2_onward_5 (by decide) (by rw [show Op.lookupswitch.offset _ _ _ = _ from lv_osw c0 (by decide)]; rw [show Op.lookupswitch.offset _ _ _ = _ from lv_osw c1 (by decide)]; rfl) (by decide) ?_
  refine lv_aload_n hx hb dX2_onward_49 rfl (lv_at hl 0 rfl) ?_
  refine lv_iload_n hx hb dX2_onward_50 rfl (lv_at hl 1 rfl) ?_
  refine lv_iconst (v := 3) hx hb dX2_onward_51 (by decide) ?_
  refine lv_iadd hx hb dX2_onward_52 ?_
  refine cx_vi (As := [.int (x1 + 3)]) (rest := []) ⟨hx, hb, hml, hown, hts⟩ hl.1 ok_sxE hE hK hP hD hS hA (cut_0 cI q0 u0) (c_X2_pairAt (l := l) (dC := dC) (dI := dI) (cI := cI) (q0 := q0) h) (cwV 1 hts gX2_onward_X2_pairAt rfl rfl rfl hdX2_pairAt ⟨Nat.le_of_ble_eq_true rfl, Nat.le_of_ble_eq_true rfl⟩) rfl rfl rfl rfl (Nat.le_of_ble_eq_true rfl) dX2_onward_53 rfl (fun r_2 _ H locs h hP hD hS => ?_)
  exact hret _ _ _ _ _ () dX2_onward_56 (vp_nar_int _) h hP hD hS

abbrev rX2_touches : Room := { frames := 1, cells := 0, slots := 0, locals := 21 }
theorem hdX2_touches : yX2_touches.cls = RX2 ∧ yX2_touches.cls ≠ "java/lang/invoke/MethodHandle" ∧ yX2_touches.cls ≠ "java/lang/invoke/VarHandle" ∧ (parseMethodDescriptor yX2_touches.desc).map (fun d => d.parameters.length) = some 1 := by decide +kernel
set_option maxHeartbeats 4000000 in
set_option maxRecDepth 100000 in
theorem c_X2_touches {l : Launch} {dC : Nat → ClassId} {dI : Nat → Nat → Nat} {cI : ClassId} {q0 : Nat → Nat} {sz : Nat} {u0 : S2} {x1 : Int32} {Q : Int32 → Prop} (h : wp_X2_touches u0 x1 Q) : ctI sxE l yX2_touches wsX2_touches rX2_touches (dC, dI) vwCl [(cI, .int)] [.ref (q0 0), .int x1] (cs2 cI q0 u0) sz (fun (r : Int32) (_ : Unit) => Q r) (fun (_ : Unit) => cs2 cI q0 u0) := by
  refine mx_i (cc := cX2_touches) (maxL := 3) (ty := .boolean) (by decide) rfl (Nat.le_of_ble_eq_true rfl) ?_
  intro p e s m below meth c Z A ls args hx hb hml hown hts hA hP hK hD hE hl hret
  have hown : s.vm.findClass RX2 = some m.cls := hown
  have hl : lv_has ls 3 [(0, .ref (q0 0)), (1, .int x1)] := hl
  have hS : va_S A s.heap s.heap [] := va_S.rf
  refine lv_aload_n hx hb dX2_touches_0 rfl (lv_at hl 0 rfl) ?_
  refine lv_iload_n hx hb dX2_touches_1 rfl (lv_at hl 1 rfl) ?_
  refine cx_vi (As := [.int x1]) (rest := []) ⟨hx, hb, hml, hown, hts⟩ hl.1 ok_sxE hE hK hP hD hS hA (cut_0 cI q0 u0) (c_X2_byteAt (l := l) (dC := dC) (dI := dI) (cI := cI) (q0 := q0) h) (cwV 1 hts gX2_touches_X2_byteAt rfl rfl rfl hdX2_byteAt ⟨Nat.le_of_ble_eq_true rfl, Nat.le_of_ble_eq_true rfl⟩) rfl rfl rfl rfl (Nat.le_of_ble_eq_true rfl) dX2_touches_2 rfl (fun r_1 _ H locs h hP hD hS => ?_)
  refine lv_istore_n (lv' := [(2, .int r_1), (0, .ref (q0 0)), (1, .int x1)]) hx hb dX2_touches_5 rfl hl (by decide) rfl (fun ls hl => ?_)
  refine lv_iload_n hx hb dX2_touches_6 rfl (lv_at hl 0 rfl) ?_
  refine lv_iconst (v := 2) hx hb dX2_touches_7 (by decide) ?_
  refine lv_icmp_eq (tgt := 21) hx hb dX2_touches_8 (by decide) (fun cd => ?_) (fun cd => ?_)
  · have h := h.1 cd
    refine lv_iconst (v := 1) hx hb dX2_touches_21 (by decide) ?_
    refine lv_goto (tgt := 26) hx hb dX2_touches_22 (by decide) ?_
    exact hret _ _ _ _ _ () dX2_touches_26 (by decide) h hP hD hS
  · have h := h.2 cd
    refine lv_iload_n hx hb dX2_touches_11 rfl (lv_at hl 0 rfl) ?_
    refine lv_iconst (v := 3) hx hb dX2_touches_12 (by decide) ?_
    refine lv_icmp_eq (tgt := 21) hx hb dX2_touches_13 (by decide) (fun cd => ?_) (fun cd => ?_)
    · have h := h.1 cd
      refine lv_iconst (v := 1) hx hb dX2_touches_21 (by decide) ?_
      refine lv_goto (tgt := 26) hx hb dX2_touches_22 (by decide) ?_
      exact hret _ _ _ _ _ () dX2_touches_26 (by decide) h hP hD hS
    · have h := h.2 cd
      refine lv_iload_n hx hb dX2_touches_16 rfl (lv_at hl 0 rfl) ?_
      refine lv_iconst (v := 4) hx hb dX2_touches_17 (by decide) ?_
      refine lv_icmp_ne (tgt := 25) hx hb dX2_touches_18 (by decide) (fun cd => ?_) (fun cd => ?_)
      · have h := h.2 cd
        refine lv_iconst (v := 0) hx hb dX2_touches_25 (by decide) ?_
        exact hret _ _ _ _ _ () dX2_touches_26 (by decide) h hP hD hS
      · have h := h.1 cd
        refine lv_iconst (v := 1) hx hb dX2_touches_21 (by decide) ?_
        refine lv_goto (tgt := 26) hx hb dX2_touches_22 (by decide) ?_
        exact hret _ _ _ _ _ () dX2_touches_26 (by decide) h hP hD hS

abbrev rX2_done : Room := { frames := 1, cells := 0, slots := 0, locals := 21 }
theorem hdX2_done : yX2_done.cls = RX2 ∧ yX2_done.cls ≠ "java/lang/invoke/MethodHandle" ∧ yX2_done.cls ≠ "java/lang/invoke/VarHandle" ∧ (parseMethodDescriptor yX2_done.desc).map (fun d => d.parameters.length) = some 2 := by decide +kernel
set_option maxHeartbeats 4000000 in
set_option maxRecDepth 100000 in
theorem c_X2_done {l : Launch} {dC : Nat → ClassId} {dI : Nat → Nat → Nat} {cI : ClassId} {q0 : Nat → Nat} {sz : Nat} {u0 : S2} {x1 : Int32} {x2 : Int32} {Q : Int32 → Prop} (h : wp_X2_done u0 x1 x2 Q) : ctI sxE l yX2_done wsX2_done rX2_done (dC, dI) vwCl [(cI, .int)] [.ref (q0 0), .int x1, .int x2] (cs2 cI q0 u0) sz (fun (r : Int32) (_ : Unit) => Q r) (fun (_ : Unit) => cs2 cI q0 u0) := by
  refine mx_i (cc := cX2_done) (maxL := 3) (ty := .int) (by decide) rfl (Nat.le_of_ble_eq_true rfl) ?_
  intro p e s m below meth c Z A ls args hx hb hml hown hts hA hP hK hD hE hl hret
  have hown : s.vm.findClass RX2 = some m.cls := hown
  have hl : lv_has ls 3 [(0, .ref (q0 0)), (1, .int x1), (2, .int x2)] := hl
  have hS : va_S A s.heap s.heap [] := va_S.rf
  refine lv_aload_n hx hb dX2_done_0 rfl (lv_at hl 0 rfl) ?_
  refine lv_iload_n hx hb dX2_done_1 rfl (lv_at hl 1 rfl) ?_
  refine cx_vi (As := [.int x1]) (rest := []) ⟨hx, hb, hml, hown, hts⟩ hl.1 ok_sxE hE hK hP hD hS hA (cut_0 cI q0 u0) (c_X2_byteAt (l := l) (dC := dC) (dI := dI) (cI := cI) (q0 := q0) h) (cwV 1 hts gX2_done_X2_byteAt rfl rfl rfl hdX2_byteAt ⟨Nat.le_of_ble_eq_true rfl, Nat.le_of_ble_eq_true rfl⟩) rfl rfl rfl rfl (Nat.le_of_ble_eq_true rfl) dX2_done_2 rfl (fun r_1 _ H locs h hP hD hS => ?_)
  by_cases c0 : r_1 = 2
  · have h := h.1 c0
    refine lv_tableIn (tgt := 32) (off := 27) hx hb dX2_done_5 (by rw [c0]; decide) (by rw [c0]; decide) (by rw [c0]; rfl) (by decide) ?_
    refine lv_aload_n hx hb dX2_done_32 rfl (lv_at hl 0 rfl) ?_
    refine lv_iload_n hx hb dX2_done_33 rfl (lv_at hl 1 rfl) ?_
    refine lv_bipush (v := 7) hx hb dX2_done_34 (by decide) ?_
    refine lv_iadd hx hb dX2_done_36 ?_
    refine cx_vi (As := [.int (x1 + 7)]) (rest := []) ⟨hx, hb, hml, hown, hts⟩ hl.1 ok_sxE hE hK hP hD hS hA (cut_0 cI q0 u0) (c_X2_byteAt (l := l) (dC := dC) (dI := dI) (cI := cI) (q0 := q0) h) (cwV 1 hts gX2_done_X2_byteAt rfl rfl rfl hdX2_byteAt ⟨Nat.le_of_ble_eq_true rfl, Nat.le_of_ble_eq_true rfl⟩) rfl rfl rfl rfl (Nat.le_of_ble_eq_true rfl) dX2_done_37 rfl (fun r_2 _ H locs h hP hD hS => ?_)
    exact hret _ _ _ _ _ () dX2_done_40 (vp_nar_int _) h hP hD hS
  have h := h.2 c0
  by_cases c1 : r_1 = 3
  · have h := h.1 c1
    refine lv_tableIn (tgt := 41) (off := 36) hx hb dX2_done_5 (by rw [c1]; decide) (by rw [c1]; decide) (by rw [c1]; rfl) (by decide) ?_
    refine lv_iload_n hx hb dX2_done_41 rfl (lv_at hl 2 rfl) ?_
    refine lv_aload_n hx hb dX2_done_42 rfl (lv_at hl 0 rfl) ?_
    refine lv_iload_n hx hb dX2_done_43 rfl (lv_at hl 1 rfl) ?_
    refine lv_bipush (v := 6) hx hb dX2_done_44 (by decide) ?_
    refine lv_iadd hx hb dX2_done_46 ?_
    refine cx_vi (As := [.int (x1 + 6)]) (rest := [.int x2]) ⟨hx, hb, hml, hown, hts⟩ hl.1 ok_sxE hE hK hP hD hS hA (cut_0 cI q0 u0) (c_X2_byteAt (l := l) (dC := dC) (dI := dI) (cI := cI) (q0 := q0) h) (cwV 1 hts gX2_done_X2_byteAt rfl rfl rfl hdX2_byteAt ⟨Nat.le_of_ble_eq_true rfl, Nat.le_of_ble_eq_true rfl⟩) rfl rfl rfl rfl (Nat.le_of_ble_eq_true rfl) dX2_done_47 rfl (fun r_3 _ H locs h hP hD hS => ?_)
    refine lv_iadd hx hb dX2_done_50 ?_
    refine lv_sipush (v := 255) hx hb dX2_done_51 (by decide) ?_
    refine lv_iand hx hb dX2_done_54 ?_
    exact hret _ _ _ _ _ () dX2_done_55 (vp_nar_int _) h hP hD hS
  have h := h.2 c1
  by_cases c2 : r_1 = 4
  · have h := h.1 c2
    refine lv_tableIn (tgt := 56) (off := 51) hx hb dX2_done_5 (by rw [c2]; decide) (by rw [c2]; decide) (by rw [c2]; rfl) (by decide) ?_
    refine lv_aload_n hx hb dX2_done_56 rfl (lv_at hl 0 rfl) ?_
    refine lv_iload_n hx hb dX2_done_57 rfl (lv_at hl 1 rfl) ?_
    refine lv_bipush (v := 6) hx hb dX2_done_58 (by decide) ?_
    refine lv_iadd hx hb dX2_done_60 ?_
    refine cx_vi (As := [.int (x1 + 6)]) (rest := []) ⟨hx, hb, hml, hown, hts⟩ hl.1 ok_sxE hE hK hP hD hS hA (cut_0 cI q0 u0) (c_X2_byteAt (l := l) (dC := dC) (dI := dI) (cI := cI) (q0 := q0) h) (cwV 1 hts gX2_done_X2_byteAt rfl rfl rfl hdX2_byteAt ⟨Nat.le_of_ble_eq_true rfl, Nat.le_of_ble_eq_true rfl⟩) rfl rfl rfl rfl (Nat.le_of_ble_eq_true rfl) dX2_done_61 rfl (fun r_4 _ H locs h hP hD hS => ?_)
    refine lv_if_ne (tgt := 78) hx hb dX2_done_64 (by decide) (fun cd => ?_) (fun cd => ?_)
    · have h := h.2 cd
      refine lv_iload_n hx hb dX2_done_78 rfl (lv_at hl 2 rfl) ?_
      refine lv_aload_n hx hb dX2_done_79 rfl (lv_at hl 0 rfl) ?_
      refine lv_iload_n hx hb dX2_done_80 rfl (lv_at hl 1 rfl) ?_
      refine lv_bipush (v := 7) hx hb dX2_done_81 (by decide) ?_
      refine lv_iadd hx hb dX2_done_83 ?_
      refine cx_vi (As := [.int (x1 + 7)]) (rest := [.int x2]) ⟨hx, hb, hml, hown, hts⟩ hl.1 ok_sxE hE hK hP hD hS hA (cut_0 cI q0 u0) (c_X2_byteAt (l := l) (dC := dC) (dI := dI) (cI := cI) (q0 := q0) h) (cwV 1 hts gX2_done_X2_byteAt rfl rfl rfl hdX2_byteAt ⟨Nat.le_of_ble_eq_true rfl, Nat.le_of_ble_eq_true rfl⟩) rfl rfl rfl rfl (Nat.le_of_ble_eq_true rfl) dX2_done_84 rfl (fun r_5 _ H locs h hP hD hS => ?_)
      refine lv_iadd hx hb dX2_done_87 ?_
      refine lv_sipush (v := 255) hx hb dX2_done_88 (by decide) ?_
      refine lv_iand hx hb dX2_done_91 ?_
      exact hret _ _ _ _ _ () dX2_done_92 (vp_nar_int _) h hP hD hS
    · have h := h.1 cd
      refine lv_aload_n hx hb dX2_done_67 rfl (lv_at hl 0 rfl) ?_
      refine lv_iload_n hx hb dX2_done_68 rfl (lv_at hl 1 rfl) ?_
      refine lv_bipush (v := 7) hx hb dX2_done_69 (by decide) ?_
      refine lv_iadd hx hb dX2_done_71 ?_
      refine cx_vi (As := [.int (x1 + 7)]) (rest := []) ⟨hx, hb, hml, hown, hts⟩ hl.1 ok_sxE hE hK hP hD hS hA (cut_0 cI q0 u0) (c_X2_byteAt (l := l) (dC := dC) (dI := dI) (cI := cI) (q0 := q0) h) (cwV 1 hts gX2_done_X2_byteAt rfl rfl rfl hdX2_byteAt ⟨Nat.le_of_ble_eq_true rfl, Nat.le_of_ble_eq_true rfl⟩) rfl rfl rfl rfl (Nat.le_of_ble_eq_true rfl) dX2_done_72 rfl (fun r_6 _ H locs h hP hD hS => ?_)
      refine lv_goto (tgt := 92) hx hb dX2_done_75 (by decide) ?_
      exact hret _ _ _ _ _ () dX2_done_92 (vp_nar_int _) h hP hD hS
  have h := h.2 c2
  refine lv_tableOut (tgt := 93) hx hb dX2_done_5 (by have z0 := lv_neT (a := 2) c0 (by decide); have z1 := lv_neT (a := 3) c1 (by decide); have z2 := lv_neT (a := 4) c2 (by decide); omega) (by decide) ?_
  refine lv_iload_n hx hb dX2_done_93 rfl (lv_at hl 2 rfl) ?_
  exact hret _ _ _ _ _ () dX2_done_94 (vp_nar_int _) h hP hD hS

abbrev rX2_nextUndoable : Room := { frames := 3, cells := 0, slots := 0, locals := 63 }
theorem hdX2_nextUndoable : yX2_nextUndoable.cls = RX2 ∧ yX2_nextUndoable.cls ≠ "java/lang/invoke/MethodHandle" ∧ yX2_nextUndoable.cls ≠ "java/lang/invoke/VarHandle" ∧ (parseMethodDescriptor yX2_nextUndoable.desc).map (fun d => d.parameters.length) = some 1 := by decide +kernel
theorem kX2_nextUndoable_0 : Cond.constant RX2 38 (1000000) ∈ wsX2_nextUndoable := by decide +kernel
set_option maxHeartbeats 4000000 in
set_option maxRecDepth 100000 in
theorem c_X2_nextUndoable {l : Launch} {dC : Nat → ClassId} {dI : Nat → Nat → Nat} {cI : ClassId} {q0 : Nat → Nat} {sz : Nat} {u0 : S2} {x1 : Int32} {Q : Int32 → Prop} (h : wp_X2_nextUndoable u0 x1 Q) : ctI sxE l yX2_nextUndoable wsX2_nextUndoable rX2_nextUndoable (dC, dI) vwCl [(cI, .int)] [.ref (q0 0), .int x1] (cs2 cI q0 u0) sz (fun (r : Int32) (_ : Unit) => Q r) (fun (_ : Unit) => cs2 cI q0 u0) := by
  refine mx_i (cc := cX2_nextUndoable) (maxL := 4) (ty := .int) (by decide) rfl (Nat.le_of_ble_eq_true rfl) ?_
  intro p e s m below meth c Z A ls args hx hb hml hown hts hA hP hK hD hE hl hret
  have hown : s.vm.findClass RX2 = some m.cls := hown
  have hl : lv_has ls 4 [(0, .ref (q0 0)), (1, .int x1)] := hl
  have w_4 : ∀ (n : Nat) (x2 : Int32) (x3 : Int32) (H : Heap) (locs : List Loc) (ls : Array Slot) (_ : va_P (dC, dI) vwCl (cs2 cI q0 u0) H) (_ : va_D A (cs2 cI q0 u0)) (_ : va_S A s.heap H locs) (_ : lv_has ls 4 [(0, .ref (q0 0)), (2, .int x2), (3, .int x3)]) (_ : wp_X2_nextUndoable_4 u0 Q n x2 x3), W p l e rX2_nextUndoable s m args below meth c H locs 0 0 Z (F0 m 4 ls []) := by
    intro n
    induction n with
    | zero => intro x2 x3 H locs ls hP hD hS hl h; exact False.elim h
    | succ n ih =>
      intro x2 x3 H locs ls hP hD hS hl h
      refine lv_iload_n hx hb dX2_nextUndoable_4 rfl (lv_at hl 2 rfl) ?_
      refine lv_ldc (v := 1000000) hx hb hown (hts _ kX2_nextUndoable_0) dX2_nextUndoable_5 ?_
      refine lv_icmp_ge (tgt := 34) hx hb dX2_nextUndoable_7 (by decide) (fun cd => ?_) (fun cd => ?_)
      · have h := h.1 cd
        refine lv_iload_n hx hb dX2_nextUndoable_34 rfl (lv_at hl 1 rfl) ?_
        exact hret _ _ _ _ _ () dX2_nextUndoable_35 (vp_nar_int _) h hP hD hS
      · have h := h.2 cd
        refine lv_iload_n hx hb dX2_nextUndoable_10 rfl (lv_at hl 1 rfl) ?_
        refine lv_if_eq (tgt := 34) hx hb dX2_nextUndoable_11 (by decide) (fun cd => ?_) (fun cd => ?_)
        · have h := h.1 cd
          refine lv_iload_n hx hb dX2_nextUndoable_34 rfl (lv_at hl 1 rfl) ?_
          exact hret _ _ _ _ _ () dX2_nextUndoable_35 (vp_nar_int _) h hP hD hS
        · have h := h.2 cd
          refine lv_aload_n hx hb dX2_nextUndoable_14 rfl (lv_at hl 0 rfl) ?_
          refine lv_iload_n hx hb dX2_nextUndoable_15 rfl (lv_at hl 1 rfl) ?_
          refine cx_vi (As := [.int x2]) (rest := []) ⟨hx, hb, hml, hown, hts⟩ hl.1 ok_sxE hE hK hP hD hS hA (cut_0 cI q0 u0) (c_X2_undoable (l := l) (dC := dC) (dI := dI) (cI := cI) (q0 := q0) h) (cwV 1 hts gX2_nextUndoable_X2_undoable rfl rfl rfl hdX2_undoable ⟨Nat.le_of_ble_eq_true rfl, Nat.le_of_ble_eq_true rfl⟩) rfl rfl rfl rfl (Nat.le_of_ble_eq_true rfl) dX2_nextUndoable_16 rfl (fun r_1 _ H locs h hP hD hS => ?_)
          refine lv_if_ne (tgt := 34) hx hb dX2_nextUndoable_19 (by decide) (fun cd => ?_) (fun cd => ?_)
          · have h := h.2 cd
            refine lv_iload_n hx hb dX2_nextUndoable_34 rfl (lv_at hl 1 rfl) ?_
            exact hret _ _ _ _ _ () dX2_nextUndoable_35 (vp_nar_int _) h hP hD hS
          · have h := h.1 cd
            refine lv_aload_n hx hb dX2_nextUndoable_22 rfl (lv_at hl 0 rfl) ?_
            refine lv_iload_n hx hb dX2_nextUndoable_23 rfl (lv_at hl 1 rfl) ?_
            refine cx_vi (As := [.int x2]) (rest := []) ⟨hx, hb, hml, hown, hts⟩ hl.1 ok_sxE hE hK hP hD hS hA (cut_0 cI q0 u0) (c_X2_onward (l := l) (dC := dC) (dI := dI) (cI := cI) (q0 := q0) h) (cwV 1 hts gX2_nextUndoable_X2_onward rfl rfl rfl hdX2_onward ⟨Nat.le_of_ble_eq_true rfl, Nat.le_of_ble_eq_true rfl⟩) rfl rfl rfl rfl (Nat.le_of_ble_eq_true rfl) dX2_nextUndoable_24 rfl (fun r_2 _ H locs h hP hD hS => ?_)
            refine lv_istore_n (lv' := [(2, .int r_2), (0, .ref (q0 0)), (3, .int x3)]) hx hb dX2_nextUndoable_27 rfl hl (by decide) rfl (fun ls hl => ?_)
            obtain ⟨x3_3, e_x3_3⟩ : ∃ z : Int32, z = x3 + 1 := ⟨_, rfl⟩
            have h := h x3_3 e_x3_3
            refine lv_iinc (v := x3_3) (lv' := [(3, .int x3_3), (2, .int r_2), (0, .ref (q0 0))]) hx hb dX2_nextUndoable_28 hl (k := 2) rfl (by rw [e_x3_3]; rfl) (by decide) rfl (fun ls hl => ?_)
            refine lv_goto (tgt := 4) hx hb dX2_nextUndoable_31 (by decide) ?_
            exact ih r_2 x3_3 _ _ _ hP hD hS (lv_sub hl [2, 1, 0] rfl) h
  have hS : va_S A s.heap s.heap [] := va_S.rf
  refine lv_iload_n hx hb dX2_nextUndoable_0 rfl (lv_at hl 1 rfl) ?_
  refine lv_istore_n (lv' := [(2, .int x1), (0, .ref (q0 0)), (1, .int x1)]) hx hb dX2_nextUndoable_1 rfl hl (by decide) rfl (fun ls hl => ?_)
  refine lv_iconst (v := 0) hx hb dX2_nextUndoable_2 (by decide) ?_
  refine lv_istore_n (lv' := [(3, .int 0), (2, .int x1), (0, .ref (q0 0)), (1, .int x1)]) hx hb dX2_nextUndoable_3 rfl hl (by decide) rfl (fun ls hl => ?_)
  obtain ⟨n0, h⟩ := h
  exact w_4 n0 x1 0 _ _ _ hP hD hS (lv_sub hl [2, 1, 0] rfl) h

abbrev rX2_undoCount : Room := { frames := 3, cells := 0, slots := 0, locals := 63 }
theorem hdX2_undoCount : yX2_undoCount.cls = RX2 ∧ yX2_undoCount.cls ≠ "java/lang/invoke/MethodHandle" ∧ yX2_undoCount.cls ≠ "java/lang/invoke/VarHandle" ∧ (parseMethodDescriptor yX2_undoCount.desc).map (fun d => d.parameters.length) = some 1 := by decide +kernel
theorem kX2_undoCount_0 : Cond.constant RX2 38 (1000000) ∈ wsX2_undoCount := by decide +kernel
set_option maxHeartbeats 4000000 in
set_option maxRecDepth 100000 in
theorem c_X2_undoCount {l : Launch} {dC : Nat → ClassId} {dI : Nat → Nat → Nat} {cI : ClassId} {q0 : Nat → Nat} {sz : Nat} {u0 : S2} {x1 : Int32} {Q : Int32 → Prop} (h : wp_X2_undoCount u0 x1 Q) : ctI sxE l yX2_undoCount wsX2_undoCount rX2_undoCount (dC, dI) vwCl [(cI, .int)] [.ref (q0 0), .int x1] (cs2 cI q0 u0) sz (fun (r : Int32) (_ : Unit) => Q r) (fun (_ : Unit) => cs2 cI q0 u0) := by
  refine mx_i (cc := cX2_undoCount) (maxL := 5) (ty := .int) (by decide) rfl (Nat.le_of_ble_eq_true rfl) ?_
  intro p e s m below meth c Z A ls args hx hb hml hown hts hA hP hK hD hE hl hret
  have hown : s.vm.findClass RX2 = some m.cls := hown
  have hl : lv_has ls 5 [(0, .ref (q0 0)), (1, .int x1)] := hl
  have w_29 : ∀ (k_7 : Int32 → Int32 → Int32 → Prop) (hk_7 : ∀ (x2 : Int32) (x3 : Int32) (x4 : Int32) (H : Heap) (locs : List Loc) (ls : Array Slot) (_ : va_P (dC, dI) vwCl (cs2 cI q0 u0) H) (_ : va_D A (cs2 cI q0 u0)) (_ : va_S A s.heap H locs) (_ : lv_has ls 5 [(0, .ref (q0 0)), (2, .int x2), (3, .int x3), (4, .int x4)]) (_ : k_7 x2 x3 x4), W p l e rX2_undoCount s m args below meth c H locs 0 0 Z (F0 m 7 ls [])) (x2 : Int32) (x3 : Int32) (x4 : Int32) (H : Heap) (locs : List Loc) (ls : Array Slot) (_ : va_P (dC, dI) vwCl (cs2 cI q0 u0) H) (_ : va_D A (cs2 cI q0 u0)) (_ : va_S A s.heap H locs) (_ : lv_has ls 5 [(0, .ref (q0 0)), (2, .int x2), (3, .int x3), (4, .int x4)]) (_ : wp_X2_undoCount_29 u0 k_7 Q x2 x3 x4), W p l e rX2_undoCount s m args below meth c H locs 0 0 Z (F0 m 29 ls []) := by
    intro k_7 hk_7 x2 x3 x4 H locs ls hP hD hS hl h
    refine lv_aload_n hx hb dX2_undoCount_29 rfl (lv_at hl 0 rfl) ?_
    refine lv_iload_n hx hb dX2_undoCount_30 rfl (lv_at hl 2 rfl) ?_
    refine cx_vi (As := [.int x3]) (rest := []) ⟨hx, hb, hml, hown, hts⟩ hl.1 ok_sxE hE hK hP hD hS hA (cut_0 cI q0 u0) (c_X2_onward (l := l) (dC := dC) (dI := dI) (cI := cI) (q0 := q0) h) (cwV 1 hts gX2_undoCount_X2_onward rfl rfl rfl hdX2_onward ⟨Nat.le_of_ble_eq_true rfl, Nat.le_of_ble_eq_true rfl⟩) rfl rfl rfl rfl (Nat.le_of_ble_eq_true rfl) dX2_undoCount_31 rfl (fun r_1 _ H locs h hP hD hS => ?_)
    refine lv_istore_n (lv' := [(3, .int r_1), (0, .ref (q0 0)), (2, .int x2), (4, .int x4)]) hx hb dX2_undoCount_34 rfl hl (by decide) rfl (fun ls hl => ?_)
    obtain ⟨x4_2, e_x4_2⟩ : ∃ z : Int32, z = x4 + 1 := ⟨_, rfl⟩
    have h := h x4_2 e_x4_2
    refine lv_iinc (v := x4_2) (lv' := [(4, .int x4_2), (3, .int r_1), (0, .ref (q0 0)), (2, .int x2)]) hx hb dX2_undoCount_35 hl (k := 3) rfl (by rw [e_x4_2]; rfl) (by decide) rfl (fun ls hl => ?_)
    refine lv_goto (tgt := 7) hx hb dX2_undoCount_38 (by decide) ?_
    exact hk_7 x2 r_1 x4_2 _ _ _ hP hD hS (lv_sub hl [2, 3, 1, 0] rfl) h
  have w_7 : ∀ (n : Nat) (x2 : Int32) (x3 : Int32) (x4 : Int32) (H : Heap) (locs : List Loc) (ls : Array Slot) (_ : va_P (dC, dI) vwCl (cs2 cI q0 u0) H) (_ : va_D A (cs2 cI q0 u0)) (_ : va_S A s.heap H locs) (_ : lv_has ls 5 [(0, .ref (q0 0)), (2, .int x2), (3, .int x3), (4, .int x4)]) (_ : wp_X2_undoCount_7 u0 Q n x2 x3 x4), W p l e rX2_undoCount s m args below meth c H locs 0 0 Z (F0 m 7 ls []) := by
    intro n
    induction n with
    | zero => intro x2 x3 x4 H locs ls hP hD hS hl h; exact False.elim h
    | succ n ih =>
      intro x2 x3 x4 H locs ls hP hD hS hl h
      refine lv_iload hx hb dX2_undoCount_7 (lv_at hl 3 rfl) ?_
      refine lv_ldc (v := 1000000) hx hb hown (hts _ kX2_undoCount_0) dX2_undoCount_9 ?_
      refine lv_icmp_ge (tgt := 41) hx hb dX2_undoCount_11 (by decide) (fun cd => ?_) (fun cd => ?_)
      · have h := h.1 cd
        refine lv_iload_n hx hb dX2_undoCount_41 rfl (lv_at hl 1 rfl) ?_
        exact hret _ _ _ _ _ () dX2_undoCount_42 (vp_nar_int _) h hP hD hS
      · have h := h.2 cd
        refine lv_iload_n hx hb dX2_undoCount_14 rfl (lv_at hl 2 rfl) ?_
        refine lv_if_eq (tgt := 41) hx hb dX2_undoCount_15 (by decide) (fun cd => ?_) (fun cd => ?_)
        · have h := h.1 cd
          refine lv_iload_n hx hb dX2_undoCount_41 rfl (lv_at hl 1 rfl) ?_
          exact hret _ _ _ _ _ () dX2_undoCount_42 (vp_nar_int _) h hP hD hS
        · have h := h.2 cd
          refine lv_aload_n hx hb dX2_undoCount_18 rfl (lv_at hl 0 rfl) ?_
          refine lv_iload_n hx hb dX2_undoCount_19 rfl (lv_at hl 2 rfl) ?_
          refine cx_vi (As := [.int x3]) (rest := []) ⟨hx, hb, hml, hown, hts⟩ hl.1 ok_sxE hE hK hP hD hS hA (cut_0 cI q0 u0) (c_X2_undoable (l := l) (dC := dC) (dI := dI) (cI := cI) (q0 := q0) h) (cwV 1 hts gX2_undoCount_X2_undoable rfl rfl rfl hdX2_undoable ⟨Nat.le_of_ble_eq_true rfl, Nat.le_of_ble_eq_true rfl⟩) rfl rfl rfl rfl (Nat.le_of_ble_eq_true rfl) dX2_undoCount_20 rfl (fun r_3 _ H locs h hP hD hS => ?_)
          refine lv_if_eq (tgt := 29) hx hb dX2_undoCount_23 (by decide) (fun cd => ?_) (fun cd => ?_)
          · have h := h.1 cd
            exact w_29 (fun x2 x3 x4 => wp_X2_undoCount_7 u0 Q n x2 x3 x4) (fun x2 x3 x4 H locs ls hP hD hS hl h => ih x2 x3 x4 H locs ls hP hD hS hl h) x2 x3 x4 _ _ _ hP hD hS (lv_sub hl [0, 1, 2, 3] rfl) h
          · have h := h.2 cd
            obtain ⟨x2_4, e_x2_4⟩ : ∃ z : Int32, z = x2 + 1 := ⟨_, rfl⟩
            have h := h x2_4 e_x2_4
            refine lv_iinc (v := x2_4) (lv' := [(2, .int x2_4), (0, .ref (q0 0)), (3, .int x3), (4, .int x4)]) hx hb dX2_undoCount_26 hl (k := 1) rfl (by rw [e_x2_4]; rfl) (by decide) rfl (fun ls hl => ?_)
            exact w_29 (fun x2 x3 x4 => wp_X2_undoCount_7 u0 Q n x2 x3 x4) (fun x2 x3 x4 H locs ls hP hD hS hl h => ih x2 x3 x4 H locs ls hP hD hS hl h) x2_4 x3 x4 _ _ _ hP hD hS (lv_sub hl [1, 0, 2, 3] rfl) h
  have hS : va_S A s.heap s.heap [] := va_S.rf
  refine lv_iconst (v := 0) hx hb dX2_undoCount_0 (by decide) ?_
  refine lv_istore_n (lv' := [(2, .int 0), (0, .ref (q0 0)), (1, .int x1)]) hx hb dX2_undoCount_1 rfl hl (by decide) rfl (fun ls hl => ?_)
  refine lv_iload_n hx hb dX2_undoCount_2 rfl (lv_at hl 2 rfl) ?_
  refine lv_istore_n (lv' := [(3, .int x1), (2, .int 0), (0, .ref (q0 0)), (1, .int x1)]) hx hb dX2_undoCount_3 rfl hl (by decide) rfl (fun ls hl => ?_)
  refine lv_iconst (v := 0) hx hb dX2_undoCount_4 (by decide) ?_
  refine lv_istore (lv' := [(4, .int 0), (3, .int x1), (2, .int 0), (0, .ref (q0 0)), (1, .int x1)]) hx hb dX2_undoCount_5 hl (by decide) rfl (fun ls hl => ?_)
  obtain ⟨n0, h⟩ := h
  exact w_7 n0 0 x1 0 _ _ _ hP hD hS (lv_sub hl [3, 2, 1, 0] rfl) h

abbrev rX2_lengthDue : Room := { frames := 1, cells := 0, slots := 0, locals := 21 }
theorem hdX2_lengthDue : yX2_lengthDue.cls = RX2 ∧ yX2_lengthDue.cls ≠ "java/lang/invoke/MethodHandle" ∧ yX2_lengthDue.cls ≠ "java/lang/invoke/VarHandle" ∧ (parseMethodDescriptor yX2_lengthDue.desc).map (fun d => d.parameters.length) = some 1 := by decide +kernel
set_option maxHeartbeats 4000000 in
set_option maxRecDepth 100000 in
theorem c_X2_lengthDue {l : Launch} {dC : Nat → ClassId} {dI : Nat → Nat → Nat} {cI : ClassId} {q0 : Nat → Nat} {sz : Nat} {u0 : S2} {x1 : Int32} {Q : Int32 → Prop} (h : wp_X2_lengthDue u0 x1 Q) : ctI sxE l yX2_lengthDue wsX2_lengthDue rX2_lengthDue (dC, dI) vwCl [(cI, .int)] [.ref (q0 0), .int x1] (cs2 cI q0 u0) sz (fun (r : Int32) (_ : Unit) => Q r) (fun (_ : Unit) => cs2 cI q0 u0) := by
  refine mx_i (cc := cX2_lengthDue) (maxL := 4) (ty := .int) (by decide) rfl (Nat.le_of_ble_eq_true rfl) ?_
  intro p e s m below meth c Z A ls args hx hb hml hown hts hA hP hK hD hE hl hret
  have hown : s.vm.findClass RX2 = some m.cls := hown
  have hl : lv_has ls 4 [(0, .ref (q0 0)), (1, .int x1)] := hl
  have hS : va_S A s.heap s.heap [] := va_S.rf
  refine lv_aload_n hx hb dX2_lengthDue_0 rfl (lv_at hl 0 rfl) ?_
  refine lv_iload_n hx hb dX2_lengthDue_1 rfl (lv_at hl 1 rfl) ?_
  refine cx_vi (As := [.int x1]) (rest := []) ⟨hx, hb, hml, hown, hts⟩ hl.1 ok_sxE hE hK hP hD hS hA (cut_0 cI q0 u0) (c_X2_byteAt (l := l) (dC := dC) (dI := dI) (cI := cI) (q0 := q0) h) (cwV 1 hts gX2_lengthDue_X2_byteAt rfl rfl rfl hdX2_byteAt ⟨Nat.le_of_ble_eq_true rfl, Nat.le_of_ble_eq_true rfl⟩) rfl rfl rfl rfl (Nat.le_of_ble_eq_true rfl) dX2_lengthDue_2 rfl (fun r_1 _ H locs h hP hD hS => ?_)
  refine lv_istore_n (lv' := [(2, .int r_1), (0, .ref (q0 0)), (1, .int x1)]) hx hb dX2_lengthDue_5 rfl hl (by decide) rfl (fun ls hl => ?_)
  refine lv_iload_n hx hb dX2_lengthDue_6 rfl (lv_at hl 0 rfl) ?_
  refine lv_bipush (v := 10) hx hb dX2_lengthDue_7 (by decide) ?_
  refine lv_icmp_ne (tgt := 42) hx hb dX2_lengthDue_9 (by decide) (fun cd => ?_) (fun cd => ?_)
  · have h := h.2 cd
    refine lv_iload_n hx hb dX2_lengthDue_42 rfl (lv_at hl 0 rfl) ?_
    refine lv_if_lt (tgt := 62) hx hb dX2_lengthDue_43 (by decide) (fun cd => ?_) (fun cd => ?_)
    · have h := h.1 cd
      refine lv_iconst (v := 0) hx hb dX2_lengthDue_62 (by decide) ?_
      exact hret _ _ _ _ _ () dX2_lengthDue_63 (vp_nar_int _) h hP hD hS
    · have h := h.2 cd
      refine lv_iload_n hx hb dX2_lengthDue_46 rfl (lv_at hl 0 rfl) ?_
      obtain ⟨ttL, zL, tL⟩ := hE.2.1
      refine va_getsN hx hb zL hS hown (va_Nw.use rfl (hE.1.2 (RX2, 46, "AheadStore", "LENGTHS", "[I", "AheadStore") (List.mem_of_getElem? (i := 0) rfl))) (fun _ h9 => h9) dX2_lengthDue_47 ?_
      refine sx_alen (v := 10) hx hb tL hS rfl dX2_lengthDue_50 ?_
      refine lv_icmp_ge (tgt := 62) hx hb dX2_lengthDue_51 (by decide) (fun cd => ?_) (fun cd => ?_)
      · have h := h.1 cd
        refine lv_iconst (v := 0) hx hb dX2_lengthDue_62 (by decide) ?_
        exact hret _ _ _ _ _ () dX2_lengthDue_63 (vp_nar_int _) h hP hD hS
      · have h := h.2 cd
        obtain ⟨ttL, zL, tL⟩ := hE.2.1
        refine va_getsN hx hb zL hS hown (va_Nw.use rfl (hE.1.2 (RX2, 46, "AheadStore", "LENGTHS", "[I", "AheadStore") (List.mem_of_getElem? (i := 0) rfl))) (fun _ h9 => h9) dX2_lengthDue_54 ?_
        refine lv_iload_n hx hb dX2_lengthDue_57 rfl (lv_at hl 0 rfl) ?_
        refine sx_ald hx hb tL hS h.1 dX2_lengthDue_58 ?_
        have h := h.2
        refine lv_goto (tgt := 63) hx hb dX2_lengthDue_59 (by decide) ?_
        exact hret _ _ _ _ _ () dX2_lengthDue_63 (vp_nar_int _) h hP hD hS
  · have h := h.1 cd
    refine lv_aload_n hx hb dX2_lengthDue_12 rfl (lv_at hl 1 rfl) ?_
    refine lv_iload_n hx hb dX2_lengthDue_13 rfl (lv_at hl 2 rfl) ?_
    refine lv_iconst (v := 5) hx hb dX2_lengthDue_14 (by decide) ?_
    refine lv_iadd hx hb dX2_lengthDue_15 ?_
    refine cx_vi (As := [.int (x1 + 5)]) (rest := []) ⟨hx, hb, hml, hown, hts⟩ hl.1 ok_sxE hE hK hP hD hS hA (cut_0 cI q0 u0) (c_X2_byteAt (l := l) (dC := dC) (dI := dI) (cI := cI) (q0 := q0) h) (cwV 1 hts gX2_lengthDue_X2_byteAt rfl rfl rfl hdX2_byteAt ⟨Nat.le_of_ble_eq_true rfl, Nat.le_of_ble_eq_true rfl⟩) rfl rfl rfl rfl (Nat.le_of_ble_eq_true rfl) dX2_lengthDue_16 rfl (fun r_2 _ H locs h hP hD hS => ?_)
    refine lv_istore_n (lv' := [(3, .int r_2), (2, .int r_1), (0, .ref (q0 0)), (1, .int x1)]) hx hb dX2_lengthDue_19 rfl hl (by decide) rfl (fun ls hl => ?_)
    refine lv_bipush (v := 8) hx hb dX2_lengthDue_20 (by decide) ?_
    refine lv_iconst (v := 4) hx hb dX2_lengthDue_22 (by decide) ?_
    refine lv_iload_n hx hb dX2_lengthDue_23 rfl (lv_at hl 0 rfl) ?_
    refine lv_imul hx hb dX2_lengthDue_24 ?_
    refine lv_iadd hx hb dX2_lengthDue_25 ?_
    refine lv_iconst (v := 3) hx hb dX2_lengthDue_26 (by decide) ?_
    refine lv_aload_n hx hb dX2_lengthDue_27 rfl (lv_at hl 2 rfl) ?_
    refine lv_iload_n hx hb dX2_lengthDue_28 rfl (lv_at hl 3 rfl) ?_
    refine lv_bipush (v := 6) hx hb dX2_lengthDue_29 (by decide) ?_
    refine lv_iadd hx hb dX2_lengthDue_31 ?_
    refine lv_iconst (v := 4) hx hb dX2_lengthDue_32 (by decide) ?_
    refine lv_iload_n hx hb dX2_lengthDue_33 rfl (lv_at hl 0 rfl) ?_
    refine lv_imul hx hb dX2_lengthDue_34 ?_
    refine lv_iadd hx hb dX2_lengthDue_35 ?_
    refine cx_vi (As := [.int ((x1 + 6) + (4 * r_2))]) (rest := [.int 3, .int (8 + (4 * r_2))]) ⟨hx, hb, hml, hown, hts⟩ hl.1 ok_sxE hE hK hP hD hS hA (cut_0 cI q0 u0) (c_X2_byteAt (l := l) (dC := dC) (dI := dI) (cI := cI) (q0 := q0) h) (cwV 1 hts gX2_lengthDue_X2_byteAt rfl rfl rfl hdX2_byteAt ⟨Nat.le_of_ble_eq_true rfl, Nat.le_of_ble_eq_true rfl⟩) rfl rfl rfl rfl (Nat.le_of_ble_eq_true rfl) dX2_lengthDue_36 rfl (fun r_3 _ H locs h hP hD hS => ?_)
    refine lv_imul hx hb dX2_lengthDue_39 ?_
    refine lv_iadd hx hb dX2_lengthDue_40 ?_
    exact hret _ _ _ _ _ () dX2_lengthDue_41 (vp_nar_int _) h hP hD hS

abbrev rX2_wholeAt : Room := { frames := 2, cells := 0, slots := 0, locals := 44 }
theorem hdX2_wholeAt : yX2_wholeAt.cls = RX2 ∧ yX2_wholeAt.cls ≠ "java/lang/invoke/MethodHandle" ∧ yX2_wholeAt.cls ≠ "java/lang/invoke/VarHandle" ∧ (parseMethodDescriptor yX2_wholeAt.desc).map (fun d => d.parameters.length) = some 1 := by decide +kernel
theorem inX2_wholeAt_2 : ∀ w ∈ wsX20, w ∈ wsX2_wholeAt := by decide +kernel
theorem kX2_wholeAt_0 : Cond.fieldLink RX2 9 "AheadStore$Journal" "row" "[I" ∈ wsX2_wholeAt := by decide +kernel
theorem kX2_wholeAt_1 : Cond.fieldLink RX2 15 "AheadStore$Journal" "endPlace" "I" ∈ wsX2_wholeAt := by decide +kernel
set_option maxHeartbeats 4000000 in
set_option maxRecDepth 100000 in
theorem c_X2_wholeAt {l : Launch} {dC : Nat → ClassId} {dI : Nat → Nat → Nat} {cI : ClassId} {q0 : Nat → Nat} {sz : Nat} {u0 : S2} {x1 : Int32} {Q : Int32 → Prop} (h : wp_X2_wholeAt u0 x1 Q) : ctI sxE l yX2_wholeAt wsX2_wholeAt rX2_wholeAt (dC, dI) vwCl [(cI, .int)] [.ref (q0 0), .int x1] (cs2 cI q0 u0) sz (fun (r : Int32) (_ : Unit) => Q r) (fun (_ : Unit) => cs2 cI q0 u0) := by
  refine mx_i (cc := cX2_wholeAt) (maxL := 6) (ty := .boolean) (by decide) rfl (Nat.le_of_ble_eq_true rfl) ?_
  intro p e s m below meth c Z A ls args hx hb hml hown hts hA hP hK hD hE hl hret
  have hown : s.vm.findClass RX2 = some m.cls := hown
  have hl : lv_has ls 6 [(0, .ref (q0 0)), (1, .int x1)] := hl
  have w_63 : ∀ (n : Nat) (x3 : Int32) (x4 : Int32) (x5 : Int32) (H : Heap) (locs : List Loc) (ls : Array Slot) (_ : va_P (dC, dI) vwCl (cs2 cI q0 u0) H) (_ : va_D A (cs2 cI q0 u0)) (_ : va_S A s.heap H locs) (_ : lv_has ls 6 [(0, .ref (q0 0)), (3, .int x3), (4, .int x4), (5, .int x5)]) (_ : wp_X2_wholeAt_63 u0 Q n x3 x4 x5), W p l e rX2_wholeAt s m args below meth c H locs 0 0 Z (F0 m 63 ls []) := by
    intro n
    induction n with
    | zero => intro x3 x4 x5 H locs ls hP hD hS hl h; exact False.elim h
    | succ n ih =>
      intro x3 x4 x5 H locs ls hP hD hS hl h
      refine lv_iload hx hb dX2_wholeAt_63 (lv_at hl 3 rfl) ?_
      refine lv_iload_n hx hb dX2_wholeAt_65 rfl (lv_at hl 1 rfl) ?_
      refine lv_icmp_ge (tgt := 87) hx hb dX2_wholeAt_66 (by decide) (fun cd => ?_) (fun cd => ?_)
      · have h := h.1 cd
        refine lv_iload hx hb dX2_wholeAt_87 (lv_at hl 2 rfl) ?_
        refine lv_sipush (v := 255) hx hb dX2_wholeAt_89 (by decide) ?_
        refine lv_iand hx hb dX2_wholeAt_92 ?_
        refine lv_aload_n hx hb dX2_wholeAt_93 rfl (lv_at hl 0 rfl) ?_
        refine va_get (D := (dC, dI)) (ci := 2) (v := .ref (q0 1)) (C := RX2) (T := TX2) (N := 4) hx hb hts inX2_wholeAt_2 hown hK hP 0 rfl rfl 0 (by decide) (hts _ kX2_wholeAt_0) (fun _ h9 => h9) rfl dX2_wholeAt_94 ?_
        refine lv_iload_n hx hb dX2_wholeAt_97 rfl (lv_at hl 1 rfl) ?_
        refine va_iald hx hb hK hP 1 0 rfl rfl h.1 dX2_wholeAt_98 ?_
        have h := h.2
        refine lv_icmp_ne (tgt := 106) hx hb dX2_wholeAt_99 (by decide) (fun cd => ?_) (fun cd => ?_)
        · have h := h.2 cd
          refine lv_iconst (v := 0) hx hb dX2_wholeAt_106 (by decide) ?_
          exact hret _ _ _ _ _ () dX2_wholeAt_107 (by decide) h hP hD hS
        · have h := h.1 cd
          refine lv_iconst (v := 1) hx hb dX2_wholeAt_102 (by decide) ?_
          refine lv_goto (tgt := 107) hx hb dX2_wholeAt_103 (by decide) ?_
          exact hret _ _ _ _ _ () dX2_wholeAt_107 (by decide) h hP hD hS
      · have h := h.2 cd
        refine lv_iload hx hb dX2_wholeAt_69 (lv_at hl 2 rfl) ?_
        refine lv_aload_n hx hb dX2_wholeAt_71 rfl (lv_at hl 0 rfl) ?_
        refine va_get (D := (dC, dI)) (ci := 2) (v := .ref (q0 1)) (C := RX2) (T := TX2) (N := 4) hx hb hts inX2_wholeAt_2 hown hK hP 0 rfl rfl 0 (by decide) (hts _ kX2_wholeAt_0) (fun _ h9 => h9) rfl dX2_wholeAt_72 ?_
        refine lv_iload hx hb dX2_wholeAt_75 (lv_at hl 3 rfl) ?_
        refine va_iald hx hb hK hP 1 0 rfl rfl h.1 dX2_wholeAt_77 ?_
        have h := h.2
        refine lv_iadd hx hb dX2_wholeAt_78 ?_
        refine lv_topi (fun x4_1 e_x4_1 => ?_)
        have h := h x4_1 e_x4_1
        refine lv_istore (lv' := [(4, .int x4_1), (0, .ref (q0 0)), (3, .int x3), (5, .int x5)]) hx hb dX2_wholeAt_79 hl (by decide) rfl (fun ls hl => ?_)
        obtain ⟨x5_2, e_x5_2⟩ : ∃ z : Int32, z = x5 + 1 := ⟨_, rfl⟩
        have h := h x5_2 e_x5_2
        refine lv_iinc (v := x5_2) (lv' := [(5, .int x5_2), (4, .int x4_1), (0, .ref (q0 0)), (3, .int x3)]) hx hb dX2_wholeAt_81 hl (k := 3) rfl (by rw [e_x5_2]; rfl) (by decide) rfl (fun ls hl => ?_)
        refine lv_goto (tgt := 63) hx hb dX2_wholeAt_84 (by decide) ?_
        exact ih x3 x4_1 x5_2 _ _ _ hP hD hS (lv_sub hl [2, 3, 1, 0] rfl) h
  have hS : va_S A s.heap s.heap [] := va_S.rf
  refine lv_aload_n hx hb dX2_wholeAt_0 rfl (lv_at hl 0 rfl) ?_
  refine lv_iload_n hx hb dX2_wholeAt_1 rfl (lv_at hl 1 rfl) ?_
  refine lv_iconst (v := 1) hx hb dX2_wholeAt_2 (by decide) ?_
  refine lv_iadd hx hb dX2_wholeAt_3 ?_
  refine cx_vi (As := [.int (x1 + 1)]) (rest := []) ⟨hx, hb, hml, hown, hts⟩ hl.1 ok_sxE hE hK hP hD hS hA (cut_0 cI q0 u0) (c_X2_byteAt (l := l) (dC := dC) (dI := dI) (cI := cI) (q0 := q0) h) (cwV 1 hts gX2_wholeAt_X2_byteAt rfl rfl rfl hdX2_byteAt ⟨Nat.le_of_ble_eq_true rfl, Nat.le_of_ble_eq_true rfl⟩) rfl rfl rfl rfl (Nat.le_of_ble_eq_true rfl) dX2_wholeAt_4 rfl (fun r_3 _ H locs h hP hD hS => ?_)
  refine lv_istore_n (lv' := [(2, .int r_3), (0, .ref (q0 0)), (1, .int x1)]) hx hb dX2_wholeAt_7 rfl hl (by decide) rfl (fun ls hl => ?_)
  refine lv_iload_n hx hb dX2_wholeAt_8 rfl (lv_at hl 2 rfl) ?_
  refine lv_iload_n hx hb dX2_wholeAt_9 rfl (lv_at hl 0 rfl) ?_
  refine lv_iadd hx hb dX2_wholeAt_10 ?_
  refine lv_iconst (v := 1) hx hb dX2_wholeAt_11 (by decide) ?_
  refine lv_isub hx hb dX2_wholeAt_12 ?_
  refine lv_topi (fun x3_4 e_x3_4 => ?_)
  have h := h x3_4 e_x3_4
  refine lv_istore_n (lv' := [(3, .int x3_4), (2, .int r_3), (0, .ref (q0 0)), (1, .int x1)]) hx hb dX2_wholeAt_13 rfl hl (by decide) rfl (fun ls hl => ?_)
  refine lv_iload_n hx hb dX2_wholeAt_14 rfl (lv_at hl 3 rfl) ?_
  refine lv_bipush (v := 8) hx hb dX2_wholeAt_15 (by decide) ?_
  refine lv_icmp_lt (tgt := 35) hx hb dX2_wholeAt_17 (by decide) (fun cd => ?_) (fun cd => ?_)
  · have h := h.1 cd
    refine lv_iconst (v := 0) hx hb dX2_wholeAt_35 (by decide) ?_
    exact hret _ _ _ _ _ () dX2_wholeAt_36 (by decide) h hP hD hS
  · have h := h.2 cd
    refine lv_iload_n hx hb dX2_wholeAt_20 rfl (lv_at hl 1 rfl) ?_
    refine lv_bipush (v := 6) hx hb dX2_wholeAt_21 (by decide) ?_
    refine lv_icmp_lt (tgt := 35) hx hb dX2_wholeAt_23 (by decide) (fun cd => ?_) (fun cd => ?_)
    · have h := h.1 cd
      refine lv_iconst (v := 0) hx hb dX2_wholeAt_35 (by decide) ?_
      exact hret _ _ _ _ _ () dX2_wholeAt_36 (by decide) h hP hD hS
    · have h := h.2 cd
      refine lv_iload_n hx hb dX2_wholeAt_26 rfl (lv_at hl 1 rfl) ?_
      refine lv_aload_n hx hb dX2_wholeAt_27 rfl (lv_at hl 2 rfl) ?_
      refine lv_iload_n hx hb dX2_wholeAt_28 rfl (lv_at hl 3 rfl) ?_
      refine cx_vi (As := [.int x1]) (rest := [.int r_3]) ⟨hx, hb, hml, hown, hts⟩ hl.1 ok_sxE hE hK hP hD hS hA (cut_0 cI q0 u0) (c_X2_lengthDue (l := l) (dC := dC) (dI := dI) (cI := cI) (q0 := q0) h) (cwV 1 hts gX2_wholeAt_X2_lengthDue rfl rfl rfl hdX2_lengthDue ⟨Nat.le_of_ble_eq_true rfl, Nat.le_of_ble_eq_true rfl⟩) rfl rfl rfl rfl (Nat.le_of_ble_eq_true rfl) dX2_wholeAt_29 rfl (fun r_5 _ H locs h hP hD hS => ?_)
      refine lv_icmp_eq (tgt := 37) hx hb dX2_wholeAt_32 (by decide) (fun cd => ?_) (fun cd => ?_)
      · have h := h.1 cd
        refine lv_iload_n hx hb dX2_wholeAt_37 rfl (lv_at hl 0 rfl) ?_
        refine lv_aload_n hx hb dX2_wholeAt_38 rfl (lv_at hl 2 rfl) ?_
        refine va_get (D := (dC, dI)) (ci := 2) (v := .int (g2_endPlace u0)) (C := RX2) (T := TX2) (N := 4) hx hb hts inX2_wholeAt_2 hown hK hP 0 rfl rfl 1 (by decide) (hts _ kX2_wholeAt_1) (fun _ h9 => h9) rfl dX2_wholeAt_39 ?_
        refine lv_icmp_ge (tgt := 54) hx hb dX2_wholeAt_42 (by decide) (fun cd => ?_) (fun cd => ?_)
        · have h := h.1 cd
          refine lv_iconst (v := 0) hx hb dX2_wholeAt_54 (by decide) ?_
          exact hret _ _ _ _ _ () dX2_wholeAt_55 (by decide) h hP hD hS
        · have h := h.2 cd
          refine lv_iload_n hx hb dX2_wholeAt_45 rfl (lv_at hl 0 rfl) ?_
          refine lv_aload_n hx hb dX2_wholeAt_46 rfl (lv_at hl 2 rfl) ?_
          refine va_get (D := (dC, dI)) (ci := 2) (v := .ref (q0 1)) (C := RX2) (T := TX2) (N := 4) hx hb hts inX2_wholeAt_2 hown hK hP 0 rfl rfl 0 (by decide) (hts _ kX2_wholeAt_0) (fun _ h9 => h9) rfl dX2_wholeAt_47 ?_
          refine va_alen (v := 8600) hx hb hK hP 1 0 rfl rfl rfl dX2_wholeAt_50 ?_
          refine lv_icmp_lt (tgt := 56) hx hb dX2_wholeAt_51 (by decide) (fun cd => ?_) (fun cd => ?_)
          · have h := h.1 cd
            refine lv_bipush (v := 90) hx hb dX2_wholeAt_56 (by decide) ?_
            refine lv_istore (lv' := [(4, .int 90), (3, .int x3_4), (2, .int r_3), (0, .ref (q0 0)), (1, .int x1)]) hx hb dX2_wholeAt_58 hl (by decide) rfl (fun ls hl => ?_)
            refine lv_iload_n hx hb dX2_wholeAt_60 rfl (lv_at hl 4 rfl) ?_
            refine lv_istore (lv' := [(5, .int x1), (4, .int 90), (3, .int x3_4), (2, .int r_3), (0, .ref (q0 0)), (1, .int x1)]) hx hb dX2_wholeAt_61 hl (by decide) rfl (fun ls hl => ?_)
            obtain ⟨n0, h⟩ := h
            exact w_63 n0 x3_4 90 x1 _ _ _ hP hD hS (lv_sub hl [4, 2, 1, 0] rfl) h
          · have h := h.2 cd
            refine lv_iconst (v := 0) hx hb dX2_wholeAt_54 (by decide) ?_
            exact hret _ _ _ _ _ () dX2_wholeAt_55 (by decide) h hP hD hS
      · have h := h.2 cd
        refine lv_iconst (v := 0) hx hb dX2_wholeAt_35 (by decide) ?_
        exact hret _ _ _ _ _ () dX2_wholeAt_36 (by decide) h hP hD hS

abbrev rX2_beginsAt : Room := { frames := 3, cells := 0, slots := 0, locals := 69 }
theorem hdX2_beginsAt : yX2_beginsAt.cls = RX2 ∧ yX2_beginsAt.cls ≠ "java/lang/invoke/MethodHandle" ∧ yX2_beginsAt.cls ≠ "java/lang/invoke/VarHandle" ∧ (parseMethodDescriptor yX2_beginsAt.desc).map (fun d => d.parameters.length) = some 1 := by decide +kernel
theorem inX2_beginsAt_2 : ∀ w ∈ wsX20, w ∈ wsX2_beginsAt := by decide +kernel
theorem kX2_beginsAt_0 : Cond.fieldLink RX2 15 "AheadStore$Journal" "endPlace" "I" ∈ wsX2_beginsAt := by decide +kernel
set_option maxHeartbeats 4000000 in
set_option maxRecDepth 100000 in
theorem c_X2_beginsAt {l : Launch} {dC : Nat → ClassId} {dI : Nat → Nat → Nat} {cI : ClassId} {q0 : Nat → Nat} {sz : Nat} {u0 : S2} {x1 : Int32} {Q : Int32 → Prop} (h : wp_X2_beginsAt u0 x1 Q) : ctI sxE l yX2_beginsAt wsX2_beginsAt rX2_beginsAt (dC, dI) vwCl [(cI, .int)] [.ref (q0 0), .int x1] (cs2 cI q0 u0) sz (fun (r : Int32) (_ : Unit) => Q r) (fun (_ : Unit) => cs2 cI q0 u0) := by
  refine mx_i (cc := cX2_beginsAt) (maxL := 3) (ty := .boolean) (by decide) rfl (Nat.le_of_ble_eq_true rfl) ?_
  intro p e s m below meth c Z A ls args hx hb hml hown hts hA hP hK hD hE hl hret
  have hown : s.vm.findClass RX2 = some m.cls := hown
  have hl : lv_has ls 3 [(0, .ref (q0 0)), (1, .int x1)] := hl
  have w_33 : ∀ (x1 : Int32) (x2 : Int32) (H : Heap) (locs : List Loc) (ls : Array Slot) (_ : va_P (dC, dI) vwCl (cs2 cI q0 u0) H) (_ : va_D A (cs2 cI q0 u0)) (_ : va_S A s.heap H locs) (_ : lv_has ls 3 [(0, .ref (q0 0)), (1, .int x1), (2, .int x2)]) (_ : wp_X2_beginsAt_33 u0 Q x1 x2), W p l e rX2_beginsAt s m args below meth c H locs 0 0 Z (F0 m 33 ls []) := by
    intro x1 x2 H locs ls hP hD hS hl h
    refine lv_iload_n hx hb dX2_beginsAt_33 rfl (lv_at hl 2 rfl) ?_
    refine lv_iload_n hx hb dX2_beginsAt_34 rfl (lv_at hl 1 rfl) ?_
    refine lv_icmp_ne (tgt := 50) hx hb dX2_beginsAt_35 (by decide) (fun cd => ?_) (fun cd => ?_)
    · have h := h.2 cd
      refine lv_iconst (v := 0) hx hb dX2_beginsAt_50 (by decide) ?_
      exact hret _ _ _ _ _ () dX2_beginsAt_51 (by decide) h hP hD hS
    · have h := h.1 cd
      refine lv_aload_n hx hb dX2_beginsAt_38 rfl (lv_at hl 0 rfl) ?_
      refine lv_iload_n hx hb dX2_beginsAt_39 rfl (lv_at hl 2 rfl) ?_
      refine cx_vi (As := [.int x2]) (rest := []) ⟨hx, hb, hml, hown, hts⟩ hl.1 ok_sxE hE hK hP hD hS hA (cut_0 cI q0 u0) (c_X2_wholeAt (l := l) (dC := dC) (dI := dI) (cI := cI) (q0 := q0) h) (cwV 1 hts gX2_beginsAt_X2_wholeAt rfl rfl rfl hdX2_wholeAt ⟨Nat.le_of_ble_eq_true rfl, Nat.le_of_ble_eq_true rfl⟩) rfl rfl rfl rfl (Nat.le_of_ble_eq_true rfl) dX2_beginsAt_40 rfl (fun r_1 _ H locs h hP hD hS => ?_)
      refine lv_if_eq (tgt := 50) hx hb dX2_beginsAt_43 (by decide) (fun cd => ?_) (fun cd => ?_)
      · have h := h.1 cd
        refine lv_iconst (v := 0) hx hb dX2_beginsAt_50 (by decide) ?_
        exact hret _ _ _ _ _ () dX2_beginsAt_51 (by decide) h hP hD hS
      · have h := h.2 cd
        refine lv_iconst (v := 1) hx hb dX2_beginsAt_46 (by decide) ?_
        refine lv_goto (tgt := 51) hx hb dX2_beginsAt_47 (by decide) ?_
        exact hret _ _ _ _ _ () dX2_beginsAt_51 (by decide) h hP hD hS
  have w_3 : ∀ (n : Nat) (x1 : Int32) (x2 : Int32) (H : Heap) (locs : List Loc) (ls : Array Slot) (_ : va_P (dC, dI) vwCl (cs2 cI q0 u0) H) (_ : va_D A (cs2 cI q0 u0)) (_ : va_S A s.heap H locs) (_ : lv_has ls 3 [(0, .ref (q0 0)), (1, .int x1), (2, .int x2)]) (_ : wp_X2_beginsAt_3 u0 Q n x1 x2), W p l e rX2_beginsAt s m args below meth c H locs 0 0 Z (F0 m 3 ls []) := by
    intro n
    induction n with
    | zero => intro x1 x2 H locs ls hP hD hS hl h; exact False.elim h
    | succ n ih =>
      intro x1 x2 H locs ls hP hD hS hl h
      refine lv_iload_n hx hb dX2_beginsAt_3 rfl (lv_at hl 2 rfl) ?_
      refine lv_iload_n hx hb dX2_beginsAt_4 rfl (lv_at hl 1 rfl) ?_
      refine lv_icmp_ge (tgt := 33) hx hb dX2_beginsAt_5 (by decide) (fun cd => ?_) (fun cd => ?_)
      · have h := h.1 cd
        exact w_33 x1 x2 _ _ _ hP hD hS (lv_sub hl [0, 1, 2] rfl) h
      · have h := h.2 cd
        refine lv_iload_n hx hb dX2_beginsAt_8 rfl (lv_at hl 2 rfl) ?_
        refine lv_aload_n hx hb dX2_beginsAt_9 rfl (lv_at hl 0 rfl) ?_
        refine va_get (D := (dC, dI)) (ci := 2) (v := .int (g2_endPlace u0)) (C := RX2) (T := TX2) (N := 4) hx hb hts inX2_beginsAt_2 hown hK hP 0 rfl rfl 1 (by decide) (hts _ kX2_beginsAt_0) (fun _ h9 => h9) rfl dX2_beginsAt_10 ?_
        refine lv_icmp_ge (tgt := 33) hx hb dX2_beginsAt_13 (by decide) (fun cd => ?_) (fun cd => ?_)
        · have h := h.1 cd
          exact w_33 x1 x2 _ _ _ hP hD hS (lv_sub hl [0, 1, 2] rfl) h
        · have h := h.2 cd
          refine lv_aload_n hx hb dX2_beginsAt_16 rfl (lv_at hl 0 rfl) ?_
          refine lv_iload_n hx hb dX2_beginsAt_17 rfl (lv_at hl 2 rfl) ?_
          refine cx_vi (As := [.int x2]) (rest := []) ⟨hx, hb, hml, hown, hts⟩ hl.1 ok_sxE hE hK hP hD hS hA (cut_0 cI q0 u0) (c_X2_wholeAt (l := l) (dC := dC) (dI := dI) (cI := cI) (q0 := q0) h) (cwV 1 hts gX2_beginsAt_X2_wholeAt rfl rfl rfl hdX2_wholeAt ⟨Nat.le_of_ble_eq_true rfl, Nat.le_of_ble_eq_true rfl⟩) rfl rfl rfl rfl (Nat.le_of_ble_eq_true rfl) dX2_beginsAt_18 rfl (fun r_2 _ H locs h hP hD hS => ?_)
          refine lv_if_eq (tgt := 33) hx hb dX2_beginsAt_21 (by decide) (fun cd => ?_) (fun cd => ?_)
          · have h := h.1 cd
            exact w_33 x1 x2 _ _ _ hP hD hS (lv_sub hl [0, 1, 2] rfl) h
          · have h := h.2 cd
            refine lv_aload_n hx hb dX2_beginsAt_24 rfl (lv_at hl 0 rfl) ?_
            refine lv_iload_n hx hb dX2_beginsAt_25 rfl (lv_at hl 2 rfl) ?_
            refine cx_vi (As := [.int x2]) (rest := []) ⟨hx, hb, hml, hown, hts⟩ hl.1 ok_sxE hE hK hP hD hS hA (cut_0 cI q0 u0) (c_X2_behind (l := l) (dC := dC) (dI := dI) (cI := cI) (q0 := q0) h) (cwV 1 hts gX2_beginsAt_X2_behind rfl rfl rfl hdX2_behind ⟨Nat.le_of_ble_eq_true rfl, Nat.le_of_ble_eq_true rfl⟩) rfl rfl rfl rfl (Nat.le_of_ble_eq_true rfl) dX2_beginsAt_26 rfl (fun r_3 _ H locs h hP hD hS => ?_)
            refine lv_istore_n (lv' := [(2, .int r_3), (0, .ref (q0 0)), (1, .int x1)]) hx hb dX2_beginsAt_29 rfl hl (by decide) rfl (fun ls hl => ?_)
            refine lv_goto (tgt := 3) hx hb dX2_beginsAt_30 (by decide) ?_
            exact ih x1 r_3 _ _ _ hP hD hS (lv_sub hl [1, 2, 0] rfl) h
  have hS : va_S A s.heap s.heap [] := va_S.rf
  refine lv_bipush (v := 8) hx hb dX2_beginsAt_0 (by decide) ?_
  refine lv_istore_n (lv' := [(2, .int 8), (0, .ref (q0 0)), (1, .int x1)]) hx hb dX2_beginsAt_2 rfl hl (by decide) rfl (fun ls hl => ?_)
  obtain ⟨n0, h⟩ := h
  exact w_3 n0 x1 8 _ _ _ hP hD hS (lv_sub hl [1, 2, 0] rfl) h

abbrev rX2_tally : Room := { frames := 3, cells := 0, slots := 0, locals := 69 }
theorem hdX2_tally : yX2_tally.cls = RX2 ∧ yX2_tally.cls ≠ "java/lang/invoke/MethodHandle" ∧ yX2_tally.cls ≠ "java/lang/invoke/VarHandle" ∧ (parseMethodDescriptor yX2_tally.desc).map (fun d => d.parameters.length) = some 1 := by decide +kernel
theorem inX2_tally_2 : ∀ w ∈ wsX20, w ∈ wsX2_tally := by decide +kernel
theorem kX2_tally_0 : Cond.fieldLink RX2 15 "AheadStore$Journal" "endPlace" "I" ∈ wsX2_tally := by decide +kernel
set_option maxHeartbeats 4000000 in
set_option maxRecDepth 100000 in
theorem c_X2_tally {l : Launch} {dC : Nat → ClassId} {dI : Nat → Nat → Nat} {cI : ClassId} {q0 : Nat → Nat} {sz : Nat} {u0 : S2} {x1 : Int32} {Q : Int32 → Prop} (h : wp_X2_tally u0 x1 Q) : ctI sxE l yX2_tally wsX2_tally rX2_tally (dC, dI) vwCl [(cI, .int)] [.ref (q0 0), .int x1] (cs2 cI q0 u0) sz (fun (r : Int32) (_ : Unit) => Q r) (fun (_ : Unit) => cs2 cI q0 u0) := by
  refine mx_i (cc := cX2_tally) (maxL := 4) (ty := .int) (by decide) rfl (Nat.le_of_ble_eq_true rfl) ?_
  intro p e s m below meth c Z A ls args hx hb hml hown hts hA hP hK hD hE hl hret
  have hown : s.vm.findClass RX2 = some m.cls := hown
  have hl : lv_has ls 4 [(0, .ref (q0 0)), (1, .int x1)] := hl
  have w_37 : ∀ (k_5 : Int32 → Int32 → Int32 → Prop) (hk_5 : ∀ (x1 : Int32) (x2 : Int32) (x3 : Int32) (H : Heap) (locs : List Loc) (ls : Array Slot) (_ : va_P (dC, dI) vwCl (cs2 cI q0 u0) H) (_ : va_D A (cs2 cI q0 u0)) (_ : va_S A s.heap H locs) (_ : lv_has ls 4 [(0, .ref (q0 0)), (1, .int x1), (2, .int x2), (3, .int x3)]) (_ : k_5 x1 x2 x3), W p l e rX2_tally s m args below meth c H locs 0 0 Z (F0 m 5 ls [])) (x1 : Int32) (x2 : Int32) (x3 : Int32) (H : Heap) (locs : List Loc) (ls : Array Slot) (_ : va_P (dC, dI) vwCl (cs2 cI q0 u0) H) (_ : va_D A (cs2 cI q0 u0)) (_ : va_S A s.heap H locs) (_ : lv_has ls 4 [(0, .ref (q0 0)), (1, .int x1), (2, .int x2), (3, .int x3)]) (_ : wp_X2_tally_37 u0 k_5 Q x1 x2 x3), W p l e rX2_tally s m args below meth c H locs 0 0 Z (F0 m 37 ls []) := by
    intro k_5 hk_5 x1 x2 x3 H locs ls hP hD hS hl h
    refine lv_aload_n hx hb dX2_tally_37 rfl (lv_at hl 0 rfl) ?_
    refine lv_iload_n hx hb dX2_tally_38 rfl (lv_at hl 3 rfl) ?_
    refine cx_vi (As := [.int x3]) (rest := []) ⟨hx, hb, hml, hown, hts⟩ hl.1 ok_sxE hE hK hP hD hS hA (cut_0 cI q0 u0) (c_X2_behind (l := l) (dC := dC) (dI := dI) (cI := cI) (q0 := q0) h) (cwV 1 hts gX2_tally_X2_behind rfl rfl rfl hdX2_behind ⟨Nat.le_of_ble_eq_true rfl, Nat.le_of_ble_eq_true rfl⟩) rfl rfl rfl rfl (Nat.le_of_ble_eq_true rfl) dX2_tally_39 rfl (fun r_1 _ H locs h hP hD hS => ?_)
    refine lv_istore_n (lv' := [(3, .int r_1), (0, .ref (q0 0)), (1, .int x1), (2, .int x2)]) hx hb dX2_tally_42 rfl hl (by decide) rfl (fun ls hl => ?_)
    refine lv_goto (tgt := 5) hx hb dX2_tally_43 (by decide) ?_
    exact hk_5 x1 x2 r_1 _ _ _ hP hD hS (lv_sub hl [1, 2, 3, 0] rfl) h
  have w_34 : ∀ (k_37 : Int32 → Int32 → Int32 → Prop) (hk_37 : ∀ (x1 : Int32) (x2 : Int32) (x3 : Int32) (H : Heap) (locs : List Loc) (ls : Array Slot) (_ : va_P (dC, dI) vwCl (cs2 cI q0 u0) H) (_ : va_D A (cs2 cI q0 u0)) (_ : va_S A s.heap H locs) (_ : lv_has ls 4 [(0, .ref (q0 0)), (1, .int x1), (2, .int x2), (3, .int x3)]) (_ : k_37 x1 x2 x3), W p l e rX2_tally s m args below meth c H locs 0 0 Z (F0 m 37 ls [])) (x1 : Int32) (x2 : Int32) (x3 : Int32) (H : Heap) (locs : List Loc) (ls : Array Slot) (_ : va_P (dC, dI) vwCl (cs2 cI q0 u0) H) (_ : va_D A (cs2 cI q0 u0)) (_ : va_S A s.heap H locs) (_ : lv_has ls 4 [(0, .ref (q0 0)), (1, .int x1), (2, .int x2), (3, .int x3)]) (_ : wp_X2_tally_34 u0 k_37 Q x1 x2 x3), W p l e rX2_tally s m args below meth c H locs 0 0 Z (F0 m 34 ls []) := by
    intro k_37 hk_37 x1 x2 x3 H locs ls hP hD hS hl h
    obtain ⟨x2_2, e_x2_2⟩ : ∃ z : Int32, z = x2 + 1 := ⟨_, rfl⟩
    have h := h x2_2 e_x2_2
    refine lv_iinc (v := x2_2) (lv' := [(2, .int x2_2), (0, .ref (q0 0)), (1, .int x1), (3, .int x3)]) hx hb dX2_tally_34 hl (k := 2) rfl (by rw [e_x2_2]; rfl) (by decide) rfl (fun ls hl => ?_)
    exact hk_37 x1 x2_2 x3 _ _ _ hP hD hS (lv_sub hl [1, 2, 0, 3] rfl) h
  have w_5 : ∀ (n : Nat) (x1 : Int32) (x2 : Int32) (x3 : Int32) (H : Heap) (locs : List Loc) (ls : Array Slot) (_ : va_P (dC, dI) vwCl (cs2 cI q0 u0) H) (_ : va_D A (cs2 cI q0 u0)) (_ : va_S A s.heap H locs) (_ : lv_has ls 4 [(0, .ref (q0 0)), (1, .int x1), (2, .int x2), (3, .int x3)]) (_ : wp_X2_tally_5 u0 Q n x1 x2 x3), W p l e rX2_tally s m args below meth c H locs 0 0 Z (F0 m 5 ls []) := by
    intro n
    induction n with
    | zero => intro x1 x2 x3 H locs ls hP hD hS hl h; exact False.elim h
    | succ n ih =>
      intro x1 x2 x3 H locs ls hP hD hS hl h
      refine lv_iload_n hx hb dX2_tally_5 rfl (lv_at hl 3 rfl) ?_
      refine lv_aload_n hx hb dX2_tally_6 rfl (lv_at hl 0 rfl) ?_
      refine va_get (D := (dC, dI)) (ci := 2) (v := .int (g2_endPlace u0)) (C := RX2) (T := TX2) (N := 4) hx hb hts inX2_tally_2 hown hK hP 0 rfl rfl 1 (by decide) (hts _ kX2_tally_0) (fun _ h9 => h9) rfl dX2_tally_7 ?_
      refine lv_icmp_ge (tgt := 46) hx hb dX2_tally_10 (by decide) (fun cd => ?_) (fun cd => ?_)
      · have h := h.1 cd
        refine lv_iload_n hx hb dX2_tally_46 rfl (lv_at hl 2 rfl) ?_
        exact hret _ _ _ _ _ () dX2_tally_47 (vp_nar_int _) h hP hD hS
      · have h := h.2 cd
        refine lv_aload_n hx hb dX2_tally_13 rfl (lv_at hl 0 rfl) ?_
        refine lv_iload_n hx hb dX2_tally_14 rfl (lv_at hl 3 rfl) ?_
        refine cx_vi (As := [.int x3]) (rest := []) ⟨hx, hb, hml, hown, hts⟩ hl.1 ok_sxE hE hK hP hD hS hA (cut_0 cI q0 u0) (c_X2_wholeAt (l := l) (dC := dC) (dI := dI) (cI := cI) (q0 := q0) h) (cwV 1 hts gX2_tally_X2_wholeAt rfl rfl rfl hdX2_wholeAt ⟨Nat.le_of_ble_eq_true rfl, Nat.le_of_ble_eq_true rfl⟩) rfl rfl rfl rfl (Nat.le_of_ble_eq_true rfl) dX2_tally_15 rfl (fun r_3 _ H locs h hP hD hS => ?_)
        refine lv_if_eq (tgt := 46) hx hb dX2_tally_18 (by decide) (fun cd => ?_) (fun cd => ?_)
        · have h := h.1 cd
          refine lv_iload_n hx hb dX2_tally_46 rfl (lv_at hl 2 rfl) ?_
          exact hret _ _ _ _ _ () dX2_tally_47 (vp_nar_int _) h hP hD hS
        · have h := h.2 cd
          refine lv_iload_n hx hb dX2_tally_21 rfl (lv_at hl 1 rfl) ?_
          refine lv_if_eq (tgt := 34) hx hb dX2_tally_22 (by decide) (fun cd => ?_) (fun cd => ?_)
          · have h := h.1 cd
            exact w_34 (fun x1 x2 x3 => wp_X2_tally_37 u0 (fun x1 x2 x3 => wp_X2_tally_5 u0 Q n x1 x2 x3) Q x1 x2 x3) (fun x1 x2 x3 H locs ls hP hD hS hl h => w_37 (fun x1 x2 x3 => wp_X2_tally_5 u0 Q n x1 x2 x3) (fun x1 x2 x3 H locs ls hP hD hS hl h => ih x1 x2 x3 H locs ls hP hD hS hl h) x1 x2 x3 H locs ls hP hD hS hl h) x1 x2 x3 _ _ _ hP hD hS (lv_sub hl [0, 1, 2, 3] rfl) h
          · have h := h.2 cd
            refine lv_aload_n hx hb dX2_tally_25 rfl (lv_at hl 0 rfl) ?_
            refine lv_iload_n hx hb dX2_tally_26 rfl (lv_at hl 3 rfl) ?_
            refine cx_vi (As := [.int x3]) (rest := []) ⟨hx, hb, hml, hown, hts⟩ hl.1 ok_sxE hE hK hP hD hS hA (cut_0 cI q0 u0) (c_X2_byteAt (l := l) (dC := dC) (dI := dI) (cI := cI) (q0 := q0) h) (cwV 1 hts gX2_tally_X2_byteAt rfl rfl rfl hdX2_byteAt ⟨Nat.le_of_ble_eq_true rfl, Nat.le_of_ble_eq_true rfl⟩) rfl rfl rfl rfl (Nat.le_of_ble_eq_true rfl) dX2_tally_27 rfl (fun r_4 _ H locs h hP hD hS => ?_)
            refine lv_iload_n hx hb dX2_tally_30 rfl (lv_at hl 1 rfl) ?_
            refine lv_icmp_ne (tgt := 37) hx hb dX2_tally_31 (by decide) (fun cd => ?_) (fun cd => ?_)
            · have h := h.2 cd
              exact w_37 (fun x1 x2 x3 => wp_X2_tally_5 u0 Q n x1 x2 x3) (fun x1 x2 x3 H locs ls hP hD hS hl h => ih x1 x2 x3 H locs ls hP hD hS hl h) x1 x2 x3 _ _ _ hP hD hS (lv_sub hl [0, 1, 2, 3] rfl) h
            · have h := h.1 cd
              exact w_34 (fun x1 x2 x3 => wp_X2_tally_37 u0 (fun x1 x2 x3 => wp_X2_tally_5 u0 Q n x1 x2 x3) Q x1 x2 x3) (fun x1 x2 x3 H locs ls hP hD hS hl h => w_37 (fun x1 x2 x3 => wp_X2_tally_5 u0 Q n x1 x2 x3) (fun x1 x2 x3 H locs ls hP hD hS hl h => ih x1 x2 x3 H locs ls hP hD hS hl h) x1 x2 x3 H locs ls hP hD hS hl h) x1 x2 x3 _ _ _ hP hD hS (lv_sub hl [0, 1, 2, 3] rfl) h
  have hS : va_S A s.heap s.heap [] := va_S.rf
  refine lv_iconst (v := 0) hx hb dX2_tally_0 (by decide) ?_
  refine lv_istore_n (lv' := [(2, .int 0), (0, .ref (q0 0)), (1, .int x1)]) hx hb dX2_tally_1 rfl hl (by decide) rfl (fun ls hl => ?_)
  refine lv_bipush (v := 8) hx hb dX2_tally_2 (by decide) ?_
  refine lv_istore_n (lv' := [(3, .int 8), (2, .int 0), (0, .ref (q0 0)), (1, .int x1)]) hx hb dX2_tally_4 rfl hl (by decide) rfl (fun ls hl => ?_)
  obtain ⟨n0, h⟩ := h
  exact w_5 n0 x1 0 8 _ _ _ hP hD hS (lv_sub hl [2, 3, 1, 0] rfl) h

abbrev rX2_put : Room := { frames := 0, cells := 0, slots := 0, locals := 0 }
theorem hdX2_put : yX2_put.cls = RX2 ∧ yX2_put.cls ≠ "java/lang/invoke/MethodHandle" ∧ yX2_put.cls ≠ "java/lang/invoke/VarHandle" ∧ (parseMethodDescriptor yX2_put.desc).map (fun d => d.parameters.length) = some 1 := by decide +kernel
theorem inX2_put_2 : ∀ w ∈ wsX20, w ∈ wsX2_put := by decide +kernel
theorem kX2_put_0 : Cond.fieldLink RX2 22 "AheadStore$Journal" "pen" "I" ∈ wsX2_put := by decide +kernel
theorem kX2_put_1 : Cond.fieldLink RX2 9 "AheadStore$Journal" "row" "[I" ∈ wsX2_put := by decide +kernel
set_option maxHeartbeats 4000000 in
set_option maxRecDepth 100000 in
theorem c_X2_put {l : Launch} {dC : Nat → ClassId} {dI : Nat → Nat → Nat} {cI : ClassId} {q0 : Nat → Nat} {sz : Nat} {u0 : S2} {x1 : Int32} {Q : S2 → Prop} (h : wp_X2_put u0 x1 Q) : ctV sxE l yX2_put wsX2_put rX2_put (dC, dI) vwCl [(cI, .int)] [.ref (q0 0), .int x1] (cs2 cI q0 u0) sz (fun (v : S2) => Q v) (fun (v : S2) => cs2 cI q0 v) := by
  refine mx_v (cc := cX2_put) (maxL := 2) (by decide) rfl (Nat.le_of_ble_eq_true rfl) ?_
  intro p e s m below meth c Z A ls args hx hb hml hown hts hA hP hK hD hE hl hret
  have hown : s.vm.findClass RX2 = some m.cls := hown
  have hl : lv_has ls 2 [(0, .ref (q0 0)), (1, .int x1)] := hl
  have w_33 : ∀ (u0 : S2) (H : Heap) (locs : List Loc) (ls : Array Slot) (_ : va_P (dC, dI) vwCl (cs2 cI q0 u0) H) (_ : va_D A (cs2 cI q0 u0)) (_ : va_S A s.heap H locs) (_ : lv_has ls 2 [(0, .ref (q0 0))]) (_ : wp_X2_put_33 Q u0), W p l e rX2_put s m args below meth c H locs 0 0 Z (F0 m 33 ls []) := by
    intro u0 H locs ls hP hD hS hl h
    refine lv_aload_n hx hb dX2_put_33 rfl (lv_at hl 0 rfl) ?_
    refine lv_dup hx hb dX2_put_34 rfl ?_
    refine va_get (D := (dC, dI)) (ci := 2) (v := .int (g2_pen u0)) (C := RX2) (T := TX2) (N := 4) hx hb hts inX2_put_2 hown hK hP 0 rfl rfl 3 (by decide) (hts _ kX2_put_0) (fun _ h9 => h9) rfl dX2_put_35 ?_
    refine lv_iconst (v := 1) hx hb dX2_put_38 (by decide) ?_
    refine lv_iadd hx hb dX2_put_39 ?_
    refine va_put (D := (dC, dI)) (ci := 2) (v := .int ((g2_pen u0) + 1)) (ty := .int) (C := RX2) (T := TX2) (N := 4) hx hb hts inX2_put_2 tyX2 tyX2_ok nmX2 hown hK hP hD hS 0 rfl rfl 3 (by decide) (hts _ kX2_put_0) (fun _ h9 => h9) rfl (tyX2_ok 3 (by decide)) rfl rfl (Nat.le_of_ble_eq_true rfl) dX2_put_40 (fun H locs hP hD hS => ?_)
    obtain ⟨u0_1, e_u0_1⟩ : ∃ z, z = s2_pen u0 ((g2_pen u0) + 1) := ⟨_, rfl⟩
    have h := h u0_1 e_u0_1
    have hP : va_P (dC, dI) vwCl (cs2 cI q0 u0_1) H := by rw [e_u0_1]; exact hP
    have hD : va_D A (cs2 cI q0 u0_1) := by rw [e_u0_1]; exact hD
    exact hret _ _ _ _ u0_1 dX2_put_43 h hP hD hS
  have hS : va_S A s.heap s.heap [] := va_S.rf
  refine lv_aload_n hx hb dX2_put_0 rfl (lv_at hl 0 rfl) ?_
  refine va_get (D := (dC, dI)) (ci := 2) (v := .int (g2_pen u0)) (C := RX2) (T := TX2) (N := 4) hx hb hts inX2_put_2 hown hK hP 0 rfl rfl 3 (by decide) (hts _ kX2_put_0) (fun _ h9 => h9) rfl dX2_put_1 ?_
  refine lv_if_lt (tgt := 33) hx hb dX2_put_4 (by decide) (fun cd => ?_) (fun cd => ?_)
  · have h := h.1 cd
    exact w_33 u0 _ _ _ hP hD hS (lv_sub hl [0] rfl) h
  · have h := h.2 cd
    refine lv_aload_n hx hb dX2_put_7 rfl (lv_at hl 0 rfl) ?_
    refine va_get (D := (dC, dI)) (ci := 2) (v := .int (g2_pen u0)) (C := RX2) (T := TX2) (N := 4) hx hb hts inX2_put_2 hown hK hP 0 rfl rfl 3 (by decide) (hts _ kX2_put_0) (fun _ h9 => h9) rfl dX2_put_8 ?_
    refine lv_aload_n hx hb dX2_put_11 rfl (lv_at hl 0 rfl) ?_
    refine va_get (D := (dC, dI)) (ci := 2) (v := .ref (q0 1)) (C := RX2) (T := TX2) (N := 4) hx hb hts inX2_put_2 hown hK hP 0 rfl rfl 0 (by decide) (hts _ kX2_put_1) (fun _ h9 => h9) rfl dX2_put_12 ?_
    refine va_alen (v := 8600) hx hb hK hP 1 0 rfl rfl rfl dX2_put_15 ?_
    refine lv_icmp_ge (tgt := 33) hx hb dX2_put_16 (by decide) (fun cd => ?_) (fun cd => ?_)
    · have h := h.1 cd
      exact w_33 u0 _ _ _ hP hD hS (lv_sub hl [0] rfl) h
    · have h := h.2 cd
      refine lv_aload_n hx hb dX2_put_19 rfl (lv_at hl 0 rfl) ?_
      refine va_get (D := (dC, dI)) (ci := 2) (v := .ref (q0 1)) (C := RX2) (T := TX2) (N := 4) hx hb hts inX2_put_2 hown hK hP 0 rfl rfl 0 (by decide) (hts _ kX2_put_1) (fun _ h9 => h9) rfl dX2_put_20 ?_
      refine lv_aload_n hx hb dX2_put_23 rfl (lv_at hl 0 rfl) ?_
      refine va_get (D := (dC, dI)) (ci := 2) (v := .int (g2_pen u0)) (C := RX2) (T := TX2) (N := 4) hx hb hts inX2_put_2 hown hK hP 0 rfl rfl 3 (by decide) (hts _ kX2_put_0) (fun _ h9 => h9) rfl dX2_put_24 ?_
      refine lv_iload_n hx hb dX2_put_27 rfl (lv_at hl 1 rfl) ?_
      refine lv_sipush (v := 255) hx hb dX2_put_28 (by decide) ?_
      refine lv_iand hx hb dX2_put_31 ?_
      refine va_iast hx hb hK hP hD hS 1 0 rfl rfl h.1 dX2_put_32 (fun H locs hP hD hS => ?_)
      have h := h.2
      obtain ⟨u0_2, e_u0_2⟩ : ∃ z, z = s2_row u0 (upd (g2_row u0) (g2_pen u0).toNatClampNeg (x1 &&& 255)) := ⟨_, rfl⟩
      have h := h u0_2 e_u0_2
      have hP : va_P (dC, dI) vwCl (cs2 cI q0 u0_2) H := by rw [e_u0_2]; exact hP
      have hD : va_D A (cs2 cI q0 u0_2) := by rw [e_u0_2]; exact hD
      exact w_33 u0_2 _ _ _ hP hD hS (lv_sub hl [0] rfl) h

set_option maxRecDepth 100000 in
theorem cut_1 (cI : ClassId) (q0 : Nat → Nat) (u0 : S2) : Cut (cs2 cI q0 u0) (cs2 cI q0 u0) (fun v : S2 => cs2 cI q0 v) (fun v : S2 => cs2 cI q0 v) := ⟨[0, 1], [], rfl, rfl, rfl, by decide, by decide, fun v => ⟨[0, 1], rfl, rfl⟩⟩

abbrev rX2_start : Room := { frames := 1, cells := 0, slots := 0, locals := 21 }
theorem hdX2_start : yX2_start.cls = RX2 ∧ yX2_start.cls ≠ "java/lang/invoke/MethodHandle" ∧ yX2_start.cls ≠ "java/lang/invoke/VarHandle" ∧ (parseMethodDescriptor yX2_start.desc).map (fun d => d.parameters.length) = some 3 := by decide +kernel
theorem inX2_start_2 : ∀ w ∈ wsX20, w ∈ wsX2_start := by decide +kernel
theorem kX2_start_0 : Cond.fieldLink RX2 22 "AheadStore$Journal" "pen" "I" ∈ wsX2_start := by decide +kernel
theorem kX2_start_1 : Cond.fieldLink RX2 15 "AheadStore$Journal" "endPlace" "I" ∈ wsX2_start := by decide +kernel
set_option maxHeartbeats 4000000 in
set_option maxRecDepth 100000 in
theorem c_X2_start {l : Launch} {dC : Nat → ClassId} {dI : Nat → Nat → Nat} {cI : ClassId} {q0 : Nat → Nat} {sz : Nat} {u0 : S2} {x1 : Int32} {x2 : Int32} {x3 : Int32} {Q : S2 → Prop} (h : wp_X2_start u0 x1 x2 x3 Q) : ctV sxE l yX2_start wsX2_start rX2_start (dC, dI) vwCl [(cI, .int)] [.ref (q0 0), .int x1, .int x2, .int x3] (cs2 cI q0 u0) sz (fun (v : S2) => Q v) (fun (v : S2) => cs2 cI q0 v) := by
  refine mx_v (cc := cX2_start) (maxL := 4) (by decide) rfl (Nat.le_of_ble_eq_true rfl) ?_
  intro p e s m below meth c Z A ls args hx hb hml hown hts hA hP hK hD hE hl hret
  have hown : s.vm.findClass RX2 = some m.cls := hown
  have hl : lv_has ls 4 [(0, .ref (q0 0)), (1, .int x1), (2, .int x2), (3, .int x3)] := hl
  have hS : va_S A s.heap s.heap [] := va_S.rf
  refine lv_aload_n hx hb dX2_start_0 rfl (lv_at hl 0 rfl) ?_
  refine lv_aload_n hx hb dX2_start_1 rfl (lv_at hl 0 rfl) ?_
  refine va_get (D := (dC, dI)) (ci := 2) (v := .int (g2_endPlace u0)) (C := RX2) (T := TX2) (N := 4) hx hb hts inX2_start_2 hown hK hP 0 rfl rfl 1 (by decide) (hts _ kX2_start_1) (fun _ h9 => h9) rfl dX2_start_2 ?_
  refine va_put (D := (dC, dI)) (ci := 2) (v := .int (g2_endPlace u0)) (ty := .int) (C := RX2) (T := TX2) (N := 4) hx hb hts inX2_start_2 tyX2 tyX2_ok nmX2 hown hK hP hD hS 0 rfl rfl 3 (by decide) (hts _ kX2_start_0) (fun _ h9 => h9) rfl (tyX2_ok 3 (by decide)) rfl rfl (Nat.le_of_ble_eq_true rfl) dX2_start_5 (fun H locs hP hD hS => ?_)
  obtain ⟨u0_1, e_u0_1⟩ : ∃ z, z = s2_pen u0 (g2_endPlace u0) := ⟨_, rfl⟩
  have h := h u0_1 e_u0_1
  have hP : va_P (dC, dI) vwCl (cs2 cI q0 u0_1) H := by rw [e_u0_1]; exact hP
  have hD : va_D A (cs2 cI q0 u0_1) := by rw [e_u0_1]; exact hD
  refine lv_aload_n hx hb dX2_start_8 rfl (lv_at hl 0 rfl) ?_
  refine lv_iload_n hx hb dX2_start_9 rfl (lv_at hl 1 rfl) ?_
  refine cx_vv (As := [.int x1]) (rest := []) ⟨hx, hb, hml, hown, hts⟩ hl.1 ok_sxE hE hK hP hD hS hA (cut_1 cI q0 u0_1) (c_X2_put (l := l) (dC := dC) (dI := dI) (cI := cI) (q0 := q0) h) (cwV 1 hts gX2_start_X2_put rfl rfl rfl hdX2_put ⟨Nat.le_of_ble_eq_true rfl, Nat.le_of_ble_eq_true rfl⟩) rfl rfl rfl rfl (Nat.le_of_ble_eq_true rfl) dX2_start_10 rfl (fun v_2 H locs h hP hD hS => ?_)
  have hP : va_P (dC, dI) vwCl (cs2 cI q0 v_2) H :=  hP
  have hD : va_D A (cs2 cI q0 v_2) :=  hD
  refine lv_aload_n hx hb dX2_start_13 rfl (lv_at hl 0 rfl) ?_
  refine lv_iconst (v := 0) hx hb dX2_start_14 (by decide) ?_
  refine cx_vv (As := [.int 0]) (rest := []) ⟨hx, hb, hml, hown, hts⟩ hl.1 ok_sxE hE hK hP hD hS hA (cut_1 cI q0 v_2) (c_X2_put (l := l) (dC := dC) (dI := dI) (cI := cI) (q0 := q0) h) (cwV 1 hts gX2_start_X2_put rfl rfl rfl hdX2_put ⟨Nat.le_of_ble_eq_true rfl, Nat.le_of_ble_eq_true rfl⟩) rfl rfl rfl rfl (Nat.le_of_ble_eq_true rfl) dX2_start_15 rfl (fun v_3 H locs h hP hD hS => ?_)
  have hP : va_P (dC, dI) vwCl (cs2 cI q0 v_3) H :=  hP
  have hD : va_D A (cs2 cI q0 v_3) :=  hD
  refine lv_aload_n hx hb dX2_start_18 rfl (lv_at hl 0 rfl) ?_
  refine lv_iload_n hx hb dX2_start_19 rfl (lv_at hl 2 rfl) ?_
  refine cx_vv (As := [.int x2]) (rest := []) ⟨hx, hb, hml, hown, hts⟩ hl.1 ok_sxE hE hK hP hD hS hA (cut_1 cI q0 v_3) (c_X2_put (l := l) (dC := dC) (dI := dI) (cI := cI) (q0 := q0) h) (cwV 1 hts gX2_start_X2_put rfl rfl rfl hdX2_put ⟨Nat.le_of_ble_eq_true rfl, Nat.le_of_ble_eq_true rfl⟩) rfl rfl rfl rfl (Nat.le_of_ble_eq_true rfl) dX2_start_20 rfl (fun v_4 H locs h hP hD hS => ?_)
  have hP : va_P (dC, dI) vwCl (cs2 cI q0 v_4) H :=  hP
  have hD : va_D A (cs2 cI q0 v_4) :=  hD
  refine lv_aload_n hx hb dX2_start_23 rfl (lv_at hl 0 rfl) ?_
  refine lv_iload_n hx hb dX2_start_24 rfl (lv_at hl 3 rfl) ?_
  refine lv_bipush (v := 8) hx hb dX2_start_25 (by decide) ?_
  refine lv_ishr hx hb dX2_start_27 ?_
  refine cx_vv (As := [.int (x3 >>> (8 &&& 31))]) (rest := []) ⟨hx, hb, hml, hown, hts⟩ hl.1 ok_sxE hE hK hP hD hS hA (cut_1 cI q0 v_4) (c_X2_put (l := l) (dC := dC) (dI := dI) (cI := cI) (q0 := q0) h) (cwV 1 hts gX2_start_X2_put rfl rfl rfl hdX2_put ⟨Nat.le_of_ble_eq_true rfl, Nat.le_of_ble_eq_true rfl⟩) rfl rfl rfl rfl (Nat.le_of_ble_eq_true rfl) dX2_start_28 rfl (fun v_5 H locs h hP hD hS => ?_)
  have hP : va_P (dC, dI) vwCl (cs2 cI q0 v_5) H :=  hP
  have hD : va_D A (cs2 cI q0 v_5) :=  hD
  refine lv_aload_n hx hb dX2_start_31 rfl (lv_at hl 0 rfl) ?_
  refine lv_iload_n hx hb dX2_start_32 rfl (lv_at hl 3 rfl) ?_
  refine cx_vv (As := [.int x3]) (rest := []) ⟨hx, hb, hml, hown, hts⟩ hl.1 ok_sxE hE hK hP hD hS hA (cut_1 cI q0 v_5) (c_X2_put (l := l) (dC := dC) (dI := dI) (cI := cI) (q0 := q0) h) (cwV 1 hts gX2_start_X2_put rfl rfl rfl hdX2_put ⟨Nat.le_of_ble_eq_true rfl, Nat.le_of_ble_eq_true rfl⟩) rfl rfl rfl rfl (Nat.le_of_ble_eq_true rfl) dX2_start_33 rfl (fun v_6 H locs h hP hD hS => ?_)
  have hP : va_P (dC, dI) vwCl (cs2 cI q0 v_6) H :=  hP
  have hD : va_D A (cs2 cI q0 v_6) :=  hD
  exact hret _ _ _ _ v_6 dX2_start_36 h hP hD hS

abbrev rX2_putPair : Room := { frames := 1, cells := 0, slots := 0, locals := 21 }
theorem hdX2_putPair : yX2_putPair.cls = RX2 ∧ yX2_putPair.cls ≠ "java/lang/invoke/MethodHandle" ∧ yX2_putPair.cls ≠ "java/lang/invoke/VarHandle" ∧ (parseMethodDescriptor yX2_putPair.desc).map (fun d => d.parameters.length) = some 1 := by decide +kernel
set_option maxHeartbeats 4000000 in
set_option maxRecDepth 100000 in
theorem c_X2_putPair {l : Launch} {dC : Nat → ClassId} {dI : Nat → Nat → Nat} {cI : ClassId} {q0 : Nat → Nat} {sz : Nat} {u0 : S2} {x1 : Int32} {Q : S2 → Prop} (h : wp_X2_putPair u0 x1 Q) : ctV sxE l yX2_putPair wsX2_putPair rX2_putPair (dC, dI) vwCl [(cI, .int)] [.ref (q0 0), .int x1] (cs2 cI q0 u0) sz (fun (v : S2) => Q v) (fun (v : S2) => cs2 cI q0 v) := by
  refine mx_v (cc := cX2_putPair) (maxL := 2) (by decide) rfl (Nat.le_of_ble_eq_true rfl) ?_
  intro p e s m below meth c Z A ls args hx hb hml hown hts hA hP hK hD hE hl hret
  have hown : s.vm.findClass RX2 = some m.cls := hown
  have hl : lv_has ls 2 [(0, .ref (q0 0)), (1, .int x1)] := hl
  have hS : va_S A s.heap s.heap [] := va_S.rf
  refine lv_aload_n hx hb dX2_putPair_0 rfl (lv_at hl 0 rfl) ?_
  refine lv_iload_n hx hb dX2_putPair_1 rfl (lv_at hl 1 rfl) ?_
  refine lv_bipush (v := 8) hx hb dX2_putPair_2 (by decide) ?_
  refine lv_ishr hx hb dX2_putPair_4 ?_
  refine cx_vv (As := [.int (x1 >>> (8 &&& 31))]) (rest := []) ⟨hx, hb, hml, hown, hts⟩ hl.1 ok_sxE hE hK hP hD hS hA (cut_1 cI q0 u0) (c_X2_put (l := l) (dC := dC) (dI := dI) (cI := cI) (q0 := q0) h) (cwV 1 hts gX2_putPair_X2_put rfl rfl rfl hdX2_put ⟨Nat.le_of_ble_eq_true rfl, Nat.le_of_ble_eq_true rfl⟩) rfl rfl rfl rfl (Nat.le_of_ble_eq_true rfl) dX2_putPair_5 rfl (fun v_1 H locs h hP hD hS => ?_)
  have hP : va_P (dC, dI) vwCl (cs2 cI q0 v_1) H :=  hP
  have hD : va_D A (cs2 cI q0 v_1) :=  hD
  refine lv_aload_n hx hb dX2_putPair_8 rfl (lv_at hl 0 rfl) ?_
  refine lv_iload_n hx hb dX2_putPair_9 rfl (lv_at hl 1 rfl) ?_
  refine cx_vv (As := [.int x1]) (rest := []) ⟨hx, hb, hml, hown, hts⟩ hl.1 ok_sxE hE hK hP hD hS hA (cut_1 cI q0 v_1) (c_X2_put (l := l) (dC := dC) (dI := dI) (cI := cI) (q0 := q0) h) (cwV 1 hts gX2_putPair_X2_put rfl rfl rfl hdX2_put ⟨Nat.le_of_ble_eq_true rfl, Nat.le_of_ble_eq_true rfl⟩) rfl rfl rfl rfl (Nat.le_of_ble_eq_true rfl) dX2_putPair_10 rfl (fun v_2 H locs h hP hD hS => ?_)
  have hP : va_P (dC, dI) vwCl (cs2 cI q0 v_2) H :=  hP
  have hD : va_D A (cs2 cI q0 v_2) :=  hD
  exact hret _ _ _ _ v_2 dX2_putPair_13 h hP hD hS

abbrev rX2_seal : Room := { frames := 0, cells := 0, slots := 0, locals := 0 }
theorem hdX2_seal : yX2_seal.cls = RX2 ∧ yX2_seal.cls ≠ "java/lang/invoke/MethodHandle" ∧ yX2_seal.cls ≠ "java/lang/invoke/VarHandle" ∧ (parseMethodDescriptor yX2_seal.desc).map (fun d => d.parameters.length) = some 0 := by decide +kernel
theorem inX2_seal_2 : ∀ w ∈ wsX20, w ∈ wsX2_seal := by decide +kernel
theorem kX2_seal_0 : Cond.fieldLink RX2 15 "AheadStore$Journal" "endPlace" "I" ∈ wsX2_seal := by decide +kernel
theorem kX2_seal_1 : Cond.fieldLink RX2 22 "AheadStore$Journal" "pen" "I" ∈ wsX2_seal := by decide +kernel
theorem kX2_seal_2 : Cond.fieldLink RX2 9 "AheadStore$Journal" "row" "[I" ∈ wsX2_seal := by decide +kernel
set_option maxHeartbeats 4000000 in
set_option maxRecDepth 100000 in
theorem c_X2_seal {l : Launch} {dC : Nat → ClassId} {dI : Nat → Nat → Nat} {cI : ClassId} {q0 : Nat → Nat} {sz : Nat} {u0 : S2}  {Q : Int32 → S2 → Prop} (h : wp_X2_seal u0 Q) : ctI sxE l yX2_seal wsX2_seal rX2_seal (dC, dI) vwCl [(cI, .int)] [.ref (q0 0)] (cs2 cI q0 u0) sz (fun (r : Int32) (v : S2) => Q r v) (fun (v : S2) => cs2 cI q0 v) := by
  refine mx_i (cc := cX2_seal) (maxL := 4) (ty := .int) (by decide) rfl (Nat.le_of_ble_eq_true rfl) ?_
  intro p e s m below meth c Z A ls args hx hb hml hown hts hA hP hK hD hE hl hret
  have hown : s.vm.findClass RX2 = some m.cls := hown
  have hl : lv_has ls 4 [(0, .ref (q0 0))] := hl
  have w_57 : ∀ (n : Nat) (x1 : Int32) (x2 : Int32) (x3 : Int32) (u0 : S2) (H : Heap) (locs : List Loc) (ls : Array Slot) (_ : va_P (dC, dI) vwCl (cs2 cI q0 u0) H) (_ : va_D A (cs2 cI q0 u0)) (_ : va_S A s.heap H locs) (_ : lv_has ls 4 [(0, .ref (q0 0)), (1, .int x1), (2, .int x2), (3, .int x3)]) (_ : wp_X2_seal_57 Q n x1 x2 x3 u0), W p l e rX2_seal s m args below meth c H locs 0 0 Z (F0 m 57 ls []) := by
    intro n
    induction n with
    | zero => intro x1 x2 x3 u0 H locs ls hP hD hS hl h; exact False.elim h
    | succ n ih =>
      intro x1 x2 x3 u0 H locs ls hP hD hS hl h
      refine lv_iload_n hx hb dX2_seal_57 rfl (lv_at hl 3 rfl) ?_
      refine lv_aload_n hx hb dX2_seal_58 rfl (lv_at hl 0 rfl) ?_
      refine va_get (D := (dC, dI)) (ci := 2) (v := .int (g2_pen u0)) (C := RX2) (T := TX2) (N := 4) hx hb hts inX2_seal_2 hown hK hP 0 rfl rfl 3 (by decide) (hts _ kX2_seal_1) (fun _ h9 => h9) rfl dX2_seal_59 ?_
      refine lv_icmp_ge (tgt := 80) hx hb dX2_seal_62 (by decide) (fun cd => ?_) (fun cd => ?_)
      · have h := h.1 cd
        refine lv_aload_n hx hb dX2_seal_80 rfl (lv_at hl 0 rfl) ?_
        refine va_get (D := (dC, dI)) (ci := 2) (v := .ref (q0 1)) (C := RX2) (T := TX2) (N := 4) hx hb hts inX2_seal_2 hown hK hP 0 rfl rfl 0 (by decide) (hts _ kX2_seal_2) (fun _ h9 => h9) rfl dX2_seal_81 ?_
        refine lv_aload_n hx hb dX2_seal_84 rfl (lv_at hl 0 rfl) ?_
        refine va_get (D := (dC, dI)) (ci := 2) (v := .int (g2_pen u0)) (C := RX2) (T := TX2) (N := 4) hx hb hts inX2_seal_2 hown hK hP 0 rfl rfl 3 (by decide) (hts _ kX2_seal_1) (fun _ h9 => h9) rfl dX2_seal_85 ?_
        refine lv_iload_n hx hb dX2_seal_88 rfl (lv_at hl 2 rfl) ?_
        refine lv_sipush (v := 255) hx hb dX2_seal_89 (by decide) ?_
        refine lv_iand hx hb dX2_seal_92 ?_
        refine va_iast hx hb hK hP hD hS 1 0 rfl rfl h.1 dX2_seal_93 (fun H locs hP hD hS => ?_)
        have h := h.2
        obtain ⟨u0_1, e_u0_1⟩ : ∃ z, z = s2_row u0 (upd (g2_row u0) (g2_pen u0).toNatClampNeg (x2 &&& 255)) := ⟨_, rfl⟩
        have h := h u0_1 e_u0_1
        have hP : va_P (dC, dI) vwCl (cs2 cI q0 u0_1) H := by rw [e_u0_1]; exact hP
        have hD : va_D A (cs2 cI q0 u0_1) := by rw [e_u0_1]; exact hD
        refine lv_aload_n hx hb dX2_seal_94 rfl (lv_at hl 0 rfl) ?_
        refine lv_aload_n hx hb dX2_seal_95 rfl (lv_at hl 0 rfl) ?_
        refine va_get (D := (dC, dI)) (ci := 2) (v := .int (g2_pen u0_1)) (C := RX2) (T := TX2) (N := 4) hx hb hts inX2_seal_2 hown hK hP 0 rfl rfl 3 (by decide) (hts _ kX2_seal_1) (fun _ h9 => h9) rfl dX2_seal_96 ?_
        refine lv_iconst (v := 1) hx hb dX2_seal_99 (by decide) ?_
        refine lv_iadd hx hb dX2_seal_100 ?_
        refine va_put (D := (dC, dI)) (ci := 2) (v := .int ((g2_pen u0_1) + 1)) (ty := .int) (C := RX2) (T := TX2) (N := 4) hx hb hts inX2_seal_2 tyX2 tyX2_ok nmX2 hown hK hP hD hS 0 rfl rfl 1 (by decide) (hts _ kX2_seal_0) (fun _ h9 => h9) rfl (tyX2_ok 1 (by decide)) rfl rfl (Nat.le_of_ble_eq_true rfl) dX2_seal_101 (fun H locs hP hD hS => ?_)
        obtain ⟨u0_2, e_u0_2⟩ : ∃ z, z = s2_endPlace u0_1 ((g2_pen u0_1) + 1) := ⟨_, rfl⟩
        have h := h u0_2 e_u0_2
        have hP : va_P (dC, dI) vwCl (cs2 cI q0 u0_2) H := by rw [e_u0_2]; exact hP
        have hD : va_D A (cs2 cI q0 u0_2) := by rw [e_u0_2]; exact hD
        refine lv_iload_n hx hb dX2_seal_104 rfl (lv_at hl 1 rfl) ?_
        exact hret _ _ _ _ _ u0_2 dX2_seal_105 (vp_nar_int _) h hP hD hS
      · have h := h.2 cd
        refine lv_iload_n hx hb dX2_seal_65 rfl (lv_at hl 2 rfl) ?_
        refine lv_aload_n hx hb dX2_seal_66 rfl (lv_at hl 0 rfl) ?_
        refine va_get (D := (dC, dI)) (ci := 2) (v := .ref (q0 1)) (C := RX2) (T := TX2) (N := 4) hx hb hts inX2_seal_2 hown hK hP 0 rfl rfl 0 (by decide) (hts _ kX2_seal_2) (fun _ h9 => h9) rfl dX2_seal_67 ?_
        refine lv_iload_n hx hb dX2_seal_70 rfl (lv_at hl 3 rfl) ?_
        refine va_iald hx hb hK hP 1 0 rfl rfl h.1 dX2_seal_71 ?_
        have h := h.2
        refine lv_iadd hx hb dX2_seal_72 ?_
        refine lv_topi (fun x2_3 e_x2_3 => ?_)
        have h := h x2_3 e_x2_3
        refine lv_istore_n (lv' := [(2, .int x2_3), (0, .ref (q0 0)), (1, .int x1), (3, .int x3)]) hx hb dX2_seal_73 rfl hl (by decide) rfl (fun ls hl => ?_)
        obtain ⟨x3_4, e_x3_4⟩ : ∃ z : Int32, z = x3 + 1 := ⟨_, rfl⟩
        have h := h x3_4 e_x3_4
        refine lv_iinc (v := x3_4) (lv' := [(3, .int x3_4), (2, .int x2_3), (0, .ref (q0 0)), (1, .int x1)]) hx hb dX2_seal_74 hl (k := 3) rfl (by rw [e_x3_4]; rfl) (by decide) rfl (fun ls hl => ?_)
        refine lv_goto (tgt := 57) hx hb dX2_seal_77 (by decide) ?_
        exact ih x1 x2_3 x3_4 u0 _ _ _ hP hD hS (lv_sub hl [2, 3, 1, 0] rfl) h
  have hS : va_S A s.heap s.heap [] := va_S.rf
  refine lv_aload_n hx hb dX2_seal_0 rfl (lv_at hl 0 rfl) ?_
  refine va_get (D := (dC, dI)) (ci := 2) (v := .int (g2_endPlace u0)) (C := RX2) (T := TX2) (N := 4) hx hb hts inX2_seal_2 hown hK hP 0 rfl rfl 1 (by decide) (hts _ kX2_seal_0) (fun _ h9 => h9) rfl dX2_seal_1 ?_
  refine lv_topi (fun x1_5 e_x1_5 => ?_)
  have h := h x1_5 e_x1_5
  refine lv_istore_n (lv' := [(1, .int x1_5), (0, .ref (q0 0))]) hx hb dX2_seal_4 rfl hl (by decide) rfl (fun ls hl => ?_)
  refine lv_iload_n hx hb dX2_seal_5 rfl (lv_at hl 0 rfl) ?_
  refine lv_if_lt (tgt := 34) hx hb dX2_seal_6 (by decide) (fun cd => ?_) (fun cd => ?_)
  · have h := h.1 cd
    refine lv_iconst (v := 0) hx hb dX2_seal_34 (by decide) ?_
    exact hret _ _ _ _ _ u0 dX2_seal_35 (vp_nar_int _) h hP hD hS
  · have h := h.2 cd
    refine lv_aload_n hx hb dX2_seal_9 rfl (lv_at hl 1 rfl) ?_
    refine va_get (D := (dC, dI)) (ci := 2) (v := .int (g2_pen u0)) (C := RX2) (T := TX2) (N := 4) hx hb hts inX2_seal_2 hown hK hP 0 rfl rfl 3 (by decide) (hts _ kX2_seal_1) (fun _ h9 => h9) rfl dX2_seal_10 ?_
    refine lv_aload_n hx hb dX2_seal_13 rfl (lv_at hl 1 rfl) ?_
    refine va_get (D := (dC, dI)) (ci := 2) (v := .ref (q0 1)) (C := RX2) (T := TX2) (N := 4) hx hb hts inX2_seal_2 hown hK hP 0 rfl rfl 0 (by decide) (hts _ kX2_seal_2) (fun _ h9 => h9) rfl dX2_seal_14 ?_
    refine va_alen (v := 8600) hx hb hK hP 1 0 rfl rfl rfl dX2_seal_17 ?_
    refine lv_icmp_ge (tgt := 34) hx hb dX2_seal_18 (by decide) (fun cd => ?_) (fun cd => ?_)
    · have h := h.1 cd
      refine lv_iconst (v := 0) hx hb dX2_seal_34 (by decide) ?_
      exact hret _ _ _ _ _ u0 dX2_seal_35 (vp_nar_int _) h hP hD hS
    · have h := h.2 cd
      refine lv_aload_n hx hb dX2_seal_21 rfl (lv_at hl 1 rfl) ?_
      refine va_get (D := (dC, dI)) (ci := 2) (v := .int (g2_pen u0)) (C := RX2) (T := TX2) (N := 4) hx hb hts inX2_seal_2 hown hK hP 0 rfl rfl 3 (by decide) (hts _ kX2_seal_1) (fun _ h9 => h9) rfl dX2_seal_22 ?_
      refine lv_iload_n hx hb dX2_seal_25 rfl (lv_at hl 0 rfl) ?_
      refine lv_bipush (v := 6) hx hb dX2_seal_26 (by decide) ?_
      refine lv_iadd hx hb dX2_seal_28 ?_
      refine lv_iconst (v := 1) hx hb dX2_seal_29 (by decide) ?_
      refine lv_isub hx hb dX2_seal_30 ?_
      refine lv_icmp_ge (tgt := 36) hx hb dX2_seal_31 (by decide) (fun cd => ?_) (fun cd => ?_)
      · have h := h.1 cd
        refine lv_aload_n hx hb dX2_seal_36 rfl (lv_at hl 1 rfl) ?_
        refine va_get (D := (dC, dI)) (ci := 2) (v := .ref (q0 1)) (C := RX2) (T := TX2) (N := 4) hx hb hts inX2_seal_2 hown hK hP 0 rfl rfl 0 (by decide) (hts _ kX2_seal_2) (fun _ h9 => h9) rfl dX2_seal_37 ?_
        refine lv_iload_n hx hb dX2_seal_40 rfl (lv_at hl 0 rfl) ?_
        refine lv_iconst (v := 1) hx hb dX2_seal_41 (by decide) ?_
        refine lv_iadd hx hb dX2_seal_42 ?_
        refine lv_aload_n hx hb dX2_seal_43 rfl (lv_at hl 1 rfl) ?_
        refine va_get (D := (dC, dI)) (ci := 2) (v := .int (g2_pen u0)) (C := RX2) (T := TX2) (N := 4) hx hb hts inX2_seal_2 hown hK hP 0 rfl rfl 3 (by decide) (hts _ kX2_seal_1) (fun _ h9 => h9) rfl dX2_seal_44 ?_
        refine lv_iconst (v := 1) hx hb dX2_seal_47 (by decide) ?_
        refine lv_iadd hx hb dX2_seal_48 ?_
        refine lv_iload_n hx hb dX2_seal_49 rfl (lv_at hl 0 rfl) ?_
        refine lv_isub hx hb dX2_seal_50 ?_
        refine va_iast hx hb hK hP hD hS 1 0 rfl rfl h.1 dX2_seal_51 (fun H locs hP hD hS => ?_)
        have h := h.2
        obtain ⟨u0_6, e_u0_6⟩ : ∃ z, z = s2_row u0 (upd (g2_row u0) (x1_5 + 1).toNatClampNeg (((g2_pen u0) + 1) - x1_5)) := ⟨_, rfl⟩
        have h := h u0_6 e_u0_6
        have hP : va_P (dC, dI) vwCl (cs2 cI q0 u0_6) H := by rw [e_u0_6]; exact hP
        have hD : va_D A (cs2 cI q0 u0_6) := by rw [e_u0_6]; exact hD
        refine lv_bipush (v := 90) hx hb dX2_seal_52 (by decide) ?_
        refine lv_istore_n (lv' := [(2, .int 90), (1, .int x1_5), (0, .ref (q0 0))]) hx hb dX2_seal_54 rfl hl (by decide) rfl (fun ls hl => ?_)
        refine lv_iload_n hx hb dX2_seal_55 rfl (lv_at hl 1 rfl) ?_
        refine lv_istore_n (lv' := [(3, .int x1_5), (2, .int 90), (1, .int x1_5), (0, .ref (q0 0))]) hx hb dX2_seal_56 rfl hl (by decide) rfl (fun ls hl => ?_)
        obtain ⟨n0, h⟩ := h
        exact w_57 n0 x1_5 90 x1_5 u0_6 _ _ _ hP hD hS (lv_sub hl [3, 2, 1, 0] rfl) h
      · have h := h.2 cd
        refine lv_iconst (v := 0) hx hb dX2_seal_34 (by decide) ?_
        exact hret _ _ _ _ _ u0 dX2_seal_35 (vp_nar_int _) h hP hD hS

abbrev rX2_flushThrough : Room := { frames := 1, cells := 0, slots := 0, locals := 21 }
theorem hdX2_flushThrough : yX2_flushThrough.cls = RX2 ∧ yX2_flushThrough.cls ≠ "java/lang/invoke/MethodHandle" ∧ yX2_flushThrough.cls ≠ "java/lang/invoke/VarHandle" ∧ (parseMethodDescriptor yX2_flushThrough.desc).map (fun d => d.parameters.length) = some 1 := by decide +kernel
theorem inX2_flushThrough_2 : ∀ w ∈ wsX20, w ∈ wsX2_flushThrough := by decide +kernel
theorem kX2_flushThrough_0 : Cond.fieldLink RX2 19 "AheadStore$Journal" "flushedPlace" "I" ∈ wsX2_flushThrough := by decide +kernel
set_option maxHeartbeats 4000000 in
set_option maxRecDepth 100000 in
theorem c_X2_flushThrough {l : Launch} {dC : Nat → ClassId} {dI : Nat → Nat → Nat} {cI : ClassId} {q0 : Nat → Nat} {sz : Nat} {u0 : S2} {x1 : Int32} {Q : S2 → Prop} (h : wp_X2_flushThrough u0 x1 Q) : ctV sxE l yX2_flushThrough wsX2_flushThrough rX2_flushThrough (dC, dI) vwCl [(cI, .int)] [.ref (q0 0), .int x1] (cs2 cI q0 u0) sz (fun (v : S2) => Q v) (fun (v : S2) => cs2 cI q0 v) := by
  refine mx_v (cc := cX2_flushThrough) (maxL := 3) (by decide) rfl (Nat.le_of_ble_eq_true rfl) ?_
  intro p e s m below meth c Z A ls args hx hb hml hown hts hA hP hK hD hE hl hret
  have hown : s.vm.findClass RX2 = some m.cls := hown
  have hl : lv_has ls 3 [(0, .ref (q0 0)), (1, .int x1)] := hl
  have hS : va_S A s.heap s.heap [] := va_S.rf
  refine lv_iload_n hx hb dX2_flushThrough_0 rfl (lv_at hl 1 rfl) ?_
  refine lv_aload_n hx hb dX2_flushThrough_1 rfl (lv_at hl 0 rfl) ?_
  refine lv_iload_n hx hb dX2_flushThrough_2 rfl (lv_at hl 1 rfl) ?_
  refine lv_iconst (v := 1) hx hb dX2_flushThrough_3 (by decide) ?_
  refine lv_iadd hx hb dX2_flushThrough_4 ?_
  refine cx_vi (As := [.int (x1 + 1)]) (rest := [.int x1]) ⟨hx, hb, hml, hown, hts⟩ hl.1 ok_sxE hE hK hP hD hS hA (cut_0 cI q0 u0) (c_X2_byteAt (l := l) (dC := dC) (dI := dI) (cI := cI) (q0 := q0) h) (cwV 1 hts gX2_flushThrough_X2_byteAt rfl rfl rfl hdX2_byteAt ⟨Nat.le_of_ble_eq_true rfl, Nat.le_of_ble_eq_true rfl⟩) rfl rfl rfl rfl (Nat.le_of_ble_eq_true rfl) dX2_flushThrough_5 rfl (fun r_1 _ H locs h hP hD hS => ?_)
  refine lv_iadd hx hb dX2_flushThrough_8 ?_
  refine lv_topi (fun x2_2 e_x2_2 => ?_)
  have h := h x2_2 e_x2_2
  refine lv_istore_n (lv' := [(2, .int x2_2), (0, .ref (q0 0)), (1, .int x1)]) hx hb dX2_flushThrough_9 rfl hl (by decide) rfl (fun ls hl => ?_)
  refine lv_iload_n hx hb dX2_flushThrough_10 rfl (lv_at hl 0 rfl) ?_
  refine lv_aload_n hx hb dX2_flushThrough_11 rfl (lv_at hl 1 rfl) ?_
  refine va_get (D := (dC, dI)) (ci := 2) (v := .int (g2_flushedPlace u0)) (C := RX2) (T := TX2) (N := 4) hx hb hts inX2_flushThrough_2 hown hK hP 0 rfl rfl 2 (by decide) (hts _ kX2_flushThrough_0) (fun _ h9 => h9) rfl dX2_flushThrough_12 ?_
  refine lv_icmp_le (tgt := 23) hx hb dX2_flushThrough_15 (by decide) (fun cd => ?_) (fun cd => ?_)
  · have h := h.1 cd
    exact hret _ _ _ _ u0 dX2_flushThrough_23 h hP hD hS
  · have h := h.2 cd
    refine lv_aload_n hx hb dX2_flushThrough_18 rfl (lv_at hl 1 rfl) ?_
    refine lv_iload_n hx hb dX2_flushThrough_19 rfl (lv_at hl 0 rfl) ?_
    refine va_put (D := (dC, dI)) (ci := 2) (v := .int x2_2) (ty := .int) (C := RX2) (T := TX2) (N := 4) hx hb hts inX2_flushThrough_2 tyX2 tyX2_ok nmX2 hown hK hP hD hS 0 rfl rfl 2 (by decide) (hts _ kX2_flushThrough_0) (fun _ h9 => h9) rfl (tyX2_ok 2 (by decide)) rfl rfl (Nat.le_of_ble_eq_true rfl) dX2_flushThrough_20 (fun H locs hP hD hS => ?_)
    obtain ⟨u0_3, e_u0_3⟩ : ∃ z, z = s2_flushedPlace u0 x2_2 := ⟨_, rfl⟩
    have h := h u0_3 e_u0_3
    have hP : va_P (dC, dI) vwCl (cs2 cI q0 u0_3) H := by rw [e_u0_3]; exact hP
    have hD : va_D A (cs2 cI q0 u0_3) := by rw [e_u0_3]; exact hD
    exact hret _ _ _ _ u0_3 dX2_flushThrough_23 h hP hD hS

abbrev rX2_flushAll : Room := { frames := 0, cells := 0, slots := 0, locals := 0 }
theorem hdX2_flushAll : yX2_flushAll.cls = RX2 ∧ yX2_flushAll.cls ≠ "java/lang/invoke/MethodHandle" ∧ yX2_flushAll.cls ≠ "java/lang/invoke/VarHandle" ∧ (parseMethodDescriptor yX2_flushAll.desc).map (fun d => d.parameters.length) = some 0 := by decide +kernel
theorem inX2_flushAll_2 : ∀ w ∈ wsX20, w ∈ wsX2_flushAll := by decide +kernel
theorem kX2_flushAll_0 : Cond.fieldLink RX2 19 "AheadStore$Journal" "flushedPlace" "I" ∈ wsX2_flushAll := by decide +kernel
theorem kX2_flushAll_1 : Cond.fieldLink RX2 15 "AheadStore$Journal" "endPlace" "I" ∈ wsX2_flushAll := by decide +kernel
set_option maxHeartbeats 4000000 in
set_option maxRecDepth 100000 in
theorem c_X2_flushAll {l : Launch} {dC : Nat → ClassId} {dI : Nat → Nat → Nat} {cI : ClassId} {q0 : Nat → Nat} {sz : Nat} {u0 : S2}  {Q : S2 → Prop} (h : wp_X2_flushAll u0 Q) : ctV sxE l yX2_flushAll wsX2_flushAll rX2_flushAll (dC, dI) vwCl [(cI, .int)] [.ref (q0 0)] (cs2 cI q0 u0) sz (fun (v : S2) => Q v) (fun (v : S2) => cs2 cI q0 v) := by
  refine mx_v (cc := cX2_flushAll) (maxL := 1) (by decide) rfl (Nat.le_of_ble_eq_true rfl) ?_
  intro p e s m below meth c Z A ls args hx hb hml hown hts hA hP hK hD hE hl hret
  have hown : s.vm.findClass RX2 = some m.cls := hown
  have hl : lv_has ls 1 [(0, .ref (q0 0))] := hl
  have hS : va_S A s.heap s.heap [] := va_S.rf
  refine lv_aload_n hx hb dX2_flushAll_0 rfl (lv_at hl 0 rfl) ?_
  refine lv_aload_n hx hb dX2_flushAll_1 rfl (lv_at hl 0 rfl) ?_
  refine va_get (D := (dC, dI)) (ci := 2) (v := .int (g2_endPlace u0)) (C := RX2) (T := TX2) (N := 4) hx hb hts inX2_flushAll_2 hown hK hP 0 rfl rfl 1 (by decide) (hts _ kX2_flushAll_1) (fun _ h9 => h9) rfl dX2_flushAll_2 ?_
  refine va_put (D := (dC, dI)) (ci := 2) (v := .int (g2_endPlace u0)) (ty := .int) (C := RX2) (T := TX2) (N := 4) hx hb hts inX2_flushAll_2 tyX2 tyX2_ok nmX2 hown hK hP hD hS 0 rfl rfl 2 (by decide) (hts _ kX2_flushAll_0) (fun _ h9 => h9) rfl (tyX2_ok 2 (by decide)) rfl rfl (Nat.le_of_ble_eq_true rfl) dX2_flushAll_5 (fun H locs hP hD hS => ?_)
  obtain ⟨u0_1, e_u0_1⟩ : ∃ z, z = s2_flushedPlace u0 (g2_endPlace u0) := ⟨_, rfl⟩
  have h := h u0_1 e_u0_1
  have hP : va_P (dC, dI) vwCl (cs2 cI q0 u0_1) H := by rw [e_u0_1]; exact hP
  have hD : va_D A (cs2 cI q0 u0_1) := by rw [e_u0_1]; exact hD
  exact hret _ _ _ _ u0_1 dX2_flushAll_8 h hP hD hS

abbrev rX2_endAt : Room := { frames := 0, cells := 0, slots := 0, locals := 0 }
theorem hdX2_endAt : yX2_endAt.cls = RX2 ∧ yX2_endAt.cls ≠ "java/lang/invoke/MethodHandle" ∧ yX2_endAt.cls ≠ "java/lang/invoke/VarHandle" ∧ (parseMethodDescriptor yX2_endAt.desc).map (fun d => d.parameters.length) = some 1 := by decide +kernel
theorem inX2_endAt_2 : ∀ w ∈ wsX20, w ∈ wsX2_endAt := by decide +kernel
theorem kX2_endAt_0 : Cond.fieldLink RX2 19 "AheadStore$Journal" "flushedPlace" "I" ∈ wsX2_endAt := by decide +kernel
theorem kX2_endAt_1 : Cond.fieldLink RX2 15 "AheadStore$Journal" "endPlace" "I" ∈ wsX2_endAt := by decide +kernel
set_option maxHeartbeats 4000000 in
set_option maxRecDepth 100000 in
theorem c_X2_endAt {l : Launch} {dC : Nat → ClassId} {dI : Nat → Nat → Nat} {cI : ClassId} {q0 : Nat → Nat} {sz : Nat} {u0 : S2} {x1 : Int32} {Q : S2 → Prop} (h : wp_X2_endAt u0 x1 Q) : ctV sxE l yX2_endAt wsX2_endAt rX2_endAt (dC, dI) vwCl [(cI, .int)] [.ref (q0 0), .int x1] (cs2 cI q0 u0) sz (fun (v : S2) => Q v) (fun (v : S2) => cs2 cI q0 v) := by
  refine mx_v (cc := cX2_endAt) (maxL := 2) (by decide) rfl (Nat.le_of_ble_eq_true rfl) ?_
  intro p e s m below meth c Z A ls args hx hb hml hown hts hA hP hK hD hE hl hret
  have hown : s.vm.findClass RX2 = some m.cls := hown
  have hl : lv_has ls 2 [(0, .ref (q0 0)), (1, .int x1)] := hl
  have hS : va_S A s.heap s.heap [] := va_S.rf
  refine lv_aload_n hx hb dX2_endAt_0 rfl (lv_at hl 0 rfl) ?_
  refine lv_iload_n hx hb dX2_endAt_1 rfl (lv_at hl 1 rfl) ?_
  refine va_put (D := (dC, dI)) (ci := 2) (v := .int x1) (ty := .int) (C := RX2) (T := TX2) (N := 4) hx hb hts inX2_endAt_2 tyX2 tyX2_ok nmX2 hown hK hP hD hS 0 rfl rfl 1 (by decide) (hts _ kX2_endAt_1) (fun _ h9 => h9) rfl (tyX2_ok 1 (by decide)) rfl rfl (Nat.le_of_ble_eq_true rfl) dX2_endAt_2 (fun H locs hP hD hS => ?_)
  obtain ⟨u0_1, e_u0_1⟩ : ∃ z, z = s2_endPlace u0 x1 := ⟨_, rfl⟩
  have h := h u0_1 e_u0_1
  have hP : va_P (dC, dI) vwCl (cs2 cI q0 u0_1) H := by rw [e_u0_1]; exact hP
  have hD : va_D A (cs2 cI q0 u0_1) := by rw [e_u0_1]; exact hD
  refine lv_aload_n hx hb dX2_endAt_5 rfl (lv_at hl 0 rfl) ?_
  refine lv_iload_n hx hb dX2_endAt_6 rfl (lv_at hl 1 rfl) ?_
  refine va_put (D := (dC, dI)) (ci := 2) (v := .int x1) (ty := .int) (C := RX2) (T := TX2) (N := 4) hx hb hts inX2_endAt_2 tyX2 tyX2_ok nmX2 hown hK hP hD hS 0 rfl rfl 2 (by decide) (hts _ kX2_endAt_0) (fun _ h9 => h9) rfl (tyX2_ok 2 (by decide)) rfl rfl (Nat.le_of_ble_eq_true rfl) dX2_endAt_7 (fun H locs hP hD hS => ?_)
  obtain ⟨u0_2, e_u0_2⟩ : ∃ z, z = s2_flushedPlace u0_1 x1 := ⟨_, rfl⟩
  have h := h u0_2 e_u0_2
  have hP : va_P (dC, dI) vwCl (cs2 cI q0 u0_2) H := by rw [e_u0_2]; exact hP
  have hD : va_D A (cs2 cI q0 u0_2) := by rw [e_u0_2]; exact hD
  exact hret _ _ _ _ u0_2 dX2_endAt_10 h hP hD hS

abbrev rX2_copyFrom : Room := { frames := 1, cells := 0, slots := 0, locals := 40 }
theorem hdX2_copyFrom : yX2_copyFrom.cls = RX2 ∧ yX2_copyFrom.cls ≠ "java/lang/invoke/MethodHandle" ∧ yX2_copyFrom.cls ≠ "java/lang/invoke/VarHandle" ∧ (parseMethodDescriptor yX2_copyFrom.desc).map (fun d => d.parameters.length) = some 1 := by decide +kernel
theorem inX2_copyFrom_2 : ∀ w ∈ wsX20, w ∈ wsX2_copyFrom := by decide +kernel
theorem kX2_copyFrom_0 : Cond.methodLink RX2 65 arraycopyName ∈ wsX2_copyFrom := by decide +kernel
theorem kX2_copyFrom_1 : Cond.native arraycopyName ∈ wsX2_copyFrom := by decide +kernel
theorem kX2_copyFrom_2 : Cond.static arraycopyName ∈ wsX2_copyFrom := by decide +kernel
theorem kX2_copyFrom_3 : Cond.initialized "java/lang/System" ∈ wsX2_copyFrom := by decide +kernel
theorem kX2_copyFrom_4 : Cond.methodLink RX2 62 Lib.Math.min.name ∈ wsX2_copyFrom := by decide +kernel
theorem kX2_copyFrom_5 : Cond.static Lib.Math.min.name ∈ wsX2_copyFrom := by decide +kernel
theorem kX2_copyFrom_6 : Cond.initialized "java/lang/Math" ∈ wsX2_copyFrom := by decide +kernel
theorem kX2_copyFrom_7 : Cond.code Lib.Math.min.name Lib.Math.min.code 2 (some .int) ∈ wsX2_copyFrom := by decide +kernel
theorem kX2_copyFrom_8 : Cond.fieldLink RX2 15 "AheadStore$Journal" "endPlace" "I" ∈ wsX2_copyFrom := by decide +kernel
theorem kX2_copyFrom_9 : Cond.fieldLink RX2 9 "AheadStore$Journal" "row" "[I" ∈ wsX2_copyFrom := by decide +kernel
theorem kX2_copyFrom_10 : Cond.fieldLink RX2 19 "AheadStore$Journal" "flushedPlace" "I" ∈ wsX2_copyFrom := by decide +kernel
set_option maxHeartbeats 4000000 in
set_option maxRecDepth 100000 in
theorem c_X2_copyFrom {l : Launch} {dC : Nat → ClassId} {dI : Nat → Nat → Nat} {cI : ClassId} {q0 : Nat → Nat} {q1 : Nat → Nat} {sz : Nat} {u0 : S2} {u1 : S2}  {Q : S2 → Prop} (h : wp_X2_copyFrom u0 u1 Q) : ctV sxE l yX2_copyFrom wsX2_copyFrom rX2_copyFrom (dC, dI) vwCl [(cI, .int)] [.ref (q0 0), .ref (q1 0)] (cs2 cI q0 u0 ++ cs2 cI q1 u1) sz (fun (v : S2) => Q v) (fun (v : S2) => (cs2 cI q0 v ++ cs2 cI q1 u1)) := by
  refine mx_v (cc := cX2_copyFrom) (maxL := 2) (by decide) rfl (Nat.le_of_ble_eq_true rfl) ?_
  intro p e s m below meth c Z A ls args hx hb hml hown hts hA hP hK hD hE hl hret
  have hown : s.vm.findClass RX2 = some m.cls := hown
  have hl : lv_has ls 2 [(0, .ref (q0 0)), (1, .ref (q1 0))] := hl
  have hS : va_S A s.heap s.heap [] := va_S.rf
  refine lv_aload_n hx hb dX2_copyFrom_0 rfl (lv_at hl 0 rfl) ?_
  refine lv_aload_n hx hb dX2_copyFrom_1 rfl (lv_at hl 1 rfl) ?_
  refine va_get (D := (dC, dI)) (ci := 2) (v := .int (g2_endPlace u1)) (C := RX2) (T := TX2) (N := 4) hx hb hts inX2_copyFrom_2 hown hK hP 2 rfl rfl 1 (by decide) (hts _ kX2_copyFrom_8) (fun _ h9 => h9) rfl dX2_copyFrom_2 ?_
  refine va_put (D := (dC, dI)) (ci := 2) (v := .int (g2_endPlace u1)) (ty := .int) (C := RX2) (T := TX2) (N := 4) hx hb hts inX2_copyFrom_2 tyX2 tyX2_ok nmX2 hown hK hP hD hS 0 rfl rfl 1 (by decide) (hts _ kX2_copyFrom_8) (fun _ h9 => h9) rfl (tyX2_ok 1 (by decide)) rfl rfl (Nat.le_of_ble_eq_true rfl) dX2_copyFrom_5 (fun H locs hP hD hS => ?_)
  obtain ⟨u0_1, e_u0_1⟩ : ∃ z, z = s2_endPlace u0 (g2_endPlace u1) := ⟨_, rfl⟩
  have h := h u0_1 e_u0_1
  have hP : va_P (dC, dI) vwCl (cs2 cI q0 u0_1 ++ cs2 cI q1 u1) H := by rw [e_u0_1]; exact hP
  have hD : va_D A (cs2 cI q0 u0_1 ++ cs2 cI q1 u1) := by rw [e_u0_1]; exact hD
  refine lv_aload_n hx hb dX2_copyFrom_8 rfl (lv_at hl 0 rfl) ?_
  refine lv_aload_n hx hb dX2_copyFrom_9 rfl (lv_at hl 1 rfl) ?_
  refine va_get (D := (dC, dI)) (ci := 2) (v := .int (g2_flushedPlace u1)) (C := RX2) (T := TX2) (N := 4) hx hb hts inX2_copyFrom_2 hown hK hP 2 rfl rfl 2 (by decide) (hts _ kX2_copyFrom_10) (fun _ h9 => h9) rfl dX2_copyFrom_10 ?_
  refine va_put (D := (dC, dI)) (ci := 2) (v := .int (g2_flushedPlace u1)) (ty := .int) (C := RX2) (T := TX2) (N := 4) hx hb hts inX2_copyFrom_2 tyX2 tyX2_ok nmX2 hown hK hP hD hS 0 rfl rfl 2 (by decide) (hts _ kX2_copyFrom_10) (fun _ h9 => h9) rfl (tyX2_ok 2 (by decide)) rfl rfl (Nat.le_of_ble_eq_true rfl) dX2_copyFrom_13 (fun H locs hP hD hS => ?_)
  obtain ⟨u0_2, e_u0_2⟩ : ∃ z, z = s2_flushedPlace u0_1 (g2_flushedPlace u1) := ⟨_, rfl⟩
  have h := h u0_2 e_u0_2
  have hP : va_P (dC, dI) vwCl (cs2 cI q0 u0_2 ++ cs2 cI q1 u1) H := by rw [e_u0_2]; exact hP
  have hD : va_D A (cs2 cI q0 u0_2 ++ cs2 cI q1 u1) := by rw [e_u0_2]; exact hD
  refine lv_aload_n hx hb dX2_copyFrom_16 rfl (lv_at hl 1 rfl) ?_
  refine va_get (D := (dC, dI)) (ci := 2) (v := .ref (q1 1)) (C := RX2) (T := TX2) (N := 4) hx hb hts inX2_copyFrom_2 hown hK hP 2 rfl rfl 0 (by decide) (hts _ kX2_copyFrom_9) (fun _ h9 => h9) rfl dX2_copyFrom_17 ?_
  refine lv_iconst (v := 0) hx hb dX2_copyFrom_20 (by decide) ?_
  refine lv_aload_n hx hb dX2_copyFrom_21 rfl (lv_at hl 0 rfl) ?_
  refine va_get (D := (dC, dI)) (ci := 2) (v := .ref (q0 1)) (C := RX2) (T := TX2) (N := 4) hx hb hts inX2_copyFrom_2 hown hK hP 0 rfl rfl 0 (by decide) (hts _ kX2_copyFrom_9) (fun _ h9 => h9) rfl dX2_copyFrom_22 ?_
  refine lv_iconst (v := 0) hx hb dX2_copyFrom_25 (by decide) ?_
  refine lv_aload_n hx hb dX2_copyFrom_26 rfl (lv_at hl 0 rfl) ?_
  refine va_get (D := (dC, dI)) (ci := 2) (v := .ref (q0 1)) (C := RX2) (T := TX2) (N := 4) hx hb hts inX2_copyFrom_2 hown hK hP 0 rfl rfl 0 (by decide) (hts _ kX2_copyFrom_9) (fun _ h9 => h9) rfl dX2_copyFrom_27 ?_
  refine va_alen (v := 8600) hx hb hK hP 1 0 rfl rfl rfl dX2_copyFrom_30 ?_
  refine lv_aload_n hx hb dX2_copyFrom_31 rfl (lv_at hl 0 rfl) ?_
  refine va_get (D := (dC, dI)) (ci := 2) (v := .int (g2_endPlace u0_2)) (C := RX2) (T := TX2) (N := 4) hx hb hts inX2_copyFrom_2 hown hK hP 0 rfl rfl 1 (by decide) (hts _ kX2_copyFrom_8) (fun _ h9 => h9) rfl dX2_copyFrom_32 ?_
  refine va_mmin hx hb (hml.trans hl.1.symm) hown (hts _ kX2_copyFrom_4) (hts _ kX2_copyFrom_5) (hts _ kX2_copyFrom_6) (hts _ kX2_copyFrom_7) (Nat.le_of_ble_eq_true rfl) (Nat.le_of_ble_eq_true rfl) (Nat.zero_le _) (Nat.zero_le _) dX2_copyFrom_35 ?_
  refine va_copyi hx hb (hml.trans hl.1.symm) hown (hts _ kX2_copyFrom_0) (hts _ kX2_copyFrom_1) (hts _ kX2_copyFrom_2) (hts _ kX2_copyFrom_3) hK hP hD hS 3 1 0 0 (ty := .int) rfl rfl rfl rfl rfl h.1.1 h.1.2.1 h.1.2.2.1 h.1.2.2.2.1 h.1.2.2.2.2 (fun _ _ => rfl) (Nat.le_of_ble_eq_true rfl) (Nat.le_of_ble_eq_true rfl) dX2_copyFrom_38 (fun H locs hP hD hS => ?_)
  have h := h.2
  obtain ⟨u0_3, e_u0_3⟩ : ∃ z, z = s2_row u0_2 (va_cpy (g2_row u1) (g2_row u0_2) (0 : Int32).toNatClampNeg (0 : Int32).toNatClampNeg (if (g2_endPlace u0_2) < 8600 then (g2_endPlace u0_2) else 8600).toNatClampNeg) := ⟨_, rfl⟩
  have h := h u0_3 e_u0_3
  have hP : va_P (dC, dI) vwCl (cs2 cI q0 u0_3 ++ cs2 cI q1 u1) H := by rw [e_u0_3]; exact hP
  have hD : va_D A (cs2 cI q0 u0_3 ++ cs2 cI q1 u1) := by rw [e_u0_3]; exact hD
  exact hret _ _ _ _ u0_3 dX2_copyFrom_41 h hP hD hS
