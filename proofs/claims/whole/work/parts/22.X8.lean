abbrev rX8_append : Room := { frames := 0, cells := 0, slots := 0, locals := 0 }
theorem hdX8_append : yX8_append.cls = RX8 ∧ yX8_append.cls ≠ "java/lang/invoke/MethodHandle" ∧ yX8_append.cls ≠ "java/lang/invoke/VarHandle" ∧ (parseMethodDescriptor yX8_append.desc).map (fun d => d.parameters.length) = some 1 := by decide +kernel
theorem inX8_append_8 : ∀ w ∈ wsX80, w ∈ wsX8_append := by decide +kernel
theorem kX8_append_0 : Cond.fieldLink RX8 15 "AheadStore$Tape" "size" "I" ∈ wsX8_append := by decide +kernel
theorem kX8_append_1 : Cond.fieldLink RX8 9 "AheadStore$Tape" "bytes" "[I" ∈ wsX8_append := by decide +kernel
set_option maxHeartbeats 4000000 in
set_option maxRecDepth 100000 in
theorem c_X8_append {l : Launch} {dC : Nat → ClassId} {dI : Nat → Nat → Nat} {cI : ClassId} {q0 : Nat → Nat} {sz : Nat} {u0 : S8} {x1 : Int32} {Q : S8 → Prop} (h : wp_X8_append u0 x1 Q) : ctV sxE l yX8_append wsX8_append rX8_append (dC, dI) vwCl [(cI, .int)] [.ref (q0 0), .int x1] (cs8 cI q0 u0) sz (fun (v : S8) => Q v) (fun (v : S8) => cs8 cI q0 v) := by
  refine mx_v (cc := cX8_append) (maxL := 3) (by decide) rfl (Nat.le_of_ble_eq_true rfl) ?_
  intro p e s m below meth c Z A ls args hx hb hml hown hts hA hP hK hD hE hl hret
  have hown : s.vm.findClass RX8 = some m.cls := hown
  have hl : lv_has ls 3 [(0, .ref (q0 0)), (1, .int x1)] := hl
  have w_50 : ∀ (k_3 : Int32 → Int32 → S8 → Prop) (hk_3 : ∀ (x1 : Int32) (x2 : Int32) (u0 : S8) (H : Heap) (locs : List Loc) (ls : Array Slot) (_ : va_P (dC, dI) vwCl (cs8 cI q0 u0) H) (_ : va_D A (cs8 cI q0 u0)) (_ : va_S A s.heap H locs) (_ : lv_has ls 3 [(0, .ref (q0 0)), (1, .int x1), (2, .int x2)]) (_ : k_3 x1 x2 u0), W p l e rX8_append s m args below meth c H locs 0 0 Z (F0 m 3 ls [])) (x1 : Int32) (x2 : Int32) (u0 : S8) (H : Heap) (locs : List Loc) (ls : Array Slot) (_ : va_P (dC, dI) vwCl (cs8 cI q0 u0) H) (_ : va_D A (cs8 cI q0 u0)) (_ : va_S A s.heap H locs) (_ : lv_has ls 3 [(0, .ref (q0 0)), (1, .int x1), (2, .int x2)]) (_ : wp_X8_append_50 k_3 Q x1 x2 u0), W p l e rX8_append s m args below meth c H locs 0 0 Z (F0 m 50 ls []) := by
    intro k_3 hk_3 x1 x2 u0 H locs ls hP hD hS hl h
    obtain ⟨x2_1, e_x2_1⟩ : ∃ z : Int32, z = x2 + (-8) := ⟨_, rfl⟩
    have h := h x2_1 e_x2_1
    refine lv_iinc (v := x2_1) (lv' := [(2, .int x2_1), (0, .ref (q0 0)), (1, .int x1)]) hx hb dX8_append_50 hl (k := 2) rfl (by rw [e_x2_1]; rfl) (by decide) rfl (fun ls hl => ?_)
    refine lv_goto (tgt := 3) hx hb dX8_append_53 (by decide) ?_
    exact hk_3 x1 x2_1 u0 _ _ _ hP hD hS (lv_sub hl [1, 2, 0] rfl) h
  have w_3 : ∀ (n : Nat) (x1 : Int32) (x2 : Int32) (u0 : S8) (H : Heap) (locs : List Loc) (ls : Array Slot) (_ : va_P (dC, dI) vwCl (cs8 cI q0 u0) H) (_ : va_D A (cs8 cI q0 u0)) (_ : va_S A s.heap H locs) (_ : lv_has ls 3 [(0, .ref (q0 0)), (1, .int x1), (2, .int x2)]) (_ : wp_X8_append_3 Q n x1 x2 u0), W p l e rX8_append s m args below meth c H locs 0 0 Z (F0 m 3 ls []) := by
    intro n
    induction n with
    | zero => intro x1 x2 u0 H locs ls hP hD hS hl h; exact False.elim h
    | succ n ih =>
      intro x1 x2 u0 H locs ls hP hD hS hl h
      refine lv_iload_n hx hb dX8_append_3 rfl (lv_at hl 2 rfl) ?_
      refine lv_if_lt (tgt := 56) hx hb dX8_append_4 (by decide) (fun cd => ?_) (fun cd => ?_)
      · have h := h.1 cd
        exact hret _ _ _ _ u0 dX8_append_56 h hP hD hS
      · have h := h.2 cd
        refine lv_aload_n hx hb dX8_append_7 rfl (lv_at hl 0 rfl) ?_
        refine va_get (D := (dC, dI)) (ci := 8) (v := .int (g8_size u0)) (C := RX8) (T := TX8) (N := 9) hx hb hts inX8_append_8 hown hK hP 0 rfl rfl 1 (by decide) (hts _ kX8_append_0) (fun _ h9 => h9) rfl dX8_append_8 ?_
        refine lv_if_lt (tgt := 50) hx hb dX8_append_11 (by decide) (fun cd => ?_) (fun cd => ?_)
        · have h := h.1 cd
          exact w_50 (fun x1 x2 u0 => wp_X8_append_3 Q n x1 x2 u0) (fun x1 x2 u0 H locs ls hP hD hS hl h => ih x1 x2 u0 H locs ls hP hD hS hl h) x1 x2 u0 _ _ _ hP hD hS (lv_sub hl [0, 1, 2] rfl) h
        · have h := h.2 cd
          refine lv_aload_n hx hb dX8_append_14 rfl (lv_at hl 0 rfl) ?_
          refine va_get (D := (dC, dI)) (ci := 8) (v := .int (g8_size u0)) (C := RX8) (T := TX8) (N := 9) hx hb hts inX8_append_8 hown hK hP 0 rfl rfl 1 (by decide) (hts _ kX8_append_0) (fun _ h9 => h9) rfl dX8_append_15 ?_
          refine lv_sipush (v := 400) hx hb dX8_append_18 (by decide) ?_
          refine lv_icmp_ge (tgt := 50) hx hb dX8_append_21 (by decide) (fun cd => ?_) (fun cd => ?_)
          · have h := h.1 cd
            exact w_50 (fun x1 x2 u0 => wp_X8_append_3 Q n x1 x2 u0) (fun x1 x2 u0 H locs ls hP hD hS hl h => ih x1 x2 u0 H locs ls hP hD hS hl h) x1 x2 u0 _ _ _ hP hD hS (lv_sub hl [0, 1, 2] rfl) h
          · have h := h.2 cd
            refine lv_aload_n hx hb dX8_append_24 rfl (lv_at hl 0 rfl) ?_
            refine va_get (D := (dC, dI)) (ci := 8) (v := .ref (q0 1)) (C := RX8) (T := TX8) (N := 9) hx hb hts inX8_append_8 hown hK hP 0 rfl rfl 0 (by decide) (hts _ kX8_append_1) (fun _ h9 => h9) rfl dX8_append_25 ?_
            refine lv_aload_n hx hb dX8_append_28 rfl (lv_at hl 0 rfl) ?_
            refine va_get (D := (dC, dI)) (ci := 8) (v := .int (g8_size u0)) (C := RX8) (T := TX8) (N := 9) hx hb hts inX8_append_8 hown hK hP 0 rfl rfl 1 (by decide) (hts _ kX8_append_0) (fun _ h9 => h9) rfl dX8_append_29 ?_
            refine lv_iload_n hx hb dX8_append_32 rfl (lv_at hl 1 rfl) ?_
            refine lv_iload_n hx hb dX8_append_33 rfl (lv_at hl 2 rfl) ?_
            refine lv_ishr hx hb dX8_append_34 ?_
            refine lv_sipush (v := 255) hx hb dX8_append_35 (by decide) ?_
            refine lv_iand hx hb dX8_append_38 ?_
            refine va_iast hx hb hK hP hD hS 1 0 rfl rfl h.1 dX8_append_39 (fun H locs hP hD hS => ?_)
            have h := h.2
            obtain ⟨u0_2, e_u0_2⟩ : ∃ z, z = s8_bytes u0 (upd (g8_bytes u0) (g8_size u0).toNatClampNeg ((x1 >>> (x2 &&& 31)) &&& 255)) := ⟨_, rfl⟩
            have h := h u0_2 e_u0_2
            have hP : va_P (dC, dI) vwCl (cs8 cI q0 u0_2) H := by rw [e_u0_2]; exact hP
            have hD : va_D A (cs8 cI q0 u0_2) := by rw [e_u0_2]; exact hD
            refine lv_aload_n hx hb dX8_append_40 rfl (lv_at hl 0 rfl) ?_
            refine lv_dup hx hb dX8_append_41 rfl ?_
            refine va_get (D := (dC, dI)) (ci := 8) (v := .int (g8_size u0_2)) (C := RX8) (T := TX8) (N := 9) hx hb hts inX8_append_8 hown hK hP 0 rfl rfl 1 (by decide) (hts _ kX8_append_0) (fun _ h9 => h9) rfl dX8_append_42 ?_
            refine lv_iconst (v := 1) hx hb dX8_append_45 (by decide) ?_
            refine lv_iadd hx hb dX8_append_46 ?_
            refine va_put (D := (dC, dI)) (ci := 8) (v := .int ((g8_size u0_2) + 1)) (ty := .int) (C := RX8) (T := TX8) (N := 9) hx hb hts inX8_append_8 tyX8 tyX8_ok nmX8 hown hK hP hD hS 0 rfl rfl 1 (by decide) (hts _ kX8_append_0) (fun _ h9 => h9) rfl (tyX8_ok 1 (by decide)) rfl rfl (Nat.le_of_ble_eq_true rfl) dX8_append_47 (fun H locs hP hD hS => ?_)
            obtain ⟨u0_3, e_u0_3⟩ : ∃ z, z = s8_size u0_2 ((g8_size u0_2) + 1) := ⟨_, rfl⟩
            have h := h u0_3 e_u0_3
            have hP : va_P (dC, dI) vwCl (cs8 cI q0 u0_3) H := by rw [e_u0_3]; exact hP
            have hD : va_D A (cs8 cI q0 u0_3) := by rw [e_u0_3]; exact hD
            exact w_50 (fun x1 x2 u0 => wp_X8_append_3 Q n x1 x2 u0) (fun x1 x2 u0 H locs ls hP hD hS hl h => ih x1 x2 u0 H locs ls hP hD hS hl h) x1 x2 u0_3 _ _ _ hP hD hS (lv_sub hl [0, 1, 2] rfl) h
  have hS : va_S A s.heap s.heap [] := va_S.rf
  refine lv_bipush (v := 24) hx hb dX8_append_0 (by decide) ?_
  refine lv_istore_n (lv' := [(2, .int 24), (0, .ref (q0 0)), (1, .int x1)]) hx hb dX8_append_2 rfl hl (by decide) rfl (fun ls hl => ?_)
  obtain ⟨n0, h⟩ := h
  exact w_3 n0 x1 24 u0 _ _ _ hP hD hS (lv_sub hl [1, 2, 0] rfl) h

abbrev rX8_byteHere : Room := { frames := 0, cells := 0, slots := 0, locals := 0 }
theorem hdX8_byteHere : yX8_byteHere.cls = RX8 ∧ yX8_byteHere.cls ≠ "java/lang/invoke/MethodHandle" ∧ yX8_byteHere.cls ≠ "java/lang/invoke/VarHandle" ∧ (parseMethodDescriptor yX8_byteHere.desc).map (fun d => d.parameters.length) = some 0 := by decide +kernel
theorem inX8_byteHere_8 : ∀ w ∈ wsX80, w ∈ wsX8_byteHere := by decide +kernel
theorem kX8_byteHere_0 : Cond.fieldLink RX8 32 "AheadStore$Tape" "place" "I" ∈ wsX8_byteHere := by decide +kernel
theorem kX8_byteHere_1 : Cond.fieldLink RX8 9 "AheadStore$Tape" "bytes" "[I" ∈ wsX8_byteHere := by decide +kernel
theorem kX8_byteHere_2 : Cond.fieldLink RX8 15 "AheadStore$Tape" "size" "I" ∈ wsX8_byteHere := by decide +kernel
set_option maxHeartbeats 4000000 in
set_option maxRecDepth 100000 in
theorem c_X8_byteHere {l : Launch} {dC : Nat → ClassId} {dI : Nat → Nat → Nat} {cI : ClassId} {q0 : Nat → Nat} {sz : Nat} {u0 : S8}  {Q : Int32 → Prop} (h : wp_X8_byteHere u0 Q) : ctI sxE l yX8_byteHere wsX8_byteHere rX8_byteHere (dC, dI) vwCl [(cI, .int)] [.ref (q0 0)] (cs8 cI q0 u0) sz (fun (r : Int32) (_ : Unit) => Q r) (fun (_ : Unit) => cs8 cI q0 u0) := by
  refine mx_i (cc := cX8_byteHere) (maxL := 1) (ty := .int) (by decide) rfl (Nat.le_of_ble_eq_true rfl) ?_
  intro p e s m below meth c Z A ls args hx hb hml hown hts hA hP hK hD hE hl hret
  have hown : s.vm.findClass RX8 = some m.cls := hown
  have hl : lv_has ls 1 [(0, .ref (q0 0))] := hl
  have hS : va_S A s.heap s.heap [] := va_S.rf
  refine lv_aload_n hx hb dX8_byteHere_0 rfl (lv_at hl 0 rfl) ?_
  refine va_get (D := (dC, dI)) (ci := 8) (v := .int (g8_place u0)) (C := RX8) (T := TX8) (N := 9) hx hb hts inX8_byteHere_8 hown hK hP 0 rfl rfl 5 (by decide) (hts _ kX8_byteHere_0) (fun _ h9 => h9) rfl dX8_byteHere_1 ?_
  refine lv_if_lt (tgt := 40) hx hb dX8_byteHere_4 (by decide) (fun cd => ?_) (fun cd => ?_)
  · have h := h.1 cd
    refine lv_iconst (v := (-1)) hx hb dX8_byteHere_40 (by decide) ?_
    exact hret _ _ _ _ _ () dX8_byteHere_41 (vp_nar_int _) h hP hD hS
  · have h := h.2 cd
    refine lv_aload_n hx hb dX8_byteHere_7 rfl (lv_at hl 0 rfl) ?_
    refine va_get (D := (dC, dI)) (ci := 8) (v := .int (g8_place u0)) (C := RX8) (T := TX8) (N := 9) hx hb hts inX8_byteHere_8 hown hK hP 0 rfl rfl 5 (by decide) (hts _ kX8_byteHere_0) (fun _ h9 => h9) rfl dX8_byteHere_8 ?_
    refine lv_aload_n hx hb dX8_byteHere_11 rfl (lv_at hl 0 rfl) ?_
    refine va_get (D := (dC, dI)) (ci := 8) (v := .int (g8_size u0)) (C := RX8) (T := TX8) (N := 9) hx hb hts inX8_byteHere_8 hown hK hP 0 rfl rfl 1 (by decide) (hts _ kX8_byteHere_2) (fun _ h9 => h9) rfl dX8_byteHere_12 ?_
    refine lv_icmp_ge (tgt := 40) hx hb dX8_byteHere_15 (by decide) (fun cd => ?_) (fun cd => ?_)
    · have h := h.1 cd
      refine lv_iconst (v := (-1)) hx hb dX8_byteHere_40 (by decide) ?_
      exact hret _ _ _ _ _ () dX8_byteHere_41 (vp_nar_int _) h hP hD hS
    · have h := h.2 cd
      refine lv_aload_n hx hb dX8_byteHere_18 rfl (lv_at hl 0 rfl) ?_
      refine va_get (D := (dC, dI)) (ci := 8) (v := .int (g8_place u0)) (C := RX8) (T := TX8) (N := 9) hx hb hts inX8_byteHere_8 hown hK hP 0 rfl rfl 5 (by decide) (hts _ kX8_byteHere_0) (fun _ h9 => h9) rfl dX8_byteHere_19 ?_
      refine lv_sipush (v := 400) hx hb dX8_byteHere_22 (by decide) ?_
      refine lv_icmp_ge (tgt := 40) hx hb dX8_byteHere_25 (by decide) (fun cd => ?_) (fun cd => ?_)
      · have h := h.1 cd
        refine lv_iconst (v := (-1)) hx hb dX8_byteHere_40 (by decide) ?_
        exact hret _ _ _ _ _ () dX8_byteHere_41 (vp_nar_int _) h hP hD hS
      · have h := h.2 cd
        refine lv_aload_n hx hb dX8_byteHere_28 rfl (lv_at hl 0 rfl) ?_
        refine va_get (D := (dC, dI)) (ci := 8) (v := .ref (q0 1)) (C := RX8) (T := TX8) (N := 9) hx hb hts inX8_byteHere_8 hown hK hP 0 rfl rfl 0 (by decide) (hts _ kX8_byteHere_1) (fun _ h9 => h9) rfl dX8_byteHere_29 ?_
        refine lv_aload_n hx hb dX8_byteHere_32 rfl (lv_at hl 0 rfl) ?_
        refine va_get (D := (dC, dI)) (ci := 8) (v := .int (g8_place u0)) (C := RX8) (T := TX8) (N := 9) hx hb hts inX8_byteHere_8 hown hK hP 0 rfl rfl 5 (by decide) (hts _ kX8_byteHere_0) (fun _ h9 => h9) rfl dX8_byteHere_33 ?_
        refine va_iald hx hb hK hP 1 0 rfl rfl h.1 dX8_byteHere_36 ?_
        have h := h.2
        refine lv_goto (tgt := 41) hx hb dX8_byteHere_37 (by decide) ?_
        exact hret _ _ _ _ _ () dX8_byteHere_41 (vp_nar_int _) h hP hD hS

set_option maxRecDepth 100000 in
theorem cut_71 (cI : ClassId) (q0 : Nat → Nat) (u0 : S8) : Cut (cs8 cI q0 u0) (cs8 cI q0 u0) (fun _ : Unit => cs8 cI q0 u0) (fun _ : Unit => cs8 cI q0 u0) := ⟨[0, 1, 2, 3], [], rfl, rfl, rfl, by decide, by decide, fun _ => ⟨[0, 1, 2, 3], rfl, rfl⟩⟩

set_option maxRecDepth 100000 in
theorem cut_72 (cI : ClassId) (q0 : Nat → Nat) (u0 : S8) : Cut (cs8 cI q0 u0) (([] : va_W)) (fun _ : Unit => ([] : va_W)) (fun _ : Unit => cs8 cI q0 u0) := ⟨[], [0, 1, 2, 3], rfl, rfl, rfl, by decide, by decide, fun _ => ⟨[0, 1, 2, 3], rfl, rfl⟩⟩

abbrev rX8_takeNumber : Room := { frames := 1, cells := 0, slots := 0, locals := 20 }
theorem hdX8_takeNumber : yX8_takeNumber.cls = RX8 ∧ yX8_takeNumber.cls ≠ "java/lang/invoke/MethodHandle" ∧ yX8_takeNumber.cls ≠ "java/lang/invoke/VarHandle" ∧ (parseMethodDescriptor yX8_takeNumber.desc).map (fun d => d.parameters.length) = some 0 := by decide +kernel
theorem inX8_takeNumber_8 : ∀ w ∈ wsX80, w ∈ wsX8_takeNumber := by decide +kernel
theorem kX8_takeNumber_0 : Cond.fieldLink RX8 35 "AheadStore$Tape" "token" "I" ∈ wsX8_takeNumber := by decide +kernel
theorem kX8_takeNumber_1 : Cond.fieldLink RX8 38 "AheadStore$Tape" "tokenPlace" "I" ∈ wsX8_takeNumber := by decide +kernel
theorem kX8_takeNumber_2 : Cond.fieldLink RX8 32 "AheadStore$Tape" "place" "I" ∈ wsX8_takeNumber := by decide +kernel
theorem kX8_takeNumber_3 : Cond.fieldLink RX8 41 "AheadStore$Tape" "value" "I" ∈ wsX8_takeNumber := by decide +kernel
theorem kX8_takeNumber_4 : Cond.fieldLink RX8 15 "AheadStore$Tape" "size" "I" ∈ wsX8_takeNumber := by decide +kernel
set_option maxHeartbeats 4000000 in
set_option maxRecDepth 100000 in
theorem c_X8_takeNumber {l : Launch} {dC : Nat → ClassId} {dI : Nat → Nat → Nat} {cI : ClassId} {q0 : Nat → Nat} {sz : Nat} {u0 : S8}  {Q : S8 → Prop} (h : wp_X8_takeNumber u0 Q) : ctV sxE l yX8_takeNumber wsX8_takeNumber rX8_takeNumber (dC, dI) vwCl [(cI, .int)] [.ref (q0 0)] (cs8 cI q0 u0) sz (fun (v : S8) => Q v) (fun (v : S8) => cs8 cI q0 v) := by
  refine mx_v (cc := cX8_takeNumber) (maxL := 1) (by decide) rfl (Nat.le_of_ble_eq_true rfl) ?_
  intro p e s m below meth c Z A ls args hx hb hml hown hts hA hP hK hD hE hl hret
  have hown : s.vm.findClass RX8 = some m.cls := hown
  have hl : lv_has ls 1 [(0, .ref (q0 0))] := hl
  have w_77 : ∀ (y1 : Int32) (u0 : S8) (H : Heap) (locs : List Loc) (ls : Array Slot) (_ : va_P (dC, dI) vwCl (cs8 cI q0 u0) H) (_ : va_D A (cs8 cI q0 u0)) (_ : va_S A s.heap H locs) (_ : lv_has ls 1 []) (_ : wp_X8_takeNumber_77 Q y1 u0), W p l e rX8_takeNumber s m args below meth c H locs 0 0 Z (F0 m 77 ls [.int y1, .ref (q0 0)]) := by
    intro y1 u0 H locs ls hP hD hS hl h
    refine va_put (D := (dC, dI)) (ci := 8) (v := .int y1) (ty := .int) (C := RX8) (T := TX8) (N := 9) hx hb hts inX8_takeNumber_8 tyX8 tyX8_ok nmX8 hown hK hP hD hS 0 rfl rfl 6 (by decide) (hts _ kX8_takeNumber_0) (fun _ h9 => h9) rfl (tyX8_ok 6 (by decide)) rfl rfl (Nat.le_of_ble_eq_true rfl) dX8_takeNumber_77 (fun H locs hP hD hS => ?_)
    obtain ⟨u0_1, e_u0_1⟩ : ∃ z, z = s8_token u0 y1 := ⟨_, rfl⟩
    have h := h u0_1 e_u0_1
    have hP : va_P (dC, dI) vwCl (cs8 cI q0 u0_1) H := by rw [e_u0_1]; exact hP
    have hD : va_D A (cs8 cI q0 u0_1) := by rw [e_u0_1]; exact hD
    exact hret _ _ _ _ u0_1 dX8_takeNumber_80 h hP hD hS
  have w_58 : ∀ (u0 : S8) (H : Heap) (locs : List Loc) (ls : Array Slot) (_ : va_P (dC, dI) vwCl (cs8 cI q0 u0) H) (_ : va_D A (cs8 cI q0 u0)) (_ : va_S A s.heap H locs) (_ : lv_has ls 1 [(0, .ref (q0 0))]) (_ : wp_X8_takeNumber_58 Q u0), W p l e rX8_takeNumber s m args below meth c H locs 0 0 Z (F0 m 58 ls []) := by
    intro u0 H locs ls hP hD hS hl h
    refine lv_aload_n hx hb dX8_takeNumber_58 rfl (lv_at hl 0 rfl) ?_
    refine lv_aload_n hx hb dX8_takeNumber_59 rfl (lv_at hl 0 rfl) ?_
    refine va_get (D := (dC, dI)) (ci := 8) (v := .int (g8_place u0)) (C := RX8) (T := TX8) (N := 9) hx hb hts inX8_takeNumber_8 hown hK hP 0 rfl rfl 5 (by decide) (hts _ kX8_takeNumber_2) (fun _ h9 => h9) rfl dX8_takeNumber_60 ?_
    refine lv_aload_n hx hb dX8_takeNumber_63 rfl (lv_at hl 0 rfl) ?_
    refine va_get (D := (dC, dI)) (ci := 8) (v := .int (g8_tokenPlace u0)) (C := RX8) (T := TX8) (N := 9) hx hb hts inX8_takeNumber_8 hown hK hP 0 rfl rfl 7 (by decide) (hts _ kX8_takeNumber_1) (fun _ h9 => h9) rfl dX8_takeNumber_64 ?_
    refine lv_isub hx hb dX8_takeNumber_67 ?_
    refine lv_iconst (v := 4) hx hb dX8_takeNumber_68 (by decide) ?_
    refine lv_icmp_le (tgt := 76) hx hb dX8_takeNumber_69 (by decide) (fun cd => ?_) (fun cd => ?_)
    · have h := h.1 cd
      refine lv_iconst (v := 2) hx hb dX8_takeNumber_76 (by decide) ?_
      exact w_77 2 u0 _ _ _ hP hD hS (lv_sub hl [] rfl) h
    · have h := h.2 cd
      refine lv_iconst (v := 4) hx hb dX8_takeNumber_72 (by decide) ?_
      refine lv_goto (tgt := 77) hx hb dX8_takeNumber_73 (by decide) ?_
      exact w_77 4 u0 _ _ _ hP hD hS (lv_sub hl [] rfl) h
  have w_5 : ∀ (n : Nat) (u0 : S8) (H : Heap) (locs : List Loc) (ls : Array Slot) (_ : va_P (dC, dI) vwCl (cs8 cI q0 u0) H) (_ : va_D A (cs8 cI q0 u0)) (_ : va_S A s.heap H locs) (_ : lv_has ls 1 [(0, .ref (q0 0))]) (_ : wp_X8_takeNumber_5 Q n u0), W p l e rX8_takeNumber s m args below meth c H locs 0 0 Z (F0 m 5 ls []) := by
    intro n
    induction n with
    | zero => intro u0 H locs ls hP hD hS hl h; exact False.elim h
    | succ n ih =>
      intro u0 H locs ls hP hD hS hl h
      refine lv_aload_n hx hb dX8_takeNumber_5 rfl (lv_at hl 0 rfl) ?_
      refine va_get (D := (dC, dI)) (ci := 8) (v := .int (g8_place u0)) (C := RX8) (T := TX8) (N := 9) hx hb hts inX8_takeNumber_8 hown hK hP 0 rfl rfl 5 (by decide) (hts _ kX8_takeNumber_2) (fun _ h9 => h9) rfl dX8_takeNumber_6 ?_
      refine lv_aload_n hx hb dX8_takeNumber_9 rfl (lv_at hl 0 rfl) ?_
      refine va_get (D := (dC, dI)) (ci := 8) (v := .int (g8_size u0)) (C := RX8) (T := TX8) (N := 9) hx hb hts inX8_takeNumber_8 hown hK hP 0 rfl rfl 1 (by decide) (hts _ kX8_takeNumber_4) (fun _ h9 => h9) rfl dX8_takeNumber_10 ?_
      refine lv_icmp_ge (tgt := 58) hx hb dX8_takeNumber_13 (by decide) (fun cd => ?_) (fun cd => ?_)
      · have h := h.1 cd
        exact w_58 u0 _ _ _ hP hD hS (lv_sub hl [0] rfl) h
      · have h := h.2 cd
        refine lv_aload_n hx hb dX8_takeNumber_16 rfl (lv_at hl 0 rfl) ?_
        refine cx_vi (As := []) (rest := []) ⟨hx, hb, hml, hown, hts⟩ hl.1 ok_sxE hE hK hP hD hS hA (cut_71 cI q0 u0) (c_X8_byteHere (l := l) (dC := dC) (dI := dI) (cI := cI) (q0 := q0) h) (cwV 0 hts gX8_takeNumber_X8_byteHere rfl rfl rfl hdX8_byteHere ⟨Nat.le_of_ble_eq_true rfl, Nat.le_of_ble_eq_true rfl⟩) rfl rfl rfl rfl (Nat.le_of_ble_eq_true rfl) dX8_takeNumber_17 rfl (fun r_2 _ H locs h hP hD hS => ?_)
        refine cx_si (As := [.int r_2]) (rest := []) ⟨hx, hb, hml, hown, hts⟩ hl.1 ok_noE trivial hK hP hD hS hA (cut_72 cI q0 u0) (c_X8_isDigit (l := l) (dC := dC) (dI := dI) (cI := cI) h) (va_cwS 1 hts gX8_takeNumber_X8_isDigit rfl rfl rfl hdX8_isDigit ⟨Nat.le_of_ble_eq_true rfl, Nat.le_of_ble_eq_true rfl⟩) rfl (Nat.le_of_ble_eq_true rfl) dX8_takeNumber_20 rfl (fun r_3 _ H locs h hP hD hS => ?_)
        refine lv_if_eq (tgt := 58) hx hb dX8_takeNumber_23 (by decide) (fun cd => ?_) (fun cd => ?_)
        · have h := h.1 cd
          exact w_58 u0 _ _ _ hP hD hS (lv_sub hl [0] rfl) h
        · have h := h.2 cd
          refine lv_aload_n hx hb dX8_takeNumber_26 rfl (lv_at hl 0 rfl) ?_
          refine lv_aload_n hx hb dX8_takeNumber_27 rfl (lv_at hl 0 rfl) ?_
          refine va_get (D := (dC, dI)) (ci := 8) (v := .int (g8_value u0)) (C := RX8) (T := TX8) (N := 9) hx hb hts inX8_takeNumber_8 hown hK hP 0 rfl rfl 8 (by decide) (hts _ kX8_takeNumber_3) (fun _ h9 => h9) rfl dX8_takeNumber_28 ?_
          refine lv_bipush (v := 10) hx hb dX8_takeNumber_31 (by decide) ?_
          refine lv_imul hx hb dX8_takeNumber_33 ?_
          refine lv_aload_n hx hb dX8_takeNumber_34 rfl (lv_at hl 0 rfl) ?_
          refine cx_vi (As := []) (rest := [.int ((g8_value u0) * 10), .ref (q0 0)]) ⟨hx, hb, hml, hown, hts⟩ hl.1 ok_sxE hE hK hP hD hS hA (cut_71 cI q0 u0) (c_X8_byteHere (l := l) (dC := dC) (dI := dI) (cI := cI) (q0 := q0) h) (cwV 0 hts gX8_takeNumber_X8_byteHere rfl rfl rfl hdX8_byteHere ⟨Nat.le_of_ble_eq_true rfl, Nat.le_of_ble_eq_true rfl⟩) rfl rfl rfl rfl (Nat.le_of_ble_eq_true rfl) dX8_takeNumber_35 rfl (fun r_4 _ H locs h hP hD hS => ?_)
          refine lv_iadd hx hb dX8_takeNumber_38 ?_
          refine lv_bipush (v := 48) hx hb dX8_takeNumber_39 (by decide) ?_
          refine lv_isub hx hb dX8_takeNumber_41 ?_
          refine va_put (D := (dC, dI)) (ci := 8) (v := .int ((((g8_value u0) * 10) + r_4) - 48)) (ty := .int) (C := RX8) (T := TX8) (N := 9) hx hb hts inX8_takeNumber_8 tyX8 tyX8_ok nmX8 hown hK hP hD hS 0 rfl rfl 8 (by decide) (hts _ kX8_takeNumber_3) (fun _ h9 => h9) rfl (tyX8_ok 8 (by decide)) rfl rfl (Nat.le_of_ble_eq_true rfl) dX8_takeNumber_42 (fun H locs hP hD hS => ?_)
          obtain ⟨u0_5, e_u0_5⟩ : ∃ z, z = s8_value u0 ((((g8_value u0) * 10) + r_4) - 48) := ⟨_, rfl⟩
          have h := h u0_5 e_u0_5
          have hP : va_P (dC, dI) vwCl (cs8 cI q0 u0_5) H := by rw [e_u0_5]; exact hP
          have hD : va_D A (cs8 cI q0 u0_5) := by rw [e_u0_5]; exact hD
          refine lv_aload_n hx hb dX8_takeNumber_45 rfl (lv_at hl 0 rfl) ?_
          refine lv_dup hx hb dX8_takeNumber_46 rfl ?_
          refine va_get (D := (dC, dI)) (ci := 8) (v := .int (g8_place u0_5)) (C := RX8) (T := TX8) (N := 9) hx hb hts inX8_takeNumber_8 hown hK hP 0 rfl rfl 5 (by decide) (hts _ kX8_takeNumber_2) (fun _ h9 => h9) rfl dX8_takeNumber_47 ?_
          refine lv_iconst (v := 1) hx hb dX8_takeNumber_50 (by decide) ?_
          refine lv_iadd hx hb dX8_takeNumber_51 ?_
          refine va_put (D := (dC, dI)) (ci := 8) (v := .int ((g8_place u0_5) + 1)) (ty := .int) (C := RX8) (T := TX8) (N := 9) hx hb hts inX8_takeNumber_8 tyX8 tyX8_ok nmX8 hown hK hP hD hS 0 rfl rfl 5 (by decide) (hts _ kX8_takeNumber_2) (fun _ h9 => h9) rfl (tyX8_ok 5 (by decide)) rfl rfl (Nat.le_of_ble_eq_true rfl) dX8_takeNumber_52 (fun H locs hP hD hS => ?_)
          obtain ⟨u0_6, e_u0_6⟩ : ∃ z, z = s8_place u0_5 ((g8_place u0_5) + 1) := ⟨_, rfl⟩
          have h := h u0_6 e_u0_6
          have hP : va_P (dC, dI) vwCl (cs8 cI q0 u0_6) H := by rw [e_u0_6]; exact hP
          have hD : va_D A (cs8 cI q0 u0_6) := by rw [e_u0_6]; exact hD
          refine lv_goto (tgt := 5) hx hb dX8_takeNumber_55 (by decide) ?_
          exact ih u0_6 _ _ _ hP hD hS (lv_sub hl [0] rfl) h
  have hS : va_S A s.heap s.heap [] := va_S.rf
  refine lv_aload_n hx hb dX8_takeNumber_0 rfl (lv_at hl 0 rfl) ?_
  refine lv_iconst (v := 0) hx hb dX8_takeNumber_1 (by decide) ?_
  refine va_put (D := (dC, dI)) (ci := 8) (v := .int 0) (ty := .int) (C := RX8) (T := TX8) (N := 9) hx hb hts inX8_takeNumber_8 tyX8 tyX8_ok nmX8 hown hK hP hD hS 0 rfl rfl 8 (by decide) (hts _ kX8_takeNumber_3) (fun _ h9 => h9) rfl (tyX8_ok 8 (by decide)) rfl rfl (Nat.le_of_ble_eq_true rfl) dX8_takeNumber_2 (fun H locs hP hD hS => ?_)
  obtain ⟨u0_7, e_u0_7⟩ : ∃ z, z = s8_value u0 0 := ⟨_, rfl⟩
  have h := h u0_7 e_u0_7
  have hP : va_P (dC, dI) vwCl (cs8 cI q0 u0_7) H := by rw [e_u0_7]; exact hP
  have hD : va_D A (cs8 cI q0 u0_7) := by rw [e_u0_7]; exact hD
  obtain ⟨n0, h⟩ := h
  exact w_5 n0 u0_7 _ _ _ hP hD hS (lv_sub hl [0] rfl) h

abbrev rX8_wrong : Room := { frames := 0, cells := 0, slots := 0, locals := 0 }
theorem hdX8_wrong : yX8_wrong.cls = RX8 ∧ yX8_wrong.cls ≠ "java/lang/invoke/MethodHandle" ∧ yX8_wrong.cls ≠ "java/lang/invoke/VarHandle" ∧ (parseMethodDescriptor yX8_wrong.desc).map (fun d => d.parameters.length) = some 1 := by decide +kernel
theorem inX8_wrong_8 : ∀ w ∈ wsX80, w ∈ wsX8_wrong := by decide +kernel
theorem kX8_wrong_0 : Cond.fieldLink RX8 22 "AheadStore$Tape" "faultPlace" "I" ∈ wsX8_wrong := by decide +kernel
theorem kX8_wrong_1 : Cond.fieldLink RX8 38 "AheadStore$Tape" "tokenPlace" "I" ∈ wsX8_wrong := by decide +kernel
theorem kX8_wrong_2 : Cond.fieldLink RX8 19 "AheadStore$Tape" "fault" "I" ∈ wsX8_wrong := by decide +kernel
set_option maxHeartbeats 4000000 in
set_option maxRecDepth 100000 in
theorem c_X8_wrong {l : Launch} {dC : Nat → ClassId} {dI : Nat → Nat → Nat} {cI : ClassId} {q0 : Nat → Nat} {sz : Nat} {u0 : S8} {x1 : Int32} {Q : Int32 → S8 → Prop} (h : wp_X8_wrong u0 x1 Q) : ctI sxE l yX8_wrong wsX8_wrong rX8_wrong (dC, dI) vwCl [(cI, .int)] [.ref (q0 0), .int x1] (cs8 cI q0 u0) sz (fun (r : Int32) (v : S8) => Q r v) (fun (v : S8) => cs8 cI q0 v) := by
  refine mx_i (cc := cX8_wrong) (maxL := 2) (ty := .boolean) (by decide) rfl (Nat.le_of_ble_eq_true rfl) ?_
  intro p e s m below meth c Z A ls args hx hb hml hown hts hA hP hK hD hE hl hret
  have hown : s.vm.findClass RX8 = some m.cls := hown
  have hl : lv_has ls 2 [(0, .ref (q0 0)), (1, .int x1)] := hl
  have hS : va_S A s.heap s.heap [] := va_S.rf
  refine lv_aload_n hx hb dX8_wrong_0 rfl (lv_at hl 0 rfl) ?_
  refine lv_iload_n hx hb dX8_wrong_1 rfl (lv_at hl 1 rfl) ?_
  refine va_put (D := (dC, dI)) (ci := 8) (v := .int x1) (ty := .int) (C := RX8) (T := TX8) (N := 9) hx hb hts inX8_wrong_8 tyX8 tyX8_ok nmX8 hown hK hP hD hS 0 rfl rfl 2 (by decide) (hts _ kX8_wrong_2) (fun _ h9 => h9) rfl (tyX8_ok 2 (by decide)) rfl rfl (Nat.le_of_ble_eq_true rfl) dX8_wrong_2 (fun H locs hP hD hS => ?_)
  obtain ⟨u0_1, e_u0_1⟩ : ∃ z, z = s8_fault u0 x1 := ⟨_, rfl⟩
  have h := h u0_1 e_u0_1
  have hP : va_P (dC, dI) vwCl (cs8 cI q0 u0_1) H := by rw [e_u0_1]; exact hP
  have hD : va_D A (cs8 cI q0 u0_1) := by rw [e_u0_1]; exact hD
  refine lv_aload_n hx hb dX8_wrong_5 rfl (lv_at hl 0 rfl) ?_
  refine lv_aload_n hx hb dX8_wrong_6 rfl (lv_at hl 0 rfl) ?_
  refine va_get (D := (dC, dI)) (ci := 8) (v := .int (g8_tokenPlace u0_1)) (C := RX8) (T := TX8) (N := 9) hx hb hts inX8_wrong_8 hown hK hP 0 rfl rfl 7 (by decide) (hts _ kX8_wrong_1) (fun _ h9 => h9) rfl dX8_wrong_7 ?_
  refine va_put (D := (dC, dI)) (ci := 8) (v := .int (g8_tokenPlace u0_1)) (ty := .int) (C := RX8) (T := TX8) (N := 9) hx hb hts inX8_wrong_8 tyX8 tyX8_ok nmX8 hown hK hP hD hS 0 rfl rfl 3 (by decide) (hts _ kX8_wrong_0) (fun _ h9 => h9) rfl (tyX8_ok 3 (by decide)) rfl rfl (Nat.le_of_ble_eq_true rfl) dX8_wrong_10 (fun H locs hP hD hS => ?_)
  obtain ⟨u0_2, e_u0_2⟩ : ∃ z, z = s8_faultPlace u0_1 (g8_tokenPlace u0_1) := ⟨_, rfl⟩
  have h := h u0_2 e_u0_2
  have hP : va_P (dC, dI) vwCl (cs8 cI q0 u0_2) H := by rw [e_u0_2]; exact hP
  have hD : va_D A (cs8 cI q0 u0_2) := by rw [e_u0_2]; exact hD
  refine lv_iconst (v := 0) hx hb dX8_wrong_13 (by decide) ?_
  exact hret _ _ _ _ _ u0_2 dX8_wrong_14 (by decide) h hP hD hS

abbrev rX8_numberWithin : Room := { frames := 1, cells := 0, slots := 0, locals := 21 }
theorem hdX8_numberWithin : yX8_numberWithin.cls = RX8 ∧ yX8_numberWithin.cls ≠ "java/lang/invoke/MethodHandle" ∧ yX8_numberWithin.cls ≠ "java/lang/invoke/VarHandle" ∧ (parseMethodDescriptor yX8_numberWithin.desc).map (fun d => d.parameters.length) = some 2 := by decide +kernel
theorem inX8_numberWithin_8 : ∀ w ∈ wsX80, w ∈ wsX8_numberWithin := by decide +kernel
theorem kX8_numberWithin_0 : Cond.fieldLink RX8 41 "AheadStore$Tape" "value" "I" ∈ wsX8_numberWithin := by decide +kernel
theorem kX8_numberWithin_1 : Cond.fieldLink RX8 35 "AheadStore$Tape" "token" "I" ∈ wsX8_numberWithin := by decide +kernel
set_option maxHeartbeats 4000000 in
set_option maxRecDepth 100000 in
theorem c_X8_numberWithin {l : Launch} {dC : Nat → ClassId} {dI : Nat → Nat → Nat} {cI : ClassId} {q0 : Nat → Nat} {sz : Nat} {u0 : S8} {x1 : Int32} {x2 : Int32} {Q : Int32 → S8 → Prop} (h : wp_X8_numberWithin u0 x1 x2 Q) : ctI sxE l yX8_numberWithin wsX8_numberWithin rX8_numberWithin (dC, dI) vwCl [(cI, .int)] [.ref (q0 0), .int x1, .int x2] (cs8 cI q0 u0) sz (fun (r : Int32) (v : S8) => Q r v) (fun (v : S8) => cs8 cI q0 v) := by
  refine mx_i (cc := cX8_numberWithin) (maxL := 3) (ty := .boolean) (by decide) rfl (Nat.le_of_ble_eq_true rfl) ?_
  intro p e s m below meth c Z A ls args hx hb hml hown hts hA hP hK hD hE hl hret
  have hown : s.vm.findClass RX8 = some m.cls := hown
  have hl : lv_has ls 3 [(0, .ref (q0 0)), (1, .int x1), (2, .int x2)] := hl
  have w_30 : ∀ (u0 : S8) (H : Heap) (locs : List Loc) (ls : Array Slot) (_ : va_P (dC, dI) vwCl (cs8 cI q0 u0) H) (_ : va_D A (cs8 cI q0 u0)) (_ : va_S A s.heap H locs) (_ : lv_has ls 3 [(0, .ref (q0 0))]) (_ : wp_X8_numberWithin_30 Q u0), W p l e rX8_numberWithin s m args below meth c H locs 0 0 Z (F0 m 30 ls []) := by
    intro u0 H locs ls hP hD hS hl h
    refine lv_aload_n hx hb dX8_numberWithin_30 rfl (lv_at hl 0 rfl) ?_
    refine lv_iconst (v := 2) hx hb dX8_numberWithin_31 (by decide) ?_
    refine cx_vi (As := [.int 2]) (rest := []) ⟨hx, hb, hml, hown, hts⟩ hl.1 ok_sxE hE hK hP hD hS hA (cut_73 cI q0 u0) (c_X8_wrong (l := l) (dC := dC) (dI := dI) (cI := cI) (q0 := q0) h) (cwV 1 hts gX8_numberWithin_X8_wrong rfl rfl rfl hdX8_wrong ⟨Nat.le_of_ble_eq_true rfl, Nat.le_of_ble_eq_true rfl⟩) rfl rfl rfl rfl (Nat.le_of_ble_eq_true rfl) dX8_numberWithin_32 rfl (fun r_1 v_2 H locs h hP hD hS => ?_)
    have hP : va_P (dC, dI) vwCl (cs8 cI q0 v_2) H :=  hP
    have hD : va_D A (cs8 cI q0 v_2) :=  hD
    refine lv_if_eq (tgt := 42) hx hb dX8_numberWithin_35 (by decide) (fun cd => ?_) (fun cd => ?_)
    · have h := h.1 cd
      refine lv_iconst (v := 0) hx hb dX8_numberWithin_42 (by decide) ?_
      exact hret _ _ _ _ _ v_2 dX8_numberWithin_43 (by decide) h hP hD hS
    · have h := h.2 cd
      refine lv_iconst (v := 1) hx hb dX8_numberWithin_38 (by decide) ?_
      refine lv_goto (tgt := 43) hx hb dX8_numberWithin_39 (by decide) ?_
      exact hret _ _ _ _ _ v_2 dX8_numberWithin_43 (by decide) h hP hD hS
  have hS : va_S A s.heap s.heap [] := va_S.rf
  refine lv_aload_n hx hb dX8_numberWithin_0 rfl (lv_at hl 0 rfl) ?_
  refine va_get (D := (dC, dI)) (ci := 8) (v := .int (g8_token u0)) (C := RX8) (T := TX8) (N := 9) hx hb hts inX8_numberWithin_8 hown hK hP 0 rfl rfl 6 (by decide) (hts _ kX8_numberWithin_1) (fun _ h9 => h9) rfl dX8_numberWithin_1 ?_
  refine lv_iconst (v := 2) hx hb dX8_numberWithin_4 (by decide) ?_
  refine lv_icmp_eq (tgt := 14) hx hb dX8_numberWithin_5 (by decide) (fun cd => ?_) (fun cd => ?_)
  · have h := h.1 cd
    refine lv_aload_n hx hb dX8_numberWithin_14 rfl (lv_at hl 0 rfl) ?_
    refine va_get (D := (dC, dI)) (ci := 8) (v := .int (g8_value u0)) (C := RX8) (T := TX8) (N := 9) hx hb hts inX8_numberWithin_8 hown hK hP 0 rfl rfl 8 (by decide) (hts _ kX8_numberWithin_0) (fun _ h9 => h9) rfl dX8_numberWithin_15 ?_
    refine lv_iload_n hx hb dX8_numberWithin_18 rfl (lv_at hl 1 rfl) ?_
    refine lv_icmp_lt (tgt := 30) hx hb dX8_numberWithin_19 (by decide) (fun cd => ?_) (fun cd => ?_)
    · have h := h.1 cd
      exact w_30 u0 _ _ _ hP hD hS (lv_sub hl [0] rfl) h
    · have h := h.2 cd
      refine lv_aload_n hx hb dX8_numberWithin_22 rfl (lv_at hl 0 rfl) ?_
      refine va_get (D := (dC, dI)) (ci := 8) (v := .int (g8_value u0)) (C := RX8) (T := TX8) (N := 9) hx hb hts inX8_numberWithin_8 hown hK hP 0 rfl rfl 8 (by decide) (hts _ kX8_numberWithin_0) (fun _ h9 => h9) rfl dX8_numberWithin_23 ?_
      refine lv_iload_n hx hb dX8_numberWithin_26 rfl (lv_at hl 2 rfl) ?_
      refine lv_icmp_le (tgt := 38) hx hb dX8_numberWithin_27 (by decide) (fun cd => ?_) (fun cd => ?_)
      · have h := h.1 cd
        refine lv_iconst (v := 1) hx hb dX8_numberWithin_38 (by decide) ?_
        refine lv_goto (tgt := 43) hx hb dX8_numberWithin_39 (by decide) ?_
        exact hret _ _ _ _ _ u0 dX8_numberWithin_43 (by decide) h hP hD hS
      · have h := h.2 cd
        exact w_30 u0 _ _ _ hP hD hS (lv_sub hl [0] rfl) h
  · have h := h.2 cd
    refine lv_aload_n hx hb dX8_numberWithin_8 rfl (lv_at hl 0 rfl) ?_
    refine lv_iconst (v := 1) hx hb dX8_numberWithin_9 (by decide) ?_
    refine cx_vi (As := [.int 1]) (rest := []) ⟨hx, hb, hml, hown, hts⟩ hl.1 ok_sxE hE hK hP hD hS hA (cut_73 cI q0 u0) (c_X8_wrong (l := l) (dC := dC) (dI := dI) (cI := cI) (q0 := q0) h) (cwV 1 hts gX8_numberWithin_X8_wrong rfl rfl rfl hdX8_wrong ⟨Nat.le_of_ble_eq_true rfl, Nat.le_of_ble_eq_true rfl⟩) rfl rfl rfl rfl (Nat.le_of_ble_eq_true rfl) dX8_numberWithin_10 rfl (fun r_3 v_4 H locs h hP hD hS => ?_)
    have hP : va_P (dC, dI) vwCl (cs8 cI q0 v_4) H :=  hP
    have hD : va_D A (cs8 cI q0 v_4) :=  hD
    exact hret _ _ _ _ _ v_4 dX8_numberWithin_13 (zb_n h.1) h.2 hP hD hS
