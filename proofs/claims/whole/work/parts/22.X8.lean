abbrev rX8_append : Room := { frames := 0, cells := 0, slots := 0, locals := 0 }
theorem hdX8_append : yX8_append.cls = RX8 ∧ yX8_append.cls ≠ "java/lang/invoke/MethodHandle" ∧ yX8_append.cls ≠ "java/lang/invoke/VarHandle" ∧ (parseMethodDescriptor yX8_append.desc).map (fun d => d.parameters.length) = some 1 := by decide +kernel
theorem inX8_append_8 : ∀ w ∈ wsX80, w ∈ wsX8_append := by decide +kernel
theorem kX8_append_0 : Cond.fieldLink RX8 15 "AheadStore$Tape" "size" "I" ∈ wsX8_append := by decide +kernel
theorem kX8_append_1 : Cond.fieldLink RX8 9 "AheadStore$Tape" "bytes" "[I" ∈ wsX8_append := by decide +kernel
set_option maxHeartbeats 4000000 in
set_option maxRecDepth 100000 in
theorem c_X8_append {l : Launch} {dC : Nat → ClassId} {dI : Nat → Nat → Nat} {cI : ClassId} {q0 : Nat → Nat} {sz : Nat} {u0 : S8} {x1 : Int32} {Q : S8 → Prop} (h : wp_X8_append u0 x1 Q) : ctV sxE l yX8_append wsX8_append rX8_append (dC, dI) vwCl [(cI, .int)] [.ref (q0 0), .int x1] (cs8 cI q0 u0) sz (fun (v : S8) => Q v) (fun (v : S8) => cs8 cI q0 v) := by
  refine mx_v (cc := cX8_append) (maxL := 3) (by decide) rfl (Nat.le_of_ble_eq_true rfl) ?_
  intro p e s m below meth c Z A ls args hx hb hml hown hts hA hP hK hD hE hl hret
  have hown : s.vm.findClass RX8 = some m.cls := hown
  have hl : lv_has ls 3 [(0, .ref (q0 0)), (1, .int x1)] := hl
  have w_50 : ∀ (k_3 : Int32 → Int32 → S8 → Prop) (hk_3 : ∀ (x1 : Int32) (x2 : Int32) (u0 : S8) (H : Heap) (locs : List Loc) (ls : Array Slot) (_ : va_P (dC, dI) vwCl (cs8 cI q0 u0) H) (_ : va_D A (cs8 cI q0 u0)) (_ : va_S A s.heap H locs) (_ : lv_has ls 3 [(0, .ref (q0 0)), (1, .int x1), (2, .int x2)]) (_ : k_3 x1 x2 u0), W p l e rX8_append s m args below meth c H locs 0 0 Z (F0 m 3 ls [])) (x1 : Int32) (x2 : Int32) (u0 : S8) (H : Heap) (locs : List Loc) (ls : Array Slot) (_ : va_P (dC, dI) vwCl (cs8 cI q0 u0) H) (_ : va_D A (cs8 cI q0 u0)) (_ : va_S A s.heap H locs) (_ : lv_has ls 3 [(0, .ref (q0 0)), (1, .int x1), (2, .int x2)]) (_ : wp_X8_append_50 k_3 Q x1 x2 u0), W p l e rX8_append s m args below meth c H locs 0 0 Z (F0 m 50 ls []) := by
    intro k_3 hk_3 x1 x2 u0 H locs ls hP hD hS hl h
    obtain ⟨x2_1, e_x2_1⟩ : ∃ z : Int32, z = x2 + (-8) := ⟨_, rfl⟩
    have h := h x2_1 e_x2_1
    refine lv_iinc (v := x2_1) (lv' := [(2, .int x2_1), (0, .ref (q0 0)), (1, .int x1)]) hx hb dX8_append_50 hl (k := 2) rfl (by rw [e_x2_1]; rfl) (by decide) rfl (fun ls hl => ?_)
    refine lv_goto (tgt := 3) hx hb dX8_append_53 (by decide) ?_
    exact hk_3 x1 x2_1 u0 _ _ _ hP hD hS (lv_sub hl [1, 2, 0] rfl) h
  have w_3 : ∀ (n : Nat) (x1 : Int32) (x2 : Int32) (u0 : S8) (H : Heap) (locs : List Loc) (ls : Array Slot) (_ : va_P (dC, dI) vwCl (cs8 cI q0 u0) H) (_ : va_D A (cs8 cI q0 u0)) (_ : va_S A s.heap H locs) (_ : lv_has ls 3 [(0, .ref (q0 0)), (1, .int x1), (2, .int x2)]) (_ : wp_X8_append_3 Q n x1 x2 u0), W p l e rX8_append s m args below meth c H locs 0 0 Z (F0 m 3 ls []) := by
    intro n
    induction n with
    | zero => intro x1 x2 u0 H locs ls hP hD hS hl h; exact False.elim h
    | succ n ih =>
      intro x1 x2 u0 H locs ls hP hD hS hl h
      refine lv_iload_n hx hb dX8_append_3 rfl (lv_at hl 2 rfl) ?_
      refine lv_if_lt (tgt := 56) hx hb dX8_append_4 (by decide) (fun cd => ?_) (fun cd => ?_)
      · have h := h.1 cd
        exact hret _ _ _ _ u0 dX8_append_56 h hP hD hS
      · have h := h.2 cd
        refine lv_aload_n hx hb dX8_append_7 rfl (lv_at hl 0 rfl) ?_
        refine va_get (D := (dC, dI)) (ci := 8) (v := .int (g8_size u0)) (C := RX8) (T := TX8) (N := 9) hx hb hts inX8_append_8 hown hK hP 0 rfl rfl 1 (by decide) (hts _ kX8_append_0) (fun _ h9 => h9) rfl dX8_append_8 ?_
        refine lv_if_lt (tgt := 50) hx hb dX8_append_11 (by decide) (fun cd => ?_) (fun cd => ?_)
        · have h := h.1 cd
          exact w_50 (fun x1 x2 u0 => wp_X8_append_3 Q n x1 x2 u0) (fun x1 x2 u0 H locs ls hP hD hS hl h => ih x1 x2 u0 H locs ls hP hD hS hl h) x1 x2 u0 _ _ _ hP hD hS (lv_sub hl [0, 1, 2] rfl) h
        · have h := h.2 cd
          refine lv_aload_n hx hb dX8_append_14 rfl (lv_at hl 0 rfl) ?_
          refine va_get (D := (dC, dI)) (ci := 8) (v := .int (g8_size u0)) (C := RX8) (T := TX8) (N := 9) hx hb hts inX8_append_8 hown hK hP 0 rfl rfl 1 (by decide) (hts _ kX8_append_0) (fun _ h9 => h9) rfl dX8_append_15 ?_
          refine lv_sipush (v := 400) hx hb dX8_append_18 (by decide) ?_
          refine lv_icmp_ge (tgt := 50) hx hb dX8_append_21 (by decide) (fun cd => ?_) (fun cd => ?_)
          · have h := h.1 cd
            exact w_50 (fun x1 x2 u0 => wp_X8_append_3 Q n x1 x2 u0) (fun x1 x2 u0 H locs ls hP hD hS hl h => ih x1 x2 u0 H locs ls hP hD hS hl h) x1 x2 u0 _ _ _ hP hD hS (lv_sub hl [0, 1, 2] rfl) h
          · have h := h.2 cd
            refine lv_aload_n hx hb dX8_append_24 rfl (lv_at hl 0 rfl) ?_
            refine va_get (D := (dC, dI)) (ci := 8) (v := .ref (q0 1)) (C := RX8) (T := TX8) (N := 9) hx hb hts inX8_append_8 hown hK hP 0 rfl rfl 0 (by decide) (hts _ kX8_append_1) (fun _ h9 => h9) rfl dX8_append_25 ?_
            refine lv_aload_n hx hb dX8_append_28 rfl (lv_at hl 0 rfl) ?_
            refine va_get (D := (dC, dI)) (ci := 8) (v := .int (g8_size u0)) (C := RX8) (T := TX8) (N := 9) hx hb hts inX8_append_8 hown hK hP 0 rfl rfl 1 (by decide) (hts _ kX8_append_0) (fun _ h9 => h9) rfl dX8_append_29 ?_
            refine lv_iload_n hx hb dX8_append_32 rfl (lv_at hl 1 rfl) ?_
            refine lv_iload_n hx hb dX8_append_33 rfl (lv_at hl 2 rfl) ?_
            refine lv_ishr hx hb dX8_append_34 ?_
            refine lv_sipush (v := 255) hx hb dX8_append_35 (by decide) ?_
            refine lv_iand hx hb dX8_append_38 ?_
            refine va_iast hx hb hK hP hD hS 1 0 rfl rfl h.1 dX8_append_39 (fun H locs hP hD hS => ?_)
            have h := h.2
            obtain ⟨u0_2, e_u0_2⟩ : ∃ z, z = s8_bytes u0 (upd (g8_bytes u0) (g8_size u0).toNatClampNeg ((x1 >>> (x2 &&& 31)) &&& 255)) := ⟨_, rfl⟩
            have h := h u0_2 e_u0_2
            have hP : va_P (dC, dI) vwCl (cs8 cI q0 u0_2) H := by rw [e_u0_2]; exact hP
            have hD : va_D A (cs8 cI q0 u0_2) := by rw [e_u0_2]; exact hD
            refine lv_aload_n hx hb dX8_append_40 rfl (lv_at hl 0 rfl) ?_
            refine lv_dup hx hb dX8_append_41 rfl ?_
            refine va_get (D := (dC, dI)) (ci := 8) (v := .int (g8_size u0_2)) (C := RX8) (T := TX8) (N := 9) hx hb hts inX8_append_8 hown hK hP 0 rfl rfl 1 (by decide) (hts _ kX8_append_0) (fun _ h9 => h9) rfl dX8_append_42 ?_
            refine lv_iconst (v := 1) hx hb dX8_append_45 (by decide) ?_
            refine lv_iadd hx hb dX8_append_46 ?_
            refine va_put (D := (dC, dI)) (ci := 8) (v := .int ((g8_size u0_2) + 1)) (ty := .int) (C := RX8) (T := TX8) (N := 9) hx hb hts inX8_append_8 tyX8 tyX8_ok nmX8 hown hK hP hD hS 0 rfl rfl 1 (by decide) (hts _ kX8_append_0) (fun _ h9 => h9) rfl (tyX8_ok 1 (by decide)) rfl rfl (Nat.le_of_ble_eq_true rfl) dX8_append_47 (fun H locs hP hD hS => ?_)
            obtain ⟨u0_3, e_u0_3⟩ : ∃ z, z = s8_size u0_2 ((g8_size u0_2) + 1) := ⟨_, rfl⟩
            have h := h u0_3 e_u0_3
            have hP : va_P (dC, dI) vwCl (cs8 cI q0 u0_3) H := by rw [e_u0_3]; exact hP
            have hD : va_D A (cs8 cI q0 u0_3) := by rw [e_u0_3]; exact hD
            exact w_50 (fun x1 x2 u0 => wp_X8_append_3 Q n x1 x2 u0) (fun x1 x2 u0 H locs ls hP hD hS hl h => ih x1 x2 u0 H locs ls hP hD hS hl h) x1 x2 u0_3 _ _ _ hP hD hS (lv_sub hl [0, 1, 2] rfl) h
  have hS : va_S A s.heap s.heap [] := va_S.rf
  refine lv_bipush (v := 24) hx hb dX8_append_0 (by decide) ?_
  refine lv_istore_n (lv' := [(2, .int 24), (0, .ref (q0 0)), (1, .int x1)]) hx hb dX8_append_2 rfl hl (by decide) rfl (fun ls hl => ?_)
  obtain ⟨n0, h⟩ := h
  exact w_3 n0 x1 24 u0 _ _ _ hP hD hS (lv_sub hl [1, 2, 0] rfl) h

abbrev rX8_byteHere : Room := { frames := 0, cells := 0, slots := 0, locals := 0 }
theorem hdX8_byteHere : yX8_byteHere.cls = RX8 ∧ yX8_byteHere.cls ≠ "java/lang/invoke/MethodHandle" ∧ yX8_byteHere.cls ≠ "java/lang/invoke/VarHandle" ∧ (parseMethodDescriptor yX8_byteHere.desc).map (fun d => d.parameters.length) = some 0 := by decide +kernel
theorem inX8_byteHere_8 : ∀ w ∈ wsX80, w ∈ wsX8_byteHere := by decide +kernel
theorem kX8_byteHere_0 : Cond.fieldLink RX8 32 "AheadStore$Tape" "place" "I" ∈ wsX8_byteHere := by decide +kernel
theorem kX8_byteHere_1 : Cond.fieldLink RX8 9 "AheadStore$Tape" "bytes" "[I" ∈ wsX8_byteHere := by decide +kernel
theorem kX8_byteHere_2 : Cond.fieldLink RX8 15 "AheadStore$Tape" "size" "I" ∈ wsX8_byteHere := by decide +kernel
set_option maxHeartbeats 4000000 in
set_option maxRecDepth 100000 in
theorem c_X8_byteHere {l : Launch} {dC : Nat → ClassId} {dI : Nat → Nat → Nat} {cI : ClassId} {q0 : Nat → Nat} {sz : Nat} {u0 : S8}  {Q : Int32 → Prop} (h : wp_X8_byteHere u0 Q) : ctI sxE l yX8_byteHere wsX8_byteHere rX8_byteHere (dC, dI) vwCl [(cI, .int)] [.ref (q0 0)] (cs8 cI q0 u0) sz (fun (r : Int32) (_ : Unit) => Q r) (fun (_ : Unit) => cs8 cI q0 u0) := by
  refine mx_i (cc := cX8_byteHere) (maxL := 1) (ty := .int) (by decide) rfl (Nat.le_of_ble_eq_true rfl) ?_
  intro p e s m below meth c Z A ls args hx hb hml hown hts hA hP hK hD hE hl hret
  have hown : s.vm.findClass RX8 = some m.cls := hown
  have hl : lv_has ls 1 [(0, .ref (q0 0))] := hl
  have hS : va_S A s.heap s.heap [] := va_S.rf
  refine lv_aload_n hx hb dX8_byteHere_0 rfl (lv_at hl 0 rfl) ?_
  refine va_get (D := (dC, dI)) (ci := 8) (v := .int (g8_place u0)) (C := RX8) (T := TX8) (N := 9) hx hb hts inX8_byteHere_8 hown hK hP 0 rfl rfl 5 (by decide) (hts _ kX8_byteHere_0) (fun _ h9 => h9) rfl dX8_byteHere_1 ?_
  refine lv_if_lt (tgt := 40) hx hb dX8_byteHere_4 (by decide) (fun cd => ?_) (fun cd => ?_)
  · have h := h.1 cd
    refine lv_iconst (v := (-1)) hx hb dX8_byteHere_40 (by decide) ?_
    exact hret _ _ _ _ _ () dX8_byteHere_41 (vp_nar_int _) h hP hD hS
  · have h := h.2 cd
    refine lv_aload_n hx hb dX8_byteHere_7 rfl (lv_at hl 0 rfl) ?_
    refine va_get (D := (dC, dI)) (ci := 8) (v := .int (g8_place u0)) (C := RX8) (T := TX8) (N := 9) hx hb hts inX8_byteHere_8 hown hK hP 0 rfl rfl 5 (by decide) (hts _ kX8_byteHere_0) (fun _ h9 => h9) rfl dX8_byteHere_8 ?_
    refine lv_aload_n hx hb dX8_byteHere_11 rfl (lv_at hl 0 rfl) ?_
    refine va_get (D := (dC, dI)) (ci := 8) (v := .int (g8_size u0)) (C := RX8) (T := TX8) (N := 9) hx hb hts inX8_byteHere_8 hown hK hP 0 rfl rfl 1 (by decide) (hts _ kX8_byteHere_2) (fun _ h9 => h9) rfl dX8_byteHere_12 ?_
    refine lv_icmp_ge (tgt := 40) hx hb dX8_byteHere_15 (by decide) (fun cd => ?_) (fun cd => ?_)
    · have h := h.1 cd
      refine lv_iconst (v := (-1)) hx hb dX8_byteHere_40 (by decide) ?_
      exact hret _ _ _ _ _ () dX8_byteHere_41 (vp_nar_int _) h hP hD hS
    · have h := h.2 cd
      refine lv_aload_n hx hb dX8_byteHere_18 rfl (lv_at hl 0 rfl) ?_
      refine va_get (D := (dC, dI)) (ci := 8) (v := .int (g8_place u0)) (C := RX8) (T := TX8) (N := 9) hx hb hts inX8_byteHere_8 hown hK hP 0 rfl rfl 5 (by decide) (hts _ kX8_byteHere_0) (fun _ h9 => h9) rfl dX8_byteHere_19 ?_
      refine lv_sipush (v := 400) hx hb dX8_byteHere_22 (by decide) ?_
      refine lv_icmp_ge (tgt := 40) hx hb dX8_byteHere_25 (by decide) (fun cd => ?_) (fun cd => ?_)
      · have h := h.1 cd
        refine lv_iconst (v := (-1)) hx hb dX8_byteHere_40 (by decide) ?_
        exact hret _ _ _ _ _ () dX8_byteHere_41 (vp_nar_int _) h hP hD hS
      · have h := h.2 cd
        refine lv_aload_n hx hb dX8_byteHere_28 rfl (lv_at hl 0 rfl) ?_
        refine va_get (D := (dC, dI)) (ci := 8) (v := .ref (q0 1)) (C := RX8) (T := TX8) (N := 9) hx hb hts inX8_byteHere_8 hown hK hP 0 rfl rfl 0 (by decide) (hts _ kX8_byteHere_1) (fun _ h9 => h9) rfl dX8_byteHere_29 ?_
        refine lv_aload_n hx hb dX8_byteHere_32 rfl (lv_at hl 0 rfl) ?_
        refine va_get (D := (dC, dI)) (ci := 8) (v := .int (g8_place u0)) (C := RX8) (T := TX8) (N := 9) hx hb hts inX8_byteHere_8 hown hK hP 0 rfl rfl 5 (by decide) (hts _ kX8_byteHere_0) (fun _ h9 => h9) rfl dX8_byteHere_33 ?_
        refine va_iald hx hb hK hP 1 0 rfl rfl h.1 dX8_byteHere_36 ?_
        have h := h.2
        refine lv_goto (tgt := 41) hx hb dX8_byteHere_37 (by decide) ?_
        exact hret _ _ _ _ _ () dX8_byteHere_41 (vp_nar_int _) h hP hD hS

abbrev rX8_wordNumber : Room := { frames := 4, cells := 0, slots := 0, locals := 85 }
theorem hdX8_wordNumber : yX8_wordNumber.cls = RX8 ∧ yX8_wordNumber.cls ≠ "java/lang/invoke/MethodHandle" ∧ yX8_wordNumber.cls ≠ "java/lang/invoke/VarHandle" ∧ (parseMethodDescriptor yX8_wordNumber.desc).map (fun d => d.parameters.length) = some 0 := by decide +kernel
theorem inX8_wordNumber_8 : ∀ w ∈ wsX80, w ∈ wsX8_wordNumber := by decide +kernel
theorem kX8_wordNumber_0 : Cond.fieldLink RX8 38 "AheadStore$Tape" "tokenPlace" "I" ∈ wsX8_wordNumber := by decide +kernel
theorem kX8_wordNumber_1 : Cond.fieldLink RX8 32 "AheadStore$Tape" "place" "I" ∈ wsX8_wordNumber := by decide +kernel
theorem kX8_wordNumber_2 : Cond.fieldLink RX8 9 "AheadStore$Tape" "bytes" "[I" ∈ wsX8_wordNumber := by decide +kernel
set_option maxHeartbeats 4000000 in
set_option maxRecDepth 100000 in
theorem c_X8_wordNumber {l : Launch} {dC : Nat → ClassId} {dI : Nat → Nat → Nat} {cI : ClassId} {q0 : Nat → Nat} {sz : Nat} {u0 : S8}  {Q : Int32 → Prop} (h : wp_X8_wordNumber u0 Q) : ctI tyE l yX8_wordNumber wsX8_wordNumber rX8_wordNumber (dC, dI) vwCl [(cI, .int)] [.ref (q0 0)] (cs8 cI q0 u0) sz (fun (r : Int32) (_ : Unit) => Q r) (fun (_ : Unit) => cs8 cI q0 u0) := by
  refine mx_i (cc := cX8_wordNumber) (maxL := 6) (ty := .int) (by decide) rfl (Nat.le_of_ble_eq_true rfl) ?_
  intro p e s m below meth c Z A ls args hx hb hml hown hts hA hP hK hD hE hl hret
  have hown : s.vm.findClass RX8 = some m.cls := hown
  have hl : lv_has ls 6 [(0, .ref (q0 0))] := hl
  obtain ⟨aW, vW, hR, hW⟩ := hE.2
  have w_108 : ∀ (k_12 : Int32 → Int32 → Int32 → Int32 → Prop) (hk_12 : ∀ (x1 : Int32) (x2 : Int32) (x3 : Int32) (x4 : Int32) (H : Heap) (locs : List Loc) (ls : Array Slot) (_ : va_P (dC, dI) vwCl (cs8 cI q0 u0) H) (_ : va_D A (cs8 cI q0 u0)) (_ : va_S A s.heap H locs) (_ : lv_has ls 6 [(0, .ref (q0 0)), (1, .int x1), (2, .int x2), (3, .int x3), (4, .int x4)]) (_ : k_12 x1 x2 x3 x4), W p l e rX8_wordNumber s m args below meth c H locs 0 0 Z (F0 m 12 ls [])) (x1 : Int32) (x2 : Int32) (x3 : Int32) (x4 : Int32) (H : Heap) (locs : List Loc) (ls : Array Slot) (_ : va_P (dC, dI) vwCl (cs8 cI q0 u0) H) (_ : va_D A (cs8 cI q0 u0)) (_ : va_S A s.heap H locs) (_ : lv_has ls 6 [(0, .ref (q0 0)), (1, .int x1), (2, .int x2), (3, .int x3), (4, .int x4)]) (_ : wp_X8_wordNumber_108 u0 k_12 Q x1 x2 x3 x4), W p l e rX8_wordNumber s m args below meth c H locs 0 0 Z (F0 m 108 ls []) := by
    intro k_12 hk_12 x1 x2 x3 x4 H locs ls hP hD hS hl h
    obtain ⟨x4_1, e_x4_1⟩ : ∃ z : Int32, z = x4 + 1 := ⟨_, rfl⟩
    have h := h x4_1 e_x4_1
    refine lv_iinc (v := x4_1) (lv' := [(4, .int x4_1), (0, .ref (q0 0)), (1, .int x1), (2, .int x2), (3, .int x3)]) hx hb dX8_wordNumber_108 hl (k := 4) rfl (by rw [e_x4_1]; rfl) (by decide) rfl (fun ls hl => ?_)
    refine lv_goto (tgt := 12) hx hb dX8_wordNumber_111 (by decide) ?_
    exact hk_12 x1 x2 x3 x4_1 _ _ _ hP hD hS (lv_sub hl [1, 2, 3, 4, 0] rfl) h
  have w_98 : ∀ (k_108 : Int32 → Int32 → Int32 → Int32 → Prop) (hk_108 : ∀ (x1 : Int32) (x2 : Int32) (x3 : Int32) (x4 : Int32) (H : Heap) (locs : List Loc) (ls : Array Slot) (_ : va_P (dC, dI) vwCl (cs8 cI q0 u0) H) (_ : va_D A (cs8 cI q0 u0)) (_ : va_S A s.heap H locs) (_ : lv_has ls 6 [(0, .ref (q0 0)), (1, .int x1), (2, .int x2), (3, .int x3), (4, .int x4)]) (_ : k_108 x1 x2 x3 x4), W p l e rX8_wordNumber s m args below meth c H locs 0 0 Z (F0 m 108 ls [])) (x1 : Int32) (x4 : Int32) (H : Heap) (locs : List Loc) (ls : Array Slot) (_ : va_P (dC, dI) vwCl (cs8 cI q0 u0) H) (_ : va_D A (cs8 cI q0 u0)) (_ : va_S A s.heap H locs) (_ : lv_has ls 6 [(0, .ref (q0 0)), (1, .int x1), (4, .int x4)]) (_ : wp_X8_wordNumber_98 u0 k_108 Q x1 x4), W p l e rX8_wordNumber s m args below meth c H locs 0 0 Z (F0 m 98 ls []) := by
    intro k_108 hk_108 x1 x4 H locs ls hP hD hS hl h
    obtain ⟨x1_2, e_x1_2⟩ : ∃ z : Int32, z = x1 + 1 := ⟨_, rfl⟩
    have h := h x1_2 e_x1_2
    refine lv_iinc (v := x1_2) (lv' := [(1, .int x1_2), (0, .ref (q0 0)), (4, .int x4)]) hx hb dX8_wordNumber_98 hl (k := 1) rfl (by rw [e_x1_2]; rfl) (by decide) rfl (fun ls hl => ?_)
    refine lv_aload_n hx hb dX8_wordNumber_101 rfl (lv_at hl 1 rfl) ?_
    refine va_get (D := (dC, dI)) (ci := 8) (v := .int (g8_tokenPlace u0)) (C := RX8) (T := TX8) (N := 9) hx hb hts inX8_wordNumber_8 hown hK hP 0 rfl rfl 7 (by decide) (hts _ kX8_wordNumber_0) (fun _ h9 => h9) rfl dX8_wordNumber_102 ?_
    refine lv_topi (fun x2_3 e_x2_3 => ?_)
    have h := h x2_3 e_x2_3
    refine lv_istore_n (lv' := [(2, .int x2_3), (1, .int x1_2), (0, .ref (q0 0)), (4, .int x4)]) hx hb dX8_wordNumber_105 rfl hl (by decide) rfl (fun ls hl => ?_)
    refine lv_iconst (v := 1) hx hb dX8_wordNumber_106 (by decide) ?_
    refine lv_istore_n (lv' := [(3, .int 1), (2, .int x2_3), (1, .int x1_2), (0, .ref (q0 0)), (4, .int x4)]) hx hb dX8_wordNumber_107 rfl hl (by decide) rfl (fun ls hl => ?_)
    exact hk_108 x1_2 x2_3 1 x4 _ _ _ hP hD hS (lv_sub hl [3, 2, 1, 0, 4] rfl) h
  have w_77 : ∀ (k_108 : Int32 → Int32 → Int32 → Int32 → Prop) (hk_108 : ∀ (x1 : Int32) (x2 : Int32) (x3 : Int32) (x4 : Int32) (H : Heap) (locs : List Loc) (ls : Array Slot) (_ : va_P (dC, dI) vwCl (cs8 cI q0 u0) H) (_ : va_D A (cs8 cI q0 u0)) (_ : va_S A s.heap H locs) (_ : lv_has ls 6 [(0, .ref (q0 0)), (1, .int x1), (2, .int x2), (3, .int x3), (4, .int x4)]) (_ : k_108 x1 x2 x3 x4), W p l e rX8_wordNumber s m args below meth c H locs 0 0 Z (F0 m 108 ls [])) (x1 : Int32) (x2 : Int32) (x4 : Int32) (y0 : Int32) (H : Heap) (locs : List Loc) (ls : Array Slot) (_ : va_P (dC, dI) vwCl (cs8 cI q0 u0) H) (_ : va_D A (cs8 cI q0 u0)) (_ : va_S A s.heap H locs) (_ : lv_has ls 6 [(0, .ref (q0 0)), (1, .int x1), (2, .int x2), (4, .int x4)]) (_ : wp_X8_wordNumber_77 u0 k_108 Q x1 x2 x4 y0), W p l e rX8_wordNumber s m args below meth c H locs 0 0 Z (F0 m 77 ls [.int y0]) := by
    intro k_108 hk_108 x1 x2 x4 y0 H locs ls hP hD hS hl h
    refine lv_istore_n (lv' := [(3, .int y0), (0, .ref (q0 0)), (1, .int x1), (2, .int x2), (4, .int x4)]) hx hb dX8_wordNumber_77 rfl hl (by decide) rfl (fun ls hl => ?_)
    obtain ⟨x2_4, e_x2_4⟩ : ∃ z : Int32, z = x2 + 1 := ⟨_, rfl⟩
    have h := h x2_4 e_x2_4
    refine lv_iinc (v := x2_4) (lv' := [(2, .int x2_4), (3, .int y0), (0, .ref (q0 0)), (1, .int x1), (4, .int x4)]) hx hb dX8_wordNumber_78 hl (k := 3) rfl (by rw [e_x2_4]; rfl) (by decide) rfl (fun ls hl => ?_)
    refine lv_goto (tgt := 108) hx hb dX8_wordNumber_81 (by decide) ?_
    exact hk_108 x1 x2_4 y0 x4 _ _ _ hP hD hS (lv_sub hl [2, 3, 0, 1, 4] rfl) h
  have w_76 : ∀ (k_77 : Int32 → Int32 → Int32 → Int32 → Prop) (hk_77 : ∀ (x1 : Int32) (x2 : Int32) (x4 : Int32) (y0 : Int32) (H : Heap) (locs : List Loc) (ls : Array Slot) (_ : va_P (dC, dI) vwCl (cs8 cI q0 u0) H) (_ : va_D A (cs8 cI q0 u0)) (_ : va_S A s.heap H locs) (_ : lv_has ls 6 [(0, .ref (q0 0)), (1, .int x1), (2, .int x2), (4, .int x4)]) (_ : k_77 x1 x2 x4 y0), W p l e rX8_wordNumber s m args below meth c H locs 0 0 Z (F0 m 77 ls [.int y0])) (x1 : Int32) (x2 : Int32) (x4 : Int32) (H : Heap) (locs : List Loc) (ls : Array Slot) (_ : va_P (dC, dI) vwCl (cs8 cI q0 u0) H) (_ : va_D A (cs8 cI q0 u0)) (_ : va_S A s.heap H locs) (_ : lv_has ls 6 [(0, .ref (q0 0)), (1, .int x1), (2, .int x2), (4, .int x4)]) (_ : wp_X8_wordNumber_76 u0 k_77 Q x1 x2 x4), W p l e rX8_wordNumber s m args below meth c H locs 0 0 Z (F0 m 76 ls []) := by
    intro k_77 hk_77 x1 x2 x4 H locs ls hP hD hS hl h
    refine lv_iconst (v := 0) hx hb dX8_wordNumber_76 (by decide) ?_
    exact hk_77 x1 x2 x4 0 _ _ _ hP hD hS (lv_sub hl [0, 1, 2, 3] rfl) h
  have w_12 : ∀ (n : Nat) (x1 : Int32) (x2 : Int32) (x3 : Int32) (x4 : Int32) (H : Heap) (locs : List Loc) (ls : Array Slot) (_ : va_P (dC, dI) vwCl (cs8 cI q0 u0) H) (_ : va_D A (cs8 cI q0 u0)) (_ : va_S A s.heap H locs) (_ : lv_has ls 6 [(0, .ref (q0 0)), (1, .int x1), (2, .int x2), (3, .int x3), (4, .int x4)]) (_ : wp_X8_wordNumber_12 u0 Q n x1 x2 x3 x4), W p l e rX8_wordNumber s m args below meth c H locs 0 0 Z (F0 m 12 ls []) := by
    intro n
    induction n with
    | zero => intro x1 x2 x3 x4 H locs ls hP hD hS hl h; exact False.elim h
    | succ n ih =>
      intro x1 x2 x3 x4 H locs ls hP hD hS hl h
      refine lv_iload hx hb dX8_wordNumber_12 (lv_at hl 4 rfl) ?_
      refine va_ldcS hx hb hown hR dX8_wordNumber_14 ?_
      refine cx_ti (As := []) (rest := [.int x4]) ⟨hx, hb, hml, hown, hts⟩ hl.1 (ok_stE aW vW) hW hK hP hD hS hA c_J0_length (cwV 0 hts gX8_wordNumber_J0_length_8abf5 rfl rfl rfl hdJ0_length ⟨Nat.le_of_ble_eq_true rfl, Nat.le_of_ble_eq_true rfl⟩) (st_recv hW hS) rfl (Nat.le_of_ble_eq_true rfl) dX8_wordNumber_16 rfl (fun r _ H locs hr hP hD hS => ?_)
      subst hr
      refine lv_icmp_ge (tgt := 114) hx hb dX8_wordNumber_19 (by decide) (fun cd => ?_) (fun cd => ?_)
      · have h := h.1 cd
        refine lv_iconst (v := (-1)) hx hb dX8_wordNumber_114 (by decide) ?_
        exact hret _ _ _ _ _ () dX8_wordNumber_115 (vp_nar_int _) h hP hD hS
      · have h := h.2 cd
        refine va_ldcS hx hb hown hR dX8_wordNumber_22 ?_
        refine lv_iload hx hb dX8_wordNumber_24 (lv_at hl 4 rfl) ?_
        refine cx_ti (As := [.int x4]) (rest := []) ⟨hx, hb, hml, hown, hts⟩ hl.1 (ok_stE aW vW) hW hK hP hD hS hA (c_J0_charAt h.1) (cwV 1 hts gX8_wordNumber_J0_charAt_5068e rfl rfl rfl hdJ0_charAt ⟨Nat.le_of_ble_eq_true rfl, Nat.le_of_ble_eq_true rfl⟩) (st_recv hW hS) rfl (Nat.le_of_ble_eq_true rfl) dX8_wordNumber_26 rfl (fun r _ H locs hr hP hD hS => ?_)
        subst hr
        have h := h.2
        refine lv_topi (fun x5_5 e_x5_5 => ?_)
        have h := h x5_5 e_x5_5
        refine lv_istore (lv' := [(5, .int x5_5), (0, .ref (q0 0)), (1, .int x1), (2, .int x2), (3, .int x3), (4, .int x4)]) hx hb dX8_wordNumber_29 hl (by decide) rfl (fun ls hl => ?_)
        refine lv_iload hx hb dX8_wordNumber_31 (lv_at hl 0 rfl) ?_
        refine lv_bipush (v := 32) hx hb dX8_wordNumber_33 (by decide) ?_
        refine lv_icmp_eq (tgt := 84) hx hb dX8_wordNumber_35 (by decide) (fun cd => ?_) (fun cd => ?_)
        · have h := h.1 cd
          refine lv_iload_n hx hb dX8_wordNumber_84 rfl (lv_at hl 4 rfl) ?_
          refine lv_if_eq (tgt := 98) hx hb dX8_wordNumber_85 (by decide) (fun cd => ?_) (fun cd => ?_)
          · have h := h.1 cd
            exact w_98 (fun x1 x2 x3 x4 => wp_X8_wordNumber_108 u0 (fun x1 x2 x3 x4 => wp_X8_wordNumber_12 u0 Q n x1 x2 x3 x4) Q x1 x2 x3 x4) (fun x1 x2 x3 x4 H locs ls hP hD hS hl h => w_108 (fun x1 x2 x3 x4 => wp_X8_wordNumber_12 u0 Q n x1 x2 x3 x4) (fun x1 x2 x3 x4 H locs ls hP hD hS hl h => ih x1 x2 x3 x4 H locs ls hP hD hS hl h) x1 x2 x3 x4 H locs ls hP hD hS hl h) x1 x4 _ _ _ hP hD hS (lv_sub hl [1, 2, 5] rfl) h
          · have h := h.2 cd
            refine lv_iload_n hx hb dX8_wordNumber_88 rfl (lv_at hl 3 rfl) ?_
            refine lv_aload_n hx hb dX8_wordNumber_89 rfl (lv_at hl 1 rfl) ?_
            refine va_get (D := (dC, dI)) (ci := 8) (v := .int (g8_place u0)) (C := RX8) (T := TX8) (N := 9) hx hb hts inX8_wordNumber_8 hown hK hP 0 rfl rfl 5 (by decide) (hts _ kX8_wordNumber_1) (fun _ h9 => h9) rfl dX8_wordNumber_90 ?_
            refine lv_icmp_ne (tgt := 98) hx hb dX8_wordNumber_93 (by decide) (fun cd => ?_) (fun cd => ?_)
            · have h := h.2 cd
              exact w_98 (fun x1 x2 x3 x4 => wp_X8_wordNumber_108 u0 (fun x1 x2 x3 x4 => wp_X8_wordNumber_12 u0 Q n x1 x2 x3 x4) Q x1 x2 x3 x4) (fun x1 x2 x3 x4 H locs ls hP hD hS hl h => w_108 (fun x1 x2 x3 x4 => wp_X8_wordNumber_12 u0 Q n x1 x2 x3 x4) (fun x1 x2 x3 x4 H locs ls hP hD hS hl h => ih x1 x2 x3 x4 H locs ls hP hD hS hl h) x1 x2 x3 x4 H locs ls hP hD hS hl h) x1 x4 _ _ _ hP hD hS (lv_sub hl [1, 2, 5] rfl) h
            · have h := h.1 cd
              refine lv_iload_n hx hb dX8_wordNumber_96 rfl (lv_at hl 2 rfl) ?_
              exact hret _ _ _ _ _ () dX8_wordNumber_97 (vp_nar_int _) h hP hD hS
        · have h := h.2 cd
          refine lv_iload_n hx hb dX8_wordNumber_38 rfl (lv_at hl 4 rfl) ?_
          refine lv_if_eq (tgt := 76) hx hb dX8_wordNumber_39 (by decide) (fun cd => ?_) (fun cd => ?_)
          · have h := h.1 cd
            exact w_76 (fun x1 x2 x4 y0 => wp_X8_wordNumber_77 u0 (fun x1 x2 x3 x4 => wp_X8_wordNumber_108 u0 (fun x1 x2 x3 x4 => wp_X8_wordNumber_12 u0 Q n x1 x2 x3 x4) Q x1 x2 x3 x4) Q x1 x2 x4 y0) (fun x1 x2 x4 y0 H locs ls hP hD hS hl h => w_77 (fun x1 x2 x3 x4 => wp_X8_wordNumber_108 u0 (fun x1 x2 x3 x4 => wp_X8_wordNumber_12 u0 Q n x1 x2 x3 x4) Q x1 x2 x3 x4) (fun x1 x2 x3 x4 H locs ls hP hD hS hl h => w_108 (fun x1 x2 x3 x4 => wp_X8_wordNumber_12 u0 Q n x1 x2 x3 x4) (fun x1 x2 x3 x4 H locs ls hP hD hS hl h => ih x1 x2 x3 x4 H locs ls hP hD hS hl h) x1 x2 x3 x4 H locs ls hP hD hS hl h) x1 x2 x4 y0 H locs ls hP hD hS hl h) x1 x2 x4 _ _ _ hP hD hS (lv_sub hl [1, 2, 3, 5] rfl) h
          · have h := h.2 cd
            refine lv_iload_n hx hb dX8_wordNumber_42 rfl (lv_at hl 3 rfl) ?_
            refine lv_if_lt (tgt := 76) hx hb dX8_wordNumber_43 (by decide) (fun cd => ?_) (fun cd => ?_)
            · have h := h.1 cd
              exact w_76 (fun x1 x2 x4 y0 => wp_X8_wordNumber_77 u0 (fun x1 x2 x3 x4 => wp_X8_wordNumber_108 u0 (fun x1 x2 x3 x4 => wp_X8_wordNumber_12 u0 Q n x1 x2 x3 x4) Q x1 x2 x3 x4) Q x1 x2 x4 y0) (fun x1 x2 x4 y0 H locs ls hP hD hS hl h => w_77 (fun x1 x2 x3 x4 => wp_X8_wordNumber_108 u0 (fun x1 x2 x3 x4 => wp_X8_wordNumber_12 u0 Q n x1 x2 x3 x4) Q x1 x2 x3 x4) (fun x1 x2 x3 x4 H locs ls hP hD hS hl h => w_108 (fun x1 x2 x3 x4 => wp_X8_wordNumber_12 u0 Q n x1 x2 x3 x4) (fun x1 x2 x3 x4 H locs ls hP hD hS hl h => ih x1 x2 x3 x4 H locs ls hP hD hS hl h) x1 x2 x3 x4 H locs ls hP hD hS hl h) x1 x2 x4 y0 H locs ls hP hD hS hl h) x1 x2 x4 _ _ _ hP hD hS (lv_sub hl [1, 2, 3, 5] rfl) h
            · have h := h.2 cd
              refine lv_iload_n hx hb dX8_wordNumber_46 rfl (lv_at hl 3 rfl) ?_
              refine lv_aload_n hx hb dX8_wordNumber_47 rfl (lv_at hl 1 rfl) ?_
              refine va_get (D := (dC, dI)) (ci := 8) (v := .int (g8_place u0)) (C := RX8) (T := TX8) (N := 9) hx hb hts inX8_wordNumber_8 hown hK hP 0 rfl rfl 5 (by decide) (hts _ kX8_wordNumber_1) (fun _ h9 => h9) rfl dX8_wordNumber_48 ?_
              refine lv_icmp_ge (tgt := 76) hx hb dX8_wordNumber_51 (by decide) (fun cd => ?_) (fun cd => ?_)
              · have h := h.1 cd
                exact w_76 (fun x1 x2 x4 y0 => wp_X8_wordNumber_77 u0 (fun x1 x2 x3 x4 => wp_X8_wordNumber_108 u0 (fun x1 x2 x3 x4 => wp_X8_wordNumber_12 u0 Q n x1 x2 x3 x4) Q x1 x2 x3 x4) Q x1 x2 x4 y0) (fun x1 x2 x4 y0 H locs ls hP hD hS hl h => w_77 (fun x1 x2 x3 x4 => wp_X8_wordNumber_108 u0 (fun x1 x2 x3 x4 => wp_X8_wordNumber_12 u0 Q n x1 x2 x3 x4) Q x1 x2 x3 x4) (fun x1 x2 x3 x4 H locs ls hP hD hS hl h => w_108 (fun x1 x2 x3 x4 => wp_X8_wordNumber_12 u0 Q n x1 x2 x3 x4) (fun x1 x2 x3 x4 H locs ls hP hD hS hl h => ih x1 x2 x3 x4 H locs ls hP hD hS hl h) x1 x2 x3 x4 H locs ls hP hD hS hl h) x1 x2 x4 y0 H locs ls hP hD hS hl h) x1 x2 x4 _ _ _ hP hD hS (lv_sub hl [1, 2, 3, 5] rfl) h
              · have h := h.2 cd
                refine lv_iload_n hx hb dX8_wordNumber_54 rfl (lv_at hl 3 rfl) ?_
                refine lv_sipush (v := 400) hx hb dX8_wordNumber_55 (by decide) ?_
                refine lv_icmp_ge (tgt := 76) hx hb dX8_wordNumber_58 (by decide) (fun cd => ?_) (fun cd => ?_)
                · have h := h.1 cd
                  exact w_76 (fun x1 x2 x4 y0 => wp_X8_wordNumber_77 u0 (fun x1 x2 x3 x4 => wp_X8_wordNumber_108 u0 (fun x1 x2 x3 x4 => wp_X8_wordNumber_12 u0 Q n x1 x2 x3 x4) Q x1 x2 x3 x4) Q x1 x2 x4 y0) (fun x1 x2 x4 y0 H locs ls hP hD hS hl h => w_77 (fun x1 x2 x3 x4 => wp_X8_wordNumber_108 u0 (fun x1 x2 x3 x4 => wp_X8_wordNumber_12 u0 Q n x1 x2 x3 x4) Q x1 x2 x3 x4) (fun x1 x2 x3 x4 H locs ls hP hD hS hl h => w_108 (fun x1 x2 x3 x4 => wp_X8_wordNumber_12 u0 Q n x1 x2 x3 x4) (fun x1 x2 x3 x4 H locs ls hP hD hS hl h => ih x1 x2 x3 x4 H locs ls hP hD hS hl h) x1 x2 x3 x4 H locs ls hP hD hS hl h) x1 x2 x4 y0 H locs ls hP hD hS hl h) x1 x2 x4 _ _ _ hP hD hS (lv_sub hl [1, 2, 3, 5] rfl) h
                · have h := h.2 cd
                  refine lv_aload_n hx hb dX8_wordNumber_61 rfl (lv_at hl 1 rfl) ?_
                  refine va_get (D := (dC, dI)) (ci := 8) (v := .ref (q0 1)) (C := RX8) (T := TX8) (N := 9) hx hb hts inX8_wordNumber_8 hown hK hP 0 rfl rfl 0 (by decide) (hts _ kX8_wordNumber_2) (fun _ h9 => h9) rfl dX8_wordNumber_62 ?_
                  refine lv_iload_n hx hb dX8_wordNumber_65 rfl (lv_at hl 3 rfl) ?_
                  refine va_iald hx hb hK hP 1 0 rfl rfl h.1 dX8_wordNumber_66 ?_
                  have h := h.2
                  refine lv_iload hx hb dX8_wordNumber_67 (lv_at hl 0 rfl) ?_
                  refine lv_icmp_ne (tgt := 76) hx hb dX8_wordNumber_69 (by decide) (fun cd => ?_) (fun cd => ?_)
                  · have h := h.2 cd
                    exact w_76 (fun x1 x2 x4 y0 => wp_X8_wordNumber_77 u0 (fun x1 x2 x3 x4 => wp_X8_wordNumber_108 u0 (fun x1 x2 x3 x4 => wp_X8_wordNumber_12 u0 Q n x1 x2 x3 x4) Q x1 x2 x3 x4) Q x1 x2 x4 y0) (fun x1 x2 x4 y0 H locs ls hP hD hS hl h => w_77 (fun x1 x2 x3 x4 => wp_X8_wordNumber_108 u0 (fun x1 x2 x3 x4 => wp_X8_wordNumber_12 u0 Q n x1 x2 x3 x4) Q x1 x2 x3 x4) (fun x1 x2 x3 x4 H locs ls hP hD hS hl h => w_108 (fun x1 x2 x3 x4 => wp_X8_wordNumber_12 u0 Q n x1 x2 x3 x4) (fun x1 x2 x3 x4 H locs ls hP hD hS hl h => ih x1 x2 x3 x4 H locs ls hP hD hS hl h) x1 x2 x3 x4 H locs ls hP hD hS hl h) x1 x2 x4 y0 H locs ls hP hD hS hl h) x1 x2 x4 _ _ _ hP hD hS (lv_sub hl [1, 2, 3, 5] rfl) h
                  · have h := h.1 cd
                    refine lv_iconst (v := 1) hx hb dX8_wordNumber_72 (by decide) ?_
                    refine lv_goto (tgt := 77) hx hb dX8_wordNumber_73 (by decide) ?_
                    exact w_77 (fun x1 x2 x3 x4 => wp_X8_wordNumber_108 u0 (fun x1 x2 x3 x4 => wp_X8_wordNumber_12 u0 Q n x1 x2 x3 x4) Q x1 x2 x3 x4) (fun x1 x2 x3 x4 H locs ls hP hD hS hl h => w_108 (fun x1 x2 x3 x4 => wp_X8_wordNumber_12 u0 Q n x1 x2 x3 x4) (fun x1 x2 x3 x4 H locs ls hP hD hS hl h => ih x1 x2 x3 x4 H locs ls hP hD hS hl h) x1 x2 x3 x4 H locs ls hP hD hS hl h) x1 x2 x4 1 _ _ _ hP hD hS (lv_sub hl [1, 2, 3, 5] rfl) h
  have hS : va_S A s.heap s.heap [] := va_S.rf
  refine lv_iconst (v := 0) hx hb dX8_wordNumber_0 (by decide) ?_
  refine lv_istore_n (lv' := [(1, .int 0), (0, .ref (q0 0))]) hx hb dX8_wordNumber_1 rfl hl (by decide) rfl (fun ls hl => ?_)
  refine lv_aload_n hx hb dX8_wordNumber_2 rfl (lv_at hl 1 rfl) ?_
  refine va_get (D := (dC, dI)) (ci := 8) (v := .int (g8_tokenPlace u0)) (C := RX8) (T := TX8) (N := 9) hx hb hts inX8_wordNumber_8 hown hK hP 0 rfl rfl 7 (by decide) (hts _ kX8_wordNumber_0) (fun _ h9 => h9) rfl dX8_wordNumber_3 ?_
  refine lv_topi (fun x2_6 e_x2_6 => ?_)
  have h := h x2_6 e_x2_6
  refine lv_istore_n (lv' := [(2, .int x2_6), (1, .int 0), (0, .ref (q0 0))]) hx hb dX8_wordNumber_6 rfl hl (by decide) rfl (fun ls hl => ?_)
  refine lv_iconst (v := 1) hx hb dX8_wordNumber_7 (by decide) ?_
  refine lv_istore_n (lv' := [(3, .int 1), (2, .int x2_6), (1, .int 0), (0, .ref (q0 0))]) hx hb dX8_wordNumber_8 rfl hl (by decide) rfl (fun ls hl => ?_)
  refine lv_iconst (v := 0) hx hb dX8_wordNumber_9 (by decide) ?_
  refine lv_istore (lv' := [(4, .int 0), (3, .int 1), (2, .int x2_6), (1, .int 0), (0, .ref (q0 0))]) hx hb dX8_wordNumber_10 hl (by decide) rfl (fun ls hl => ?_)
  obtain ⟨n0, h⟩ := h
  exact w_12 n0 0 x2_6 1 0 _ _ _ hP hD hS (lv_sub hl [4, 3, 2, 1, 0] rfl) h

set_option maxRecDepth 100000 in
theorem cut_71 (cI : ClassId) (q0 : Nat → Nat) (u0 : S8) : Cut (cs8 cI q0 u0) (cs8 cI q0 u0) (fun _ : Unit => cs8 cI q0 u0) (fun _ : Unit => cs8 cI q0 u0) := ⟨[0, 1, 2, 3], [], rfl, rfl, rfl, by decide, by decide, fun _ => ⟨[0, 1, 2, 3], rfl, rfl⟩⟩

set_option maxRecDepth 100000 in
theorem cut_72 (cI : ClassId) (q0 : Nat → Nat) (u0 : S8) : Cut (cs8 cI q0 u0) (([] : va_W)) (fun _ : Unit => ([] : va_W)) (fun _ : Unit => cs8 cI q0 u0) := ⟨[], [0, 1, 2, 3], rfl, rfl, rfl, by decide, by decide, fun _ => ⟨[0, 1, 2, 3], rfl, rfl⟩⟩

abbrev rX8_takeWord : Room := { frames := 5, cells := 0, slots := 0, locals := 110 }
theorem hdX8_takeWord : yX8_takeWord.cls = RX8 ∧ yX8_takeWord.cls ≠ "java/lang/invoke/MethodHandle" ∧ yX8_takeWord.cls ≠ "java/lang/invoke/VarHandle" ∧ (parseMethodDescriptor yX8_takeWord.desc).map (fun d => d.parameters.length) = some 0 := by decide +kernel
theorem inX8_takeWord_8 : ∀ w ∈ wsX80, w ∈ wsX8_takeWord := by decide +kernel
theorem kX8_takeWord_0 : Cond.fieldLink RX8 35 "AheadStore$Tape" "token" "I" ∈ wsX8_takeWord := by decide +kernel
theorem kX8_takeWord_1 : Cond.fieldLink RX8 41 "AheadStore$Tape" "value" "I" ∈ wsX8_takeWord := by decide +kernel
theorem kX8_takeWord_2 : Cond.fieldLink RX8 32 "AheadStore$Tape" "place" "I" ∈ wsX8_takeWord := by decide +kernel
theorem kX8_takeWord_3 : Cond.fieldLink RX8 15 "AheadStore$Tape" "size" "I" ∈ wsX8_takeWord := by decide +kernel
set_option maxHeartbeats 4000000 in
set_option maxRecDepth 100000 in
theorem c_X8_takeWord {l : Launch} {dC : Nat → ClassId} {dI : Nat → Nat → Nat} {cI : ClassId} {q0 : Nat → Nat} {sz : Nat} {u0 : S8}  {Q : S8 → Prop} (h : wp_X8_takeWord u0 Q) : ctV tyE l yX8_takeWord wsX8_takeWord rX8_takeWord (dC, dI) vwCl [(cI, .int)] [.ref (q0 0)] (cs8 cI q0 u0) sz (fun (v : S8) => Q v) (fun (v : S8) => cs8 cI q0 v) := by
  refine mx_v (cc := cX8_takeWord) (maxL := 1) (by decide) rfl (Nat.le_of_ble_eq_true rfl) ?_
  intro p e s m below meth c Z A ls args hx hb hml hown hts hA hP hK hD hE hl hret
  have hown : s.vm.findClass RX8 = some m.cls := hown
  have hl : lv_has ls 1 [(0, .ref (q0 0))] := hl
  have w_56 : ∀ (y1 : Int32) (u0 : S8) (H : Heap) (locs : List Loc) (ls : Array Slot) (_ : va_P (dC, dI) vwCl (cs8 cI q0 u0) H) (_ : va_D A (cs8 cI q0 u0)) (_ : va_S A s.heap H locs) (_ : lv_has ls 1 []) (_ : wp_X8_takeWord_56 Q y1 u0), W p l e rX8_takeWord s m args below meth c H locs 0 0 Z (F0 m 56 ls [.int y1, .ref (q0 0)]) := by
    intro y1 u0 H locs ls hP hD hS hl h
    refine va_put (D := (dC, dI)) (ci := 8) (v := .int y1) (ty := .int) (C := RX8) (T := TX8) (N := 9) hx hb hts inX8_takeWord_8 tyX8 tyX8_ok nmX8 hown hK hP hD hS 0 rfl rfl 6 (by decide) (hts _ kX8_takeWord_0) (fun _ h9 => h9) rfl (tyX8_ok 6 (by decide)) rfl rfl (Nat.le_of_ble_eq_true rfl) dX8_takeWord_56 (fun H locs hP hD hS => ?_)
    obtain ⟨u0_1, e_u0_1⟩ : ∃ z, z = s8_token u0 y1 := ⟨_, rfl⟩
    have h := h u0_1 e_u0_1
    have hP : va_P (dC, dI) vwCl (cs8 cI q0 u0_1) H := by rw [e_u0_1]; exact hP
    have hD : va_D A (cs8 cI q0 u0_1) := by rw [e_u0_1]; exact hD
    exact hret _ _ _ _ u0_1 dX8_takeWord_59 h hP hD hS
  have w_34 : ∀ (u0 : S8) (H : Heap) (locs : List Loc) (ls : Array Slot) (_ : va_P (dC, dI) vwCl (cs8 cI q0 u0) H) (_ : va_D A (cs8 cI q0 u0)) (_ : va_S A s.heap H locs) (_ : lv_has ls 1 [(0, .ref (q0 0))]) (_ : wp_X8_takeWord_34 Q u0), W p l e rX8_takeWord s m args below meth c H locs 0 0 Z (F0 m 34 ls []) := by
    intro u0 H locs ls hP hD hS hl h
    refine lv_aload_n hx hb dX8_takeWord_34 rfl (lv_at hl 0 rfl) ?_
    refine lv_aload_n hx hb dX8_takeWord_35 rfl (lv_at hl 0 rfl) ?_
    refine cx_vi (As := []) (rest := [.ref (q0 0)]) ⟨hx, hb, hml, hown, hts⟩ hl.1 ok_tyE hE hK hP hD hS hA (cut_71 cI q0 u0) (c_X8_wordNumber (l := l) (dC := dC) (dI := dI) (cI := cI) (q0 := q0) h) (cwV 0 hts gX8_takeWord_X8_wordNumber rfl rfl rfl hdX8_wordNumber ⟨Nat.le_of_ble_eq_true rfl, Nat.le_of_ble_eq_true rfl⟩) rfl rfl rfl rfl (Nat.le_of_ble_eq_true rfl) dX8_takeWord_36 rfl (fun r_2 _ H locs h hP hD hS => ?_)
    refine va_put (D := (dC, dI)) (ci := 8) (v := .int r_2) (ty := .int) (C := RX8) (T := TX8) (N := 9) hx hb hts inX8_takeWord_8 tyX8 tyX8_ok nmX8 hown hK hP hD hS 0 rfl rfl 8 (by decide) (hts _ kX8_takeWord_1) (fun _ h9 => h9) rfl (tyX8_ok 8 (by decide)) rfl rfl (Nat.le_of_ble_eq_true rfl) dX8_takeWord_39 (fun H locs hP hD hS => ?_)
    obtain ⟨u0_3, e_u0_3⟩ : ∃ z, z = s8_value u0 r_2 := ⟨_, rfl⟩
    have h := h u0_3 e_u0_3
    have hP : va_P (dC, dI) vwCl (cs8 cI q0 u0_3) H := by rw [e_u0_3]; exact hP
    have hD : va_D A (cs8 cI q0 u0_3) := by rw [e_u0_3]; exact hD
    refine lv_aload_n hx hb dX8_takeWord_42 rfl (lv_at hl 0 rfl) ?_
    refine lv_aload_n hx hb dX8_takeWord_43 rfl (lv_at hl 0 rfl) ?_
    refine va_get (D := (dC, dI)) (ci := 8) (v := .int (g8_value u0_3)) (C := RX8) (T := TX8) (N := 9) hx hb hts inX8_takeWord_8 hown hK hP 0 rfl rfl 8 (by decide) (hts _ kX8_takeWord_1) (fun _ h9 => h9) rfl dX8_takeWord_44 ?_
    refine lv_iconst (v := (-1)) hx hb dX8_takeWord_47 (by decide) ?_
    refine lv_icmp_ne (tgt := 55) hx hb dX8_takeWord_48 (by decide) (fun cd => ?_) (fun cd => ?_)
    · have h := h.2 cd
      refine lv_iconst (v := 1) hx hb dX8_takeWord_55 (by decide) ?_
      exact w_56 1 u0_3 _ _ _ hP hD hS (lv_sub hl [] rfl) h
    · have h := h.1 cd
      refine lv_iconst (v := 4) hx hb dX8_takeWord_51 (by decide) ?_
      refine lv_goto (tgt := 56) hx hb dX8_takeWord_52 (by decide) ?_
      exact w_56 4 u0_3 _ _ _ hP hD hS (lv_sub hl [] rfl) h
  have w_0 : ∀ (n : Nat) (u0 : S8) (H : Heap) (locs : List Loc) (ls : Array Slot) (_ : va_P (dC, dI) vwCl (cs8 cI q0 u0) H) (_ : va_D A (cs8 cI q0 u0)) (_ : va_S A s.heap H locs) (_ : lv_has ls 1 [(0, .ref (q0 0))]) (_ : wp_X8_takeWord_0 Q n u0), W p l e rX8_takeWord s m args below meth c H locs 0 0 Z (F0 m 0 ls []) := by
    intro n
    induction n with
    | zero => intro u0 H locs ls hP hD hS hl h; exact False.elim h
    | succ n ih =>
      intro u0 H locs ls hP hD hS hl h
      refine lv_aload_n hx hb dX8_takeWord_0 rfl (lv_at hl 0 rfl) ?_
      refine va_get (D := (dC, dI)) (ci := 8) (v := .int (g8_place u0)) (C := RX8) (T := TX8) (N := 9) hx hb hts inX8_takeWord_8 hown hK hP 0 rfl rfl 5 (by decide) (hts _ kX8_takeWord_2) (fun _ h9 => h9) rfl dX8_takeWord_1 ?_
      refine lv_aload_n hx hb dX8_takeWord_4 rfl (lv_at hl 0 rfl) ?_
      refine va_get (D := (dC, dI)) (ci := 8) (v := .int (g8_size u0)) (C := RX8) (T := TX8) (N := 9) hx hb hts inX8_takeWord_8 hown hK hP 0 rfl rfl 1 (by decide) (hts _ kX8_takeWord_3) (fun _ h9 => h9) rfl dX8_takeWord_5 ?_
      refine lv_icmp_ge (tgt := 34) hx hb dX8_takeWord_8 (by decide) (fun cd => ?_) (fun cd => ?_)
      · have h := h.1 cd
        exact w_34 u0 _ _ _ hP hD hS (lv_sub hl [0] rfl) h
      · have h := h.2 cd
        refine lv_aload_n hx hb dX8_takeWord_11 rfl (lv_at hl 0 rfl) ?_
        refine cx_vi (As := []) (rest := []) ⟨hx, hb, hml, hown, hts⟩ hl.1 ok_sxE hE.1 hK hP hD hS hA (cut_71 cI q0 u0) (c_X8_byteHere (l := l) (dC := dC) (dI := dI) (cI := cI) (q0 := q0) h) (cwV 0 hts gX8_takeWord_X8_byteHere rfl rfl rfl hdX8_byteHere ⟨Nat.le_of_ble_eq_true rfl, Nat.le_of_ble_eq_true rfl⟩) rfl rfl rfl rfl (Nat.le_of_ble_eq_true rfl) dX8_takeWord_12 rfl (fun r_4 _ H locs h hP hD hS => ?_)
        refine cx_si (As := [.int r_4]) (rest := []) ⟨hx, hb, hml, hown, hts⟩ hl.1 ok_noE trivial hK hP hD hS hA (cut_72 cI q0 u0) (c_X8_isLetter (l := l) (dC := dC) (dI := dI) (cI := cI) h) (va_cwS 1 hts gX8_takeWord_X8_isLetter rfl rfl rfl hdX8_isLetter ⟨Nat.le_of_ble_eq_true rfl, Nat.le_of_ble_eq_true rfl⟩) rfl (Nat.le_of_ble_eq_true rfl) dX8_takeWord_15 rfl (fun r_5 _ H locs h hP hD hS => ?_)
        refine lv_if_eq (tgt := 34) hx hb dX8_takeWord_18 (by decide) (fun cd => ?_) (fun cd => ?_)
        · have h := h.1 cd
          exact w_34 u0 _ _ _ hP hD hS (lv_sub hl [0] rfl) h
        · have h := h.2 cd
          refine lv_aload_n hx hb dX8_takeWord_21 rfl (lv_at hl 0 rfl) ?_
          refine lv_dup hx hb dX8_takeWord_22 rfl ?_
          refine va_get (D := (dC, dI)) (ci := 8) (v := .int (g8_place u0)) (C := RX8) (T := TX8) (N := 9) hx hb hts inX8_takeWord_8 hown hK hP 0 rfl rfl 5 (by decide) (hts _ kX8_takeWord_2) (fun _ h9 => h9) rfl dX8_takeWord_23 ?_
          refine lv_iconst (v := 1) hx hb dX8_takeWord_26 (by decide) ?_
          refine lv_iadd hx hb dX8_takeWord_27 ?_
          refine va_put (D := (dC, dI)) (ci := 8) (v := .int ((g8_place u0) + 1)) (ty := .int) (C := RX8) (T := TX8) (N := 9) hx hb hts inX8_takeWord_8 tyX8 tyX8_ok nmX8 hown hK hP hD hS 0 rfl rfl 5 (by decide) (hts _ kX8_takeWord_2) (fun _ h9 => h9) rfl (tyX8_ok 5 (by decide)) rfl rfl (Nat.le_of_ble_eq_true rfl) dX8_takeWord_28 (fun H locs hP hD hS => ?_)
          obtain ⟨u0_6, e_u0_6⟩ : ∃ z, z = s8_place u0 ((g8_place u0) + 1) := ⟨_, rfl⟩
          have h := h u0_6 e_u0_6
          have hP : va_P (dC, dI) vwCl (cs8 cI q0 u0_6) H := by rw [e_u0_6]; exact hP
          have hD : va_D A (cs8 cI q0 u0_6) := by rw [e_u0_6]; exact hD
          refine lv_goto (tgt := 0) hx hb dX8_takeWord_31 (by decide) ?_
          exact ih u0_6 _ _ _ hP hD hS (lv_sub hl [0] rfl) h
  have hS : va_S A s.heap s.heap [] := va_S.rf
  obtain ⟨n0, h⟩ := h
  exact w_0 n0 u0 _ _ _ hP hD hS (lv_sub hl [0] rfl) h

abbrev rX8_takeNumber : Room := { frames := 1, cells := 0, slots := 0, locals := 20 }
theorem hdX8_takeNumber : yX8_takeNumber.cls = RX8 ∧ yX8_takeNumber.cls ≠ "java/lang/invoke/MethodHandle" ∧ yX8_takeNumber.cls ≠ "java/lang/invoke/VarHandle" ∧ (parseMethodDescriptor yX8_takeNumber.desc).map (fun d => d.parameters.length) = some 0 := by decide +kernel
theorem inX8_takeNumber_8 : ∀ w ∈ wsX80, w ∈ wsX8_takeNumber := by decide +kernel
theorem kX8_takeNumber_0 : Cond.fieldLink RX8 35 "AheadStore$Tape" "token" "I" ∈ wsX8_takeNumber := by decide +kernel
theorem kX8_takeNumber_1 : Cond.fieldLink RX8 38 "AheadStore$Tape" "tokenPlace" "I" ∈ wsX8_takeNumber := by decide +kernel
theorem kX8_takeNumber_2 : Cond.fieldLink RX8 32 "AheadStore$Tape" "place" "I" ∈ wsX8_takeNumber := by decide +kernel
theorem kX8_takeNumber_3 : Cond.fieldLink RX8 41 "AheadStore$Tape" "value" "I" ∈ wsX8_takeNumber := by decide +kernel
theorem kX8_takeNumber_4 : Cond.fieldLink RX8 15 "AheadStore$Tape" "size" "I" ∈ wsX8_takeNumber := by decide +kernel
set_option maxHeartbeats 4000000 in
set_option maxRecDepth 100000 in
theorem c_X8_takeNumber {l : Launch} {dC : Nat → ClassId} {dI : Nat → Nat → Nat} {cI : ClassId} {q0 : Nat → Nat} {sz : Nat} {u0 : S8}  {Q : S8 → Prop} (h : wp_X8_takeNumber u0 Q) : ctV sxE l yX8_takeNumber wsX8_takeNumber rX8_takeNumber (dC, dI) vwCl [(cI, .int)] [.ref (q0 0)] (cs8 cI q0 u0) sz (fun (v : S8) => Q v) (fun (v : S8) => cs8 cI q0 v) := by
  refine mx_v (cc := cX8_takeNumber) (maxL := 1) (by decide) rfl (Nat.le_of_ble_eq_true rfl) ?_
  intro p e s m below meth c Z A ls args hx hb hml hown hts hA hP hK hD hE hl hret
  have hown : s.vm.findClass RX8 = some m.cls := hown
  have hl : lv_has ls 1 [(0, .ref (q0 0))] := hl
  have w_77 : ∀ (y1 : Int32) (u0 : S8) (H : Heap) (locs : List Loc) (ls : Array Slot) (_ : va_P (dC, dI) vwCl (cs8 cI q0 u0) H) (_ : va_D A (cs8 cI q0 u0)) (_ : va_S A s.heap H locs) (_ : lv_has ls 1 []) (_ : wp_X8_takeNumber_77 Q y1 u0), W p l e rX8_takeNumber s m args below meth c H locs 0 0 Z (F0 m 77 ls [.int y1, .ref (q0 0)]) := by
    intro y1 u0 H locs ls hP hD hS hl h
    refine va_put (D := (dC, dI)) (ci := 8) (v := .int y1) (ty := .int) (C := RX8) (T := TX8) (N := 9) hx hb hts inX8_takeNumber_8 tyX8 tyX8_ok nmX8 hown hK hP hD hS 0 rfl rfl 6 (by decide) (hts _ kX8_takeNumber_0) (fun _ h9 => h9) rfl (tyX8_ok 6 (by decide)) rfl rfl (Nat.le_of_ble_eq_true rfl) dX8_takeNumber_77 (fun H locs hP hD hS => ?_)
    obtain ⟨u0_1, e_u0_1⟩ : ∃ z, z = s8_token u0 y1 := ⟨_, rfl⟩
    have h := h u0_1 e_u0_1
    have hP : va_P (dC, dI) vwCl (cs8 cI q0 u0_1) H := by rw [e_u0_1]; exact hP
    have hD : va_D A (cs8 cI q0 u0_1) := by rw [e_u0_1]; exact hD
    exact hret _ _ _ _ u0_1 dX8_takeNumber_80 h hP hD hS
  have w_58 : ∀ (u0 : S8) (H : Heap) (locs : List Loc) (ls : Array Slot) (_ : va_P (dC, dI) vwCl (cs8 cI q0 u0) H) (_ : va_D A (cs8 cI q0 u0)) (_ : va_S A s.heap H locs) (_ : lv_has ls 1 [(0, .ref (q0 0))]) (_ : wp_X8_takeNumber_58 Q u0), W p l e rX8_takeNumber s m args below meth c H locs 0 0 Z (F0 m 58 ls []) := by
    intro u0 H locs ls hP hD hS hl h
    refine lv_aload_n hx hb dX8_takeNumber_58 rfl (lv_at hl 0 rfl) ?_
    refine lv_aload_n hx hb dX8_takeNumber_59 rfl (lv_at hl 0 rfl) ?_
    refine va_get (D := (dC, dI)) (ci := 8) (v := .int (g8_place u0)) (C := RX8) (T := TX8) (N := 9) hx hb hts inX8_takeNumber_8 hown hK hP 0 rfl rfl 5 (by decide) (hts _ kX8_takeNumber_2) (fun _ h9 => h9) rfl dX8_takeNumber_60 ?_
    refine lv_aload_n hx hb dX8_takeNumber_63 rfl (lv_at hl 0 rfl) ?_
    refine va_get (D := (dC, dI)) (ci := 8) (v := .int (g8_tokenPlace u0)) (C := RX8) (T := TX8) (N := 9) hx hb hts inX8_takeNumber_8 hown hK hP 0 rfl rfl 7 (by decide) (hts _ kX8_takeNumber_1) (fun _ h9 => h9) rfl dX8_takeNumber_64 ?_
    refine lv_isub hx hb dX8_takeNumber_67 ?_
    refine lv_iconst (v := 4) hx hb dX8_takeNumber_68 (by decide) ?_
    refine lv_icmp_le (tgt := 76) hx hb dX8_takeNumber_69 (by decide) (fun cd => ?_) (fun cd => ?_)
    · have h := h.1 cd
      refine lv_iconst (v := 2) hx hb dX8_takeNumber_76 (by decide) ?_
      exact w_77 2 u0 _ _ _ hP hD hS (lv_sub hl [] rfl) h
    · have h := h.2 cd
      refine lv_iconst (v := 4) hx hb dX8_takeNumber_72 (by decide) ?_
      refine lv_goto (tgt := 77) hx hb dX8_takeNumber_73 (by decide) ?_
      exact w_77 4 u0 _ _ _ hP hD hS (lv_sub hl [] rfl) h
  have w_5 : ∀ (n : Nat) (u0 : S8) (H : Heap) (locs : List Loc) (ls : Array Slot) (_ : va_P (dC, dI) vwCl (cs8 cI q0 u0) H) (_ : va_D A (cs8 cI q0 u0)) (_ : va_S A s.heap H locs) (_ : lv_has ls 1 [(0, .ref (q0 0))]) (_ : wp_X8_takeNumber_5 Q n u0), W p l e rX8_takeNumber s m args below meth c H locs 0 0 Z (F0 m 5 ls []) := by
    intro n
    induction n with
    | zero => intro u0 H locs ls hP hD hS hl h; exact False.elim h
    | succ n ih =>
      intro u0 H locs ls hP hD hS hl h
      refine lv_aload_n hx hb dX8_takeNumber_5 rfl (lv_at hl 0 rfl) ?_
      refine va_get (D := (dC, dI)) (ci := 8) (v := .int (g8_place u0)) (C := RX8) (T := TX8) (N := 9) hx hb hts inX8_takeNumber_8 hown hK hP 0 rfl rfl 5 (by decide) (hts _ kX8_takeNumber_2) (fun _ h9 => h9) rfl dX8_takeNumber_6 ?_
      refine lv_aload_n hx hb dX8_takeNumber_9 rfl (lv_at hl 0 rfl) ?_
      refine va_get (D := (dC, dI)) (ci := 8) (v := .int (g8_size u0)) (C := RX8) (T := TX8) (N := 9) hx hb hts inX8_takeNumber_8 hown hK hP 0 rfl rfl 1 (by decide) (hts _ kX8_takeNumber_4) (fun _ h9 => h9) rfl dX8_takeNumber_10 ?_
      refine lv_icmp_ge (tgt := 58) hx hb dX8_takeNumber_13 (by decide) (fun cd => ?_) (fun cd => ?_)
      · have h := h.1 cd
        exact w_58 u0 _ _ _ hP hD hS (lv_sub hl [0] rfl) h
      · have h := h.2 cd
        refine lv_aload_n hx hb dX8_takeNumber_16 rfl (lv_at hl 0 rfl) ?_
        refine cx_vi (As := []) (rest := []) ⟨hx, hb, hml, hown, hts⟩ hl.1 ok_sxE hE hK hP hD hS hA (cut_71 cI q0 u0) (c_X8_byteHere (l := l) (dC := dC) (dI := dI) (cI := cI) (q0 := q0) h) (cwV 0 hts gX8_takeNumber_X8_byteHere rfl rfl rfl hdX8_byteHere ⟨Nat.le_of_ble_eq_true rfl, Nat.le_of_ble_eq_true rfl⟩) rfl rfl rfl rfl (Nat.le_of_ble_eq_true rfl) dX8_takeNumber_17 rfl (fun r_2 _ H locs h hP hD hS => ?_)
        refine cx_si (As := [.int r_2]) (rest := []) ⟨hx, hb, hml, hown, hts⟩ hl.1 ok_noE trivial hK hP hD hS hA (cut_72 cI q0 u0) (c_X8_isDigit (l := l) (dC := dC) (dI := dI) (cI := cI) h) (va_cwS 1 hts gX8_takeNumber_X8_isDigit rfl rfl rfl hdX8_isDigit ⟨Nat.le_of_ble_eq_true rfl, Nat.le_of_ble_eq_true rfl⟩) rfl (Nat.le_of_ble_eq_true rfl) dX8_takeNumber_20 rfl (fun r_3 _ H locs h hP hD hS => ?_)
        refine lv_if_eq (tgt := 58) hx hb dX8_takeNumber_23 (by decide) (fun cd => ?_) (fun cd => ?_)
        · have h := h.1 cd
          exact w_58 u0 _ _ _ hP hD hS (lv_sub hl [0] rfl) h
        · have h := h.2 cd
          refine lv_aload_n hx hb dX8_takeNumber_26 rfl (lv_at hl 0 rfl) ?_
          refine lv_aload_n hx hb dX8_takeNumber_27 rfl (lv_at hl 0 rfl) ?_
          refine va_get (D := (dC, dI)) (ci := 8) (v := .int (g8_value u0)) (C := RX8) (T := TX8) (N := 9) hx hb hts inX8_takeNumber_8 hown hK hP 0 rfl rfl 8 (by decide) (hts _ kX8_takeNumber_3) (fun _ h9 => h9) rfl dX8_takeNumber_28 ?_
          refine lv_bipush (v := 10) hx hb dX8_takeNumber_31 (by decide) ?_
          refine lv_imul hx hb dX8_takeNumber_33 ?_
          refine lv_aload_n hx hb dX8_takeNumber_34 rfl (lv_at hl 0 rfl) ?_
          refine cx_vi (As := []) (rest := [.int ((g8_value u0) * 10), .ref (q0 0)]) ⟨hx, hb, hml, hown, hts⟩ hl.1 ok_sxE hE hK hP hD hS hA (cut_71 cI q0 u0) (c_X8_byteHere (l := l) (dC := dC) (dI := dI) (cI := cI) (q0 := q0) h) (cwV 0 hts gX8_takeNumber_X8_byteHere rfl rfl rfl hdX8_byteHere ⟨Nat.le_of_ble_eq_true rfl, Nat.le_of_ble_eq_true rfl⟩) rfl rfl rfl rfl (Nat.le_of_ble_eq_true rfl) dX8_takeNumber_35 rfl (fun r_4 _ H locs h hP hD hS => ?_)
          refine lv_iadd hx hb dX8_takeNumber_38 ?_
          refine lv_bipush (v := 48) hx hb dX8_takeNumber_39 (by decide) ?_
          refine lv_isub hx hb dX8_takeNumber_41 ?_
          refine va_put (D := (dC, dI)) (ci := 8) (v := .int ((((g8_value u0) * 10) + r_4) - 48)) (ty := .int) (C := RX8) (T := TX8) (N := 9) hx hb hts inX8_takeNumber_8 tyX8 tyX8_ok nmX8 hown hK hP hD hS 0 rfl rfl 8 (by decide) (hts _ kX8_takeNumber_3) (fun _ h9 => h9) rfl (tyX8_ok 8 (by decide)) rfl rfl (Nat.le_of_ble_eq_true rfl) dX8_takeNumber_42 (fun H locs hP hD hS => ?_)
          obtain ⟨u0_5, e_u0_5⟩ : ∃ z, z = s8_value u0 ((((g8_value u0) * 10) + r_4) - 48) := ⟨_, rfl⟩
          have h := h u0_5 e_u0_5
          have hP : va_P (dC, dI) vwCl (cs8 cI q0 u0_5) H := by rw [e_u0_5]; exact hP
          have hD : va_D A (cs8 cI q0 u0_5) := by rw [e_u0_5]; exact hD
          refine lv_aload_n hx hb dX8_takeNumber_45 rfl (lv_at hl 0 rfl) ?_
          refine lv_dup hx hb dX8_takeNumber_46 rfl ?_
          refine va_get (D := (dC, dI)) (ci := 8) (v := .int (g8_place u0_5)) (C := RX8) (T := TX8) (N := 9) hx hb hts inX8_takeNumber_8 hown hK hP 0 rfl rfl 5 (by decide) (hts _ kX8_takeNumber_2) (fun _ h9 => h9) rfl dX8_takeNumber_47 ?_
          refine lv_iconst (v := 1) hx hb dX8_takeNumber_50 (by decide) ?_
          refine lv_iadd hx hb dX8_takeNumber_51 ?_
          refine va_put (D := (dC, dI)) (ci := 8) (v := .int ((g8_place u0_5) + 1)) (ty := .int) (C := RX8) (T := TX8) (N := 9) hx hb hts inX8_takeNumber_8 tyX8 tyX8_ok nmX8 hown hK hP hD hS 0 rfl rfl 5 (by decide) (hts _ kX8_takeNumber_2) (fun _ h9 => h9) rfl (tyX8_ok 5 (by decide)) rfl rfl (Nat.le_of_ble_eq_true rfl) dX8_takeNumber_52 (fun H locs hP hD hS => ?_)
          obtain ⟨u0_6, e_u0_6⟩ : ∃ z, z = s8_place u0_5 ((g8_place u0_5) + 1) := ⟨_, rfl⟩
          have h := h u0_6 e_u0_6
          have hP : va_P (dC, dI) vwCl (cs8 cI q0 u0_6) H := by rw [e_u0_6]; exact hP
          have hD : va_D A (cs8 cI q0 u0_6) := by rw [e_u0_6]; exact hD
          refine lv_goto (tgt := 5) hx hb dX8_takeNumber_55 (by decide) ?_
          exact ih u0_6 _ _ _ hP hD hS (lv_sub hl [0] rfl) h
  have hS : va_S A s.heap s.heap [] := va_S.rf
  refine lv_aload_n hx hb dX8_takeNumber_0 rfl (lv_at hl 0 rfl) ?_
  refine lv_iconst (v := 0) hx hb dX8_takeNumber_1 (by decide) ?_
  refine va_put (D := (dC, dI)) (ci := 8) (v := .int 0) (ty := .int) (C := RX8) (T := TX8) (N := 9) hx hb hts inX8_takeNumber_8 tyX8 tyX8_ok nmX8 hown hK hP hD hS 0 rfl rfl 8 (by decide) (hts _ kX8_takeNumber_3) (fun _ h9 => h9) rfl (tyX8_ok 8 (by decide)) rfl rfl (Nat.le_of_ble_eq_true rfl) dX8_takeNumber_2 (fun H locs hP hD hS => ?_)
  obtain ⟨u0_7, e_u0_7⟩ : ∃ z, z = s8_value u0 0 := ⟨_, rfl⟩
  have h := h u0_7 e_u0_7
  have hP : va_P (dC, dI) vwCl (cs8 cI q0 u0_7) H := by rw [e_u0_7]; exact hP
  have hD : va_D A (cs8 cI q0 u0_7) := by rw [e_u0_7]; exact hD
  obtain ⟨n0, h⟩ := h
  exact w_5 n0 u0_7 _ _ _ hP hD hS (lv_sub hl [0] rfl) h

set_option maxRecDepth 100000 in
theorem cut_73 (cI : ClassId) (q0 : Nat → Nat) (u0 : S8) : Cut (cs8 cI q0 u0) (cs8 cI q0 u0) (fun v : S8 => cs8 cI q0 v) (fun v : S8 => cs8 cI q0 v) := ⟨[0, 1, 2, 3], [], rfl, rfl, rfl, by decide, by decide, fun v => ⟨[0, 1, 2, 3], rfl, rfl⟩⟩

abbrev rX8_nextToken : Room := { frames := 6, cells := 0, slots := 0, locals := 130 }
theorem hdX8_nextToken : yX8_nextToken.cls = RX8 ∧ yX8_nextToken.cls ≠ "java/lang/invoke/MethodHandle" ∧ yX8_nextToken.cls ≠ "java/lang/invoke/VarHandle" ∧ (parseMethodDescriptor yX8_nextToken.desc).map (fun d => d.parameters.length) = some 0 := by decide +kernel
theorem inX8_nextToken_8 : ∀ w ∈ wsX80, w ∈ wsX8_nextToken := by decide +kernel
theorem kX8_nextToken_0 : Cond.fieldLink RX8 32 "AheadStore$Tape" "place" "I" ∈ wsX8_nextToken := by decide +kernel
theorem kX8_nextToken_1 : Cond.fieldLink RX8 35 "AheadStore$Tape" "token" "I" ∈ wsX8_nextToken := by decide +kernel
theorem kX8_nextToken_2 : Cond.fieldLink RX8 38 "AheadStore$Tape" "tokenPlace" "I" ∈ wsX8_nextToken := by decide +kernel
theorem kX8_nextToken_3 : Cond.fieldLink RX8 15 "AheadStore$Tape" "size" "I" ∈ wsX8_nextToken := by decide +kernel
set_option maxHeartbeats 4000000 in
set_option maxRecDepth 100000 in
theorem c_X8_nextToken {l : Launch} {dC : Nat → ClassId} {dI : Nat → Nat → Nat} {cI : ClassId} {q0 : Nat → Nat} {sz : Nat} {u0 : S8}  {Q : S8 → Prop} (h : wp_X8_nextToken u0 Q) : ctV tyE l yX8_nextToken wsX8_nextToken rX8_nextToken (dC, dI) vwCl [(cI, .int)] [.ref (q0 0)] (cs8 cI q0 u0) sz (fun (v : S8) => Q v) (fun (v : S8) => cs8 cI q0 v) := by
  refine mx_v (cc := cX8_nextToken) (maxL := 2) (by decide) rfl (Nat.le_of_ble_eq_true rfl) ?_
  intro p e s m below meth c Z A ls args hx hb hml hown hts hA hP hK hD hE hl hret
  have hown : s.vm.findClass RX8 = some m.cls := hown
  have hl : lv_has ls 2 [(0, .ref (q0 0))] := hl
  have w_108 : ∀ (y1 : Int32) (u0 : S8) (H : Heap) (locs : List Loc) (ls : Array Slot) (_ : va_P (dC, dI) vwCl (cs8 cI q0 u0) H) (_ : va_D A (cs8 cI q0 u0)) (_ : va_S A s.heap H locs) (_ : lv_has ls 2 [(0, .ref (q0 0))]) (_ : wp_X8_nextToken_108 Q y1 u0), W p l e rX8_nextToken s m args below meth c H locs 0 0 Z (F0 m 108 ls [.int y1, .ref (q0 0)]) := by
    intro y1 u0 H locs ls hP hD hS hl h
    refine va_put (D := (dC, dI)) (ci := 8) (v := .int y1) (ty := .int) (C := RX8) (T := TX8) (N := 9) hx hb hts inX8_nextToken_8 tyX8 tyX8_ok nmX8 hown hK hP hD hS 0 rfl rfl 6 (by decide) (hts _ kX8_nextToken_1) (fun _ h9 => h9) rfl (tyX8_ok 6 (by decide)) rfl rfl (Nat.le_of_ble_eq_true rfl) dX8_nextToken_108 (fun H locs hP hD hS => ?_)
    obtain ⟨u0_1, e_u0_1⟩ : ∃ z, z = s8_token u0 y1 := ⟨_, rfl⟩
    have h := h u0_1 e_u0_1
    have hP : va_P (dC, dI) vwCl (cs8 cI q0 u0_1) H := by rw [e_u0_1]; exact hP
    have hD : va_D A (cs8 cI q0 u0_1) := by rw [e_u0_1]; exact hD
    refine lv_aload_n hx hb dX8_nextToken_111 rfl (lv_at hl 0 rfl) ?_
    refine lv_dup hx hb dX8_nextToken_112 rfl ?_
    refine va_get (D := (dC, dI)) (ci := 8) (v := .int (g8_place u0_1)) (C := RX8) (T := TX8) (N := 9) hx hb hts inX8_nextToken_8 hown hK hP 0 rfl rfl 5 (by decide) (hts _ kX8_nextToken_0) (fun _ h9 => h9) rfl dX8_nextToken_113 ?_
    refine lv_iconst (v := 1) hx hb dX8_nextToken_116 (by decide) ?_
    refine lv_iadd hx hb dX8_nextToken_117 ?_
    refine va_put (D := (dC, dI)) (ci := 8) (v := .int ((g8_place u0_1) + 1)) (ty := .int) (C := RX8) (T := TX8) (N := 9) hx hb hts inX8_nextToken_8 tyX8 tyX8_ok nmX8 hown hK hP hD hS 0 rfl rfl 5 (by decide) (hts _ kX8_nextToken_0) (fun _ h9 => h9) rfl (tyX8_ok 5 (by decide)) rfl rfl (Nat.le_of_ble_eq_true rfl) dX8_nextToken_118 (fun H locs hP hD hS => ?_)
    obtain ⟨u0_2, e_u0_2⟩ : ∃ z, z = s8_place u0_1 ((g8_place u0_1) + 1) := ⟨_, rfl⟩
    have h := h u0_2 e_u0_2
    have hP : va_P (dC, dI) vwCl (cs8 cI q0 u0_2) H := by rw [e_u0_2]; exact hP
    have hD : va_D A (cs8 cI q0 u0_2) := by rw [e_u0_2]; exact hD
    exact hret _ _ _ _ u0_2 dX8_nextToken_121 h hP hD hS
  have w_42 : ∀ (u0 : S8) (H : Heap) (locs : List Loc) (ls : Array Slot) (_ : va_P (dC, dI) vwCl (cs8 cI q0 u0) H) (_ : va_D A (cs8 cI q0 u0)) (_ : va_S A s.heap H locs) (_ : lv_has ls 2 [(0, .ref (q0 0))]) (_ : wp_X8_nextToken_42 Q u0), W p l e rX8_nextToken s m args below meth c H locs 0 0 Z (F0 m 42 ls []) := by
    intro u0 H locs ls hP hD hS hl h
    refine lv_aload_n hx hb dX8_nextToken_42 rfl (lv_at hl 0 rfl) ?_
    refine lv_aload_n hx hb dX8_nextToken_43 rfl (lv_at hl 0 rfl) ?_
    refine va_get (D := (dC, dI)) (ci := 8) (v := .int (g8_place u0)) (C := RX8) (T := TX8) (N := 9) hx hb hts inX8_nextToken_8 hown hK hP 0 rfl rfl 5 (by decide) (hts _ kX8_nextToken_0) (fun _ h9 => h9) rfl dX8_nextToken_44 ?_
    refine va_put (D := (dC, dI)) (ci := 8) (v := .int (g8_place u0)) (ty := .int) (C := RX8) (T := TX8) (N := 9) hx hb hts inX8_nextToken_8 tyX8 tyX8_ok nmX8 hown hK hP hD hS 0 rfl rfl 7 (by decide) (hts _ kX8_nextToken_2) (fun _ h9 => h9) rfl (tyX8_ok 7 (by decide)) rfl rfl (Nat.le_of_ble_eq_true rfl) dX8_nextToken_47 (fun H locs hP hD hS => ?_)
    obtain ⟨u0_3, e_u0_3⟩ : ∃ z, z = s8_tokenPlace u0 (g8_place u0) := ⟨_, rfl⟩
    have h := h u0_3 e_u0_3
    have hP : va_P (dC, dI) vwCl (cs8 cI q0 u0_3) H := by rw [e_u0_3]; exact hP
    have hD : va_D A (cs8 cI q0 u0_3) := by rw [e_u0_3]; exact hD
    refine lv_aload_n hx hb dX8_nextToken_50 rfl (lv_at hl 0 rfl) ?_
    refine cx_vi (As := []) (rest := []) ⟨hx, hb, hml, hown, hts⟩ hl.1 ok_sxE hE.1 hK hP hD hS hA (cut_71 cI q0 u0_3) (c_X8_byteHere (l := l) (dC := dC) (dI := dI) (cI := cI) (q0 := q0) h) (cwV 0 hts gX8_nextToken_X8_byteHere rfl rfl rfl hdX8_byteHere ⟨Nat.le_of_ble_eq_true rfl, Nat.le_of_ble_eq_true rfl⟩) rfl rfl rfl rfl (Nat.le_of_ble_eq_true rfl) dX8_nextToken_51 rfl (fun r_4 _ H locs h hP hD hS => ?_)
    refine lv_istore_n (lv' := [(1, .int r_4), (0, .ref (q0 0))]) hx hb dX8_nextToken_54 rfl hl (by decide) rfl (fun ls hl => ?_)
    refine lv_iload_n hx hb dX8_nextToken_55 rfl (lv_at hl 0 rfl) ?_
    refine lv_iconst (v := (-1)) hx hb dX8_nextToken_56 (by decide) ?_
    refine lv_icmp_ne (tgt := 68) hx hb dX8_nextToken_57 (by decide) (fun cd => ?_) (fun cd => ?_)
    · have h := h.2 cd
      refine lv_iload_n hx hb dX8_nextToken_68 rfl (lv_at hl 0 rfl) ?_
      refine cx_si (As := [.int r_4]) (rest := []) ⟨hx, hb, hml, hown, hts⟩ hl.1 ok_noE trivial hK hP hD hS hA (cut_72 cI q0 u0_3) (c_X8_isLetter (l := l) (dC := dC) (dI := dI) (cI := cI) h) (va_cwS 1 hts gX8_nextToken_X8_isLetter rfl rfl rfl hdX8_isLetter ⟨Nat.le_of_ble_eq_true rfl, Nat.le_of_ble_eq_true rfl⟩) rfl (Nat.le_of_ble_eq_true rfl) dX8_nextToken_69 rfl (fun r_5 _ H locs h hP hD hS => ?_)
      refine lv_if_eq (tgt := 82) hx hb dX8_nextToken_72 (by decide) (fun cd => ?_) (fun cd => ?_)
      · have h := h.1 cd
        refine lv_iload_n hx hb dX8_nextToken_82 rfl (lv_at hl 0 rfl) ?_
        refine cx_si (As := [.int r_4]) (rest := []) ⟨hx, hb, hml, hown, hts⟩ hl.1 ok_noE trivial hK hP hD hS hA (cut_72 cI q0 u0_3) (c_X8_isDigit (l := l) (dC := dC) (dI := dI) (cI := cI) h) (va_cwS 1 hts gX8_nextToken_X8_isDigit rfl rfl rfl hdX8_isDigit ⟨Nat.le_of_ble_eq_true rfl, Nat.le_of_ble_eq_true rfl⟩) rfl (Nat.le_of_ble_eq_true rfl) dX8_nextToken_83 rfl (fun r_6 _ H locs h hP hD hS => ?_)
        refine lv_if_eq (tgt := 96) hx hb dX8_nextToken_86 (by decide) (fun cd => ?_) (fun cd => ?_)
        · have h := h.1 cd
          refine lv_aload_n hx hb dX8_nextToken_96 rfl (lv_at hl 1 rfl) ?_
          refine lv_iload_n hx hb dX8_nextToken_97 rfl (lv_at hl 0 rfl) ?_
          refine lv_bipush (v := 59) hx hb dX8_nextToken_98 (by decide) ?_
          refine lv_icmp_ne (tgt := 107) hx hb dX8_nextToken_100 (by decide) (fun cd => ?_) (fun cd => ?_)
          · have h := h.2 cd
            refine lv_iconst (v := 4) hx hb dX8_nextToken_107 (by decide) ?_
            exact w_108 4 u0_3 _ _ _ hP hD hS (lv_sub hl [1] rfl) h
          · have h := h.1 cd
            refine lv_iconst (v := 3) hx hb dX8_nextToken_103 (by decide) ?_
            refine lv_goto (tgt := 108) hx hb dX8_nextToken_104 (by decide) ?_
            exact w_108 3 u0_3 _ _ _ hP hD hS (lv_sub hl [1] rfl) h
        · have h := h.2 cd
          refine lv_aload_n hx hb dX8_nextToken_89 rfl (lv_at hl 1 rfl) ?_
          refine cx_vv (As := []) (rest := []) ⟨hx, hb, hml, hown, hts⟩ hl.1 ok_sxE hE.1 hK hP hD hS hA (cut_73 cI q0 u0_3) (c_X8_takeNumber (l := l) (dC := dC) (dI := dI) (cI := cI) (q0 := q0) h) (cwV 0 hts gX8_nextToken_X8_takeNumber rfl rfl rfl hdX8_takeNumber ⟨Nat.le_of_ble_eq_true rfl, Nat.le_of_ble_eq_true rfl⟩) rfl rfl rfl rfl (Nat.le_of_ble_eq_true rfl) dX8_nextToken_90 rfl (fun v_7 H locs h hP hD hS => ?_)
          have hP : va_P (dC, dI) vwCl (cs8 cI q0 v_7) H :=  hP
          have hD : va_D A (cs8 cI q0 v_7) :=  hD
          refine lv_goto (tgt := 121) hx hb dX8_nextToken_93 (by decide) ?_
          exact hret _ _ _ _ v_7 dX8_nextToken_121 h hP hD hS
      · have h := h.2 cd
        refine lv_aload_n hx hb dX8_nextToken_75 rfl (lv_at hl 1 rfl) ?_
        refine cx_vv (As := []) (rest := []) ⟨hx, hb, hml, hown, hts⟩ hl.1 ok_tyE hE hK hP hD hS hA (cut_73 cI q0 u0_3) (c_X8_takeWord (l := l) (dC := dC) (dI := dI) (cI := cI) (q0 := q0) h) (cwV 0 hts gX8_nextToken_X8_takeWord rfl rfl rfl hdX8_takeWord ⟨Nat.le_of_ble_eq_true rfl, Nat.le_of_ble_eq_true rfl⟩) rfl rfl rfl rfl (Nat.le_of_ble_eq_true rfl) dX8_nextToken_76 rfl (fun v_8 H locs h hP hD hS => ?_)
        have hP : va_P (dC, dI) vwCl (cs8 cI q0 v_8) H :=  hP
        have hD : va_D A (cs8 cI q0 v_8) :=  hD
        refine lv_goto (tgt := 121) hx hb dX8_nextToken_79 (by decide) ?_
        exact hret _ _ _ _ v_8 dX8_nextToken_121 h hP hD hS
    · have h := h.1 cd
      refine lv_aload_n hx hb dX8_nextToken_60 rfl (lv_at hl 1 rfl) ?_
      refine lv_iconst (v := 0) hx hb dX8_nextToken_61 (by decide) ?_
      refine va_put (D := (dC, dI)) (ci := 8) (v := .int 0) (ty := .int) (C := RX8) (T := TX8) (N := 9) hx hb hts inX8_nextToken_8 tyX8 tyX8_ok nmX8 hown hK hP hD hS 0 rfl rfl 6 (by decide) (hts _ kX8_nextToken_1) (fun _ h9 => h9) rfl (tyX8_ok 6 (by decide)) rfl rfl (Nat.le_of_ble_eq_true rfl) dX8_nextToken_62 (fun H locs hP hD hS => ?_)
      obtain ⟨u0_9, e_u0_9⟩ : ∃ z, z = s8_token u0_3 0 := ⟨_, rfl⟩
      have h := h u0_9 e_u0_9
      have hP : va_P (dC, dI) vwCl (cs8 cI q0 u0_9) H := by rw [e_u0_9]; exact hP
      have hD : va_D A (cs8 cI q0 u0_9) := by rw [e_u0_9]; exact hD
      refine lv_goto (tgt := 121) hx hb dX8_nextToken_65 (by decide) ?_
      exact hret _ _ _ _ u0_9 dX8_nextToken_121 h hP hD hS
  have w_29 : ∀ (k_0 : S8 → Prop) (hk_0 : ∀ (u0 : S8) (H : Heap) (locs : List Loc) (ls : Array Slot) (_ : va_P (dC, dI) vwCl (cs8 cI q0 u0) H) (_ : va_D A (cs8 cI q0 u0)) (_ : va_S A s.heap H locs) (_ : lv_has ls 2 [(0, .ref (q0 0))]) (_ : k_0 u0), W p l e rX8_nextToken s m args below meth c H locs 0 0 Z (F0 m 0 ls [])) (u0 : S8) (H : Heap) (locs : List Loc) (ls : Array Slot) (_ : va_P (dC, dI) vwCl (cs8 cI q0 u0) H) (_ : va_D A (cs8 cI q0 u0)) (_ : va_S A s.heap H locs) (_ : lv_has ls 2 [(0, .ref (q0 0))]) (_ : wp_X8_nextToken_29 k_0 Q u0), W p l e rX8_nextToken s m args below meth c H locs 0 0 Z (F0 m 29 ls []) := by
    intro k_0 hk_0 u0 H locs ls hP hD hS hl h
    refine lv_aload_n hx hb dX8_nextToken_29 rfl (lv_at hl 0 rfl) ?_
    refine lv_dup hx hb dX8_nextToken_30 rfl ?_
    refine va_get (D := (dC, dI)) (ci := 8) (v := .int (g8_place u0)) (C := RX8) (T := TX8) (N := 9) hx hb hts inX8_nextToken_8 hown hK hP 0 rfl rfl 5 (by decide) (hts _ kX8_nextToken_0) (fun _ h9 => h9) rfl dX8_nextToken_31 ?_
    refine lv_iconst (v := 1) hx hb dX8_nextToken_34 (by decide) ?_
    refine lv_iadd hx hb dX8_nextToken_35 ?_
    refine va_put (D := (dC, dI)) (ci := 8) (v := .int ((g8_place u0) + 1)) (ty := .int) (C := RX8) (T := TX8) (N := 9) hx hb hts inX8_nextToken_8 tyX8 tyX8_ok nmX8 hown hK hP hD hS 0 rfl rfl 5 (by decide) (hts _ kX8_nextToken_0) (fun _ h9 => h9) rfl (tyX8_ok 5 (by decide)) rfl rfl (Nat.le_of_ble_eq_true rfl) dX8_nextToken_36 (fun H locs hP hD hS => ?_)
    obtain ⟨u0_10, e_u0_10⟩ : ∃ z, z = s8_place u0 ((g8_place u0) + 1) := ⟨_, rfl⟩
    have h := h u0_10 e_u0_10
    have hP : va_P (dC, dI) vwCl (cs8 cI q0 u0_10) H := by rw [e_u0_10]; exact hP
    have hD : va_D A (cs8 cI q0 u0_10) := by rw [e_u0_10]; exact hD
    refine lv_goto (tgt := 0) hx hb dX8_nextToken_39 (by decide) ?_
    exact hk_0 u0_10 _ _ _ hP hD hS (lv_sub hl [0] rfl) h
  have w_0 : ∀ (n : Nat) (u0 : S8) (H : Heap) (locs : List Loc) (ls : Array Slot) (_ : va_P (dC, dI) vwCl (cs8 cI q0 u0) H) (_ : va_D A (cs8 cI q0 u0)) (_ : va_S A s.heap H locs) (_ : lv_has ls 2 [(0, .ref (q0 0))]) (_ : wp_X8_nextToken_0 Q n u0), W p l e rX8_nextToken s m args below meth c H locs 0 0 Z (F0 m 0 ls []) := by
    intro n
    induction n with
    | zero => intro u0 H locs ls hP hD hS hl h; exact False.elim h
    | succ n ih =>
      intro u0 H locs ls hP hD hS hl h
      refine lv_aload_n hx hb dX8_nextToken_0 rfl (lv_at hl 0 rfl) ?_
      refine va_get (D := (dC, dI)) (ci := 8) (v := .int (g8_place u0)) (C := RX8) (T := TX8) (N := 9) hx hb hts inX8_nextToken_8 hown hK hP 0 rfl rfl 5 (by decide) (hts _ kX8_nextToken_0) (fun _ h9 => h9) rfl dX8_nextToken_1 ?_
      refine lv_aload_n hx hb dX8_nextToken_4 rfl (lv_at hl 0 rfl) ?_
      refine va_get (D := (dC, dI)) (ci := 8) (v := .int (g8_size u0)) (C := RX8) (T := TX8) (N := 9) hx hb hts inX8_nextToken_8 hown hK hP 0 rfl rfl 1 (by decide) (hts _ kX8_nextToken_3) (fun _ h9 => h9) rfl dX8_nextToken_5 ?_
      refine lv_icmp_ge (tgt := 42) hx hb dX8_nextToken_8 (by decide) (fun cd => ?_) (fun cd => ?_)
      · have h := h.1 cd
        exact w_42 u0 _ _ _ hP hD hS (lv_sub hl [0] rfl) h
      · have h := h.2 cd
        refine lv_aload_n hx hb dX8_nextToken_11 rfl (lv_at hl 0 rfl) ?_
        refine cx_vi (As := []) (rest := []) ⟨hx, hb, hml, hown, hts⟩ hl.1 ok_sxE hE.1 hK hP hD hS hA (cut_71 cI q0 u0) (c_X8_byteHere (l := l) (dC := dC) (dI := dI) (cI := cI) (q0 := q0) h) (cwV 0 hts gX8_nextToken_X8_byteHere rfl rfl rfl hdX8_byteHere ⟨Nat.le_of_ble_eq_true rfl, Nat.le_of_ble_eq_true rfl⟩) rfl rfl rfl rfl (Nat.le_of_ble_eq_true rfl) dX8_nextToken_12 rfl (fun r_11 _ H locs h hP hD hS => ?_)
        refine lv_bipush (v := 32) hx hb dX8_nextToken_15 (by decide) ?_
        refine lv_icmp_eq (tgt := 29) hx hb dX8_nextToken_17 (by decide) (fun cd => ?_) (fun cd => ?_)
        · have h := h.1 cd
          exact w_29 (fun u0 => wp_X8_nextToken_0 Q n u0) (fun u0 H locs ls hP hD hS hl h => ih u0 H locs ls hP hD hS hl h) u0 _ _ _ hP hD hS (lv_sub hl [0] rfl) h
        · have h := h.2 cd
          refine lv_aload_n hx hb dX8_nextToken_20 rfl (lv_at hl 0 rfl) ?_
          refine cx_vi (As := []) (rest := []) ⟨hx, hb, hml, hown, hts⟩ hl.1 ok_sxE hE.1 hK hP hD hS hA (cut_71 cI q0 u0) (c_X8_byteHere (l := l) (dC := dC) (dI := dI) (cI := cI) (q0 := q0) h) (cwV 0 hts gX8_nextToken_X8_byteHere rfl rfl rfl hdX8_byteHere ⟨Nat.le_of_ble_eq_true rfl, Nat.le_of_ble_eq_true rfl⟩) rfl rfl rfl rfl (Nat.le_of_ble_eq_true rfl) dX8_nextToken_21 rfl (fun r_12 _ H locs h hP hD hS => ?_)
          refine lv_bipush (v := 10) hx hb dX8_nextToken_24 (by decide) ?_
          refine lv_icmp_ne (tgt := 42) hx hb dX8_nextToken_26 (by decide) (fun cd => ?_) (fun cd => ?_)
          · have h := h.2 cd
            exact w_42 u0 _ _ _ hP hD hS (lv_sub hl [0] rfl) h
          · have h := h.1 cd
            exact w_29 (fun u0 => wp_X8_nextToken_0 Q n u0) (fun u0 H locs ls hP hD hS hl h => ih u0 H locs ls hP hD hS hl h) u0 _ _ _ hP hD hS (lv_sub hl [0] rfl) h
  have hS : va_S A s.heap s.heap [] := va_S.rf
  obtain ⟨n0, h⟩ := h
  exact w_0 n0 u0 _ _ _ hP hD hS (lv_sub hl [0] rfl) h

abbrev rX8_wrong : Room := { frames := 0, cells := 0, slots := 0, locals := 0 }
theorem hdX8_wrong : yX8_wrong.cls = RX8 ∧ yX8_wrong.cls ≠ "java/lang/invoke/MethodHandle" ∧ yX8_wrong.cls ≠ "java/lang/invoke/VarHandle" ∧ (parseMethodDescriptor yX8_wrong.desc).map (fun d => d.parameters.length) = some 1 := by decide +kernel
theorem inX8_wrong_8 : ∀ w ∈ wsX80, w ∈ wsX8_wrong := by decide +kernel
theorem kX8_wrong_0 : Cond.fieldLink RX8 22 "AheadStore$Tape" "faultPlace" "I" ∈ wsX8_wrong := by decide +kernel
theorem kX8_wrong_1 : Cond.fieldLink RX8 38 "AheadStore$Tape" "tokenPlace" "I" ∈ wsX8_wrong := by decide +kernel
theorem kX8_wrong_2 : Cond.fieldLink RX8 19 "AheadStore$Tape" "fault" "I" ∈ wsX8_wrong := by decide +kernel
set_option maxHeartbeats 4000000 in
set_option maxRecDepth 100000 in
theorem c_X8_wrong {l : Launch} {dC : Nat → ClassId} {dI : Nat → Nat → Nat} {cI : ClassId} {q0 : Nat → Nat} {sz : Nat} {u0 : S8} {x1 : Int32} {Q : Int32 → S8 → Prop} (h : wp_X8_wrong u0 x1 Q) : ctI sxE l yX8_wrong wsX8_wrong rX8_wrong (dC, dI) vwCl [(cI, .int)] [.ref (q0 0), .int x1] (cs8 cI q0 u0) sz (fun (r : Int32) (v : S8) => Q r v) (fun (v : S8) => cs8 cI q0 v) := by
  refine mx_i (cc := cX8_wrong) (maxL := 2) (ty := .boolean) (by decide) rfl (Nat.le_of_ble_eq_true rfl) ?_
  intro p e s m below meth c Z A ls args hx hb hml hown hts hA hP hK hD hE hl hret
  have hown : s.vm.findClass RX8 = some m.cls := hown
  have hl : lv_has ls 2 [(0, .ref (q0 0)), (1, .int x1)] := hl
  have hS : va_S A s.heap s.heap [] := va_S.rf
  refine lv_aload_n hx hb dX8_wrong_0 rfl (lv_at hl 0 rfl) ?_
  refine lv_iload_n hx hb dX8_wrong_1 rfl (lv_at hl 1 rfl) ?_
  refine va_put (D := (dC, dI)) (ci := 8) (v := .int x1) (ty := .int) (C := RX8) (T := TX8) (N := 9) hx hb hts inX8_wrong_8 tyX8 tyX8_ok nmX8 hown hK hP hD hS 0 rfl rfl 2 (by decide) (hts _ kX8_wrong_2) (fun _ h9 => h9) rfl (tyX8_ok 2 (by decide)) rfl rfl (Nat.le_of_ble_eq_true rfl) dX8_wrong_2 (fun H locs hP hD hS => ?_)
  obtain ⟨u0_1, e_u0_1⟩ : ∃ z, z = s8_fault u0 x1 := ⟨_, rfl⟩
  have h := h u0_1 e_u0_1
  have hP : va_P (dC, dI) vwCl (cs8 cI q0 u0_1) H := by rw [e_u0_1]; exact hP
  have hD : va_D A (cs8 cI q0 u0_1) := by rw [e_u0_1]; exact hD
  refine lv_aload_n hx hb dX8_wrong_5 rfl (lv_at hl 0 rfl) ?_
  refine lv_aload_n hx hb dX8_wrong_6 rfl (lv_at hl 0 rfl) ?_
  refine va_get (D := (dC, dI)) (ci := 8) (v := .int (g8_tokenPlace u0_1)) (C := RX8) (T := TX8) (N := 9) hx hb hts inX8_wrong_8 hown hK hP 0 rfl rfl 7 (by decide) (hts _ kX8_wrong_1) (fun _ h9 => h9) rfl dX8_wrong_7 ?_
  refine va_put (D := (dC, dI)) (ci := 8) (v := .int (g8_tokenPlace u0_1)) (ty := .int) (C := RX8) (T := TX8) (N := 9) hx hb hts inX8_wrong_8 tyX8 tyX8_ok nmX8 hown hK hP hD hS 0 rfl rfl 3 (by decide) (hts _ kX8_wrong_0) (fun _ h9 => h9) rfl (tyX8_ok 3 (by decide)) rfl rfl (Nat.le_of_ble_eq_true rfl) dX8_wrong_10 (fun H locs hP hD hS => ?_)
  obtain ⟨u0_2, e_u0_2⟩ : ∃ z, z = s8_faultPlace u0_1 (g8_tokenPlace u0_1) := ⟨_, rfl⟩
  have h := h u0_2 e_u0_2
  have hP : va_P (dC, dI) vwCl (cs8 cI q0 u0_2) H := by rw [e_u0_2]; exact hP
  have hD : va_D A (cs8 cI q0 u0_2) := by rw [e_u0_2]; exact hD
  refine lv_iconst (v := 0) hx hb dX8_wrong_13 (by decide) ?_
  exact hret _ _ _ _ _ u0_2 dX8_wrong_14 (by decide) h hP hD hS

abbrev rX8_numberWithin : Room := { frames := 1, cells := 0, slots := 0, locals := 21 }
theorem hdX8_numberWithin : yX8_numberWithin.cls = RX8 ∧ yX8_numberWithin.cls ≠ "java/lang/invoke/MethodHandle" ∧ yX8_numberWithin.cls ≠ "java/lang/invoke/VarHandle" ∧ (parseMethodDescriptor yX8_numberWithin.desc).map (fun d => d.parameters.length) = some 2 := by decide +kernel
theorem inX8_numberWithin_8 : ∀ w ∈ wsX80, w ∈ wsX8_numberWithin := by decide +kernel
theorem kX8_numberWithin_0 : Cond.fieldLink RX8 41 "AheadStore$Tape" "value" "I" ∈ wsX8_numberWithin := by decide +kernel
theorem kX8_numberWithin_1 : Cond.fieldLink RX8 35 "AheadStore$Tape" "token" "I" ∈ wsX8_numberWithin := by decide +kernel
set_option maxHeartbeats 4000000 in
set_option maxRecDepth 100000 in
theorem c_X8_numberWithin {l : Launch} {dC : Nat → ClassId} {dI : Nat → Nat → Nat} {cI : ClassId} {q0 : Nat → Nat} {sz : Nat} {u0 : S8} {x1 : Int32} {x2 : Int32} {Q : Int32 → S8 → Prop} (h : wp_X8_numberWithin u0 x1 x2 Q) : ctI sxE l yX8_numberWithin wsX8_numberWithin rX8_numberWithin (dC, dI) vwCl [(cI, .int)] [.ref (q0 0), .int x1, .int x2] (cs8 cI q0 u0) sz (fun (r : Int32) (v : S8) => Q r v) (fun (v : S8) => cs8 cI q0 v) := by
  refine mx_i (cc := cX8_numberWithin) (maxL := 3) (ty := .boolean) (by decide) rfl (Nat.le_of_ble_eq_true rfl) ?_
  intro p e s m below meth c Z A ls args hx hb hml hown hts hA hP hK hD hE hl hret
  have hown : s.vm.findClass RX8 = some m.cls := hown
  have hl : lv_has ls 3 [(0, .ref (q0 0)), (1, .int x1), (2, .int x2)] := hl
  have w_30 : ∀ (u0 : S8) (H : Heap) (locs : List Loc) (ls : Array Slot) (_ : va_P (dC, dI) vwCl (cs8 cI q0 u0) H) (_ : va_D A (cs8 cI q0 u0)) (_ : va_S A s.heap H locs) (_ : lv_has ls 3 [(0, .ref (q0 0))]) (_ : wp_X8_numberWithin_30 Q u0), W p l e rX8_numberWithin s m args below meth c H locs 0 0 Z (F0 m 30 ls []) := by
    intro u0 H locs ls hP hD hS hl h
    refine lv_aload_n hx hb dX8_numberWithin_30 rfl (lv_at hl 0 rfl) ?_
    refine lv_iconst (v := 2) hx hb dX8_numberWithin_31 (by decide) ?_
    refine cx_vi (As := [.int 2]) (rest := []) ⟨hx, hb, hml, hown, hts⟩ hl.1 ok_sxE hE hK hP hD hS hA (cut_73 cI q0 u0) (c_X8_wrong (l := l) (dC := dC) (dI := dI) (cI := cI) (q0 := q0) h) (cwV 1 hts gX8_numberWithin_X8_wrong rfl rfl rfl hdX8_wrong ⟨Nat.le_of_ble_eq_true rfl, Nat.le_of_ble_eq_true rfl⟩) rfl rfl rfl rfl (Nat.le_of_ble_eq_true rfl) dX8_numberWithin_32 rfl (fun r_1 v_2 H locs h hP hD hS => ?_)
    have hP : va_P (dC, dI) vwCl (cs8 cI q0 v_2) H :=  hP
    have hD : va_D A (cs8 cI q0 v_2) :=  hD
    refine lv_if_eq (tgt := 42) hx hb dX8_numberWithin_35 (by decide) (fun cd => ?_) (fun cd => ?_)
    · have h := h.1 cd
      refine lv_iconst (v := 0) hx hb dX8_numberWithin_42 (by decide) ?_
      exact hret _ _ _ _ _ v_2 dX8_numberWithin_43 (by decide) h hP hD hS
    · have h := h.2 cd
      refine lv_iconst (v := 1) hx hb dX8_numberWithin_38 (by decide) ?_
      refine lv_goto (tgt := 43) hx hb dX8_numberWithin_39 (by decide) ?_
      exact hret _ _ _ _ _ v_2 dX8_numberWithin_43 (by decide) h hP hD hS
  have hS : va_S A s.heap s.heap [] := va_S.rf
  refine lv_aload_n hx hb dX8_numberWithin_0 rfl (lv_at hl 0 rfl) ?_
  refine va_get (D := (dC, dI)) (ci := 8) (v := .int (g8_token u0)) (C := RX8) (T := TX8) (N := 9) hx hb hts inX8_numberWithin_8 hown hK hP 0 rfl rfl 6 (by decide) (hts _ kX8_numberWithin_1) (fun _ h9 => h9) rfl dX8_numberWithin_1 ?_
  refine lv_iconst (v := 2) hx hb dX8_numberWithin_4 (by decide) ?_
  refine lv_icmp_eq (tgt := 14) hx hb dX8_numberWithin_5 (by decide) (fun cd => ?_) (fun cd => ?_)
  · have h := h.1 cd
    refine lv_aload_n hx hb dX8_numberWithin_14 rfl (lv_at hl 0 rfl) ?_
    refine va_get (D := (dC, dI)) (ci := 8) (v := .int (g8_value u0)) (C := RX8) (T := TX8) (N := 9) hx hb hts inX8_numberWithin_8 hown hK hP 0 rfl rfl 8 (by decide) (hts _ kX8_numberWithin_0) (fun _ h9 => h9) rfl dX8_numberWithin_15 ?_
    refine lv_iload_n hx hb dX8_numberWithin_18 rfl (lv_at hl 1 rfl) ?_
    refine lv_icmp_lt (tgt := 30) hx hb dX8_numberWithin_19 (by decide) (fun cd => ?_) (fun cd => ?_)
    · have h := h.1 cd
      exact w_30 u0 _ _ _ hP hD hS (lv_sub hl [0] rfl) h
    · have h := h.2 cd
      refine lv_aload_n hx hb dX8_numberWithin_22 rfl (lv_at hl 0 rfl) ?_
      refine va_get (D := (dC, dI)) (ci := 8) (v := .int (g8_value u0)) (C := RX8) (T := TX8) (N := 9) hx hb hts inX8_numberWithin_8 hown hK hP 0 rfl rfl 8 (by decide) (hts _ kX8_numberWithin_0) (fun _ h9 => h9) rfl dX8_numberWithin_23 ?_
      refine lv_iload_n hx hb dX8_numberWithin_26 rfl (lv_at hl 2 rfl) ?_
      refine lv_icmp_le (tgt := 38) hx hb dX8_numberWithin_27 (by decide) (fun cd => ?_) (fun cd => ?_)
      · have h := h.1 cd
        refine lv_iconst (v := 1) hx hb dX8_numberWithin_38 (by decide) ?_
        refine lv_goto (tgt := 43) hx hb dX8_numberWithin_39 (by decide) ?_
        exact hret _ _ _ _ _ u0 dX8_numberWithin_43 (by decide) h hP hD hS
      · have h := h.2 cd
        exact w_30 u0 _ _ _ hP hD hS (lv_sub hl [0] rfl) h
  · have h := h.2 cd
    refine lv_aload_n hx hb dX8_numberWithin_8 rfl (lv_at hl 0 rfl) ?_
    refine lv_iconst (v := 1) hx hb dX8_numberWithin_9 (by decide) ?_
    refine cx_vi (As := [.int 1]) (rest := []) ⟨hx, hb, hml, hown, hts⟩ hl.1 ok_sxE hE hK hP hD hS hA (cut_73 cI q0 u0) (c_X8_wrong (l := l) (dC := dC) (dI := dI) (cI := cI) (q0 := q0) h) (cwV 1 hts gX8_numberWithin_X8_wrong rfl rfl rfl hdX8_wrong ⟨Nat.le_of_ble_eq_true rfl, Nat.le_of_ble_eq_true rfl⟩) rfl rfl rfl rfl (Nat.le_of_ble_eq_true rfl) dX8_numberWithin_10 rfl (fun r_3 v_4 H locs h hP hD hS => ?_)
    have hP : va_P (dC, dI) vwCl (cs8 cI q0 v_4) H :=  hP
    have hD : va_D A (cs8 cI q0 v_4) :=  hD
    exact hret _ _ _ _ _ v_4 dX8_numberWithin_13 (zb_n h.1) h.2 hP hD hS

set_option maxRecDepth 100000 in
theorem cut_74 (cI : ClassId) (q0 : Nat → Nat) (u0 : S8) : Cut (cs8 cI q0 u0) (cs6 cI (fun i => q0 (i + 2)) (g8_draft u0)) (fun v : S6 => cs6 cI (fun i => q0 (i + 2)) v) (fun v : S6 => cs8 cI q0 (s8_draft u0 v)) := ⟨[2, 3], [0, 1], rfl, rfl, rfl, by decide, by decide, fun v => ⟨[0, 1, 2, 3], rfl, rfl⟩⟩

abbrev rX8_readRest : Room := { frames := 7, cells := 0, slots := 0, locals := 151 }
theorem hdX8_readRest : yX8_readRest.cls = RX8 ∧ yX8_readRest.cls ≠ "java/lang/invoke/MethodHandle" ∧ yX8_readRest.cls ≠ "java/lang/invoke/VarHandle" ∧ (parseMethodDescriptor yX8_readRest.desc).map (fun d => d.parameters.length) = some 2 := by decide +kernel
theorem inX8_readRest_8 : ∀ w ∈ wsX80, w ∈ wsX8_readRest := by decide +kernel
theorem kX8_readRest_0 : Cond.fieldLink RX8 28 "AheadStore$Tape" "draft" "LAheadStore$Script;" ∈ wsX8_readRest := by decide +kernel
theorem kX8_readRest_1 : Cond.fieldLink RX8 35 "AheadStore$Tape" "token" "I" ∈ wsX8_readRest := by decide +kernel
theorem kX8_readRest_2 : Cond.fieldLink RX8 41 "AheadStore$Tape" "value" "I" ∈ wsX8_readRest := by decide +kernel
set_option maxHeartbeats 4000000 in
set_option maxRecDepth 100000 in
theorem c_X8_readRest {l : Launch} {dC : Nat → ClassId} {dI : Nat → Nat → Nat} {cI : ClassId} {q0 : Nat → Nat} {sz : Nat} {u0 : S8} {x1 : Int32} {x2 : Int32} {Q : Int32 → S8 → Prop} (h : wp_X8_readRest u0 x1 x2 Q) : ctI tyE l yX8_readRest wsX8_readRest rX8_readRest (dC, dI) vwCl [(cI, .int)] [.ref (q0 0), .int x1, .int x2] (cs8 cI q0 u0) sz (fun (r : Int32) (v : S8) => Q r v) (fun (v : S8) => cs8 cI q0 v) := by
  refine mx_i (cc := cX8_readRest) (maxL := 5) (ty := .boolean) (by decide) rfl (Nat.le_of_ble_eq_true rfl) ?_
  intro p e s m below meth c Z A ls args hx hb hml hown hts hA hP hK hD hE hl hret
  have hown : s.vm.findClass RX8 = some m.cls := hown
  have hl : lv_has ls 5 [(0, .ref (q0 0)), (1, .int x1), (2, .int x2)] := hl
  have w_12 : ∀ (u0 : S8) (H : Heap) (locs : List Loc) (ls : Array Slot) (_ : va_P (dC, dI) vwCl (cs8 cI q0 u0) H) (_ : va_D A (cs8 cI q0 u0)) (_ : va_S A s.heap H locs) (_ : lv_has ls 5 [(0, .ref (q0 0))]) (_ : wp_X8_readRest_12 Q u0), W p l e rX8_readRest s m args below meth c H locs 0 0 Z (F0 m 12 ls []) := by
    intro u0 H locs ls hP hD hS hl h
    refine lv_aload_n hx hb dX8_readRest_12 rfl (lv_at hl 0 rfl) ?_
    refine lv_iconst (v := 1) hx hb dX8_readRest_13 (by decide) ?_
    refine cx_vi (As := [.int 1]) (rest := []) ⟨hx, hb, hml, hown, hts⟩ hl.1 ok_sxE hE.1 hK hP hD hS hA (cut_73 cI q0 u0) (c_X8_wrong (l := l) (dC := dC) (dI := dI) (cI := cI) (q0 := q0) h) (cwV 1 hts gX8_readRest_X8_wrong rfl rfl rfl hdX8_wrong ⟨Nat.le_of_ble_eq_true rfl, Nat.le_of_ble_eq_true rfl⟩) rfl rfl rfl rfl (Nat.le_of_ble_eq_true rfl) dX8_readRest_14 rfl (fun r_1 v_2 H locs h hP hD hS => ?_)
    have hP : va_P (dC, dI) vwCl (cs8 cI q0 v_2) H :=  hP
    have hD : va_D A (cs8 cI q0 v_2) :=  hD
    exact hret _ _ _ _ _ v_2 dX8_readRest_17 (zb_n h.1) h.2 hP hD hS
  have w_135 : ∀ (x4 : Int32) (y1 : Int32) (y2 : Int32) (y3 : Int32) (u0 : S8) (H : Heap) (locs : List Loc) (ls : Array Slot) (_ : va_P (dC, dI) vwCl (cs8 cI q0 u0) H) (_ : va_D A (cs8 cI q0 u0)) (_ : va_S A s.heap H locs) (_ : lv_has ls 5 [(4, .int x4)]) (_ : wp_X8_readRest_135 Q x4 y1 y2 y3 u0), W p l e rX8_readRest s m args below meth c H locs 0 0 Z (F0 m 135 ls [.int y3, .int y2, .int y1, .ref (q0 2)]) := by
    intro x4 y1 y2 y3 u0 H locs ls hP hD hS hl h
    refine lv_iload hx hb dX8_readRest_135 (lv_at hl 0 rfl) ?_
    refine cx_vv (As := [.int y1, .int y2, .int y3, .int x4]) (rest := []) ⟨hx, hb, hml, hown, hts⟩ hl.1 ok_sxE hE.1 hK hP hD hS hA (cut_74 cI q0 u0) (c_X6_append (l := l) (dC := dC) (dI := dI) (cI := cI) (q0 := fun i => q0 (i + 2)) h) (cwV 4 hts gX8_readRest_X6_append rfl rfl rfl hdX6_append ⟨Nat.le_of_ble_eq_true rfl, Nat.le_of_ble_eq_true rfl⟩) rfl rfl rfl rfl (Nat.le_of_ble_eq_true rfl) dX8_readRest_137 rfl (fun v_3 H locs h hP hD hS => ?_)
    obtain ⟨u0_4, e_u0_4⟩ : ∃ z, z = s8_draft u0 v_3 := ⟨_, rfl⟩
    have h := h u0_4 e_u0_4
    have hP : va_P (dC, dI) vwCl (cs8 cI q0 u0_4) H := by rw [e_u0_4]; exact hP
    have hD : va_D A (cs8 cI q0 u0_4) := by rw [e_u0_4]; exact hD
    refine lv_iconst (v := 1) hx hb dX8_readRest_140 (by decide) ?_
    exact hret _ _ _ _ _ u0_4 dX8_readRest_141 (by decide) h hP hD hS
  have w_96 : ∀ (x1 : Int32) (x2 : Int32) (x3 : Int32) (x4 : Int32) (u0 : S8) (H : Heap) (locs : List Loc) (ls : Array Slot) (_ : va_P (dC, dI) vwCl (cs8 cI q0 u0) H) (_ : va_D A (cs8 cI q0 u0)) (_ : va_S A s.heap H locs) (_ : lv_has ls 5 [(0, .ref (q0 0)), (1, .int x1), (2, .int x2), (3, .int x3), (4, .int x4)]) (_ : wp_X8_readRest_96 Q x1 x2 x3 x4 u0), W p l e rX8_readRest s m args below meth c H locs 0 0 Z (F0 m 96 ls []) := by
    intro x1 x2 x3 x4 u0 H locs ls hP hD hS hl h
    refine lv_aload_n hx hb dX8_readRest_96 rfl (lv_at hl 0 rfl) ?_
    refine va_get (D := (dC, dI)) (ci := 8) (v := .int (g8_token u0)) (C := RX8) (T := TX8) (N := 9) hx hb hts inX8_readRest_8 hown hK hP 0 rfl rfl 6 (by decide) (hts _ kX8_readRest_1) (fun _ h9 => h9) rfl dX8_readRest_97 ?_
    refine lv_iconst (v := 3) hx hb dX8_readRest_100 (by decide) ?_
    refine lv_icmp_eq (tgt := 110) hx hb dX8_readRest_101 (by decide) (fun cd => ?_) (fun cd => ?_)
    · have h := h.1 cd
      refine lv_aload_n hx hb dX8_readRest_110 rfl (lv_at hl 0 rfl) ?_
      refine cx_vv (As := []) (rest := []) ⟨hx, hb, hml, hown, hts⟩ hl.1 ok_tyE hE hK hP hD hS hA (cut_73 cI q0 u0) (c_X8_nextToken (l := l) (dC := dC) (dI := dI) (cI := cI) (q0 := q0) h) (cwV 0 hts gX8_readRest_X8_nextToken rfl rfl rfl hdX8_nextToken ⟨Nat.le_of_ble_eq_true rfl, Nat.le_of_ble_eq_true rfl⟩) rfl rfl rfl rfl (Nat.le_of_ble_eq_true rfl) dX8_readRest_111 rfl (fun v_5 H locs h hP hD hS => ?_)
      have hP : va_P (dC, dI) vwCl (cs8 cI q0 v_5) H :=  hP
      have hD : va_D A (cs8 cI q0 v_5) :=  hD
      refine lv_aload_n hx hb dX8_readRest_114 rfl (lv_at hl 0 rfl) ?_
      refine va_get (D := (dC, dI)) (ci := 8) (v := .ref (q0 2)) (C := RX8) (T := TX8) (N := 9) hx hb hts inX8_readRest_8 hown hK hP 0 rfl rfl 4 (by decide) (hts _ kX8_readRest_0) (fun _ h9 => h9) rfl dX8_readRest_115 ?_
      refine lv_iload_n hx hb dX8_readRest_118 rfl (lv_at hl 2 rfl) ?_
      refine lv_iload_n hx hb dX8_readRest_119 rfl (lv_at hl 1 rfl) ?_
      obtain ⟨ttO, zO, tO⟩ := hE.1.2.2.1
      refine va_getsN hx hb zO hS hown (va_Nw.use rfl (hE.1.1.2 (RX8, 66, "AheadStore", "OPERANDS", "[I", "AheadStore") (List.mem_of_getElem? (i := 1) rfl))) (fun _ h9 => h9) dX8_readRest_120 ?_
      refine lv_iload_n hx hb dX8_readRest_123 rfl (lv_at hl 2 rfl) ?_
      refine sx_ald hx hb tO hS h.1 dX8_readRest_124 ?_
      have h := h.2
      refine lv_iconst (v := 2) hx hb dX8_readRest_125 (by decide) ?_
      refine lv_icmp_ne (tgt := 133) hx hb dX8_readRest_126 (by decide) (fun cd => ?_) (fun cd => ?_)
      · have h := h.2 cd
        refine lv_iload hx hb dX8_readRest_133 (lv_at hl 4 rfl) ?_
        exact w_135 x4 x2 x1 x4 v_5 _ _ _ hP hD hS (lv_sub hl [4] rfl) h
      · have h := h.1 cd
        refine lv_iload_n hx hb dX8_readRest_129 rfl (lv_at hl 3 rfl) ?_
        refine lv_goto (tgt := 135) hx hb dX8_readRest_130 (by decide) ?_
        exact w_135 x4 x2 x1 x3 v_5 _ _ _ hP hD hS (lv_sub hl [4] rfl) h
    · have h := h.2 cd
      refine lv_aload_n hx hb dX8_readRest_104 rfl (lv_at hl 0 rfl) ?_
      refine lv_iconst (v := 1) hx hb dX8_readRest_105 (by decide) ?_
      refine cx_vi (As := [.int 1]) (rest := []) ⟨hx, hb, hml, hown, hts⟩ hl.1 ok_sxE hE.1 hK hP hD hS hA (cut_73 cI q0 u0) (c_X8_wrong (l := l) (dC := dC) (dI := dI) (cI := cI) (q0 := q0) h) (cwV 1 hts gX8_readRest_X8_wrong rfl rfl rfl hdX8_wrong ⟨Nat.le_of_ble_eq_true rfl, Nat.le_of_ble_eq_true rfl⟩) rfl rfl rfl rfl (Nat.le_of_ble_eq_true rfl) dX8_readRest_106 rfl (fun r_6 v_7 H locs h hP hD hS => ?_)
      have hP : va_P (dC, dI) vwCl (cs8 cI q0 v_7) H :=  hP
      have hD : va_D A (cs8 cI q0 v_7) :=  hD
      exact hret _ _ _ _ _ v_7 dX8_readRest_109 (zb_n h.1) h.2 hP hD hS
  have w_58 : ∀ (x1 : Int32) (x2 : Int32) (x3 : Int32) (x4 : Int32) (u0 : S8) (H : Heap) (locs : List Loc) (ls : Array Slot) (_ : va_P (dC, dI) vwCl (cs8 cI q0 u0) H) (_ : va_D A (cs8 cI q0 u0)) (_ : va_S A s.heap H locs) (_ : lv_has ls 5 [(0, .ref (q0 0)), (1, .int x1), (2, .int x2), (3, .int x3), (4, .int x4)]) (_ : wp_X8_readRest_58 Q x1 x2 x3 x4 u0), W p l e rX8_readRest s m args below meth c H locs 0 0 Z (F0 m 58 ls []) := by
    intro x1 x2 x3 x4 u0 H locs ls hP hD hS hl h
    obtain ⟨ttO, zO, tO⟩ := hE.1.2.2.1
    refine va_getsN hx hb zO hS hown (va_Nw.use rfl (hE.1.1.2 (RX8, 66, "AheadStore", "OPERANDS", "[I", "AheadStore") (List.mem_of_getElem? (i := 1) rfl))) (fun _ h9 => h9) dX8_readRest_58 ?_
    refine lv_iload_n hx hb dX8_readRest_61 rfl (lv_at hl 2 rfl) ?_
    refine sx_ald hx hb tO hS h.1 dX8_readRest_62 ?_
    have h := h.2
    refine lv_iconst (v := 1) hx hb dX8_readRest_63 (by decide) ?_
    refine lv_icmp_lt (tgt := 96) hx hb dX8_readRest_64 (by decide) (fun cd => ?_) (fun cd => ?_)
    · have h := h.1 cd
      exact w_96 x1 x2 x3 x4 u0 _ _ _ hP hD hS (lv_sub hl [0, 1, 2, 3, 4] rfl) h
    · have h := h.2 cd
      refine lv_aload_n hx hb dX8_readRest_67 rfl (lv_at hl 0 rfl) ?_
      obtain ⟨ttE, zE, tE⟩ := hE.1.2.2.2.1
      refine va_getsN hx hb zE hS hown (va_Nw.use rfl (hE.1.1.2 (RX8, 69, "AheadStore", "LEAST", "[I", "AheadStore") (List.mem_of_getElem? (i := 2) rfl))) (fun _ h9 => h9) dX8_readRest_68 ?_
      refine lv_iload_n hx hb dX8_readRest_71 rfl (lv_at hl 2 rfl) ?_
      refine sx_ald hx hb tE hS h.1 dX8_readRest_72 ?_
      have h := h.2
      obtain ⟨ttM, zM, tM⟩ := hE.1.2.2.2.2
      refine va_getsN hx hb zM hS hown (va_Nw.use rfl (hE.1.1.2 (RX8, 72, "AheadStore", "MOST", "[I", "AheadStore") (List.mem_of_getElem? (i := 3) rfl))) (fun _ h9 => h9) dX8_readRest_73 ?_
      refine lv_iload_n hx hb dX8_readRest_76 rfl (lv_at hl 2 rfl) ?_
      refine sx_ald hx hb tM hS h.1 dX8_readRest_77 ?_
      have h := h.2
      refine cx_vi (As := [.int (st_LEAST x2.toNatClampNeg), .int (st_MOST x2.toNatClampNeg)]) (rest := []) ⟨hx, hb, hml, hown, hts⟩ hl.1 ok_sxE hE.1 hK hP hD hS hA (cut_73 cI q0 u0) (c_X8_numberWithin (l := l) (dC := dC) (dI := dI) (cI := cI) (q0 := q0) h) (cwV 2 hts gX8_readRest_X8_numberWithin rfl rfl rfl hdX8_numberWithin ⟨Nat.le_of_ble_eq_true rfl, Nat.le_of_ble_eq_true rfl⟩) rfl rfl rfl rfl (Nat.le_of_ble_eq_true rfl) dX8_readRest_78 rfl (fun r_8 v_9 H locs h hP hD hS => ?_)
      have hP : va_P (dC, dI) vwCl (cs8 cI q0 v_9) H :=  hP
      have hD : va_D A (cs8 cI q0 v_9) :=  hD
      refine lv_if_ne (tgt := 86) hx hb dX8_readRest_81 (by decide) (fun cd => ?_) (fun cd => ?_)
      · have h := h.2 cd
        refine lv_aload_n hx hb dX8_readRest_86 rfl (lv_at hl 0 rfl) ?_
        refine va_get (D := (dC, dI)) (ci := 8) (v := .int (g8_value v_9)) (C := RX8) (T := TX8) (N := 9) hx hb hts inX8_readRest_8 hown hK hP 0 rfl rfl 8 (by decide) (hts _ kX8_readRest_2) (fun _ h9 => h9) rfl dX8_readRest_87 ?_
        refine lv_topi (fun x4_10 e_x4_10 => ?_)
        have h := h x4_10 e_x4_10
        refine lv_istore (lv' := [(4, .int x4_10), (0, .ref (q0 0)), (1, .int x1), (2, .int x2), (3, .int x3)]) hx hb dX8_readRest_90 hl (by decide) rfl (fun ls hl => ?_)
        refine lv_aload_n hx hb dX8_readRest_92 rfl (lv_at hl 1 rfl) ?_
        refine cx_vv (As := []) (rest := []) ⟨hx, hb, hml, hown, hts⟩ hl.1 ok_tyE hE hK hP hD hS hA (cut_73 cI q0 v_9) (c_X8_nextToken (l := l) (dC := dC) (dI := dI) (cI := cI) (q0 := q0) h) (cwV 0 hts gX8_readRest_X8_nextToken rfl rfl rfl hdX8_nextToken ⟨Nat.le_of_ble_eq_true rfl, Nat.le_of_ble_eq_true rfl⟩) rfl rfl rfl rfl (Nat.le_of_ble_eq_true rfl) dX8_readRest_93 rfl (fun v_11 H locs h hP hD hS => ?_)
        have hP : va_P (dC, dI) vwCl (cs8 cI q0 v_11) H :=  hP
        have hD : va_D A (cs8 cI q0 v_11) :=  hD
        exact w_96 x1 x2 x3 x4_10 v_11 _ _ _ hP hD hS (lv_sub hl [1, 2, 3, 4, 0] rfl) h
      · have h := h.1 cd
        refine lv_iconst (v := 0) hx hb dX8_readRest_84 (by decide) ?_
        exact hret _ _ _ _ _ v_9 dX8_readRest_85 (by decide) h hP hD hS
  have hS : va_S A s.heap s.heap [] := va_S.rf
  refine lv_iload_n hx hb dX8_readRest_0 rfl (lv_at hl 2 rfl) ?_
  refine lv_if_lt (tgt := 12) hx hb dX8_readRest_1 (by decide) (fun cd => ?_) (fun cd => ?_)
  · have h := h.1 cd
    exact w_12 u0 _ _ _ hP hD hS (lv_sub hl [0] rfl) h
  · have h := h.2 cd
    refine lv_iload_n hx hb dX8_readRest_4 rfl (lv_at hl 2 rfl) ?_
    obtain ⟨ttO, zO, tO⟩ := hE.1.2.2.1
    refine va_getsN hx hb zO hS hown (va_Nw.use rfl (hE.1.1.2 (RX8, 66, "AheadStore", "OPERANDS", "[I", "AheadStore") (List.mem_of_getElem? (i := 1) rfl))) (fun _ h9 => h9) dX8_readRest_5 ?_
    refine sx_alen (v := 14) hx hb tO hS rfl dX8_readRest_8 ?_
    refine lv_icmp_lt (tgt := 18) hx hb dX8_readRest_9 (by decide) (fun cd => ?_) (fun cd => ?_)
    · have h := h.1 cd
      refine lv_iconst (v := 0) hx hb dX8_readRest_18 (by decide) ?_
      refine lv_istore_n (lv' := [(3, .int 0), (0, .ref (q0 0)), (1, .int x1), (2, .int x2)]) hx hb dX8_readRest_19 rfl hl (by decide) rfl (fun ls hl => ?_)
      refine lv_iconst (v := 0) hx hb dX8_readRest_20 (by decide) ?_
      refine lv_istore (lv' := [(4, .int 0), (3, .int 0), (0, .ref (q0 0)), (1, .int x1), (2, .int x2)]) hx hb dX8_readRest_21 hl (by decide) rfl (fun ls hl => ?_)
      refine lv_aload_n hx hb dX8_readRest_23 rfl (lv_at hl 2 rfl) ?_
      refine cx_vv (As := []) (rest := []) ⟨hx, hb, hml, hown, hts⟩ hl.1 ok_tyE hE hK hP hD hS hA (cut_73 cI q0 u0) (c_X8_nextToken (l := l) (dC := dC) (dI := dI) (cI := cI) (q0 := q0) h) (cwV 0 hts gX8_readRest_X8_nextToken rfl rfl rfl hdX8_nextToken ⟨Nat.le_of_ble_eq_true rfl, Nat.le_of_ble_eq_true rfl⟩) rfl rfl rfl rfl (Nat.le_of_ble_eq_true rfl) dX8_readRest_24 rfl (fun v_12 H locs h hP hD hS => ?_)
      have hP : va_P (dC, dI) vwCl (cs8 cI q0 v_12) H :=  hP
      have hD : va_D A (cs8 cI q0 v_12) :=  hD
      obtain ⟨ttO, zO, tO⟩ := hE.1.2.2.1
      refine va_getsN hx hb zO hS hown (va_Nw.use rfl (hE.1.1.2 (RX8, 66, "AheadStore", "OPERANDS", "[I", "AheadStore") (List.mem_of_getElem? (i := 1) rfl))) (fun _ h9 => h9) dX8_readRest_27 ?_
      refine lv_iload_n hx hb dX8_readRest_30 rfl (lv_at hl 4 rfl) ?_
      refine sx_ald hx hb tO hS h.1 dX8_readRest_31 ?_
      have h := h.2
      refine lv_iconst (v := 2) hx hb dX8_readRest_32 (by decide) ?_
      refine lv_icmp_ne (tgt := 58) hx hb dX8_readRest_33 (by decide) (fun cd => ?_) (fun cd => ?_)
      · have h := h.2 cd
        exact w_58 x1 x2 0 0 v_12 _ _ _ hP hD hS (lv_sub hl [2, 3, 4, 1, 0] rfl) h
      · have h := h.1 cd
        refine lv_aload_n hx hb dX8_readRest_36 rfl (lv_at hl 2 rfl) ?_
        refine lv_iconst (v := 0) hx hb dX8_readRest_37 (by decide) ?_
        refine lv_sipush (v := 255) hx hb dX8_readRest_38 (by decide) ?_
        refine cx_vi (As := [.int 0, .int 255]) (rest := []) ⟨hx, hb, hml, hown, hts⟩ hl.1 ok_sxE hE.1 hK hP hD hS hA (cut_73 cI q0 v_12) (c_X8_numberWithin (l := l) (dC := dC) (dI := dI) (cI := cI) (q0 := q0) h) (cwV 2 hts gX8_readRest_X8_numberWithin rfl rfl rfl hdX8_numberWithin ⟨Nat.le_of_ble_eq_true rfl, Nat.le_of_ble_eq_true rfl⟩) rfl rfl rfl rfl (Nat.le_of_ble_eq_true rfl) dX8_readRest_41 rfl (fun r_13 v_14 H locs h hP hD hS => ?_)
        have hP : va_P (dC, dI) vwCl (cs8 cI q0 v_14) H :=  hP
        have hD : va_D A (cs8 cI q0 v_14) :=  hD
        refine lv_if_ne (tgt := 49) hx hb dX8_readRest_44 (by decide) (fun cd => ?_) (fun cd => ?_)
        · have h := h.2 cd
          refine lv_aload_n hx hb dX8_readRest_49 rfl (lv_at hl 2 rfl) ?_
          refine va_get (D := (dC, dI)) (ci := 8) (v := .int (g8_value v_14)) (C := RX8) (T := TX8) (N := 9) hx hb hts inX8_readRest_8 hown hK hP 0 rfl rfl 8 (by decide) (hts _ kX8_readRest_2) (fun _ h9 => h9) rfl dX8_readRest_50 ?_
          refine lv_topi (fun x3_15 e_x3_15 => ?_)
          have h := h x3_15 e_x3_15
          refine lv_istore_n (lv' := [(3, .int x3_15), (4, .int 0), (0, .ref (q0 0)), (1, .int x1), (2, .int x2)]) hx hb dX8_readRest_53 rfl hl (by decide) rfl (fun ls hl => ?_)
          refine lv_aload_n hx hb dX8_readRest_54 rfl (lv_at hl 2 rfl) ?_
          refine cx_vv (As := []) (rest := []) ⟨hx, hb, hml, hown, hts⟩ hl.1 ok_tyE hE hK hP hD hS hA (cut_73 cI q0 v_14) (c_X8_nextToken (l := l) (dC := dC) (dI := dI) (cI := cI) (q0 := q0) h) (cwV 0 hts gX8_readRest_X8_nextToken rfl rfl rfl hdX8_nextToken ⟨Nat.le_of_ble_eq_true rfl, Nat.le_of_ble_eq_true rfl⟩) rfl rfl rfl rfl (Nat.le_of_ble_eq_true rfl) dX8_readRest_55 rfl (fun v_16 H locs h hP hD hS => ?_)
          have hP : va_P (dC, dI) vwCl (cs8 cI q0 v_16) H :=  hP
          have hD : va_D A (cs8 cI q0 v_16) :=  hD
          exact w_58 x1 x2 x3_15 0 v_16 _ _ _ hP hD hS (lv_sub hl [2, 3, 4, 0, 1] rfl) h
        · have h := h.1 cd
          refine lv_iconst (v := 0) hx hb dX8_readRest_47 (by decide) ?_
          exact hret _ _ _ _ _ v_14 dX8_readRest_48 (by decide) h hP hD hS
    · have h := h.2 cd
      exact w_12 u0 _ _ _ hP hD hS (lv_sub hl [0] rfl) h

abbrev rX8_readLine : Room := { frames := 8, cells := 0, slots := 0, locals := 175 }
theorem hdX8_readLine : yX8_readLine.cls = RX8 ∧ yX8_readLine.cls ≠ "java/lang/invoke/MethodHandle" ∧ yX8_readLine.cls ≠ "java/lang/invoke/VarHandle" ∧ (parseMethodDescriptor yX8_readLine.desc).map (fun d => d.parameters.length) = some 0 := by decide +kernel
theorem inX8_readLine_6 : ∀ w ∈ wsX60, w ∈ wsX8_readLine := by decide +kernel
theorem inX8_readLine_8 : ∀ w ∈ wsX80, w ∈ wsX8_readLine := by decide +kernel
theorem kX8_readLine_0 : Cond.fieldLink RX8 41 "AheadStore$Tape" "value" "I" ∈ wsX8_readLine := by decide +kernel
theorem kX8_readLine_1 : Cond.fieldLink RX8 35 "AheadStore$Tape" "token" "I" ∈ wsX8_readLine := by decide +kernel
theorem kX8_readLine_2 : Cond.fieldLink RX8 62 "AheadStore$Script" "size" "I" ∈ wsX8_readLine := by decide +kernel
theorem kX8_readLine_3 : Cond.fieldLink RX8 28 "AheadStore$Tape" "draft" "LAheadStore$Script;" ∈ wsX8_readLine := by decide +kernel
set_option maxHeartbeats 4000000 in
set_option maxRecDepth 100000 in
theorem c_X8_readLine {l : Launch} {dC : Nat → ClassId} {dI : Nat → Nat → Nat} {cI : ClassId} {q0 : Nat → Nat} {sz : Nat} {u0 : S8}  {Q : Int32 → S8 → Prop} (h : wp_X8_readLine u0 Q) : ctI tyE l yX8_readLine wsX8_readLine rX8_readLine (dC, dI) vwCl [(cI, .int)] [.ref (q0 0)] (cs8 cI q0 u0) sz (fun (r : Int32) (v : S8) => Q r v) (fun (v : S8) => cs8 cI q0 v) := by
  refine mx_i (cc := cX8_readLine) (maxL := 2) (ty := .boolean) (by decide) rfl (Nat.le_of_ble_eq_true rfl) ?_
  intro p e s m below meth c Z A ls args hx hb hml hown hts hA hP hK hD hE hl hret
  have hown : s.vm.findClass RX8 = some m.cls := hown
  have hl : lv_has ls 2 [(0, .ref (q0 0))] := hl
  have w_47 : ∀ (u0 : S8) (H : Heap) (locs : List Loc) (ls : Array Slot) (_ : va_P (dC, dI) vwCl (cs8 cI q0 u0) H) (_ : va_D A (cs8 cI q0 u0)) (_ : va_S A s.heap H locs) (_ : lv_has ls 2 [(0, .ref (q0 0))]) (_ : wp_X8_readLine_47 Q u0), W p l e rX8_readLine s m args below meth c H locs 0 0 Z (F0 m 47 ls []) := by
    intro u0 H locs ls hP hD hS hl h
    refine lv_aload_n hx hb dX8_readLine_47 rfl (lv_at hl 0 rfl) ?_
    refine lv_iconst (v := 1) hx hb dX8_readLine_48 (by decide) ?_
    refine cx_vi (As := [.int 1]) (rest := []) ⟨hx, hb, hml, hown, hts⟩ hl.1 ok_sxE hE.1 hK hP hD hS hA (cut_73 cI q0 u0) (c_X8_wrong (l := l) (dC := dC) (dI := dI) (cI := cI) (q0 := q0) h) (cwV 1 hts gX8_readLine_X8_wrong rfl rfl rfl hdX8_wrong ⟨Nat.le_of_ble_eq_true rfl, Nat.le_of_ble_eq_true rfl⟩) rfl rfl rfl rfl (Nat.le_of_ble_eq_true rfl) dX8_readLine_49 rfl (fun r_1 v_2 H locs h hP hD hS => ?_)
    have hP : va_P (dC, dI) vwCl (cs8 cI q0 v_2) H :=  hP
    have hD : va_D A (cs8 cI q0 v_2) :=  hD
    exact hret _ _ _ _ _ v_2 dX8_readLine_52 (zb_n h.1) h.2 hP hD hS
  have w_102 : ∀ (x1 : Int32) (u0 : S8) (H : Heap) (locs : List Loc) (ls : Array Slot) (_ : va_P (dC, dI) vwCl (cs8 cI q0 u0) H) (_ : va_D A (cs8 cI q0 u0)) (_ : va_S A s.heap H locs) (_ : lv_has ls 2 [(0, .ref (q0 0)), (1, .int x1)]) (_ : wp_X8_readLine_102 Q x1 u0), W p l e rX8_readLine s m args below meth c H locs 0 0 Z (F0 m 102 ls []) := by
    intro x1 u0 H locs ls hP hD hS hl h
    refine lv_aload_n hx hb dX8_readLine_102 rfl (lv_at hl 0 rfl) ?_
    refine lv_iload_n hx hb dX8_readLine_103 rfl (lv_at hl 1 rfl) ?_
    refine lv_aload_n hx hb dX8_readLine_104 rfl (lv_at hl 0 rfl) ?_
    refine va_get (D := (dC, dI)) (ci := 8) (v := .int (g8_value u0)) (C := RX8) (T := TX8) (N := 9) hx hb hts inX8_readLine_8 hown hK hP 0 rfl rfl 8 (by decide) (hts _ kX8_readLine_0) (fun _ h9 => h9) rfl dX8_readLine_105 ?_
    refine cx_vi (As := [.int x1, .int (g8_value u0)]) (rest := []) ⟨hx, hb, hml, hown, hts⟩ hl.1 ok_tyE hE hK hP hD hS hA (cut_73 cI q0 u0) (c_X8_readRest (l := l) (dC := dC) (dI := dI) (cI := cI) (q0 := q0) h) (cwV 2 hts gX8_readLine_X8_readRest rfl rfl rfl hdX8_readRest ⟨Nat.le_of_ble_eq_true rfl, Nat.le_of_ble_eq_true rfl⟩) rfl rfl rfl rfl (Nat.le_of_ble_eq_true rfl) dX8_readLine_108 rfl (fun r_3 v_4 H locs h hP hD hS => ?_)
    have hP : va_P (dC, dI) vwCl (cs8 cI q0 v_4) H :=  hP
    have hD : va_D A (cs8 cI q0 v_4) :=  hD
    exact hret _ _ _ _ _ v_4 dX8_readLine_111 (zb_n h.1) h.2 hP hD hS
  have w_96 : ∀ (u0 : S8) (H : Heap) (locs : List Loc) (ls : Array Slot) (_ : va_P (dC, dI) vwCl (cs8 cI q0 u0) H) (_ : va_D A (cs8 cI q0 u0)) (_ : va_S A s.heap H locs) (_ : lv_has ls 2 [(0, .ref (q0 0))]) (_ : wp_X8_readLine_96 Q u0), W p l e rX8_readLine s m args below meth c H locs 0 0 Z (F0 m 96 ls []) := by
    intro u0 H locs ls hP hD hS hl h
    refine lv_aload_n hx hb dX8_readLine_96 rfl (lv_at hl 0 rfl) ?_
    refine lv_iconst (v := 1) hx hb dX8_readLine_97 (by decide) ?_
    refine cx_vi (As := [.int 1]) (rest := []) ⟨hx, hb, hml, hown, hts⟩ hl.1 ok_sxE hE.1 hK hP hD hS hA (cut_73 cI q0 u0) (c_X8_wrong (l := l) (dC := dC) (dI := dI) (cI := cI) (q0 := q0) h) (cwV 1 hts gX8_readLine_X8_wrong rfl rfl rfl hdX8_wrong ⟨Nat.le_of_ble_eq_true rfl, Nat.le_of_ble_eq_true rfl⟩) rfl rfl rfl rfl (Nat.le_of_ble_eq_true rfl) dX8_readLine_98 rfl (fun r_5 v_6 H locs h hP hD hS => ?_)
    have hP : va_P (dC, dI) vwCl (cs8 cI q0 v_6) H :=  hP
    have hD : va_D A (cs8 cI q0 v_6) :=  hD
    exact hret _ _ _ _ _ v_6 dX8_readLine_101 (zb_n h.1) h.2 hP hD hS
  have w_53 : ∀ (x1 : Int32) (u0 : S8) (H : Heap) (locs : List Loc) (ls : Array Slot) (_ : va_P (dC, dI) vwCl (cs8 cI q0 u0) H) (_ : va_D A (cs8 cI q0 u0)) (_ : va_S A s.heap H locs) (_ : lv_has ls 2 [(0, .ref (q0 0)), (1, .int x1)]) (_ : wp_X8_readLine_53 Q x1 u0), W p l e rX8_readLine s m args below meth c H locs 0 0 Z (F0 m 53 ls []) := by
    intro x1 u0 H locs ls hP hD hS hl h
    refine lv_aload_n hx hb dX8_readLine_53 rfl (lv_at hl 0 rfl) ?_
    refine va_get (D := (dC, dI)) (ci := 8) (v := .ref (q0 2)) (C := RX8) (T := TX8) (N := 9) hx hb hts inX8_readLine_8 hown hK hP 0 rfl rfl 4 (by decide) (hts _ kX8_readLine_3) (fun _ h9 => h9) rfl dX8_readLine_54 ?_
    refine va_get (D := (dC, dI)) (ci := 6) (v := .int (g6_size (g8_draft u0))) (C := RX6) (T := TX6) (N := 3) hx hb hts inX8_readLine_6 hown hK hP 2 rfl rfl 1 (by decide) (hts _ kX8_readLine_2) (fun _ h9 => h9) rfl dX8_readLine_57 ?_
    refine lv_bipush (v := 24) hx hb dX8_readLine_60 (by decide) ?_
    refine lv_icmp_lt (tgt := 71) hx hb dX8_readLine_62 (by decide) (fun cd => ?_) (fun cd => ?_)
    · have h := h.1 cd
      refine lv_iload_n hx hb dX8_readLine_71 rfl (lv_at hl 1 rfl) ?_
      refine lv_if_eq (tgt := 102) hx hb dX8_readLine_72 (by decide) (fun cd => ?_) (fun cd => ?_)
      · have h := h.1 cd
        exact w_102 x1 u0 _ _ _ hP hD hS (lv_sub hl [0, 1] rfl) h
      · have h := h.2 cd
        refine lv_aload_n hx hb dX8_readLine_75 rfl (lv_at hl 0 rfl) ?_
        refine cx_vv (As := []) (rest := []) ⟨hx, hb, hml, hown, hts⟩ hl.1 ok_tyE hE hK hP hD hS hA (cut_73 cI q0 u0) (c_X8_nextToken (l := l) (dC := dC) (dI := dI) (cI := cI) (q0 := q0) h) (cwV 0 hts gX8_readLine_X8_nextToken rfl rfl rfl hdX8_nextToken ⟨Nat.le_of_ble_eq_true rfl, Nat.le_of_ble_eq_true rfl⟩) rfl rfl rfl rfl (Nat.le_of_ble_eq_true rfl) dX8_readLine_76 rfl (fun v_7 H locs h hP hD hS => ?_)
        have hP : va_P (dC, dI) vwCl (cs8 cI q0 v_7) H :=  hP
        have hD : va_D A (cs8 cI q0 v_7) :=  hD
        refine lv_aload_n hx hb dX8_readLine_79 rfl (lv_at hl 0 rfl) ?_
        refine va_get (D := (dC, dI)) (ci := 8) (v := .int (g8_token v_7)) (C := RX8) (T := TX8) (N := 9) hx hb hts inX8_readLine_8 hown hK hP 0 rfl rfl 6 (by decide) (hts _ kX8_readLine_1) (fun _ h9 => h9) rfl dX8_readLine_80 ?_
        refine lv_iconst (v := 1) hx hb dX8_readLine_83 (by decide) ?_
        refine lv_icmp_ne (tgt := 96) hx hb dX8_readLine_84 (by decide) (fun cd => ?_) (fun cd => ?_)
        · have h := h.2 cd
          exact w_96 v_7 _ _ _ hP hD hS (lv_sub hl [0] rfl) h
        · have h := h.1 cd
          refine lv_aload_n hx hb dX8_readLine_87 rfl (lv_at hl 0 rfl) ?_
          refine va_get (D := (dC, dI)) (ci := 8) (v := .int (g8_value v_7)) (C := RX8) (T := TX8) (N := 9) hx hb hts inX8_readLine_8 hown hK hP 0 rfl rfl 8 (by decide) (hts _ kX8_readLine_0) (fun _ h9 => h9) rfl dX8_readLine_88 ?_
          refine lv_bipush (v := 10) hx hb dX8_readLine_91 (by decide) ?_
          refine lv_icmp_lt (tgt := 102) hx hb dX8_readLine_93 (by decide) (fun cd => ?_) (fun cd => ?_)
          · have h := h.1 cd
            exact w_102 x1 v_7 _ _ _ hP hD hS (lv_sub hl [0, 1] rfl) h
          · have h := h.2 cd
            exact w_96 v_7 _ _ _ hP hD hS (lv_sub hl [0] rfl) h
    · have h := h.2 cd
      refine lv_aload_n hx hb dX8_readLine_65 rfl (lv_at hl 0 rfl) ?_
      refine lv_iconst (v := 3) hx hb dX8_readLine_66 (by decide) ?_
      refine cx_vi (As := [.int 3]) (rest := []) ⟨hx, hb, hml, hown, hts⟩ hl.1 ok_sxE hE.1 hK hP hD hS hA (cut_73 cI q0 u0) (c_X8_wrong (l := l) (dC := dC) (dI := dI) (cI := cI) (q0 := q0) h) (cwV 1 hts gX8_readLine_X8_wrong rfl rfl rfl hdX8_wrong ⟨Nat.le_of_ble_eq_true rfl, Nat.le_of_ble_eq_true rfl⟩) rfl rfl rfl rfl (Nat.le_of_ble_eq_true rfl) dX8_readLine_67 rfl (fun r_8 v_9 H locs h hP hD hS => ?_)
      have hP : va_P (dC, dI) vwCl (cs8 cI q0 v_9) H :=  hP
      have hD : va_D A (cs8 cI q0 v_9) :=  hD
      exact hret _ _ _ _ _ v_9 dX8_readLine_70 (zb_n h.1) h.2 hP hD hS
  have hS : va_S A s.heap s.heap [] := va_S.rf
  refine lv_iconst (v := 0) hx hb dX8_readLine_0 (by decide) ?_
  refine lv_istore_n (lv' := [(1, .int 0), (0, .ref (q0 0))]) hx hb dX8_readLine_1 rfl hl (by decide) rfl (fun ls hl => ?_)
  refine lv_aload_n hx hb dX8_readLine_2 rfl (lv_at hl 1 rfl) ?_
  refine va_get (D := (dC, dI)) (ci := 8) (v := .int (g8_token u0)) (C := RX8) (T := TX8) (N := 9) hx hb hts inX8_readLine_8 hown hK hP 0 rfl rfl 6 (by decide) (hts _ kX8_readLine_1) (fun _ h9 => h9) rfl dX8_readLine_3 ?_
  refine lv_iconst (v := 2) hx hb dX8_readLine_6 (by decide) ?_
  refine lv_icmp_ne (tgt := 30) hx hb dX8_readLine_7 (by decide) (fun cd => ?_) (fun cd => ?_)
  · have h := h.2 cd
    refine lv_aload_n hx hb dX8_readLine_30 rfl (lv_at hl 1 rfl) ?_
    refine va_get (D := (dC, dI)) (ci := 8) (v := .int (g8_token u0)) (C := RX8) (T := TX8) (N := 9) hx hb hts inX8_readLine_8 hown hK hP 0 rfl rfl 6 (by decide) (hts _ kX8_readLine_1) (fun _ h9 => h9) rfl dX8_readLine_31 ?_
    refine lv_iconst (v := 1) hx hb dX8_readLine_34 (by decide) ?_
    refine lv_icmp_ne (tgt := 47) hx hb dX8_readLine_35 (by decide) (fun cd => ?_) (fun cd => ?_)
    · have h := h.2 cd
      exact w_47 u0 _ _ _ hP hD hS (lv_sub hl [1] rfl) h
    · have h := h.1 cd
      refine lv_aload_n hx hb dX8_readLine_38 rfl (lv_at hl 1 rfl) ?_
      refine va_get (D := (dC, dI)) (ci := 8) (v := .int (g8_value u0)) (C := RX8) (T := TX8) (N := 9) hx hb hts inX8_readLine_8 hown hK hP 0 rfl rfl 8 (by decide) (hts _ kX8_readLine_0) (fun _ h9 => h9) rfl dX8_readLine_39 ?_
      refine lv_bipush (v := 10) hx hb dX8_readLine_42 (by decide) ?_
      refine lv_icmp_ge (tgt := 53) hx hb dX8_readLine_44 (by decide) (fun cd => ?_) (fun cd => ?_)
      · have h := h.1 cd
        exact w_53 0 u0 _ _ _ hP hD hS (lv_sub hl [1, 0] rfl) h
      · have h := h.2 cd
        exact w_47 u0 _ _ _ hP hD hS (lv_sub hl [1] rfl) h
  · have h := h.1 cd
    refine lv_aload_n hx hb dX8_readLine_10 rfl (lv_at hl 1 rfl) ?_
    refine lv_iconst (v := 1) hx hb dX8_readLine_11 (by decide) ?_
    refine lv_bipush (v := 9) hx hb dX8_readLine_12 (by decide) ?_
    refine cx_vi (As := [.int 1, .int 9]) (rest := []) ⟨hx, hb, hml, hown, hts⟩ hl.1 ok_sxE hE.1 hK hP hD hS hA (cut_73 cI q0 u0) (c_X8_numberWithin (l := l) (dC := dC) (dI := dI) (cI := cI) (q0 := q0) h) (cwV 2 hts gX8_readLine_X8_numberWithin rfl rfl rfl hdX8_numberWithin ⟨Nat.le_of_ble_eq_true rfl, Nat.le_of_ble_eq_true rfl⟩) rfl rfl rfl rfl (Nat.le_of_ble_eq_true rfl) dX8_readLine_14 rfl (fun r_10 v_11 H locs h hP hD hS => ?_)
    have hP : va_P (dC, dI) vwCl (cs8 cI q0 v_11) H :=  hP
    have hD : va_D A (cs8 cI q0 v_11) :=  hD
    refine lv_if_ne (tgt := 22) hx hb dX8_readLine_17 (by decide) (fun cd => ?_) (fun cd => ?_)
    · have h := h.2 cd
      refine lv_aload_n hx hb dX8_readLine_22 rfl (lv_at hl 1 rfl) ?_
      refine va_get (D := (dC, dI)) (ci := 8) (v := .int (g8_value v_11)) (C := RX8) (T := TX8) (N := 9) hx hb hts inX8_readLine_8 hown hK hP 0 rfl rfl 8 (by decide) (hts _ kX8_readLine_0) (fun _ h9 => h9) rfl dX8_readLine_23 ?_
      refine lv_topi (fun x1_12 e_x1_12 => ?_)
      have h := h x1_12 e_x1_12
      refine lv_istore_n (lv' := [(1, .int x1_12), (0, .ref (q0 0))]) hx hb dX8_readLine_26 rfl hl (by decide) rfl (fun ls hl => ?_)
      refine lv_goto (tgt := 53) hx hb dX8_readLine_27 (by decide) ?_
      exact w_53 x1_12 v_11 _ _ _ hP hD hS (lv_sub hl [1, 0] rfl) h
    · have h := h.1 cd
      refine lv_iconst (v := 0) hx hb dX8_readLine_20 (by decide) ?_
      exact hret _ _ _ _ _ v_11 dX8_readLine_21 (by decide) h hP hD hS

abbrev rX8_readPlan : Room := { frames := 9, cells := 0, slots := 0, locals := 196 }
theorem hdX8_readPlan : yX8_readPlan.cls = RX8 ∧ yX8_readPlan.cls ≠ "java/lang/invoke/MethodHandle" ∧ yX8_readPlan.cls ≠ "java/lang/invoke/VarHandle" ∧ (parseMethodDescriptor yX8_readPlan.desc).map (fun d => d.parameters.length) = some 0 := by decide +kernel
theorem inX8_readPlan_8 : ∀ w ∈ wsX80, w ∈ wsX8_readPlan := by decide +kernel
theorem kX8_readPlan_0 : Cond.fieldLink RX8 15 "AheadStore$Tape" "size" "I" ∈ wsX8_readPlan := by decide +kernel
theorem kX8_readPlan_1 : Cond.fieldLink RX8 35 "AheadStore$Tape" "token" "I" ∈ wsX8_readPlan := by decide +kernel
theorem kX8_readPlan_2 : Cond.fieldLink RX8 28 "AheadStore$Tape" "draft" "LAheadStore$Script;" ∈ wsX8_readPlan := by decide +kernel
theorem kX8_readPlan_3 : Cond.fieldLink RX8 32 "AheadStore$Tape" "place" "I" ∈ wsX8_readPlan := by decide +kernel
theorem kX8_readPlan_4 : Cond.fieldLink RX8 22 "AheadStore$Tape" "faultPlace" "I" ∈ wsX8_readPlan := by decide +kernel
theorem kX8_readPlan_5 : Cond.fieldLink RX8 19 "AheadStore$Tape" "fault" "I" ∈ wsX8_readPlan := by decide +kernel
set_option maxHeartbeats 4000000 in
set_option maxRecDepth 100000 in
theorem c_X8_readPlan {l : Launch} {dC : Nat → ClassId} {dI : Nat → Nat → Nat} {cI : ClassId} {q0 : Nat → Nat} {sz : Nat} {u0 : S8}  {Q : Int32 → S8 → Prop} (h : wp_X8_readPlan u0 Q) : ctI tyE l yX8_readPlan wsX8_readPlan rX8_readPlan (dC, dI) vwCl [(cI, .int)] [.ref (q0 0)] (cs8 cI q0 u0) sz (fun (r : Int32) (v : S8) => Q r v) (fun (v : S8) => cs8 cI q0 v) := by
  refine mx_i (cc := cX8_readPlan) (maxL := 3) (ty := .boolean) (by decide) rfl (Nat.le_of_ble_eq_true rfl) ?_
  intro p e s m below meth c Z A ls args hx hb hml hown hts hA hP hK hD hE hl hret
  have hown : s.vm.findClass RX8 = some m.cls := hown
  have hl : lv_has ls 3 [(0, .ref (q0 0))] := hl
  have w_58 : ∀ (x1 : Int32) (u0 : S8) (H : Heap) (locs : List Loc) (ls : Array Slot) (_ : va_P (dC, dI) vwCl (cs8 cI q0 u0) H) (_ : va_D A (cs8 cI q0 u0)) (_ : va_S A s.heap H locs) (_ : lv_has ls 3 [(0, .ref (q0 0)), (1, .int x1)]) (_ : wp_X8_readPlan_58 Q x1 u0), W p l e rX8_readPlan s m args below meth c H locs 0 0 Z (F0 m 58 ls []) := by
    intro x1 u0 H locs ls hP hD hS hl h
    refine lv_aload_n hx hb dX8_readPlan_58 rfl (lv_at hl 0 rfl) ?_
    refine lv_iconst (v := 0) hx hb dX8_readPlan_59 (by decide) ?_
    refine va_put (D := (dC, dI)) (ci := 8) (v := .int 0) (ty := .int) (C := RX8) (T := TX8) (N := 9) hx hb hts inX8_readPlan_8 tyX8 tyX8_ok nmX8 hown hK hP hD hS 0 rfl rfl 1 (by decide) (hts _ kX8_readPlan_0) (fun _ h9 => h9) rfl (tyX8_ok 1 (by decide)) rfl rfl (Nat.le_of_ble_eq_true rfl) dX8_readPlan_60 (fun H locs hP hD hS => ?_)
    obtain ⟨u0_1, e_u0_1⟩ : ∃ z, z = s8_size u0 0 := ⟨_, rfl⟩
    have h := h u0_1 e_u0_1
    have hP : va_P (dC, dI) vwCl (cs8 cI q0 u0_1) H := by rw [e_u0_1]; exact hP
    have hD : va_D A (cs8 cI q0 u0_1) := by rw [e_u0_1]; exact hD
    refine lv_iload_n hx hb dX8_readPlan_63 rfl (lv_at hl 1 rfl) ?_
    exact hret _ _ _ _ _ u0_1 dX8_readPlan_64 (zb_n h.1) h.2 hP hD hS
  have w_30 : ∀ (n : Nat) (x1 : Int32) (x2 : Int32) (u0 : S8) (H : Heap) (locs : List Loc) (ls : Array Slot) (_ : va_P (dC, dI) vwCl (cs8 cI q0 u0) H) (_ : va_D A (cs8 cI q0 u0)) (_ : va_S A s.heap H locs) (_ : lv_has ls 3 [(0, .ref (q0 0)), (1, .int x1), (2, .int x2)]) (_ : wp_X8_readPlan_30 Q n x1 x2 u0), W p l e rX8_readPlan s m args below meth c H locs 0 0 Z (F0 m 30 ls []) := by
    intro n
    induction n with
    | zero => intro x1 x2 u0 H locs ls hP hD hS hl h; exact False.elim h
    | succ n ih =>
      intro x1 x2 u0 H locs ls hP hD hS hl h
      refine lv_iload_n hx hb dX8_readPlan_30 rfl (lv_at hl 2 rfl) ?_
      refine lv_bipush (v := 24) hx hb dX8_readPlan_31 (by decide) ?_
      refine lv_icmp_gt (tgt := 58) hx hb dX8_readPlan_33 (by decide) (fun cd => ?_) (fun cd => ?_)
      · have h := h.1 cd
        exact w_58 x1 u0 _ _ _ hP hD hS (lv_sub hl [0, 1] rfl) h
      · have h := h.2 cd
        refine lv_iload_n hx hb dX8_readPlan_36 rfl (lv_at hl 1 rfl) ?_
        refine lv_if_eq (tgt := 58) hx hb dX8_readPlan_37 (by decide) (fun cd => ?_) (fun cd => ?_)
        · have h := h.1 cd
          exact w_58 x1 u0 _ _ _ hP hD hS (lv_sub hl [0, 1] rfl) h
        · have h := h.2 cd
          refine lv_aload_n hx hb dX8_readPlan_40 rfl (lv_at hl 0 rfl) ?_
          refine va_get (D := (dC, dI)) (ci := 8) (v := .int (g8_token u0)) (C := RX8) (T := TX8) (N := 9) hx hb hts inX8_readPlan_8 hown hK hP 0 rfl rfl 6 (by decide) (hts _ kX8_readPlan_1) (fun _ h9 => h9) rfl dX8_readPlan_41 ?_
          refine lv_if_eq (tgt := 58) hx hb dX8_readPlan_44 (by decide) (fun cd => ?_) (fun cd => ?_)
          · have h := h.1 cd
            exact w_58 x1 u0 _ _ _ hP hD hS (lv_sub hl [0, 1] rfl) h
          · have h := h.2 cd
            refine lv_aload_n hx hb dX8_readPlan_47 rfl (lv_at hl 0 rfl) ?_
            refine cx_vi (As := []) (rest := []) ⟨hx, hb, hml, hown, hts⟩ hl.1 ok_tyE hE hK hP hD hS hA (cut_73 cI q0 u0) (c_X8_readLine (l := l) (dC := dC) (dI := dI) (cI := cI) (q0 := q0) h) (cwV 0 hts gX8_readPlan_X8_readLine rfl rfl rfl hdX8_readLine ⟨Nat.le_of_ble_eq_true rfl, Nat.le_of_ble_eq_true rfl⟩) rfl rfl rfl rfl (Nat.le_of_ble_eq_true rfl) dX8_readPlan_48 rfl (fun r_2 v_3 H locs h hP hD hS => ?_)
            have hP : va_P (dC, dI) vwCl (cs8 cI q0 v_3) H :=  hP
            have hD : va_D A (cs8 cI q0 v_3) :=  hD
            refine lv_istore_n (lv' := [(1, .int r_2), (0, .ref (q0 0)), (2, .int x2)]) hx hb dX8_readPlan_51 rfl hl (by decide) rfl (fun ls hl => ?_)
            obtain ⟨x2_4, e_x2_4⟩ : ∃ z : Int32, z = x2 + 1 := ⟨_, rfl⟩
            have h := h x2_4 e_x2_4
            refine lv_iinc (v := x2_4) (lv' := [(2, .int x2_4), (1, .int r_2), (0, .ref (q0 0))]) hx hb dX8_readPlan_52 hl (k := 2) rfl (by rw [e_x2_4]; rfl) (by decide) rfl (fun ls hl => ?_)
            refine lv_goto (tgt := 30) hx hb dX8_readPlan_55 (by decide) ?_
            exact ih r_2 x2_4 v_3 _ _ _ hP hD hS (lv_sub hl [2, 1, 0] rfl) h
  have hS : va_S A s.heap s.heap [] := va_S.rf
  refine lv_aload_n hx hb dX8_readPlan_0 rfl (lv_at hl 0 rfl) ?_
  refine lv_iconst (v := 0) hx hb dX8_readPlan_1 (by decide) ?_
  refine va_put (D := (dC, dI)) (ci := 8) (v := .int 0) (ty := .int) (C := RX8) (T := TX8) (N := 9) hx hb hts inX8_readPlan_8 tyX8 tyX8_ok nmX8 hown hK hP hD hS 0 rfl rfl 2 (by decide) (hts _ kX8_readPlan_5) (fun _ h9 => h9) rfl (tyX8_ok 2 (by decide)) rfl rfl (Nat.le_of_ble_eq_true rfl) dX8_readPlan_2 (fun H locs hP hD hS => ?_)
  obtain ⟨u0_5, e_u0_5⟩ : ∃ z, z = s8_fault u0 0 := ⟨_, rfl⟩
  have h := h u0_5 e_u0_5
  have hP : va_P (dC, dI) vwCl (cs8 cI q0 u0_5) H := by rw [e_u0_5]; exact hP
  have hD : va_D A (cs8 cI q0 u0_5) := by rw [e_u0_5]; exact hD
  refine lv_aload_n hx hb dX8_readPlan_5 rfl (lv_at hl 0 rfl) ?_
  refine lv_iconst (v := (-1)) hx hb dX8_readPlan_6 (by decide) ?_
  refine va_put (D := (dC, dI)) (ci := 8) (v := .int (-1)) (ty := .int) (C := RX8) (T := TX8) (N := 9) hx hb hts inX8_readPlan_8 tyX8 tyX8_ok nmX8 hown hK hP hD hS 0 rfl rfl 3 (by decide) (hts _ kX8_readPlan_4) (fun _ h9 => h9) rfl (tyX8_ok 3 (by decide)) rfl rfl (Nat.le_of_ble_eq_true rfl) dX8_readPlan_7 (fun H locs hP hD hS => ?_)
  obtain ⟨u0_6, e_u0_6⟩ : ∃ z, z = s8_faultPlace u0_5 (-1) := ⟨_, rfl⟩
  have h := h u0_6 e_u0_6
  have hP : va_P (dC, dI) vwCl (cs8 cI q0 u0_6) H := by rw [e_u0_6]; exact hP
  have hD : va_D A (cs8 cI q0 u0_6) := by rw [e_u0_6]; exact hD
  refine lv_aload_n hx hb dX8_readPlan_10 rfl (lv_at hl 0 rfl) ?_
  refine lv_iconst (v := 0) hx hb dX8_readPlan_11 (by decide) ?_
  refine va_put (D := (dC, dI)) (ci := 8) (v := .int 0) (ty := .int) (C := RX8) (T := TX8) (N := 9) hx hb hts inX8_readPlan_8 tyX8 tyX8_ok nmX8 hown hK hP hD hS 0 rfl rfl 5 (by decide) (hts _ kX8_readPlan_3) (fun _ h9 => h9) rfl (tyX8_ok 5 (by decide)) rfl rfl (Nat.le_of_ble_eq_true rfl) dX8_readPlan_12 (fun H locs hP hD hS => ?_)
  obtain ⟨u0_7, e_u0_7⟩ : ∃ z, z = s8_place u0_6 0 := ⟨_, rfl⟩
  have h := h u0_7 e_u0_7
  have hP : va_P (dC, dI) vwCl (cs8 cI q0 u0_7) H := by rw [e_u0_7]; exact hP
  have hD : va_D A (cs8 cI q0 u0_7) := by rw [e_u0_7]; exact hD
  refine lv_aload_n hx hb dX8_readPlan_15 rfl (lv_at hl 0 rfl) ?_
  refine va_get (D := (dC, dI)) (ci := 8) (v := .ref (q0 2)) (C := RX8) (T := TX8) (N := 9) hx hb hts inX8_readPlan_8 hown hK hP 0 rfl rfl 4 (by decide) (hts _ kX8_readPlan_2) (fun _ h9 => h9) rfl dX8_readPlan_16 ?_
  refine cx_vv (As := []) (rest := []) ⟨hx, hb, hml, hown, hts⟩ hl.1 ok_sxE hE.1 hK hP hD hS hA (cut_74 cI q0 u0_7) (c_X6_clear (l := l) (dC := dC) (dI := dI) (cI := cI) (q0 := fun i => q0 (i + 2)) h) (cwV 0 hts gX8_readPlan_X6_clear rfl rfl rfl hdX6_clear ⟨Nat.le_of_ble_eq_true rfl, Nat.le_of_ble_eq_true rfl⟩) rfl rfl rfl rfl (Nat.le_of_ble_eq_true rfl) dX8_readPlan_19 rfl (fun v_8 H locs h hP hD hS => ?_)
  obtain ⟨u0_9, e_u0_9⟩ : ∃ z, z = s8_draft u0_7 v_8 := ⟨_, rfl⟩
  have h := h u0_9 e_u0_9
  have hP : va_P (dC, dI) vwCl (cs8 cI q0 u0_9) H := by rw [e_u0_9]; exact hP
  have hD : va_D A (cs8 cI q0 u0_9) := by rw [e_u0_9]; exact hD
  refine lv_aload_n hx hb dX8_readPlan_22 rfl (lv_at hl 0 rfl) ?_
  refine cx_vv (As := []) (rest := []) ⟨hx, hb, hml, hown, hts⟩ hl.1 ok_tyE hE hK hP hD hS hA (cut_73 cI q0 u0_9) (c_X8_nextToken (l := l) (dC := dC) (dI := dI) (cI := cI) (q0 := q0) h) (cwV 0 hts gX8_readPlan_X8_nextToken rfl rfl rfl hdX8_nextToken ⟨Nat.le_of_ble_eq_true rfl, Nat.le_of_ble_eq_true rfl⟩) rfl rfl rfl rfl (Nat.le_of_ble_eq_true rfl) dX8_readPlan_23 rfl (fun v_10 H locs h hP hD hS => ?_)
  have hP : va_P (dC, dI) vwCl (cs8 cI q0 v_10) H :=  hP
  have hD : va_D A (cs8 cI q0 v_10) :=  hD
  refine lv_iconst (v := 1) hx hb dX8_readPlan_26 (by decide) ?_
  refine lv_istore_n (lv' := [(1, .int 1), (0, .ref (q0 0))]) hx hb dX8_readPlan_27 rfl hl (by decide) rfl (fun ls hl => ?_)
  refine lv_iconst (v := 0) hx hb dX8_readPlan_28 (by decide) ?_
  refine lv_istore_n (lv' := [(2, .int 0), (1, .int 1), (0, .ref (q0 0))]) hx hb dX8_readPlan_29 rfl hl (by decide) rfl (fun ls hl => ?_)
  obtain ⟨n0, h⟩ := h
  exact w_30 n0 1 0 v_10 _ _ _ hP hD hS (lv_sub hl [2, 1, 0] rfl) h
