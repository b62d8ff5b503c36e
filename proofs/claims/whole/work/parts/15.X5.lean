set_option maxRecDepth 100000 in
theorem cut_17 (cI : ClassId) (q0 : Nat → Nat) (u0 : S5) : Cut (cs5 cI q0 u0) ([((fun i => q0 (i + 3)) 0, .inl (cI, 10, .inl (g5_cursor u0)))]) (fun v : (Nat → Int32) => [((fun i => q0 (i + 3)) 0, .inl (cI, 10, .inl v))]) (fun v : (Nat → Int32) => cs5 cI q0 (s5_cursor u0 v)) := ⟨[3], [0, 1, 2], rfl, rfl, rfl, by decide, by decide, fun v => ⟨[0, 1, 2, 3], rfl, rfl⟩⟩

set_option maxRecDepth 100000 in
theorem cut_18 (cI : ClassId) (q0 : Nat → Nat) (u0 : S5) : Cut (cs5 cI q0 u0) ([((fun i => q0 (i + 2)) 0, .inl (cI, 10, .inl (g5_last u0)))]) (fun v : (Nat → Int32) => [((fun i => q0 (i + 2)) 0, .inl (cI, 10, .inl v))]) (fun v : (Nat → Int32) => cs5 cI q0 (s5_last u0 v)) := ⟨[2], [0, 1, 3], rfl, rfl, rfl, by decide, by decide, fun v => ⟨[0, 1, 3, 2], rfl, rfl⟩⟩

set_option maxRecDepth 100000 in
theorem cut_19 (cI : ClassId) (q0 : Nat → Nat) (u0 : S5) : Cut (cs5 cI q0 u0) ([((fun i => q0 (i + 1)) 0, .inl (cI, 10, .inl (g5_is u0)))]) (fun v : (Nat → Int32) => [((fun i => q0 (i + 1)) 0, .inl (cI, 10, .inl v))]) (fun v : (Nat → Int32) => cs5 cI q0 (s5_is u0 v)) := ⟨[1], [0, 2, 3], rfl, rfl, rfl, by decide, by decide, fun v => ⟨[0, 3, 1, 2], rfl, rfl⟩⟩

abbrev rX5_clear : Room := { frames := 1, cells := 0, slots := 0, locals := 23 }
theorem hdX5_clear : yX5_clear.cls = RX5 ∧ yX5_clear.cls ≠ "java/lang/invoke/MethodHandle" ∧ yX5_clear.cls ≠ "java/lang/invoke/VarHandle" ∧ (parseMethodDescriptor yX5_clear.desc).map (fun d => d.parameters.length) = some 0 := by decide +kernel
theorem inX5_clear_5 : ∀ w ∈ wsX50, w ∈ wsX5_clear := by decide +kernel
theorem kX5_clear_0 : Cond.fieldLink RX5 18 "AheadStore$Roster" "cursor" "[I" ∈ wsX5_clear := by decide +kernel
theorem kX5_clear_1 : Cond.fieldLink RX5 15 "AheadStore$Roster" "last" "[I" ∈ wsX5_clear := by decide +kernel
theorem kX5_clear_2 : Cond.fieldLink RX5 9 "AheadStore$Roster" "is" "[I" ∈ wsX5_clear := by decide +kernel
set_option maxHeartbeats 4000000 in
set_option maxRecDepth 100000 in
theorem c_X5_clear {l : Launch} {dC : Nat → ClassId} {dI : Nat → Nat → Nat} {cI : ClassId} {q0 : Nat → Nat} {sz : Nat} {u0 : S5}  {Q : S5 → Prop} (h : wp_X5_clear u0 Q) : ctV sxE l yX5_clear wsX5_clear rX5_clear (dC, dI) vwCl [(cI, .int)] [.ref (q0 0)] (cs5 cI q0 u0) sz (fun (v : S5) => Q v) (fun (v : S5) => cs5 cI q0 v) := by
  refine mx_v (cc := cX5_clear) (maxL := 1) (by decide) rfl (Nat.le_of_ble_eq_true rfl) ?_
  intro p e s m below meth c Z A ls args hx hb hml hown hts hA hP hK hD hE hl hret
  have hown : s.vm.findClass RX5 = some m.cls := hown
  have hl : lv_has ls 1 [(0, .ref (q0 0))] := hl
  have hS : va_S A s.heap s.heap [] := va_S.rf
  refine lv_aload_n hx hb dX5_clear_0 rfl (lv_at hl 0 rfl) ?_
  refine va_get (D := (dC, dI)) (ci := 5) (v := .ref (q0 1)) (C := RX5) (T := TX5) (N := 3) hx hb hts inX5_clear_5 hown hK hP 0 rfl rfl 0 (by decide) (hts _ kX5_clear_2) (fun _ h9 => h9) rfl dX5_clear_1 ?_
  refine lv_iconst (v := 0) hx hb dX5_clear_4 (by decide) ?_
  refine cx_sv (As := [.ref (q0 1), .int 0]) (rest := []) ⟨hx, hb, hml, hown, hts⟩ hl.1 ok_noE trivial hK hP hD hS hA (cut_19 cI q0 u0) (c_J7_fill_53178 (l := l) (dC := dC) (dI := dI) (cI := cI) (q0 := fun i => q0 (i + 1)) h) (va_cwS 2 hts gX5_clear_J7_fill_53178 rfl rfl rfl hdJ7_fill_53178 ⟨Nat.le_of_ble_eq_true rfl, Nat.le_of_ble_eq_true rfl⟩) rfl (Nat.le_of_ble_eq_true rfl) dX5_clear_5 rfl (fun v_1 H locs h hP hD hS => ?_)
  obtain ⟨u0_2, e_u0_2⟩ : ∃ z, z = s5_is u0 v_1 := ⟨_, rfl⟩
  have h := h u0_2 e_u0_2
  have hP : va_P (dC, dI) vwCl (cs5 cI q0 u0_2) H := by rw [e_u0_2]; exact hP
  have hD : va_D A (cs5 cI q0 u0_2) := by rw [e_u0_2]; exact hD
  refine lv_aload_n hx hb dX5_clear_8 rfl (lv_at hl 0 rfl) ?_
  refine va_get (D := (dC, dI)) (ci := 5) (v := .ref (q0 2)) (C := RX5) (T := TX5) (N := 3) hx hb hts inX5_clear_5 hown hK hP 0 rfl rfl 1 (by decide) (hts _ kX5_clear_1) (fun _ h9 => h9) rfl dX5_clear_9 ?_
  refine lv_iconst (v := 0) hx hb dX5_clear_12 (by decide) ?_
  refine cx_sv (As := [.ref (q0 2), .int 0]) (rest := []) ⟨hx, hb, hml, hown, hts⟩ hl.1 ok_noE trivial hK hP hD hS hA (cut_18 cI q0 u0_2) (c_J7_fill_53178 (l := l) (dC := dC) (dI := dI) (cI := cI) (q0 := fun i => q0 (i + 2)) h) (va_cwS 2 hts gX5_clear_J7_fill_53178 rfl rfl rfl hdJ7_fill_53178 ⟨Nat.le_of_ble_eq_true rfl, Nat.le_of_ble_eq_true rfl⟩) rfl (Nat.le_of_ble_eq_true rfl) dX5_clear_13 rfl (fun v_3 H locs h hP hD hS => ?_)
  obtain ⟨u0_4, e_u0_4⟩ : ∃ z, z = s5_last u0_2 v_3 := ⟨_, rfl⟩
  have h := h u0_4 e_u0_4
  have hP : va_P (dC, dI) vwCl (cs5 cI q0 u0_4) H := by rw [e_u0_4]; exact hP
  have hD : va_D A (cs5 cI q0 u0_4) := by rw [e_u0_4]; exact hD
  refine lv_aload_n hx hb dX5_clear_16 rfl (lv_at hl 0 rfl) ?_
  refine va_get (D := (dC, dI)) (ci := 5) (v := .ref (q0 3)) (C := RX5) (T := TX5) (N := 3) hx hb hts inX5_clear_5 hown hK hP 0 rfl rfl 2 (by decide) (hts _ kX5_clear_0) (fun _ h9 => h9) rfl dX5_clear_17 ?_
  refine lv_iconst (v := 0) hx hb dX5_clear_20 (by decide) ?_
  refine cx_sv (As := [.ref (q0 3), .int 0]) (rest := []) ⟨hx, hb, hml, hown, hts⟩ hl.1 ok_noE trivial hK hP hD hS hA (cut_17 cI q0 u0_4) (c_J7_fill_53178 (l := l) (dC := dC) (dI := dI) (cI := cI) (q0 := fun i => q0 (i + 3)) h) (va_cwS 2 hts gX5_clear_J7_fill_53178 rfl rfl rfl hdJ7_fill_53178 ⟨Nat.le_of_ble_eq_true rfl, Nat.le_of_ble_eq_true rfl⟩) rfl (Nat.le_of_ble_eq_true rfl) dX5_clear_21 rfl (fun v_5 H locs h hP hD hS => ?_)
  obtain ⟨u0_6, e_u0_6⟩ : ∃ z, z = s5_cursor u0_4 v_5 := ⟨_, rfl⟩
  have h := h u0_6 e_u0_6
  have hP : va_P (dC, dI) vwCl (cs5 cI q0 u0_6) H := by rw [e_u0_6]; exact hP
  have hD : va_D A (cs5 cI q0 u0_6) := by rw [e_u0_6]; exact hD
  exact hret _ _ _ _ u0_6 dX5_clear_24 h hP hD hS

set_option maxRecDepth 100000 in
theorem cut_20 (cI : ClassId) (q0 : Nat → Nat) (q1 : Nat → Nat) (u0 : S5) (u1 : S2) : Cut (cs5 cI q0 u0 ++ cs2 cI q1 u1) (cs2 cI q1 u1) (fun _ : Unit => cs2 cI q1 u1) (fun _ : Unit => (cs5 cI q0 u0 ++ cs2 cI q1 u1)) := ⟨[4, 5], [0, 1, 2, 3], rfl, rfl, rfl, by decide, by decide, fun _ => ⟨[0, 1, 2, 3, 4, 5], rfl, rfl⟩⟩

set_option maxRecDepth 100000 in
theorem cut_21 (cI : ClassId) (q0 : Nat → Nat) (q1 : Nat → Nat) (u0 : S5) (u1 : S2) : Cut (cs5 cI q0 u0 ++ cs2 cI q1 u1) (([] : va_W)) (fun _ : Unit => ([] : va_W)) (fun _ : Unit => (cs5 cI q0 u0 ++ cs2 cI q1 u1)) := ⟨[], [0, 1, 2, 3, 4, 5], rfl, rfl, rfl, by decide, by decide, fun _ => ⟨[0, 1, 2, 3, 4, 5], rfl, rfl⟩⟩

abbrev rX5_learnAll : Room := { frames := 2, cells := 0, slots := 0, locals := 42 }
theorem hdX5_learnAll : yX5_learnAll.cls = RX5 ∧ yX5_learnAll.cls ≠ "java/lang/invoke/MethodHandle" ∧ yX5_learnAll.cls ≠ "java/lang/invoke/VarHandle" ∧ (parseMethodDescriptor yX5_learnAll.desc).map (fun d => d.parameters.length) = some 2 := by decide +kernel
theorem inX5_learnAll_5 : ∀ w ∈ wsX50, w ∈ wsX5_learnAll := by decide +kernel
theorem kX5_learnAll_0 : Cond.fieldLink RX5 15 "AheadStore$Roster" "last" "[I" ∈ wsX5_learnAll := by decide +kernel
theorem kX5_learnAll_1 : Cond.fieldLink RX5 9 "AheadStore$Roster" "is" "[I" ∈ wsX5_learnAll := by decide +kernel
theorem kX5_learnAll_2 : Cond.initialized RX10 ∈ wsX5_learnAll := by decide +kernel
theorem kX5_learnAll_3 : Cond.static yX10_isParty ∈ wsX5_learnAll := by decide +kernel
set_option maxHeartbeats 4000000 in
set_option maxRecDepth 100000 in
theorem c_X5_learnAll {l : Launch} {dC : Nat → ClassId} {dI : Nat → Nat → Nat} {cI : ClassId} {q0 : Nat → Nat} {q1 : Nat → Nat} {sz : Nat} {u0 : S5} {u1 : S2} {x2 : Int32} {Q : S5 → Prop} (h : wp_X5_learnAll u0 u1 x2 Q) : ctV sxE l yX5_learnAll wsX5_learnAll rX5_learnAll (dC, dI) vwCl [(cI, .int)] [.ref (q0 0), .ref (q1 0), .int x2] (cs5 cI q0 u0 ++ cs2 cI q1 u1) sz (fun (v : S5) => Q v) (fun (v : S5) => (cs5 cI q0 v ++ cs2 cI q1 u1)) := by
  refine mx_v (cc := cX5_learnAll) (maxL := 7) (by decide) rfl (Nat.le_of_ble_eq_true rfl) ?_
  intro p e s m below meth c Z A ls args hx hb hml hown hts hA hP hK hD hE hl hret
  have hown : s.vm.findClass RX5 = some m.cls := hown
  have hl : lv_has ls 7 [(0, .ref (q0 0)), (1, .ref (q1 0)), (2, .int x2)] := hl
  have w_84 : ∀ (k_11 : Int32 → Int32 → Int32 → S5 → Prop) (hk_11 : ∀ (x2 : Int32) (x3 : Int32) (x4 : Int32) (u0 : S5) (H : Heap) (locs : List Loc) (ls : Array Slot) (_ : va_P (dC, dI) vwCl (cs5 cI q0 u0 ++ cs2 cI q1 u1) H) (_ : va_D A (cs5 cI q0 u0 ++ cs2 cI q1 u1)) (_ : va_S A s.heap H locs) (_ : lv_has ls 7 [(0, .ref (q0 0)), (1, .ref (q1 0)), (2, .int x2), (3, .int x3), (4, .int x4)]) (_ : k_11 x2 x3 x4 u0), W p l e rX5_learnAll s m args below meth c H locs 0 0 Z (F0 m 11 ls [])) (x2 : Int32) (x3 : Int32) (x4 : Int32) (u0 : S5) (H : Heap) (locs : List Loc) (ls : Array Slot) (_ : va_P (dC, dI) vwCl (cs5 cI q0 u0 ++ cs2 cI q1 u1) H) (_ : va_D A (cs5 cI q0 u0 ++ cs2 cI q1 u1)) (_ : va_S A s.heap H locs) (_ : lv_has ls 7 [(0, .ref (q0 0)), (1, .ref (q1 0)), (2, .int x2), (3, .int x3), (4, .int x4)]) (_ : wp_X5_learnAll_84 u1 k_11 Q x2 x3 x4 u0), W p l e rX5_learnAll s m args below meth c H locs 0 0 Z (F0 m 84 ls []) := by
    intro k_11 hk_11 x2 x3 x4 u0 H locs ls hP hD hS hl h
    obtain ⟨x4_1, e_x4_1⟩ : ∃ z : Int32, z = x4 + 1 := ⟨_, rfl⟩
    have h := h x4_1 e_x4_1
    refine lv_iinc (v := x4_1) (lv' := [(4, .int x4_1), (0, .ref (q0 0)), (1, .ref (q1 0)), (2, .int x2), (3, .int x3)]) hx hb dX5_learnAll_84 hl (k := 4) rfl (by rw [e_x4_1]; rfl) (by decide) rfl (fun ls hl => ?_)
    refine lv_goto (tgt := 11) hx hb dX5_learnAll_87 (by decide) ?_
    exact hk_11 x2 x3 x4_1 u0 _ _ _ hP hD hS (lv_sub hl [1, 2, 3, 4, 0] rfl) h
  have w_11 : ∀ (n : Nat) (x2 : Int32) (x3 : Int32) (x4 : Int32) (u0 : S5) (H : Heap) (locs : List Loc) (ls : Array Slot) (_ : va_P (dC, dI) vwCl (cs5 cI q0 u0 ++ cs2 cI q1 u1) H) (_ : va_D A (cs5 cI q0 u0 ++ cs2 cI q1 u1)) (_ : va_S A s.heap H locs) (_ : lv_has ls 7 [(0, .ref (q0 0)), (1, .ref (q1 0)), (2, .int x2), (3, .int x3), (4, .int x4)]) (_ : wp_X5_learnAll_11 u1 Q n x2 x3 x4 u0), W p l e rX5_learnAll s m args below meth c H locs 0 0 Z (F0 m 11 ls []) := by
    intro n
    induction n with
    | zero => intro x2 x3 x4 u0 H locs ls hP hD hS hl h; exact False.elim h
    | succ n ih =>
      intro x2 x3 x4 u0 H locs ls hP hD hS hl h
      refine lv_iload hx hb dX5_learnAll_11 (lv_at hl 4 rfl) ?_
      refine lv_iload_n hx hb dX5_learnAll_13 rfl (lv_at hl 3 rfl) ?_
      refine lv_icmp_ge (tgt := 90) hx hb dX5_learnAll_14 (by decide) (fun cd => ?_) (fun cd => ?_)
      · have h := h.1 cd
        exact hret _ _ _ _ u0 dX5_learnAll_90 h hP hD hS
      · have h := h.2 cd
        refine lv_iload_n hx hb dX5_learnAll_17 rfl (lv_at hl 2 rfl) ?_
        refine lv_bipush (v := 6) hx hb dX5_learnAll_18 (by decide) ?_
        refine lv_iadd hx hb dX5_learnAll_20 ?_
        refine lv_iconst (v := 4) hx hb dX5_learnAll_21 (by decide) ?_
        refine lv_iload hx hb dX5_learnAll_22 (lv_at hl 4 rfl) ?_
        refine lv_imul hx hb dX5_learnAll_24 ?_
        refine lv_iadd hx hb dX5_learnAll_25 ?_
        refine lv_topi (fun x5_2 e_x5_2 => ?_)
        have h := h x5_2 e_x5_2
        refine lv_istore (lv' := [(5, .int x5_2), (0, .ref (q0 0)), (1, .ref (q1 0)), (2, .int x2), (3, .int x3), (4, .int x4)]) hx hb dX5_learnAll_26 hl (by decide) rfl (fun ls hl => ?_)
        refine lv_aload_n hx hb dX5_learnAll_28 rfl (lv_at hl 2 rfl) ?_
        refine lv_iload hx hb dX5_learnAll_29 (lv_at hl 0 rfl) ?_
        refine cx_vi (As := [.int x5_2]) (rest := []) ⟨hx, hb, hml, hown, hts⟩ hl.1 ok_sxE hE hK hP hD hS hA (cut_20 cI q0 q1 u0 u1) (c_X2_byteAt (l := l) (dC := dC) (dI := dI) (cI := cI) (q0 := q1) h) (cwV 1 hts gX5_learnAll_X2_byteAt rfl rfl rfl hdX2_byteAt ⟨Nat.le_of_ble_eq_true rfl, Nat.le_of_ble_eq_true rfl⟩) rfl rfl rfl rfl (Nat.le_of_ble_eq_true rfl) dX5_learnAll_31 rfl (fun r_3 _ H locs h hP hD hS => ?_)
        refine lv_istore (lv' := [(6, .int r_3), (5, .int x5_2), (0, .ref (q0 0)), (1, .ref (q1 0)), (2, .int x2), (3, .int x3), (4, .int x4)]) hx hb dX5_learnAll_34 hl (by decide) rfl (fun ls hl => ?_)
        refine lv_iload hx hb dX5_learnAll_36 (lv_at hl 0 rfl) ?_
        refine cx_ni (As := [.int r_3]) (rest := []) ⟨hx, hb, hml, hown, hts⟩ hl.1 ok_noE trivial hK hP hD hS hA (cut_21 cI q0 q1 u0 u1) (c_X10_isParty (l := l) (dC := dC) (dI := dI) (cI := cI) h) ⟨va_cnB 1 hts gX5_learnAll_X10_isParty_n37 rfl rfl rfl (hE.1.1 (RX5, 37, yX10_isParty, "AheadStore") (List.mem_of_getElem? (i := 7) rfl)) (hts _ kX5_learnAll_2) hdX10_isParty ⟨Nat.le_of_ble_eq_true rfl, Nat.le_of_ble_eq_true rfl⟩, hts _ kX5_learnAll_3, trivial⟩ rfl (Nat.le_of_ble_eq_true rfl) dX5_learnAll_38 rfl (fun r_4 _ H locs h hP hD hS => ?_)
        refine lv_if_eq (tgt := 84) hx hb dX5_learnAll_41 (by decide) (fun cd => ?_) (fun cd => ?_)
        · have h := h.1 cd
          exact w_84 (fun x2 x3 x4 u0 => wp_X5_learnAll_11 u1 Q n x2 x3 x4 u0) (fun x2 x3 x4 u0 H locs ls hP hD hS hl h => ih x2 x3 x4 u0 H locs ls hP hD hS hl h) x2 x3 x4 u0 _ _ _ hP hD hS (lv_sub hl [2, 3, 4, 5, 6] rfl) h
        · have h := h.2 cd
          refine lv_aload_n hx hb dX5_learnAll_44 rfl (lv_at hl 2 rfl) ?_
          refine va_get (D := (dC, dI)) (ci := 5) (v := .ref (q0 1)) (C := RX5) (T := TX5) (N := 3) hx hb hts inX5_learnAll_5 hown hK hP 0 rfl rfl 0 (by decide) (hts _ kX5_learnAll_1) (fun _ h9 => h9) rfl dX5_learnAll_45 ?_
          refine lv_iload hx hb dX5_learnAll_48 (lv_at hl 0 rfl) ?_
          refine va_iald hx hb hK hP 1 0 rfl rfl h.1 dX5_learnAll_50 ?_
          have h := h.2
          refine lv_if_ne (tgt := 84) hx hb dX5_learnAll_51 (by decide) (fun cd => ?_) (fun cd => ?_)
          · have h := h.2 cd
            exact w_84 (fun x2 x3 x4 u0 => wp_X5_learnAll_11 u1 Q n x2 x3 x4 u0) (fun x2 x3 x4 u0 H locs ls hP hD hS hl h => ih x2 x3 x4 u0 H locs ls hP hD hS hl h) x2 x3 x4 u0 _ _ _ hP hD hS (lv_sub hl [2, 3, 4, 5, 6] rfl) h
          · have h := h.1 cd
            refine lv_aload_n hx hb dX5_learnAll_54 rfl (lv_at hl 2 rfl) ?_
            refine va_get (D := (dC, dI)) (ci := 5) (v := .ref (q0 1)) (C := RX5) (T := TX5) (N := 3) hx hb hts inX5_learnAll_5 hown hK hP 0 rfl rfl 0 (by decide) (hts _ kX5_learnAll_1) (fun _ h9 => h9) rfl dX5_learnAll_55 ?_
            refine lv_iload hx hb dX5_learnAll_58 (lv_at hl 0 rfl) ?_
            refine lv_aload_n hx hb dX5_learnAll_60 rfl (lv_at hl 3 rfl) ?_
            refine lv_iload hx hb dX5_learnAll_61 (lv_at hl 1 rfl) ?_
            refine lv_iconst (v := 1) hx hb dX5_learnAll_63 (by decide) ?_
            refine lv_iadd hx hb dX5_learnAll_64 ?_
            refine cx_vi (As := [.int (x5_2 + 1)]) (rest := [.int r_3, .ref (q0 1)]) ⟨hx, hb, hml, hown, hts⟩ hl.1 ok_sxE hE hK hP hD hS hA (cut_20 cI q0 q1 u0 u1) (c_X2_byteAt (l := l) (dC := dC) (dI := dI) (cI := cI) (q0 := q1) h) (cwV 1 hts gX5_learnAll_X2_byteAt rfl rfl rfl hdX2_byteAt ⟨Nat.le_of_ble_eq_true rfl, Nat.le_of_ble_eq_true rfl⟩) rfl rfl rfl rfl (Nat.le_of_ble_eq_true rfl) dX5_learnAll_65 rfl (fun r_5 _ H locs h hP hD hS => ?_)
            refine va_iast hx hb hK hP hD hS 1 0 rfl rfl h.1 dX5_learnAll_68 (fun H locs hP hD hS => ?_)
            have h := h.2
            obtain ⟨u0_6, e_u0_6⟩ : ∃ z, z = s5_is u0 (upd (g5_is u0) r_3.toNatClampNeg r_5) := ⟨_, rfl⟩
            have h := h u0_6 e_u0_6
            have hP : va_P (dC, dI) vwCl (cs5 cI q0 u0_6 ++ cs2 cI q1 u1) H := by rw [e_u0_6]; exact hP
            have hD : va_D A (cs5 cI q0 u0_6 ++ cs2 cI q1 u1) := by rw [e_u0_6]; exact hD
            refine lv_aload_n hx hb dX5_learnAll_69 rfl (lv_at hl 2 rfl) ?_
            refine va_get (D := (dC, dI)) (ci := 5) (v := .ref (q0 2)) (C := RX5) (T := TX5) (N := 3) hx hb hts inX5_learnAll_5 hown hK hP 0 rfl rfl 1 (by decide) (hts _ kX5_learnAll_0) (fun _ h9 => h9) rfl dX5_learnAll_70 ?_
            refine lv_iload hx hb dX5_learnAll_73 (lv_at hl 0 rfl) ?_
            refine lv_aload_n hx hb dX5_learnAll_75 rfl (lv_at hl 3 rfl) ?_
            refine lv_iload hx hb dX5_learnAll_76 (lv_at hl 1 rfl) ?_
            refine lv_iconst (v := 2) hx hb dX5_learnAll_78 (by decide) ?_
            refine lv_iadd hx hb dX5_learnAll_79 ?_
            refine cx_vi (As := [.int (x5_2 + 2)]) (rest := [.int r_3, .ref (q0 2)]) ⟨hx, hb, hml, hown, hts⟩ hl.1 ok_sxE hE hK hP hD hS hA (cut_20 cI q0 q1 u0_6 u1) (c_X2_pairAt (l := l) (dC := dC) (dI := dI) (cI := cI) (q0 := q1) h) (cwV 1 hts gX5_learnAll_X2_pairAt rfl rfl rfl hdX2_pairAt ⟨Nat.le_of_ble_eq_true rfl, Nat.le_of_ble_eq_true rfl⟩) rfl rfl rfl rfl (Nat.le_of_ble_eq_true rfl) dX5_learnAll_80 rfl (fun r_7 _ H locs h hP hD hS => ?_)
            refine va_iast hx hb hK hP hD hS 2 0 rfl rfl h.1 dX5_learnAll_83 (fun H locs hP hD hS => ?_)
            have h := h.2
            obtain ⟨u0_8, e_u0_8⟩ : ∃ z, z = s5_last u0_6 (upd (g5_last u0_6) r_3.toNatClampNeg r_7) := ⟨_, rfl⟩
            have h := h u0_8 e_u0_8
            have hP : va_P (dC, dI) vwCl (cs5 cI q0 u0_8 ++ cs2 cI q1 u1) H := by rw [e_u0_8]; exact hP
            have hD : va_D A (cs5 cI q0 u0_8 ++ cs2 cI q1 u1) := by rw [e_u0_8]; exact hD
            exact w_84 (fun x2 x3 x4 u0 => wp_X5_learnAll_11 u1 Q n x2 x3 x4 u0) (fun x2 x3 x4 u0 H locs ls hP hD hS hl h => ih x2 x3 x4 u0 H locs ls hP hD hS hl h) x2 x3 x4 u0_8 _ _ _ hP hD hS (lv_sub hl [2, 3, 4, 5, 6] rfl) h
  have hS : va_S A s.heap s.heap [] := va_S.rf
  refine lv_aload_n hx hb dX5_learnAll_0 rfl (lv_at hl 1 rfl) ?_
  refine lv_iload_n hx hb dX5_learnAll_1 rfl (lv_at hl 2 rfl) ?_
  refine lv_iconst (v := 5) hx hb dX5_learnAll_2 (by decide) ?_
  refine lv_iadd hx hb dX5_learnAll_3 ?_
  refine cx_vi (As := [.int (x2 + 5)]) (rest := []) ⟨hx, hb, hml, hown, hts⟩ hl.1 ok_sxE hE hK hP hD hS hA (cut_20 cI q0 q1 u0 u1) (c_X2_byteAt (l := l) (dC := dC) (dI := dI) (cI := cI) (q0 := q1) h) (cwV 1 hts gX5_learnAll_X2_byteAt rfl rfl rfl hdX2_byteAt ⟨Nat.le_of_ble_eq_true rfl, Nat.le_of_ble_eq_true rfl⟩) rfl rfl rfl rfl (Nat.le_of_ble_eq_true rfl) dX5_learnAll_4 rfl (fun r_9 _ H locs h hP hD hS => ?_)
  refine lv_istore_n (lv' := [(3, .int r_9), (0, .ref (q0 0)), (1, .ref (q1 0)), (2, .int x2)]) hx hb dX5_learnAll_7 rfl hl (by decide) rfl (fun ls hl => ?_)
  refine lv_iconst (v := 0) hx hb dX5_learnAll_8 (by decide) ?_
  refine lv_istore (lv' := [(4, .int 0), (3, .int r_9), (0, .ref (q0 0)), (1, .ref (q1 0)), (2, .int x2)]) hx hb dX5_learnAll_9 hl (by decide) rfl (fun ls hl => ?_)
  obtain ⟨n0, h⟩ := h
  exact w_11 n0 x2 r_9 0 u0 _ _ _ hP hD hS (lv_sub hl [2, 3, 4, 1, 0] rfl) h

abbrev rX5_remove : Room := { frames := 0, cells := 0, slots := 0, locals := 0 }
theorem hdX5_remove : yX5_remove.cls = RX5 ∧ yX5_remove.cls ≠ "java/lang/invoke/MethodHandle" ∧ yX5_remove.cls ≠ "java/lang/invoke/VarHandle" ∧ (parseMethodDescriptor yX5_remove.desc).map (fun d => d.parameters.length) = some 1 := by decide +kernel
theorem inX5_remove_5 : ∀ w ∈ wsX50, w ∈ wsX5_remove := by decide +kernel
theorem kX5_remove_0 : Cond.fieldLink RX5 18 "AheadStore$Roster" "cursor" "[I" ∈ wsX5_remove := by decide +kernel
theorem kX5_remove_1 : Cond.fieldLink RX5 15 "AheadStore$Roster" "last" "[I" ∈ wsX5_remove := by decide +kernel
theorem kX5_remove_2 : Cond.fieldLink RX5 9 "AheadStore$Roster" "is" "[I" ∈ wsX5_remove := by decide +kernel
set_option maxHeartbeats 4000000 in
set_option maxRecDepth 100000 in
theorem c_X5_remove {l : Launch} {dC : Nat → ClassId} {dI : Nat → Nat → Nat} {cI : ClassId} {q0 : Nat → Nat} {sz : Nat} {u0 : S5} {x1 : Int32} {Q : S5 → Prop} (h : wp_X5_remove u0 x1 Q) : ctV sxE l yX5_remove wsX5_remove rX5_remove (dC, dI) vwCl [(cI, .int)] [.ref (q0 0), .int x1] (cs5 cI q0 u0) sz (fun (v : S5) => Q v) (fun (v : S5) => cs5 cI q0 v) := by
  refine mx_v (cc := cX5_remove) (maxL := 2) (by decide) rfl (Nat.le_of_ble_eq_true rfl) ?_
  intro p e s m below meth c Z A ls args hx hb hml hown hts hA hP hK hD hE hl hret
  have hown : s.vm.findClass RX5 = some m.cls := hown
  have hl : lv_has ls 2 [(0, .ref (q0 0)), (1, .int x1)] := hl
  have hS : va_S A s.heap s.heap [] := va_S.rf
  refine lv_aload_n hx hb dX5_remove_0 rfl (lv_at hl 0 rfl) ?_
  refine va_get (D := (dC, dI)) (ci := 5) (v := .ref (q0 1)) (C := RX5) (T := TX5) (N := 3) hx hb hts inX5_remove_5 hown hK hP 0 rfl rfl 0 (by decide) (hts _ kX5_remove_2) (fun _ h9 => h9) rfl dX5_remove_1 ?_
  refine lv_iload_n hx hb dX5_remove_4 rfl (lv_at hl 1 rfl) ?_
  refine lv_iconst (v := 0) hx hb dX5_remove_5 (by decide) ?_
  refine va_iast hx hb hK hP hD hS 1 0 rfl rfl h.1 dX5_remove_6 (fun H locs hP hD hS => ?_)
  have h := h.2
  obtain ⟨u0_1, e_u0_1⟩ : ∃ z, z = s5_is u0 (upd (g5_is u0) x1.toNatClampNeg 0) := ⟨_, rfl⟩
  have h := h u0_1 e_u0_1
  have hP : va_P (dC, dI) vwCl (cs5 cI q0 u0_1) H := by rw [e_u0_1]; exact hP
  have hD : va_D A (cs5 cI q0 u0_1) := by rw [e_u0_1]; exact hD
  refine lv_aload_n hx hb dX5_remove_7 rfl (lv_at hl 0 rfl) ?_
  refine va_get (D := (dC, dI)) (ci := 5) (v := .ref (q0 2)) (C := RX5) (T := TX5) (N := 3) hx hb hts inX5_remove_5 hown hK hP 0 rfl rfl 1 (by decide) (hts _ kX5_remove_1) (fun _ h9 => h9) rfl dX5_remove_8 ?_
  refine lv_iload_n hx hb dX5_remove_11 rfl (lv_at hl 1 rfl) ?_
  refine lv_iconst (v := 0) hx hb dX5_remove_12 (by decide) ?_
  refine va_iast hx hb hK hP hD hS 2 0 rfl rfl h.1 dX5_remove_13 (fun H locs hP hD hS => ?_)
  have h := h.2
  obtain ⟨u0_2, e_u0_2⟩ : ∃ z, z = s5_last u0_1 (upd (g5_last u0_1) x1.toNatClampNeg 0) := ⟨_, rfl⟩
  have h := h u0_2 e_u0_2
  have hP : va_P (dC, dI) vwCl (cs5 cI q0 u0_2) H := by rw [e_u0_2]; exact hP
  have hD : va_D A (cs5 cI q0 u0_2) := by rw [e_u0_2]; exact hD
  refine lv_aload_n hx hb dX5_remove_14 rfl (lv_at hl 0 rfl) ?_
  refine va_get (D := (dC, dI)) (ci := 5) (v := .ref (q0 3)) (C := RX5) (T := TX5) (N := 3) hx hb hts inX5_remove_5 hown hK hP 0 rfl rfl 2 (by decide) (hts _ kX5_remove_0) (fun _ h9 => h9) rfl dX5_remove_15 ?_
  refine lv_iload_n hx hb dX5_remove_18 rfl (lv_at hl 1 rfl) ?_
  refine lv_iconst (v := 0) hx hb dX5_remove_19 (by decide) ?_
  refine va_iast hx hb hK hP hD hS 3 0 rfl rfl h.1 dX5_remove_20 (fun H locs hP hD hS => ?_)
  have h := h.2
  obtain ⟨u0_3, e_u0_3⟩ : ∃ z, z = s5_cursor u0_2 (upd (g5_cursor u0_2) x1.toNatClampNeg 0) := ⟨_, rfl⟩
  have h := h u0_3 e_u0_3
  have hP : va_P (dC, dI) vwCl (cs5 cI q0 u0_3) H := by rw [e_u0_3]; exact hP
  have hD : va_D A (cs5 cI q0 u0_3) := by rw [e_u0_3]; exact hD
  exact hret _ _ _ _ u0_3 dX5_remove_21 h hP hD hS

set_option maxRecDepth 100000 in
theorem cut_22 (cI : ClassId) (q0 : Nat → Nat) (q1 : Nat → Nat) (u0 : S5) (u1 : S2) : Cut (cs5 cI q0 u0 ++ cs2 cI q1 u1) (cs5 cI q0 u0) (fun v : S5 => cs5 cI q0 v) (fun v : S5 => (cs5 cI q0 v ++ cs2 cI q1 u1)) := ⟨[0, 1, 2, 3], [4, 5], rfl, rfl, rfl, by decide, by decide, fun v => ⟨[2, 3, 4, 5, 0, 1], rfl, rfl⟩⟩

set_option maxRecDepth 100000 in
theorem cut_23 (cI : ClassId) (q0 : Nat → Nat) (q1 : Nat → Nat) (u0 : S5) (u1 : S2) : Cut (cs5 cI q0 u0 ++ cs2 cI q1 u1) (cs5 cI q0 u0 ++ cs2 cI q1 u1) (fun v : S5 => cs5 cI q0 v ++ cs2 cI q1 u1) (fun v : S5 => (cs5 cI q0 v ++ cs2 cI q1 u1)) := ⟨[0, 1, 2, 3, 4, 5], [], rfl, rfl, rfl, by decide, by decide, fun v => ⟨[0, 1, 2, 3, 4, 5], rfl, rfl⟩⟩

abbrev rX5_learn : Room := { frames := 3, cells := 0, slots := 0, locals := 68 }
theorem hdX5_learn : yX5_learn.cls = RX5 ∧ yX5_learn.cls ≠ "java/lang/invoke/MethodHandle" ∧ yX5_learn.cls ≠ "java/lang/invoke/VarHandle" ∧ (parseMethodDescriptor yX5_learn.desc).map (fun d => d.parameters.length) = some 2 := by decide +kernel
theorem inX5_learn_5 : ∀ w ∈ wsX50, w ∈ wsX5_learn := by decide +kernel
theorem kX5_learn_0 : Cond.fieldLink RX5 9 "AheadStore$Roster" "is" "[I" ∈ wsX5_learn := by decide +kernel
theorem kX5_learn_1 : Cond.fieldLink RX5 15 "AheadStore$Roster" "last" "[I" ∈ wsX5_learn := by decide +kernel
theorem kX5_learn_2 : Cond.initialized RX10 ∈ wsX5_learn := by decide +kernel
theorem kX5_learn_3 : Cond.static yX10_isParty ∈ wsX5_learn := by decide +kernel
set_option maxHeartbeats 4000000 in
set_option maxRecDepth 100000 in
theorem c_X5_learn {l : Launch} {dC : Nat → ClassId} {dI : Nat → Nat → Nat} {cI : ClassId} {q0 : Nat → Nat} {q1 : Nat → Nat} {sz : Nat} {u0 : S5} {u1 : S2} {x2 : Int32} {Q : S5 → Prop} (h : wp_X5_learn u0 u1 x2 Q) : ctV sxE l yX5_learn wsX5_learn rX5_learn (dC, dI) vwCl [(cI, .int)] [.ref (q0 0), .ref (q1 0), .int x2] (cs5 cI q0 u0 ++ cs2 cI q1 u1) sz (fun (v : S5) => Q v) (fun (v : S5) => (cs5 cI q0 v ++ cs2 cI q1 u1)) := by
  refine mx_v (cc := cX5_learn) (maxL := 5) (by decide) rfl (Nat.le_of_ble_eq_true rfl) ?_
  intro p e s m below meth c Z A ls args hx hb hml hown hts hA hP hK hD hE hl hret
  have hown : s.vm.findClass RX5 = some m.cls := hown
  have hl : lv_has ls 5 [(0, .ref (q0 0)), (1, .ref (q1 0)), (2, .int x2)] := hl
  have w_68 : ∀ (x2 : Int32) (x3 : Int32) (x4 : Int32) (u0 : S5) (H : Heap) (locs : List Loc) (ls : Array Slot) (_ : va_P (dC, dI) vwCl (cs5 cI q0 u0 ++ cs2 cI q1 u1) H) (_ : va_D A (cs5 cI q0 u0 ++ cs2 cI q1 u1)) (_ : va_S A s.heap H locs) (_ : lv_has ls 5 [(0, .ref (q0 0)), (2, .int x2), (3, .int x3), (4, .int x4)]) (_ : wp_X5_learn_68 u1 Q x2 x3 x4 u0), W p l e rX5_learn s m args below meth c H locs 0 0 Z (F0 m 68 ls []) := by
    intro x2 x3 x4 u0 H locs ls hP hD hS hl h
    refine lv_aload_n hx hb dX5_learn_68 rfl (lv_at hl 0 rfl) ?_
    refine va_get (D := (dC, dI)) (ci := 5) (v := .ref (q0 2)) (C := RX5) (T := TX5) (N := 3) hx hb hts inX5_learn_5 hown hK hP 0 rfl rfl 1 (by decide) (hts _ kX5_learn_1) (fun _ h9 => h9) rfl dX5_learn_69 ?_
    refine lv_iload hx hb dX5_learn_72 (lv_at hl 3 rfl) ?_
    refine lv_iload_n hx hb dX5_learn_74 rfl (lv_at hl 1 rfl) ?_
    refine va_iast hx hb hK hP hD hS 2 0 rfl rfl h.1 dX5_learn_75 (fun H locs hP hD hS => ?_)
    have h := h.2
    obtain ⟨u0_1, e_u0_1⟩ : ∃ z, z = s5_last u0 (upd (g5_last u0) x4.toNatClampNeg x2) := ⟨_, rfl⟩
    have h := h u0_1 e_u0_1
    have hP : va_P (dC, dI) vwCl (cs5 cI q0 u0_1 ++ cs2 cI q1 u1) H := by rw [e_u0_1]; exact hP
    have hD : va_D A (cs5 cI q0 u0_1 ++ cs2 cI q1 u1) := by rw [e_u0_1]; exact hD
    refine lv_iload_n hx hb dX5_learn_76 rfl (lv_at hl 2 rfl) ?_
    refine lv_iconst (v := 5) hx hb dX5_learn_77 (by decide) ?_
    refine lv_icmp_ne (tgt := 92) hx hb dX5_learn_78 (by decide) (fun cd => ?_) (fun cd => ?_)
    · have h := h.2 cd
      refine lv_iload_n hx hb dX5_learn_92 rfl (lv_at hl 2 rfl) ?_
      refine lv_bipush (v := 6) hx hb dX5_learn_93 (by decide) ?_
      refine lv_icmp_ne (tgt := 106) hx hb dX5_learn_95 (by decide) (fun cd => ?_) (fun cd => ?_)
      · have h := h.2 cd
        exact hret _ _ _ _ u0_1 dX5_learn_106 h hP hD hS
      · have h := h.1 cd
        refine lv_aload_n hx hb dX5_learn_98 rfl (lv_at hl 0 rfl) ?_
        refine va_get (D := (dC, dI)) (ci := 5) (v := .ref (q0 1)) (C := RX5) (T := TX5) (N := 3) hx hb hts inX5_learn_5 hown hK hP 0 rfl rfl 0 (by decide) (hts _ kX5_learn_0) (fun _ h9 => h9) rfl dX5_learn_99 ?_
        refine lv_iload hx hb dX5_learn_102 (lv_at hl 3 rfl) ?_
        refine lv_iconst (v := 2) hx hb dX5_learn_104 (by decide) ?_
        refine va_iast hx hb hK hP hD hS 1 0 rfl rfl h.1 dX5_learn_105 (fun H locs hP hD hS => ?_)
        have h := h.2
        obtain ⟨u0_2, e_u0_2⟩ : ∃ z, z = s5_is u0_1 (upd (g5_is u0_1) x4.toNatClampNeg 2) := ⟨_, rfl⟩
        have h := h u0_2 e_u0_2
        have hP : va_P (dC, dI) vwCl (cs5 cI q0 u0_2 ++ cs2 cI q1 u1) H := by rw [e_u0_2]; exact hP
        have hD : va_D A (cs5 cI q0 u0_2 ++ cs2 cI q1 u1) := by rw [e_u0_2]; exact hD
        exact hret _ _ _ _ u0_2 dX5_learn_106 h hP hD hS
    · have h := h.1 cd
      refine lv_aload_n hx hb dX5_learn_81 rfl (lv_at hl 0 rfl) ?_
      refine va_get (D := (dC, dI)) (ci := 5) (v := .ref (q0 1)) (C := RX5) (T := TX5) (N := 3) hx hb hts inX5_learn_5 hown hK hP 0 rfl rfl 0 (by decide) (hts _ kX5_learn_0) (fun _ h9 => h9) rfl dX5_learn_82 ?_
      refine lv_iload hx hb dX5_learn_85 (lv_at hl 3 rfl) ?_
      refine lv_iconst (v := 3) hx hb dX5_learn_87 (by decide) ?_
      refine va_iast hx hb hK hP hD hS 1 0 rfl rfl h.1 dX5_learn_88 (fun H locs hP hD hS => ?_)
      have h := h.2
      obtain ⟨u0_3, e_u0_3⟩ : ∃ z, z = s5_is u0_1 (upd (g5_is u0_1) x4.toNatClampNeg 3) := ⟨_, rfl⟩
      have h := h u0_3 e_u0_3
      have hP : va_P (dC, dI) vwCl (cs5 cI q0 u0_3 ++ cs2 cI q1 u1) H := by rw [e_u0_3]; exact hP
      have hD : va_D A (cs5 cI q0 u0_3 ++ cs2 cI q1 u1) := by rw [e_u0_3]; exact hD
      refine lv_goto (tgt := 106) hx hb dX5_learn_89 (by decide) ?_
      exact hret _ _ _ _ u0_3 dX5_learn_106 h hP hD hS
  have hS : va_S A s.heap s.heap [] := va_S.rf
  refine lv_aload_n hx hb dX5_learn_0 rfl (lv_at hl 1 rfl) ?_
  refine lv_iload_n hx hb dX5_learn_1 rfl (lv_at hl 2 rfl) ?_
  refine cx_vi (As := [.int x2]) (rest := []) ⟨hx, hb, hml, hown, hts⟩ hl.1 ok_sxE hE hK hP hD hS hA (cut_20 cI q0 q1 u0 u1) (c_X2_byteAt (l := l) (dC := dC) (dI := dI) (cI := cI) (q0 := q1) h) (cwV 1 hts gX5_learn_X2_byteAt rfl rfl rfl hdX2_byteAt ⟨Nat.le_of_ble_eq_true rfl, Nat.le_of_ble_eq_true rfl⟩) rfl rfl rfl rfl (Nat.le_of_ble_eq_true rfl) dX5_learn_2 rfl (fun r_4 _ H locs h hP hD hS => ?_)
  refine lv_istore_n (lv' := [(3, .int r_4), (0, .ref (q0 0)), (1, .ref (q1 0)), (2, .int x2)]) hx hb dX5_learn_5 rfl hl (by decide) rfl (fun ls hl => ?_)
  refine lv_iload_n hx hb dX5_learn_6 rfl (lv_at hl 0 rfl) ?_
  refine lv_bipush (v := 10) hx hb dX5_learn_7 (by decide) ?_
  refine lv_icmp_ne (tgt := 19) hx hb dX5_learn_9 (by decide) (fun cd => ?_) (fun cd => ?_)
  · have h := h.2 cd
    refine lv_aload_n hx hb dX5_learn_19 rfl (lv_at hl 2 rfl) ?_
    refine lv_iload_n hx hb dX5_learn_20 rfl (lv_at hl 3 rfl) ?_
    refine lv_iconst (v := 2) hx hb dX5_learn_21 (by decide) ?_
    refine lv_iadd hx hb dX5_learn_22 ?_
    refine cx_vi (As := [.int (x2 + 2)]) (rest := []) ⟨hx, hb, hml, hown, hts⟩ hl.1 ok_sxE hE hK hP hD hS hA (cut_20 cI q0 q1 u0 u1) (c_X2_byteAt (l := l) (dC := dC) (dI := dI) (cI := cI) (q0 := q1) h) (cwV 1 hts gX5_learn_X2_byteAt rfl rfl rfl hdX2_byteAt ⟨Nat.le_of_ble_eq_true rfl, Nat.le_of_ble_eq_true rfl⟩) rfl rfl rfl rfl (Nat.le_of_ble_eq_true rfl) dX5_learn_23 rfl (fun r_5 _ H locs h hP hD hS => ?_)
    refine lv_istore (lv' := [(4, .int r_5), (3, .int r_4), (0, .ref (q0 0)), (1, .ref (q1 0)), (2, .int x2)]) hx hb dX5_learn_26 hl (by decide) rfl (fun ls hl => ?_)
    refine lv_iload hx hb dX5_learn_28 (lv_at hl 0 rfl) ?_
    refine cx_ni (As := [.int r_5]) (rest := []) ⟨hx, hb, hml, hown, hts⟩ hl.1 ok_noE trivial hK hP hD hS hA (cut_21 cI q0 q1 u0 u1) (c_X10_isParty (l := l) (dC := dC) (dI := dI) (cI := cI) h) ⟨va_cnB 1 hts gX5_learn_X10_isParty_n37 rfl rfl rfl (hE.1.1 (RX5, 37, yX10_isParty, "AheadStore") (List.mem_of_getElem? (i := 7) rfl)) (hts _ kX5_learn_2) hdX10_isParty ⟨Nat.le_of_ble_eq_true rfl, Nat.le_of_ble_eq_true rfl⟩, hts _ kX5_learn_3, trivial⟩ rfl (Nat.le_of_ble_eq_true rfl) dX5_learn_30 rfl (fun r_6 _ H locs h hP hD hS => ?_)
    refine lv_if_ne (tgt := 37) hx hb dX5_learn_33 (by decide) (fun cd => ?_) (fun cd => ?_)
    · have h := h.2 cd
      refine lv_iload_n hx hb dX5_learn_37 rfl (lv_at hl 1 rfl) ?_
      refine lv_bipush (v := 7) hx hb dX5_learn_38 (by decide) ?_
      refine lv_icmp_ne (tgt := 50) hx hb dX5_learn_40 (by decide) (fun cd => ?_) (fun cd => ?_)
      · have h := h.2 cd
        refine lv_aload_n hx hb dX5_learn_50 rfl (lv_at hl 2 rfl) ?_
        refine va_get (D := (dC, dI)) (ci := 5) (v := .ref (q0 1)) (C := RX5) (T := TX5) (N := 3) hx hb hts inX5_learn_5 hown hK hP 0 rfl rfl 0 (by decide) (hts _ kX5_learn_0) (fun _ h9 => h9) rfl dX5_learn_51 ?_
        refine lv_iload hx hb dX5_learn_54 (lv_at hl 0 rfl) ?_
        refine va_iald hx hb hK hP 1 0 rfl rfl h.1 dX5_learn_56 ?_
        have h := h.2
        refine lv_if_ne (tgt := 68) hx hb dX5_learn_57 (by decide) (fun cd => ?_) (fun cd => ?_)
        · have h := h.2 cd
          exact w_68 x2 r_4 r_5 u0 _ _ _ hP hD hS (lv_sub hl [2, 4, 1, 0] rfl) h
        · have h := h.1 cd
          refine lv_aload_n hx hb dX5_learn_60 rfl (lv_at hl 2 rfl) ?_
          refine va_get (D := (dC, dI)) (ci := 5) (v := .ref (q0 1)) (C := RX5) (T := TX5) (N := 3) hx hb hts inX5_learn_5 hown hK hP 0 rfl rfl 0 (by decide) (hts _ kX5_learn_0) (fun _ h9 => h9) rfl dX5_learn_61 ?_
          refine lv_iload hx hb dX5_learn_64 (lv_at hl 0 rfl) ?_
          refine lv_iconst (v := 1) hx hb dX5_learn_66 (by decide) ?_
          refine va_iast hx hb hK hP hD hS 1 0 rfl rfl h.1 dX5_learn_67 (fun H locs hP hD hS => ?_)
          have h := h.2
          obtain ⟨u0_7, e_u0_7⟩ : ∃ z, z = s5_is u0 (upd (g5_is u0) r_5.toNatClampNeg 1) := ⟨_, rfl⟩
          have h := h u0_7 e_u0_7
          have hP : va_P (dC, dI) vwCl (cs5 cI q0 u0_7 ++ cs2 cI q1 u1) H := by rw [e_u0_7]; exact hP
          have hD : va_D A (cs5 cI q0 u0_7 ++ cs2 cI q1 u1) := by rw [e_u0_7]; exact hD
          exact w_68 x2 r_4 r_5 u0_7 _ _ _ hP hD hS (lv_sub hl [2, 4, 1, 0] rfl) h
      · have h := h.1 cd
        refine lv_aload_n hx hb dX5_learn_43 rfl (lv_at hl 2 rfl) ?_
        refine lv_iload hx hb dX5_learn_44 (lv_at hl 0 rfl) ?_
        refine cx_vv (As := [.int r_5]) (rest := []) ⟨hx, hb, hml, hown, hts⟩ hl.1 ok_sxE hE hK hP hD hS hA (cut_22 cI q0 q1 u0 u1) (c_X5_remove (l := l) (dC := dC) (dI := dI) (cI := cI) (q0 := q0) h) (cwV 1 hts gX5_learn_X5_remove rfl rfl rfl hdX5_remove ⟨Nat.le_of_ble_eq_true rfl, Nat.le_of_ble_eq_true rfl⟩) rfl rfl rfl rfl (Nat.le_of_ble_eq_true rfl) dX5_learn_46 rfl (fun v_8 H locs h hP hD hS => ?_)
        have hP : va_P (dC, dI) vwCl (cs5 cI q0 v_8 ++ cs2 cI q1 u1) H :=  hP
        have hD : va_D A (cs5 cI q0 v_8 ++ cs2 cI q1 u1) :=  hD
        exact hret _ _ _ _ v_8 dX5_learn_49 h hP hD hS
    · have h := h.1 cd
      exact hret _ _ _ _ u0 dX5_learn_36 h hP hD hS
  · have h := h.1 cd
    refine lv_aload_n hx hb dX5_learn_12 rfl (lv_at hl 1 rfl) ?_
    refine lv_aload_n hx hb dX5_learn_13 rfl (lv_at hl 2 rfl) ?_
    refine lv_iload_n hx hb dX5_learn_14 rfl (lv_at hl 3 rfl) ?_
    refine cx_vv (As := [.ref (q1 0), .int x2]) (rest := []) ⟨hx, hb, hml, hown, hts⟩ hl.1 ok_sxE hE hK hP hD hS hA (cut_23 cI q0 q1 u0 u1) (c_X5_learnAll (l := l) (dC := dC) (dI := dI) (cI := cI) (q0 := q0) (q1 := q1) h) (cwV 2 hts gX5_learn_X5_learnAll rfl rfl rfl hdX5_learnAll ⟨Nat.le_of_ble_eq_true rfl, Nat.le_of_ble_eq_true rfl⟩) rfl rfl rfl rfl (Nat.le_of_ble_eq_true rfl) dX5_learn_15 rfl (fun v_9 H locs h hP hD hS => ?_)
    have hP : va_P (dC, dI) vwCl (cs5 cI q0 v_9 ++ cs2 cI q1 u1) H :=  hP
    have hD : va_D A (cs5 cI q0 v_9 ++ cs2 cI q1 u1) :=  hD
    exact hret _ _ _ _ v_9 dX5_learn_18 h hP hD hS

abbrev rX5_startUndo : Room := { frames := 1, cells := 0, slots := 0, locals := 40 }
theorem hdX5_startUndo : yX5_startUndo.cls = RX5 ∧ yX5_startUndo.cls ≠ "java/lang/invoke/MethodHandle" ∧ yX5_startUndo.cls ≠ "java/lang/invoke/VarHandle" ∧ (parseMethodDescriptor yX5_startUndo.desc).map (fun d => d.parameters.length) = some 0 := by decide +kernel
theorem inX5_startUndo_5 : ∀ w ∈ wsX50, w ∈ wsX5_startUndo := by decide +kernel
theorem kX5_startUndo_0 : Cond.methodLink RX5 48 arraycopyName ∈ wsX5_startUndo := by decide +kernel
theorem kX5_startUndo_1 : Cond.native arraycopyName ∈ wsX5_startUndo := by decide +kernel
theorem kX5_startUndo_2 : Cond.static arraycopyName ∈ wsX5_startUndo := by decide +kernel
theorem kX5_startUndo_3 : Cond.initialized "java/lang/System" ∈ wsX5_startUndo := by decide +kernel
theorem kX5_startUndo_4 : Cond.fieldLink RX5 18 "AheadStore$Roster" "cursor" "[I" ∈ wsX5_startUndo := by decide +kernel
theorem kX5_startUndo_5 : Cond.fieldLink RX5 15 "AheadStore$Roster" "last" "[I" ∈ wsX5_startUndo := by decide +kernel
set_option maxHeartbeats 4000000 in
set_option maxRecDepth 100000 in
theorem c_X5_startUndo {l : Launch} {dC : Nat → ClassId} {dI : Nat → Nat → Nat} {cI : ClassId} {q0 : Nat → Nat} {sz : Nat} {u0 : S5}  {Q : S5 → Prop} (h : wp_X5_startUndo u0 Q) : ctV sxE l yX5_startUndo wsX5_startUndo rX5_startUndo (dC, dI) vwCl [(cI, .int)] [.ref (q0 0)] (cs5 cI q0 u0) sz (fun (v : S5) => Q v) (fun (v : S5) => cs5 cI q0 v) := by
  refine mx_v (cc := cX5_startUndo) (maxL := 1) (by decide) rfl (Nat.le_of_ble_eq_true rfl) ?_
  intro p e s m below meth c Z A ls args hx hb hml hown hts hA hP hK hD hE hl hret
  have hown : s.vm.findClass RX5 = some m.cls := hown
  have hl : lv_has ls 1 [(0, .ref (q0 0))] := hl
  have hS : va_S A s.heap s.heap [] := va_S.rf
  refine lv_aload_n hx hb dX5_startUndo_0 rfl (lv_at hl 0 rfl) ?_
  refine va_get (D := (dC, dI)) (ci := 5) (v := .ref (q0 2)) (C := RX5) (T := TX5) (N := 3) hx hb hts inX5_startUndo_5 hown hK hP 0 rfl rfl 1 (by decide) (hts _ kX5_startUndo_5) (fun _ h9 => h9) rfl dX5_startUndo_1 ?_
  refine lv_iconst (v := 0) hx hb dX5_startUndo_4 (by decide) ?_
  refine lv_aload_n hx hb dX5_startUndo_5 rfl (lv_at hl 0 rfl) ?_
  refine va_get (D := (dC, dI)) (ci := 5) (v := .ref (q0 3)) (C := RX5) (T := TX5) (N := 3) hx hb hts inX5_startUndo_5 hown hK hP 0 rfl rfl 2 (by decide) (hts _ kX5_startUndo_4) (fun _ h9 => h9) rfl dX5_startUndo_6 ?_
  refine lv_iconst (v := 0) hx hb dX5_startUndo_9 (by decide) ?_
  refine lv_bipush (v := 10) hx hb dX5_startUndo_10 (by decide) ?_
  refine va_copyi hx hb (hml.trans hl.1.symm) hown (hts _ kX5_startUndo_0) (hts _ kX5_startUndo_1) (hts _ kX5_startUndo_2) (hts _ kX5_startUndo_3) hK hP hD hS 2 3 0 0 (ty := .int) rfl rfl rfl rfl rfl h.1.1 h.1.2.1 h.1.2.2.1 h.1.2.2.2.1 h.1.2.2.2.2 (fun _ _ => rfl) (Nat.le_of_ble_eq_true rfl) (Nat.le_of_ble_eq_true rfl) dX5_startUndo_12 (fun H locs hP hD hS => ?_)
  have h := h.2
  obtain ⟨u0_1, e_u0_1⟩ : ∃ z, z = s5_cursor u0 (va_cpy (g5_last u0) (g5_cursor u0) (0 : Int32).toNatClampNeg (0 : Int32).toNatClampNeg (10 : Int32).toNatClampNeg) := ⟨_, rfl⟩
  have h := h u0_1 e_u0_1
  have hP : va_P (dC, dI) vwCl (cs5 cI q0 u0_1) H := by rw [e_u0_1]; exact hP
  have hD : va_D A (cs5 cI q0 u0_1) := by rw [e_u0_1]; exact hD
  exact hret _ _ _ _ u0_1 dX5_startUndo_15 h hP hD hS

abbrev rX5_foremost : Room := { frames := 0, cells := 0, slots := 0, locals := 0 }
theorem hdX5_foremost : yX5_foremost.cls = RX5 ∧ yX5_foremost.cls ≠ "java/lang/invoke/MethodHandle" ∧ yX5_foremost.cls ≠ "java/lang/invoke/VarHandle" ∧ (parseMethodDescriptor yX5_foremost.desc).map (fun d => d.parameters.length) = some 0 := by decide +kernel
theorem inX5_foremost_5 : ∀ w ∈ wsX50, w ∈ wsX5_foremost := by decide +kernel
theorem kX5_foremost_0 : Cond.fieldLink RX5 18 "AheadStore$Roster" "cursor" "[I" ∈ wsX5_foremost := by decide +kernel
theorem kX5_foremost_1 : Cond.fieldLink RX5 9 "AheadStore$Roster" "is" "[I" ∈ wsX5_foremost := by decide +kernel
set_option maxHeartbeats 4000000 in
set_option maxRecDepth 100000 in
theorem c_X5_foremost {l : Launch} {dC : Nat → ClassId} {dI : Nat → Nat → Nat} {cI : ClassId} {q0 : Nat → Nat} {sz : Nat} {u0 : S5}  {Q : Int32 → Prop} (h : wp_X5_foremost u0 Q) : ctI sxE l yX5_foremost wsX5_foremost rX5_foremost (dC, dI) vwCl [(cI, .int)] [.ref (q0 0)] (cs5 cI q0 u0) sz (fun (r : Int32) (_ : Unit) => Q r) (fun (_ : Unit) => cs5 cI q0 u0) := by
  refine mx_i (cc := cX5_foremost) (maxL := 4) (ty := .int) (by decide) rfl (Nat.le_of_ble_eq_true rfl) ?_
  intro p e s m below meth c Z A ls args hx hb hml hown hts hA hP hK hD hE hl hret
  have hown : s.vm.findClass RX5 = some m.cls := hown
  have hl : lv_has ls 4 [(0, .ref (q0 0))] := hl
  have w_61 : ∀ (k_4 : Int32 → Int32 → Prop) (hk_4 : ∀ (x1 : Int32) (x2 : Int32) (H : Heap) (locs : List Loc) (ls : Array Slot) (_ : va_P (dC, dI) vwCl (cs5 cI q0 u0) H) (_ : va_D A (cs5 cI q0 u0)) (_ : va_S A s.heap H locs) (_ : lv_has ls 4 [(0, .ref (q0 0)), (1, .int x1), (2, .int x2)]) (_ : k_4 x1 x2), W p l e rX5_foremost s m args below meth c H locs 0 0 Z (F0 m 4 ls [])) (x1 : Int32) (x2 : Int32) (H : Heap) (locs : List Loc) (ls : Array Slot) (_ : va_P (dC, dI) vwCl (cs5 cI q0 u0) H) (_ : va_D A (cs5 cI q0 u0)) (_ : va_S A s.heap H locs) (_ : lv_has ls 4 [(0, .ref (q0 0)), (1, .int x1), (2, .int x2)]) (_ : wp_X5_foremost_61 u0 k_4 Q x1 x2), W p l e rX5_foremost s m args below meth c H locs 0 0 Z (F0 m 61 ls []) := by
    intro k_4 hk_4 x1 x2 H locs ls hP hD hS hl h
    obtain ⟨x2_1, e_x2_1⟩ : ∃ z : Int32, z = x2 + 1 := ⟨_, rfl⟩
    have h := h x2_1 e_x2_1
    refine lv_iinc (v := x2_1) (lv' := [(2, .int x2_1), (0, .ref (q0 0)), (1, .int x1)]) hx hb dX5_foremost_61 hl (k := 2) rfl (by rw [e_x2_1]; rfl) (by decide) rfl (fun ls hl => ?_)
    refine lv_goto (tgt := 4) hx hb dX5_foremost_64 (by decide) ?_
    exact hk_4 x1 x2_1 _ _ _ hP hD hS (lv_sub hl [1, 2, 0] rfl) h
  have w_59 : ∀ (k_61 : Int32 → Int32 → Prop) (hk_61 : ∀ (x1 : Int32) (x2 : Int32) (H : Heap) (locs : List Loc) (ls : Array Slot) (_ : va_P (dC, dI) vwCl (cs5 cI q0 u0) H) (_ : va_D A (cs5 cI q0 u0)) (_ : va_S A s.heap H locs) (_ : lv_has ls 4 [(0, .ref (q0 0)), (1, .int x1), (2, .int x2)]) (_ : k_61 x1 x2), W p l e rX5_foremost s m args below meth c H locs 0 0 Z (F0 m 61 ls [])) (x2 : Int32) (H : Heap) (locs : List Loc) (ls : Array Slot) (_ : va_P (dC, dI) vwCl (cs5 cI q0 u0) H) (_ : va_D A (cs5 cI q0 u0)) (_ : va_S A s.heap H locs) (_ : lv_has ls 4 [(0, .ref (q0 0)), (2, .int x2)]) (_ : wp_X5_foremost_59 u0 k_61 Q x2), W p l e rX5_foremost s m args below meth c H locs 0 0 Z (F0 m 59 ls []) := by
    intro k_61 hk_61 x2 H locs ls hP hD hS hl h
    refine lv_iload_n hx hb dX5_foremost_59 rfl (lv_at hl 1 rfl) ?_
    refine lv_istore_n (lv' := [(1, .int x2), (0, .ref (q0 0)), (2, .int x2)]) hx hb dX5_foremost_60 rfl hl (by decide) rfl (fun ls hl => ?_)
    exact hk_61 x2 x2 _ _ _ hP hD hS (lv_sub hl [1, 0, 2] rfl) h
  have w_35 : ∀ (k_4 : Int32 → Int32 → Prop) (hk_4 : ∀ (x1 : Int32) (x2 : Int32) (H : Heap) (locs : List Loc) (ls : Array Slot) (_ : va_P (dC, dI) vwCl (cs5 cI q0 u0) H) (_ : va_D A (cs5 cI q0 u0)) (_ : va_S A s.heap H locs) (_ : lv_has ls 4 [(0, .ref (q0 0)), (1, .int x1), (2, .int x2)]) (_ : k_4 x1 x2), W p l e rX5_foremost s m args below meth c H locs 0 0 Z (F0 m 4 ls [])) (x1 : Int32) (x2 : Int32) (y0 : Int32) (H : Heap) (locs : List Loc) (ls : Array Slot) (_ : va_P (dC, dI) vwCl (cs5 cI q0 u0) H) (_ : va_D A (cs5 cI q0 u0)) (_ : va_S A s.heap H locs) (_ : lv_has ls 4 [(0, .ref (q0 0)), (1, .int x1), (2, .int x2)]) (_ : wp_X5_foremost_35 u0 k_4 Q x1 x2 y0), W p l e rX5_foremost s m args below meth c H locs 0 0 Z (F0 m 35 ls [.int y0]) := by
    intro k_4 hk_4 x1 x2 y0 H locs ls hP hD hS hl h
    refine lv_istore_n (lv' := [(3, .int y0), (0, .ref (q0 0)), (1, .int x1), (2, .int x2)]) hx hb dX5_foremost_35 rfl hl (by decide) rfl (fun ls hl => ?_)
    refine lv_iload_n hx hb dX5_foremost_36 rfl (lv_at hl 0 rfl) ?_
    refine lv_if_eq (tgt := 61) hx hb dX5_foremost_37 (by decide) (fun cd => ?_) (fun cd => ?_)
    · have h := h.1 cd
      exact w_61 k_4 hk_4 x1 x2 _ _ _ hP hD hS (lv_sub hl [1, 2, 3] rfl) h
    · have h := h.2 cd
      refine lv_iload_n hx hb dX5_foremost_40 rfl (lv_at hl 2 rfl) ?_
      refine lv_if_eq (tgt := 59) hx hb dX5_foremost_41 (by decide) (fun cd => ?_) (fun cd => ?_)
      · have h := h.1 cd
        exact w_59 (fun x1 x2 => wp_X5_foremost_61 u0 k_4 Q x1 x2) (fun x1 x2 H locs ls hP hD hS hl h => w_61 k_4 hk_4 x1 x2 H locs ls hP hD hS hl h) x2 _ _ _ hP hD hS (lv_sub hl [1, 3] rfl) h
      · have h := h.2 cd
        refine lv_aload_n hx hb dX5_foremost_44 rfl (lv_at hl 1 rfl) ?_
        refine va_get (D := (dC, dI)) (ci := 5) (v := .ref (q0 3)) (C := RX5) (T := TX5) (N := 3) hx hb hts inX5_foremost_5 hown hK hP 0 rfl rfl 2 (by decide) (hts _ kX5_foremost_0) (fun _ h9 => h9) rfl dX5_foremost_45 ?_
        refine lv_iload_n hx hb dX5_foremost_48 rfl (lv_at hl 3 rfl) ?_
        refine va_iald hx hb hK hP 3 0 rfl rfl h.1 dX5_foremost_49 ?_
        have h := h.2
        refine lv_aload_n hx hb dX5_foremost_50 rfl (lv_at hl 1 rfl) ?_
        refine va_get (D := (dC, dI)) (ci := 5) (v := .ref (q0 3)) (C := RX5) (T := TX5) (N := 3) hx hb hts inX5_foremost_5 hown hK hP 0 rfl rfl 2 (by decide) (hts _ kX5_foremost_0) (fun _ h9 => h9) rfl dX5_foremost_51 ?_
        refine lv_iload_n hx hb dX5_foremost_54 rfl (lv_at hl 2 rfl) ?_
        refine va_iald hx hb hK hP 3 0 rfl rfl h.1 dX5_foremost_55 ?_
        have h := h.2
        refine lv_icmp_le (tgt := 61) hx hb dX5_foremost_56 (by decide) (fun cd => ?_) (fun cd => ?_)
        · have h := h.1 cd
          exact w_61 k_4 hk_4 x1 x2 _ _ _ hP hD hS (lv_sub hl [1, 2, 3] rfl) h
        · have h := h.2 cd
          exact w_59 (fun x1 x2 => wp_X5_foremost_61 u0 k_4 Q x1 x2) (fun x1 x2 H locs ls hP hD hS hl h => w_61 k_4 hk_4 x1 x2 H locs ls hP hD hS hl h) x2 _ _ _ hP hD hS (lv_sub hl [1, 3] rfl) h
  have w_30 : ∀ (k_35 : Int32 → Int32 → Int32 → Prop) (hk_35 : ∀ (x1 : Int32) (x2 : Int32) (y0 : Int32) (H : Heap) (locs : List Loc) (ls : Array Slot) (_ : va_P (dC, dI) vwCl (cs5 cI q0 u0) H) (_ : va_D A (cs5 cI q0 u0)) (_ : va_S A s.heap H locs) (_ : lv_has ls 4 [(0, .ref (q0 0)), (1, .int x1), (2, .int x2)]) (_ : k_35 x1 x2 y0), W p l e rX5_foremost s m args below meth c H locs 0 0 Z (F0 m 35 ls [.int y0])) (x1 : Int32) (x2 : Int32) (H : Heap) (locs : List Loc) (ls : Array Slot) (_ : va_P (dC, dI) vwCl (cs5 cI q0 u0) H) (_ : va_D A (cs5 cI q0 u0)) (_ : va_S A s.heap H locs) (_ : lv_has ls 4 [(0, .ref (q0 0)), (1, .int x1), (2, .int x2)]) (_ : wp_X5_foremost_30 u0 k_35 Q x1 x2), W p l e rX5_foremost s m args below meth c H locs 0 0 Z (F0 m 30 ls []) := by
    intro k_35 hk_35 x1 x2 H locs ls hP hD hS hl h
    refine lv_iconst (v := 1) hx hb dX5_foremost_30 (by decide) ?_
    refine lv_goto (tgt := 35) hx hb dX5_foremost_31 (by decide) ?_
    exact hk_35 x1 x2 1 _ _ _ hP hD hS (lv_sub hl [0, 1, 2] rfl) h
  have w_4 : ∀ (n : Nat) (x1 : Int32) (x2 : Int32) (H : Heap) (locs : List Loc) (ls : Array Slot) (_ : va_P (dC, dI) vwCl (cs5 cI q0 u0) H) (_ : va_D A (cs5 cI q0 u0)) (_ : va_S A s.heap H locs) (_ : lv_has ls 4 [(0, .ref (q0 0)), (1, .int x1), (2, .int x2)]) (_ : wp_X5_foremost_4 u0 Q n x1 x2), W p l e rX5_foremost s m args below meth c H locs 0 0 Z (F0 m 4 ls []) := by
    intro n
    induction n with
    | zero => intro x1 x2 H locs ls hP hD hS hl h; exact False.elim h
    | succ n ih =>
      intro x1 x2 H locs ls hP hD hS hl h
      refine lv_iload_n hx hb dX5_foremost_4 rfl (lv_at hl 2 rfl) ?_
      refine lv_bipush (v := 9) hx hb dX5_foremost_5 (by decide) ?_
      refine lv_icmp_gt (tgt := 67) hx hb dX5_foremost_7 (by decide) (fun cd => ?_) (fun cd => ?_)
      · have h := h.1 cd
        refine lv_iload_n hx hb dX5_foremost_67 rfl (lv_at hl 1 rfl) ?_
        exact hret _ _ _ _ _ () dX5_foremost_68 (vp_nar_int _) h hP hD hS
      · have h := h.2 cd
        refine lv_aload_n hx hb dX5_foremost_10 rfl (lv_at hl 0 rfl) ?_
        refine va_get (D := (dC, dI)) (ci := 5) (v := .ref (q0 1)) (C := RX5) (T := TX5) (N := 3) hx hb hts inX5_foremost_5 hown hK hP 0 rfl rfl 0 (by decide) (hts _ kX5_foremost_1) (fun _ h9 => h9) rfl dX5_foremost_11 ?_
        refine lv_iload_n hx hb dX5_foremost_14 rfl (lv_at hl 2 rfl) ?_
        refine va_iald hx hb hK hP 1 0 rfl rfl h.1 dX5_foremost_15 ?_
        have h := h.2
        refine lv_iconst (v := 1) hx hb dX5_foremost_16 (by decide) ?_
        refine lv_icmp_eq (tgt := 30) hx hb dX5_foremost_17 (by decide) (fun cd => ?_) (fun cd => ?_)
        · have h := h.1 cd
          exact w_30 (fun x1 x2 y0 => wp_X5_foremost_35 u0 (fun x1 x2 => wp_X5_foremost_4 u0 Q n x1 x2) Q x1 x2 y0) (fun x1 x2 y0 H locs ls hP hD hS hl h => w_35 (fun x1 x2 => wp_X5_foremost_4 u0 Q n x1 x2) (fun x1 x2 H locs ls hP hD hS hl h => ih x1 x2 H locs ls hP hD hS hl h) x1 x2 y0 H locs ls hP hD hS hl h) x1 x2 _ _ _ hP hD hS (lv_sub hl [0, 1, 2] rfl) h
        · have h := h.2 cd
          refine lv_aload_n hx hb dX5_foremost_20 rfl (lv_at hl 0 rfl) ?_
          refine va_get (D := (dC, dI)) (ci := 5) (v := .ref (q0 1)) (C := RX5) (T := TX5) (N := 3) hx hb hts inX5_foremost_5 hown hK hP 0 rfl rfl 0 (by decide) (hts _ kX5_foremost_1) (fun _ h9 => h9) rfl dX5_foremost_21 ?_
          refine lv_iload_n hx hb dX5_foremost_24 rfl (lv_at hl 2 rfl) ?_
          refine va_iald hx hb hK hP 1 0 rfl rfl h.1 dX5_foremost_25 ?_
          have h := h.2
          refine lv_iconst (v := 2) hx hb dX5_foremost_26 (by decide) ?_
          refine lv_icmp_ne (tgt := 34) hx hb dX5_foremost_27 (by decide) (fun cd => ?_) (fun cd => ?_)
          · have h := h.2 cd
            refine lv_iconst (v := 0) hx hb dX5_foremost_34 (by decide) ?_
            exact w_35 (fun x1 x2 => wp_X5_foremost_4 u0 Q n x1 x2) (fun x1 x2 H locs ls hP hD hS hl h => ih x1 x2 H locs ls hP hD hS hl h) x1 x2 0 _ _ _ hP hD hS (lv_sub hl [0, 1, 2] rfl) h
          · have h := h.1 cd
            exact w_30 (fun x1 x2 y0 => wp_X5_foremost_35 u0 (fun x1 x2 => wp_X5_foremost_4 u0 Q n x1 x2) Q x1 x2 y0) (fun x1 x2 y0 H locs ls hP hD hS hl h => w_35 (fun x1 x2 => wp_X5_foremost_4 u0 Q n x1 x2) (fun x1 x2 H locs ls hP hD hS hl h => ih x1 x2 H locs ls hP hD hS hl h) x1 x2 y0 H locs ls hP hD hS hl h) x1 x2 _ _ _ hP hD hS (lv_sub hl [0, 1, 2] rfl) h
  have hS : va_S A s.heap s.heap [] := va_S.rf
  refine lv_iconst (v := 0) hx hb dX5_foremost_0 (by decide) ?_
  refine lv_istore_n (lv' := [(1, .int 0), (0, .ref (q0 0))]) hx hb dX5_foremost_1 rfl hl (by decide) rfl (fun ls hl => ?_)
  refine lv_iconst (v := 1) hx hb dX5_foremost_2 (by decide) ?_
  refine lv_istore_n (lv' := [(2, .int 1), (1, .int 0), (0, .ref (q0 0))]) hx hb dX5_foremost_3 rfl hl (by decide) rfl (fun ls hl => ?_)
  obtain ⟨n0, h⟩ := h
  exact w_4 n0 0 1 _ _ _ hP hD hS (lv_sub hl [2, 1, 0] rfl) h

abbrev rX5_allThatAre : Room := { frames := 0, cells := 0, slots := 0, locals := 0 }
theorem hdX5_allThatAre : yX5_allThatAre.cls = RX5 ∧ yX5_allThatAre.cls ≠ "java/lang/invoke/MethodHandle" ∧ yX5_allThatAre.cls ≠ "java/lang/invoke/VarHandle" ∧ (parseMethodDescriptor yX5_allThatAre.desc).map (fun d => d.parameters.length) = some 1 := by decide +kernel
theorem inX5_allThatAre_5 : ∀ w ∈ wsX50, w ∈ wsX5_allThatAre := by decide +kernel
theorem kX5_allThatAre_0 : Cond.fieldLink RX5 9 "AheadStore$Roster" "is" "[I" ∈ wsX5_allThatAre := by decide +kernel
set_option maxHeartbeats 4000000 in
set_option maxRecDepth 100000 in
theorem c_X5_allThatAre {l : Launch} {dC : Nat → ClassId} {dI : Nat → Nat → Nat} {cI : ClassId} {q0 : Nat → Nat} {sz : Nat} {u0 : S5} {x1 : Int32} {Q : Int32 → Prop} (h : wp_X5_allThatAre u0 x1 Q) : ctI sxE l yX5_allThatAre wsX5_allThatAre rX5_allThatAre (dC, dI) vwCl [(cI, .int)] [.ref (q0 0), .int x1] (cs5 cI q0 u0) sz (fun (r : Int32) (_ : Unit) => Q r) (fun (_ : Unit) => cs5 cI q0 u0) := by
  refine mx_i (cc := cX5_allThatAre) (maxL := 4) (ty := .int) (by decide) rfl (Nat.le_of_ble_eq_true rfl) ?_
  intro p e s m below meth c Z A ls args hx hb hml hown hts hA hP hK hD hE hl hret
  have hown : s.vm.findClass RX5 = some m.cls := hown
  have hl : lv_has ls 4 [(0, .ref (q0 0)), (1, .int x1)] := hl
  have w_26 : ∀ (k_4 : Int32 → Int32 → Int32 → Prop) (hk_4 : ∀ (x1 : Int32) (x2 : Int32) (x3 : Int32) (H : Heap) (locs : List Loc) (ls : Array Slot) (_ : va_P (dC, dI) vwCl (cs5 cI q0 u0) H) (_ : va_D A (cs5 cI q0 u0)) (_ : va_S A s.heap H locs) (_ : lv_has ls 4 [(0, .ref (q0 0)), (1, .int x1), (2, .int x2), (3, .int x3)]) (_ : k_4 x1 x2 x3), W p l e rX5_allThatAre s m args below meth c H locs 0 0 Z (F0 m 4 ls [])) (x1 : Int32) (x2 : Int32) (x3 : Int32) (H : Heap) (locs : List Loc) (ls : Array Slot) (_ : va_P (dC, dI) vwCl (cs5 cI q0 u0) H) (_ : va_D A (cs5 cI q0 u0)) (_ : va_S A s.heap H locs) (_ : lv_has ls 4 [(0, .ref (q0 0)), (1, .int x1), (2, .int x2), (3, .int x3)]) (_ : wp_X5_allThatAre_26 u0 k_4 Q x1 x2 x3), W p l e rX5_allThatAre s m args below meth c H locs 0 0 Z (F0 m 26 ls []) := by
    intro k_4 hk_4 x1 x2 x3 H locs ls hP hD hS hl h
    obtain ⟨x3_1, e_x3_1⟩ : ∃ z : Int32, z = x3 + 1 := ⟨_, rfl⟩
    have h := h x3_1 e_x3_1
    refine lv_iinc (v := x3_1) (lv' := [(3, .int x3_1), (0, .ref (q0 0)), (1, .int x1), (2, .int x2)]) hx hb dX5_allThatAre_26 hl (k := 3) rfl (by rw [e_x3_1]; rfl) (by decide) rfl (fun ls hl => ?_)
    refine lv_goto (tgt := 4) hx hb dX5_allThatAre_29 (by decide) ?_
    exact hk_4 x1 x2 x3_1 _ _ _ hP hD hS (lv_sub hl [1, 2, 3, 0] rfl) h
  have w_4 : ∀ (n : Nat) (x1 : Int32) (x2 : Int32) (x3 : Int32) (H : Heap) (locs : List Loc) (ls : Array Slot) (_ : va_P (dC, dI) vwCl (cs5 cI q0 u0) H) (_ : va_D A (cs5 cI q0 u0)) (_ : va_S A s.heap H locs) (_ : lv_has ls 4 [(0, .ref (q0 0)), (1, .int x1), (2, .int x2), (3, .int x3)]) (_ : wp_X5_allThatAre_4 u0 Q n x1 x2 x3), W p l e rX5_allThatAre s m args below meth c H locs 0 0 Z (F0 m 4 ls []) := by
    intro n
    induction n with
    | zero => intro x1 x2 x3 H locs ls hP hD hS hl h; exact False.elim h
    | succ n ih =>
      intro x1 x2 x3 H locs ls hP hD hS hl h
      refine lv_iload_n hx hb dX5_allThatAre_4 rfl (lv_at hl 3 rfl) ?_
      refine lv_bipush (v := 9) hx hb dX5_allThatAre_5 (by decide) ?_
      refine lv_icmp_gt (tgt := 32) hx hb dX5_allThatAre_7 (by decide) (fun cd => ?_) (fun cd => ?_)
      · have h := h.1 cd
        refine lv_iload_n hx hb dX5_allThatAre_32 rfl (lv_at hl 2 rfl) ?_
        exact hret _ _ _ _ _ () dX5_allThatAre_33 (vp_nar_int _) h hP hD hS
      · have h := h.2 cd
        refine lv_aload_n hx hb dX5_allThatAre_10 rfl (lv_at hl 0 rfl) ?_
        refine va_get (D := (dC, dI)) (ci := 5) (v := .ref (q0 1)) (C := RX5) (T := TX5) (N := 3) hx hb hts inX5_allThatAre_5 hown hK hP 0 rfl rfl 0 (by decide) (hts _ kX5_allThatAre_0) (fun _ h9 => h9) rfl dX5_allThatAre_11 ?_
        refine lv_iload_n hx hb dX5_allThatAre_14 rfl (lv_at hl 3 rfl) ?_
        refine va_iald hx hb hK hP 1 0 rfl rfl h.1 dX5_allThatAre_15 ?_
        have h := h.2
        refine lv_iload_n hx hb dX5_allThatAre_16 rfl (lv_at hl 1 rfl) ?_
        refine lv_icmp_ne (tgt := 26) hx hb dX5_allThatAre_17 (by decide) (fun cd => ?_) (fun cd => ?_)
        · have h := h.2 cd
          exact w_26 (fun x1 x2 x3 => wp_X5_allThatAre_4 u0 Q n x1 x2 x3) (fun x1 x2 x3 H locs ls hP hD hS hl h => ih x1 x2 x3 H locs ls hP hD hS hl h) x1 x2 x3 _ _ _ hP hD hS (lv_sub hl [0, 1, 2, 3] rfl) h
        · have h := h.1 cd
          refine lv_iload_n hx hb dX5_allThatAre_20 rfl (lv_at hl 2 rfl) ?_
          refine lv_iconst (v := 1) hx hb dX5_allThatAre_21 (by decide) ?_
          refine lv_iload_n hx hb dX5_allThatAre_22 rfl (lv_at hl 3 rfl) ?_
          refine lv_ishl hx hb dX5_allThatAre_23 ?_
          refine lv_ior hx hb dX5_allThatAre_24 ?_
          refine lv_topi (fun x2_2 e_x2_2 => ?_)
          have h := h x2_2 e_x2_2
          refine lv_istore_n (lv' := [(2, .int x2_2), (0, .ref (q0 0)), (1, .int x1), (3, .int x3)]) hx hb dX5_allThatAre_25 rfl hl (by decide) rfl (fun ls hl => ?_)
          exact w_26 (fun x1 x2 x3 => wp_X5_allThatAre_4 u0 Q n x1 x2 x3) (fun x1 x2 x3 H locs ls hP hD hS hl h => ih x1 x2 x3 H locs ls hP hD hS hl h) x1 x2_2 x3 _ _ _ hP hD hS (lv_sub hl [1, 2, 0, 3] rfl) h
  have hS : va_S A s.heap s.heap [] := va_S.rf
  refine lv_iconst (v := 0) hx hb dX5_allThatAre_0 (by decide) ?_
  refine lv_istore_n (lv' := [(2, .int 0), (0, .ref (q0 0)), (1, .int x1)]) hx hb dX5_allThatAre_1 rfl hl (by decide) rfl (fun ls hl => ?_)
  refine lv_iconst (v := 1) hx hb dX5_allThatAre_2 (by decide) ?_
  refine lv_istore_n (lv' := [(3, .int 1), (2, .int 0), (0, .ref (q0 0)), (1, .int x1)]) hx hb dX5_allThatAre_3 rfl hl (by decide) rfl (fun ls hl => ?_)
  obtain ⟨n0, h⟩ := h
  exact w_4 n0 x1 0 1 _ _ _ hP hD hS (lv_sub hl [2, 3, 1, 0] rfl) h

abbrev rX5_copyFrom : Room := { frames := 1, cells := 0, slots := 0, locals := 40 }
theorem hdX5_copyFrom : yX5_copyFrom.cls = RX5 ∧ yX5_copyFrom.cls ≠ "java/lang/invoke/MethodHandle" ∧ yX5_copyFrom.cls ≠ "java/lang/invoke/VarHandle" ∧ (parseMethodDescriptor yX5_copyFrom.desc).map (fun d => d.parameters.length) = some 1 := by decide +kernel
theorem inX5_copyFrom_5 : ∀ w ∈ wsX50, w ∈ wsX5_copyFrom := by decide +kernel
theorem kX5_copyFrom_0 : Cond.methodLink RX5 48 arraycopyName ∈ wsX5_copyFrom := by decide +kernel
theorem kX5_copyFrom_1 : Cond.native arraycopyName ∈ wsX5_copyFrom := by decide +kernel
theorem kX5_copyFrom_2 : Cond.static arraycopyName ∈ wsX5_copyFrom := by decide +kernel
theorem kX5_copyFrom_3 : Cond.initialized "java/lang/System" ∈ wsX5_copyFrom := by decide +kernel
theorem kX5_copyFrom_4 : Cond.fieldLink RX5 18 "AheadStore$Roster" "cursor" "[I" ∈ wsX5_copyFrom := by decide +kernel
theorem kX5_copyFrom_5 : Cond.fieldLink RX5 15 "AheadStore$Roster" "last" "[I" ∈ wsX5_copyFrom := by decide +kernel
theorem kX5_copyFrom_6 : Cond.fieldLink RX5 9 "AheadStore$Roster" "is" "[I" ∈ wsX5_copyFrom := by decide +kernel
set_option maxHeartbeats 4000000 in
set_option maxRecDepth 100000 in
theorem c_X5_copyFrom {l : Launch} {dC : Nat → ClassId} {dI : Nat → Nat → Nat} {cI : ClassId} {q0 : Nat → Nat} {q1 : Nat → Nat} {sz : Nat} {u0 : S5} {u1 : S5}  {Q : S5 → Prop} (h : wp_X5_copyFrom u0 u1 Q) : ctV sxE l yX5_copyFrom wsX5_copyFrom rX5_copyFrom (dC, dI) vwCl [(cI, .int)] [.ref (q0 0), .ref (q1 0)] (cs5 cI q0 u0 ++ cs5 cI q1 u1) sz (fun (v : S5) => Q v) (fun (v : S5) => (cs5 cI q0 v ++ cs5 cI q1 u1)) := by
  refine mx_v (cc := cX5_copyFrom) (maxL := 2) (by decide) rfl (Nat.le_of_ble_eq_true rfl) ?_
  intro p e s m below meth c Z A ls args hx hb hml hown hts hA hP hK hD hE hl hret
  have hown : s.vm.findClass RX5 = some m.cls := hown
  have hl : lv_has ls 2 [(0, .ref (q0 0)), (1, .ref (q1 0))] := hl
  have hS : va_S A s.heap s.heap [] := va_S.rf
  refine lv_aload_n hx hb dX5_copyFrom_0 rfl (lv_at hl 1 rfl) ?_
  refine va_get (D := (dC, dI)) (ci := 5) (v := .ref (q1 1)) (C := RX5) (T := TX5) (N := 3) hx hb hts inX5_copyFrom_5 hown hK hP 4 rfl rfl 0 (by decide) (hts _ kX5_copyFrom_6) (fun _ h9 => h9) rfl dX5_copyFrom_1 ?_
  refine lv_iconst (v := 0) hx hb dX5_copyFrom_4 (by decide) ?_
  refine lv_aload_n hx hb dX5_copyFrom_5 rfl (lv_at hl 0 rfl) ?_
  refine va_get (D := (dC, dI)) (ci := 5) (v := .ref (q0 1)) (C := RX5) (T := TX5) (N := 3) hx hb hts inX5_copyFrom_5 hown hK hP 0 rfl rfl 0 (by decide) (hts _ kX5_copyFrom_6) (fun _ h9 => h9) rfl dX5_copyFrom_6 ?_
  refine lv_iconst (v := 0) hx hb dX5_copyFrom_9 (by decide) ?_
  refine lv_bipush (v := 10) hx hb dX5_copyFrom_10 (by decide) ?_
  refine va_copyi hx hb (hml.trans hl.1.symm) hown (hts _ kX5_copyFrom_0) (hts _ kX5_copyFrom_1) (hts _ kX5_copyFrom_2) (hts _ kX5_copyFrom_3) hK hP hD hS 5 1 0 0 (ty := .int) rfl rfl rfl rfl rfl h.1.1 h.1.2.1 h.1.2.2.1 h.1.2.2.2.1 h.1.2.2.2.2 (fun _ _ => rfl) (Nat.le_of_ble_eq_true rfl) (Nat.le_of_ble_eq_true rfl) dX5_copyFrom_12 (fun H locs hP hD hS => ?_)
  have h := h.2
  obtain ⟨u0_1, e_u0_1⟩ : ∃ z, z = s5_is u0 (va_cpy (g5_is u1) (g5_is u0) (0 : Int32).toNatClampNeg (0 : Int32).toNatClampNeg (10 : Int32).toNatClampNeg) := ⟨_, rfl⟩
  have h := h u0_1 e_u0_1
  have hP : va_P (dC, dI) vwCl (cs5 cI q0 u0_1 ++ cs5 cI q1 u1) H := by rw [e_u0_1]; exact hP
  have hD : va_D A (cs5 cI q0 u0_1 ++ cs5 cI q1 u1) := by rw [e_u0_1]; exact hD
  refine lv_aload_n hx hb dX5_copyFrom_15 rfl (lv_at hl 1 rfl) ?_
  refine va_get (D := (dC, dI)) (ci := 5) (v := .ref (q1 2)) (C := RX5) (T := TX5) (N := 3) hx hb hts inX5_copyFrom_5 hown hK hP 4 rfl rfl 1 (by decide) (hts _ kX5_copyFrom_5) (fun _ h9 => h9) rfl dX5_copyFrom_16 ?_
  refine lv_iconst (v := 0) hx hb dX5_copyFrom_19 (by decide) ?_
  refine lv_aload_n hx hb dX5_copyFrom_20 rfl (lv_at hl 0 rfl) ?_
  refine va_get (D := (dC, dI)) (ci := 5) (v := .ref (q0 2)) (C := RX5) (T := TX5) (N := 3) hx hb hts inX5_copyFrom_5 hown hK hP 0 rfl rfl 1 (by decide) (hts _ kX5_copyFrom_5) (fun _ h9 => h9) rfl dX5_copyFrom_21 ?_
  refine lv_iconst (v := 0) hx hb dX5_copyFrom_24 (by decide) ?_
  refine lv_bipush (v := 10) hx hb dX5_copyFrom_25 (by decide) ?_
  refine va_copyi hx hb (hml.trans hl.1.symm) hown (hts _ kX5_copyFrom_0) (hts _ kX5_copyFrom_1) (hts _ kX5_copyFrom_2) (hts _ kX5_copyFrom_3) hK hP hD hS 6 2 0 0 (ty := .int) rfl rfl rfl rfl rfl h.1.1 h.1.2.1 h.1.2.2.1 h.1.2.2.2.1 h.1.2.2.2.2 (fun _ _ => rfl) (Nat.le_of_ble_eq_true rfl) (Nat.le_of_ble_eq_true rfl) dX5_copyFrom_27 (fun H locs hP hD hS => ?_)
  have h := h.2
  obtain ⟨u0_2, e_u0_2⟩ : ∃ z, z = s5_last u0_1 (va_cpy (g5_last u1) (g5_last u0_1) (0 : Int32).toNatClampNeg (0 : Int32).toNatClampNeg (10 : Int32).toNatClampNeg) := ⟨_, rfl⟩
  have h := h u0_2 e_u0_2
  have hP : va_P (dC, dI) vwCl (cs5 cI q0 u0_2 ++ cs5 cI q1 u1) H := by rw [e_u0_2]; exact hP
  have hD : va_D A (cs5 cI q0 u0_2 ++ cs5 cI q1 u1) := by rw [e_u0_2]; exact hD
  refine lv_aload_n hx hb dX5_copyFrom_30 rfl (lv_at hl 1 rfl) ?_
  refine va_get (D := (dC, dI)) (ci := 5) (v := .ref (q1 3)) (C := RX5) (T := TX5) (N := 3) hx hb hts inX5_copyFrom_5 hown hK hP 4 rfl rfl 2 (by decide) (hts _ kX5_copyFrom_4) (fun _ h9 => h9) rfl dX5_copyFrom_31 ?_
  refine lv_iconst (v := 0) hx hb dX5_copyFrom_34 (by decide) ?_
  refine lv_aload_n hx hb dX5_copyFrom_35 rfl (lv_at hl 0 rfl) ?_
  refine va_get (D := (dC, dI)) (ci := 5) (v := .ref (q0 3)) (C := RX5) (T := TX5) (N := 3) hx hb hts inX5_copyFrom_5 hown hK hP 0 rfl rfl 2 (by decide) (hts _ kX5_copyFrom_4) (fun _ h9 => h9) rfl dX5_copyFrom_36 ?_
  refine lv_iconst (v := 0) hx hb dX5_copyFrom_39 (by decide) ?_
  refine lv_bipush (v := 10) hx hb dX5_copyFrom_40 (by decide) ?_
  refine va_copyi hx hb (hml.trans hl.1.symm) hown (hts _ kX5_copyFrom_0) (hts _ kX5_copyFrom_1) (hts _ kX5_copyFrom_2) (hts _ kX5_copyFrom_3) hK hP hD hS 7 3 0 0 (ty := .int) rfl rfl rfl rfl rfl h.1.1 h.1.2.1 h.1.2.2.1 h.1.2.2.2.1 h.1.2.2.2.2 (fun _ _ => rfl) (Nat.le_of_ble_eq_true rfl) (Nat.le_of_ble_eq_true rfl) dX5_copyFrom_42 (fun H locs hP hD hS => ?_)
  have h := h.2
  obtain ⟨u0_3, e_u0_3⟩ : ∃ z, z = s5_cursor u0_2 (va_cpy (g5_cursor u1) (g5_cursor u0_2) (0 : Int32).toNatClampNeg (0 : Int32).toNatClampNeg (10 : Int32).toNatClampNeg) := ⟨_, rfl⟩
  have h := h u0_3 e_u0_3
  have hP : va_P (dC, dI) vwCl (cs5 cI q0 u0_3 ++ cs5 cI q1 u1) H := by rw [e_u0_3]; exact hP
  have hD : va_D A (cs5 cI q0 u0_3 ++ cs5 cI q1 u1) := by rw [e_u0_3]; exact hD
  exact hret _ _ _ _ u0_3 dX5_copyFrom_45 h hP hD hS
