set_option maxRecDepth 100000 in
theorem cut_25 (cI : ClassId) (q0 : Nat → Nat) (q1 : Nat → Nat) (u0 : S1) (u1 : S2) : Cut (cs1 cI q0 u0 ++ cs2 cI q1 u1) (cs2 cI q1 u1) (fun _ : Unit => cs2 cI q1 u1) (fun _ : Unit => (cs1 cI q0 u0 ++ cs2 cI q1 u1)) := ⟨[5, 6], [0, 1, 2, 3, 4], rfl, rfl, rfl, by decide, by decide, fun _ => ⟨[0, 1, 2, 3, 4, 5, 6], rfl, rfl⟩⟩

set_option maxRecDepth 100000 in
theorem cut_26 (cI : ClassId) (q0 : Nat → Nat) (q1 : Nat → Nat) (u0 : S1) (u1 : S2) : Cut (cs1 cI q0 u0 ++ cs2 cI q1 u1) (cs5 cI (fun i => q0 (i + 1)) (g1_roster u0)) (fun v : S5 => cs5 cI (fun i => q0 (i + 1)) v) (fun v : S5 => (cs1 cI q0 (s1_roster u0 v) ++ cs2 cI q1 u1)) := ⟨[1, 2, 3, 4], [0, 5, 6], rfl, rfl, rfl, by decide, by decide, fun v => ⟨[0, 3, 4, 5, 6, 1, 2], rfl, rfl⟩⟩

set_option maxRecDepth 100000 in
theorem cut_27 (cI : ClassId) (q0 : Nat → Nat) (q1 : Nat → Nat) (u0 : S1) (u1 : S2) : Cut (cs1 cI q0 u0 ++ cs2 cI q1 u1) (cs5 cI (fun i => q0 (i + 1)) (g1_roster u0)) (fun _ : Unit => cs5 cI (fun i => q0 (i + 1)) (g1_roster u0)) (fun _ : Unit => (cs1 cI q0 u0 ++ cs2 cI q1 u1)) := ⟨[1, 2, 3, 4], [0, 5, 6], rfl, rfl, rfl, by decide, by decide, fun _ => ⟨[0, 3, 4, 5, 6, 1, 2], rfl, rfl⟩⟩

abbrev rX1_rolledBack : Room := { frames := 3, cells := 0, slots := 0, locals := 63 }
theorem hdX1_rolledBack : yX1_rolledBack.cls = RX1 ∧ yX1_rolledBack.cls ≠ "java/lang/invoke/MethodHandle" ∧ yX1_rolledBack.cls ≠ "java/lang/invoke/VarHandle" ∧ (parseMethodDescriptor yX1_rolledBack.desc).map (fun d => d.parameters.length) = some 3 := by decide +kernel
theorem inX1_rolledBack_1 : ∀ w ∈ wsX10, w ∈ wsX1_rolledBack := by decide +kernel
theorem inX1_rolledBack_5 : ∀ w ∈ wsX50, w ∈ wsX1_rolledBack := by decide +kernel
theorem kX1_rolledBack_0 : Cond.fieldLink RX1 63 "AheadStore$Roster" "cursor" "[I" ∈ wsX1_rolledBack := by decide +kernel
theorem kX1_rolledBack_1 : Cond.fieldLink RX1 12 "AheadStore$Hindsight" "roster" "LAheadStore$Roster;" ∈ wsX1_rolledBack := by decide +kernel
theorem kX1_rolledBack_2 : Cond.constant RX1 58 (1000000) ∈ wsX1_rolledBack := by decide +kernel
set_option maxHeartbeats 4000000 in
set_option maxRecDepth 100000 in
theorem c_X1_rolledBack {l : Launch} {dC : Nat → ClassId} {dI : Nat → Nat → Nat} {cI : ClassId} {q0 : Nat → Nat} {q1 : Nat → Nat} {sz : Nat} {u0 : S1} {u1 : S2} {x2 : Int32} {x3 : Int32} {Q : Int32 → S1 → Prop} (h : wp_X1_rolledBack u0 u1 x2 x3 Q) : ctI sxE l yX1_rolledBack wsX1_rolledBack rX1_rolledBack (dC, dI) vwCl [(cI, .int)] [.ref (q0 0), .ref (q1 0), .int x2, .int x3] (cs1 cI q0 u0 ++ cs2 cI q1 u1) sz (fun (r : Int32) (v : S1) => Q r v) (fun (v : S1) => (cs1 cI q0 v ++ cs2 cI q1 u1)) := by
  refine mx_i (cc := cX1_rolledBack) (maxL := 8) (ty := .int) (by decide) rfl (Nat.le_of_ble_eq_true rfl) ?_
  intro p e s m below meth c Z A ls args hx hb hml hown hts hA hP hK hD hE hl hret
  have hown : s.vm.findClass RX1 = some m.cls := hown
  have hl : lv_has ls 8 [(0, .ref (q0 0)), (1, .ref (q1 0)), (2, .int x2), (3, .int x3)] := hl
  have w_111 : ∀ (k_13 : Int32 → Int32 → Int32 → S1 → Prop) (hk_13 : ∀ (x2 : Int32) (x4 : Int32) (x5 : Int32) (u0 : S1) (H : Heap) (locs : List Loc) (ls : Array Slot) (_ : va_P (dC, dI) vwCl (cs1 cI q0 u0 ++ cs2 cI q1 u1) H) (_ : va_D A (cs1 cI q0 u0 ++ cs2 cI q1 u1)) (_ : va_S A s.heap H locs) (_ : lv_has ls 8 [(0, .ref (q0 0)), (1, .ref (q1 0)), (2, .int x2), (4, .int x4), (5, .int x5)]) (_ : k_13 x2 x4 x5 u0), W p l e rX1_rolledBack s m args below meth c H locs 0 0 Z (F0 m 13 ls [])) (x2 : Int32) (x4 : Int32) (x5 : Int32) (u0 : S1) (H : Heap) (locs : List Loc) (ls : Array Slot) (_ : va_P (dC, dI) vwCl (cs1 cI q0 u0 ++ cs2 cI q1 u1) H) (_ : va_D A (cs1 cI q0 u0 ++ cs2 cI q1 u1)) (_ : va_S A s.heap H locs) (_ : lv_has ls 8 [(0, .ref (q0 0)), (1, .ref (q1 0)), (2, .int x2), (4, .int x4), (5, .int x5)]) (_ : wp_X1_rolledBack_111 u1 k_13 Q x2 x4 x5 u0), W p l e rX1_rolledBack s m args below meth c H locs 0 0 Z (F0 m 111 ls []) := by
    intro k_13 hk_13 x2 x4 x5 u0 H locs ls hP hD hS hl h
    obtain ⟨x5_1, e_x5_1⟩ : ∃ z : Int32, z = x5 + 1 := ⟨_, rfl⟩
    have h := h x5_1 e_x5_1
    refine lv_iinc (v := x5_1) (lv' := [(5, .int x5_1), (0, .ref (q0 0)), (1, .ref (q1 0)), (2, .int x2), (4, .int x4)]) hx hb dX1_rolledBack_111 hl (k := 4) rfl (by rw [e_x5_1]; rfl) (by decide) rfl (fun ls hl => ?_)
    refine lv_goto (tgt := 13) hx hb dX1_rolledBack_114 (by decide) ?_
    exact hk_13 x2 x4 x5_1 u0 _ _ _ hP hD hS (lv_sub hl [1, 2, 3, 4, 0] rfl) h
  have w_95 : ∀ (k_111 : Int32 → Int32 → Int32 → S1 → Prop) (hk_111 : ∀ (x2 : Int32) (x4 : Int32) (x5 : Int32) (u0 : S1) (H : Heap) (locs : List Loc) (ls : Array Slot) (_ : va_P (dC, dI) vwCl (cs1 cI q0 u0 ++ cs2 cI q1 u1) H) (_ : va_D A (cs1 cI q0 u0 ++ cs2 cI q1 u1)) (_ : va_S A s.heap H locs) (_ : lv_has ls 8 [(0, .ref (q0 0)), (1, .ref (q1 0)), (2, .int x2), (4, .int x4), (5, .int x5)]) (_ : k_111 x2 x4 x5 u0), W p l e rX1_rolledBack s m args below meth c H locs 0 0 Z (F0 m 111 ls [])) (x2 : Int32) (x4 : Int32) (x5 : Int32) (x6 : Int32) (x7 : Int32) (u0 : S1) (H : Heap) (locs : List Loc) (ls : Array Slot) (_ : va_P (dC, dI) vwCl (cs1 cI q0 u0 ++ cs2 cI q1 u1) H) (_ : va_D A (cs1 cI q0 u0 ++ cs2 cI q1 u1)) (_ : va_S A s.heap H locs) (_ : lv_has ls 8 [(0, .ref (q0 0)), (1, .ref (q1 0)), (2, .int x2), (4, .int x4), (5, .int x5), (6, .int x6), (7, .int x7)]) (_ : wp_X1_rolledBack_95 u1 k_111 Q x2 x4 x5 x6 x7 u0), W p l e rX1_rolledBack s m args below meth c H locs 0 0 Z (F0 m 95 ls []) := by
    intro k_111 hk_111 x2 x4 x5 x6 x7 u0 H locs ls hP hD hS hl h
    refine lv_aload_n hx hb dX1_rolledBack_95 rfl (lv_at hl 0 rfl) ?_
    refine va_get (D := (dC, dI)) (ci := 1) (v := .ref (q0 1)) (C := RX1) (T := TX1) (N := 1) hx hb hts inX1_rolledBack_1 hown hK hP 0 rfl rfl 0 (by decide) (hts _ kX1_rolledBack_1) (fun _ h9 => h9) rfl dX1_rolledBack_96 ?_
    refine va_get (D := (dC, dI)) (ci := 5) (v := .ref (q0 4)) (C := RX5) (T := TX5) (N := 3) hx hb hts inX1_rolledBack_5 hown hK hP 1 rfl rfl 2 (by decide) (hts _ kX1_rolledBack_0) (fun _ h9 => h9) rfl dX1_rolledBack_99 ?_
    refine lv_iload hx hb dX1_rolledBack_102 (lv_at hl 5 rfl) ?_
    refine lv_aload_n hx hb dX1_rolledBack_104 rfl (lv_at hl 1 rfl) ?_
    refine lv_iload hx hb dX1_rolledBack_105 (lv_at hl 6 rfl) ?_
    refine cx_vi (As := [.int x7]) (rest := [.int x6, .ref (q0 4)]) ⟨hx, hb, hml, hown, hts⟩ hl.1 ok_sxE hE hK hP hD hS hA (cut_25 cI q0 q1 u0 u1) (c_X2_onward (l := l) (dC := dC) (dI := dI) (cI := cI) (q0 := q1) h) (cwV 1 hts gX1_rolledBack_X2_onward rfl rfl rfl hdX2_onward ⟨Nat.le_of_ble_eq_true rfl, Nat.le_of_ble_eq_true rfl⟩) rfl rfl rfl rfl (Nat.le_of_ble_eq_true rfl) dX1_rolledBack_107 rfl (fun r_2 _ H locs h hP hD hS => ?_)
    refine va_iast hx hb hK hP hD hS 4 0 rfl rfl h.1 dX1_rolledBack_110 (fun H locs hP hD hS => ?_)
    have h := h.2
    obtain ⟨u0_3, e_u0_3⟩ : ∃ z, z = s1_roster u0 (s5_cursor (g1_roster u0) (upd (g5_cursor (g1_roster u0)) x6.toNatClampNeg r_2)) := ⟨_, rfl⟩
    have h := h u0_3 e_u0_3
    have hP : va_P (dC, dI) vwCl (cs1 cI q0 u0_3 ++ cs2 cI q1 u1) H := by rw [e_u0_3]; exact hP
    have hD : va_D A (cs1 cI q0 u0_3 ++ cs2 cI q1 u1) := by rw [e_u0_3]; exact hD
    exact hk_111 x2 x4 x5 u0_3 _ _ _ hP hD hS (lv_sub hl [0, 1, 2, 3, 4] rfl) h
  have w_13 : ∀ (n : Nat) (x2 : Int32) (x4 : Int32) (x5 : Int32) (u0 : S1) (H : Heap) (locs : List Loc) (ls : Array Slot) (_ : va_P (dC, dI) vwCl (cs1 cI q0 u0 ++ cs2 cI q1 u1) H) (_ : va_D A (cs1 cI q0 u0 ++ cs2 cI q1 u1)) (_ : va_S A s.heap H locs) (_ : lv_has ls 8 [(0, .ref (q0 0)), (1, .ref (q1 0)), (2, .int x2), (4, .int x4), (5, .int x5)]) (_ : wp_X1_rolledBack_13 u1 Q n x2 x4 x5 u0), W p l e rX1_rolledBack s m args below meth c H locs 0 0 Z (F0 m 13 ls []) := by
    intro n
    induction n with
    | zero => intro x2 x4 x5 u0 H locs ls hP hD hS hl h; exact False.elim h
    | succ n ih =>
      intro x2 x4 x5 u0 H locs ls hP hD hS hl h
      refine lv_iload hx hb dX1_rolledBack_13 (lv_at hl 4 rfl) ?_
      refine lv_ldc (v := 1000000) hx hb hown (hts _ kX1_rolledBack_2) dX1_rolledBack_15 ?_
      refine lv_icmp_ge (tgt := 117) hx hb dX1_rolledBack_17 (by decide) (fun cd => ?_) (fun cd => ?_)
      · have h := h.1 cd
        refine lv_iload hx hb dX1_rolledBack_117 (lv_at hl 3 rfl) ?_
        exact hret _ _ _ _ _ u0 dX1_rolledBack_119 (vp_nar_int _) h hP hD hS
      · have h := h.2 cd
        refine lv_aload_n hx hb dX1_rolledBack_20 rfl (lv_at hl 0 rfl) ?_
        refine va_get (D := (dC, dI)) (ci := 1) (v := .ref (q0 1)) (C := RX1) (T := TX1) (N := 1) hx hb hts inX1_rolledBack_1 hown hK hP 0 rfl rfl 0 (by decide) (hts _ kX1_rolledBack_1) (fun _ h9 => h9) rfl dX1_rolledBack_21 ?_
        refine cx_vi (As := []) (rest := []) ⟨hx, hb, hml, hown, hts⟩ hl.1 ok_sxE hE hK hP hD hS hA (cut_27 cI q0 q1 u0 u1) (c_X5_foremost (l := l) (dC := dC) (dI := dI) (cI := cI) (q0 := fun i => q0 (i + 1)) h) (cwV 0 hts gX1_rolledBack_X5_foremost rfl rfl rfl hdX5_foremost ⟨Nat.le_of_ble_eq_true rfl, Nat.le_of_ble_eq_true rfl⟩) rfl rfl rfl rfl (Nat.le_of_ble_eq_true rfl) dX1_rolledBack_24 rfl (fun r_4 _ H locs h hP hD hS => ?_)
        refine lv_istore (lv' := [(6, .int r_4), (0, .ref (q0 0)), (1, .ref (q1 0)), (2, .int x2), (4, .int x4), (5, .int x5)]) hx hb dX1_rolledBack_27 hl (by decide) rfl (fun ls hl => ?_)
        refine lv_iload hx hb dX1_rolledBack_29 (lv_at hl 0 rfl) ?_
        refine lv_if_ne (tgt := 37) hx hb dX1_rolledBack_31 (by decide) (fun cd => ?_) (fun cd => ?_)
        · have h := h.2 cd
          refine lv_aload_n hx hb dX1_rolledBack_37 rfl (lv_at hl 1 rfl) ?_
          refine va_get (D := (dC, dI)) (ci := 1) (v := .ref (q0 1)) (C := RX1) (T := TX1) (N := 1) hx hb hts inX1_rolledBack_1 hown hK hP 0 rfl rfl 0 (by decide) (hts _ kX1_rolledBack_1) (fun _ h9 => h9) rfl dX1_rolledBack_38 ?_
          refine va_get (D := (dC, dI)) (ci := 5) (v := .ref (q0 4)) (C := RX5) (T := TX5) (N := 3) hx hb hts inX1_rolledBack_5 hown hK hP 1 rfl rfl 2 (by decide) (hts _ kX1_rolledBack_0) (fun _ h9 => h9) rfl dX1_rolledBack_41 ?_
          refine lv_iload hx hb dX1_rolledBack_44 (lv_at hl 0 rfl) ?_
          refine va_iald hx hb hK hP 4 0 rfl rfl h.1 dX1_rolledBack_46 ?_
          have h := h.2
          refine lv_topi (fun x7_5 e_x7_5 => ?_)
          have h := h x7_5 e_x7_5
          refine lv_istore (lv' := [(7, .int x7_5), (6, .int r_4), (0, .ref (q0 0)), (1, .ref (q1 0)), (2, .int x2), (4, .int x4), (5, .int x5)]) hx hb dX1_rolledBack_47 hl (by decide) rfl (fun ls hl => ?_)
          refine lv_iload hx hb dX1_rolledBack_49 (lv_at hl 0 rfl) ?_
          refine lv_if_ne (tgt := 66) hx hb dX1_rolledBack_51 (by decide) (fun cd => ?_) (fun cd => ?_)
          · have h := h.2 cd
            refine lv_aload_n hx hb dX1_rolledBack_66 rfl (lv_at hl 3 rfl) ?_
            refine lv_iload hx hb dX1_rolledBack_67 (lv_at hl 0 rfl) ?_
            refine cx_vi (As := [.int x7_5]) (rest := []) ⟨hx, hb, hml, hown, hts⟩ hl.1 ok_sxE hE hK hP hD hS hA (cut_25 cI q0 q1 u0 u1) (c_X2_undoable (l := l) (dC := dC) (dI := dI) (cI := cI) (q0 := q1) h) (cwV 1 hts gX1_rolledBack_X2_undoable rfl rfl rfl hdX2_undoable ⟨Nat.le_of_ble_eq_true rfl, Nat.le_of_ble_eq_true rfl⟩) rfl rfl rfl rfl (Nat.le_of_ble_eq_true rfl) dX1_rolledBack_69 rfl (fun r_6 _ H locs h hP hD hS => ?_)
            refine lv_if_eq (tgt := 95) hx hb dX1_rolledBack_72 (by decide) (fun cd => ?_) (fun cd => ?_)
            · have h := h.1 cd
              exact w_95 (fun x2 x4 x5 u0 => wp_X1_rolledBack_111 u1 (fun x2 x4 x5 u0 => wp_X1_rolledBack_13 u1 Q n x2 x4 x5 u0) Q x2 x4 x5 u0) (fun x2 x4 x5 u0 H locs ls hP hD hS hl h => w_111 (fun x2 x4 x5 u0 => wp_X1_rolledBack_13 u1 Q n x2 x4 x5 u0) (fun x2 x4 x5 u0 H locs ls hP hD hS hl h => ih x2 x4 x5 u0 H locs ls hP hD hS hl h) x2 x4 x5 u0 H locs ls hP hD hS hl h) x2 x4 x5 r_4 x7_5 u0 _ _ _ hP hD hS (lv_sub hl [2, 3, 4, 5, 6, 1, 0] rfl) h
            · have h := h.2 cd
              refine lv_aload_n hx hb dX1_rolledBack_75 rfl (lv_at hl 3 rfl) ?_
              refine lv_iload hx hb dX1_rolledBack_76 (lv_at hl 0 rfl) ?_
              refine cx_vi (As := [.int x7_5]) (rest := []) ⟨hx, hb, hml, hown, hts⟩ hl.1 ok_sxE hE hK hP hD hS hA (cut_25 cI q0 q1 u0 u1) (c_X2_addressAt (l := l) (dC := dC) (dI := dI) (cI := cI) (q0 := q1) h) (cwV 1 hts gX1_rolledBack_X2_addressAt rfl rfl rfl hdX2_addressAt ⟨Nat.le_of_ble_eq_true rfl, Nat.le_of_ble_eq_true rfl⟩) rfl rfl rfl rfl (Nat.le_of_ble_eq_true rfl) dX1_rolledBack_78 rfl (fun r_7 _ H locs h hP hD hS => ?_)
              refine lv_iload_n hx hb dX1_rolledBack_81 rfl (lv_at hl 4 rfl) ?_
              refine lv_icmp_ne (tgt := 95) hx hb dX1_rolledBack_82 (by decide) (fun cd => ?_) (fun cd => ?_)
              · have h := h.2 cd
                exact w_95 (fun x2 x4 x5 u0 => wp_X1_rolledBack_111 u1 (fun x2 x4 x5 u0 => wp_X1_rolledBack_13 u1 Q n x2 x4 x5 u0) Q x2 x4 x5 u0) (fun x2 x4 x5 u0 H locs ls hP hD hS hl h => w_111 (fun x2 x4 x5 u0 => wp_X1_rolledBack_13 u1 Q n x2 x4 x5 u0) (fun x2 x4 x5 u0 H locs ls hP hD hS hl h => ih x2 x4 x5 u0 H locs ls hP hD hS hl h) x2 x4 x5 u0 H locs ls hP hD hS hl h) x2 x4 x5 r_4 x7_5 u0 _ _ _ hP hD hS (lv_sub hl [2, 3, 4, 5, 6, 1, 0] rfl) h
              · have h := h.1 cd
                refine lv_aload_n hx hb dX1_rolledBack_85 rfl (lv_at hl 3 rfl) ?_
                refine lv_iload hx hb dX1_rolledBack_86 (lv_at hl 0 rfl) ?_
                refine lv_iload hx hb dX1_rolledBack_88 (lv_at hl 5 rfl) ?_
                refine cx_vi (As := [.int x7_5, .int x4]) (rest := []) ⟨hx, hb, hml, hown, hts⟩ hl.1 ok_sxE hE hK hP hD hS hA (cut_25 cI q0 q1 u0 u1) (c_X2_undone (l := l) (dC := dC) (dI := dI) (cI := cI) (q0 := q1) h) (cwV 2 hts gX1_rolledBack_X2_undone rfl rfl rfl hdX2_undone ⟨Nat.le_of_ble_eq_true rfl, Nat.le_of_ble_eq_true rfl⟩) rfl rfl rfl rfl (Nat.le_of_ble_eq_true rfl) dX1_rolledBack_90 rfl (fun r_8 _ H locs h hP hD hS => ?_)
                refine lv_istore (lv' := [(4, .int r_8), (7, .int x7_5), (6, .int r_4), (0, .ref (q0 0)), (1, .ref (q1 0)), (2, .int x2), (5, .int x5)]) hx hb dX1_rolledBack_93 hl (by decide) rfl (fun ls hl => ?_)
                exact w_95 (fun x2 x4 x5 u0 => wp_X1_rolledBack_111 u1 (fun x2 x4 x5 u0 => wp_X1_rolledBack_13 u1 Q n x2 x4 x5 u0) Q x2 x4 x5 u0) (fun x2 x4 x5 u0 H locs ls hP hD hS hl h => w_111 (fun x2 x4 x5 u0 => wp_X1_rolledBack_13 u1 Q n x2 x4 x5 u0) (fun x2 x4 x5 u0 H locs ls hP hD hS hl h => ih x2 x4 x5 u0 H locs ls hP hD hS hl h) x2 x4 x5 u0 H locs ls hP hD hS hl h) x2 r_8 x5 r_4 x7_5 u0 _ _ _ hP hD hS (lv_sub hl [3, 4, 5, 0, 6, 2, 1] rfl) h
          · have h := h.1 cd
            refine lv_aload_n hx hb dX1_rolledBack_54 rfl (lv_at hl 2 rfl) ?_
            refine va_get (D := (dC, dI)) (ci := 1) (v := .ref (q0 1)) (C := RX1) (T := TX1) (N := 1) hx hb hts inX1_rolledBack_1 hown hK hP 0 rfl rfl 0 (by decide) (hts _ kX1_rolledBack_1) (fun _ h9 => h9) rfl dX1_rolledBack_55 ?_
            refine lv_iload hx hb dX1_rolledBack_58 (lv_at hl 1 rfl) ?_
            refine cx_vv (As := [.int r_4]) (rest := []) ⟨hx, hb, hml, hown, hts⟩ hl.1 ok_sxE hE hK hP hD hS hA (cut_26 cI q0 q1 u0 u1) (c_X5_remove (l := l) (dC := dC) (dI := dI) (cI := cI) (q0 := fun i => q0 (i + 1)) h) (cwV 1 hts gX1_rolledBack_X5_remove rfl rfl rfl hdX5_remove ⟨Nat.le_of_ble_eq_true rfl, Nat.le_of_ble_eq_true rfl⟩) rfl rfl rfl rfl (Nat.le_of_ble_eq_true rfl) dX1_rolledBack_60 rfl (fun v_9 H locs h hP hD hS => ?_)
            obtain ⟨u0_10, e_u0_10⟩ : ∃ z, z = s1_roster u0 v_9 := ⟨_, rfl⟩
            have h := h u0_10 e_u0_10
            have hP : va_P (dC, dI) vwCl (cs1 cI q0 u0_10 ++ cs2 cI q1 u1) H := by rw [e_u0_10]; exact hP
            have hD : va_D A (cs1 cI q0 u0_10 ++ cs2 cI q1 u1) := by rw [e_u0_10]; exact hD
            refine lv_goto (tgt := 111) hx hb dX1_rolledBack_63 (by decide) ?_
            exact w_111 (fun x2 x4 x5 u0 => wp_X1_rolledBack_13 u1 Q n x2 x4 x5 u0) (fun x2 x4 x5 u0 H locs ls hP hD hS hl h => ih x2 x4 x5 u0 H locs ls hP hD hS hl h) x2 x4 x5 u0_10 _ _ _ hP hD hS (lv_sub hl [2, 3, 4, 5, 6] rfl) h
        · have h := h.1 cd
          refine lv_goto (tgt := 117) hx hb dX1_rolledBack_34 (by decide) ?_
          refine lv_iload hx hb dX1_rolledBack_117 (lv_at hl 4 rfl) ?_
          exact hret _ _ _ _ _ u0 dX1_rolledBack_119 (vp_nar_int _) h hP hD hS
  have hS : va_S A s.heap s.heap [] := va_S.rf
  refine lv_iload_n hx hb dX1_rolledBack_0 rfl (lv_at hl 3 rfl) ?_
  refine lv_istore (lv' := [(4, .int x3), (0, .ref (q0 0)), (1, .ref (q1 0)), (2, .int x2), (3, .int x3)]) hx hb dX1_rolledBack_1 hl (by decide) rfl (fun ls hl => ?_)
  refine lv_aload_n hx hb dX1_rolledBack_3 rfl (lv_at hl 1 rfl) ?_
  refine va_get (D := (dC, dI)) (ci := 1) (v := .ref (q0 1)) (C := RX1) (T := TX1) (N := 1) hx hb hts inX1_rolledBack_1 hown hK hP 0 rfl rfl 0 (by decide) (hts _ kX1_rolledBack_1) (fun _ h9 => h9) rfl dX1_rolledBack_4 ?_
  refine cx_vv (As := []) (rest := []) ⟨hx, hb, hml, hown, hts⟩ hl.1 ok_sxE hE hK hP hD hS hA (cut_26 cI q0 q1 u0 u1) (c_X5_startUndo (l := l) (dC := dC) (dI := dI) (cI := cI) (q0 := fun i => q0 (i + 1)) h) (cwV 0 hts gX1_rolledBack_X5_startUndo rfl rfl rfl hdX5_startUndo ⟨Nat.le_of_ble_eq_true rfl, Nat.le_of_ble_eq_true rfl⟩) rfl rfl rfl rfl (Nat.le_of_ble_eq_true rfl) dX1_rolledBack_7 rfl (fun v_11 H locs h hP hD hS => ?_)
  obtain ⟨u0_12, e_u0_12⟩ : ∃ z, z = s1_roster u0 v_11 := ⟨_, rfl⟩
  have h := h u0_12 e_u0_12
  have hP : va_P (dC, dI) vwCl (cs1 cI q0 u0_12 ++ cs2 cI q1 u1) H := by rw [e_u0_12]; exact hP
  have hD : va_D A (cs1 cI q0 u0_12 ++ cs2 cI q1 u1) := by rw [e_u0_12]; exact hD
  refine lv_iconst (v := 0) hx hb dX1_rolledBack_10 (by decide) ?_
  refine lv_istore (lv' := [(5, .int 0), (4, .int x3), (0, .ref (q0 0)), (1, .ref (q1 0)), (2, .int x2), (3, .int x3)]) hx hb dX1_rolledBack_11 hl (by decide) rfl (fun ls hl => ?_)
  obtain ⟨n0, h⟩ := h
  exact w_13 n0 x2 x3 0 u0_12 _ _ _ hP hD hS (lv_sub hl [2, 3, 4, 1, 0] rfl) h

set_option maxRecDepth 100000 in
theorem cut_28 (cI : ClassId) (q0 : Nat → Nat) (q1 : Nat → Nat) (q2 : Nat → Nat) (u0 : S1) (u1 : S2) (u2 : S7) : Cut (cs1 cI q0 u0 ++ cs2 cI q1 u1 ++ cs7 cI q2 u2) (cs1 cI q0 u0 ++ cs2 cI q1 u1) (fun v : S1 => cs1 cI q0 v ++ cs2 cI q1 u1) (fun v : S1 => (cs1 cI q0 v ++ cs2 cI q1 u1 ++ cs7 cI q2 u2)) := ⟨[0, 1, 2, 3, 4, 5, 6], [7, 8, 9], rfl, rfl, rfl, by decide, by decide, fun v => ⟨[3, 4, 5, 6, 7, 8, 9, 0, 1, 2], rfl, rfl⟩⟩

set_option maxRecDepth 100000 in
theorem cut_29 (cI : ClassId) (q0 : Nat → Nat) (q1 : Nat → Nat) (q2 : Nat → Nat) (u0 : S1) (u1 : S2) (u2 : S7) : Cut (cs1 cI q0 u0 ++ cs2 cI q1 u1 ++ cs7 cI q2 u2) (cs2 cI q1 u1) (fun _ : Unit => cs2 cI q1 u1) (fun _ : Unit => (cs1 cI q0 u0 ++ cs2 cI q1 u1 ++ cs7 cI q2 u2)) := ⟨[5, 6], [0, 1, 2, 3, 4, 7, 8, 9], rfl, rfl, rfl, by decide, by decide, fun _ => ⟨[0, 1, 2, 3, 4, 8, 9, 5, 6, 7], rfl, rfl⟩⟩

set_option maxRecDepth 100000 in
theorem cut_30 (cI : ClassId) (q0 : Nat → Nat) (q1 : Nat → Nat) (q2 : Nat → Nat) (u0 : S1) (u1 : S2) (u2 : S7) : Cut (cs1 cI q0 u0 ++ cs2 cI q1 u1 ++ cs7 cI q2 u2) (cs5 cI (fun i => q0 (i + 1)) (g1_roster u0) ++ cs2 cI q1 u1) (fun v : S5 => cs5 cI (fun i => q0 (i + 1)) v ++ cs2 cI q1 u1) (fun v : S5 => (cs1 cI q0 (s1_roster u0 v) ++ cs2 cI q1 u1 ++ cs7 cI q2 u2)) := ⟨[1, 2, 3, 4, 5, 6], [0, 7, 8, 9], rfl, rfl, rfl, by decide, by decide, fun v => ⟨[0, 4, 5, 6, 7, 8, 9, 1, 2, 3], rfl, rfl⟩⟩

set_option maxRecDepth 100000 in
theorem cut_31 (cI : ClassId) (q0 : Nat → Nat) (q1 : Nat → Nat) (q2 : Nat → Nat) (u0 : S1) (u1 : S2) (u2 : S7) : Cut (cs1 cI q0 u0 ++ cs2 cI q1 u1 ++ cs7 cI q2 u2) (cs5 cI (fun i => q0 (i + 1)) (g1_roster u0)) (fun v : S5 => cs5 cI (fun i => q0 (i + 1)) v) (fun v : S5 => (cs1 cI q0 (s1_roster u0 v) ++ cs2 cI q1 u1 ++ cs7 cI q2 u2)) := ⟨[1, 2, 3, 4], [0, 5, 6, 7, 8, 9], rfl, rfl, rfl, by decide, by decide, fun v => ⟨[0, 6, 7, 8, 9, 1, 2, 3, 4, 5], rfl, rfl⟩⟩

abbrev rX1_takenOver : Room := { frames := 4, cells := 0, slots := 0, locals := 92 }
theorem hdX1_takenOver : yX1_takenOver.cls = RX1 ∧ yX1_takenOver.cls ≠ "java/lang/invoke/MethodHandle" ∧ yX1_takenOver.cls ≠ "java/lang/invoke/VarHandle" ∧ (parseMethodDescriptor yX1_takenOver.desc).map (fun d => d.parameters.length) = some 3 := by decide +kernel
theorem inX1_takenOver_1 : ∀ w ∈ wsX10, w ∈ wsX1_takenOver := by decide +kernel
theorem inX1_takenOver_7 : ∀ w ∈ wsX70, w ∈ wsX1_takenOver := by decide +kernel
theorem kX1_takenOver_0 : Cond.fieldLink RX1 37 "AheadStore$Standby" "row" "[I" ∈ wsX1_takenOver := by decide +kernel
theorem kX1_takenOver_1 : Cond.fieldLink RX1 12 "AheadStore$Hindsight" "roster" "LAheadStore$Roster;" ∈ wsX1_takenOver := by decide +kernel
theorem kX1_takenOver_2 : Cond.fieldLink RX1 21 "AheadStore$Standby" "done" "I" ∈ wsX1_takenOver := by decide +kernel
set_option maxHeartbeats 4000000 in
set_option maxRecDepth 100000 in
theorem c_X1_takenOver {l : Launch} {dC : Nat → ClassId} {dI : Nat → Nat → Nat} {cI : ClassId} {q0 : Nat → Nat} {q1 : Nat → Nat} {q2 : Nat → Nat} {sz : Nat} {u0 : S1} {u1 : S2} {u2 : S7} {x3 : Int32} {Q : Int32 → S1 → Prop} (h : wp_X1_takenOver u0 u1 u2 x3 Q) : ctI sxE l yX1_takenOver wsX1_takenOver rX1_takenOver (dC, dI) vwCl [(cI, .int)] [.ref (q0 0), .ref (q1 0), .ref (q2 0), .int x3] (cs1 cI q0 u0 ++ cs2 cI q1 u1 ++ cs7 cI q2 u2) sz (fun (r : Int32) (v : S1) => Q r v) (fun (v : S1) => (cs1 cI q0 v ++ cs2 cI q1 u1 ++ cs7 cI q2 u2)) := by
  refine mx_i (cc := cX1_takenOver) (maxL := 5) (ty := .int) (by decide) rfl (Nat.le_of_ble_eq_true rfl) ?_
  intro p e s m below meth c Z A ls args hx hb hml hown hts hA hP hK hD hE hl hret
  have hown : s.vm.findClass RX1 = some m.cls := hown
  have hl : lv_has ls 5 [(0, .ref (q0 0)), (1, .ref (q1 0)), (2, .ref (q2 0)), (3, .int x3)] := hl
  have w_11 : ∀ (n : Nat) (x3 : Int32) (x4 : Int32) (u0 : S1) (H : Heap) (locs : List Loc) (ls : Array Slot) (_ : va_P (dC, dI) vwCl (cs1 cI q0 u0 ++ cs2 cI q1 u1 ++ cs7 cI q2 u2) H) (_ : va_D A (cs1 cI q0 u0 ++ cs2 cI q1 u1 ++ cs7 cI q2 u2)) (_ : va_S A s.heap H locs) (_ : lv_has ls 5 [(0, .ref (q0 0)), (1, .ref (q1 0)), (2, .ref (q2 0)), (3, .int x3), (4, .int x4)]) (_ : wp_X1_takenOver_11 u1 u2 Q n x3 x4 u0), W p l e rX1_takenOver s m args below meth c H locs 0 0 Z (F0 m 11 ls []) := by
    intro n
    induction n with
    | zero => intro x3 x4 u0 H locs ls hP hD hS hl h; exact False.elim h
    | succ n ih =>
      intro x3 x4 u0 H locs ls hP hD hS hl h
      refine lv_iload hx hb dX1_takenOver_11 (lv_at hl 4 rfl) ?_
      refine lv_aload_n hx hb dX1_takenOver_13 rfl (lv_at hl 2 rfl) ?_
      refine va_get (D := (dC, dI)) (ci := 7) (v := .int (g7_done u2)) (C := RX7) (T := TX7) (N := 4) hx hb hts inX1_takenOver_7 hown hK hP 7 rfl rfl 3 (by decide) (hts _ kX1_takenOver_2) (fun _ h9 => h9) rfl dX1_takenOver_14 ?_
      refine lv_icmp_ge (tgt := 41) hx hb dX1_takenOver_17 (by decide) (fun cd => ?_) (fun cd => ?_)
      · have h := h.1 cd
        refine lv_aload_n hx hb dX1_takenOver_41 rfl (lv_at hl 0 rfl) ?_
        refine lv_aload_n hx hb dX1_takenOver_42 rfl (lv_at hl 1 rfl) ?_
        refine lv_iload_n hx hb dX1_takenOver_43 rfl (lv_at hl 3 rfl) ?_
        refine lv_aload_n hx hb dX1_takenOver_44 rfl (lv_at hl 2 rfl) ?_
        refine va_get (D := (dC, dI)) (ci := 7) (v := .ref (q2 1)) (C := RX7) (T := TX7) (N := 4) hx hb hts inX1_takenOver_7 hown hK hP 7 rfl rfl 0 (by decide) (hts _ kX1_takenOver_0) (fun _ h9 => h9) rfl dX1_takenOver_45 ?_
        refine lv_iload_n hx hb dX1_takenOver_48 rfl (lv_at hl 3 rfl) ?_
        refine va_iald hx hb hK hP 8 0 rfl rfl h.1 dX1_takenOver_49 ?_
        have h := h.2
        refine cx_vi (As := [.ref (q1 0), .int x3, .int ((g7_row u2) x3.toNatClampNeg)]) (rest := []) ⟨hx, hb, hml, hown, hts⟩ hl.1 ok_sxE hE hK hP hD hS hA (cut_28 cI q0 q1 q2 u0 u1 u2) (c_X1_rolledBack (l := l) (dC := dC) (dI := dI) (cI := cI) (q0 := q0) (q1 := q1) h) (cwV 3 hts gX1_takenOver_X1_rolledBack rfl rfl rfl hdX1_rolledBack ⟨Nat.le_of_ble_eq_true rfl, Nat.le_of_ble_eq_true rfl⟩) rfl rfl rfl rfl (Nat.le_of_ble_eq_true rfl) dX1_takenOver_50 rfl (fun r_1 v_2 H locs h hP hD hS => ?_)
        have hP : va_P (dC, dI) vwCl (cs1 cI q0 v_2 ++ cs2 cI q1 u1 ++ cs7 cI q2 u2) H :=  hP
        have hD : va_D A (cs1 cI q0 v_2 ++ cs2 cI q1 u1 ++ cs7 cI q2 u2) :=  hD
        exact hret _ _ _ _ _ v_2 dX1_takenOver_53 (vp_nar_int _) h hP hD hS
      · have h := h.2 cd
        refine lv_aload_n hx hb dX1_takenOver_20 rfl (lv_at hl 0 rfl) ?_
        refine va_get (D := (dC, dI)) (ci := 1) (v := .ref (q0 1)) (C := RX1) (T := TX1) (N := 1) hx hb hts inX1_takenOver_1 hown hK hP 0 rfl rfl 0 (by decide) (hts _ kX1_takenOver_1) (fun _ h9 => h9) rfl dX1_takenOver_21 ?_
        refine lv_aload_n hx hb dX1_takenOver_24 rfl (lv_at hl 1 rfl) ?_
        refine lv_iload hx hb dX1_takenOver_25 (lv_at hl 4 rfl) ?_
        refine cx_vv (As := [.ref (q1 0), .int x4]) (rest := []) ⟨hx, hb, hml, hown, hts⟩ hl.1 ok_sxE hE hK hP hD hS hA (cut_30 cI q0 q1 q2 u0 u1 u2) (c_X5_learn (l := l) (dC := dC) (dI := dI) (cI := cI) (q0 := fun i => q0 (i + 1)) (q1 := q1) h) (cwV 2 hts gX1_takenOver_X5_learn rfl rfl rfl hdX5_learn ⟨Nat.le_of_ble_eq_true rfl, Nat.le_of_ble_eq_true rfl⟩) rfl rfl rfl rfl (Nat.le_of_ble_eq_true rfl) dX1_takenOver_27 rfl (fun v_3 H locs h hP hD hS => ?_)
        obtain ⟨u0_4, e_u0_4⟩ : ∃ z, z = s1_roster u0 v_3 := ⟨_, rfl⟩
        have h := h u0_4 e_u0_4
        have hP : va_P (dC, dI) vwCl (cs1 cI q0 u0_4 ++ cs2 cI q1 u1 ++ cs7 cI q2 u2) H := by rw [e_u0_4]; exact hP
        have hD : va_D A (cs1 cI q0 u0_4 ++ cs2 cI q1 u1 ++ cs7 cI q2 u2) := by rw [e_u0_4]; exact hD
        refine lv_aload_n hx hb dX1_takenOver_30 rfl (lv_at hl 1 rfl) ?_
        refine lv_iload hx hb dX1_takenOver_31 (lv_at hl 4 rfl) ?_
        refine cx_vi (As := [.int x4]) (rest := []) ⟨hx, hb, hml, hown, hts⟩ hl.1 ok_sxE hE hK hP hD hS hA (cut_29 cI q0 q1 q2 u0_4 u1 u2) (c_X2_behind (l := l) (dC := dC) (dI := dI) (cI := cI) (q0 := q1) h) (cwV 1 hts gX1_takenOver_X2_behind rfl rfl rfl hdX2_behind ⟨Nat.le_of_ble_eq_true rfl, Nat.le_of_ble_eq_true rfl⟩) rfl rfl rfl rfl (Nat.le_of_ble_eq_true rfl) dX1_takenOver_33 rfl (fun r_5 _ H locs h hP hD hS => ?_)
        refine lv_istore (lv' := [(4, .int r_5), (0, .ref (q0 0)), (1, .ref (q1 0)), (2, .ref (q2 0)), (3, .int x3)]) hx hb dX1_takenOver_36 hl (by decide) rfl (fun ls hl => ?_)
        refine lv_goto (tgt := 11) hx hb dX1_takenOver_38 (by decide) ?_
        exact ih x3 r_5 u0_4 _ _ _ hP hD hS (lv_sub hl [1, 2, 3, 4, 0] rfl) h
  have hS : va_S A s.heap s.heap [] := va_S.rf
  refine lv_aload_n hx hb dX1_takenOver_0 rfl (lv_at hl 0 rfl) ?_
  refine va_get (D := (dC, dI)) (ci := 1) (v := .ref (q0 1)) (C := RX1) (T := TX1) (N := 1) hx hb hts inX1_takenOver_1 hown hK hP 0 rfl rfl 0 (by decide) (hts _ kX1_takenOver_1) (fun _ h9 => h9) rfl dX1_takenOver_1 ?_
  refine cx_vv (As := []) (rest := []) ⟨hx, hb, hml, hown, hts⟩ hl.1 ok_sxE hE hK hP hD hS hA (cut_31 cI q0 q1 q2 u0 u1 u2) (c_X5_clear (l := l) (dC := dC) (dI := dI) (cI := cI) (q0 := fun i => q0 (i + 1)) h) (cwV 0 hts gX1_takenOver_X5_clear rfl rfl rfl hdX5_clear ⟨Nat.le_of_ble_eq_true rfl, Nat.le_of_ble_eq_true rfl⟩) rfl rfl rfl rfl (Nat.le_of_ble_eq_true rfl) dX1_takenOver_4 rfl (fun v_6 H locs h hP hD hS => ?_)
  obtain ⟨u0_7, e_u0_7⟩ : ∃ z, z = s1_roster u0 v_6 := ⟨_, rfl⟩
  have h := h u0_7 e_u0_7
  have hP : va_P (dC, dI) vwCl (cs1 cI q0 u0_7 ++ cs2 cI q1 u1 ++ cs7 cI q2 u2) H := by rw [e_u0_7]; exact hP
  have hD : va_D A (cs1 cI q0 u0_7 ++ cs2 cI q1 u1 ++ cs7 cI q2 u2) := by rw [e_u0_7]; exact hD
  refine lv_bipush (v := 8) hx hb dX1_takenOver_7 (by decide) ?_
  refine lv_istore (lv' := [(4, .int 8), (0, .ref (q0 0)), (1, .ref (q1 0)), (2, .ref (q2 0)), (3, .int x3)]) hx hb dX1_takenOver_9 hl (by decide) rfl (fun ls hl => ?_)
  obtain ⟨n0, h⟩ := h
  exact w_11 n0 x3 8 u0_7 _ _ _ hP hD hS (lv_sub hl [1, 2, 3, 4, 0] rfl) h

set_option maxRecDepth 100000 in
theorem cut_32 (cI : ClassId) (q0 : Nat → Nat) (q1 : Nat → Nat) (u0 : S1) (u1 : S2) : Cut (cs1 cI q0 u0 ++ cs2 cI q1 u1) (cs1 cI q0 u0 ++ cs2 cI q1 u1) (fun v : S1 => cs1 cI q0 v ++ cs2 cI q1 u1) (fun v : S1 => (cs1 cI q0 v ++ cs2 cI q1 u1)) := ⟨[0, 1, 2, 3, 4, 5, 6], [], rfl, rfl, rfl, by decide, by decide, fun v => ⟨[0, 1, 2, 3, 4, 5, 6], rfl, rfl⟩⟩

set_option maxRecDepth 100000 in
theorem cut_33 (cI : ClassId) (q0 : Nat → Nat) (q1 : Nat → Nat) (u0 : S1) (u1 : S2) : Cut (cs1 cI q0 u0 ++ cs2 cI q1 u1) (cs5 cI (fun i => q0 (i + 1)) (g1_roster u0) ++ cs2 cI q1 u1) (fun v : S5 => cs5 cI (fun i => q0 (i + 1)) v ++ cs2 cI q1 u1) (fun v : S5 => (cs1 cI q0 (s1_roster u0 v) ++ cs2 cI q1 u1)) := ⟨[1, 2, 3, 4, 5, 6], [0], rfl, rfl, rfl, by decide, by decide, fun v => ⟨[0, 1, 2, 3, 4, 5, 6], rfl, rfl⟩⟩

abbrev rX1_byteAsOf : Room := { frames := 4, cells := 0, slots := 0, locals := 92 }
theorem hdX1_byteAsOf : yX1_byteAsOf.cls = RX1 ∧ yX1_byteAsOf.cls ≠ "java/lang/invoke/MethodHandle" ∧ yX1_byteAsOf.cls ≠ "java/lang/invoke/VarHandle" ∧ (parseMethodDescriptor yX1_byteAsOf.desc).map (fun d => d.parameters.length) = some 3 := by decide +kernel
theorem inX1_byteAsOf_1 : ∀ w ∈ wsX10, w ∈ wsX1_byteAsOf := by decide +kernel
theorem kX1_byteAsOf_0 : Cond.fieldLink RX1 12 "AheadStore$Hindsight" "roster" "LAheadStore$Roster;" ∈ wsX1_byteAsOf := by decide +kernel
set_option maxHeartbeats 4000000 in
set_option maxRecDepth 100000 in
theorem c_X1_byteAsOf {l : Launch} {dC : Nat → ClassId} {dI : Nat → Nat → Nat} {cI : ClassId} {q0 : Nat → Nat} {q1 : Nat → Nat} {sz : Nat} {u0 : S1} {u1 : S2} {x2 : Int32} {x3 : Int32} {Q : Int32 → S1 → Prop} (h : wp_X1_byteAsOf u0 u1 x2 x3 Q) : ctI sxE l yX1_byteAsOf wsX1_byteAsOf rX1_byteAsOf (dC, dI) vwCl [(cI, .int)] [.ref (q0 0), .ref (q1 0), .int x2, .int x3] (cs1 cI q0 u0 ++ cs2 cI q1 u1) sz (fun (r : Int32) (v : S1) => Q r v) (fun (v : S1) => (cs1 cI q0 v ++ cs2 cI q1 u1)) := by
  refine mx_i (cc := cX1_byteAsOf) (maxL := 6) (ty := .int) (by decide) rfl (Nat.le_of_ble_eq_true rfl) ?_
  intro p e s m below meth c Z A ls args hx hb hml hown hts hA hP hK hD hE hl hret
  have hown : s.vm.findClass RX1 = some m.cls := hown
  have hl : lv_has ls 6 [(0, .ref (q0 0)), (1, .ref (q1 0)), (2, .int x2), (3, .int x3)] := hl
  have w_59 : ∀ (k_14 : Int32 → Int32 → Int32 → Int32 → S1 → Prop) (hk_14 : ∀ (x2 : Int32) (x3 : Int32) (x4 : Int32) (x5 : Int32) (u0 : S1) (H : Heap) (locs : List Loc) (ls : Array Slot) (_ : va_P (dC, dI) vwCl (cs1 cI q0 u0 ++ cs2 cI q1 u1) H) (_ : va_D A (cs1 cI q0 u0 ++ cs2 cI q1 u1)) (_ : va_S A s.heap H locs) (_ : lv_has ls 6 [(0, .ref (q0 0)), (1, .ref (q1 0)), (2, .int x2), (3, .int x3), (4, .int x4), (5, .int x5)]) (_ : k_14 x2 x3 x4 x5 u0), W p l e rX1_byteAsOf s m args below meth c H locs 0 0 Z (F0 m 14 ls [])) (x2 : Int32) (x3 : Int32) (x4 : Int32) (x5 : Int32) (u0 : S1) (H : Heap) (locs : List Loc) (ls : Array Slot) (_ : va_P (dC, dI) vwCl (cs1 cI q0 u0 ++ cs2 cI q1 u1) H) (_ : va_D A (cs1 cI q0 u0 ++ cs2 cI q1 u1)) (_ : va_S A s.heap H locs) (_ : lv_has ls 6 [(0, .ref (q0 0)), (1, .ref (q1 0)), (2, .int x2), (3, .int x3), (4, .int x4), (5, .int x5)]) (_ : wp_X1_byteAsOf_59 u1 k_14 Q x2 x3 x4 x5 u0), W p l e rX1_byteAsOf s m args below meth c H locs 0 0 Z (F0 m 59 ls []) := by
    intro k_14 hk_14 x2 x3 x4 x5 u0 H locs ls hP hD hS hl h
    refine lv_aload_n hx hb dX1_byteAsOf_59 rfl (lv_at hl 1 rfl) ?_
    refine lv_iload hx hb dX1_byteAsOf_60 (lv_at hl 5 rfl) ?_
    refine cx_vi (As := [.int x5]) (rest := []) ⟨hx, hb, hml, hown, hts⟩ hl.1 ok_sxE hE hK hP hD hS hA (cut_25 cI q0 q1 u0 u1) (c_X2_behind (l := l) (dC := dC) (dI := dI) (cI := cI) (q0 := q1) h) (cwV 1 hts gX1_byteAsOf_X2_behind rfl rfl rfl hdX2_behind ⟨Nat.le_of_ble_eq_true rfl, Nat.le_of_ble_eq_true rfl⟩) rfl rfl rfl rfl (Nat.le_of_ble_eq_true rfl) dX1_byteAsOf_62 rfl (fun r_1 _ H locs h hP hD hS => ?_)
    refine lv_istore (lv' := [(5, .int r_1), (0, .ref (q0 0)), (1, .ref (q1 0)), (2, .int x2), (3, .int x3), (4, .int x4)]) hx hb dX1_byteAsOf_65 hl (by decide) rfl (fun ls hl => ?_)
    refine lv_goto (tgt := 14) hx hb dX1_byteAsOf_67 (by decide) ?_
    exact hk_14 x2 x3 x4 r_1 u0 _ _ _ hP hD hS (lv_sub hl [1, 2, 3, 4, 5, 0] rfl) h
  have w_14 : ∀ (n : Nat) (x2 : Int32) (x3 : Int32) (x4 : Int32) (x5 : Int32) (u0 : S1) (H : Heap) (locs : List Loc) (ls : Array Slot) (_ : va_P (dC, dI) vwCl (cs1 cI q0 u0 ++ cs2 cI q1 u1) H) (_ : va_D A (cs1 cI q0 u0 ++ cs2 cI q1 u1)) (_ : va_S A s.heap H locs) (_ : lv_has ls 6 [(0, .ref (q0 0)), (1, .ref (q1 0)), (2, .int x2), (3, .int x3), (4, .int x4), (5, .int x5)]) (_ : wp_X1_byteAsOf_14 u1 Q n x2 x3 x4 x5 u0), W p l e rX1_byteAsOf s m args below meth c H locs 0 0 Z (F0 m 14 ls []) := by
    intro n
    induction n with
    | zero => intro x2 x3 x4 x5 u0 H locs ls hP hD hS hl h; exact False.elim h
    | succ n ih =>
      intro x2 x3 x4 x5 u0 H locs ls hP hD hS hl h
      refine lv_iload hx hb dX1_byteAsOf_14 (lv_at hl 5 rfl) ?_
      refine lv_iload_n hx hb dX1_byteAsOf_16 rfl (lv_at hl 3 rfl) ?_
      refine lv_icmp_gt (tgt := 70) hx hb dX1_byteAsOf_17 (by decide) (fun cd => ?_) (fun cd => ?_)
      · have h := h.1 cd
        refine lv_aload_n hx hb dX1_byteAsOf_70 rfl (lv_at hl 0 rfl) ?_
        refine lv_aload_n hx hb dX1_byteAsOf_71 rfl (lv_at hl 1 rfl) ?_
        refine lv_iload_n hx hb dX1_byteAsOf_72 rfl (lv_at hl 2 rfl) ?_
        refine lv_iload hx hb dX1_byteAsOf_73 (lv_at hl 4 rfl) ?_
        refine cx_vi (As := [.ref (q1 0), .int x2, .int x4]) (rest := []) ⟨hx, hb, hml, hown, hts⟩ hl.1 ok_sxE hE hK hP hD hS hA (cut_32 cI q0 q1 u0 u1) (c_X1_rolledBack (l := l) (dC := dC) (dI := dI) (cI := cI) (q0 := q0) (q1 := q1) h) (cwV 3 hts gX1_byteAsOf_X1_rolledBack rfl rfl rfl hdX1_rolledBack ⟨Nat.le_of_ble_eq_true rfl, Nat.le_of_ble_eq_true rfl⟩) rfl rfl rfl rfl (Nat.le_of_ble_eq_true rfl) dX1_byteAsOf_75 rfl (fun r_2 v_3 H locs h hP hD hS => ?_)
        have hP : va_P (dC, dI) vwCl (cs1 cI q0 v_3 ++ cs2 cI q1 u1) H :=  hP
        have hD : va_D A (cs1 cI q0 v_3 ++ cs2 cI q1 u1) :=  hD
        exact hret _ _ _ _ _ v_3 dX1_byteAsOf_78 (vp_nar_int _) h hP hD hS
      · have h := h.2 cd
        refine lv_aload_n hx hb dX1_byteAsOf_20 rfl (lv_at hl 0 rfl) ?_
        refine va_get (D := (dC, dI)) (ci := 1) (v := .ref (q0 1)) (C := RX1) (T := TX1) (N := 1) hx hb hts inX1_byteAsOf_1 hown hK hP 0 rfl rfl 0 (by decide) (hts _ kX1_byteAsOf_0) (fun _ h9 => h9) rfl dX1_byteAsOf_21 ?_
        refine lv_aload_n hx hb dX1_byteAsOf_24 rfl (lv_at hl 1 rfl) ?_
        refine lv_iload hx hb dX1_byteAsOf_25 (lv_at hl 5 rfl) ?_
        refine cx_vv (As := [.ref (q1 0), .int x5]) (rest := []) ⟨hx, hb, hml, hown, hts⟩ hl.1 ok_sxE hE hK hP hD hS hA (cut_33 cI q0 q1 u0 u1) (c_X5_learn (l := l) (dC := dC) (dI := dI) (cI := cI) (q0 := fun i => q0 (i + 1)) (q1 := q1) h) (cwV 2 hts gX1_byteAsOf_X5_learn rfl rfl rfl hdX5_learn ⟨Nat.le_of_ble_eq_true rfl, Nat.le_of_ble_eq_true rfl⟩) rfl rfl rfl rfl (Nat.le_of_ble_eq_true rfl) dX1_byteAsOf_27 rfl (fun v_4 H locs h hP hD hS => ?_)
        obtain ⟨u0_5, e_u0_5⟩ : ∃ z, z = s1_roster u0 v_4 := ⟨_, rfl⟩
        have h := h u0_5 e_u0_5
        have hP : va_P (dC, dI) vwCl (cs1 cI q0 u0_5 ++ cs2 cI q1 u1) H := by rw [e_u0_5]; exact hP
        have hD : va_D A (cs1 cI q0 u0_5 ++ cs2 cI q1 u1) := by rw [e_u0_5]; exact hD
        refine lv_aload_n hx hb dX1_byteAsOf_30 rfl (lv_at hl 1 rfl) ?_
        refine lv_iload hx hb dX1_byteAsOf_31 (lv_at hl 5 rfl) ?_
        refine cx_vi (As := [.int x5]) (rest := []) ⟨hx, hb, hml, hown, hts⟩ hl.1 ok_sxE hE hK hP hD hS hA (cut_25 cI q0 q1 u0_5 u1) (c_X2_touches (l := l) (dC := dC) (dI := dI) (cI := cI) (q0 := q1) h) (cwV 1 hts gX1_byteAsOf_X2_touches rfl rfl rfl hdX2_touches ⟨Nat.le_of_ble_eq_true rfl, Nat.le_of_ble_eq_true rfl⟩) rfl rfl rfl rfl (Nat.le_of_ble_eq_true rfl) dX1_byteAsOf_33 rfl (fun r_6 _ H locs h hP hD hS => ?_)
        refine lv_if_eq (tgt := 59) hx hb dX1_byteAsOf_36 (by decide) (fun cd => ?_) (fun cd => ?_)
        · have h := h.1 cd
          exact w_59 (fun x2 x3 x4 x5 u0 => wp_X1_byteAsOf_14 u1 Q n x2 x3 x4 x5 u0) (fun x2 x3 x4 x5 u0 H locs ls hP hD hS hl h => ih x2 x3 x4 x5 u0 H locs ls hP hD hS hl h) x2 x3 x4 x5 u0_5 _ _ _ hP hD hS (lv_sub hl [0, 1, 2, 3, 4, 5] rfl) h
        · have h := h.2 cd
          refine lv_aload_n hx hb dX1_byteAsOf_39 rfl (lv_at hl 1 rfl) ?_
          refine lv_iload hx hb dX1_byteAsOf_40 (lv_at hl 5 rfl) ?_
          refine cx_vi (As := [.int x5]) (rest := []) ⟨hx, hb, hml, hown, hts⟩ hl.1 ok_sxE hE hK hP hD hS hA (cut_25 cI q0 q1 u0_5 u1) (c_X2_addressAt (l := l) (dC := dC) (dI := dI) (cI := cI) (q0 := q1) h) (cwV 1 hts gX1_byteAsOf_X2_addressAt rfl rfl rfl hdX2_addressAt ⟨Nat.le_of_ble_eq_true rfl, Nat.le_of_ble_eq_true rfl⟩) rfl rfl rfl rfl (Nat.le_of_ble_eq_true rfl) dX1_byteAsOf_42 rfl (fun r_7 _ H locs h hP hD hS => ?_)
          refine lv_iload_n hx hb dX1_byteAsOf_45 rfl (lv_at hl 2 rfl) ?_
          refine lv_icmp_ne (tgt := 59) hx hb dX1_byteAsOf_46 (by decide) (fun cd => ?_) (fun cd => ?_)
          · have h := h.2 cd
            exact w_59 (fun x2 x3 x4 x5 u0 => wp_X1_byteAsOf_14 u1 Q n x2 x3 x4 x5 u0) (fun x2 x3 x4 x5 u0 H locs ls hP hD hS hl h => ih x2 x3 x4 x5 u0 H locs ls hP hD hS hl h) x2 x3 x4 x5 u0_5 _ _ _ hP hD hS (lv_sub hl [0, 1, 2, 3, 4, 5] rfl) h
          · have h := h.1 cd
            refine lv_aload_n hx hb dX1_byteAsOf_49 rfl (lv_at hl 1 rfl) ?_
            refine lv_iload hx hb dX1_byteAsOf_50 (lv_at hl 5 rfl) ?_
            refine lv_iload hx hb dX1_byteAsOf_52 (lv_at hl 4 rfl) ?_
            refine cx_vi (As := [.int x5, .int x4]) (rest := []) ⟨hx, hb, hml, hown, hts⟩ hl.1 ok_sxE hE hK hP hD hS hA (cut_25 cI q0 q1 u0_5 u1) (c_X2_done (l := l) (dC := dC) (dI := dI) (cI := cI) (q0 := q1) h) (cwV 2 hts gX1_byteAsOf_X2_done rfl rfl rfl hdX2_done ⟨Nat.le_of_ble_eq_true rfl, Nat.le_of_ble_eq_true rfl⟩) rfl rfl rfl rfl (Nat.le_of_ble_eq_true rfl) dX1_byteAsOf_54 rfl (fun r_8 _ H locs h hP hD hS => ?_)
            refine lv_istore (lv' := [(4, .int r_8), (0, .ref (q0 0)), (1, .ref (q1 0)), (2, .int x2), (3, .int x3), (5, .int x5)]) hx hb dX1_byteAsOf_57 hl (by decide) rfl (fun ls hl => ?_)
            exact w_59 (fun x2 x3 x4 x5 u0 => wp_X1_byteAsOf_14 u1 Q n x2 x3 x4 x5 u0) (fun x2 x3 x4 x5 u0 H locs ls hP hD hS hl h => ih x2 x3 x4 x5 u0 H locs ls hP hD hS hl h) x2 x3 r_8 x5 u0_5 _ _ _ hP hD hS (lv_sub hl [1, 2, 3, 4, 0, 5] rfl) h
  have hS : va_S A s.heap s.heap [] := va_S.rf
  refine lv_aload_n hx hb dX1_byteAsOf_0 rfl (lv_at hl 0 rfl) ?_
  refine va_get (D := (dC, dI)) (ci := 1) (v := .ref (q0 1)) (C := RX1) (T := TX1) (N := 1) hx hb hts inX1_byteAsOf_1 hown hK hP 0 rfl rfl 0 (by decide) (hts _ kX1_byteAsOf_0) (fun _ h9 => h9) rfl dX1_byteAsOf_1 ?_
  refine cx_vv (As := []) (rest := []) ⟨hx, hb, hml, hown, hts⟩ hl.1 ok_sxE hE hK hP hD hS hA (cut_26 cI q0 q1 u0 u1) (c_X5_clear (l := l) (dC := dC) (dI := dI) (cI := cI) (q0 := fun i => q0 (i + 1)) h) (cwV 0 hts gX1_byteAsOf_X5_clear rfl rfl rfl hdX5_clear ⟨Nat.le_of_ble_eq_true rfl, Nat.le_of_ble_eq_true rfl⟩) rfl rfl rfl rfl (Nat.le_of_ble_eq_true rfl) dX1_byteAsOf_4 rfl (fun v_9 H locs h hP hD hS => ?_)
  obtain ⟨u0_10, e_u0_10⟩ : ∃ z, z = s1_roster u0 v_9 := ⟨_, rfl⟩
  have h := h u0_10 e_u0_10
  have hP : va_P (dC, dI) vwCl (cs1 cI q0 u0_10 ++ cs2 cI q1 u1) H := by rw [e_u0_10]; exact hP
  have hD : va_D A (cs1 cI q0 u0_10 ++ cs2 cI q1 u1) := by rw [e_u0_10]; exact hD
  refine lv_iconst (v := 0) hx hb dX1_byteAsOf_7 (by decide) ?_
  refine lv_istore (lv' := [(4, .int 0), (0, .ref (q0 0)), (1, .ref (q1 0)), (2, .int x2), (3, .int x3)]) hx hb dX1_byteAsOf_8 hl (by decide) rfl (fun ls hl => ?_)
  refine lv_bipush (v := 8) hx hb dX1_byteAsOf_10 (by decide) ?_
  refine lv_istore (lv' := [(5, .int 8), (4, .int 0), (0, .ref (q0 0)), (1, .ref (q1 0)), (2, .int x2), (3, .int x3)]) hx hb dX1_byteAsOf_12 hl (by decide) rfl (fun ls hl => ?_)
  obtain ⟨n0, h⟩ := h
  exact w_14 n0 x2 x3 0 8 u0_10 _ _ _ hP hD hS (lv_sub hl [2, 3, 4, 5, 1, 0] rfl) h
