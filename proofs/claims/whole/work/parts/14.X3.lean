abbrev rX3_frameOf : Room := { frames := 0, cells := 0, slots := 0, locals := 0 }
theorem hdX3_frameOf : yX3_frameOf.cls = RX3 ∧ yX3_frameOf.cls ≠ "java/lang/invoke/MethodHandle" ∧ yX3_frameOf.cls ≠ "java/lang/invoke/VarHandle" ∧ (parseMethodDescriptor yX3_frameOf.desc).map (fun d => d.parameters.length) = some 1 := by decide +kernel
theorem inX3_frameOf_3 : ∀ w ∈ wsX30, w ∈ wsX3_frameOf := by decide +kernel
theorem kX3_frameOf_0 : Cond.fieldLink RX3 31 "AheadStore$Pages" "held" "[I" ∈ wsX3_frameOf := by decide +kernel
theorem kX3_frameOf_1 : Cond.fieldLink RX3 28 "AheadStore$Pages" "frameCount" "I" ∈ wsX3_frameOf := by decide +kernel
set_option maxHeartbeats 4000000 in
set_option maxRecDepth 100000 in
theorem c_X3_frameOf {l : Launch} {dC : Nat → ClassId} {dI : Nat → Nat → Nat} {cI : ClassId} {q0 : Nat → Nat} {sz : Nat} {u0 : S3} {x1 : Int32} {Q : Int32 → Prop} (h : wp_X3_frameOf u0 x1 Q) : ctI sxE l yX3_frameOf wsX3_frameOf rX3_frameOf (dC, dI) vwCl [(cI, .int)] [.ref (q0 0), .int x1] (cs3 cI q0 u0) sz (fun (r : Int32) (_ : Unit) => Q r) (fun (_ : Unit) => cs3 cI q0 u0) := by
  refine mx_i (cc := cX3_frameOf) (maxL := 3) (ty := .int) (by decide) rfl (Nat.le_of_ble_eq_true rfl) ?_
  intro p e s m below meth c Z A ls args hx hb hml hown hts hA hP hK hD hE hl hret
  have hown : s.vm.findClass RX3 = some m.cls := hown
  have hl : lv_has ls 3 [(0, .ref (q0 0)), (1, .int x1)] := hl
  have w_2 : ∀ (n : Nat) (x1 : Int32) (x2 : Int32) (H : Heap) (locs : List Loc) (ls : Array Slot) (_ : va_P (dC, dI) vwCl (cs3 cI q0 u0) H) (_ : va_D A (cs3 cI q0 u0)) (_ : va_S A s.heap H locs) (_ : lv_has ls 3 [(0, .ref (q0 0)), (1, .int x1), (2, .int x2)]) (_ : wp_X3_frameOf_2 u0 Q n x1 x2), W p l e rX3_frameOf s m args below meth c H locs 0 0 Z (F0 m 2 ls []) := by
    intro n
    induction n with
    | zero => intro x1 x2 H locs ls hP hD hS hl h; exact False.elim h
    | succ n ih =>
      intro x1 x2 H locs ls hP hD hS hl h
      refine lv_iload_n hx hb dX3_frameOf_2 rfl (lv_at hl 2 rfl) ?_
      refine lv_aload_n hx hb dX3_frameOf_3 rfl (lv_at hl 0 rfl) ?_
      refine va_get (D := (dC, dI)) (ci := 3) (v := .int (g3_frameCount u0)) (C := RX3) (T := TX3) (N := 12) hx hb hts inX3_frameOf_3 hown hK hP 0 rfl rfl 5 (by decide) (hts _ kX3_frameOf_1) (fun _ h9 => h9) rfl dX3_frameOf_4 ?_
      refine lv_icmp_ge (tgt := 34) hx hb dX3_frameOf_7 (by decide) (fun cd => ?_) (fun cd => ?_)
      · have h := h.1 cd
        refine lv_iconst (v := (-1)) hx hb dX3_frameOf_34 (by decide) ?_
        exact hret _ _ _ _ _ () dX3_frameOf_35 (vp_nar_int _) h hP hD hS
      · have h := h.2 cd
        refine lv_iload_n hx hb dX3_frameOf_10 rfl (lv_at hl 2 rfl) ?_
        refine lv_bipush (v := 8) hx hb dX3_frameOf_11 (by decide) ?_
        refine lv_icmp_ge (tgt := 34) hx hb dX3_frameOf_13 (by decide) (fun cd => ?_) (fun cd => ?_)
        · have h := h.1 cd
          refine lv_iconst (v := (-1)) hx hb dX3_frameOf_34 (by decide) ?_
          exact hret _ _ _ _ _ () dX3_frameOf_35 (vp_nar_int _) h hP hD hS
        · have h := h.2 cd
          refine lv_aload_n hx hb dX3_frameOf_16 rfl (lv_at hl 0 rfl) ?_
          refine va_get (D := (dC, dI)) (ci := 3) (v := .ref (q0 5)) (C := RX3) (T := TX3) (N := 12) hx hb hts inX3_frameOf_3 hown hK hP 0 rfl rfl 6 (by decide) (hts _ kX3_frameOf_0) (fun _ h9 => h9) rfl dX3_frameOf_17 ?_
          refine lv_iload_n hx hb dX3_frameOf_20 rfl (lv_at hl 2 rfl) ?_
          refine va_iald hx hb hK hP 5 0 rfl rfl h.1 dX3_frameOf_21 ?_
          have h := h.2
          refine lv_iload_n hx hb dX3_frameOf_22 rfl (lv_at hl 1 rfl) ?_
          refine lv_icmp_ne (tgt := 28) hx hb dX3_frameOf_23 (by decide) (fun cd => ?_) (fun cd => ?_)
          · have h := h.2 cd
            obtain ⟨x2_1, e_x2_1⟩ : ∃ z : Int32, z = x2 + 1 := ⟨_, rfl⟩
            have h := h x2_1 e_x2_1
            refine lv_iinc (v := x2_1) (lv' := [(2, .int x2_1), (0, .ref (q0 0)), (1, .int x1)]) hx hb dX3_frameOf_28 hl (k := 2) rfl (by rw [e_x2_1]; rfl) (by decide) rfl (fun ls hl => ?_)
            refine lv_goto (tgt := 2) hx hb dX3_frameOf_31 (by decide) ?_
            exact ih x1 x2_1 _ _ _ hP hD hS (lv_sub hl [1, 2, 0] rfl) h
          · have h := h.1 cd
            refine lv_iload_n hx hb dX3_frameOf_26 rfl (lv_at hl 2 rfl) ?_
            exact hret _ _ _ _ _ () dX3_frameOf_27 (vp_nar_int _) h hP hD hS
  have hS : va_S A s.heap s.heap [] := va_S.rf
  refine lv_iconst (v := 0) hx hb dX3_frameOf_0 (by decide) ?_
  refine lv_istore_n (lv' := [(2, .int 0), (0, .ref (q0 0)), (1, .int x1)]) hx hb dX3_frameOf_1 rfl hl (by decide) rfl (fun ls hl => ?_)
  obtain ⟨n0, h⟩ := h
  exact w_2 n0 x1 0 _ _ _ hP hD hS (lv_sub hl [1, 2, 0] rfl) h

abbrev rX3_holdsAny : Room := { frames := 0, cells := 0, slots := 0, locals := 0 }
theorem hdX3_holdsAny : yX3_holdsAny.cls = RX3 ∧ yX3_holdsAny.cls ≠ "java/lang/invoke/MethodHandle" ∧ yX3_holdsAny.cls ≠ "java/lang/invoke/VarHandle" ∧ (parseMethodDescriptor yX3_holdsAny.desc).map (fun d => d.parameters.length) = some 0 := by decide +kernel
theorem inX3_holdsAny_3 : ∀ w ∈ wsX30, w ∈ wsX3_holdsAny := by decide +kernel
theorem kX3_holdsAny_0 : Cond.fieldLink RX3 31 "AheadStore$Pages" "held" "[I" ∈ wsX3_holdsAny := by decide +kernel
set_option maxHeartbeats 4000000 in
set_option maxRecDepth 100000 in
theorem c_X3_holdsAny {l : Launch} {dC : Nat → ClassId} {dI : Nat → Nat → Nat} {cI : ClassId} {q0 : Nat → Nat} {sz : Nat} {u0 : S3}  {Q : Int32 → Prop} (h : wp_X3_holdsAny u0 Q) : ctI sxE l yX3_holdsAny wsX3_holdsAny rX3_holdsAny (dC, dI) vwCl [(cI, .int)] [.ref (q0 0)] (cs3 cI q0 u0) sz (fun (r : Int32) (_ : Unit) => Q r) (fun (_ : Unit) => cs3 cI q0 u0) := by
  refine mx_i (cc := cX3_holdsAny) (maxL := 2) (ty := .boolean) (by decide) rfl (Nat.le_of_ble_eq_true rfl) ?_
  intro p e s m below meth c Z A ls args hx hb hml hown hts hA hP hK hD hE hl hret
  have hown : s.vm.findClass RX3 = some m.cls := hown
  have hl : lv_has ls 2 [(0, .ref (q0 0))] := hl
  have w_2 : ∀ (n : Nat) (x1 : Int32) (H : Heap) (locs : List Loc) (ls : Array Slot) (_ : va_P (dC, dI) vwCl (cs3 cI q0 u0) H) (_ : va_D A (cs3 cI q0 u0)) (_ : va_S A s.heap H locs) (_ : lv_has ls 2 [(0, .ref (q0 0)), (1, .int x1)]) (_ : wp_X3_holdsAny_2 u0 Q n x1), W p l e rX3_holdsAny s m args below meth c H locs 0 0 Z (F0 m 2 ls []) := by
    intro n
    induction n with
    | zero => intro x1 H locs ls hP hD hS hl h; exact False.elim h
    | succ n ih =>
      intro x1 H locs ls hP hD hS hl h
      refine lv_iload_n hx hb dX3_holdsAny_2 rfl (lv_at hl 1 rfl) ?_
      refine lv_bipush (v := 8) hx hb dX3_holdsAny_3 (by decide) ?_
      refine lv_icmp_ge (tgt := 26) hx hb dX3_holdsAny_5 (by decide) (fun cd => ?_) (fun cd => ?_)
      · have h := h.1 cd
        refine lv_iconst (v := 0) hx hb dX3_holdsAny_26 (by decide) ?_
        exact hret _ _ _ _ _ () dX3_holdsAny_27 (by decide) h hP hD hS
      · have h := h.2 cd
        refine lv_aload_n hx hb dX3_holdsAny_8 rfl (lv_at hl 0 rfl) ?_
        refine va_get (D := (dC, dI)) (ci := 3) (v := .ref (q0 5)) (C := RX3) (T := TX3) (N := 12) hx hb hts inX3_holdsAny_3 hown hK hP 0 rfl rfl 6 (by decide) (hts _ kX3_holdsAny_0) (fun _ h9 => h9) rfl dX3_holdsAny_9 ?_
        refine lv_iload_n hx hb dX3_holdsAny_12 rfl (lv_at hl 1 rfl) ?_
        refine va_iald hx hb hK hP 5 0 rfl rfl h.1 dX3_holdsAny_13 ?_
        have h := h.2
        refine lv_iconst (v := (-1)) hx hb dX3_holdsAny_14 (by decide) ?_
        refine lv_icmp_eq (tgt := 20) hx hb dX3_holdsAny_15 (by decide) (fun cd => ?_) (fun cd => ?_)
        · have h := h.1 cd
          obtain ⟨x1_1, e_x1_1⟩ : ∃ z : Int32, z = x1 + 1 := ⟨_, rfl⟩
          have h := h x1_1 e_x1_1
          refine lv_iinc (v := x1_1) (lv' := [(1, .int x1_1), (0, .ref (q0 0))]) hx hb dX3_holdsAny_20 hl (k := 1) rfl (by rw [e_x1_1]; rfl) (by decide) rfl (fun ls hl => ?_)
          refine lv_goto (tgt := 2) hx hb dX3_holdsAny_23 (by decide) ?_
          exact ih x1_1 _ _ _ hP hD hS (lv_sub hl [1, 0] rfl) h
        · have h := h.2 cd
          refine lv_iconst (v := 1) hx hb dX3_holdsAny_18 (by decide) ?_
          exact hret _ _ _ _ _ () dX3_holdsAny_19 (by decide) h hP hD hS
  have hS : va_S A s.heap s.heap [] := va_S.rf
  refine lv_iconst (v := 0) hx hb dX3_holdsAny_0 (by decide) ?_
  refine lv_istore_n (lv' := [(1, .int 0), (0, .ref (q0 0))]) hx hb dX3_holdsAny_1 rfl hl (by decide) rfl (fun ls hl => ?_)
  obtain ⟨n0, h⟩ := h
  exact w_2 n0 0 _ _ _ hP hD hS (lv_sub hl [1, 0] rfl) h

abbrev rX3_isLost : Room := { frames := 0, cells := 0, slots := 0, locals := 0 }
theorem hdX3_isLost : yX3_isLost.cls = RX3 ∧ yX3_isLost.cls ≠ "java/lang/invoke/MethodHandle" ∧ yX3_isLost.cls ≠ "java/lang/invoke/VarHandle" ∧ (parseMethodDescriptor yX3_isLost.desc).map (fun d => d.parameters.length) = some 1 := by decide +kernel
theorem inX3_isLost_3 : ∀ w ∈ wsX30, w ∈ wsX3_isLost := by decide +kernel
theorem kX3_isLost_0 : Cond.fieldLink RX3 24 "AheadStore$Pages" "lost" "I" ∈ wsX3_isLost := by decide +kernel
set_option maxHeartbeats 4000000 in
set_option maxRecDepth 100000 in
theorem c_X3_isLost {l : Launch} {dC : Nat → ClassId} {dI : Nat → Nat → Nat} {cI : ClassId} {q0 : Nat → Nat} {sz : Nat} {u0 : S3} {x1 : Int32} {Q : Int32 → Prop} (h : wp_X3_isLost u0 x1 Q) : ctI sxE l yX3_isLost wsX3_isLost rX3_isLost (dC, dI) vwCl [(cI, .int)] [.ref (q0 0), .int x1] (cs3 cI q0 u0) sz (fun (r : Int32) (_ : Unit) => Q r) (fun (_ : Unit) => cs3 cI q0 u0) := by
  refine mx_i (cc := cX3_isLost) (maxL := 2) (ty := .boolean) (by decide) rfl (Nat.le_of_ble_eq_true rfl) ?_
  intro p e s m below meth c Z A ls args hx hb hml hown hts hA hP hK hD hE hl hret
  have hown : s.vm.findClass RX3 = some m.cls := hown
  have hl : lv_has ls 2 [(0, .ref (q0 0)), (1, .int x1)] := hl
  have hS : va_S A s.heap s.heap [] := va_S.rf
  refine lv_aload_n hx hb dX3_isLost_0 rfl (lv_at hl 0 rfl) ?_
  refine va_get (D := (dC, dI)) (ci := 3) (v := .int (g3_lost u0)) (C := RX3) (T := TX3) (N := 12) hx hb hts inX3_isLost_3 hown hK hP 0 rfl rfl 4 (by decide) (hts _ kX3_isLost_0) (fun _ h9 => h9) rfl dX3_isLost_1 ?_
  refine lv_iload_n hx hb dX3_isLost_4 rfl (lv_at hl 1 rfl) ?_
  refine lv_ishr hx hb dX3_isLost_5 ?_
  refine lv_iconst (v := 1) hx hb dX3_isLost_6 (by decide) ?_
  refine lv_iand hx hb dX3_isLost_7 ?_
  refine lv_iconst (v := 1) hx hb dX3_isLost_8 (by decide) ?_
  refine lv_icmp_ne (tgt := 16) hx hb dX3_isLost_9 (by decide) (fun cd => ?_) (fun cd => ?_)
  · have h := h.2 cd
    refine lv_iconst (v := 0) hx hb dX3_isLost_16 (by decide) ?_
    exact hret _ _ _ _ _ () dX3_isLost_17 (by decide) h hP hD hS
  · have h := h.1 cd
    refine lv_iconst (v := 1) hx hb dX3_isLost_12 (by decide) ?_
    refine lv_goto (tgt := 17) hx hb dX3_isLost_13 (by decide) ?_
    exact hret _ _ _ _ _ () dX3_isLost_17 (by decide) h hP hD hS

abbrev rX3_uncleanCount : Room := { frames := 0, cells := 0, slots := 0, locals := 0 }
theorem hdX3_uncleanCount : yX3_uncleanCount.cls = RX3 ∧ yX3_uncleanCount.cls ≠ "java/lang/invoke/MethodHandle" ∧ yX3_uncleanCount.cls ≠ "java/lang/invoke/VarHandle" ∧ (parseMethodDescriptor yX3_uncleanCount.desc).map (fun d => d.parameters.length) = some 0 := by decide +kernel
theorem inX3_uncleanCount_3 : ∀ w ∈ wsX30, w ∈ wsX3_uncleanCount := by decide +kernel
theorem kX3_uncleanCount_0 : Cond.fieldLink RX3 40 "AheadStore$Pages" "recs" "[I" ∈ wsX3_uncleanCount := by decide +kernel
set_option maxHeartbeats 4000000 in
set_option maxRecDepth 100000 in
theorem c_X3_uncleanCount {l : Launch} {dC : Nat → ClassId} {dI : Nat → Nat → Nat} {cI : ClassId} {q0 : Nat → Nat} {sz : Nat} {u0 : S3}  {Q : Int32 → Prop} (h : wp_X3_uncleanCount u0 Q) : ctI sxE l yX3_uncleanCount wsX3_uncleanCount rX3_uncleanCount (dC, dI) vwCl [(cI, .int)] [.ref (q0 0)] (cs3 cI q0 u0) sz (fun (r : Int32) (_ : Unit) => Q r) (fun (_ : Unit) => cs3 cI q0 u0) := by
  refine mx_i (cc := cX3_uncleanCount) (maxL := 3) (ty := .int) (by decide) rfl (Nat.le_of_ble_eq_true rfl) ?_
  intro p e s m below meth c Z A ls args hx hb hml hown hts hA hP hK hD hE hl hret
  have hown : s.vm.findClass RX3 = some m.cls := hown
  have hl : lv_has ls 3 [(0, .ref (q0 0))] := hl
  have w_22 : ∀ (k_4 : Int32 → Int32 → Prop) (hk_4 : ∀ (x1 : Int32) (x2 : Int32) (H : Heap) (locs : List Loc) (ls : Array Slot) (_ : va_P (dC, dI) vwCl (cs3 cI q0 u0) H) (_ : va_D A (cs3 cI q0 u0)) (_ : va_S A s.heap H locs) (_ : lv_has ls 3 [(0, .ref (q0 0)), (1, .int x1), (2, .int x2)]) (_ : k_4 x1 x2), W p l e rX3_uncleanCount s m args below meth c H locs 0 0 Z (F0 m 4 ls [])) (x1 : Int32) (x2 : Int32) (H : Heap) (locs : List Loc) (ls : Array Slot) (_ : va_P (dC, dI) vwCl (cs3 cI q0 u0) H) (_ : va_D A (cs3 cI q0 u0)) (_ : va_S A s.heap H locs) (_ : lv_has ls 3 [(0, .ref (q0 0)), (1, .int x1), (2, .int x2)]) (_ : wp_X3_uncleanCount_22 u0 k_4 Q x1 x2), W p l e rX3_uncleanCount s m args below meth c H locs 0 0 Z (F0 m 22 ls []) := by
    intro k_4 hk_4 x1 x2 H locs ls hP hD hS hl h
    obtain ⟨x2_1, e_x2_1⟩ : ∃ z : Int32, z = x2 + 1 := ⟨_, rfl⟩
    have h := h x2_1 e_x2_1
    refine lv_iinc (v := x2_1) (lv' := [(2, .int x2_1), (0, .ref (q0 0)), (1, .int x1)]) hx hb dX3_uncleanCount_22 hl (k := 2) rfl (by rw [e_x2_1]; rfl) (by decide) rfl (fun ls hl => ?_)
    refine lv_goto (tgt := 4) hx hb dX3_uncleanCount_25 (by decide) ?_
    exact hk_4 x1 x2_1 _ _ _ hP hD hS (lv_sub hl [1, 2, 0] rfl) h
  have w_4 : ∀ (n : Nat) (x1 : Int32) (x2 : Int32) (H : Heap) (locs : List Loc) (ls : Array Slot) (_ : va_P (dC, dI) vwCl (cs3 cI q0 u0) H) (_ : va_D A (cs3 cI q0 u0)) (_ : va_S A s.heap H locs) (_ : lv_has ls 3 [(0, .ref (q0 0)), (1, .int x1), (2, .int x2)]) (_ : wp_X3_uncleanCount_4 u0 Q n x1 x2), W p l e rX3_uncleanCount s m args below meth c H locs 0 0 Z (F0 m 4 ls []) := by
    intro n
    induction n with
    | zero => intro x1 x2 H locs ls hP hD hS hl h; exact False.elim h
    | succ n ih =>
      intro x1 x2 H locs ls hP hD hS hl h
      refine lv_iload_n hx hb dX3_uncleanCount_4 rfl (lv_at hl 2 rfl) ?_
      refine lv_bipush (v := 8) hx hb dX3_uncleanCount_5 (by decide) ?_
      refine lv_icmp_ge (tgt := 28) hx hb dX3_uncleanCount_7 (by decide) (fun cd => ?_) (fun cd => ?_)
      · have h := h.1 cd
        refine lv_iload_n hx hb dX3_uncleanCount_28 rfl (lv_at hl 1 rfl) ?_
        exact hret _ _ _ _ _ () dX3_uncleanCount_29 (vp_nar_int _) h hP hD hS
      · have h := h.2 cd
        refine lv_aload_n hx hb dX3_uncleanCount_10 rfl (lv_at hl 0 rfl) ?_
        refine va_get (D := (dC, dI)) (ci := 3) (v := .ref (q0 8)) (C := RX3) (T := TX3) (N := 12) hx hb hts inX3_uncleanCount_3 hown hK hP 0 rfl rfl 9 (by decide) (hts _ kX3_uncleanCount_0) (fun _ h9 => h9) rfl dX3_uncleanCount_11 ?_
        refine lv_iload_n hx hb dX3_uncleanCount_14 rfl (lv_at hl 2 rfl) ?_
        refine va_iald hx hb hK hP 8 0 rfl rfl h.1 dX3_uncleanCount_15 ?_
        have h := h.2
        refine lv_if_eq (tgt := 22) hx hb dX3_uncleanCount_16 (by decide) (fun cd => ?_) (fun cd => ?_)
        · have h := h.1 cd
          exact w_22 (fun x1 x2 => wp_X3_uncleanCount_4 u0 Q n x1 x2) (fun x1 x2 H locs ls hP hD hS hl h => ih x1 x2 H locs ls hP hD hS hl h) x1 x2 _ _ _ hP hD hS (lv_sub hl [0, 1, 2] rfl) h
        · have h := h.2 cd
          obtain ⟨x1_2, e_x1_2⟩ : ∃ z : Int32, z = x1 + 1 := ⟨_, rfl⟩
          have h := h x1_2 e_x1_2
          refine lv_iinc (v := x1_2) (lv' := [(1, .int x1_2), (0, .ref (q0 0)), (2, .int x2)]) hx hb dX3_uncleanCount_19 hl (k := 1) rfl (by rw [e_x1_2]; rfl) (by decide) rfl (fun ls hl => ?_)
          exact w_22 (fun x1 x2 => wp_X3_uncleanCount_4 u0 Q n x1 x2) (fun x1 x2 H locs ls hP hD hS hl h => ih x1 x2 H locs ls hP hD hS hl h) x1_2 x2 _ _ _ hP hD hS (lv_sub hl [1, 0, 2] rfl) h
  have hS : va_S A s.heap s.heap [] := va_S.rf
  refine lv_iconst (v := 0) hx hb dX3_uncleanCount_0 (by decide) ?_
  refine lv_istore_n (lv' := [(1, .int 0), (0, .ref (q0 0))]) hx hb dX3_uncleanCount_1 rfl hl (by decide) rfl (fun ls hl => ?_)
  refine lv_iconst (v := 0) hx hb dX3_uncleanCount_2 (by decide) ?_
  refine lv_istore_n (lv' := [(2, .int 0), (1, .int 0), (0, .ref (q0 0))]) hx hb dX3_uncleanCount_3 rfl hl (by decide) rfl (fun ls hl => ?_)
  obtain ⟨n0, h⟩ := h
  exact w_4 n0 0 0 _ _ _ hP hD hS (lv_sub hl [2, 1, 0] rfl) h

set_option maxRecDepth 100000 in
theorem cut_9 (cI : ClassId) (q0 : Nat → Nat) (u0 : S3) : Cut (cs3 cI q0 u0) (cs3 cI q0 u0) (fun _ : Unit => cs3 cI q0 u0) (fun _ : Unit => cs3 cI q0 u0) := ⟨[0, 1, 2, 3, 4, 5, 6, 7, 8, 9], [], rfl, rfl, rfl, by decide, by decide, fun _ => ⟨[0, 1, 2, 3, 4, 5, 6, 7, 8, 9], rfl, rfl⟩⟩

abbrev rX3_byteNow : Room := { frames := 1, cells := 0, slots := 0, locals := 22 }
theorem hdX3_byteNow : yX3_byteNow.cls = RX3 ∧ yX3_byteNow.cls ≠ "java/lang/invoke/MethodHandle" ∧ yX3_byteNow.cls ≠ "java/lang/invoke/VarHandle" ∧ (parseMethodDescriptor yX3_byteNow.desc).map (fun d => d.parameters.length) = some 1 := by decide +kernel
theorem inX3_byteNow_3 : ∀ w ∈ wsX30, w ∈ wsX3_byteNow := by decide +kernel
theorem kX3_byteNow_0 : Cond.fieldLink RX3 34 "AheadStore$Pages" "copies" "[I" ∈ wsX3_byteNow := by decide +kernel
theorem kX3_byteNow_1 : Cond.fieldLink RX3 9 "AheadStore$Pages" "disk" "[I" ∈ wsX3_byteNow := by decide +kernel
set_option maxHeartbeats 4000000 in
set_option maxRecDepth 100000 in
theorem c_X3_byteNow {l : Launch} {dC : Nat → ClassId} {dI : Nat → Nat → Nat} {cI : ClassId} {q0 : Nat → Nat} {sz : Nat} {u0 : S3} {x1 : Int32} {Q : Int32 → Prop} (h : wp_X3_byteNow u0 x1 Q) : ctI sxE l yX3_byteNow wsX3_byteNow rX3_byteNow (dC, dI) vwCl [(cI, .int)] [.ref (q0 0), .int x1] (cs3 cI q0 u0) sz (fun (r : Int32) (_ : Unit) => Q r) (fun (_ : Unit) => cs3 cI q0 u0) := by
  refine mx_i (cc := cX3_byteNow) (maxL := 3) (ty := .int) (by decide) rfl (Nat.le_of_ble_eq_true rfl) ?_
  intro p e s m below meth c Z A ls args hx hb hml hown hts hA hP hK hD hE hl hret
  have hown : s.vm.findClass RX3 = some m.cls := hown
  have hl : lv_has ls 3 [(0, .ref (q0 0)), (1, .int x1)] := hl
  have hS : va_S A s.heap s.heap [] := va_S.rf
  refine lv_aload_n hx hb dX3_byteNow_0 rfl (lv_at hl 0 rfl) ?_
  refine lv_iload_n hx hb dX3_byteNow_1 rfl (lv_at hl 1 rfl) ?_
  refine lv_bipush (v := 16) hx hb dX3_byteNow_2 (by decide) ?_
  refine lv_idiv hx hb dX3_byteNow_4 (by decide) ?_
  refine cx_vi (As := [.int (x1 / 16)]) (rest := []) ⟨hx, hb, hml, hown, hts⟩ hl.1 ok_sxE hE hK hP hD hS hA (cut_9 cI q0 u0) (c_X3_frameOf (l := l) (dC := dC) (dI := dI) (cI := cI) (q0 := q0) h) (cwV 1 hts gX3_byteNow_X3_frameOf rfl rfl rfl hdX3_frameOf ⟨Nat.le_of_ble_eq_true rfl, Nat.le_of_ble_eq_true rfl⟩) rfl rfl rfl rfl (Nat.le_of_ble_eq_true rfl) dX3_byteNow_5 rfl (fun r_1 _ H locs h hP hD hS => ?_)
  refine lv_istore_n (lv' := [(2, .int r_1), (0, .ref (q0 0)), (1, .int x1)]) hx hb dX3_byteNow_8 rfl hl (by decide) rfl (fun ls hl => ?_)
  refine lv_iload_n hx hb dX3_byteNow_9 rfl (lv_at hl 0 rfl) ?_
  refine lv_if_ge (tgt := 22) hx hb dX3_byteNow_10 (by decide) (fun cd => ?_) (fun cd => ?_)
  · have h := h.1 cd
    refine lv_aload_n hx hb dX3_byteNow_22 rfl (lv_at hl 1 rfl) ?_
    refine va_get (D := (dC, dI)) (ci := 3) (v := .ref (q0 6)) (C := RX3) (T := TX3) (N := 12) hx hb hts inX3_byteNow_3 hown hK hP 0 rfl rfl 7 (by decide) (hts _ kX3_byteNow_0) (fun _ h9 => h9) rfl dX3_byteNow_23 ?_
    refine lv_iload_n hx hb dX3_byteNow_26 rfl (lv_at hl 0 rfl) ?_
    refine lv_bipush (v := 16) hx hb dX3_byteNow_27 (by decide) ?_
    refine lv_imul hx hb dX3_byteNow_29 ?_
    refine lv_iload_n hx hb dX3_byteNow_30 rfl (lv_at hl 2 rfl) ?_
    refine lv_bipush (v := 16) hx hb dX3_byteNow_31 (by decide) ?_
    refine lv_irem hx hb dX3_byteNow_33 (by decide) ?_
    refine lv_iadd hx hb dX3_byteNow_34 ?_
    refine va_iald hx hb hK hP 6 0 rfl rfl h.1 dX3_byteNow_35 ?_
    have h := h.2
    exact hret _ _ _ _ _ () dX3_byteNow_36 (vp_nar_int _) h hP hD hS
  · have h := h.2 cd
    refine lv_aload_n hx hb dX3_byteNow_13 rfl (lv_at hl 1 rfl) ?_
    refine va_get (D := (dC, dI)) (ci := 3) (v := .ref (q0 1)) (C := RX3) (T := TX3) (N := 12) hx hb hts inX3_byteNow_3 hown hK hP 0 rfl rfl 0 (by decide) (hts _ kX3_byteNow_1) (fun _ h9 => h9) rfl dX3_byteNow_14 ?_
    refine lv_iload_n hx hb dX3_byteNow_17 rfl (lv_at hl 2 rfl) ?_
    refine va_iald hx hb hK hP 1 0 rfl rfl h.1 dX3_byteNow_18 ?_
    have h := h.2
    refine lv_goto (tgt := 36) hx hb dX3_byteNow_19 (by decide) ?_
    exact hret _ _ _ _ _ () dX3_byteNow_36 (vp_nar_int _) h hP hD hS

abbrev rX3_frameToTake : Room := { frames := 0, cells := 0, slots := 0, locals := 0 }
theorem hdX3_frameToTake : yX3_frameToTake.cls = RX3 ∧ yX3_frameToTake.cls ≠ "java/lang/invoke/MethodHandle" ∧ yX3_frameToTake.cls ≠ "java/lang/invoke/VarHandle" ∧ (parseMethodDescriptor yX3_frameToTake.desc).map (fun d => d.parameters.length) = some 0 := by decide +kernel
theorem inX3_frameToTake_3 : ∀ w ∈ wsX30, w ∈ wsX3_frameToTake := by decide +kernel
theorem kX3_frameToTake_0 : Cond.fieldLink RX3 43 "AheadStore$Pages" "uses" "[I" ∈ wsX3_frameToTake := by decide +kernel
theorem kX3_frameToTake_1 : Cond.fieldLink RX3 31 "AheadStore$Pages" "held" "[I" ∈ wsX3_frameToTake := by decide +kernel
theorem kX3_frameToTake_2 : Cond.fieldLink RX3 28 "AheadStore$Pages" "frameCount" "I" ∈ wsX3_frameToTake := by decide +kernel
set_option maxHeartbeats 4000000 in
set_option maxRecDepth 100000 in
theorem c_X3_frameToTake {l : Launch} {dC : Nat → ClassId} {dI : Nat → Nat → Nat} {cI : ClassId} {q0 : Nat → Nat} {sz : Nat} {u0 : S3}  {Q : Int32 → Prop} (h : wp_X3_frameToTake u0 Q) : ctI sxE l yX3_frameToTake wsX3_frameToTake rX3_frameToTake (dC, dI) vwCl [(cI, .int)] [.ref (q0 0)] (cs3 cI q0 u0) sz (fun (r : Int32) (_ : Unit) => Q r) (fun (_ : Unit) => cs3 cI q0 u0) := by
  refine mx_i (cc := cX3_frameToTake) (maxL := 3) (ty := .int) (by decide) rfl (Nat.le_of_ble_eq_true rfl) ?_
  intro p e s m below meth c Z A ls args hx hb hml hown hts hA hP hK hD hE hl hret
  have hown : s.vm.findClass RX3 = some m.cls := hown
  have hl : lv_has ls 3 [(0, .ref (q0 0))] := hl
  have w_47 : ∀ (k_4 : Int32 → Int32 → Prop) (hk_4 : ∀ (x1 : Int32) (x2 : Int32) (H : Heap) (locs : List Loc) (ls : Array Slot) (_ : va_P (dC, dI) vwCl (cs3 cI q0 u0) H) (_ : va_D A (cs3 cI q0 u0)) (_ : va_S A s.heap H locs) (_ : lv_has ls 3 [(0, .ref (q0 0)), (1, .int x1), (2, .int x2)]) (_ : k_4 x1 x2), W p l e rX3_frameToTake s m args below meth c H locs 0 0 Z (F0 m 4 ls [])) (x1 : Int32) (x2 : Int32) (H : Heap) (locs : List Loc) (ls : Array Slot) (_ : va_P (dC, dI) vwCl (cs3 cI q0 u0) H) (_ : va_D A (cs3 cI q0 u0)) (_ : va_S A s.heap H locs) (_ : lv_has ls 3 [(0, .ref (q0 0)), (1, .int x1), (2, .int x2)]) (_ : wp_X3_frameToTake_47 u0 k_4 Q x1 x2), W p l e rX3_frameToTake s m args below meth c H locs 0 0 Z (F0 m 47 ls []) := by
    intro k_4 hk_4 x1 x2 H locs ls hP hD hS hl h
    obtain ⟨x2_1, e_x2_1⟩ : ∃ z : Int32, z = x2 + 1 := ⟨_, rfl⟩
    have h := h x2_1 e_x2_1
    refine lv_iinc (v := x2_1) (lv' := [(2, .int x2_1), (0, .ref (q0 0)), (1, .int x1)]) hx hb dX3_frameToTake_47 hl (k := 2) rfl (by rw [e_x2_1]; rfl) (by decide) rfl (fun ls hl => ?_)
    refine lv_goto (tgt := 4) hx hb dX3_frameToTake_50 (by decide) ?_
    exact hk_4 x1 x2_1 _ _ _ hP hD hS (lv_sub hl [1, 2, 0] rfl) h
  have w_4 : ∀ (n : Nat) (x1 : Int32) (x2 : Int32) (H : Heap) (locs : List Loc) (ls : Array Slot) (_ : va_P (dC, dI) vwCl (cs3 cI q0 u0) H) (_ : va_D A (cs3 cI q0 u0)) (_ : va_S A s.heap H locs) (_ : lv_has ls 3 [(0, .ref (q0 0)), (1, .int x1), (2, .int x2)]) (_ : wp_X3_frameToTake_4 u0 Q n x1 x2), W p l e rX3_frameToTake s m args below meth c H locs 0 0 Z (F0 m 4 ls []) := by
    intro n
    induction n with
    | zero => intro x1 x2 H locs ls hP hD hS hl h; exact False.elim h
    | succ n ih =>
      intro x1 x2 H locs ls hP hD hS hl h
      refine lv_iload_n hx hb dX3_frameToTake_4 rfl (lv_at hl 2 rfl) ?_
      refine lv_aload_n hx hb dX3_frameToTake_5 rfl (lv_at hl 0 rfl) ?_
      refine va_get (D := (dC, dI)) (ci := 3) (v := .int (g3_frameCount u0)) (C := RX3) (T := TX3) (N := 12) hx hb hts inX3_frameToTake_3 hown hK hP 0 rfl rfl 5 (by decide) (hts _ kX3_frameToTake_2) (fun _ h9 => h9) rfl dX3_frameToTake_6 ?_
      refine lv_icmp_ge (tgt := 53) hx hb dX3_frameToTake_9 (by decide) (fun cd => ?_) (fun cd => ?_)
      · have h := h.1 cd
        refine lv_iload_n hx hb dX3_frameToTake_53 rfl (lv_at hl 1 rfl) ?_
        exact hret _ _ _ _ _ () dX3_frameToTake_54 (vp_nar_int _) h hP hD hS
      · have h := h.2 cd
        refine lv_iload_n hx hb dX3_frameToTake_12 rfl (lv_at hl 2 rfl) ?_
        refine lv_bipush (v := 8) hx hb dX3_frameToTake_13 (by decide) ?_
        refine lv_icmp_ge (tgt := 53) hx hb dX3_frameToTake_15 (by decide) (fun cd => ?_) (fun cd => ?_)
        · have h := h.1 cd
          refine lv_iload_n hx hb dX3_frameToTake_53 rfl (lv_at hl 1 rfl) ?_
          exact hret _ _ _ _ _ () dX3_frameToTake_54 (vp_nar_int _) h hP hD hS
        · have h := h.2 cd
          refine lv_aload_n hx hb dX3_frameToTake_18 rfl (lv_at hl 0 rfl) ?_
          refine va_get (D := (dC, dI)) (ci := 3) (v := .ref (q0 5)) (C := RX3) (T := TX3) (N := 12) hx hb hts inX3_frameToTake_3 hown hK hP 0 rfl rfl 6 (by decide) (hts _ kX3_frameToTake_1) (fun _ h9 => h9) rfl dX3_frameToTake_19 ?_
          refine lv_iload_n hx hb dX3_frameToTake_22 rfl (lv_at hl 2 rfl) ?_
          refine va_iald hx hb hK hP 5 0 rfl rfl h.1 dX3_frameToTake_23 ?_
          have h := h.2
          refine lv_iconst (v := (-1)) hx hb dX3_frameToTake_24 (by decide) ?_
          refine lv_icmp_ne (tgt := 30) hx hb dX3_frameToTake_25 (by decide) (fun cd => ?_) (fun cd => ?_)
          · have h := h.2 cd
            refine lv_aload_n hx hb dX3_frameToTake_30 rfl (lv_at hl 0 rfl) ?_
            refine va_get (D := (dC, dI)) (ci := 3) (v := .ref (q0 9)) (C := RX3) (T := TX3) (N := 12) hx hb hts inX3_frameToTake_3 hown hK hP 0 rfl rfl 10 (by decide) (hts _ kX3_frameToTake_0) (fun _ h9 => h9) rfl dX3_frameToTake_31 ?_
            refine lv_iload_n hx hb dX3_frameToTake_34 rfl (lv_at hl 2 rfl) ?_
            refine va_iald hx hb hK hP 9 0 rfl rfl h.1 dX3_frameToTake_35 ?_
            have h := h.2
            refine lv_aload_n hx hb dX3_frameToTake_36 rfl (lv_at hl 0 rfl) ?_
            refine va_get (D := (dC, dI)) (ci := 3) (v := .ref (q0 9)) (C := RX3) (T := TX3) (N := 12) hx hb hts inX3_frameToTake_3 hown hK hP 0 rfl rfl 10 (by decide) (hts _ kX3_frameToTake_0) (fun _ h9 => h9) rfl dX3_frameToTake_37 ?_
            refine lv_iload_n hx hb dX3_frameToTake_40 rfl (lv_at hl 1 rfl) ?_
            refine va_iald hx hb hK hP 9 0 rfl rfl h.1 dX3_frameToTake_41 ?_
            have h := h.2
            refine lv_icmp_ge (tgt := 47) hx hb dX3_frameToTake_42 (by decide) (fun cd => ?_) (fun cd => ?_)
            · have h := h.1 cd
              exact w_47 (fun x1 x2 => wp_X3_frameToTake_4 u0 Q n x1 x2) (fun x1 x2 H locs ls hP hD hS hl h => ih x1 x2 H locs ls hP hD hS hl h) x1 x2 _ _ _ hP hD hS (lv_sub hl [0, 1, 2] rfl) h
            · have h := h.2 cd
              refine lv_iload_n hx hb dX3_frameToTake_45 rfl (lv_at hl 2 rfl) ?_
              refine lv_istore_n (lv' := [(1, .int x2), (0, .ref (q0 0)), (2, .int x2)]) hx hb dX3_frameToTake_46 rfl hl (by decide) rfl (fun ls hl => ?_)
              exact w_47 (fun x1 x2 => wp_X3_frameToTake_4 u0 Q n x1 x2) (fun x1 x2 H locs ls hP hD hS hl h => ih x1 x2 H locs ls hP hD hS hl h) x2 x2 _ _ _ hP hD hS (lv_sub hl [1, 0, 2] rfl) h
          · have h := h.1 cd
            refine lv_iload_n hx hb dX3_frameToTake_28 rfl (lv_at hl 2 rfl) ?_
            exact hret _ _ _ _ _ () dX3_frameToTake_29 (vp_nar_int _) h hP hD hS
  have hS : va_S A s.heap s.heap [] := va_S.rf
  refine lv_iconst (v := 0) hx hb dX3_frameToTake_0 (by decide) ?_
  refine lv_istore_n (lv' := [(1, .int 0), (0, .ref (q0 0))]) hx hb dX3_frameToTake_1 rfl hl (by decide) rfl (fun ls hl => ?_)
  refine lv_iconst (v := 0) hx hb dX3_frameToTake_2 (by decide) ?_
  refine lv_istore_n (lv' := [(2, .int 0), (1, .int 0), (0, .ref (q0 0))]) hx hb dX3_frameToTake_3 rfl hl (by decide) rfl (fun ls hl => ?_)
  obtain ⟨n0, h⟩ := h
  exact w_4 n0 0 0 _ _ _ hP hD hS (lv_sub hl [2, 1, 0] rfl) h

set_option maxRecDepth 100000 in
theorem cut_10 (cI : ClassId) (q0 : Nat → Nat) (q1 : Nat → Nat) (u0 : S3) (u1 : S2) : Cut (cs3 cI q0 u0 ++ cs2 cI q1 u1) (cs2 cI q1 u1) (fun v : S2 => cs2 cI q1 v) (fun v : S2 => (cs3 cI q0 u0 ++ cs2 cI q1 v)) := ⟨[10, 11], [0, 1, 2, 3, 4, 5, 6, 7, 8, 9], rfl, rfl, rfl, by decide, by decide, fun v => ⟨[0, 1, 2, 3, 4, 5, 6, 7, 8, 9, 10, 11], rfl, rfl⟩⟩

set_option maxRecDepth 100000 in
theorem cut_11 (cI : ClassId) (q0 : Nat → Nat) (q1 : Nat → Nat) (u0 : S3) (u1 : S2) : Cut (cs3 cI q0 u0 ++ cs2 cI q1 u1) (([] : va_W)) (fun _ : Unit => ([] : va_W)) (fun _ : Unit => (cs3 cI q0 u0 ++ cs2 cI q1 u1)) := ⟨[], [0, 1, 2, 3, 4, 5, 6, 7, 8, 9, 10, 11], rfl, rfl, rfl, by decide, by decide, fun _ => ⟨[0, 1, 2, 3, 4, 5, 6, 7, 8, 9, 10, 11], rfl, rfl⟩⟩

abbrev rX3_writeOut : Room := { frames := 2, cells := 0, slots := 0, locals := 43 }
theorem hdX3_writeOut : yX3_writeOut.cls = RX3 ∧ yX3_writeOut.cls ≠ "java/lang/invoke/MethodHandle" ∧ yX3_writeOut.cls ≠ "java/lang/invoke/VarHandle" ∧ (parseMethodDescriptor yX3_writeOut.desc).map (fun d => d.parameters.length) = some 2 := by decide +kernel
theorem inX3_writeOut_3 : ∀ w ∈ wsX30, w ∈ wsX3_writeOut := by decide +kernel
theorem kX3_writeOut_0 : Cond.fieldLink RX3 40 "AheadStore$Pages" "recs" "[I" ∈ wsX3_writeOut := by decide +kernel
theorem kX3_writeOut_1 : Cond.fieldLink RX3 37 "AheadStore$Pages" "stamps" "[I" ∈ wsX3_writeOut := by decide +kernel
theorem kX3_writeOut_2 : Cond.fieldLink RX3 15 "AheadStore$Pages" "diskStamps" "[I" ∈ wsX3_writeOut := by decide +kernel
theorem kX3_writeOut_3 : Cond.methodLink RX3 67 arraycopyName ∈ wsX3_writeOut := by decide +kernel
theorem kX3_writeOut_4 : Cond.native arraycopyName ∈ wsX3_writeOut := by decide +kernel
theorem kX3_writeOut_5 : Cond.static arraycopyName ∈ wsX3_writeOut := by decide +kernel
theorem kX3_writeOut_6 : Cond.initialized "java/lang/System" ∈ wsX3_writeOut := by decide +kernel
theorem kX3_writeOut_7 : Cond.fieldLink RX3 9 "AheadStore$Pages" "disk" "[I" ∈ wsX3_writeOut := by decide +kernel
theorem kX3_writeOut_8 : Cond.fieldLink RX3 34 "AheadStore$Pages" "copies" "[I" ∈ wsX3_writeOut := by decide +kernel
theorem kX3_writeOut_9 : Cond.initialized RX10 ∈ wsX3_writeOut := by decide +kernel
theorem kX3_writeOut_10 : Cond.static yX10_isPage ∈ wsX3_writeOut := by decide +kernel
theorem kX3_writeOut_11 : Cond.fieldLink RX3 31 "AheadStore$Pages" "held" "[I" ∈ wsX3_writeOut := by decide +kernel
set_option maxHeartbeats 4000000 in
set_option maxRecDepth 100000 in
theorem c_X3_writeOut {l : Launch} {dC : Nat → ClassId} {dI : Nat → Nat → Nat} {cI : ClassId} {q0 : Nat → Nat} {q1 : Nat → Nat} {sz : Nat} {u0 : S3} {u1 : S2} {x1 : Int32} {Q : S3 → S2 → Prop} (h : wp_X3_writeOut u0 u1 x1 Q) : ctV sxE l yX3_writeOut wsX3_writeOut rX3_writeOut (dC, dI) vwCl [(cI, .int)] [.ref (q0 0), .int x1, .ref (q1 0)] (cs3 cI q0 u0 ++ cs2 cI q1 u1) sz (fun (v : S3 × S2) => Q v.1 v.2) (fun (v : S3 × S2) => (cs3 cI q0 v.1 ++ cs2 cI q1 v.2)) := by
  refine mx_v (cc := cX3_writeOut) (maxL := 4) (by decide) rfl (Nat.le_of_ble_eq_true rfl) ?_
  intro p e s m below meth c Z A ls args hx hb hml hown hts hA hP hK hD hE hl hret
  have hown : s.vm.findClass RX3 = some m.cls := hown
  have hl : lv_has ls 4 [(0, .ref (q0 0)), (1, .int x1), (2, .ref (q1 0))] := hl
  have hS : va_S A s.heap s.heap [] := va_S.rf
  refine lv_aload_n hx hb dX3_writeOut_0 rfl (lv_at hl 0 rfl) ?_
  refine va_get (D := (dC, dI)) (ci := 3) (v := .ref (q0 5)) (C := RX3) (T := TX3) (N := 12) hx hb hts inX3_writeOut_3 hown hK hP 0 rfl rfl 6 (by decide) (hts _ kX3_writeOut_11) (fun _ h9 => h9) rfl dX3_writeOut_1 ?_
  refine lv_iload_n hx hb dX3_writeOut_4 rfl (lv_at hl 1 rfl) ?_
  refine va_iald hx hb hK hP 5 0 rfl rfl h.1 dX3_writeOut_5 ?_
  have h := h.2
  refine lv_topi (fun x3_1 e_x3_1 => ?_)
  have h := h x3_1 e_x3_1
  refine lv_istore_n (lv' := [(3, .int x3_1), (0, .ref (q0 0)), (1, .int x1), (2, .ref (q1 0))]) hx hb dX3_writeOut_6 rfl hl (by decide) rfl (fun ls hl => ?_)
  refine lv_iload_n hx hb dX3_writeOut_7 rfl (lv_at hl 0 rfl) ?_
  refine cx_ni (As := [.int x3_1]) (rest := []) ⟨hx, hb, hml, hown, hts⟩ hl.1 ok_noE trivial hK hP hD hS hA (cut_11 cI q0 q1 u0 u1) (c_X10_isPage (l := l) (dC := dC) (dI := dI) (cI := cI) h) ⟨va_cnB 1 hts gX3_writeOut_X10_isPage_n73 rfl rfl rfl (hE.1.1 (RX3, 73, yX10_isPage, "AheadStore") (List.mem_of_getElem? (i := 5) rfl)) (hts _ kX3_writeOut_9) hdX10_isPage ⟨Nat.le_of_ble_eq_true rfl, Nat.le_of_ble_eq_true rfl⟩, hts _ kX3_writeOut_10, trivial⟩ rfl (Nat.le_of_ble_eq_true rfl) dX3_writeOut_8 rfl (fun r_2 _ H locs h hP hD hS => ?_)
  refine lv_if_ne (tgt := 15) hx hb dX3_writeOut_11 (by decide) (fun cd => ?_) (fun cd => ?_)
  · have h := h.2 cd
    refine lv_aload_n hx hb dX3_writeOut_15 rfl (lv_at hl 3 rfl) ?_
    refine lv_aload_n hx hb dX3_writeOut_16 rfl (lv_at hl 1 rfl) ?_
    refine va_get (D := (dC, dI)) (ci := 3) (v := .ref (q0 7)) (C := RX3) (T := TX3) (N := 12) hx hb hts inX3_writeOut_3 hown hK hP 0 rfl rfl 8 (by decide) (hts _ kX3_writeOut_1) (fun _ h9 => h9) rfl dX3_writeOut_17 ?_
    refine lv_iload_n hx hb dX3_writeOut_20 rfl (lv_at hl 2 rfl) ?_
    refine va_iald hx hb hK hP 7 0 rfl rfl h.1 dX3_writeOut_21 ?_
    have h := h.2
    refine cx_vv (As := [.int ((g3_stamps u0) x1.toNatClampNeg)]) (rest := []) ⟨hx, hb, hml, hown, hts⟩ hl.1 ok_sxE hE hK hP hD hS hA (cut_10 cI q0 q1 u0 u1) (c_X2_flushThrough (l := l) (dC := dC) (dI := dI) (cI := cI) (q0 := q1) h) (cwV 1 hts gX3_writeOut_X2_flushThrough rfl rfl rfl hdX2_flushThrough ⟨Nat.le_of_ble_eq_true rfl, Nat.le_of_ble_eq_true rfl⟩) rfl rfl rfl rfl (Nat.le_of_ble_eq_true rfl) dX3_writeOut_22 rfl (fun v_3 H locs h hP hD hS => ?_)
    have hP : va_P (dC, dI) vwCl (cs3 cI q0 u0 ++ cs2 cI q1 v_3) H :=  hP
    have hD : va_D A (cs3 cI q0 u0 ++ cs2 cI q1 v_3) :=  hD
    refine lv_aload_n hx hb dX3_writeOut_25 rfl (lv_at hl 1 rfl) ?_
    refine va_get (D := (dC, dI)) (ci := 3) (v := .ref (q0 6)) (C := RX3) (T := TX3) (N := 12) hx hb hts inX3_writeOut_3 hown hK hP 0 rfl rfl 7 (by decide) (hts _ kX3_writeOut_8) (fun _ h9 => h9) rfl dX3_writeOut_26 ?_
    refine lv_iload_n hx hb dX3_writeOut_29 rfl (lv_at hl 2 rfl) ?_
    refine lv_bipush (v := 16) hx hb dX3_writeOut_30 (by decide) ?_
    refine lv_imul hx hb dX3_writeOut_32 ?_
    refine lv_aload_n hx hb dX3_writeOut_33 rfl (lv_at hl 1 rfl) ?_
    refine va_get (D := (dC, dI)) (ci := 3) (v := .ref (q0 1)) (C := RX3) (T := TX3) (N := 12) hx hb hts inX3_writeOut_3 hown hK hP 0 rfl rfl 0 (by decide) (hts _ kX3_writeOut_7) (fun _ h9 => h9) rfl dX3_writeOut_34 ?_
    refine lv_iload_n hx hb dX3_writeOut_37 rfl (lv_at hl 0 rfl) ?_
    refine lv_bipush (v := 16) hx hb dX3_writeOut_38 (by decide) ?_
    refine lv_imul hx hb dX3_writeOut_40 ?_
    refine lv_bipush (v := 16) hx hb dX3_writeOut_41 (by decide) ?_
    refine va_copyi hx hb (hml.trans hl.1.symm) hown (hts _ kX3_writeOut_3) (hts _ kX3_writeOut_4) (hts _ kX3_writeOut_5) (hts _ kX3_writeOut_6) hK hP hD hS 6 1 0 0 (ty := .int) rfl rfl rfl rfl rfl h.1.1 h.1.2.1 h.1.2.2.1 h.1.2.2.2.1 h.1.2.2.2.2 (fun _ _ => rfl) (Nat.le_of_ble_eq_true rfl) (Nat.le_of_ble_eq_true rfl) dX3_writeOut_43 (fun H locs hP hD hS => ?_)
    have h := h.2
    obtain ⟨u0_4, e_u0_4⟩ : ∃ z, z = s3_disk u0 (va_cpy (g3_copies u0) (g3_disk u0) (x1 * 16).toNatClampNeg (x3_1 * 16).toNatClampNeg (16 : Int32).toNatClampNeg) := ⟨_, rfl⟩
    have h := h u0_4 e_u0_4
    have hP : va_P (dC, dI) vwCl (cs3 cI q0 u0_4 ++ cs2 cI q1 v_3) H := by rw [e_u0_4]; exact hP
    have hD : va_D A (cs3 cI q0 u0_4 ++ cs2 cI q1 v_3) := by rw [e_u0_4]; exact hD
    refine lv_aload_n hx hb dX3_writeOut_46 rfl (lv_at hl 1 rfl) ?_
    refine va_get (D := (dC, dI)) (ci := 3) (v := .ref (q0 2)) (C := RX3) (T := TX3) (N := 12) hx hb hts inX3_writeOut_3 hown hK hP 0 rfl rfl 1 (by decide) (hts _ kX3_writeOut_2) (fun _ h9 => h9) rfl dX3_writeOut_47 ?_
    refine lv_iload_n hx hb dX3_writeOut_50 rfl (lv_at hl 0 rfl) ?_
    refine lv_aload_n hx hb dX3_writeOut_51 rfl (lv_at hl 1 rfl) ?_
    refine va_get (D := (dC, dI)) (ci := 3) (v := .ref (q0 7)) (C := RX3) (T := TX3) (N := 12) hx hb hts inX3_writeOut_3 hown hK hP 0 rfl rfl 8 (by decide) (hts _ kX3_writeOut_1) (fun _ h9 => h9) rfl dX3_writeOut_52 ?_
    refine lv_iload_n hx hb dX3_writeOut_55 rfl (lv_at hl 2 rfl) ?_
    refine va_iald hx hb hK hP 7 0 rfl rfl h.1 dX3_writeOut_56 ?_
    have h := h.2
    refine va_iast hx hb hK hP hD hS 2 0 rfl rfl h.1 dX3_writeOut_57 (fun H locs hP hD hS => ?_)
    have h := h.2
    obtain ⟨u0_5, e_u0_5⟩ : ∃ z, z = s3_diskStamps u0_4 (upd (g3_diskStamps u0_4) x3_1.toNatClampNeg ((g3_stamps u0_4) x1.toNatClampNeg)) := ⟨_, rfl⟩
    have h := h u0_5 e_u0_5
    have hP : va_P (dC, dI) vwCl (cs3 cI q0 u0_5 ++ cs2 cI q1 v_3) H := by rw [e_u0_5]; exact hP
    have hD : va_D A (cs3 cI q0 u0_5 ++ cs2 cI q1 v_3) := by rw [e_u0_5]; exact hD
    refine lv_aload_n hx hb dX3_writeOut_58 rfl (lv_at hl 1 rfl) ?_
    refine va_get (D := (dC, dI)) (ci := 3) (v := .ref (q0 8)) (C := RX3) (T := TX3) (N := 12) hx hb hts inX3_writeOut_3 hown hK hP 0 rfl rfl 9 (by decide) (hts _ kX3_writeOut_0) (fun _ h9 => h9) rfl dX3_writeOut_59 ?_
    refine lv_iload_n hx hb dX3_writeOut_62 rfl (lv_at hl 2 rfl) ?_
    refine lv_iconst (v := 0) hx hb dX3_writeOut_63 (by decide) ?_
    refine va_iast hx hb hK hP hD hS 8 0 rfl rfl h.1 dX3_writeOut_64 (fun H locs hP hD hS => ?_)
    have h := h.2
    obtain ⟨u0_6, e_u0_6⟩ : ∃ z, z = s3_recs u0_5 (upd (g3_recs u0_5) x1.toNatClampNeg 0) := ⟨_, rfl⟩
    have h := h u0_6 e_u0_6
    have hP : va_P (dC, dI) vwCl (cs3 cI q0 u0_6 ++ cs2 cI q1 v_3) H := by rw [e_u0_6]; exact hP
    have hD : va_D A (cs3 cI q0 u0_6 ++ cs2 cI q1 v_3) := by rw [e_u0_6]; exact hD
    exact hret _ _ _ _ (u0_6, v_3) dX3_writeOut_65 h hP hD hS
  · have h := h.1 cd
    exact hret _ _ _ _ (u0, u1) dX3_writeOut_14 h hP hD hS

set_option maxRecDepth 100000 in
theorem cut_12 (cI : ClassId) (q0 : Nat → Nat) (q1 : Nat → Nat) (u0 : S3) (u1 : S2) : Cut (cs3 cI q0 u0 ++ cs2 cI q1 u1) (cs3 cI q0 u0 ++ cs2 cI q1 u1) (fun v : S3 × S2 => cs3 cI q0 v.1 ++ cs2 cI q1 v.2) (fun v : S3 × S2 => (cs3 cI q0 v.1 ++ cs2 cI q1 v.2)) := ⟨[0, 1, 2, 3, 4, 5, 6, 7, 8, 9, 10, 11], [], rfl, rfl, rfl, by decide, by decide, fun v => ⟨[0, 1, 2, 3, 4, 5, 6, 7, 8, 9, 10, 11], rfl, rfl⟩⟩

set_option maxRecDepth 100000 in
theorem cut_13 (cI : ClassId) (q0 : Nat → Nat) (q1 : Nat → Nat) (u0 : S3) (u1 : S2) : Cut (cs3 cI q0 u0 ++ cs2 cI q1 u1) (cs3 cI q0 u0) (fun _ : Unit => cs3 cI q0 u0) (fun _ : Unit => (cs3 cI q0 u0 ++ cs2 cI q1 u1)) := ⟨[0, 1, 2, 3, 4, 5, 6, 7, 8, 9], [10, 11], rfl, rfl, rfl, by decide, by decide, fun _ => ⟨[2, 3, 4, 5, 6, 7, 8, 9, 10, 11, 0, 1], rfl, rfl⟩⟩

abbrev rX3_fetch : Room := { frames := 3, cells := 0, slots := 0, locals := 66 }
theorem hdX3_fetch : yX3_fetch.cls = RX3 ∧ yX3_fetch.cls ≠ "java/lang/invoke/MethodHandle" ∧ yX3_fetch.cls ≠ "java/lang/invoke/VarHandle" ∧ (parseMethodDescriptor yX3_fetch.desc).map (fun d => d.parameters.length) = some 2 := by decide +kernel
theorem inX3_fetch_3 : ∀ w ∈ wsX30, w ∈ wsX3_fetch := by decide +kernel
theorem kX3_fetch_0 : Cond.fieldLink RX3 46 "AheadStore$Pages" "clock" "I" ∈ wsX3_fetch := by decide +kernel
theorem kX3_fetch_1 : Cond.fieldLink RX3 43 "AheadStore$Pages" "uses" "[I" ∈ wsX3_fetch := by decide +kernel
theorem kX3_fetch_2 : Cond.fieldLink RX3 15 "AheadStore$Pages" "diskStamps" "[I" ∈ wsX3_fetch := by decide +kernel
theorem kX3_fetch_3 : Cond.fieldLink RX3 37 "AheadStore$Pages" "stamps" "[I" ∈ wsX3_fetch := by decide +kernel
theorem kX3_fetch_4 : Cond.fieldLink RX3 31 "AheadStore$Pages" "held" "[I" ∈ wsX3_fetch := by decide +kernel
theorem kX3_fetch_5 : Cond.methodLink RX3 67 arraycopyName ∈ wsX3_fetch := by decide +kernel
theorem kX3_fetch_6 : Cond.native arraycopyName ∈ wsX3_fetch := by decide +kernel
theorem kX3_fetch_7 : Cond.static arraycopyName ∈ wsX3_fetch := by decide +kernel
theorem kX3_fetch_8 : Cond.initialized "java/lang/System" ∈ wsX3_fetch := by decide +kernel
theorem kX3_fetch_9 : Cond.fieldLink RX3 34 "AheadStore$Pages" "copies" "[I" ∈ wsX3_fetch := by decide +kernel
theorem kX3_fetch_10 : Cond.fieldLink RX3 9 "AheadStore$Pages" "disk" "[I" ∈ wsX3_fetch := by decide +kernel
theorem kX3_fetch_11 : Cond.fieldLink RX3 40 "AheadStore$Pages" "recs" "[I" ∈ wsX3_fetch := by decide +kernel
set_option maxHeartbeats 4000000 in
set_option maxRecDepth 100000 in
theorem c_X3_fetch {l : Launch} {dC : Nat → ClassId} {dI : Nat → Nat → Nat} {cI : ClassId} {q0 : Nat → Nat} {q1 : Nat → Nat} {sz : Nat} {u0 : S3} {u1 : S2} {x1 : Int32} {Q : Int32 → S3 → S2 → Prop} (h : wp_X3_fetch u0 u1 x1 Q) : ctI sxE l yX3_fetch wsX3_fetch rX3_fetch (dC, dI) vwCl [(cI, .int)] [.ref (q0 0), .int x1, .ref (q1 0)] (cs3 cI q0 u0 ++ cs2 cI q1 u1) sz (fun (r : Int32) (v : S3 × S2) => Q r v.1 v.2) (fun (v : S3 × S2) => (cs3 cI q0 v.1 ++ cs2 cI q1 v.2)) := by
  refine mx_i (cc := cX3_fetch) (maxL := 4) (ty := .int) (by decide) rfl (Nat.le_of_ble_eq_true rfl) ?_
  intro p e s m below meth c Z A ls args hx hb hml hown hts hA hP hK hD hE hl hret
  have hown : s.vm.findClass RX3 = some m.cls := hown
  have hl : lv_has ls 4 [(0, .ref (q0 0)), (1, .int x1), (2, .ref (q1 0))] := hl
  have w_70 : ∀ (x3 : Int32) (u0 : S3) (u1 : S2) (H : Heap) (locs : List Loc) (ls : Array Slot) (_ : va_P (dC, dI) vwCl (cs3 cI q0 u0 ++ cs2 cI q1 u1) H) (_ : va_D A (cs3 cI q0 u0 ++ cs2 cI q1 u1)) (_ : va_S A s.heap H locs) (_ : lv_has ls 4 [(0, .ref (q0 0)), (3, .int x3)]) (_ : wp_X3_fetch_70 Q x3 u0 u1), W p l e rX3_fetch s m args below meth c H locs 0 0 Z (F0 m 70 ls []) := by
    intro x3 u0 u1 H locs ls hP hD hS hl h
    refine lv_aload_n hx hb dX3_fetch_70 rfl (lv_at hl 0 rfl) ?_
    refine lv_dup hx hb dX3_fetch_71 rfl ?_
    refine va_get (D := (dC, dI)) (ci := 3) (v := .int (g3_clock u0)) (C := RX3) (T := TX3) (N := 12) hx hb hts inX3_fetch_3 hown hK hP 0 rfl rfl 11 (by decide) (hts _ kX3_fetch_0) (fun _ h9 => h9) rfl dX3_fetch_72 ?_
    refine lv_iconst (v := 1) hx hb dX3_fetch_75 (by decide) ?_
    refine lv_iadd hx hb dX3_fetch_76 ?_
    refine va_put (D := (dC, dI)) (ci := 3) (v := .int ((g3_clock u0) + 1)) (ty := .int) (C := RX3) (T := TX3) (N := 12) hx hb hts inX3_fetch_3 tyX3 tyX3_ok nmX3 hown hK hP hD hS 0 rfl rfl 11 (by decide) (hts _ kX3_fetch_0) (fun _ h9 => h9) rfl (tyX3_ok 11 (by decide)) rfl rfl (Nat.le_of_ble_eq_true rfl) dX3_fetch_77 (fun H locs hP hD hS => ?_)
    obtain ⟨u0_1, e_u0_1⟩ : ∃ z, z = s3_clock u0 ((g3_clock u0) + 1) := ⟨_, rfl⟩
    have h := h u0_1 e_u0_1
    have hP : va_P (dC, dI) vwCl (cs3 cI q0 u0_1 ++ cs2 cI q1 u1) H := by rw [e_u0_1]; exact hP
    have hD : va_D A (cs3 cI q0 u0_1 ++ cs2 cI q1 u1) := by rw [e_u0_1]; exact hD
    refine lv_aload_n hx hb dX3_fetch_80 rfl (lv_at hl 0 rfl) ?_
    refine va_get (D := (dC, dI)) (ci := 3) (v := .ref (q0 9)) (C := RX3) (T := TX3) (N := 12) hx hb hts inX3_fetch_3 hown hK hP 0 rfl rfl 10 (by decide) (hts _ kX3_fetch_1) (fun _ h9 => h9) rfl dX3_fetch_81 ?_
    refine lv_iload_n hx hb dX3_fetch_84 rfl (lv_at hl 1 rfl) ?_
    refine lv_aload_n hx hb dX3_fetch_85 rfl (lv_at hl 0 rfl) ?_
    refine va_get (D := (dC, dI)) (ci := 3) (v := .int (g3_clock u0_1)) (C := RX3) (T := TX3) (N := 12) hx hb hts inX3_fetch_3 hown hK hP 0 rfl rfl 11 (by decide) (hts _ kX3_fetch_0) (fun _ h9 => h9) rfl dX3_fetch_86 ?_
    refine va_iast hx hb hK hP hD hS 9 0 rfl rfl h.1 dX3_fetch_89 (fun H locs hP hD hS => ?_)
    have h := h.2
    obtain ⟨u0_2, e_u0_2⟩ : ∃ z, z = s3_uses u0_1 (upd (g3_uses u0_1) x3.toNatClampNeg (g3_clock u0_1)) := ⟨_, rfl⟩
    have h := h u0_2 e_u0_2
    have hP : va_P (dC, dI) vwCl (cs3 cI q0 u0_2 ++ cs2 cI q1 u1) H := by rw [e_u0_2]; exact hP
    have hD : va_D A (cs3 cI q0 u0_2 ++ cs2 cI q1 u1) := by rw [e_u0_2]; exact hD
    refine lv_iload_n hx hb dX3_fetch_90 rfl (lv_at hl 1 rfl) ?_
    exact hret _ _ _ _ _ (u0_2, u1) dX3_fetch_91 (vp_nar_int _) h hP hD hS
  have w_30 : ∀ (k_70 : Int32 → S3 → S2 → Prop) (hk_70 : ∀ (x3 : Int32) (u0 : S3) (u1 : S2) (H : Heap) (locs : List Loc) (ls : Array Slot) (_ : va_P (dC, dI) vwCl (cs3 cI q0 u0 ++ cs2 cI q1 u1) H) (_ : va_D A (cs3 cI q0 u0 ++ cs2 cI q1 u1)) (_ : va_S A s.heap H locs) (_ : lv_has ls 4 [(0, .ref (q0 0)), (3, .int x3)]) (_ : k_70 x3 u0 u1), W p l e rX3_fetch s m args below meth c H locs 0 0 Z (F0 m 70 ls [])) (x1 : Int32) (x3 : Int32) (u0 : S3) (u1 : S2) (H : Heap) (locs : List Loc) (ls : Array Slot) (_ : va_P (dC, dI) vwCl (cs3 cI q0 u0 ++ cs2 cI q1 u1) H) (_ : va_D A (cs3 cI q0 u0 ++ cs2 cI q1 u1)) (_ : va_S A s.heap H locs) (_ : lv_has ls 4 [(0, .ref (q0 0)), (1, .int x1), (3, .int x3)]) (_ : wp_X3_fetch_30 k_70 Q x1 x3 u0 u1), W p l e rX3_fetch s m args below meth c H locs 0 0 Z (F0 m 30 ls []) := by
    intro k_70 hk_70 x1 x3 u0 u1 H locs ls hP hD hS hl h
    refine lv_aload_n hx hb dX3_fetch_30 rfl (lv_at hl 0 rfl) ?_
    refine va_get (D := (dC, dI)) (ci := 3) (v := .ref (q0 1)) (C := RX3) (T := TX3) (N := 12) hx hb hts inX3_fetch_3 hown hK hP 0 rfl rfl 0 (by decide) (hts _ kX3_fetch_10) (fun _ h9 => h9) rfl dX3_fetch_31 ?_
    refine lv_iload_n hx hb dX3_fetch_34 rfl (lv_at hl 1 rfl) ?_
    refine lv_bipush (v := 16) hx hb dX3_fetch_35 (by decide) ?_
    refine lv_imul hx hb dX3_fetch_37 ?_
    refine lv_aload_n hx hb dX3_fetch_38 rfl (lv_at hl 0 rfl) ?_
    refine va_get (D := (dC, dI)) (ci := 3) (v := .ref (q0 6)) (C := RX3) (T := TX3) (N := 12) hx hb hts inX3_fetch_3 hown hK hP 0 rfl rfl 7 (by decide) (hts _ kX3_fetch_9) (fun _ h9 => h9) rfl dX3_fetch_39 ?_
    refine lv_iload_n hx hb dX3_fetch_42 rfl (lv_at hl 2 rfl) ?_
    refine lv_bipush (v := 16) hx hb dX3_fetch_43 (by decide) ?_
    refine lv_imul hx hb dX3_fetch_45 ?_
    refine lv_bipush (v := 16) hx hb dX3_fetch_46 (by decide) ?_
    refine va_copyi hx hb (hml.trans hl.1.symm) hown (hts _ kX3_fetch_5) (hts _ kX3_fetch_6) (hts _ kX3_fetch_7) (hts _ kX3_fetch_8) hK hP hD hS 1 6 0 0 (ty := .int) rfl rfl rfl rfl rfl h.1.1 h.1.2.1 h.1.2.2.1 h.1.2.2.2.1 h.1.2.2.2.2 (fun _ _ => rfl) (Nat.le_of_ble_eq_true rfl) (Nat.le_of_ble_eq_true rfl) dX3_fetch_48 (fun H locs hP hD hS => ?_)
    have h := h.2
    obtain ⟨u0_3, e_u0_3⟩ : ∃ z, z = s3_copies u0 (va_cpy (g3_disk u0) (g3_copies u0) (x1 * 16).toNatClampNeg (x3 * 16).toNatClampNeg (16 : Int32).toNatClampNeg) := ⟨_, rfl⟩
    have h := h u0_3 e_u0_3
    have hP : va_P (dC, dI) vwCl (cs3 cI q0 u0_3 ++ cs2 cI q1 u1) H := by rw [e_u0_3]; exact hP
    have hD : va_D A (cs3 cI q0 u0_3 ++ cs2 cI q1 u1) := by rw [e_u0_3]; exact hD
    refine lv_aload_n hx hb dX3_fetch_51 rfl (lv_at hl 0 rfl) ?_
    refine va_get (D := (dC, dI)) (ci := 3) (v := .ref (q0 5)) (C := RX3) (T := TX3) (N := 12) hx hb hts inX3_fetch_3 hown hK hP 0 rfl rfl 6 (by decide) (hts _ kX3_fetch_4) (fun _ h9 => h9) rfl dX3_fetch_52 ?_
    refine lv_iload_n hx hb dX3_fetch_55 rfl (lv_at hl 2 rfl) ?_
    refine lv_iload_n hx hb dX3_fetch_56 rfl (lv_at hl 1 rfl) ?_
    refine va_iast hx hb hK hP hD hS 5 0 rfl rfl h.1 dX3_fetch_57 (fun H locs hP hD hS => ?_)
    have h := h.2
    obtain ⟨u0_4, e_u0_4⟩ : ∃ z, z = s3_held u0_3 (upd (g3_held u0_3) x3.toNatClampNeg x1) := ⟨_, rfl⟩
    have h := h u0_4 e_u0_4
    have hP : va_P (dC, dI) vwCl (cs3 cI q0 u0_4 ++ cs2 cI q1 u1) H := by rw [e_u0_4]; exact hP
    have hD : va_D A (cs3 cI q0 u0_4 ++ cs2 cI q1 u1) := by rw [e_u0_4]; exact hD
    refine lv_aload_n hx hb dX3_fetch_58 rfl (lv_at hl 0 rfl) ?_
    refine va_get (D := (dC, dI)) (ci := 3) (v := .ref (q0 7)) (C := RX3) (T := TX3) (N := 12) hx hb hts inX3_fetch_3 hown hK hP 0 rfl rfl 8 (by decide) (hts _ kX3_fetch_3) (fun _ h9 => h9) rfl dX3_fetch_59 ?_
    refine lv_iload_n hx hb dX3_fetch_62 rfl (lv_at hl 2 rfl) ?_
    refine lv_aload_n hx hb dX3_fetch_63 rfl (lv_at hl 0 rfl) ?_
    refine va_get (D := (dC, dI)) (ci := 3) (v := .ref (q0 2)) (C := RX3) (T := TX3) (N := 12) hx hb hts inX3_fetch_3 hown hK hP 0 rfl rfl 1 (by decide) (hts _ kX3_fetch_2) (fun _ h9 => h9) rfl dX3_fetch_64 ?_
    refine lv_iload_n hx hb dX3_fetch_67 rfl (lv_at hl 1 rfl) ?_
    refine va_iald hx hb hK hP 2 0 rfl rfl h.1 dX3_fetch_68 ?_
    have h := h.2
    refine va_iast hx hb hK hP hD hS 7 0 rfl rfl h.1 dX3_fetch_69 (fun H locs hP hD hS => ?_)
    have h := h.2
    obtain ⟨u0_5, e_u0_5⟩ : ∃ z, z = s3_stamps u0_4 (upd (g3_stamps u0_4) x3.toNatClampNeg ((g3_diskStamps u0_4) x1.toNatClampNeg)) := ⟨_, rfl⟩
    have h := h u0_5 e_u0_5
    have hP : va_P (dC, dI) vwCl (cs3 cI q0 u0_5 ++ cs2 cI q1 u1) H := by rw [e_u0_5]; exact hP
    have hD : va_D A (cs3 cI q0 u0_5 ++ cs2 cI q1 u1) := by rw [e_u0_5]; exact hD
    exact hk_70 x3 u0_5 u1 _ _ _ hP hD hS (lv_sub hl [0, 2] rfl) h
  have hS : va_S A s.heap s.heap [] := va_S.rf
  refine lv_aload_n hx hb dX3_fetch_0 rfl (lv_at hl 0 rfl) ?_
  refine lv_iload_n hx hb dX3_fetch_1 rfl (lv_at hl 1 rfl) ?_
  refine cx_vi (As := [.int x1]) (rest := []) ⟨hx, hb, hml, hown, hts⟩ hl.1 ok_sxE hE hK hP hD hS hA (cut_13 cI q0 q1 u0 u1) (c_X3_frameOf (l := l) (dC := dC) (dI := dI) (cI := cI) (q0 := q0) h) (cwV 1 hts gX3_fetch_X3_frameOf rfl rfl rfl hdX3_frameOf ⟨Nat.le_of_ble_eq_true rfl, Nat.le_of_ble_eq_true rfl⟩) rfl rfl rfl rfl (Nat.le_of_ble_eq_true rfl) dX3_fetch_2 rfl (fun r_6 _ H locs h hP hD hS => ?_)
  refine lv_istore_n (lv' := [(3, .int r_6), (0, .ref (q0 0)), (1, .int x1), (2, .ref (q1 0))]) hx hb dX3_fetch_5 rfl hl (by decide) rfl (fun ls hl => ?_)
  refine lv_iload_n hx hb dX3_fetch_6 rfl (lv_at hl 0 rfl) ?_
  refine lv_if_ge (tgt := 70) hx hb dX3_fetch_7 (by decide) (fun cd => ?_) (fun cd => ?_)
  · have h := h.1 cd
    exact w_70 r_6 u0 u1 _ _ _ hP hD hS (lv_sub hl [1, 0] rfl) h
  · have h := h.2 cd
    refine lv_aload_n hx hb dX3_fetch_10 rfl (lv_at hl 1 rfl) ?_
    refine cx_vi (As := []) (rest := []) ⟨hx, hb, hml, hown, hts⟩ hl.1 ok_sxE hE hK hP hD hS hA (cut_13 cI q0 q1 u0 u1) (c_X3_frameToTake (l := l) (dC := dC) (dI := dI) (cI := cI) (q0 := q0) h) (cwV 0 hts gX3_fetch_X3_frameToTake rfl rfl rfl hdX3_frameToTake ⟨Nat.le_of_ble_eq_true rfl, Nat.le_of_ble_eq_true rfl⟩) rfl rfl rfl rfl (Nat.le_of_ble_eq_true rfl) dX3_fetch_11 rfl (fun r_7 _ H locs h hP hD hS => ?_)
    refine lv_istore_n (lv' := [(3, .int r_7), (0, .ref (q0 0)), (1, .int x1), (2, .ref (q1 0))]) hx hb dX3_fetch_14 rfl hl (by decide) rfl (fun ls hl => ?_)
    refine lv_aload_n hx hb dX3_fetch_15 rfl (lv_at hl 1 rfl) ?_
    refine va_get (D := (dC, dI)) (ci := 3) (v := .ref (q0 8)) (C := RX3) (T := TX3) (N := 12) hx hb hts inX3_fetch_3 hown hK hP 0 rfl rfl 9 (by decide) (hts _ kX3_fetch_11) (fun _ h9 => h9) rfl dX3_fetch_16 ?_
    refine lv_iload_n hx hb dX3_fetch_19 rfl (lv_at hl 0 rfl) ?_
    refine va_iald hx hb hK hP 8 0 rfl rfl h.1 dX3_fetch_20 ?_
    have h := h.2
    refine lv_if_eq (tgt := 30) hx hb dX3_fetch_21 (by decide) (fun cd => ?_) (fun cd => ?_)
    · have h := h.1 cd
      exact w_30 (fun x3 u0 u1 => wp_X3_fetch_70 Q x3 u0 u1) (fun x3 u0 u1 H locs ls hP hD hS hl h => w_70 x3 u0 u1 H locs ls hP hD hS hl h) x1 r_7 u0 u1 _ _ _ hP hD hS (lv_sub hl [1, 2, 0] rfl) h
    · have h := h.2 cd
      refine lv_aload_n hx hb dX3_fetch_24 rfl (lv_at hl 1 rfl) ?_
      refine lv_iload_n hx hb dX3_fetch_25 rfl (lv_at hl 0 rfl) ?_
      refine lv_aload_n hx hb dX3_fetch_26 rfl (lv_at hl 3 rfl) ?_
      refine cx_vv (As := [.int r_7, .ref (q1 0)]) (rest := []) ⟨hx, hb, hml, hown, hts⟩ hl.1 ok_sxE hE hK hP hD hS hA (cut_12 cI q0 q1 u0 u1) (c_X3_writeOut (l := l) (dC := dC) (dI := dI) (cI := cI) (q0 := q0) (q1 := q1) h) (cwV 2 hts gX3_fetch_X3_writeOut rfl rfl rfl hdX3_writeOut ⟨Nat.le_of_ble_eq_true rfl, Nat.le_of_ble_eq_true rfl⟩) rfl rfl rfl rfl (Nat.le_of_ble_eq_true rfl) dX3_fetch_27 rfl (fun vv H locs h hP hD hS => ?_)
      obtain ⟨v_8, v_9⟩ := vv
      have hP : va_P (dC, dI) vwCl (cs3 cI q0 v_8 ++ cs2 cI q1 v_9) H :=  hP
      have hD : va_D A (cs3 cI q0 v_8 ++ cs2 cI q1 v_9) :=  hD
      exact w_30 (fun x3 u0 u1 => wp_X3_fetch_70 Q x3 u0 u1) (fun x3 u0 u1 H locs ls hP hD hS hl h => w_70 x3 u0 u1 H locs ls hP hD hS hl h) x1 r_7 v_8 v_9 _ _ _ hP hD hS (lv_sub hl [1, 2, 0] rfl) h

set_option maxRecDepth 100000 in
theorem cut_14 (cI : ClassId) (q0 : Nat → Nat) (q1 : Nat → Nat) (u0 : S3) (u1 : S2) : Cut (cs3 cI q0 u0 ++ cs2 cI q1 u1) (cs2 cI q1 u1) (fun _ : Unit => cs2 cI q1 u1) (fun _ : Unit => (cs3 cI q0 u0 ++ cs2 cI q1 u1)) := ⟨[10, 11], [0, 1, 2, 3, 4, 5, 6, 7, 8, 9], rfl, rfl, rfl, by decide, by decide, fun _ => ⟨[0, 1, 2, 3, 4, 5, 6, 7, 8, 9, 10, 11], rfl, rfl⟩⟩

abbrev rX3_doIn : Room := { frames := 2, cells := 0, slots := 0, locals := 43 }
theorem hdX3_doIn : yX3_doIn.cls = RX3 ∧ yX3_doIn.cls ≠ "java/lang/invoke/MethodHandle" ∧ yX3_doIn.cls ≠ "java/lang/invoke/VarHandle" ∧ (parseMethodDescriptor yX3_doIn.desc).map (fun d => d.parameters.length) = some 3 := by decide +kernel
theorem inX3_doIn_3 : ∀ w ∈ wsX30, w ∈ wsX3_doIn := by decide +kernel
theorem kX3_doIn_0 : Cond.fieldLink RX3 40 "AheadStore$Pages" "recs" "[I" ∈ wsX3_doIn := by decide +kernel
theorem kX3_doIn_1 : Cond.fieldLink RX3 37 "AheadStore$Pages" "stamps" "[I" ∈ wsX3_doIn := by decide +kernel
theorem kX3_doIn_2 : Cond.fieldLink RX3 34 "AheadStore$Pages" "copies" "[I" ∈ wsX3_doIn := by decide +kernel
set_option maxHeartbeats 4000000 in
set_option maxRecDepth 100000 in
theorem c_X3_doIn {l : Launch} {dC : Nat → ClassId} {dI : Nat → Nat → Nat} {cI : ClassId} {q0 : Nat → Nat} {q1 : Nat → Nat} {sz : Nat} {u0 : S3} {u1 : S2} {x1 : Int32} {x2 : Int32} {Q : S3 → Prop} (h : wp_X3_doIn u0 u1 x1 x2 Q) : ctV sxE l yX3_doIn wsX3_doIn rX3_doIn (dC, dI) vwCl [(cI, .int)] [.ref (q0 0), .int x1, .int x2, .ref (q1 0)] (cs3 cI q0 u0 ++ cs2 cI q1 u1) sz (fun (v : S3) => Q v) (fun (v : S3) => (cs3 cI q0 v ++ cs2 cI q1 u1)) := by
  refine mx_v (cc := cX3_doIn) (maxL := 5) (by decide) rfl (Nat.le_of_ble_eq_true rfl) ?_
  intro p e s m below meth c Z A ls args hx hb hml hown hts hA hP hK hD hE hl hret
  have hown : s.vm.findClass RX3 = some m.cls := hown
  have hl : lv_has ls 5 [(0, .ref (q0 0)), (1, .int x1), (2, .int x2), (3, .ref (q1 0))] := hl
  have hS : va_S A s.heap s.heap [] := va_S.rf
  refine lv_iload_n hx hb dX3_doIn_0 rfl (lv_at hl 1 rfl) ?_
  refine lv_bipush (v := 16) hx hb dX3_doIn_1 (by decide) ?_
  refine lv_imul hx hb dX3_doIn_3 ?_
  refine lv_aload_n hx hb dX3_doIn_4 rfl (lv_at hl 3 rfl) ?_
  refine lv_iload_n hx hb dX3_doIn_5 rfl (lv_at hl 2 rfl) ?_
  refine cx_vi (As := [.int x2]) (rest := [.int (x1 * 16)]) ⟨hx, hb, hml, hown, hts⟩ hl.1 ok_sxE hE hK hP hD hS hA (cut_14 cI q0 q1 u0 u1) (c_X2_addressAt (l := l) (dC := dC) (dI := dI) (cI := cI) (q0 := q1) h) (cwV 1 hts gX3_doIn_X2_addressAt rfl rfl rfl hdX2_addressAt ⟨Nat.le_of_ble_eq_true rfl, Nat.le_of_ble_eq_true rfl⟩) rfl rfl rfl rfl (Nat.le_of_ble_eq_true rfl) dX3_doIn_6 rfl (fun r_1 _ H locs h hP hD hS => ?_)
  refine lv_bipush (v := 16) hx hb dX3_doIn_9 (by decide) ?_
  refine lv_irem hx hb dX3_doIn_11 (by decide) ?_
  refine lv_iadd hx hb dX3_doIn_12 ?_
  refine lv_topi (fun x4_2 e_x4_2 => ?_)
  have h := h x4_2 e_x4_2
  refine lv_istore (lv' := [(4, .int x4_2), (0, .ref (q0 0)), (1, .int x1), (2, .int x2), (3, .ref (q1 0))]) hx hb dX3_doIn_13 hl (by decide) rfl (fun ls hl => ?_)
  refine lv_aload_n hx hb dX3_doIn_15 rfl (lv_at hl 1 rfl) ?_
  refine va_get (D := (dC, dI)) (ci := 3) (v := .ref (q0 6)) (C := RX3) (T := TX3) (N := 12) hx hb hts inX3_doIn_3 hown hK hP 0 rfl rfl 7 (by decide) (hts _ kX3_doIn_2) (fun _ h9 => h9) rfl dX3_doIn_16 ?_
  refine lv_iload hx hb dX3_doIn_19 (lv_at hl 0 rfl) ?_
  refine lv_aload_n hx hb dX3_doIn_21 rfl (lv_at hl 4 rfl) ?_
  refine lv_iload_n hx hb dX3_doIn_22 rfl (lv_at hl 3 rfl) ?_
  refine lv_aload_n hx hb dX3_doIn_23 rfl (lv_at hl 1 rfl) ?_
  refine va_get (D := (dC, dI)) (ci := 3) (v := .ref (q0 6)) (C := RX3) (T := TX3) (N := 12) hx hb hts inX3_doIn_3 hown hK hP 0 rfl rfl 7 (by decide) (hts _ kX3_doIn_2) (fun _ h9 => h9) rfl dX3_doIn_24 ?_
  refine lv_iload hx hb dX3_doIn_27 (lv_at hl 0 rfl) ?_
  refine va_iald hx hb hK hP 6 0 rfl rfl h.1 dX3_doIn_29 ?_
  have h := h.2
  refine cx_vi (As := [.int x2, .int ((g3_copies u0) x4_2.toNatClampNeg)]) (rest := [.int x4_2, .ref (q0 6)]) ⟨hx, hb, hml, hown, hts⟩ hl.1 ok_sxE hE hK hP hD hS hA (cut_14 cI q0 q1 u0 u1) (c_X2_done (l := l) (dC := dC) (dI := dI) (cI := cI) (q0 := q1) h) (cwV 2 hts gX3_doIn_X2_done rfl rfl rfl hdX2_done ⟨Nat.le_of_ble_eq_true rfl, Nat.le_of_ble_eq_true rfl⟩) rfl rfl rfl rfl (Nat.le_of_ble_eq_true rfl) dX3_doIn_30 rfl (fun r_3 _ H locs h hP hD hS => ?_)
  refine va_iast hx hb hK hP hD hS 6 0 rfl rfl h.1 dX3_doIn_33 (fun H locs hP hD hS => ?_)
  have h := h.2
  obtain ⟨u0_4, e_u0_4⟩ : ∃ z, z = s3_copies u0 (upd (g3_copies u0) x4_2.toNatClampNeg r_3) := ⟨_, rfl⟩
  have h := h u0_4 e_u0_4
  have hP : va_P (dC, dI) vwCl (cs3 cI q0 u0_4 ++ cs2 cI q1 u1) H := by rw [e_u0_4]; exact hP
  have hD : va_D A (cs3 cI q0 u0_4 ++ cs2 cI q1 u1) := by rw [e_u0_4]; exact hD
  refine lv_aload_n hx hb dX3_doIn_34 rfl (lv_at hl 1 rfl) ?_
  refine va_get (D := (dC, dI)) (ci := 3) (v := .ref (q0 7)) (C := RX3) (T := TX3) (N := 12) hx hb hts inX3_doIn_3 hown hK hP 0 rfl rfl 8 (by decide) (hts _ kX3_doIn_1) (fun _ h9 => h9) rfl dX3_doIn_35 ?_
  refine lv_iload_n hx hb dX3_doIn_38 rfl (lv_at hl 2 rfl) ?_
  refine lv_iload_n hx hb dX3_doIn_39 rfl (lv_at hl 3 rfl) ?_
  refine va_iast hx hb hK hP hD hS 7 0 rfl rfl h.1 dX3_doIn_40 (fun H locs hP hD hS => ?_)
  have h := h.2
  obtain ⟨u0_5, e_u0_5⟩ : ∃ z, z = s3_stamps u0_4 (upd (g3_stamps u0_4) x1.toNatClampNeg x2) := ⟨_, rfl⟩
  have h := h u0_5 e_u0_5
  have hP : va_P (dC, dI) vwCl (cs3 cI q0 u0_5 ++ cs2 cI q1 u1) H := by rw [e_u0_5]; exact hP
  have hD : va_D A (cs3 cI q0 u0_5 ++ cs2 cI q1 u1) := by rw [e_u0_5]; exact hD
  refine lv_aload_n hx hb dX3_doIn_41 rfl (lv_at hl 1 rfl) ?_
  refine va_get (D := (dC, dI)) (ci := 3) (v := .ref (q0 8)) (C := RX3) (T := TX3) (N := 12) hx hb hts inX3_doIn_3 hown hK hP 0 rfl rfl 9 (by decide) (hts _ kX3_doIn_0) (fun _ h9 => h9) rfl dX3_doIn_42 ?_
  refine lv_iload_n hx hb dX3_doIn_45 rfl (lv_at hl 2 rfl) ?_
  refine va_iald hx hb hK hP 8 0 rfl rfl h.1 dX3_doIn_46 ?_
  have h := h.2
  refine lv_if_ne (tgt := 57) hx hb dX3_doIn_47 (by decide) (fun cd => ?_) (fun cd => ?_)
  · have h := h.2 cd
    exact hret _ _ _ _ u0_5 dX3_doIn_57 h hP hD hS
  · have h := h.1 cd
    refine lv_aload_n hx hb dX3_doIn_50 rfl (lv_at hl 1 rfl) ?_
    refine va_get (D := (dC, dI)) (ci := 3) (v := .ref (q0 8)) (C := RX3) (T := TX3) (N := 12) hx hb hts inX3_doIn_3 hown hK hP 0 rfl rfl 9 (by decide) (hts _ kX3_doIn_0) (fun _ h9 => h9) rfl dX3_doIn_51 ?_
    refine lv_iload_n hx hb dX3_doIn_54 rfl (lv_at hl 2 rfl) ?_
    refine lv_iload_n hx hb dX3_doIn_55 rfl (lv_at hl 3 rfl) ?_
    refine va_iast hx hb hK hP hD hS 8 0 rfl rfl h.1 dX3_doIn_56 (fun H locs hP hD hS => ?_)
    have h := h.2
    obtain ⟨u0_6, e_u0_6⟩ : ∃ z, z = s3_recs u0_5 (upd (g3_recs u0_5) x1.toNatClampNeg x2) := ⟨_, rfl⟩
    have h := h u0_6 e_u0_6
    have hP : va_P (dC, dI) vwCl (cs3 cI q0 u0_6 ++ cs2 cI q1 u1) H := by rw [e_u0_6]; exact hP
    have hD : va_D A (cs3 cI q0 u0_6 ++ cs2 cI q1 u1) := by rw [e_u0_6]; exact hD
    exact hret _ _ _ _ u0_6 dX3_doIn_57 h hP hD hS

abbrev rX3_dump : Room := { frames := 1, cells := 0, slots := 0, locals := 40 }
theorem hdX3_dump : yX3_dump.cls = RX3 ∧ yX3_dump.cls ≠ "java/lang/invoke/MethodHandle" ∧ yX3_dump.cls ≠ "java/lang/invoke/VarHandle" ∧ (parseMethodDescriptor yX3_dump.desc).map (fun d => d.parameters.length) = some 1 := by decide +kernel
theorem inX3_dump_3 : ∀ w ∈ wsX30, w ∈ wsX3_dump := by decide +kernel
theorem kX3_dump_0 : Cond.fieldLink RX3 15 "AheadStore$Pages" "diskStamps" "[I" ∈ wsX3_dump := by decide +kernel
theorem kX3_dump_1 : Cond.fieldLink RX3 21 "AheadStore$Pages" "archiveStamps" "[I" ∈ wsX3_dump := by decide +kernel
theorem kX3_dump_2 : Cond.methodLink RX3 67 arraycopyName ∈ wsX3_dump := by decide +kernel
theorem kX3_dump_3 : Cond.native arraycopyName ∈ wsX3_dump := by decide +kernel
theorem kX3_dump_4 : Cond.static arraycopyName ∈ wsX3_dump := by decide +kernel
theorem kX3_dump_5 : Cond.initialized "java/lang/System" ∈ wsX3_dump := by decide +kernel
theorem kX3_dump_6 : Cond.fieldLink RX3 18 "AheadStore$Pages" "archive" "[I" ∈ wsX3_dump := by decide +kernel
theorem kX3_dump_7 : Cond.fieldLink RX3 9 "AheadStore$Pages" "disk" "[I" ∈ wsX3_dump := by decide +kernel
set_option maxHeartbeats 4000000 in
set_option maxRecDepth 100000 in
theorem c_X3_dump {l : Launch} {dC : Nat → ClassId} {dI : Nat → Nat → Nat} {cI : ClassId} {q0 : Nat → Nat} {sz : Nat} {u0 : S3} {x1 : Int32} {Q : S3 → Prop} (h : wp_X3_dump u0 x1 Q) : ctV sxE l yX3_dump wsX3_dump rX3_dump (dC, dI) vwCl [(cI, .int)] [.ref (q0 0), .int x1] (cs3 cI q0 u0) sz (fun (v : S3) => Q v) (fun (v : S3) => cs3 cI q0 v) := by
  refine mx_v (cc := cX3_dump) (maxL := 2) (by decide) rfl (Nat.le_of_ble_eq_true rfl) ?_
  intro p e s m below meth c Z A ls args hx hb hml hown hts hA hP hK hD hE hl hret
  have hown : s.vm.findClass RX3 = some m.cls := hown
  have hl : lv_has ls 2 [(0, .ref (q0 0)), (1, .int x1)] := hl
  have hS : va_S A s.heap s.heap [] := va_S.rf
  refine lv_aload_n hx hb dX3_dump_0 rfl (lv_at hl 0 rfl) ?_
  refine va_get (D := (dC, dI)) (ci := 3) (v := .ref (q0 1)) (C := RX3) (T := TX3) (N := 12) hx hb hts inX3_dump_3 hown hK hP 0 rfl rfl 0 (by decide) (hts _ kX3_dump_7) (fun _ h9 => h9) rfl dX3_dump_1 ?_
  refine lv_iload_n hx hb dX3_dump_4 rfl (lv_at hl 1 rfl) ?_
  refine lv_bipush (v := 16) hx hb dX3_dump_5 (by decide) ?_
  refine lv_imul hx hb dX3_dump_7 ?_
  refine lv_aload_n hx hb dX3_dump_8 rfl (lv_at hl 0 rfl) ?_
  refine va_get (D := (dC, dI)) (ci := 3) (v := .ref (q0 3)) (C := RX3) (T := TX3) (N := 12) hx hb hts inX3_dump_3 hown hK hP 0 rfl rfl 2 (by decide) (hts _ kX3_dump_6) (fun _ h9 => h9) rfl dX3_dump_9 ?_
  refine lv_iload_n hx hb dX3_dump_12 rfl (lv_at hl 1 rfl) ?_
  refine lv_bipush (v := 16) hx hb dX3_dump_13 (by decide) ?_
  refine lv_imul hx hb dX3_dump_15 ?_
  refine lv_bipush (v := 16) hx hb dX3_dump_16 (by decide) ?_
  refine va_copyi hx hb (hml.trans hl.1.symm) hown (hts _ kX3_dump_2) (hts _ kX3_dump_3) (hts _ kX3_dump_4) (hts _ kX3_dump_5) hK hP hD hS 1 3 0 0 (ty := .int) rfl rfl rfl rfl rfl h.1.1 h.1.2.1 h.1.2.2.1 h.1.2.2.2.1 h.1.2.2.2.2 (fun _ _ => rfl) (Nat.le_of_ble_eq_true rfl) (Nat.le_of_ble_eq_true rfl) dX3_dump_18 (fun H locs hP hD hS => ?_)
  have h := h.2
  obtain ⟨u0_1, e_u0_1⟩ : ∃ z, z = s3_archive u0 (va_cpy (g3_disk u0) (g3_archive u0) (x1 * 16).toNatClampNeg (x1 * 16).toNatClampNeg (16 : Int32).toNatClampNeg) := ⟨_, rfl⟩
  have h := h u0_1 e_u0_1
  have hP : va_P (dC, dI) vwCl (cs3 cI q0 u0_1) H := by rw [e_u0_1]; exact hP
  have hD : va_D A (cs3 cI q0 u0_1) := by rw [e_u0_1]; exact hD
  refine lv_aload_n hx hb dX3_dump_21 rfl (lv_at hl 0 rfl) ?_
  refine va_get (D := (dC, dI)) (ci := 3) (v := .ref (q0 4)) (C := RX3) (T := TX3) (N := 12) hx hb hts inX3_dump_3 hown hK hP 0 rfl rfl 3 (by decide) (hts _ kX3_dump_1) (fun _ h9 => h9) rfl dX3_dump_22 ?_
  refine lv_iload_n hx hb dX3_dump_25 rfl (lv_at hl 1 rfl) ?_
  refine lv_aload_n hx hb dX3_dump_26 rfl (lv_at hl 0 rfl) ?_
  refine va_get (D := (dC, dI)) (ci := 3) (v := .ref (q0 2)) (C := RX3) (T := TX3) (N := 12) hx hb hts inX3_dump_3 hown hK hP 0 rfl rfl 1 (by decide) (hts _ kX3_dump_0) (fun _ h9 => h9) rfl dX3_dump_27 ?_
  refine lv_iload_n hx hb dX3_dump_30 rfl (lv_at hl 1 rfl) ?_
  refine va_iald hx hb hK hP 2 0 rfl rfl h.1 dX3_dump_31 ?_
  have h := h.2
  refine va_iast hx hb hK hP hD hS 4 0 rfl rfl h.1 dX3_dump_32 (fun H locs hP hD hS => ?_)
  have h := h.2
  obtain ⟨u0_2, e_u0_2⟩ : ∃ z, z = s3_archiveStamps u0_1 (upd (g3_archiveStamps u0_1) x1.toNatClampNeg ((g3_diskStamps u0_1) x1.toNatClampNeg)) := ⟨_, rfl⟩
  have h := h u0_2 e_u0_2
  have hP : va_P (dC, dI) vwCl (cs3 cI q0 u0_2) H := by rw [e_u0_2]; exact hP
  have hD : va_D A (cs3 cI q0 u0_2) := by rw [e_u0_2]; exact hD
  exact hret _ _ _ _ u0_2 dX3_dump_33 h hP hD hS

abbrev rX3_lose : Room := { frames := 0, cells := 0, slots := 0, locals := 0 }
theorem hdX3_lose : yX3_lose.cls = RX3 ∧ yX3_lose.cls ≠ "java/lang/invoke/MethodHandle" ∧ yX3_lose.cls ≠ "java/lang/invoke/VarHandle" ∧ (parseMethodDescriptor yX3_lose.desc).map (fun d => d.parameters.length) = some 1 := by decide +kernel
theorem inX3_lose_3 : ∀ w ∈ wsX30, w ∈ wsX3_lose := by decide +kernel
theorem kX3_lose_0 : Cond.fieldLink RX3 24 "AheadStore$Pages" "lost" "I" ∈ wsX3_lose := by decide +kernel
theorem kX3_lose_1 : Cond.fieldLink RX3 15 "AheadStore$Pages" "diskStamps" "[I" ∈ wsX3_lose := by decide +kernel
theorem kX3_lose_2 : Cond.fieldLink RX3 9 "AheadStore$Pages" "disk" "[I" ∈ wsX3_lose := by decide +kernel
set_option maxHeartbeats 4000000 in
set_option maxRecDepth 100000 in
theorem c_X3_lose {l : Launch} {dC : Nat → ClassId} {dI : Nat → Nat → Nat} {cI : ClassId} {q0 : Nat → Nat} {sz : Nat} {u0 : S3} {x1 : Int32} {Q : S3 → Prop} (h : wp_X3_lose u0 x1 Q) : ctV sxE l yX3_lose wsX3_lose rX3_lose (dC, dI) vwCl [(cI, .int)] [.ref (q0 0), .int x1] (cs3 cI q0 u0) sz (fun (v : S3) => Q v) (fun (v : S3) => cs3 cI q0 v) := by
  refine mx_v (cc := cX3_lose) (maxL := 3) (by decide) rfl (Nat.le_of_ble_eq_true rfl) ?_
  intro p e s m below meth c Z A ls args hx hb hml hown hts hA hP hK hD hE hl hret
  have hown : s.vm.findClass RX3 = some m.cls := hown
  have hl : lv_has ls 3 [(0, .ref (q0 0)), (1, .int x1)] := hl
  have w_2 : ∀ (n : Nat) (x1 : Int32) (x2 : Int32) (u0 : S3) (H : Heap) (locs : List Loc) (ls : Array Slot) (_ : va_P (dC, dI) vwCl (cs3 cI q0 u0) H) (_ : va_D A (cs3 cI q0 u0)) (_ : va_S A s.heap H locs) (_ : lv_has ls 3 [(0, .ref (q0 0)), (1, .int x1), (2, .int x2)]) (_ : wp_X3_lose_2 Q n x1 x2 u0), W p l e rX3_lose s m args below meth c H locs 0 0 Z (F0 m 2 ls []) := by
    intro n
    induction n with
    | zero => intro x1 x2 u0 H locs ls hP hD hS hl h; exact False.elim h
    | succ n ih =>
      intro x1 x2 u0 H locs ls hP hD hS hl h
      refine lv_iload_n hx hb dX3_lose_2 rfl (lv_at hl 2 rfl) ?_
      refine lv_bipush (v := 16) hx hb dX3_lose_3 (by decide) ?_
      refine lv_icmp_ge (tgt := 26) hx hb dX3_lose_5 (by decide) (fun cd => ?_) (fun cd => ?_)
      · have h := h.1 cd
        refine lv_aload_n hx hb dX3_lose_26 rfl (lv_at hl 0 rfl) ?_
        refine va_get (D := (dC, dI)) (ci := 3) (v := .ref (q0 2)) (C := RX3) (T := TX3) (N := 12) hx hb hts inX3_lose_3 hown hK hP 0 rfl rfl 1 (by decide) (hts _ kX3_lose_1) (fun _ h9 => h9) rfl dX3_lose_27 ?_
        refine lv_iload_n hx hb dX3_lose_30 rfl (lv_at hl 1 rfl) ?_
        refine lv_iconst (v := 0) hx hb dX3_lose_31 (by decide) ?_
        refine va_iast hx hb hK hP hD hS 2 0 rfl rfl h.1 dX3_lose_32 (fun H locs hP hD hS => ?_)
        have h := h.2
        obtain ⟨u0_1, e_u0_1⟩ : ∃ z, z = s3_diskStamps u0 (upd (g3_diskStamps u0) x1.toNatClampNeg 0) := ⟨_, rfl⟩
        have h := h u0_1 e_u0_1
        have hP : va_P (dC, dI) vwCl (cs3 cI q0 u0_1) H := by rw [e_u0_1]; exact hP
        have hD : va_D A (cs3 cI q0 u0_1) := by rw [e_u0_1]; exact hD
        refine lv_aload_n hx hb dX3_lose_33 rfl (lv_at hl 0 rfl) ?_
        refine lv_dup hx hb dX3_lose_34 rfl ?_
        refine va_get (D := (dC, dI)) (ci := 3) (v := .int (g3_lost u0_1)) (C := RX3) (T := TX3) (N := 12) hx hb hts inX3_lose_3 hown hK hP 0 rfl rfl 4 (by decide) (hts _ kX3_lose_0) (fun _ h9 => h9) rfl dX3_lose_35 ?_
        refine lv_iconst (v := 1) hx hb dX3_lose_38 (by decide) ?_
        refine lv_iload_n hx hb dX3_lose_39 rfl (lv_at hl 1 rfl) ?_
        refine lv_ishl hx hb dX3_lose_40 ?_
        refine lv_ior hx hb dX3_lose_41 ?_
        refine va_put (D := (dC, dI)) (ci := 3) (v := .int ((g3_lost u0_1) ||| (1 <<< (x1 &&& 31)))) (ty := .int) (C := RX3) (T := TX3) (N := 12) hx hb hts inX3_lose_3 tyX3 tyX3_ok nmX3 hown hK hP hD hS 0 rfl rfl 4 (by decide) (hts _ kX3_lose_0) (fun _ h9 => h9) rfl (tyX3_ok 4 (by decide)) rfl rfl (Nat.le_of_ble_eq_true rfl) dX3_lose_42 (fun H locs hP hD hS => ?_)
        obtain ⟨u0_2, e_u0_2⟩ : ∃ z, z = s3_lost u0_1 ((g3_lost u0_1) ||| (1 <<< (x1 &&& 31))) := ⟨_, rfl⟩
        have h := h u0_2 e_u0_2
        have hP : va_P (dC, dI) vwCl (cs3 cI q0 u0_2) H := by rw [e_u0_2]; exact hP
        have hD : va_D A (cs3 cI q0 u0_2) := by rw [e_u0_2]; exact hD
        exact hret _ _ _ _ u0_2 dX3_lose_45 h hP hD hS
      · have h := h.2 cd
        refine lv_aload_n hx hb dX3_lose_8 rfl (lv_at hl 0 rfl) ?_
        refine va_get (D := (dC, dI)) (ci := 3) (v := .ref (q0 1)) (C := RX3) (T := TX3) (N := 12) hx hb hts inX3_lose_3 hown hK hP 0 rfl rfl 0 (by decide) (hts _ kX3_lose_2) (fun _ h9 => h9) rfl dX3_lose_9 ?_
        refine lv_iload_n hx hb dX3_lose_12 rfl (lv_at hl 1 rfl) ?_
        refine lv_bipush (v := 16) hx hb dX3_lose_13 (by decide) ?_
        refine lv_imul hx hb dX3_lose_15 ?_
        refine lv_iload_n hx hb dX3_lose_16 rfl (lv_at hl 2 rfl) ?_
        refine lv_iadd hx hb dX3_lose_17 ?_
        refine lv_iconst (v := 0) hx hb dX3_lose_18 (by decide) ?_
        refine va_iast hx hb hK hP hD hS 1 0 rfl rfl h.1 dX3_lose_19 (fun H locs hP hD hS => ?_)
        have h := h.2
        obtain ⟨u0_3, e_u0_3⟩ : ∃ z, z = s3_disk u0 (upd (g3_disk u0) ((x1 * 16) + x2).toNatClampNeg 0) := ⟨_, rfl⟩
        have h := h u0_3 e_u0_3
        have hP : va_P (dC, dI) vwCl (cs3 cI q0 u0_3) H := by rw [e_u0_3]; exact hP
        have hD : va_D A (cs3 cI q0 u0_3) := by rw [e_u0_3]; exact hD
        obtain ⟨x2_4, e_x2_4⟩ : ∃ z : Int32, z = x2 + 1 := ⟨_, rfl⟩
        have h := h x2_4 e_x2_4
        refine lv_iinc (v := x2_4) (lv' := [(2, .int x2_4), (0, .ref (q0 0)), (1, .int x1)]) hx hb dX3_lose_20 hl (k := 2) rfl (by rw [e_x2_4]; rfl) (by decide) rfl (fun ls hl => ?_)
        refine lv_goto (tgt := 2) hx hb dX3_lose_23 (by decide) ?_
        exact ih x1 x2_4 u0_3 _ _ _ hP hD hS (lv_sub hl [1, 2, 0] rfl) h
  have hS : va_S A s.heap s.heap [] := va_S.rf
  refine lv_iconst (v := 0) hx hb dX3_lose_0 (by decide) ?_
  refine lv_istore_n (lv' := [(2, .int 0), (0, .ref (q0 0)), (1, .int x1)]) hx hb dX3_lose_1 rfl hl (by decide) rfl (fun ls hl => ?_)
  obtain ⟨n0, h⟩ := h
  exact w_2 n0 x1 0 u0 _ _ _ hP hD hS (lv_sub hl [1, 2, 0] rfl) h

abbrev rX3_restore : Room := { frames := 3, cells := 0, slots := 0, locals := 69 }
theorem hdX3_restore : yX3_restore.cls = RX3 ∧ yX3_restore.cls ≠ "java/lang/invoke/MethodHandle" ∧ yX3_restore.cls ≠ "java/lang/invoke/VarHandle" ∧ (parseMethodDescriptor yX3_restore.desc).map (fun d => d.parameters.length) = some 2 := by decide +kernel
theorem inX3_restore_2 : ∀ w ∈ wsX20, w ∈ wsX3_restore := by decide +kernel
theorem inX3_restore_3 : ∀ w ∈ wsX30, w ∈ wsX3_restore := by decide +kernel
theorem kX3_restore_0 : Cond.fieldLink RX3 24 "AheadStore$Pages" "lost" "I" ∈ wsX3_restore := by decide +kernel
theorem kX3_restore_1 : Cond.fieldLink RX3 15 "AheadStore$Pages" "diskStamps" "[I" ∈ wsX3_restore := by decide +kernel
theorem kX3_restore_2 : Cond.fieldLink RX3 9 "AheadStore$Pages" "disk" "[I" ∈ wsX3_restore := by decide +kernel
theorem kX3_restore_3 : Cond.fieldLink RX3 93 "AheadStore$Journal" "endPlace" "I" ∈ wsX3_restore := by decide +kernel
theorem kX3_restore_4 : Cond.fieldLink RX3 21 "AheadStore$Pages" "archiveStamps" "[I" ∈ wsX3_restore := by decide +kernel
theorem kX3_restore_5 : Cond.methodLink RX3 67 arraycopyName ∈ wsX3_restore := by decide +kernel
theorem kX3_restore_6 : Cond.native arraycopyName ∈ wsX3_restore := by decide +kernel
theorem kX3_restore_7 : Cond.static arraycopyName ∈ wsX3_restore := by decide +kernel
theorem kX3_restore_8 : Cond.initialized "java/lang/System" ∈ wsX3_restore := by decide +kernel
theorem kX3_restore_9 : Cond.fieldLink RX3 18 "AheadStore$Pages" "archive" "[I" ∈ wsX3_restore := by decide +kernel
set_option maxHeartbeats 4000000 in
set_option maxRecDepth 100000 in
theorem c_X3_restore {l : Launch} {dC : Nat → ClassId} {dI : Nat → Nat → Nat} {cI : ClassId} {q0 : Nat → Nat} {q1 : Nat → Nat} {sz : Nat} {u0 : S3} {u1 : S2} {x1 : Int32} {Q : S3 → S2 → Prop} (h : wp_X3_restore u0 u1 x1 Q) : ctV sxE l yX3_restore wsX3_restore rX3_restore (dC, dI) vwCl [(cI, .int)] [.ref (q0 0), .int x1, .ref (q1 0)] (cs3 cI q0 u0 ++ cs2 cI q1 u1) sz (fun (v : S3 × S2) => Q v.1 v.2) (fun (v : S3 × S2) => (cs3 cI q0 v.1 ++ cs2 cI q1 v.2)) := by
  refine mx_v (cc := cX3_restore) (maxL := 5) (by decide) rfl (Nat.le_of_ble_eq_true rfl) ?_
  intro p e s m below meth c Z A ls args hx hb hml hown hts hA hP hK hD hE hl hret
  have hown : s.vm.findClass RX3 = some m.cls := hown
  have hl : lv_has ls 5 [(0, .ref (q0 0)), (1, .int x1), (2, .ref (q1 0))] := hl
  have w_125 : ∀ (x1 : Int32) (u0 : S3) (u1 : S2) (H : Heap) (locs : List Loc) (ls : Array Slot) (_ : va_P (dC, dI) vwCl (cs3 cI q0 u0 ++ cs2 cI q1 u1) H) (_ : va_D A (cs3 cI q0 u0 ++ cs2 cI q1 u1)) (_ : va_S A s.heap H locs) (_ : lv_has ls 5 [(0, .ref (q0 0)), (1, .int x1)]) (_ : wp_X3_restore_125 Q x1 u0 u1), W p l e rX3_restore s m args below meth c H locs 0 0 Z (F0 m 125 ls []) := by
    intro x1 u0 u1 H locs ls hP hD hS hl h
    refine lv_aload_n hx hb dX3_restore_125 rfl (lv_at hl 0 rfl) ?_
    refine lv_dup hx hb dX3_restore_126 rfl ?_
    refine va_get (D := (dC, dI)) (ci := 3) (v := .int (g3_lost u0)) (C := RX3) (T := TX3) (N := 12) hx hb hts inX3_restore_3 hown hK hP 0 rfl rfl 4 (by decide) (hts _ kX3_restore_0) (fun _ h9 => h9) rfl dX3_restore_127 ?_
    refine lv_iconst (v := 1) hx hb dX3_restore_130 (by decide) ?_
    refine lv_iload_n hx hb dX3_restore_131 rfl (lv_at hl 1 rfl) ?_
    refine lv_ishl hx hb dX3_restore_132 ?_
    refine lv_iconst (v := (-1)) hx hb dX3_restore_133 (by decide) ?_
    refine lv_ixor hx hb dX3_restore_134 ?_
    refine lv_iand hx hb dX3_restore_135 ?_
    refine va_put (D := (dC, dI)) (ci := 3) (v := .int ((g3_lost u0) &&& ((1 <<< (x1 &&& 31)) ^^^ (-1)))) (ty := .int) (C := RX3) (T := TX3) (N := 12) hx hb hts inX3_restore_3 tyX3 tyX3_ok nmX3 hown hK hP hD hS 0 rfl rfl 4 (by decide) (hts _ kX3_restore_0) (fun _ h9 => h9) rfl (tyX3_ok 4 (by decide)) rfl rfl (Nat.le_of_ble_eq_true rfl) dX3_restore_136 (fun H locs hP hD hS => ?_)
    obtain ⟨u0_1, e_u0_1⟩ : ∃ z, z = s3_lost u0 ((g3_lost u0) &&& ((1 <<< (x1 &&& 31)) ^^^ (-1))) := ⟨_, rfl⟩
    have h := h u0_1 e_u0_1
    have hP : va_P (dC, dI) vwCl (cs3 cI q0 u0_1 ++ cs2 cI q1 u1) H := by rw [e_u0_1]; exact hP
    have hD : va_D A (cs3 cI q0 u0_1 ++ cs2 cI q1 u1) := by rw [e_u0_1]; exact hD
    exact hret _ _ _ _ (u0_1, u1) dX3_restore_139 h hP hD hS
  have w_116 : ∀ (k_40 : Int32 → Int32 → S3 → S2 → Prop) (hk_40 : ∀ (x1 : Int32) (x3 : Int32) (u0 : S3) (u1 : S2) (H : Heap) (locs : List Loc) (ls : Array Slot) (_ : va_P (dC, dI) vwCl (cs3 cI q0 u0 ++ cs2 cI q1 u1) H) (_ : va_D A (cs3 cI q0 u0 ++ cs2 cI q1 u1)) (_ : va_S A s.heap H locs) (_ : lv_has ls 5 [(0, .ref (q0 0)), (1, .int x1), (2, .ref (q1 0)), (3, .int x3)]) (_ : k_40 x1 x3 u0 u1), W p l e rX3_restore s m args below meth c H locs 0 0 Z (F0 m 40 ls [])) (x1 : Int32) (x3 : Int32) (u0 : S3) (u1 : S2) (H : Heap) (locs : List Loc) (ls : Array Slot) (_ : va_P (dC, dI) vwCl (cs3 cI q0 u0 ++ cs2 cI q1 u1) H) (_ : va_D A (cs3 cI q0 u0 ++ cs2 cI q1 u1)) (_ : va_S A s.heap H locs) (_ : lv_has ls 5 [(0, .ref (q0 0)), (1, .int x1), (2, .ref (q1 0)), (3, .int x3)]) (_ : wp_X3_restore_116 k_40 Q x1 x3 u0 u1), W p l e rX3_restore s m args below meth c H locs 0 0 Z (F0 m 116 ls []) := by
    intro k_40 hk_40 x1 x3 u0 u1 H locs ls hP hD hS hl h
    refine lv_aload_n hx hb dX3_restore_116 rfl (lv_at hl 2 rfl) ?_
    refine lv_iload_n hx hb dX3_restore_117 rfl (lv_at hl 3 rfl) ?_
    refine cx_vi (As := [.int x3]) (rest := []) ⟨hx, hb, hml, hown, hts⟩ hl.1 ok_sxE hE hK hP hD hS hA (cut_14 cI q0 q1 u0 u1) (c_X2_behind (l := l) (dC := dC) (dI := dI) (cI := cI) (q0 := q1) h) (cwV 1 hts gX3_restore_X2_behind rfl rfl rfl hdX2_behind ⟨Nat.le_of_ble_eq_true rfl, Nat.le_of_ble_eq_true rfl⟩) rfl rfl rfl rfl (Nat.le_of_ble_eq_true rfl) dX3_restore_118 rfl (fun r_2 _ H locs h hP hD hS => ?_)
    refine lv_istore_n (lv' := [(3, .int r_2), (0, .ref (q0 0)), (1, .int x1), (2, .ref (q1 0))]) hx hb dX3_restore_121 rfl hl (by decide) rfl (fun ls hl => ?_)
    refine lv_goto (tgt := 40) hx hb dX3_restore_122 (by decide) ?_
    exact hk_40 x1 r_2 u0 u1 _ _ _ hP hD hS (lv_sub hl [1, 2, 3, 0] rfl) h
  have w_40 : ∀ (n : Nat) (x1 : Int32) (x3 : Int32) (u0 : S3) (u1 : S2) (H : Heap) (locs : List Loc) (ls : Array Slot) (_ : va_P (dC, dI) vwCl (cs3 cI q0 u0 ++ cs2 cI q1 u1) H) (_ : va_D A (cs3 cI q0 u0 ++ cs2 cI q1 u1)) (_ : va_S A s.heap H locs) (_ : lv_has ls 5 [(0, .ref (q0 0)), (1, .int x1), (2, .ref (q1 0)), (3, .int x3)]) (_ : wp_X3_restore_40 Q n x1 x3 u0 u1), W p l e rX3_restore s m args below meth c H locs 0 0 Z (F0 m 40 ls []) := by
    intro n
    induction n with
    | zero => intro x1 x3 u0 u1 H locs ls hP hD hS hl h; exact False.elim h
    | succ n ih =>
      intro x1 x3 u0 u1 H locs ls hP hD hS hl h
      refine lv_iload_n hx hb dX3_restore_40 rfl (lv_at hl 3 rfl) ?_
      refine lv_aload_n hx hb dX3_restore_41 rfl (lv_at hl 2 rfl) ?_
      refine va_get (D := (dC, dI)) (ci := 2) (v := .int (g2_endPlace u1)) (C := RX2) (T := TX2) (N := 4) hx hb hts inX3_restore_2 hown hK hP 10 rfl rfl 1 (by decide) (hts _ kX3_restore_3) (fun _ h9 => h9) rfl dX3_restore_42 ?_
      refine lv_icmp_ge (tgt := 125) hx hb dX3_restore_45 (by decide) (fun cd => ?_) (fun cd => ?_)
      · have h := h.1 cd
        exact w_125 x1 u0 u1 _ _ _ hP hD hS (lv_sub hl [0, 1] rfl) h
      · have h := h.2 cd
        refine lv_aload_n hx hb dX3_restore_48 rfl (lv_at hl 2 rfl) ?_
        refine lv_iload_n hx hb dX3_restore_49 rfl (lv_at hl 3 rfl) ?_
        refine cx_vi (As := [.int x3]) (rest := []) ⟨hx, hb, hml, hown, hts⟩ hl.1 ok_sxE hE hK hP hD hS hA (cut_14 cI q0 q1 u0 u1) (c_X2_wholeAt (l := l) (dC := dC) (dI := dI) (cI := cI) (q0 := q1) h) (cwV 1 hts gX3_restore_X2_wholeAt rfl rfl rfl hdX2_wholeAt ⟨Nat.le_of_ble_eq_true rfl, Nat.le_of_ble_eq_true rfl⟩) rfl rfl rfl rfl (Nat.le_of_ble_eq_true rfl) dX3_restore_50 rfl (fun r_3 _ H locs h hP hD hS => ?_)
        refine lv_if_eq (tgt := 125) hx hb dX3_restore_53 (by decide) (fun cd => ?_) (fun cd => ?_)
        · have h := h.1 cd
          exact w_125 x1 u0 u1 _ _ _ hP hD hS (lv_sub hl [0, 1] rfl) h
        · have h := h.2 cd
          refine lv_aload_n hx hb dX3_restore_56 rfl (lv_at hl 2 rfl) ?_
          refine lv_iload_n hx hb dX3_restore_57 rfl (lv_at hl 3 rfl) ?_
          refine cx_vi (As := [.int x3]) (rest := []) ⟨hx, hb, hml, hown, hts⟩ hl.1 ok_sxE hE hK hP hD hS hA (cut_14 cI q0 q1 u0 u1) (c_X2_addressAt (l := l) (dC := dC) (dI := dI) (cI := cI) (q0 := q1) h) (cwV 1 hts gX3_restore_X2_addressAt rfl rfl rfl hdX2_addressAt ⟨Nat.le_of_ble_eq_true rfl, Nat.le_of_ble_eq_true rfl⟩) rfl rfl rfl rfl (Nat.le_of_ble_eq_true rfl) dX3_restore_58 rfl (fun r_4 _ H locs h hP hD hS => ?_)
          refine lv_istore (lv' := [(4, .int r_4), (0, .ref (q0 0)), (1, .int x1), (2, .ref (q1 0)), (3, .int x3)]) hx hb dX3_restore_61 hl (by decide) rfl (fun ls hl => ?_)
          refine lv_aload_n hx hb dX3_restore_63 rfl (lv_at hl 3 rfl) ?_
          refine lv_iload_n hx hb dX3_restore_64 rfl (lv_at hl 4 rfl) ?_
          refine cx_vi (As := [.int x3]) (rest := []) ⟨hx, hb, hml, hown, hts⟩ hl.1 ok_sxE hE hK hP hD hS hA (cut_14 cI q0 q1 u0 u1) (c_X2_touches (l := l) (dC := dC) (dI := dI) (cI := cI) (q0 := q1) h) (cwV 1 hts gX3_restore_X2_touches rfl rfl rfl hdX2_touches ⟨Nat.le_of_ble_eq_true rfl, Nat.le_of_ble_eq_true rfl⟩) rfl rfl rfl rfl (Nat.le_of_ble_eq_true rfl) dX3_restore_65 rfl (fun r_5 _ H locs h hP hD hS => ?_)
          refine lv_if_eq (tgt := 116) hx hb dX3_restore_68 (by decide) (fun cd => ?_) (fun cd => ?_)
          · have h := h.1 cd
            exact w_116 (fun x1 x3 u0 u1 => wp_X3_restore_40 Q n x1 x3 u0 u1) (fun x1 x3 u0 u1 H locs ls hP hD hS hl h => ih x1 x3 u0 u1 H locs ls hP hD hS hl h) x1 x3 u0 u1 _ _ _ hP hD hS (lv_sub hl [1, 2, 3, 4] rfl) h
          · have h := h.2 cd
            refine lv_iload hx hb dX3_restore_71 (lv_at hl 0 rfl) ?_
            refine lv_bipush (v := 16) hx hb dX3_restore_73 (by decide) ?_
            refine lv_idiv hx hb dX3_restore_75 (by decide) ?_
            refine lv_iload_n hx hb dX3_restore_76 rfl (lv_at hl 2 rfl) ?_
            refine lv_icmp_ne (tgt := 116) hx hb dX3_restore_77 (by decide) (fun cd => ?_) (fun cd => ?_)
            · have h := h.2 cd
              exact w_116 (fun x1 x3 u0 u1 => wp_X3_restore_40 Q n x1 x3 u0 u1) (fun x1 x3 u0 u1 H locs ls hP hD hS hl h => ih x1 x3 u0 u1 H locs ls hP hD hS hl h) x1 x3 u0 u1 _ _ _ hP hD hS (lv_sub hl [1, 2, 3, 4] rfl) h
            · have h := h.1 cd
              refine lv_iload_n hx hb dX3_restore_80 rfl (lv_at hl 4 rfl) ?_
              refine lv_aload_n hx hb dX3_restore_81 rfl (lv_at hl 1 rfl) ?_
              refine va_get (D := (dC, dI)) (ci := 3) (v := .ref (q0 2)) (C := RX3) (T := TX3) (N := 12) hx hb hts inX3_restore_3 hown hK hP 0 rfl rfl 1 (by decide) (hts _ kX3_restore_1) (fun _ h9 => h9) rfl dX3_restore_82 ?_
              refine lv_iload_n hx hb dX3_restore_85 rfl (lv_at hl 2 rfl) ?_
              refine va_iald hx hb hK hP 2 0 rfl rfl h.1 dX3_restore_86 ?_
              have h := h.2
              refine lv_icmp_le (tgt := 116) hx hb dX3_restore_87 (by decide) (fun cd => ?_) (fun cd => ?_)
              · have h := h.1 cd
                exact w_116 (fun x1 x3 u0 u1 => wp_X3_restore_40 Q n x1 x3 u0 u1) (fun x1 x3 u0 u1 H locs ls hP hD hS hl h => ih x1 x3 u0 u1 H locs ls hP hD hS hl h) x1 x3 u0 u1 _ _ _ hP hD hS (lv_sub hl [1, 2, 3, 4] rfl) h
              · have h := h.2 cd
                refine lv_aload_n hx hb dX3_restore_90 rfl (lv_at hl 1 rfl) ?_
                refine va_get (D := (dC, dI)) (ci := 3) (v := .ref (q0 1)) (C := RX3) (T := TX3) (N := 12) hx hb hts inX3_restore_3 hown hK hP 0 rfl rfl 0 (by decide) (hts _ kX3_restore_2) (fun _ h9 => h9) rfl dX3_restore_91 ?_
                refine lv_iload hx hb dX3_restore_94 (lv_at hl 0 rfl) ?_
                refine lv_aload_n hx hb dX3_restore_96 rfl (lv_at hl 3 rfl) ?_
                refine lv_iload_n hx hb dX3_restore_97 rfl (lv_at hl 4 rfl) ?_
                refine lv_aload_n hx hb dX3_restore_98 rfl (lv_at hl 1 rfl) ?_
                refine va_get (D := (dC, dI)) (ci := 3) (v := .ref (q0 1)) (C := RX3) (T := TX3) (N := 12) hx hb hts inX3_restore_3 hown hK hP 0 rfl rfl 0 (by decide) (hts _ kX3_restore_2) (fun _ h9 => h9) rfl dX3_restore_99 ?_
                refine lv_iload hx hb dX3_restore_102 (lv_at hl 0 rfl) ?_
                refine va_iald hx hb hK hP 1 0 rfl rfl h.1 dX3_restore_104 ?_
                have h := h.2
                refine cx_vi (As := [.int x3, .int ((g3_disk u0) r_4.toNatClampNeg)]) (rest := [.int r_4, .ref (q0 1)]) ⟨hx, hb, hml, hown, hts⟩ hl.1 ok_sxE hE hK hP hD hS hA (cut_14 cI q0 q1 u0 u1) (c_X2_done (l := l) (dC := dC) (dI := dI) (cI := cI) (q0 := q1) h) (cwV 2 hts gX3_restore_X2_done rfl rfl rfl hdX2_done ⟨Nat.le_of_ble_eq_true rfl, Nat.le_of_ble_eq_true rfl⟩) rfl rfl rfl rfl (Nat.le_of_ble_eq_true rfl) dX3_restore_105 rfl (fun r_6 _ H locs h hP hD hS => ?_)
                refine va_iast hx hb hK hP hD hS 1 0 rfl rfl h.1 dX3_restore_108 (fun H locs hP hD hS => ?_)
                have h := h.2
                obtain ⟨u0_7, e_u0_7⟩ : ∃ z, z = s3_disk u0 (upd (g3_disk u0) r_4.toNatClampNeg r_6) := ⟨_, rfl⟩
                have h := h u0_7 e_u0_7
                have hP : va_P (dC, dI) vwCl (cs3 cI q0 u0_7 ++ cs2 cI q1 u1) H := by rw [e_u0_7]; exact hP
                have hD : va_D A (cs3 cI q0 u0_7 ++ cs2 cI q1 u1) := by rw [e_u0_7]; exact hD
                refine lv_aload_n hx hb dX3_restore_109 rfl (lv_at hl 1 rfl) ?_
                refine va_get (D := (dC, dI)) (ci := 3) (v := .ref (q0 2)) (C := RX3) (T := TX3) (N := 12) hx hb hts inX3_restore_3 hown hK hP 0 rfl rfl 1 (by decide) (hts _ kX3_restore_1) (fun _ h9 => h9) rfl dX3_restore_110 ?_
                refine lv_iload_n hx hb dX3_restore_113 rfl (lv_at hl 2 rfl) ?_
                refine lv_iload_n hx hb dX3_restore_114 rfl (lv_at hl 4 rfl) ?_
                refine va_iast hx hb hK hP hD hS 2 0 rfl rfl h.1 dX3_restore_115 (fun H locs hP hD hS => ?_)
                have h := h.2
                obtain ⟨u0_8, e_u0_8⟩ : ∃ z, z = s3_diskStamps u0_7 (upd (g3_diskStamps u0_7) x1.toNatClampNeg x3) := ⟨_, rfl⟩
                have h := h u0_8 e_u0_8
                have hP : va_P (dC, dI) vwCl (cs3 cI q0 u0_8 ++ cs2 cI q1 u1) H := by rw [e_u0_8]; exact hP
                have hD : va_D A (cs3 cI q0 u0_8 ++ cs2 cI q1 u1) := by rw [e_u0_8]; exact hD
                exact w_116 (fun x1 x3 u0 u1 => wp_X3_restore_40 Q n x1 x3 u0 u1) (fun x1 x3 u0 u1 H locs ls hP hD hS hl h => ih x1 x3 u0 u1 H locs ls hP hD hS hl h) x1 x3 u0_8 u1 _ _ _ hP hD hS (lv_sub hl [1, 2, 3, 4] rfl) h
  have hS : va_S A s.heap s.heap [] := va_S.rf
  refine lv_aload_n hx hb dX3_restore_0 rfl (lv_at hl 2 rfl) ?_
  refine cx_vv (As := []) (rest := []) ⟨hx, hb, hml, hown, hts⟩ hl.1 ok_sxE hE hK hP hD hS hA (cut_10 cI q0 q1 u0 u1) (c_X2_flushAll (l := l) (dC := dC) (dI := dI) (cI := cI) (q0 := q1) h) (cwV 0 hts gX3_restore_X2_flushAll rfl rfl rfl hdX2_flushAll ⟨Nat.le_of_ble_eq_true rfl, Nat.le_of_ble_eq_true rfl⟩) rfl rfl rfl rfl (Nat.le_of_ble_eq_true rfl) dX3_restore_1 rfl (fun v_9 H locs h hP hD hS => ?_)
  have hP : va_P (dC, dI) vwCl (cs3 cI q0 u0 ++ cs2 cI q1 v_9) H :=  hP
  have hD : va_D A (cs3 cI q0 u0 ++ cs2 cI q1 v_9) :=  hD
  refine lv_aload_n hx hb dX3_restore_4 rfl (lv_at hl 0 rfl) ?_
  refine va_get (D := (dC, dI)) (ci := 3) (v := .ref (q0 3)) (C := RX3) (T := TX3) (N := 12) hx hb hts inX3_restore_3 hown hK hP 0 rfl rfl 2 (by decide) (hts _ kX3_restore_9) (fun _ h9 => h9) rfl dX3_restore_5 ?_
  refine lv_iload_n hx hb dX3_restore_8 rfl (lv_at hl 1 rfl) ?_
  refine lv_bipush (v := 16) hx hb dX3_restore_9 (by decide) ?_
  refine lv_imul hx hb dX3_restore_11 ?_
  refine lv_aload_n hx hb dX3_restore_12 rfl (lv_at hl 0 rfl) ?_
  refine va_get (D := (dC, dI)) (ci := 3) (v := .ref (q0 1)) (C := RX3) (T := TX3) (N := 12) hx hb hts inX3_restore_3 hown hK hP 0 rfl rfl 0 (by decide) (hts _ kX3_restore_2) (fun _ h9 => h9) rfl dX3_restore_13 ?_
  refine lv_iload_n hx hb dX3_restore_16 rfl (lv_at hl 1 rfl) ?_
  refine lv_bipush (v := 16) hx hb dX3_restore_17 (by decide) ?_
  refine lv_imul hx hb dX3_restore_19 ?_
  refine lv_bipush (v := 16) hx hb dX3_restore_20 (by decide) ?_
  refine va_copyi hx hb (hml.trans hl.1.symm) hown (hts _ kX3_restore_5) (hts _ kX3_restore_6) (hts _ kX3_restore_7) (hts _ kX3_restore_8) hK hP hD hS 3 1 0 0 (ty := .int) rfl rfl rfl rfl rfl h.1.1 h.1.2.1 h.1.2.2.1 h.1.2.2.2.1 h.1.2.2.2.2 (fun _ _ => rfl) (Nat.le_of_ble_eq_true rfl) (Nat.le_of_ble_eq_true rfl) dX3_restore_22 (fun H locs hP hD hS => ?_)
  have h := h.2
  obtain ⟨u0_10, e_u0_10⟩ : ∃ z, z = s3_disk u0 (va_cpy (g3_archive u0) (g3_disk u0) (x1 * 16).toNatClampNeg (x1 * 16).toNatClampNeg (16 : Int32).toNatClampNeg) := ⟨_, rfl⟩
  have h := h u0_10 e_u0_10
  have hP : va_P (dC, dI) vwCl (cs3 cI q0 u0_10 ++ cs2 cI q1 v_9) H := by rw [e_u0_10]; exact hP
  have hD : va_D A (cs3 cI q0 u0_10 ++ cs2 cI q1 v_9) := by rw [e_u0_10]; exact hD
  refine lv_aload_n hx hb dX3_restore_25 rfl (lv_at hl 0 rfl) ?_
  refine va_get (D := (dC, dI)) (ci := 3) (v := .ref (q0 2)) (C := RX3) (T := TX3) (N := 12) hx hb hts inX3_restore_3 hown hK hP 0 rfl rfl 1 (by decide) (hts _ kX3_restore_1) (fun _ h9 => h9) rfl dX3_restore_26 ?_
  refine lv_iload_n hx hb dX3_restore_29 rfl (lv_at hl 1 rfl) ?_
  refine lv_aload_n hx hb dX3_restore_30 rfl (lv_at hl 0 rfl) ?_
  refine va_get (D := (dC, dI)) (ci := 3) (v := .ref (q0 4)) (C := RX3) (T := TX3) (N := 12) hx hb hts inX3_restore_3 hown hK hP 0 rfl rfl 3 (by decide) (hts _ kX3_restore_4) (fun _ h9 => h9) rfl dX3_restore_31 ?_
  refine lv_iload_n hx hb dX3_restore_34 rfl (lv_at hl 1 rfl) ?_
  refine va_iald hx hb hK hP 4 0 rfl rfl h.1 dX3_restore_35 ?_
  have h := h.2
  refine va_iast hx hb hK hP hD hS 2 0 rfl rfl h.1 dX3_restore_36 (fun H locs hP hD hS => ?_)
  have h := h.2
  obtain ⟨u0_11, e_u0_11⟩ : ∃ z, z = s3_diskStamps u0_10 (upd (g3_diskStamps u0_10) x1.toNatClampNeg ((g3_archiveStamps u0_10) x1.toNatClampNeg)) := ⟨_, rfl⟩
  have h := h u0_11 e_u0_11
  have hP : va_P (dC, dI) vwCl (cs3 cI q0 u0_11 ++ cs2 cI q1 v_9) H := by rw [e_u0_11]; exact hP
  have hD : va_D A (cs3 cI q0 u0_11 ++ cs2 cI q1 v_9) := by rw [e_u0_11]; exact hD
  refine lv_bipush (v := 8) hx hb dX3_restore_37 (by decide) ?_
  refine lv_istore_n (lv' := [(3, .int 8), (0, .ref (q0 0)), (1, .int x1), (2, .ref (q1 0))]) hx hb dX3_restore_39 rfl hl (by decide) rfl (fun ls hl => ?_)
  obtain ⟨n0, h⟩ := h
  exact w_40 n0 x1 8 u0_11 v_9 _ _ _ hP hD hS (lv_sub hl [1, 2, 3, 0] rfl) h

set_option maxRecDepth 100000 in
theorem cut_15 (cI : ClassId) (q0 : Nat → Nat) (u0 : S3) : Cut (cs3 cI q0 u0) ([((fun i => q0 (i + 8)) 0, .inl (cI, 8, .inl (g3_recs u0)))]) (fun v : (Nat → Int32) => [((fun i => q0 (i + 8)) 0, .inl (cI, 8, .inl v))]) (fun v : (Nat → Int32) => cs3 cI q0 (s3_recs u0 v)) := ⟨[8], [0, 1, 2, 3, 4, 5, 6, 7, 9], rfl, rfl, rfl, by decide, by decide, fun v => ⟨[0, 1, 2, 3, 4, 5, 6, 7, 9, 8], rfl, rfl⟩⟩

set_option maxRecDepth 100000 in
theorem cut_16 (cI : ClassId) (q0 : Nat → Nat) (u0 : S3) : Cut (cs3 cI q0 u0) ([((fun i => q0 (i + 5)) 0, .inl (cI, 8, .inl (g3_held u0)))]) (fun v : (Nat → Int32) => [((fun i => q0 (i + 5)) 0, .inl (cI, 8, .inl v))]) (fun v : (Nat → Int32) => cs3 cI q0 (s3_held u0 v)) := ⟨[5], [0, 1, 2, 3, 4, 6, 7, 8, 9], rfl, rfl, rfl, by decide, by decide, fun v => ⟨[0, 1, 2, 3, 4, 9, 5, 6, 7, 8], rfl, rfl⟩⟩

abbrev rX3_emptyFrames : Room := { frames := 1, cells := 0, slots := 0, locals := 23 }
theorem hdX3_emptyFrames : yX3_emptyFrames.cls = RX3 ∧ yX3_emptyFrames.cls ≠ "java/lang/invoke/MethodHandle" ∧ yX3_emptyFrames.cls ≠ "java/lang/invoke/VarHandle" ∧ (parseMethodDescriptor yX3_emptyFrames.desc).map (fun d => d.parameters.length) = some 0 := by decide +kernel
theorem inX3_emptyFrames_3 : ∀ w ∈ wsX30, w ∈ wsX3_emptyFrames := by decide +kernel
theorem kX3_emptyFrames_0 : Cond.fieldLink RX3 40 "AheadStore$Pages" "recs" "[I" ∈ wsX3_emptyFrames := by decide +kernel
theorem kX3_emptyFrames_1 : Cond.fieldLink RX3 31 "AheadStore$Pages" "held" "[I" ∈ wsX3_emptyFrames := by decide +kernel
set_option maxHeartbeats 4000000 in
set_option maxRecDepth 100000 in
theorem c_X3_emptyFrames {l : Launch} {dC : Nat → ClassId} {dI : Nat → Nat → Nat} {cI : ClassId} {q0 : Nat → Nat} {sz : Nat} {u0 : S3}  {Q : S3 → Prop} (h : wp_X3_emptyFrames u0 Q) : ctV sxE l yX3_emptyFrames wsX3_emptyFrames rX3_emptyFrames (dC, dI) vwCl [(cI, .int)] [.ref (q0 0)] (cs3 cI q0 u0) sz (fun (v : S3) => Q v) (fun (v : S3) => cs3 cI q0 v) := by
  refine mx_v (cc := cX3_emptyFrames) (maxL := 1) (by decide) rfl (Nat.le_of_ble_eq_true rfl) ?_
  intro p e s m below meth c Z A ls args hx hb hml hown hts hA hP hK hD hE hl hret
  have hown : s.vm.findClass RX3 = some m.cls := hown
  have hl : lv_has ls 1 [(0, .ref (q0 0))] := hl
  have hS : va_S A s.heap s.heap [] := va_S.rf
  refine lv_aload_n hx hb dX3_emptyFrames_0 rfl (lv_at hl 0 rfl) ?_
  refine va_get (D := (dC, dI)) (ci := 3) (v := .ref (q0 5)) (C := RX3) (T := TX3) (N := 12) hx hb hts inX3_emptyFrames_3 hown hK hP 0 rfl rfl 6 (by decide) (hts _ kX3_emptyFrames_1) (fun _ h9 => h9) rfl dX3_emptyFrames_1 ?_
  refine lv_iconst (v := (-1)) hx hb dX3_emptyFrames_4 (by decide) ?_
  refine cx_sv (As := [.ref (q0 5), .int (-1)]) (rest := []) ⟨hx, hb, hml, hown, hts⟩ hl.1 ok_noE trivial hK hP hD hS hA (cut_16 cI q0 u0) (c_J7_fill_53178 (l := l) (dC := dC) (dI := dI) (cI := cI) (q0 := fun i => q0 (i + 5)) h) (va_cwS 2 hts gX3_emptyFrames_J7_fill_53178 rfl rfl rfl hdJ7_fill_53178 ⟨Nat.le_of_ble_eq_true rfl, Nat.le_of_ble_eq_true rfl⟩) rfl (Nat.le_of_ble_eq_true rfl) dX3_emptyFrames_5 rfl (fun v_1 H locs h hP hD hS => ?_)
  obtain ⟨u0_2, e_u0_2⟩ : ∃ z, z = s3_held u0 v_1 := ⟨_, rfl⟩
  have h := h u0_2 e_u0_2
  have hP : va_P (dC, dI) vwCl (cs3 cI q0 u0_2) H := by rw [e_u0_2]; exact hP
  have hD : va_D A (cs3 cI q0 u0_2) := by rw [e_u0_2]; exact hD
  refine lv_aload_n hx hb dX3_emptyFrames_8 rfl (lv_at hl 0 rfl) ?_
  refine va_get (D := (dC, dI)) (ci := 3) (v := .ref (q0 8)) (C := RX3) (T := TX3) (N := 12) hx hb hts inX3_emptyFrames_3 hown hK hP 0 rfl rfl 9 (by decide) (hts _ kX3_emptyFrames_0) (fun _ h9 => h9) rfl dX3_emptyFrames_9 ?_
  refine lv_iconst (v := 0) hx hb dX3_emptyFrames_12 (by decide) ?_
  refine cx_sv (As := [.ref (q0 8), .int 0]) (rest := []) ⟨hx, hb, hml, hown, hts⟩ hl.1 ok_noE trivial hK hP hD hS hA (cut_15 cI q0 u0_2) (c_J7_fill_53178 (l := l) (dC := dC) (dI := dI) (cI := cI) (q0 := fun i => q0 (i + 8)) h) (va_cwS 2 hts gX3_emptyFrames_J7_fill_53178 rfl rfl rfl hdJ7_fill_53178 ⟨Nat.le_of_ble_eq_true rfl, Nat.le_of_ble_eq_true rfl⟩) rfl (Nat.le_of_ble_eq_true rfl) dX3_emptyFrames_13 rfl (fun v_3 H locs h hP hD hS => ?_)
  obtain ⟨u0_4, e_u0_4⟩ : ∃ z, z = s3_recs u0_2 v_3 := ⟨_, rfl⟩
  have h := h u0_4 e_u0_4
  have hP : va_P (dC, dI) vwCl (cs3 cI q0 u0_4) H := by rw [e_u0_4]; exact hP
  have hD : va_D A (cs3 cI q0 u0_4) := by rw [e_u0_4]; exact hD
  exact hret _ _ _ _ u0_4 dX3_emptyFrames_16 h hP hD hS

abbrev rX3_copyFrom : Room := { frames := 1, cells := 0, slots := 0, locals := 40 }
theorem hdX3_copyFrom : yX3_copyFrom.cls = RX3 ∧ yX3_copyFrom.cls ≠ "java/lang/invoke/MethodHandle" ∧ yX3_copyFrom.cls ≠ "java/lang/invoke/VarHandle" ∧ (parseMethodDescriptor yX3_copyFrom.desc).map (fun d => d.parameters.length) = some 1 := by decide +kernel
theorem inX3_copyFrom_3 : ∀ w ∈ wsX30, w ∈ wsX3_copyFrom := by decide +kernel
theorem kX3_copyFrom_0 : Cond.fieldLink RX3 46 "AheadStore$Pages" "clock" "I" ∈ wsX3_copyFrom := by decide +kernel
theorem kX3_copyFrom_1 : Cond.methodLink RX3 67 arraycopyName ∈ wsX3_copyFrom := by decide +kernel
theorem kX3_copyFrom_2 : Cond.native arraycopyName ∈ wsX3_copyFrom := by decide +kernel
theorem kX3_copyFrom_3 : Cond.static arraycopyName ∈ wsX3_copyFrom := by decide +kernel
theorem kX3_copyFrom_4 : Cond.initialized "java/lang/System" ∈ wsX3_copyFrom := by decide +kernel
theorem kX3_copyFrom_5 : Cond.fieldLink RX3 43 "AheadStore$Pages" "uses" "[I" ∈ wsX3_copyFrom := by decide +kernel
theorem kX3_copyFrom_6 : Cond.fieldLink RX3 40 "AheadStore$Pages" "recs" "[I" ∈ wsX3_copyFrom := by decide +kernel
theorem kX3_copyFrom_7 : Cond.fieldLink RX3 37 "AheadStore$Pages" "stamps" "[I" ∈ wsX3_copyFrom := by decide +kernel
theorem kX3_copyFrom_8 : Cond.fieldLink RX3 34 "AheadStore$Pages" "copies" "[I" ∈ wsX3_copyFrom := by decide +kernel
theorem kX3_copyFrom_9 : Cond.fieldLink RX3 31 "AheadStore$Pages" "held" "[I" ∈ wsX3_copyFrom := by decide +kernel
theorem kX3_copyFrom_10 : Cond.fieldLink RX3 28 "AheadStore$Pages" "frameCount" "I" ∈ wsX3_copyFrom := by decide +kernel
theorem kX3_copyFrom_11 : Cond.fieldLink RX3 24 "AheadStore$Pages" "lost" "I" ∈ wsX3_copyFrom := by decide +kernel
theorem kX3_copyFrom_12 : Cond.fieldLink RX3 21 "AheadStore$Pages" "archiveStamps" "[I" ∈ wsX3_copyFrom := by decide +kernel
theorem kX3_copyFrom_13 : Cond.fieldLink RX3 18 "AheadStore$Pages" "archive" "[I" ∈ wsX3_copyFrom := by decide +kernel
theorem kX3_copyFrom_14 : Cond.fieldLink RX3 15 "AheadStore$Pages" "diskStamps" "[I" ∈ wsX3_copyFrom := by decide +kernel
theorem kX3_copyFrom_15 : Cond.fieldLink RX3 9 "AheadStore$Pages" "disk" "[I" ∈ wsX3_copyFrom := by decide +kernel
set_option maxHeartbeats 4000000 in
set_option maxRecDepth 100000 in
theorem c_X3_copyFrom {l : Launch} {dC : Nat → ClassId} {dI : Nat → Nat → Nat} {cI : ClassId} {q0 : Nat → Nat} {q1 : Nat → Nat} {sz : Nat} {u0 : S3} {u1 : S3}  {Q : S3 → Prop} (h : wp_X3_copyFrom u0 u1 Q) : ctV sxE l yX3_copyFrom wsX3_copyFrom rX3_copyFrom (dC, dI) vwCl [(cI, .int)] [.ref (q0 0), .ref (q1 0)] (cs3 cI q0 u0 ++ cs3 cI q1 u1) sz (fun (v : S3) => Q v) (fun (v : S3) => (cs3 cI q0 v ++ cs3 cI q1 u1)) := by
  refine mx_v (cc := cX3_copyFrom) (maxL := 2) (by decide) rfl (Nat.le_of_ble_eq_true rfl) ?_
  intro p e s m below meth c Z A ls args hx hb hml hown hts hA hP hK hD hE hl hret
  have hown : s.vm.findClass RX3 = some m.cls := hown
  have hl : lv_has ls 2 [(0, .ref (q0 0)), (1, .ref (q1 0))] := hl
  have hS : va_S A s.heap s.heap [] := va_S.rf
  refine lv_aload_n hx hb dX3_copyFrom_0 rfl (lv_at hl 1 rfl) ?_
  refine va_get (D := (dC, dI)) (ci := 3) (v := .ref (q1 1)) (C := RX3) (T := TX3) (N := 12) hx hb hts inX3_copyFrom_3 hown hK hP 10 rfl rfl 0 (by decide) (hts _ kX3_copyFrom_15) (fun _ h9 => h9) rfl dX3_copyFrom_1 ?_
  refine lv_iconst (v := 0) hx hb dX3_copyFrom_4 (by decide) ?_
  refine lv_aload_n hx hb dX3_copyFrom_5 rfl (lv_at hl 0 rfl) ?_
  refine va_get (D := (dC, dI)) (ci := 3) (v := .ref (q0 1)) (C := RX3) (T := TX3) (N := 12) hx hb hts inX3_copyFrom_3 hown hK hP 0 rfl rfl 0 (by decide) (hts _ kX3_copyFrom_15) (fun _ h9 => h9) rfl dX3_copyFrom_6 ?_
  refine lv_iconst (v := 0) hx hb dX3_copyFrom_9 (by decide) ?_
  refine lv_sipush (v := 256) hx hb dX3_copyFrom_10 (by decide) ?_
  refine va_copyi hx hb (hml.trans hl.1.symm) hown (hts _ kX3_copyFrom_1) (hts _ kX3_copyFrom_2) (hts _ kX3_copyFrom_3) (hts _ kX3_copyFrom_4) hK hP hD hS 11 1 0 0 (ty := .int) rfl rfl rfl rfl rfl h.1.1 h.1.2.1 h.1.2.2.1 h.1.2.2.2.1 h.1.2.2.2.2 (fun _ _ => rfl) (Nat.le_of_ble_eq_true rfl) (Nat.le_of_ble_eq_true rfl) dX3_copyFrom_13 (fun H locs hP hD hS => ?_)
  have h := h.2
  obtain ⟨u0_1, e_u0_1⟩ : ∃ z, z = s3_disk u0 (va_cpy (g3_disk u1) (g3_disk u0) (0 : Int32).toNatClampNeg (0 : Int32).toNatClampNeg (256 : Int32).toNatClampNeg) := ⟨_, rfl⟩
  have h := h u0_1 e_u0_1
  have hP : va_P (dC, dI) vwCl (cs3 cI q0 u0_1 ++ cs3 cI q1 u1) H := by rw [e_u0_1]; exact hP
  have hD : va_D A (cs3 cI q0 u0_1 ++ cs3 cI q1 u1) := by rw [e_u0_1]; exact hD
  refine lv_aload_n hx hb dX3_copyFrom_16 rfl (lv_at hl 1 rfl) ?_
  refine va_get (D := (dC, dI)) (ci := 3) (v := .ref (q1 2)) (C := RX3) (T := TX3) (N := 12) hx hb hts inX3_copyFrom_3 hown hK hP 10 rfl rfl 1 (by decide) (hts _ kX3_copyFrom_14) (fun _ h9 => h9) rfl dX3_copyFrom_17 ?_
  refine lv_iconst (v := 0) hx hb dX3_copyFrom_20 (by decide) ?_
  refine lv_aload_n hx hb dX3_copyFrom_21 rfl (lv_at hl 0 rfl) ?_
  refine va_get (D := (dC, dI)) (ci := 3) (v := .ref (q0 2)) (C := RX3) (T := TX3) (N := 12) hx hb hts inX3_copyFrom_3 hown hK hP 0 rfl rfl 1 (by decide) (hts _ kX3_copyFrom_14) (fun _ h9 => h9) rfl dX3_copyFrom_22 ?_
  refine lv_iconst (v := 0) hx hb dX3_copyFrom_25 (by decide) ?_
  refine lv_bipush (v := 16) hx hb dX3_copyFrom_26 (by decide) ?_
  refine va_copyi hx hb (hml.trans hl.1.symm) hown (hts _ kX3_copyFrom_1) (hts _ kX3_copyFrom_2) (hts _ kX3_copyFrom_3) (hts _ kX3_copyFrom_4) hK hP hD hS 12 2 0 0 (ty := .int) rfl rfl rfl rfl rfl h.1.1 h.1.2.1 h.1.2.2.1 h.1.2.2.2.1 h.1.2.2.2.2 (fun _ _ => rfl) (Nat.le_of_ble_eq_true rfl) (Nat.le_of_ble_eq_true rfl) dX3_copyFrom_28 (fun H locs hP hD hS => ?_)
  have h := h.2
  obtain ⟨u0_2, e_u0_2⟩ : ∃ z, z = s3_diskStamps u0_1 (va_cpy (g3_diskStamps u1) (g3_diskStamps u0_1) (0 : Int32).toNatClampNeg (0 : Int32).toNatClampNeg (16 : Int32).toNatClampNeg) := ⟨_, rfl⟩
  have h := h u0_2 e_u0_2
  have hP : va_P (dC, dI) vwCl (cs3 cI q0 u0_2 ++ cs3 cI q1 u1) H := by rw [e_u0_2]; exact hP
  have hD : va_D A (cs3 cI q0 u0_2 ++ cs3 cI q1 u1) := by rw [e_u0_2]; exact hD
  refine lv_aload_n hx hb dX3_copyFrom_31 rfl (lv_at hl 1 rfl) ?_
  refine va_get (D := (dC, dI)) (ci := 3) (v := .ref (q1 3)) (C := RX3) (T := TX3) (N := 12) hx hb hts inX3_copyFrom_3 hown hK hP 10 rfl rfl 2 (by decide) (hts _ kX3_copyFrom_13) (fun _ h9 => h9) rfl dX3_copyFrom_32 ?_
  refine lv_iconst (v := 0) hx hb dX3_copyFrom_35 (by decide) ?_
  refine lv_aload_n hx hb dX3_copyFrom_36 rfl (lv_at hl 0 rfl) ?_
  refine va_get (D := (dC, dI)) (ci := 3) (v := .ref (q0 3)) (C := RX3) (T := TX3) (N := 12) hx hb hts inX3_copyFrom_3 hown hK hP 0 rfl rfl 2 (by decide) (hts _ kX3_copyFrom_13) (fun _ h9 => h9) rfl dX3_copyFrom_37 ?_
  refine lv_iconst (v := 0) hx hb dX3_copyFrom_40 (by decide) ?_
  refine lv_sipush (v := 256) hx hb dX3_copyFrom_41 (by decide) ?_
  refine va_copyi hx hb (hml.trans hl.1.symm) hown (hts _ kX3_copyFrom_1) (hts _ kX3_copyFrom_2) (hts _ kX3_copyFrom_3) (hts _ kX3_copyFrom_4) hK hP hD hS 13 3 0 0 (ty := .int) rfl rfl rfl rfl rfl h.1.1 h.1.2.1 h.1.2.2.1 h.1.2.2.2.1 h.1.2.2.2.2 (fun _ _ => rfl) (Nat.le_of_ble_eq_true rfl) (Nat.le_of_ble_eq_true rfl) dX3_copyFrom_44 (fun H locs hP hD hS => ?_)
  have h := h.2
  obtain ⟨u0_3, e_u0_3⟩ : ∃ z, z = s3_archive u0_2 (va_cpy (g3_archive u1) (g3_archive u0_2) (0 : Int32).toNatClampNeg (0 : Int32).toNatClampNeg (256 : Int32).toNatClampNeg) := ⟨_, rfl⟩
  have h := h u0_3 e_u0_3
  have hP : va_P (dC, dI) vwCl (cs3 cI q0 u0_3 ++ cs3 cI q1 u1) H := by rw [e_u0_3]; exact hP
  have hD : va_D A (cs3 cI q0 u0_3 ++ cs3 cI q1 u1) := by rw [e_u0_3]; exact hD
  refine lv_aload_n hx hb dX3_copyFrom_47 rfl (lv_at hl 1 rfl) ?_
  refine va_get (D := (dC, dI)) (ci := 3) (v := .ref (q1 4)) (C := RX3) (T := TX3) (N := 12) hx hb hts inX3_copyFrom_3 hown hK hP 10 rfl rfl 3 (by decide) (hts _ kX3_copyFrom_12) (fun _ h9 => h9) rfl dX3_copyFrom_48 ?_
  refine lv_iconst (v := 0) hx hb dX3_copyFrom_51 (by decide) ?_
  refine lv_aload_n hx hb dX3_copyFrom_52 rfl (lv_at hl 0 rfl) ?_
  refine va_get (D := (dC, dI)) (ci := 3) (v := .ref (q0 4)) (C := RX3) (T := TX3) (N := 12) hx hb hts inX3_copyFrom_3 hown hK hP 0 rfl rfl 3 (by decide) (hts _ kX3_copyFrom_12) (fun _ h9 => h9) rfl dX3_copyFrom_53 ?_
  refine lv_iconst (v := 0) hx hb dX3_copyFrom_56 (by decide) ?_
  refine lv_bipush (v := 16) hx hb dX3_copyFrom_57 (by decide) ?_
  refine va_copyi hx hb (hml.trans hl.1.symm) hown (hts _ kX3_copyFrom_1) (hts _ kX3_copyFrom_2) (hts _ kX3_copyFrom_3) (hts _ kX3_copyFrom_4) hK hP hD hS 14 4 0 0 (ty := .int) rfl rfl rfl rfl rfl h.1.1 h.1.2.1 h.1.2.2.1 h.1.2.2.2.1 h.1.2.2.2.2 (fun _ _ => rfl) (Nat.le_of_ble_eq_true rfl) (Nat.le_of_ble_eq_true rfl) dX3_copyFrom_59 (fun H locs hP hD hS => ?_)
  have h := h.2
  obtain ⟨u0_4, e_u0_4⟩ : ∃ z, z = s3_archiveStamps u0_3 (va_cpy (g3_archiveStamps u1) (g3_archiveStamps u0_3) (0 : Int32).toNatClampNeg (0 : Int32).toNatClampNeg (16 : Int32).toNatClampNeg) := ⟨_, rfl⟩
  have h := h u0_4 e_u0_4
  have hP : va_P (dC, dI) vwCl (cs3 cI q0 u0_4 ++ cs3 cI q1 u1) H := by rw [e_u0_4]; exact hP
  have hD : va_D A (cs3 cI q0 u0_4 ++ cs3 cI q1 u1) := by rw [e_u0_4]; exact hD
  refine lv_aload_n hx hb dX3_copyFrom_62 rfl (lv_at hl 0 rfl) ?_
  refine lv_aload_n hx hb dX3_copyFrom_63 rfl (lv_at hl 1 rfl) ?_
  refine va_get (D := (dC, dI)) (ci := 3) (v := .int (g3_lost u1)) (C := RX3) (T := TX3) (N := 12) hx hb hts inX3_copyFrom_3 hown hK hP 10 rfl rfl 4 (by decide) (hts _ kX3_copyFrom_11) (fun _ h9 => h9) rfl dX3_copyFrom_64 ?_
  refine va_put (D := (dC, dI)) (ci := 3) (v := .int (g3_lost u1)) (ty := .int) (C := RX3) (T := TX3) (N := 12) hx hb hts inX3_copyFrom_3 tyX3 tyX3_ok nmX3 hown hK hP hD hS 0 rfl rfl 4 (by decide) (hts _ kX3_copyFrom_11) (fun _ h9 => h9) rfl (tyX3_ok 4 (by decide)) rfl rfl (Nat.le_of_ble_eq_true rfl) dX3_copyFrom_67 (fun H locs hP hD hS => ?_)
  obtain ⟨u0_5, e_u0_5⟩ : ∃ z, z = s3_lost u0_4 (g3_lost u1) := ⟨_, rfl⟩
  have h := h u0_5 e_u0_5
  have hP : va_P (dC, dI) vwCl (cs3 cI q0 u0_5 ++ cs3 cI q1 u1) H := by rw [e_u0_5]; exact hP
  have hD : va_D A (cs3 cI q0 u0_5 ++ cs3 cI q1 u1) := by rw [e_u0_5]; exact hD
  refine lv_aload_n hx hb dX3_copyFrom_70 rfl (lv_at hl 0 rfl) ?_
  refine lv_aload_n hx hb dX3_copyFrom_71 rfl (lv_at hl 1 rfl) ?_
  refine va_get (D := (dC, dI)) (ci := 3) (v := .int (g3_frameCount u1)) (C := RX3) (T := TX3) (N := 12) hx hb hts inX3_copyFrom_3 hown hK hP 10 rfl rfl 5 (by decide) (hts _ kX3_copyFrom_10) (fun _ h9 => h9) rfl dX3_copyFrom_72 ?_
  refine va_put (D := (dC, dI)) (ci := 3) (v := .int (g3_frameCount u1)) (ty := .int) (C := RX3) (T := TX3) (N := 12) hx hb hts inX3_copyFrom_3 tyX3 tyX3_ok nmX3 hown hK hP hD hS 0 rfl rfl 5 (by decide) (hts _ kX3_copyFrom_10) (fun _ h9 => h9) rfl (tyX3_ok 5 (by decide)) rfl rfl (Nat.le_of_ble_eq_true rfl) dX3_copyFrom_75 (fun H locs hP hD hS => ?_)
  obtain ⟨u0_6, e_u0_6⟩ : ∃ z, z = s3_frameCount u0_5 (g3_frameCount u1) := ⟨_, rfl⟩
  have h := h u0_6 e_u0_6
  have hP : va_P (dC, dI) vwCl (cs3 cI q0 u0_6 ++ cs3 cI q1 u1) H := by rw [e_u0_6]; exact hP
  have hD : va_D A (cs3 cI q0 u0_6 ++ cs3 cI q1 u1) := by rw [e_u0_6]; exact hD
  refine lv_aload_n hx hb dX3_copyFrom_78 rfl (lv_at hl 1 rfl) ?_
  refine va_get (D := (dC, dI)) (ci := 3) (v := .ref (q1 5)) (C := RX3) (T := TX3) (N := 12) hx hb hts inX3_copyFrom_3 hown hK hP 10 rfl rfl 6 (by decide) (hts _ kX3_copyFrom_9) (fun _ h9 => h9) rfl dX3_copyFrom_79 ?_
  refine lv_iconst (v := 0) hx hb dX3_copyFrom_82 (by decide) ?_
  refine lv_aload_n hx hb dX3_copyFrom_83 rfl (lv_at hl 0 rfl) ?_
  refine va_get (D := (dC, dI)) (ci := 3) (v := .ref (q0 5)) (C := RX3) (T := TX3) (N := 12) hx hb hts inX3_copyFrom_3 hown hK hP 0 rfl rfl 6 (by decide) (hts _ kX3_copyFrom_9) (fun _ h9 => h9) rfl dX3_copyFrom_84 ?_
  refine lv_iconst (v := 0) hx hb dX3_copyFrom_87 (by decide) ?_
  refine lv_bipush (v := 8) hx hb dX3_copyFrom_88 (by decide) ?_
  refine va_copyi hx hb (hml.trans hl.1.symm) hown (hts _ kX3_copyFrom_1) (hts _ kX3_copyFrom_2) (hts _ kX3_copyFrom_3) (hts _ kX3_copyFrom_4) hK hP hD hS 15 5 0 0 (ty := .int) rfl rfl rfl rfl rfl h.1.1 h.1.2.1 h.1.2.2.1 h.1.2.2.2.1 h.1.2.2.2.2 (fun _ _ => rfl) (Nat.le_of_ble_eq_true rfl) (Nat.le_of_ble_eq_true rfl) dX3_copyFrom_90 (fun H locs hP hD hS => ?_)
  have h := h.2
  obtain ⟨u0_7, e_u0_7⟩ : ∃ z, z = s3_held u0_6 (va_cpy (g3_held u1) (g3_held u0_6) (0 : Int32).toNatClampNeg (0 : Int32).toNatClampNeg (8 : Int32).toNatClampNeg) := ⟨_, rfl⟩
  have h := h u0_7 e_u0_7
  have hP : va_P (dC, dI) vwCl (cs3 cI q0 u0_7 ++ cs3 cI q1 u1) H := by rw [e_u0_7]; exact hP
  have hD : va_D A (cs3 cI q0 u0_7 ++ cs3 cI q1 u1) := by rw [e_u0_7]; exact hD
  refine lv_aload_n hx hb dX3_copyFrom_93 rfl (lv_at hl 1 rfl) ?_
  refine va_get (D := (dC, dI)) (ci := 3) (v := .ref (q1 6)) (C := RX3) (T := TX3) (N := 12) hx hb hts inX3_copyFrom_3 hown hK hP 10 rfl rfl 7 (by decide) (hts _ kX3_copyFrom_8) (fun _ h9 => h9) rfl dX3_copyFrom_94 ?_
  refine lv_iconst (v := 0) hx hb dX3_copyFrom_97 (by decide) ?_
  refine lv_aload_n hx hb dX3_copyFrom_98 rfl (lv_at hl 0 rfl) ?_
  refine va_get (D := (dC, dI)) (ci := 3) (v := .ref (q0 6)) (C := RX3) (T := TX3) (N := 12) hx hb hts inX3_copyFrom_3 hown hK hP 0 rfl rfl 7 (by decide) (hts _ kX3_copyFrom_8) (fun _ h9 => h9) rfl dX3_copyFrom_99 ?_
  refine lv_iconst (v := 0) hx hb dX3_copyFrom_102 (by decide) ?_
  refine lv_sipush (v := 128) hx hb dX3_copyFrom_103 (by decide) ?_
  refine va_copyi hx hb (hml.trans hl.1.symm) hown (hts _ kX3_copyFrom_1) (hts _ kX3_copyFrom_2) (hts _ kX3_copyFrom_3) (hts _ kX3_copyFrom_4) hK hP hD hS 16 6 0 0 (ty := .int) rfl rfl rfl rfl rfl h.1.1 h.1.2.1 h.1.2.2.1 h.1.2.2.2.1 h.1.2.2.2.2 (fun _ _ => rfl) (Nat.le_of_ble_eq_true rfl) (Nat.le_of_ble_eq_true rfl) dX3_copyFrom_106 (fun H locs hP hD hS => ?_)
  have h := h.2
  obtain ⟨u0_8, e_u0_8⟩ : ∃ z, z = s3_copies u0_7 (va_cpy (g3_copies u1) (g3_copies u0_7) (0 : Int32).toNatClampNeg (0 : Int32).toNatClampNeg (128 : Int32).toNatClampNeg) := ⟨_, rfl⟩
  have h := h u0_8 e_u0_8
  have hP : va_P (dC, dI) vwCl (cs3 cI q0 u0_8 ++ cs3 cI q1 u1) H := by rw [e_u0_8]; exact hP
  have hD : va_D A (cs3 cI q0 u0_8 ++ cs3 cI q1 u1) := by rw [e_u0_8]; exact hD
  refine lv_aload_n hx hb dX3_copyFrom_109 rfl (lv_at hl 1 rfl) ?_
  refine va_get (D := (dC, dI)) (ci := 3) (v := .ref (q1 7)) (C := RX3) (T := TX3) (N := 12) hx hb hts inX3_copyFrom_3 hown hK hP 10 rfl rfl 8 (by decide) (hts _ kX3_copyFrom_7) (fun _ h9 => h9) rfl dX3_copyFrom_110 ?_
  refine lv_iconst (v := 0) hx hb dX3_copyFrom_113 (by decide) ?_
  refine lv_aload_n hx hb dX3_copyFrom_114 rfl (lv_at hl 0 rfl) ?_
  refine va_get (D := (dC, dI)) (ci := 3) (v := .ref (q0 7)) (C := RX3) (T := TX3) (N := 12) hx hb hts inX3_copyFrom_3 hown hK hP 0 rfl rfl 8 (by decide) (hts _ kX3_copyFrom_7) (fun _ h9 => h9) rfl dX3_copyFrom_115 ?_
  refine lv_iconst (v := 0) hx hb dX3_copyFrom_118 (by decide) ?_
  refine lv_bipush (v := 8) hx hb dX3_copyFrom_119 (by decide) ?_
  refine va_copyi hx hb (hml.trans hl.1.symm) hown (hts _ kX3_copyFrom_1) (hts _ kX3_copyFrom_2) (hts _ kX3_copyFrom_3) (hts _ kX3_copyFrom_4) hK hP hD hS 17 7 0 0 (ty := .int) rfl rfl rfl rfl rfl h.1.1 h.1.2.1 h.1.2.2.1 h.1.2.2.2.1 h.1.2.2.2.2 (fun _ _ => rfl) (Nat.le_of_ble_eq_true rfl) (Nat.le_of_ble_eq_true rfl) dX3_copyFrom_121 (fun H locs hP hD hS => ?_)
  have h := h.2
  obtain ⟨u0_9, e_u0_9⟩ : ∃ z, z = s3_stamps u0_8 (va_cpy (g3_stamps u1) (g3_stamps u0_8) (0 : Int32).toNatClampNeg (0 : Int32).toNatClampNeg (8 : Int32).toNatClampNeg) := ⟨_, rfl⟩
  have h := h u0_9 e_u0_9
  have hP : va_P (dC, dI) vwCl (cs3 cI q0 u0_9 ++ cs3 cI q1 u1) H := by rw [e_u0_9]; exact hP
  have hD : va_D A (cs3 cI q0 u0_9 ++ cs3 cI q1 u1) := by rw [e_u0_9]; exact hD
  refine lv_aload_n hx hb dX3_copyFrom_124 rfl (lv_at hl 1 rfl) ?_
  refine va_get (D := (dC, dI)) (ci := 3) (v := .ref (q1 8)) (C := RX3) (T := TX3) (N := 12) hx hb hts inX3_copyFrom_3 hown hK hP 10 rfl rfl 9 (by decide) (hts _ kX3_copyFrom_6) (fun _ h9 => h9) rfl dX3_copyFrom_125 ?_
  refine lv_iconst (v := 0) hx hb dX3_copyFrom_128 (by decide) ?_
  refine lv_aload_n hx hb dX3_copyFrom_129 rfl (lv_at hl 0 rfl) ?_
  refine va_get (D := (dC, dI)) (ci := 3) (v := .ref (q0 8)) (C := RX3) (T := TX3) (N := 12) hx hb hts inX3_copyFrom_3 hown hK hP 0 rfl rfl 9 (by decide) (hts _ kX3_copyFrom_6) (fun _ h9 => h9) rfl dX3_copyFrom_130 ?_
  refine lv_iconst (v := 0) hx hb dX3_copyFrom_133 (by decide) ?_
  refine lv_bipush (v := 8) hx hb dX3_copyFrom_134 (by decide) ?_
  refine va_copyi hx hb (hml.trans hl.1.symm) hown (hts _ kX3_copyFrom_1) (hts _ kX3_copyFrom_2) (hts _ kX3_copyFrom_3) (hts _ kX3_copyFrom_4) hK hP hD hS 18 8 0 0 (ty := .int) rfl rfl rfl rfl rfl h.1.1 h.1.2.1 h.1.2.2.1 h.1.2.2.2.1 h.1.2.2.2.2 (fun _ _ => rfl) (Nat.le_of_ble_eq_true rfl) (Nat.le_of_ble_eq_true rfl) dX3_copyFrom_136 (fun H locs hP hD hS => ?_)
  have h := h.2
  obtain ⟨u0_10, e_u0_10⟩ : ∃ z, z = s3_recs u0_9 (va_cpy (g3_recs u1) (g3_recs u0_9) (0 : Int32).toNatClampNeg (0 : Int32).toNatClampNeg (8 : Int32).toNatClampNeg) := ⟨_, rfl⟩
  have h := h u0_10 e_u0_10
  have hP : va_P (dC, dI) vwCl (cs3 cI q0 u0_10 ++ cs3 cI q1 u1) H := by rw [e_u0_10]; exact hP
  have hD : va_D A (cs3 cI q0 u0_10 ++ cs3 cI q1 u1) := by rw [e_u0_10]; exact hD
  refine lv_aload_n hx hb dX3_copyFrom_139 rfl (lv_at hl 1 rfl) ?_
  refine va_get (D := (dC, dI)) (ci := 3) (v := .ref (q1 9)) (C := RX3) (T := TX3) (N := 12) hx hb hts inX3_copyFrom_3 hown hK hP 10 rfl rfl 10 (by decide) (hts _ kX3_copyFrom_5) (fun _ h9 => h9) rfl dX3_copyFrom_140 ?_
  refine lv_iconst (v := 0) hx hb dX3_copyFrom_143 (by decide) ?_
  refine lv_aload_n hx hb dX3_copyFrom_144 rfl (lv_at hl 0 rfl) ?_
  refine va_get (D := (dC, dI)) (ci := 3) (v := .ref (q0 9)) (C := RX3) (T := TX3) (N := 12) hx hb hts inX3_copyFrom_3 hown hK hP 0 rfl rfl 10 (by decide) (hts _ kX3_copyFrom_5) (fun _ h9 => h9) rfl dX3_copyFrom_145 ?_
  refine lv_iconst (v := 0) hx hb dX3_copyFrom_148 (by decide) ?_
  refine lv_bipush (v := 8) hx hb dX3_copyFrom_149 (by decide) ?_
  refine va_copyi hx hb (hml.trans hl.1.symm) hown (hts _ kX3_copyFrom_1) (hts _ kX3_copyFrom_2) (hts _ kX3_copyFrom_3) (hts _ kX3_copyFrom_4) hK hP hD hS 19 9 0 0 (ty := .int) rfl rfl rfl rfl rfl h.1.1 h.1.2.1 h.1.2.2.1 h.1.2.2.2.1 h.1.2.2.2.2 (fun _ _ => rfl) (Nat.le_of_ble_eq_true rfl) (Nat.le_of_ble_eq_true rfl) dX3_copyFrom_151 (fun H locs hP hD hS => ?_)
  have h := h.2
  obtain ⟨u0_11, e_u0_11⟩ : ∃ z, z = s3_uses u0_10 (va_cpy (g3_uses u1) (g3_uses u0_10) (0 : Int32).toNatClampNeg (0 : Int32).toNatClampNeg (8 : Int32).toNatClampNeg) := ⟨_, rfl⟩
  have h := h u0_11 e_u0_11
  have hP : va_P (dC, dI) vwCl (cs3 cI q0 u0_11 ++ cs3 cI q1 u1) H := by rw [e_u0_11]; exact hP
  have hD : va_D A (cs3 cI q0 u0_11 ++ cs3 cI q1 u1) := by rw [e_u0_11]; exact hD
  refine lv_aload_n hx hb dX3_copyFrom_154 rfl (lv_at hl 0 rfl) ?_
  refine lv_aload_n hx hb dX3_copyFrom_155 rfl (lv_at hl 1 rfl) ?_
  refine va_get (D := (dC, dI)) (ci := 3) (v := .int (g3_clock u1)) (C := RX3) (T := TX3) (N := 12) hx hb hts inX3_copyFrom_3 hown hK hP 10 rfl rfl 11 (by decide) (hts _ kX3_copyFrom_0) (fun _ h9 => h9) rfl dX3_copyFrom_156 ?_
  refine va_put (D := (dC, dI)) (ci := 3) (v := .int (g3_clock u1)) (ty := .int) (C := RX3) (T := TX3) (N := 12) hx hb hts inX3_copyFrom_3 tyX3 tyX3_ok nmX3 hown hK hP hD hS 0 rfl rfl 11 (by decide) (hts _ kX3_copyFrom_0) (fun _ h9 => h9) rfl (tyX3_ok 11 (by decide)) rfl rfl (Nat.le_of_ble_eq_true rfl) dX3_copyFrom_159 (fun H locs hP hD hS => ?_)
  obtain ⟨u0_12, e_u0_12⟩ : ∃ z, z = s3_clock u0_11 (g3_clock u1) := ⟨_, rfl⟩
  have h := h u0_12 e_u0_12
  have hP : va_P (dC, dI) vwCl (cs3 cI q0 u0_12 ++ cs3 cI q1 u1) H := by rw [e_u0_12]; exact hP
  have hD : va_D A (cs3 cI q0 u0_12 ++ cs3 cI q1 u1) := by rw [e_u0_12]; exact hD
  exact hret _ _ _ _ u0_12 dX3_copyFrom_162 h hP hD hS
