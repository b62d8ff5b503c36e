abbrev rX10_isParty : Room := { frames := 0, cells := 0, slots := 0, locals := 0 }
theorem hdX10_isParty : yX10_isParty.cls ≠ "java/lang/invoke/MethodHandle" ∧ yX10_isParty.cls ≠ "java/lang/invoke/VarHandle" ∧ (parseMethodDescriptor yX10_isParty.desc).map (fun d => d.parameters.length) = some 1 := by decide +kernel
set_option maxHeartbeats 4000000 in
set_option maxRecDepth 100000 in
theorem c_X10_isParty {l : Launch} {dC : Nat → ClassId} {dI : Nat → Nat → Nat} {cI : ClassId}  {sz : Nat}  {x0 : Int32} {Q : Int32 → Prop} (h : wp_X10_isParty x0 Q) : ctI noE l yX10_isParty wsX10_isParty rX10_isParty (dC, dI) vwCl [(cI, .int)] [.int x0] ([] : va_W) sz (fun (r : Int32) (_ : Unit) => Q r) (fun (_ : Unit) => ([] : va_W)) := by
  refine mx_i (cc := cX10_isParty) (maxL := 1) (ty := .boolean) (by decide) rfl (Nat.le_of_ble_eq_true rfl) ?_
  intro p e s m below meth c Z A ls args hx hb hml hown hts hA hP hK hD hE hl hret
  have hown : s.vm.findClass RX10 = some m.cls := hown
  have hl : lv_has ls 1 [(0, .int x0)] := hl
  have hS : va_S A s.heap s.heap [] := va_S.rf
  refine lv_iload_n hx hb dX10_isParty_0 rfl (lv_at hl 0 rfl) ?_
  refine lv_iconst (v := 1) hx hb dX10_isParty_1 (by decide) ?_
  refine lv_icmp_lt (tgt := 15) hx hb dX10_isParty_2 (by decide) (fun cd => ?_) (fun cd => ?_)
  · have h := h.1 cd
    refine lv_iconst (v := 0) hx hb dX10_isParty_15 (by decide) ?_
    exact hret _ _ _ _ _ () dX10_isParty_16 (by decide) h hP hD hS
  · have h := h.2 cd
    refine lv_iload_n hx hb dX10_isParty_5 rfl (lv_at hl 0 rfl) ?_
    refine lv_bipush (v := 9) hx hb dX10_isParty_6 (by decide) ?_
    refine lv_icmp_gt (tgt := 15) hx hb dX10_isParty_8 (by decide) (fun cd => ?_) (fun cd => ?_)
    · have h := h.1 cd
      refine lv_iconst (v := 0) hx hb dX10_isParty_15 (by decide) ?_
      exact hret _ _ _ _ _ () dX10_isParty_16 (by decide) h hP hD hS
    · have h := h.2 cd
      refine lv_iconst (v := 1) hx hb dX10_isParty_11 (by decide) ?_
      refine lv_goto (tgt := 16) hx hb dX10_isParty_12 (by decide) ?_
      exact hret _ _ _ _ _ () dX10_isParty_16 (by decide) h hP hD hS

abbrev rX10_isPage : Room := { frames := 0, cells := 0, slots := 0, locals := 0 }
theorem hdX10_isPage : yX10_isPage.cls ≠ "java/lang/invoke/MethodHandle" ∧ yX10_isPage.cls ≠ "java/lang/invoke/VarHandle" ∧ (parseMethodDescriptor yX10_isPage.desc).map (fun d => d.parameters.length) = some 1 := by decide +kernel
set_option maxHeartbeats 4000000 in
set_option maxRecDepth 100000 in
theorem c_X10_isPage {l : Launch} {dC : Nat → ClassId} {dI : Nat → Nat → Nat} {cI : ClassId}  {sz : Nat}  {x0 : Int32} {Q : Int32 → Prop} (h : wp_X10_isPage x0 Q) : ctI noE l yX10_isPage wsX10_isPage rX10_isPage (dC, dI) vwCl [(cI, .int)] [.int x0] ([] : va_W) sz (fun (r : Int32) (_ : Unit) => Q r) (fun (_ : Unit) => ([] : va_W)) := by
  refine mx_i (cc := cX10_isPage) (maxL := 1) (ty := .boolean) (by decide) rfl (Nat.le_of_ble_eq_true rfl) ?_
  intro p e s m below meth c Z A ls args hx hb hml hown hts hA hP hK hD hE hl hret
  have hown : s.vm.findClass RX10 = some m.cls := hown
  have hl : lv_has ls 1 [(0, .int x0)] := hl
  have hS : va_S A s.heap s.heap [] := va_S.rf
  refine lv_iload_n hx hb dX10_isPage_0 rfl (lv_at hl 0 rfl) ?_
  refine lv_if_lt (tgt := 14) hx hb dX10_isPage_1 (by decide) (fun cd => ?_) (fun cd => ?_)
  · have h := h.1 cd
    refine lv_iconst (v := 0) hx hb dX10_isPage_14 (by decide) ?_
    exact hret _ _ _ _ _ () dX10_isPage_15 (by decide) h hP hD hS
  · have h := h.2 cd
    refine lv_iload_n hx hb dX10_isPage_4 rfl (lv_at hl 0 rfl) ?_
    refine lv_bipush (v := 16) hx hb dX10_isPage_5 (by decide) ?_
    refine lv_icmp_ge (tgt := 14) hx hb dX10_isPage_7 (by decide) (fun cd => ?_) (fun cd => ?_)
    · have h := h.1 cd
      refine lv_iconst (v := 0) hx hb dX10_isPage_14 (by decide) ?_
      exact hret _ _ _ _ _ () dX10_isPage_15 (by decide) h hP hD hS
    · have h := h.2 cd
      refine lv_iconst (v := 1) hx hb dX10_isPage_10 (by decide) ?_
      refine lv_goto (tgt := 15) hx hb dX10_isPage_11 (by decide) ?_
      exact hret _ _ _ _ _ () dX10_isPage_15 (by decide) h hP hD hS

abbrev rX8_isLetter : Room := { frames := 0, cells := 0, slots := 0, locals := 0 }
theorem hdX8_isLetter : yX8_isLetter.cls ≠ "java/lang/invoke/MethodHandle" ∧ yX8_isLetter.cls ≠ "java/lang/invoke/VarHandle" ∧ (parseMethodDescriptor yX8_isLetter.desc).map (fun d => d.parameters.length) = some 1 := by decide +kernel
set_option maxHeartbeats 4000000 in
set_option maxRecDepth 100000 in
theorem c_X8_isLetter {l : Launch} {dC : Nat → ClassId} {dI : Nat → Nat → Nat} {cI : ClassId}  {sz : Nat}  {x0 : Int32} {Q : Int32 → Prop} (h : wp_X8_isLetter x0 Q) : ctI noE l yX8_isLetter wsX8_isLetter rX8_isLetter (dC, dI) vwCl [(cI, .int)] [.int x0] ([] : va_W) sz (fun (r : Int32) (_ : Unit) => Q r) (fun (_ : Unit) => ([] : va_W)) := by
  refine mx_i (cc := cX8_isLetter) (maxL := 1) (ty := .boolean) (by decide) rfl (Nat.le_of_ble_eq_true rfl) ?_
  intro p e s m below meth c Z A ls args hx hb hml hown hts hA hP hK hD hE hl hret
  have hown : s.vm.findClass RX8 = some m.cls := hown
  have hl : lv_has ls 1 [(0, .int x0)] := hl
  have w_12 : ∀ (x0 : Int32) (H : Heap) (locs : List Loc) (ls : Array Slot) (_ : va_P (dC, dI) vwCl ([] : va_W) H) (_ : va_D A ([] : va_W)) (_ : va_S A s.heap H locs) (_ : lv_has ls 1 [(0, .int x0)]) (_ : wp_X8_isLetter_12 Q x0), W p l e rX8_isLetter s m args below meth c H locs 0 0 Z (F0 m 12 ls []) := by
    intro x0 H locs ls hP hD hS hl h
    refine lv_iload_n hx hb dX8_isLetter_12 rfl (lv_at hl 0 rfl) ?_
    refine lv_bipush (v := 65) hx hb dX8_isLetter_13 (by decide) ?_
    refine lv_icmp_lt (tgt := 28) hx hb dX8_isLetter_15 (by decide) (fun cd => ?_) (fun cd => ?_)
    · have h := h.1 cd
      refine lv_iconst (v := 0) hx hb dX8_isLetter_28 (by decide) ?_
      exact hret _ _ _ _ _ () dX8_isLetter_29 (by decide) h hP hD hS
    · have h := h.2 cd
      refine lv_iload_n hx hb dX8_isLetter_18 rfl (lv_at hl 0 rfl) ?_
      refine lv_bipush (v := 90) hx hb dX8_isLetter_19 (by decide) ?_
      refine lv_icmp_gt (tgt := 28) hx hb dX8_isLetter_21 (by decide) (fun cd => ?_) (fun cd => ?_)
      · have h := h.1 cd
        refine lv_iconst (v := 0) hx hb dX8_isLetter_28 (by decide) ?_
        exact hret _ _ _ _ _ () dX8_isLetter_29 (by decide) h hP hD hS
      · have h := h.2 cd
        refine lv_iconst (v := 1) hx hb dX8_isLetter_24 (by decide) ?_
        refine lv_goto (tgt := 29) hx hb dX8_isLetter_25 (by decide) ?_
        exact hret _ _ _ _ _ () dX8_isLetter_29 (by decide) h hP hD hS
  have hS : va_S A s.heap s.heap [] := va_S.rf
  refine lv_iload_n hx hb dX8_isLetter_0 rfl (lv_at hl 0 rfl) ?_
  refine lv_bipush (v := 97) hx hb dX8_isLetter_1 (by decide) ?_
  refine lv_icmp_lt (tgt := 12) hx hb dX8_isLetter_3 (by decide) (fun cd => ?_) (fun cd => ?_)
  · have h := h.1 cd
    exact w_12 x0 _ _ _ hP hD hS (lv_sub hl [0] rfl) h
  · have h := h.2 cd
    refine lv_iload_n hx hb dX8_isLetter_6 rfl (lv_at hl 0 rfl) ?_
    refine lv_bipush (v := 122) hx hb dX8_isLetter_7 (by decide) ?_
    refine lv_icmp_le (tgt := 24) hx hb dX8_isLetter_9 (by decide) (fun cd => ?_) (fun cd => ?_)
    · have h := h.1 cd
      refine lv_iconst (v := 1) hx hb dX8_isLetter_24 (by decide) ?_
      refine lv_goto (tgt := 29) hx hb dX8_isLetter_25 (by decide) ?_
      exact hret _ _ _ _ _ () dX8_isLetter_29 (by decide) h hP hD hS
    · have h := h.2 cd
      exact w_12 x0 _ _ _ hP hD hS (lv_sub hl [0] rfl) h

abbrev rX8_isDigit : Room := { frames := 0, cells := 0, slots := 0, locals := 0 }
theorem hdX8_isDigit : yX8_isDigit.cls ≠ "java/lang/invoke/MethodHandle" ∧ yX8_isDigit.cls ≠ "java/lang/invoke/VarHandle" ∧ (parseMethodDescriptor yX8_isDigit.desc).map (fun d => d.parameters.length) = some 1 := by decide +kernel
set_option maxHeartbeats 4000000 in
set_option maxRecDepth 100000 in
theorem c_X8_isDigit {l : Launch} {dC : Nat → ClassId} {dI : Nat → Nat → Nat} {cI : ClassId}  {sz : Nat}  {x0 : Int32} {Q : Int32 → Prop} (h : wp_X8_isDigit x0 Q) : ctI noE l yX8_isDigit wsX8_isDigit rX8_isDigit (dC, dI) vwCl [(cI, .int)] [.int x0] ([] : va_W) sz (fun (r : Int32) (_ : Unit) => Q r) (fun (_ : Unit) => ([] : va_W)) := by
  refine mx_i (cc := cX8_isDigit) (maxL := 1) (ty := .boolean) (by decide) rfl (Nat.le_of_ble_eq_true rfl) ?_
  intro p e s m below meth c Z A ls args hx hb hml hown hts hA hP hK hD hE hl hret
  have hown : s.vm.findClass RX8 = some m.cls := hown
  have hl : lv_has ls 1 [(0, .int x0)] := hl
  have hS : va_S A s.heap s.heap [] := va_S.rf
  refine lv_iload_n hx hb dX8_isDigit_0 rfl (lv_at hl 0 rfl) ?_
  refine lv_bipush (v := 48) hx hb dX8_isDigit_1 (by decide) ?_
  refine lv_icmp_lt (tgt := 16) hx hb dX8_isDigit_3 (by decide) (fun cd => ?_) (fun cd => ?_)
  · have h := h.1 cd
    refine lv_iconst (v := 0) hx hb dX8_isDigit_16 (by decide) ?_
    exact hret _ _ _ _ _ () dX8_isDigit_17 (by decide) h hP hD hS
  · have h := h.2 cd
    refine lv_iload_n hx hb dX8_isDigit_6 rfl (lv_at hl 0 rfl) ?_
    refine lv_bipush (v := 57) hx hb dX8_isDigit_7 (by decide) ?_
    refine lv_icmp_gt (tgt := 16) hx hb dX8_isDigit_9 (by decide) (fun cd => ?_) (fun cd => ?_)
    · have h := h.1 cd
      refine lv_iconst (v := 0) hx hb dX8_isDigit_16 (by decide) ?_
      exact hret _ _ _ _ _ () dX8_isDigit_17 (by decide) h hP hD hS
    · have h := h.2 cd
      refine lv_iconst (v := 1) hx hb dX8_isDigit_12 (by decide) ?_
      refine lv_goto (tgt := 17) hx hb dX8_isDigit_13 (by decide) ?_
      exact hret _ _ _ _ _ () dX8_isDigit_17 (by decide) h hP hD hS
