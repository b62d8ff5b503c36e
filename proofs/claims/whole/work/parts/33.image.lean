def wp_X10_image_j (u0 : S10) (u1 : S9) (x1 : Int32) (Q : Int32 → S10 → S9 → Prop) : Prop := wp_X9_copyFrom u1 (g10_now u0) (fun v_1 => Q 1 u0 v_1)
def wp_X10_image_b (u0 : S10) (u1 : S9) (x1 : Int32) (Q : Int32 → S10 → S9 → Prop) : Prop := wp_X9_copyFrom (g10_now u0) u1 (fun v_1 => ∀ u0_2 : S10, u0_2 = s10_now u0 v_1 → (Q 1 u0_2 u1))
def wp_X10_image_s (u0 : S10) (u1 : S9) (x1 : Int32) (Q : Int32 → S10 → S9 → Prop) : Prop := (x1 = 0 → wp_X10_image_b u0 u1 x1 Q) ∧ (¬ x1 = 0 → wp_X10_image_j u0 u1 x1 Q)
def wp_X10_image_n (u0 : S10) (x1 : Int32) (Q0 : Int32 → Prop) (Q : Int32 → S10 → S9 → Prop) : Prop := (x1 = 0 → Q0 0) ∧ (¬ x1 = 0 → ∀ a : Nat, wp_X10_image_j (s10_kept u0 (some a)) i9 x1 Q)
set_option maxHeartbeats 4000000 in
set_option maxRecDepth 100000 in
theorem cutp_98 (cI : ClassId) (q0 : Nat → Nat) (q1 : Nat → Nat) (u0 : S10) (u1 : S9) : CutP (cs10 cI q0 u0 ++ cs9 cI q1 u1) (cs9 cI (fun i => q0 (i + 1)) (g10_now u0) ++ cs9 cI q1 u1) (fun v : S9 => cs9 cI (fun i => q0 (i + 1)) v ++ cs9 cI q1 u1) (fun v : S9 => (cs10 cI q0 (s10_now u0 v) ++ cs9 cI q1 u1)) := cutp_twoE (a := List.take 1 (cs10 cI q0 u0 ++ cs9 cI q1 u1)) (b := List.take 11 (List.drop 31 (cs10 cI q0 u0 ++ cs9 cI q1 u1))) (c := List.drop 72 (cs10 cI q0 u0 ++ cs9 cI q1 u1)) (wc := cs9 cI (fun i => q0 (i + 1)) (g10_now u0)) (wd := cs9 cI q1 u1) (cf := fun v : S9 => cs9 cI (fun i => q0 (i + 1)) v) (cg := fun v : S9 => cs9 cI q1 u1) rfl (fun _ => rfl)
abbrev rX10_image : Room := { frames := 3, cells := 30, slots := 10408, locals := 82 }
theorem hdX10_image : yX10_image.cls = RX10 ∧ yX10_image.cls ≠ "java/lang/invoke/MethodHandle" ∧ yX10_image.cls ≠ "java/lang/invoke/VarHandle" ∧ (parseMethodDescriptor yX10_image.desc).map (fun d => d.parameters.length) = some 1 := by decide +kernel
theorem inX10_image_10 : ∀ w ∈ wsX100, w ∈ wsX10_image := by decide +kernel
theorem inX10_image_9 : ∀ w ∈ wsX90, w ∈ wsX10_image := by decide +kernel
theorem kX10_image_0 : Cond.fieldLink RX10 10 "AheadStore" "now" "LAheadStore$World;" ∈ wsX10_image := by decide +kernel
theorem kX10_image_1 : Cond.fieldLink RX10 309 "AheadStore" "kept" "LAheadStore$World;" ∈ wsX10_image := by decide +kernel
theorem kX10_image_2 : Cond.classLink RX10 7 RX9 ∈ wsX10_image := by decide +kernel
theorem kX10_image_3 : Cond.instantiable RX9 11 ∈ wsX10_image := by decide +kernel
theorem kX10_image_4 : Cond.initialized RX9 ∈ wsX10_image := by decide +kernel
theorem kX10_image_5 : Cond.instanceMethod yX9_init ∈ wsX10_image := by decide +kernel
set_option maxHeartbeats 4000000 in
set_option maxRecDepth 100000 in
theorem wb_X10_image_j {l : Launch} {dC : Nat → ClassId} {dI : Nat → Nat → Nat} {cI : ClassId} {p : Program} {e : Env} {s : State} {m : MethodId} {below : List Frame} {meth : Method} {c : Code} {Z : State → Prop} {A : Nat → Prop} {args : Array Value} {q0 q1 : Nat → Nat} {u0 : S10} {u1 : S9} {x1 : Int32} {Q : Int32 → S10 → S9 → Prop} {H : Heap} {locs : List Loc} {ls : Array Slot} (hx : p.tables.exec = Jvm.exec) (hb : c.code = cX10_image) (hml : c.maxLocals = 2) (hown : s.vm.findClass RX10 = some m.cls) (hts : ∀ w ∈ wsX10_image, w.before args s = true) (hA : ∀ q : Nat, s.heap.size ≤ q → A q) (hK : va_K (dC, dI) vwCl [(cI, .int)] s) (hE : sxE A s) (hret : ∀ (H : Heap) (locs : List Loc) (ls : Array Slot) (pc : Nat) (v : Int32) (u : S10 × S9), decode cX10_image pc = .ok (.ireturn, 1) → narrow .boolean (.int v) = .int v → g10_kept u.1 = some (q1 0) ∧ Q v u.1 u.2 → va_P (dC, dI) vwCl (cs10 cI q0 u.1 ++ cs9 cI q1 u.2) H → va_D A (cs10 cI q0 u.1 ++ cs9 cI q1 u.2) → va_S A s.heap H locs → W p l e rX10_image s m args below meth c H locs 30 10408 Z (F0 m pc ls [.int v])) (hP : va_P (dC, dI) vwCl (cs10 cI q0 u0 ++ cs9 cI q1 u1) H) (hD : va_D A (cs10 cI q0 u0 ++ cs9 cI q1 u1)) (hS : va_S A s.heap H locs) (hl : lv_has ls 2 [(0, .ref (q0 0)), (1, .int x1)]) (hT : g10_kept u0 = some (q1 0)) (h : wp_X10_image_j u0 u1 x1 Q) : W p l e rX10_image s m args below meth c H locs 30 10408 Z (F0 m 22 ls []) := by
  refine lv_aload_n hx hb dX10_image_22 rfl (lv_at hl 0 rfl) ?_
  refine va_get (D := (dC, dI)) (ci := 10) (v := va_rf (g10_kept u0)) (C := RX10) (T := TX10) (N := 6) hx hb hts inX10_image_10 hown hK hP 0 rfl rfl 5 (by decide) (hts _ kX10_image_1) (fun _ h9 => h9) rfl dX10_image_23 ?_
  rw [rf_some hT]
  refine lv_aload_n hx hb dX10_image_26 rfl (lv_at hl 0 rfl) ?_
  refine va_get (D := (dC, dI)) (ci := 10) (v := .ref (q0 1)) (C := RX10) (T := TX10) (N := 6) hx hb hts inX10_image_10 hown hK hP 0 rfl rfl 0 (by decide) (hts _ kX10_image_0) (fun _ h9 => h9) rfl dX10_image_27 ?_
  refine cx_vvg (As := [.ref (q0 1)]) (rest := []) ⟨hx, hb, hml, hown, hts⟩ hl.1 ok_sxE hE hK hP hD hS hA (cutp_97 cI q0 q1 u0 u1) (c_X9_copyFrom (l := l) (dC := dC) (dI := dI) (cI := cI) (q0 := q1) (q1 := fun i => q0 (i + 1)) h) (cwV 1 hts gX10_image_X9_copyFrom rfl rfl rfl hdX9_copyFrom ⟨Nat.le_of_ble_eq_true rfl, Nat.le_of_ble_eq_true rfl⟩) rfl rfl rfl rfl (Nat.le_of_ble_eq_true rfl) dX10_image_30 rfl ⟨Nat.le_of_ble_eq_true rfl, Nat.le_of_ble_eq_true rfl⟩ (fun v_1 H locs h hP hD hS => ?_)
  have hP : va_P (dC, dI) vwCl (cs10 cI q0 u0 ++ cs9 cI q1 v_1) H :=  hP
  have hD : va_D A (cs10 cI q0 u0 ++ cs9 cI q1 v_1) :=  hD
  refine lv_iconst (v := 1) hx hb dX10_image_33 (by decide) ?_
  exact hret _ _ _ _ _ (u0, v_1) dX10_image_34 (by decide) ⟨hT, h⟩ hP hD hS
set_option maxHeartbeats 4000000 in
set_option maxRecDepth 100000 in
theorem wb_X10_image_b {l : Launch} {dC : Nat → ClassId} {dI : Nat → Nat → Nat} {cI : ClassId} {p : Program} {e : Env} {s : State} {m : MethodId} {below : List Frame} {meth : Method} {c : Code} {Z : State → Prop} {A : Nat → Prop} {args : Array Value} {q0 q1 : Nat → Nat} {u0 : S10} {u1 : S9} {x1 : Int32} {Q : Int32 → S10 → S9 → Prop} {H : Heap} {locs : List Loc} {ls : Array Slot} (hx : p.tables.exec = Jvm.exec) (hb : c.code = cX10_image) (hml : c.maxLocals = 2) (hown : s.vm.findClass RX10 = some m.cls) (hts : ∀ w ∈ wsX10_image, w.before args s = true) (hA : ∀ q : Nat, s.heap.size ≤ q → A q) (hK : va_K (dC, dI) vwCl [(cI, .int)] s) (hE : sxE A s) (hret : ∀ (H : Heap) (locs : List Loc) (ls : Array Slot) (pc : Nat) (v : Int32) (u : S10 × S9), decode cX10_image pc = .ok (.ireturn, 1) → narrow .boolean (.int v) = .int v → g10_kept u.1 = some (q1 0) ∧ Q v u.1 u.2 → va_P (dC, dI) vwCl (cs10 cI q0 u.1 ++ cs9 cI q1 u.2) H → va_D A (cs10 cI q0 u.1 ++ cs9 cI q1 u.2) → va_S A s.heap H locs → W p l e rX10_image s m args below meth c H locs 30 10408 Z (F0 m pc ls [.int v])) (hP : va_P (dC, dI) vwCl (cs10 cI q0 u0 ++ cs9 cI q1 u1) H) (hD : va_D A (cs10 cI q0 u0 ++ cs9 cI q1 u1)) (hS : va_S A s.heap H locs) (hl : lv_has ls 2 [(0, .ref (q0 0)), (1, .int x1)]) (hT : g10_kept u0 = some (q1 0)) (h : wp_X10_image_b u0 u1 x1 Q) : W p l e rX10_image s m args below meth c H locs 30 10408 Z (F0 m 44 ls []) := by
  refine lv_aload_n hx hb dX10_image_44 rfl (lv_at hl 0 rfl) ?_
  refine va_get (D := (dC, dI)) (ci := 10) (v := .ref (q0 1)) (C := RX10) (T := TX10) (N := 6) hx hb hts inX10_image_10 hown hK hP 0 rfl rfl 0 (by decide) (hts _ kX10_image_0) (fun _ h9 => h9) rfl dX10_image_45 ?_
  refine lv_aload_n hx hb dX10_image_48 rfl (lv_at hl 0 rfl) ?_
  refine va_get (D := (dC, dI)) (ci := 10) (v := va_rf (g10_kept u0)) (C := RX10) (T := TX10) (N := 6) hx hb hts inX10_image_10 hown hK hP 0 rfl rfl 5 (by decide) (hts _ kX10_image_1) (fun _ h9 => h9) rfl dX10_image_49 ?_
  rw [rf_some hT]
  refine cx_vvg (As := [.ref (q1 0)]) (rest := []) ⟨hx, hb, hml, hown, hts⟩ hl.1 ok_sxE hE hK hP hD hS hA (cutp_98 cI q0 q1 u0 u1) (c_X9_copyFrom (l := l) (dC := dC) (dI := dI) (cI := cI) (q0 := fun i => q0 (i + 1)) (q1 := q1) h) (cwV 1 hts gX10_image_X9_copyFrom rfl rfl rfl hdX9_copyFrom ⟨Nat.le_of_ble_eq_true rfl, Nat.le_of_ble_eq_true rfl⟩) rfl rfl rfl rfl (Nat.le_of_ble_eq_true rfl) dX10_image_52 rfl ⟨Nat.le_of_ble_eq_true rfl, Nat.le_of_ble_eq_true rfl⟩ (fun v_1 H locs h hP hD hS => ?_)
  obtain ⟨u0_2, e_u0_2⟩ : ∃ z, z = s10_now u0 v_1 := ⟨_, rfl⟩
  have h := h u0_2 e_u0_2
  have hT : g10_kept u0_2 = some (q1 0) := by rw [e_u0_2]; exact hT
  have hP : va_P (dC, dI) vwCl (cs10 cI q0 u0_2 ++ cs9 cI q1 u1) H := by rw [e_u0_2]; exact hP
  have hD : va_D A (cs10 cI q0 u0_2 ++ cs9 cI q1 u1) := by rw [e_u0_2]; exact hD
  refine lv_iconst (v := 1) hx hb dX10_image_55 (by decide) ?_
  exact hret _ _ _ _ _ (u0_2, u1) dX10_image_56 (by decide) ⟨hT, h⟩ hP hD hS
set_option maxHeartbeats 4000000 in
set_option maxRecDepth 100000 in
theorem c_X10_image_s {l : Launch} {dC : Nat → ClassId} {dI : Nat → Nat → Nat} {cI : ClassId} {q0 q1 : Nat → Nat} {sz : Nat} {u0 : S10} {u1 : S9} {x1 : Int32} {Q : Int32 → S10 → S9 → Prop} (hT : g10_kept u0 = some (q1 0)) (h : wp_X10_image_s u0 u1 x1 Q) : ctM sxE l yX10_image wsX10_image rX10_image (dC, dI) vwCl [(cI, .int)] [.ref (q0 0), .int x1] (cs10 cI q0 u0 ++ cs9 cI q1 u1) sz 30 10408 (fun (r : Int32) (v : S10 × S9) => g10_kept v.1 = some (q1 0) ∧ Q r v.1 v.2) (fun v => cs10 cI q0 v.1 ++ cs9 cI q1 v.2) := by
  refine mx_m (cc := cX10_image) (maxL := 2) (ty := .boolean) (by decide) rfl (Nat.le_of_ble_eq_true rfl) ?_
  intro p e s m below meth c Z A ls args hx hb hml hown hts hA hP hK hD hE hl hret
  have hown : s.vm.findClass RX10 = some m.cls := hown
  have hl : lv_has ls 2 [(0, .ref (q0 0)), (1, .int x1)] := hl
  have hS : va_S A s.heap s.heap [] := va_S.rf
  refine lv_iload_n hx hb dX10_image_0 rfl (lv_at hl 1 rfl) ?_
  refine lv_if_eq (tgt := 35) hx hb dX10_image_1 (by decide) (fun cd => ?_) (fun cd => ?_)
  · have h := h.1 cd
    refine lv_aload_n hx hb dX10_image_35 rfl (lv_at hl 0 rfl) ?_
    refine va_get (D := (dC, dI)) (ci := 10) (v := va_rf (g10_kept u0)) (C := RX10) (T := TX10) (N := 6) hx hb hts inX10_image_10 hown hK hP 0 rfl rfl 5 (by decide) (hts _ kX10_image_1) (fun _ h9 => h9) rfl dX10_image_36 ?_
    rw [rf_some hT]
    refine lv_ifnonnull (tgt := 44) hx hb dX10_image_39 (by decide) ?_
    refine W.widen (k := 30) (n := 10408) (by decide) (by decide) ?_
    exact wb_X10_image_b hx hb hml hown hts hA hK hE hret hP hD hS hl hT h
  · have h := h.2 cd
    refine lv_aload_n hx hb dX10_image_4 rfl (lv_at hl 0 rfl) ?_
    refine va_get (D := (dC, dI)) (ci := 10) (v := va_rf (g10_kept u0)) (C := RX10) (T := TX10) (N := 6) hx hb hts inX10_image_10 hown hK hP 0 rfl rfl 5 (by decide) (hts _ kX10_image_1) (fun _ h9 => h9) rfl dX10_image_5 ?_
    rw [rf_some hT]
    refine lv_ifnonnull (tgt := 22) hx hb dX10_image_8 (by decide) ?_
    refine W.widen (k := 30) (n := 10408) (by decide) (by decide) ?_
    exact wb_X10_image_j hx hb hml hown hts hA hK hE hret hP hD hS hl hT h
set_option maxHeartbeats 4000000 in
set_option maxRecDepth 100000 in
theorem c_X10_image_n {l : Launch} {dC : Nat → ClassId} {dI : Nat → Nat → Nat} {cI : ClassId} {q0 : Nat → Nat} {sz : Nat} {u0 : S10} {x1 : Int32} {Q0 : Int32 → Prop} {Q : Int32 → S10 → S9 → Prop} (hN : g10_kept u0 = none) (h : wp_X10_image_n u0 x1 Q0 Q) : ctM sxE l yX10_image wsX10_image rX10_image (dC, dI) vwCl [(cI, .int)] [.ref (q0 0), .int x1] (cs10 cI q0 u0) sz 30 10408 (fun (r : Int32) (v : Option ((Nat → Nat) × S10 × S9)) => match v with | none => Q0 r | some v => g10_kept v.2.1 = some (v.1 0) ∧ Q r v.2.1 v.2.2) (fun v => match v with | none => cs10 cI q0 u0 | some v => cs10 cI q0 v.2.1 ++ cs9 cI v.1 v.2.2) := by
  refine mx_m (cc := cX10_image) (maxL := 2) (ty := .boolean) (by decide) rfl (Nat.le_of_ble_eq_true rfl) ?_
  intro p e s m below meth c Z A ls args hx hb hml hown hts hA hP hK hD hE hl hret
  have hown : s.vm.findClass RX10 = some m.cls := hown
  have hl : lv_has ls 2 [(0, .ref (q0 0)), (1, .int x1)] := hl
  have hS : va_S A s.heap s.heap [] := va_S.rf
  refine lv_iload_n hx hb dX10_image_0 rfl (lv_at hl 1 rfl) ?_
  refine lv_if_eq (tgt := 35) hx hb dX10_image_1 (by decide) (fun cd => ?_) (fun cd => ?_)
  · have h := h.1 cd
    refine lv_aload_n hx hb dX10_image_35 rfl (lv_at hl 0 rfl) ?_
    refine va_get (D := (dC, dI)) (ci := 10) (v := va_rf (g10_kept u0)) (C := RX10) (T := TX10) (N := 6) hx hb hts inX10_image_10 hown hK hP 0 rfl rfl 5 (by decide) (hts _ kX10_image_1) (fun _ h9 => h9) rfl dX10_image_36 ?_
    rw [rf_none hN]
    refine lv_ifnonnullN hx hb dX10_image_39 ?_
    refine lv_iconst (v := 0) hx hb dX10_image_42 (by decide) ?_
    refine W.widen (k := 30) (n := 10408) (by decide) (by decide) ?_
    exact hret _ _ _ _ _ none dX10_image_43 (by decide) h hP hD hS
  · have h := h.2 cd
    refine lv_aload_n hx hb dX10_image_4 rfl (lv_at hl 0 rfl) ?_
    refine va_get (D := (dC, dI)) (ci := 10) (v := va_rf (g10_kept u0)) (C := RX10) (T := TX10) (N := 6) hx hb hts inX10_image_10 hown hK hP 0 rfl rfl 5 (by decide) (hts _ kX10_image_1) (fun _ h9 => h9) rfl dX10_image_5 ?_
    rw [rf_none hN]
    refine lv_ifnonnullN hx hb dX10_image_8 ?_
    refine lv_aload_n hx hb dX10_image_11 rfl (lv_at hl 0 rfl) ?_
    refine va_new (ci := 9) (fs := [.null, .null, .null, .null, .null, .null, .int 0, .int 0, .int 0, .int 0, .int 0]) (C := RX9) (T := TX9) (N := 11) hx hb hts inX10_image_9 tyX9 tyX9_ok hown (hts _ kX10_image_2) (hts _ kX10_image_3) (hts _ kX10_image_4) hK hP hD hS hA rfl (fun j hj => by rcases (show j = 0 ∨ j = 1 ∨ j = 2 ∨ j = 3 ∨ j = 4 ∨ j = 5 ∨ j = 6 ∨ j = 7 ∨ j = 8 ∨ j = 9 ∨ j = 10 by omega) with rfl | rfl | rfl | rfl | rfl | rfl | rfl | rfl | rfl | rfl | rfl <;> rfl) (Nat.le_of_ble_eq_true rfl) (Nat.le_of_ble_eq_true rfl) dX10_image_12 (fun qn H hP hD hS => ?_)
    have hP : va_P (dC, dI) vwCl (cs10 cI q0 u0 ++ [(qn, .inr (9, [.null, .null, .null, .null, .null, .null, .int 0, .int 0, .int 0, .int 0, .int 0]))]) H := hP
    have hD : va_D A (cs10 cI q0 u0 ++ [(qn, .inr (9, [.null, .null, .null, .null, .null, .null, .int 0, .int 0, .int 0, .int 0, .int 0]))]) := hD
    refine W.widen (k := 1) (n := 11) (by decide) (by decide) ?_
    refine lv_dup hx hb dX10_image_15 rfl ?_
    refine cx_nc (rest := [.ref qn, .ref (q0 0)]) ⟨hx, hb, hml, hown, hts⟩ hl.1 ok_sxE hE hK hP hD hS hA (show Cut (cs10 cI q0 u0 ++ [(qn, .inr (9, [.null, .null, .null, .null, .null, .null, .int 0, .int 0, .int 0, .int 0, .int 0]))]) [(qn, .inr (9, [.null, .null, .null, .null, .null, .null, .int 0, .int 0, .int 0, .int 0, .int 0]))] (fun q1 => cs9 cI q1 i9) (fun q1 => (cs10 cI q0 u0 ++ cs9 cI q1 i9)) from ⟨[42], [0, 1, 2, 3, 4, 5, 6, 7, 8, 9, 10, 11, 12, 13, 14, 15, 16, 17, 18, 19, 20, 21, 22, 23, 24, 25, 26, 27, 28, 29, 30, 31, 32, 33, 34, 35, 36, 37, 38, 39, 40, 41], rfl, rfl, rfl, by decide, by decide, fun _ => ⟨[0, 1, 2, 3, 4, 5, 6, 7, 8, 9, 10, 11, 12, 13, 14, 15, 16, 17, 18, 19, 20, 21, 22, 23, 24, 25, 26, 27, 28, 29, 30, 31, 32, 33, 34, 35, 36, 37, 38, 39, 40, 41, 42, 43, 44, 45, 46, 47, 48, 49, 50, 51, 52, 53, 54, 55, 56, 57, 58, 59, 60, 61, 62, 63, 64, 65, 66, 67, 68, 69, 70, 71], rfl, rfl⟩⟩) (i_X9 (l := l) (dC := dC) (dI := dI) (cI := cI)) ⟨va_cnB 0 hts gX10_image_X9_init_n9 rfl rfl rfl (hE.1.1 (RX10, 9, yX9_init, "AheadStore") (List.mem_of_getElem? (i := 1) rfl)) (hts _ kX10_image_4) hdX9_init ⟨Nat.le_of_ble_eq_true rfl, Nat.le_of_ble_eq_true rfl⟩, rfl, hts _ kX10_image_5⟩ (Nat.le_of_ble_eq_true rfl) dX10_image_16 rfl ⟨Nat.le_of_ble_eq_true rfl, Nat.le_of_ble_eq_true rfl⟩ (fun q1 H locs hq hPn hDn hSn => ?_)
    have hq := hq.symm
    subst hq
    have hP := hPn
    have hD := hDn
    have hS := hSn
    refine W.widen (k := 30) (n := 10408) (by decide) (by decide) ?_
    refine va_put (D := (dC, dI)) (ci := 10) (v := .ref (q1 0)) (ty := (.object "AheadStore$World")) (C := RX10) (T := TX10) (N := 6) hx hb hts inX10_image_10 tyX10 tyX10_ok nmX10 hown hK hP hD hS 0 rfl rfl 5 (by decide) (hts _ kX10_image_1) (fun _ h9 => h9) rfl (tyX10_ok 5 (by decide)) rfl rfl (Nat.le_of_ble_eq_true rfl) dX10_image_19 (fun H locs hP hD hS => ?_)
    have hP : va_P (dC, dI) vwCl (cs10 cI q0 (s10_kept u0 (some (q1 0))) ++ cs9 cI q1 i9) H := hP
    have hD : va_D A (cs10 cI q0 (s10_kept u0 (some (q1 0))) ++ cs9 cI q1 i9) := hD
    exact wb_X10_image_j hx hb hml hown hts hA hK hE (fun H locs ls pc v u hd hn hp hP hD hS => hret H locs ls pc v (some (q1, u.1, u.2)) hd hn hp hP hD hS) hP hD hS hl rfl (h (q1 0))
