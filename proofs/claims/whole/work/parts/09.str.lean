/-! ===== the String constant of the words: length and charAt of it ===== -/
def stE (a v : Nat) : (Nat → Prop) → State → Prop := fun A U => va_O "java/lang/String" a A U U.heap ∧ va_OF "java/lang/String" "coder" "B" (.int 0) a A U U.heap ∧ va_OF "java/lang/String" "value" "[B" (.ref v) a A U U.heap ∧ va_T .byte v 77 (fun j => .int (st_WORDS j)) A U U.heap ∧ va_Z "java/lang/String" "COMPACT_STRINGS" "Z" (.int 1) A U U.heap ∧ va_Zq "jdk/internal/util/Preconditions" "SIOOBE_FORMATTER" "Ljava/util/function/BiFunction;" A U U.heap
theorem ok_stE (a v : Nat) : okE (stE a v) := by
  refine ⟨fun A x U g mk h => ?_, fun A B s U h hW hh hAB => ?_⟩
  · obtain ⟨h1, h2, h3, h4, h5, h6⟩ := h
    exact ⟨va_O.moved (u := U) (Vm.Alike.refl U.vm) h1, va_OF.moved (u := U) (Vm.Alike.refl U.vm) h2, va_OF.moved (u := U) (Vm.Alike.refl U.vm) h3, va_T.moved (u := U) (Vm.Alike.refl U.vm) h4, va_Z.moved (u := U) (Vm.Alike.refl U.vm) h5, va_Zq.moved (u := U) (Vm.Alike.refl U.vm) h6⟩
  · obtain ⟨h1, h2, h3, h4, h5, h6⟩ := h
    exact ⟨(va_O.moved hW.alike (h1.kept hh)).narrow hAB, (va_OF.moved hW.alike (h2.kept hh)).narrow hAB, (va_OF.moved hW.alike (h3.kept hh)).narrow hAB, (va_T.moved hW.alike (h4.kept hh)).narrow hAB, (va_Z.moved hW.alike (h5.kept hh)).narrow hAB, (va_Zq.moved hW.alike (h6.kept hh)).narrow hAB⟩
def stR (a : Nat) (U : State) : Prop := vk_R "AheadStore$Tape" 98 "begin write add save back open close commit abort roll flush page check over " a U
theorem ok_stR (a : Nat) : okE (fun _ U => stR a U) := ⟨fun A x U g mk h => vk_R.same rfl h, fun A B s U h hW hh hAB => vk_R.warm hW h⟩
def tyE : (Nat → Prop) → State → Prop := fun A U => sxE A U ∧ ∃ a v : Nat, stR a U ∧ stE a v A U
theorem ok_tyE : okE tyE := ok_and ok_sxE ⟨fun A x U g mk ⟨a, v, h1, h2⟩ => ⟨a, v, (ok_stR a).1 A x U g mk h1, (ok_stE a v).1 A x U g mk h2⟩, fun A B s U ⟨a, v, h1, h2⟩ hW hh hAB => ⟨a, v, (ok_stR a).2 A B s U h1 hW hh hAB, (ok_stE a v).2 A B s U h2 hW hh hAB⟩⟩
section CT
variable {p : Program} {l : Launch} {e : Env} {R : Room} {s : State} {m : MethodId} {args : Array Value} {below : List Frame} {meth : Method} {c : Code} {H : Heap} {locs : List Loc} {Z : State → Prop}
variable {pc : Nat} {ls : Array Slot} {rest st0 : List Value} {A : Nat → Prop}
variable {y : MethodName} {bytes cc : ByteArray} {maxL nL n index : Nat} {ret : Option FieldType} {wsy : List Cond} {rmy : Room} {Ts : List Cond} {own C host : String} {b : Addr} {As : List Value}
variable {D : va_G} {cl : List vw_C} {tys : List (ClassId × FieldType)} {ws : va_W} {E : (Nat → Prop) → State → Prop}
theorem ct_keep {H1 : Heap} (hP : va_P D cl ws H) (hk : ∀ q : Nat, q < H.size → ¬ va_A [] H.size q → H1[q]? = H[q]?) : va_P D cl ws H1 :=
  hP.kept (fun k q h => by
    have hl := (hP k q h).lt
    refine hk q.1 hl (fun z => ?_)
    rcases z with ⟨k2, e2, z⟩ | z
    · simp at z
    · omega)
/-- a call of a method of an object that isn't in the world, and that needs nothing of it -/
theorem cx_ti {post : Int32 → Unit → Prop} (X : CallFix p m c cc nL s args Ts own) (hsize : ls.size = nL) (hE : okE E) (hes : E A s) (hK : va_K D cl tys s) (hP : va_P D cl ws H) (hD : va_D A ws) (hS : va_S A s.heap H locs) (hA : ∀ q : Nat, s.heap.size ≤ q → A q)
    (hM : ctI E l y wsy rmy D cl tys (.ref b :: As) [] H.size post (fun _ => [])) (cll : CallW R s args own C index y bytes maxL ret wsy rmy 0 0 n) (hrecv : ∃ cell : Cell, H[b]? = some cell ∧ cell.vm.isStatics = false ∧ s.vm.findClass C = some cell.cls)
    (hn : As.length = n) (hroom : (rest.map fun v => v.category).sum ≤ 8) (hdg : decode cc pc = .ok (.invokevirtual index, 3)) (hst : st0 = As.reverse ++ .ref b :: rest)
    (kk : ∀ (r : Int32) (u : Unit) (H1 : Heap) (locs1 : List Loc), post r u → va_P D cl ws H1 → va_D A ws → va_S A s.heap H1 locs1 → W p l e R s m args below meth c H1 locs1 0 0 Z (F0 m (pc + 3) ls (.int r :: rest))) : W p l e R s m args below meth c H locs 0 0 Z (F0 m pc ls st0) := by
  have hF := va_free (wc := []) hD hS hA [] rfl
  refine va_calli (va_runV (As := As) (rest := rest) X hM cll ⟨pcE_blind hE, hrecv, cx_pre hE hes hK hP hD hS hA [] rfl rfl _⟩ rfl hn hsize hst (lv_room hroom) hdg ⟨Nat.zero_le _, Nat.zero_le _⟩) hS (fun q _ h => hF q h) hF (fun r u t H1 locs1 ht hvm hw hB hz1 hk1 hS1 => ?_)
  exact kk r u H1 locs1 hw (ct_keep hP hk1) hD hS1
theorem cx_tsi {post : Int32 → Unit → Prop} (X : CallFix p m c cc nL s args Ts own) (hsize : ls.size = nL) (hE : okE E) (hes : E A s) (hK : va_K D cl tys s) (hP : va_P D cl ws H) (hD : va_D A ws) (hS : va_S A s.heap H locs) (hA : ∀ q : Nat, s.heap.size ≤ q → A q)
    (hM : ctI E l y wsy rmy D cl tys As [] H.size post (fun _ => [])) (cll : CallB R s args own index y bytes maxL ret wsy rmy 0 0 n ∧ (Cond.static y).before args s = true)
    (hn : As.length = n) (hroom : (rest.map fun v => v.category).sum ≤ 8) (hdg : decode cc pc = .ok (.invokestatic index, 3)) (hst : st0 = As.reverse ++ rest)
    (kk : ∀ (r : Int32) (u : Unit) (H1 : Heap) (locs1 : List Loc), post r u → va_P D cl ws H1 → va_D A ws → va_S A s.heap H1 locs1 → W p l e R s m args below meth c H1 locs1 0 0 Z (F0 m (pc + 3) ls (.int r :: rest))) : W p l e R s m args below meth c H locs 0 0 Z (F0 m pc ls st0) := by
  have hF := va_free (wc := []) hD hS hA [] rfl
  refine va_calli (va_runS (As := As) (rest := rest) X hM cll ⟨pcE_blind hE, cx_pre hE hes hK hP hD hS hA [] rfl rfl _⟩ rfl hn hsize hst (lv_room hroom) hdg ⟨Nat.zero_le _, Nat.zero_le _⟩) hS (fun q _ h => hF q h) hF (fun r u t H1 locs1 ht hvm hw hB hz1 hk1 hS1 => ?_)
  exact kk r u H1 locs1 hw (ct_keep hP hk1) hD hS1
theorem cx_tsv {post : Unit → Prop} (X : CallFix p m c cc nL s args Ts own) (hsize : ls.size = nL) (hE : okE E) (hes : E A s) (hK : va_K D cl tys s) (hP : va_P D cl ws H) (hD : va_D A ws) (hS : va_S A s.heap H locs) (hA : ∀ q : Nat, s.heap.size ≤ q → A q)
    (hM : ctV E l y wsy rmy D cl tys As [] H.size post (fun _ => [])) (cll : CallB R s args own index y bytes maxL ret wsy rmy 0 0 n ∧ (Cond.static y).before args s = true)
    (hn : As.length = n) (hroom : (rest.map fun v => v.category).sum ≤ 8) (hdg : decode cc pc = .ok (.invokestatic index, 3)) (hst : st0 = As.reverse ++ rest)
    (kk : ∀ (u : Unit) (H1 : Heap) (locs1 : List Loc), post u → va_P D cl ws H1 → va_D A ws → va_S A s.heap H1 locs1 → W p l e R s m args below meth c H1 locs1 0 0 Z (F0 m (pc + 3) ls rest)) : W p l e R s m args below meth c H locs 0 0 Z (F0 m pc ls st0) := by
  have hF := va_free (wc := []) hD hS hA [] rfl
  refine va_callv (va_runS (As := As) (rest := rest) X hM cll ⟨pcE_blind hE, cx_pre hE hes hK hP hD hS hA [] rfl rfl _⟩ rfl hn hsize hst (lv_room hroom) hdg ⟨Nat.zero_le _, Nat.zero_le _⟩) hS (fun q _ h => hF q h) hF (fun u t H1 locs1 ht hvm hw hB hz1 hk1 hS1 => ?_)
  exact kk u H1 locs1 hw (ct_keep hP hk1) hD hS1
theorem st_bald {cells slots : Nat} {Q : State → Prop} (hexec : p.tables.exec = Jvm.exec) (hb : c.code = cc) {t N : Nat} {f : Nat → Int32} (hT : va_T .byte t N (fun j => .int (f j)) A s s.heap) (hS : va_S A s.heap H locs) {i : Int32} (hin : vp_in i N) (hdg : decode cc pc = .ok (.baload, 1))
    (kk : W p l e R s m args below meth c H locs cells slots Q (F0 m (pc + 1) ls (.int (f i.toNatClampNeg) :: rest))) : W p l e R s m args below meth c H locs cells slots Q (F0 m pc ls (.int i :: .ref t :: rest)) := by
  obtain ⟨cell, h1, h2, h3, h4, h5, h6, h7⟩ := hT
  have hlt : i.toNatClampNeg < N := Nat.not_le.mp fun q => hin (Or.inr q)
  exact W.bald (v := .int (f i.toNatClampNeg)) hexec hb (by rw [hS.2.1 t (Array.getElem?_eq_some_iff.mp h1).1 h7]; exact h1) h2 h3 (fun q => q.elim (fun z => hin (Or.inl z)) (fun z => hin (Or.inr (Nat.le_trans h4 z)))) (h6 _ hlt) rfl rfl hdg kk
theorem st_alen {cells slots : Nat} {Q : State → Prop} (hexec : p.tables.exec = Jvm.exec) (hb : c.code = cc) {t N : Nat} {ty : FieldType} {f : Nat → Value} (hT : va_T ty t N f A s s.heap) (hS : va_S A s.heap H locs) {v : Int32} (hv : Int32.ofNat N = v) (hdg : decode cc pc = .ok (.arraylength, 1))
    (kk : W p l e R s m args below meth c H locs cells slots Q (F0 m (pc + 1) ls (.int v :: rest))) : W p l e R s m args below meth c H locs cells slots Q (F0 m pc ls (.ref t :: rest)) := by
  obtain ⟨cell, h1, h2, h3, h4, h5, h6, h7⟩ := hT
  subst hv
  exact W.alen (n := Int32.ofNat N) hexec hb (by rw [hS.2.1 t (Array.getElem?_eq_some_iff.mp h1).1 h7]; exact h1) h2 h5 rfl rfl hdg kk
theorem st_recv {a v : Nat} (hE : stE a v A s) (hS : va_S A s.heap H locs) : ∃ cell : Cell, H[a]? = some cell ∧ cell.vm.isStatics = false ∧ s.vm.findClass RJ0 = some cell.cls := by
  obtain ⟨⟨cell, h1, h2, h3, h4⟩, -⟩ := hE
  exact ⟨cell, by rw [hS.2.1 a (Array.getElem?_eq_some_iff.mp h1).1 h4]; exact h1, h2, h3⟩
end CT
abbrev rJ0_coder : Room := { frames := 0, cells := 0, slots := 0, locals := 0 }
abbrev rJ0_length : Room := { frames := 1, cells := 0, slots := 0, locals := 20 }
abbrev rJ3_checkIndex : Room := { frames := 0, cells := 0, slots := 0, locals := 0 }
abbrev rJ0_checkIndex : Room := { frames := 1, cells := 0, slots := 0, locals := 22 }
abbrev rJ1_charAt : Room := { frames := 2, cells := 0, slots := 0, locals := 43 }
abbrev rJ0_charAt : Room := { frames := 3, cells := 0, slots := 0, locals := 64 }
theorem hdJ0_coder : yJ0_coder_7d493.cls = RJ0 ∧ yJ0_coder_7d493.cls ≠ "java/lang/invoke/MethodHandle" ∧ yJ0_coder_7d493.cls ≠ "java/lang/invoke/VarHandle" ∧ (parseMethodDescriptor yJ0_coder_7d493.desc).map (fun d => d.parameters.length) = some 0 := by decide +kernel
theorem hdJ0_isLatin1 : yJ0_isLatin1_aae02.cls = RJ0 ∧ yJ0_isLatin1_aae02.cls ≠ "java/lang/invoke/MethodHandle" ∧ yJ0_isLatin1_aae02.cls ≠ "java/lang/invoke/VarHandle" ∧ (parseMethodDescriptor yJ0_isLatin1_aae02.desc).map (fun d => d.parameters.length) = some 0 := by decide +kernel
theorem hdJ0_length : yJ0_length_8abf5.cls = RJ0 ∧ yJ0_length_8abf5.cls ≠ "java/lang/invoke/MethodHandle" ∧ yJ0_length_8abf5.cls ≠ "java/lang/invoke/VarHandle" ∧ (parseMethodDescriptor yJ0_length_8abf5.desc).map (fun d => d.parameters.length) = some 0 := by decide +kernel
theorem hdJ0_charAt : yJ0_charAt_5068e.cls = RJ0 ∧ yJ0_charAt_5068e.cls ≠ "java/lang/invoke/MethodHandle" ∧ yJ0_charAt_5068e.cls ≠ "java/lang/invoke/VarHandle" ∧ (parseMethodDescriptor yJ0_charAt_5068e.desc).map (fun d => d.parameters.length) = some 1 := by decide +kernel
theorem hdJ3_checkIndex : yJ3_checkIndex_8e157.cls ≠ "java/lang/invoke/MethodHandle" ∧ yJ3_checkIndex_8e157.cls ≠ "java/lang/invoke/VarHandle" ∧ (parseMethodDescriptor yJ3_checkIndex_8e157.desc).map (fun d => d.parameters.length) = some 3 := by decide +kernel
theorem hdJ0_checkIndex : yJ0_checkIndex_df160.cls ≠ "java/lang/invoke/MethodHandle" ∧ yJ0_checkIndex_df160.cls ≠ "java/lang/invoke/VarHandle" ∧ (parseMethodDescriptor yJ0_checkIndex_df160.desc).map (fun d => d.parameters.length) = some 2 := by decide +kernel
theorem hdJ1_charAt : yJ1_charAt_3b067.cls ≠ "java/lang/invoke/MethodHandle" ∧ yJ1_charAt_3b067.cls ≠ "java/lang/invoke/VarHandle" ∧ (parseMethodDescriptor yJ1_charAt_3b067.desc).map (fun d => d.parameters.length) = some 2 := by decide +kernel
theorem kJ0_c1 : Cond.fieldLink RJ0 38 "java/lang/String" "COMPACT_STRINGS" "Z" ∈ wsJ0_coder_7d493 := by decide +kernel
theorem kJ0_c2 : Cond.fieldLink RJ0 15 "java/lang/String" "coder" "B" ∈ wsJ0_coder_7d493 := by decide +kernel
theorem kJ0_i1 : Cond.fieldLink RJ0 38 "java/lang/String" "COMPACT_STRINGS" "Z" ∈ wsJ0_isLatin1_aae02 := by decide +kernel
theorem kJ0_i2 : Cond.fieldLink RJ0 15 "java/lang/String" "coder" "B" ∈ wsJ0_isLatin1_aae02 := by decide +kernel
theorem kJ0_l1 : Cond.fieldLink RJ0 9 "java/lang/String" "value" "[B" ∈ wsJ0_length_8abf5 := by decide +kernel
theorem kJ0_a1 : Cond.fieldLink RJ0 9 "java/lang/String" "value" "[B" ∈ wsJ0_charAt_5068e := by decide +kernel
theorem kJ0_k1 : Cond.fieldLink RJ0 1053 "jdk/internal/util/Preconditions" "SIOOBE_FORMATTER" "Ljava/util/function/BiFunction;" ∈ wsJ0_checkIndex_df160 := by decide +kernel
set_option maxHeartbeats 4000000 in
set_option maxRecDepth 100000 in
theorem c_J0_coder {l : Launch} {D : va_G} {cl : List vw_C} {tys : List (ClassId × FieldType)} {sz a v : Nat} : ctI (stE a v) l yJ0_coder_7d493 wsJ0_coder_7d493 rJ0_coder D cl tys [.ref a] [] sz (fun (r : Int32) (_ : Unit) => r = 0) (fun (_ : Unit) => []) := by
  refine mx_i (cc := cJ0_coder_7d493) (maxL := 1) (ty := .byte) (by decide) rfl (Nat.le_of_ble_eq_true rfl) ?_
  intro p e s m below meth c Z A ls args hx hb hml hown hts hA hP hK hD hE hl hret
  have hown : s.vm.findClass RJ0 = some m.cls := hown
  have hl : lv_has ls 1 [(0, .ref a)] := hl
  have hS : va_S A s.heap s.heap [] := va_S.rf
  obtain ⟨h1, h2, h3, h4, h5, h6⟩ := hE
  refine va_gets hx hb h5 hS hown (hts _ kJ0_c1) (fun _ h9 => h9) dJ0_coder_7d493_0 ?_
  refine lv_if_eq (tgt := 13) hx hb dJ0_coder_7d493_3 (by decide) (fun cd => absurd cd (by decide)) (fun cd => ?_)
  refine lv_aload_n hx hb dJ0_coder_7d493_6 rfl (lv_at hl 0 rfl) ?_
  refine vk_getf hx hb h2 hS hown (hts _ kJ0_c2) (fun _ h9 => h9) dJ0_coder_7d493_7 ?_
  refine lv_goto (tgt := 14) hx hb dJ0_coder_7d493_10 (by decide) ?_
  exact hret _ _ _ _ _ () dJ0_coder_7d493_14 (by decide) rfl hP hD hS
set_option maxHeartbeats 4000000 in
set_option maxRecDepth 100000 in
theorem c_J0_isLatin1 {l : Launch} {D : va_G} {cl : List vw_C} {tys : List (ClassId × FieldType)} {sz a v : Nat} : ctI (stE a v) l yJ0_isLatin1_aae02 wsJ0_isLatin1_aae02 rJ0_coder D cl tys [.ref a] [] sz (fun (r : Int32) (_ : Unit) => r = 1) (fun (_ : Unit) => []) := by
  refine mx_i (cc := cJ0_isLatin1_aae02) (maxL := 1) (ty := .boolean) (by decide) rfl (Nat.le_of_ble_eq_true rfl) ?_
  intro p e s m below meth c Z A ls args hx hb hml hown hts hA hP hK hD hE hl hret
  have hown : s.vm.findClass RJ0 = some m.cls := hown
  have hl : lv_has ls 1 [(0, .ref a)] := hl
  have hS : va_S A s.heap s.heap [] := va_S.rf
  obtain ⟨h1, h2, h3, h4, h5, h6⟩ := hE
  refine va_gets hx hb h5 hS hown (hts _ kJ0_i1) (fun _ h9 => h9) dJ0_isLatin1_aae02_0 ?_
  refine lv_if_eq (tgt := 17) hx hb dJ0_isLatin1_aae02_3 (by decide) (fun cd => absurd cd (by decide)) (fun cd => ?_)
  refine lv_aload_n hx hb dJ0_isLatin1_aae02_6 rfl (lv_at hl 0 rfl) ?_
  refine vk_getf hx hb h2 hS hown (hts _ kJ0_i2) (fun _ h9 => h9) dJ0_isLatin1_aae02_7 ?_
  refine lv_if_ne (tgt := 17) hx hb dJ0_isLatin1_aae02_10 (by decide) (fun cd => absurd rfl cd) (fun cd => ?_)
  refine lv_iconst (v := 1) hx hb dJ0_isLatin1_aae02_13 (by decide) ?_
  refine lv_goto (tgt := 18) hx hb dJ0_isLatin1_aae02_14 (by decide) ?_
  exact hret _ _ _ _ _ () dJ0_isLatin1_aae02_18 (by decide) rfl hP hD hS
set_option maxHeartbeats 4000000 in
set_option maxRecDepth 100000 in
theorem c_J0_length {l : Launch} {D : va_G} {cl : List vw_C} {tys : List (ClassId × FieldType)} {sz a v : Nat} : ctI (stE a v) l yJ0_length_8abf5 wsJ0_length_8abf5 rJ0_length D cl tys [.ref a] [] sz (fun (r : Int32) (_ : Unit) => r = 77) (fun (_ : Unit) => []) := by
  refine mx_i (cc := cJ0_length_8abf5) (maxL := 1) (ty := .int) (by decide) rfl (Nat.le_of_ble_eq_true rfl) ?_
  intro p e s m below meth c Z A ls args hx hb hml hown hts hA hP hK hD hE hl hret
  have hown : s.vm.findClass RJ0 = some m.cls := hown
  have hl : lv_has ls 1 [(0, .ref a)] := hl
  have hS : va_S A s.heap s.heap [] := va_S.rf
  obtain ⟨h1, h2, h3, h4, h5, h6⟩ := id hE
  refine lv_aload_n hx hb dJ0_length_8abf5_0 rfl (lv_at hl 0 rfl) ?_
  refine vk_getf hx hb h3 hS hown (hts _ kJ0_l1) (fun _ h9 => h9) dJ0_length_8abf5_1 ?_
  refine st_alen (v := 77) hx hb h4 hS rfl dJ0_length_8abf5_4 ?_
  refine lv_aload_n hx hb dJ0_length_8abf5_5 rfl (lv_at hl 0 rfl) ?_
  refine cx_ti (As := []) (rest := [.int 77]) ⟨hx, hb, hml, hown, hts⟩ hl.1 (ok_stE a v) hE hK hP hD hS hA c_J0_coder (cwV 0 hts gJ0_length_8abf5_J0_coder_7d493 rfl rfl rfl hdJ0_coder ⟨Nat.le_of_ble_eq_true rfl, Nat.le_of_ble_eq_true rfl⟩) (st_recv hE hS) rfl (Nat.le_of_ble_eq_true rfl) dJ0_length_8abf5_6 rfl (fun r _ H locs hr hP hD hS => ?_)
  refine lv_ishr hx hb dJ0_length_8abf5_9 ?_
  exact hret _ _ _ _ _ () dJ0_length_8abf5_10 (vp_nar_int _) (by rw [hr]; decide) hP hD hS
set_option maxHeartbeats 4000000 in
set_option maxRecDepth 100000 in
theorem c_J3_checkIndex {l : Launch} {D : va_G} {cl : List vw_C} {tys : List (ClassId × FieldType)} {sz : Nat} {i n : Int32} {w : Value} (hc : w.category = 1) (h0 : ¬ i < 0) (h1 : i < n) : ctI noE l yJ3_checkIndex_8e157 wsJ3_checkIndex_8e157 rJ3_checkIndex D cl tys [.int i, .int n, w] [] sz (fun (r : Int32) (_ : Unit) => r = i) (fun (_ : Unit) => []) := by
  refine mx_i (cc := cJ3_checkIndex_8e157) (maxL := 3) (ty := .int) (by decide) rfl (by cases w <;> simp_all [lg_sl, Value.category]) ?_
  intro p e s m below meth c Z A ls args hx hb hml hown hts hA hP hK hD hE hl hret
  have hl : lv_has ls 3 [(0, .int i), (1, .int n), (2, w)] := hl
  have hS : va_S A s.heap s.heap [] := va_S.rf
  refine lv_iload_n hx hb dJ3_checkIndex_8e157_0 rfl (lv_at hl 0 rfl) ?_
  refine lv_if_lt (tgt := 9) hx hb dJ3_checkIndex_8e157_1 (by decide) (fun cd => absurd cd h0) (fun cd => ?_)
  refine lv_iload_n hx hb dJ3_checkIndex_8e157_4 rfl (lv_at hl 0 rfl) ?_
  refine lv_iload_n hx hb dJ3_checkIndex_8e157_5 rfl (lv_at hl 1 rfl) ?_
  refine lv_icmp_lt (tgt := 16) hx hb dJ3_checkIndex_8e157_6 (by decide) (fun cd => ?_) (fun cd => absurd h1 cd)
  refine lv_iload_n hx hb dJ3_checkIndex_8e157_16 rfl (lv_at hl 0 rfl) ?_
  exact hret _ _ _ _ _ () dJ3_checkIndex_8e157_17 (vp_nar_int _) rfl hP hD hS
set_option maxHeartbeats 4000000 in
set_option maxRecDepth 100000 in
theorem c_J0_checkIndex {l : Launch} {D : va_G} {cl : List vw_C} {tys : List (ClassId × FieldType)} {sz a v : Nat} {i n : Int32} (h0 : ¬ i < 0) (h1 : i < n) : ctV (stE a v) l yJ0_checkIndex_df160 wsJ0_checkIndex_df160 rJ0_checkIndex D cl tys [.int i, .int n] [] sz (fun (_ : Unit) => True) (fun (_ : Unit) => []) := by
  refine mx_v (cc := cJ0_checkIndex_df160) (maxL := 2) (by decide) rfl (Nat.le_of_ble_eq_true rfl) ?_
  intro p e s m below meth c Z A ls args hx hb hml hown hts hA hP hK hD hE hl hret
  have hown : s.vm.findClass RJ0 = some m.cls := hown
  have hl : lv_has ls 2 [(0, .int i), (1, .int n)] := hl
  have hS : va_S A s.heap s.heap [] := va_S.rf
  obtain ⟨e1, e2, e3, e4, e5, e6⟩ := hE
  have key : ∀ w : Value, w.category = 1 → W p l e rJ0_checkIndex s m args below meth c s.heap [] 0 0 Z (F0 m 5 ls [w, .int n, .int i]) := by
    intro w hc
    refine cx_tsi (As := [.int i, .int n, w]) (rest := []) ⟨hx, hb, hml, hown, hts⟩ hl.1 ok_noE trivial hK hP hD hS hA (c_J3_checkIndex hc h0 h1) (va_cwS 3 hts gJ0_checkIndex_df160_J3_checkIndex_8e157 rfl rfl rfl hdJ3_checkIndex ⟨Nat.le_of_ble_eq_true rfl, Nat.le_of_ble_eq_true rfl⟩) rfl (Nat.le_of_ble_eq_true rfl) dJ0_checkIndex_df160_5 rfl (fun r _ H locs hr hP hD hS => ?_)
    refine lv_pop hx hb dJ0_checkIndex_df160_8 rfl ?_
    exact hret _ _ _ _ () dJ0_checkIndex_df160_9 trivial hP hD hS
  refine lv_iload_n hx hb dJ0_checkIndex_df160_0 rfl (lv_at hl 0 rfl) ?_
  refine lv_iload_n hx hb dJ0_checkIndex_df160_1 rfl (lv_at hl 1 rfl) ?_
  rcases e6 with e6 | ⟨t, e6⟩
  · exact va_gets hx hb e6 hS hown (hts _ kJ0_k1) (fun _ h9 => h9) dJ0_checkIndex_df160_2 (key .null rfl)
  · exact va_gets hx hb e6 hS hown (hts _ kJ0_k1) (fun _ h9 => h9) dJ0_checkIndex_df160_2 (key (.ref t) rfl)
theorem st_small : ∀ k, k < 77 → (((st_WORDS k &&& 255).toUInt32 % 65536).toInt32 = st_WORDS k ∧ narrow .char (.int (st_WORDS k)) = .int (st_WORDS k)) := by decide +kernel
theorem vp_in_lt {i : Int32} {n : Nat} (hn : n < 2 ^ 31) (h : vp_in i n) : ¬ i < 0 ∧ i < Int32.ofNat n ∧ i.toNatClampNeg < n := by
  obtain ⟨j, hj, rfl⟩ := vp_in_of h hn
  exact ⟨nI_pos (by omega), nI_lt hj hn, by rw [nI_clamp (by omega)]; exact hj⟩
set_option maxHeartbeats 4000000 in
set_option maxRecDepth 100000 in
theorem c_J1_charAt {l : Launch} {D : va_G} {cl : List vw_C} {tys : List (ClassId × FieldType)} {sz a v : Nat} {i : Int32} (h : vp_in i 77) : ctI (stE a v) l yJ1_charAt_3b067 wsJ1_charAt_3b067 rJ1_charAt D cl tys [.ref v, .int i] [] sz (fun (r : Int32) (_ : Unit) => r = st_WORDS i.toNatClampNeg) (fun (_ : Unit) => []) := by
  refine mx_i (cc := cJ1_charAt_3b067) (maxL := 2) (ty := .char) (by decide) rfl (Nat.le_of_ble_eq_true rfl) ?_
  intro p e s m below meth c Z A ls args hx hb hml hown hts hA hP hK hD hE hl hret
  have hown : s.vm.findClass RJ1 = some m.cls := hown
  have hl : lv_has ls 2 [(0, .ref v), (1, .int i)] := hl
  have hS : va_S A s.heap s.heap [] := va_S.rf
  obtain ⟨g0, g1, g2⟩ := vp_in_lt (by decide) h
  obtain ⟨e1, e2, e3, e4, e5, e6⟩ := id hE
  refine lv_iload_n hx hb dJ1_charAt_3b067_0 rfl (lv_at hl 1 rfl) ?_
  refine lv_aload_n hx hb dJ1_charAt_3b067_1 rfl (lv_at hl 0 rfl) ?_
  refine st_alen (v := 77) hx hb e4 hS rfl dJ1_charAt_3b067_2 ?_
  refine cx_tsv (As := [.int i, .int 77]) (rest := []) ⟨hx, hb, hml, hown, hts⟩ hl.1 (ok_stE a v) hE hK hP hD hS hA (c_J0_checkIndex g0 g1) (va_cwS 2 hts gJ1_charAt_3b067_J0_checkIndex_df160 rfl rfl rfl hdJ0_checkIndex ⟨Nat.le_of_ble_eq_true rfl, Nat.le_of_ble_eq_true rfl⟩) rfl (Nat.le_of_ble_eq_true rfl) dJ1_charAt_3b067_3 rfl (fun _ H locs hr hP hD hS => ?_)
  refine lv_aload_n hx hb dJ1_charAt_3b067_6 rfl (lv_at hl 0 rfl) ?_
  refine lv_iload_n hx hb dJ1_charAt_3b067_7 rfl (lv_at hl 1 rfl) ?_
  refine st_bald hx hb e4 hS h dJ1_charAt_3b067_8 ?_
  refine lv_sipush (v := 255) hx hb dJ1_charAt_3b067_9 (by decide) ?_
  refine lv_iand hx hb dJ1_charAt_3b067_12 ?_
  refine lv_i2c (v := st_WORDS i.toNatClampNeg) hx hb dJ1_charAt_3b067_13 (st_small _ g2).1 ?_
  exact hret _ _ _ _ _ () dJ1_charAt_3b067_14 (st_small _ g2).2 rfl hP hD hS
set_option maxHeartbeats 4000000 in
set_option maxRecDepth 100000 in
theorem c_J0_charAt {l : Launch} {D : va_G} {cl : List vw_C} {tys : List (ClassId × FieldType)} {sz a v : Nat} {i : Int32} (h : vp_in i 77) : ctI (stE a v) l yJ0_charAt_5068e wsJ0_charAt_5068e rJ0_charAt D cl tys [.ref a, .int i] [] sz (fun (r : Int32) (_ : Unit) => r = st_WORDS i.toNatClampNeg) (fun (_ : Unit) => []) := by
  refine mx_i (cc := cJ0_charAt_5068e) (maxL := 2) (ty := .char) (by decide) rfl (Nat.le_of_ble_eq_true rfl) ?_
  intro p e s m below meth c Z A ls args hx hb hml hown hts hA hP hK hD hE hl hret
  have hown : s.vm.findClass RJ0 = some m.cls := hown
  have hl : lv_has ls 2 [(0, .ref a), (1, .int i)] := hl
  have hS : va_S A s.heap s.heap [] := va_S.rf
  obtain ⟨g0, g1, g2⟩ := vp_in_lt (by decide) h
  obtain ⟨e1, e2, e3, e4, e5, e6⟩ := id hE
  refine lv_aload_n hx hb dJ0_charAt_5068e_0 rfl (lv_at hl 0 rfl) ?_
  refine cx_ti (As := []) (rest := []) ⟨hx, hb, hml, hown, hts⟩ hl.1 (ok_stE a v) hE hK hP hD hS hA c_J0_isLatin1 (cwV 0 hts gJ0_charAt_5068e_J0_isLatin1_aae02 rfl rfl rfl hdJ0_isLatin1 ⟨Nat.le_of_ble_eq_true rfl, Nat.le_of_ble_eq_true rfl⟩) (st_recv hE hS) rfl (Nat.le_of_ble_eq_true rfl) dJ0_charAt_5068e_1 rfl (fun r _ H locs hr hP hD hS => ?_)
  refine lv_if_eq (tgt := 16) hx hb dJ0_charAt_5068e_4 (by decide) (fun cd => absurd cd (by rw [hr]; decide)) (fun cd => ?_)
  refine lv_aload_n hx hb dJ0_charAt_5068e_7 rfl (lv_at hl 0 rfl) ?_
  refine vk_getf hx hb e3 hS hown (hts _ kJ0_a1) (fun _ h9 => h9) dJ0_charAt_5068e_8 ?_
  refine lv_iload_n hx hb dJ0_charAt_5068e_11 rfl (lv_at hl 1 rfl) ?_
  refine cx_tsi (As := [.ref v, .int i]) (rest := []) ⟨hx, hb, hml, hown, hts⟩ hl.1 (ok_stE a v) hE hK hP hD hS hA (c_J1_charAt h) (va_cwS 2 hts gJ0_charAt_5068e_J1_charAt_3b067 rfl rfl rfl hdJ1_charAt ⟨Nat.le_of_ble_eq_true rfl, Nat.le_of_ble_eq_true rfl⟩) rfl (Nat.le_of_ble_eq_true rfl) dJ0_charAt_5068e_12 rfl (fun r _ H locs hr hP hD hS => ?_)
  exact hret _ _ _ _ _ () dJ0_charAt_5068e_15 (by rw [hr]; exact (st_small _ g2).2) hr hP hD hS
