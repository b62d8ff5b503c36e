
/-- a constructor's contract: it makes mc cells of ms slots; behind it its tree stands at addresses q, q 0 its own -/
def ctC (E : (Nat → Prop) → State → Prop) (l : Launch) (y : MethodName) (ws : List Cond) (rm : Room) (D : va_G) (cl : List vw_C) (tys : List (ClassId × FieldType)) (b : Nat) (ws0 : va_W) (sz mc ms : Nat) (cf : (Nat → Nat) → va_W) : Prop := Met l y ws rm (pcE E D cl tys [.ref b] ws0 sz) (va_Qv (fun q : Nat → Nat => q 0 = b) (bqE D cl tys (va_A ws0 sz) cf) (va_A ws0 sz)) mc ms (va_A ws0 sz)
theorem mx_c {E : (Nat → Prop) → State → Prop} {l : Launch} {y : MethodName} {ws ws' : List Cond} {rm : Room} {D : va_G} {cl : List vw_C} {tys : List (ClassId × FieldType)} {cc : ByteArray} {maxL : Nat} {b : Nat} {ws0 : va_W} {sz mc ms : Nat} {cf : (Nat → Nat) → va_W}
    (hy : plainName y.cls = true) (hy1 : y.name = "<init>") (hw : ws = Cond.code y cc maxL none :: ws') (hlen : 1 ≤ maxL)
    (body : ∀ (p : Program) (e : Env) (s : State) (m : MethodId) (below : List Frame) (meth : Method) (c : Code) (Z : State → Prop) (A : Nat → Prop) (ls : Array Slot) (args : Array Value), p.tables.exec = Jvm.exec → c.code = cc → c.maxLocals = maxL → s.vm.findClass y.cls = some m.cls → (∀ w ∈ ws, w.before args s = true) → (∀ q : Nat, s.heap.size ≤ q → A q) → va_P D cl ws0 s.heap → va_K D cl tys s → va_D A ws0 → E A s → lv_has ls maxL [(0, .ref b)] → meth.name = "<init>" →
      (∀ (H : Heap) (locs : List Loc) (ls : Array Slot) (pc : Nat) (q : Nat → Nat), decode cc pc = .ok (.return_, 1) → q 0 = b → va_P D cl (cf q) H → va_D A (cf q) → va_S A s.heap H locs → W p l e rm s m args below meth c H locs mc ms Z (F0 m pc ls [])) →
      W p l e rm s m args below meth c s.heap [] 0 0 Z (F0 m 0 ls [])) : ctC E l y ws rm D cl tys b ws0 sz mc ms cf := by
  refine Met.ofW (cc := cc) (maxL := maxL) (ret := none) hy hw ?_
  intro p e s m args below meth c s₁ B hml hv
  obtain ⟨rfl, hsz, hP, hK, hD0, hE⟩ := hv
  subst hsz
  rw [lg_entry_eq]
  have hl := lv_entry ([.ref b] : List Value) (n := maxL) hlen
  refine body p e s m below meth c _ (va_A ws0 s.heap.size) _ _ B.exec B.bytes hml (findClass_of_methodNamed B.named) (atoms_spec (ws := ws) B.pre) (fun q h => Or.inr h) hP hK hD0.self hE hl ((name_of_methodNamed B.named B.method).1.trans hy1) ?_
  intro H locs ls pc u hdg hp hP1 hD1 hS
  exact W.vret B.exec B.bytes B.returns (fun t ht hW => ⟨⟨u, rfl, hp, by rw [ht]; exact hP1, va_K.moved hW.alike hK, hD1⟩, hS.F ht⟩) hS.2.2 hdg
theorem cI_eq {D : va_G} {cl : List vw_C} {cI cA : ClassId} {s : State} (h : va_K D cl ([(cI, .int)] ++ [(cA, .int)]) s) : cA = cI := by
  have h1 : s.vm.findClass ("[" ++ (FieldType.int).toString) = some cI := (h.2 0 (cI, .int) rfl).2
  have h2 : s.vm.findClass ("[" ++ (FieldType.int).toString) = some cA := (h.2 1 (cA, .int) rfl).2
  exact Option.some.inj (h2.symm.trans h1)
section CC
variable {p : Program} {l : Launch} {e : Env} {R : Room} {s : State} {m : MethodId} {args : Array Value} {below : List Frame} {meth : Method} {c : Code} {H : Heap} {locs : List Loc} {Z : State → Prop} {cells slots mc ms : Nat}
variable {pc : Nat} {ls : Array Slot} {rest st0 : List Value} {A : Nat → Prop}
variable {y : MethodName} {bytes cc : ByteArray} {maxL nL index : Nat} {wsy : List Cond} {rmy : Room} {Ts : List Cond} {own host : String} {b : Addr}
variable {D : va_G} {cl : List vw_C} {tys : List (ClassId × FieldType)} {ws wc : va_W} {E : (Nat → Prop) → State → Prop}
/-- a call of a nest mate's constructor -/
theorem cx_nc {cf cw : (Nat → Nat) → va_W} (X : CallFix p m c cc nL s args Ts own) (hsize : ls.size = nL) (hE : okE E) (hes : E A s) (hK : va_K D cl tys s) (hP : va_P D cl ws H) (hD : va_D A ws) (hS : va_S A s.heap H locs) (hA : ∀ q : Nat, s.heap.size ≤ q → A q)
    (hcut : Cut ws wc cf cw) (hM : ctC E l y wsy rmy D cl tys b wc H.size mc ms cf) (cll : va_CN R s args own index y host bytes maxL none wsy rmy mc ms 0 ∧ y.name = "<init>" ∧ (Cond.instanceMethod y).before args s = true)
    (hroom : (rest.map fun v => v.category).sum ≤ 8) (hdg : decode cc pc = .ok (.invokespecial index, 3)) (hst : st0 = .ref b :: rest) (hf : cells + mc ≤ R.cells ∧ slots + ms ≤ R.slots)
    (kk : ∀ (u : Nat → Nat) (H1 : Heap) (locs1 : List Loc), u 0 = b → va_P D cl (cw u) H1 → va_D A (cw u) → va_S A s.heap H1 locs1 → W p l e R s m args below meth c H1 locs1 (cells + mc) (slots + ms) Z (F0 m (pc + 3) ls rest)) : W p l e R s m args below meth c H locs cells slots Z (F0 m pc ls st0) := by
  obtain ⟨isC, isR, hC, hR, hnC, hnR, hdis, hj⟩ := hcut
  have hF := va_free (wc := wc) hD hS hA isC hC
  refine va_callv (va_runIN (As := []) (rest := rest) X hM cll ⟨pcE_blind hE, cx_pre hE hes hK hP hD hS hA isC hC hnC _⟩ rfl rfl hsize hst (lv_room hroom) hdg hf) hS (fun q _ h => hF q h) hF (fun u t H1 locs1 ht hvm hw hB hz1 hk1 hS1 => ?_)
  obtain ⟨hP1, hK1, hD1⟩ := hB
  rw [ht] at hP1
  obtain ⟨hP2, hD2⟩ := va_join hP hD isC isR hC hR hnR hdis hk1 hF hP1 hD1
  obtain ⟨is, hi1, hi2⟩ := hj u
  exact kk u H1 locs1 hw (hP2.subM is hi2) (hD2.sub is hi1 hi2) hS1
/-- a call of a constructor that isn't private -/
theorem cx_ic {cf cw : (Nat → Nat) → va_W} (X : CallFix p m c cc nL s args Ts own) (hsize : ls.size = nL) (hE : okE E) (hes : E A s) (hK : va_K D cl tys s) (hP : va_P D cl ws H) (hD : va_D A ws) (hS : va_S A s.heap H locs) (hA : ∀ q : Nat, s.heap.size ≤ q → A q)
    (hcut : Cut ws wc cf cw) (hM : ctC E l y wsy rmy D cl tys b wc H.size mc ms cf) (cll : CallB R s args own index y bytes maxL none wsy rmy mc ms 0 ∧ y.name = "<init>" ∧ (Cond.instanceMethod y).before args s = true)
    (hroom : (rest.map fun v => v.category).sum ≤ 8) (hdg : decode cc pc = .ok (.invokespecial index, 3)) (hst : st0 = .ref b :: rest) (hf : cells + mc ≤ R.cells ∧ slots + ms ≤ R.slots)
    (kk : ∀ (u : Nat → Nat) (H1 : Heap) (locs1 : List Loc), u 0 = b → va_P D cl (cw u) H1 → va_D A (cw u) → va_S A s.heap H1 locs1 → W p l e R s m args below meth c H1 locs1 (cells + mc) (slots + ms) Z (F0 m (pc + 3) ls rest)) : W p l e R s m args below meth c H locs cells slots Z (F0 m pc ls st0) := by
  obtain ⟨isC, isR, hC, hR, hnC, hnR, hdis, hj⟩ := hcut
  have hF := va_free (wc := wc) hD hS hA isC hC
  refine va_callv (va_runI (As := []) (rest := rest) X hM cll ⟨pcE_blind hE, cx_pre hE hes hK hP hD hS hA isC hC hnC _⟩ rfl rfl hsize hst (lv_room hroom) hdg hf) hS (fun q _ h => hF q h) hF (fun u t H1 locs1 ht hvm hw hB hz1 hk1 hS1 => ?_)
  obtain ⟨hP1, hK1, hD1⟩ := hB
  rw [ht] at hP1
  obtain ⟨hP2, hD2⟩ := va_join hP hD isC isR hC hR hnR hdis hk1 hF hP1 hD1
  obtain ⟨is, hi1, hi2⟩ := hj u
  exact kk u H1 locs1 hw (hP2.subM is hi2) (hD2.sub is hi1 hi2) hS1
/-- a call of a static method in a constructor -/
theorem cx_svc {S : Type} {post : S → Prop} {cf cw : S → va_W} {n : Nat} {ret : Option FieldType} {As : List Value} (X : CallFix p m c cc nL s args Ts own) (hsize : ls.size = nL) (hE : okE E) (hes : E A s) (hK : va_K D cl tys s) (hP : va_P D cl ws H) (hD : va_D A ws) (hS : va_S A s.heap H locs) (hA : ∀ q : Nat, s.heap.size ≤ q → A q)
    (hcut : Cut ws wc cf cw) (hM : ctV E l y wsy rmy D cl tys As wc H.size post cf) (cll : CallB R s args own index y bytes maxL ret wsy rmy 0 0 n ∧ (Cond.static y).before args s = true)
    (hn : As.length = n) (hroom : (rest.map fun v => v.category).sum ≤ 8) (hdg : decode cc pc = .ok (.invokestatic index, 3)) (hst : st0 = As.reverse ++ rest) (hf : cells ≤ R.cells ∧ slots ≤ R.slots)
    (kk : ∀ (u : S) (H1 : Heap) (locs1 : List Loc), post u → va_P D cl (cw u) H1 → va_D A (cw u) → va_S A s.heap H1 locs1 → W p l e R s m args below meth c H1 locs1 cells slots Z (F0 m (pc + 3) ls rest)) : W p l e R s m args below meth c H locs cells slots Z (F0 m pc ls st0) := by
  obtain ⟨isC, isR, hC, hR, hnC, hnR, hdis, hj⟩ := hcut
  have hF := va_free (wc := wc) hD hS hA isC hC
  refine va_callv (va_runS (As := As) (rest := rest) X hM cll ⟨pcE_blind hE, cx_pre hE hes hK hP hD hS hA isC hC hnC _⟩ rfl hn hsize hst (lv_room hroom) hdg hf) hS (fun q _ h => hF q h) hF (fun u t H1 locs1 ht hvm hw hB hz1 hk1 hS1 => ?_)
  obtain ⟨hP1, hK1, hD1⟩ := hB
  rw [ht] at hP1
  obtain ⟨hP2, hD2⟩ := va_join hP hD isC isR hC hR hnR hdis hk1 hF hP1 hD1
  obtain ⟨is, hi1, hi2⟩ := hj u
  exact kk u H1 locs1 hw (hP2.subM is hi2) (hD2.sub is hi1 hi2) hS1
end CC
theorem nI_tn {n : Nat} (h : n < 2 ^ 31) : (nI n).toNatClampNeg = n := nI_clamp h
/-- Arrays.fill: the first n places are v -/
theorem fill_go (v : Int32) (n : Nat) (hn : n < 2 ^ 31) (f : Nat → Int32) (Q : (Nat → Int32) → Prop) (hq : Q (fun j => if j < n then v else f j)) : ∀ (k i : Nat) (g : Nat → Int32), k + i = n → (∀ j, g j = if j < i then v else f j) → wp_J7_fill_53178_5 n Q (k + 1) v (nI i) (nI n) g := by
  intro k
  induction k with
  | zero =>
    intro i g hi hg
    have e : g = (fun j => if j < n then v else f j) := funext fun j => by rw [hg j, show i = n by omega]
    refine ⟨fun _ => by rw [e]; exact hq, fun c => absurd (nI_le (a := n) (b := i) (by omega) (by omega)) c⟩
  | succ k ih =>
    intro i g hi hg
    refine ⟨fun c => absurd c (nI_ge (by omega) hn), fun _ => ⟨vp_in_nI (by omega) hn, fun g2 e2 i2 ei => ?_⟩⟩
    rw [ei, nI_1]
    refine ih (i + 1) g2 (by omega) fun j => ?_
    rw [e2, nI_clamp (by omega)]
    by_cases hj : j = i
    · subst hj
      rw [pk_us, if_pos (by omega)]
    · rw [pk_un hj, hg j]
      by_cases h2 : j < i
      · rw [if_pos h2, if_pos (by omega)]
      · rw [if_neg h2, if_neg (by omega)]
theorem fill_ok {f : Nat → Int32} {n : Nat} {v : Int32} {Q : (Nat → Int32) → Prop} (hn : n < 2 ^ 31) (hq : Q (fun j => if j < n then v else f j)) : wp_J7_fill_53178 f n v Q := fun x e => ⟨n + 1, by
  rw [e]
  have h := fill_go v n hn f Q hq n 0 f (by omega) (fun j => by simp)
  rw [nI_0] at h
  exact h⟩
def ls_f (l : List Int32) : Nat → Int32 := fun j => l.getD j 0
theorem ls_put {l : List Int32} {k : Int32} (v : Int32) (h : k.toNatClampNeg = l.length) : upd (ls_f l) k.toNatClampNeg v = ls_f (l ++ [v]) := by
  rw [h]
  funext j
  unfold upd ls_f
  by_cases hj : j = l.length
  · subst hj
    simp
  · rw [if_neg hj]
    by_cases h2 : j < l.length
    · simp [List.getD, List.getElem?_append_left h2]
    · have h3 : l.length < j := by omega
      obtain ⟨t, ht⟩ : ∃ t, j - l.length = t + 1 := ⟨j - l.length - 1, by omega⟩
      simp [List.getD, List.getElem?_append_right (Nat.le_of_lt h3), List.getElem?_eq_none (Nat.le_of_lt h3), ht]

def i2 : S2 := ((fun _ => 0), 8, 8, 8)
abbrev rX2_init : Room := { frames := 1, cells := 1, slots := 8600, locals := 12 }
theorem hdX2_init : yX2_init.cls ≠ "java/lang/invoke/MethodHandle" ∧ yX2_init.cls ≠ "java/lang/invoke/VarHandle" ∧ (parseMethodDescriptor yX2_init.desc).map (fun d => d.parameters.length) = some 0 := by decide +kernel
theorem inX2_init_2 : ∀ w ∈ wsX20, w ∈ wsX2_init := by decide +kernel
theorem kX2_init_0 : Cond.methodLink RX2 3 objectInit ∈ wsX2_init := by decide +kernel
theorem kX2_init_1 : Cond.instanceMethod objectInit ∈ wsX2_init := by decide +kernel
theorem kX2_init_2 : Cond.code objectInit ⟨#[0xb1]⟩ 1 none ∈ wsX2_init := by decide +kernel
theorem kX2_init_3 : Cond.arrayClass .int ∈ wsX2_init := by decide +kernel
theorem kX2_init_4 : Cond.fieldLink RX2 9 "AheadStore$Journal" "row" "[I" ∈ wsX2_init := by decide +kernel
theorem kX2_init_5 : Cond.fieldLink RX2 15 "AheadStore$Journal" "endPlace" "I" ∈ wsX2_init := by decide +kernel
theorem kX2_init_6 : Cond.fieldLink RX2 19 "AheadStore$Journal" "flushedPlace" "I" ∈ wsX2_init := by decide +kernel
theorem kX2_init_7 : Cond.fieldLink RX2 22 "AheadStore$Journal" "pen" "I" ∈ wsX2_init := by decide +kernel
set_option maxHeartbeats 4000000 in
set_option maxRecDepth 100000 in
theorem i_X2 {l : Launch} {dC : Nat → ClassId} {dI : Nat → Nat → Nat} {cI : ClassId} {b sz : Nat} : ctC sxE l yX2_init wsX2_init rX2_init (dC, dI) vwCl [(cI, .int)] b [(b, .inr (2, [.null, .int 0, .int 0, .int 0]))] sz 1 8600 (fun q => cs2 cI q i2) := by
  refine mx_c (cc := cX2_init) (maxL := 1) (by decide) rfl rfl (Nat.le_of_ble_eq_true rfl) ?_
  intro p e s m below meth c Z A ls args hx hb hml hown hts hA hP hK hD hE hl hin hret
  have hown : s.vm.findClass RX2 = some m.cls := hown
  have hS : va_S A s.heap s.heap [] := va_S.rf
  refine lv_aload_n hx hb dX2_init_0 rfl (lv_at hl 0 rfl) ?_
  refine W.objInit hx hb hown (hts _ kX2_init_0) (hts _ kX2_init_1) (hts _ kX2_init_2) rfl (by rw [hml]; exact hl.1) rfl dX2_init_1 (Nat.le_of_ble_eq_true rfl) (Nat.le_of_ble_eq_true rfl) ?_
  refine W.eq (g2 := F0 m 4 ls []) rfl ?_
  refine lv_aload_n hx hb dX2_init_4 rfl (lv_at hl 0 rfl) ?_
  refine lv_sipush (v := 8600) hx hb dX2_init_5 (by decide) ?_
  refine va_newa (atype := .int) (ty := .int) (N' := 8600) (a0 := (8600, .inl (fun _ => 0))) hx hb (hts _ kX2_init_3) rfl hK hP hD hS hA (fun _ => rfl) (by decide) (by decide) (by decide) (Nat.le_of_ble_eq_true rfl) (Nat.le_of_ble_eq_true rfl) dX2_init_8 (fun q8 cA H hK2 hP hD hS => ?_)
  have ec := (cI_eq hK2).symm
  subst ec
  have hP : va_P (dC, dI) vwCl ([(b, .inr (2, [.null, .int 0, .int 0, .int 0])), (q8, .inl (cI, 8600, .inl (fun _ => 0)))] : va_W) H := hP
  have hD : va_D A ([(b, .inr (2, [.null, .int 0, .int 0, .int 0])), (q8, .inl (cI, 8600, .inl (fun _ => 0)))] : va_W) := hD
  refine W.widen (k := 1) (n := 8600) (by decide) (by decide) ?_
  refine va_putF (D := (dC, dI)) (ci := 2) (v := .ref q8) (ty := (.array .int)) (C := RX2) (T := TX2) (N := 4) hx hb hts inX2_init_2 tyX2 tyX2_ok nmX2 hown hK hP hD hS 0 rfl rfl 0 (by decide) (hts _ kX2_init_4) (fun _ h9 => h9) rfl hin rfl (tyX2_ok 0 (by decide)) rfl rfl (Nat.le_of_ble_eq_true rfl) dX2_init_10 (fun H locs hP hD hS => ?_)
  have hP : va_P (dC, dI) vwCl ([(b, .inr (2, [.ref q8, .int 0, .int 0, .int 0])), (q8, .inl (cI, 8600, .inl (fun _ => 0)))] : va_W) H := hP
  have hD : va_D A ([(b, .inr (2, [.ref q8, .int 0, .int 0, .int 0])), (q8, .inl (cI, 8600, .inl (fun _ => 0)))] : va_W) := hD
  refine lv_aload_n hx hb dX2_init_13 rfl (lv_at hl 0 rfl) ?_
  refine lv_bipush (v := 8) hx hb dX2_init_14 (by decide) ?_
  refine va_put (D := (dC, dI)) (ci := 2) (v := .int 8) (ty := .int) (C := RX2) (T := TX2) (N := 4) hx hb hts inX2_init_2 tyX2 tyX2_ok nmX2 hown hK hP hD hS 0 rfl rfl 1 (by decide) (hts _ kX2_init_5) (fun _ h9 => h9) rfl (tyX2_ok 1 (by decide)) rfl rfl (Nat.le_of_ble_eq_true rfl) dX2_init_16 (fun H locs hP hD hS => ?_)
  have hP : va_P (dC, dI) vwCl ([(b, .inr (2, [.ref q8, .int 8, .int 0, .int 0])), (q8, .inl (cI, 8600, .inl (fun _ => 0)))] : va_W) H := hP
  have hD : va_D A ([(b, .inr (2, [.ref q8, .int 8, .int 0, .int 0])), (q8, .inl (cI, 8600, .inl (fun _ => 0)))] : va_W) := hD
  refine lv_aload_n hx hb dX2_init_19 rfl (lv_at hl 0 rfl) ?_
  refine lv_bipush (v := 8) hx hb dX2_init_20 (by decide) ?_
  refine va_put (D := (dC, dI)) (ci := 2) (v := .int 8) (ty := .int) (C := RX2) (T := TX2) (N := 4) hx hb hts inX2_init_2 tyX2 tyX2_ok nmX2 hown hK hP hD hS 0 rfl rfl 2 (by decide) (hts _ kX2_init_6) (fun _ h9 => h9) rfl (tyX2_ok 2 (by decide)) rfl rfl (Nat.le_of_ble_eq_true rfl) dX2_init_22 (fun H locs hP hD hS => ?_)
  have hP : va_P (dC, dI) vwCl ([(b, .inr (2, [.ref q8, .int 8, .int 8, .int 0])), (q8, .inl (cI, 8600, .inl (fun _ => 0)))] : va_W) H := hP
  have hD : va_D A ([(b, .inr (2, [.ref q8, .int 8, .int 8, .int 0])), (q8, .inl (cI, 8600, .inl (fun _ => 0)))] : va_W) := hD
  refine lv_aload_n hx hb dX2_init_25 rfl (lv_at hl 0 rfl) ?_
  refine lv_bipush (v := 8) hx hb dX2_init_26 (by decide) ?_
  refine va_put (D := (dC, dI)) (ci := 2) (v := .int 8) (ty := .int) (C := RX2) (T := TX2) (N := 4) hx hb hts inX2_init_2 tyX2 tyX2_ok nmX2 hown hK hP hD hS 0 rfl rfl 3 (by decide) (hts _ kX2_init_7) (fun _ h9 => h9) rfl (tyX2_ok 3 (by decide)) rfl rfl (Nat.le_of_ble_eq_true rfl) dX2_init_28 (fun H locs hP hD hS => ?_)
  have hP : va_P (dC, dI) vwCl ([(b, .inr (2, [.ref q8, .int 8, .int 8, .int 8])), (q8, .inl (cI, 8600, .inl (fun _ => 0)))] : va_W) H := hP
  have hD : va_D A ([(b, .inr (2, [.ref q8, .int 8, .int 8, .int 8])), (q8, .inl (cI, 8600, .inl (fun _ => 0)))] : va_W) := hD
  have hP9 : va_P (dC, dI) vwCl (cs2 cI (fun i => [b, q8].getD i 0) i2) H := hP.sub [0, 1] rfl
  have hD9 : va_D A (cs2 cI (fun i => [b, q8].getD i 0) i2) := hD.sub [0, 1] (by decide) rfl
  exact hret _ _ _ _ (fun i => [b, q8].getD i 0) dX2_init_31 rfl hP9 hD9 hS

def i0 : S0 := ((fun _ => 0), (fun _ => 0), (fun _ => 0), (fun _ => 0), (fun _ => 0), (fun _ => 0), (fun _ => 0))
abbrev rX0_init : Room := { frames := 1, cells := 7, slots := 662, locals := 12 }
theorem hdX0_init : yX0_init.cls ≠ "java/lang/invoke/MethodHandle" ∧ yX0_init.cls ≠ "java/lang/invoke/VarHandle" ∧ (parseMethodDescriptor yX0_init.desc).map (fun d => d.parameters.length) = some 0 := by decide +kernel
theorem inX0_init_0 : ∀ w ∈ wsX00, w ∈ wsX0_init := by decide +kernel
theorem kX0_init_0 : Cond.methodLink RX0 3 objectInit ∈ wsX0_init := by decide +kernel
theorem kX0_init_1 : Cond.instanceMethod objectInit ∈ wsX0_init := by decide +kernel
theorem kX0_init_2 : Cond.code objectInit ⟨#[0xb1]⟩ 1 none ∈ wsX0_init := by decide +kernel
theorem kX0_init_3 : Cond.arrayClass .int ∈ wsX0_init := by decide +kernel
theorem kX0_init_4 : Cond.fieldLink RX0 9 "AheadStore$Claims" "wrote" "[I" ∈ wsX0_init := by decide +kernel
theorem kX0_init_5 : Cond.fieldLink RX0 15 "AheadStore$Claims" "added" "[I" ∈ wsX0_init := by decide +kernel
theorem kX0_init_6 : Cond.fieldLink RX0 18 "AheadStore$Claims" "waits" "[I" ∈ wsX0_init := by decide +kernel
theorem kX0_init_7 : Cond.fieldLink RX0 21 "AheadStore$Claims" "saveCount" "[I" ∈ wsX0_init := by decide +kernel
theorem kX0_init_8 : Cond.fieldLink RX0 24 "AheadStore$Claims" "topCount" "[I" ∈ wsX0_init := by decide +kernel
theorem kX0_init_9 : Cond.fieldLink RX0 27 "AheadStore$Claims" "saves" "[I" ∈ wsX0_init := by decide +kernel
theorem kX0_init_10 : Cond.fieldLink RX0 30 "AheadStore$Claims" "tops" "[I" ∈ wsX0_init := by decide +kernel
set_option maxHeartbeats 4000000 in
set_option maxRecDepth 100000 in
theorem i_X0 {l : Launch} {dC : Nat → ClassId} {dI : Nat → Nat → Nat} {cI : ClassId} {b sz : Nat} : ctC sxE l yX0_init wsX0_init rX0_init (dC, dI) vwCl [(cI, .int)] b [(b, .inr (0, [.null, .null, .null, .null, .null, .null, .null]))] sz 7 662 (fun q => cs0 cI q i0) := by
  refine mx_c (cc := cX0_init) (maxL := 1) (by decide) rfl rfl (Nat.le_of_ble_eq_true rfl) ?_
  intro p e s m below meth c Z A ls args hx hb hml hown hts hA hP hK hD hE hl hin hret
  have hown : s.vm.findClass RX0 = some m.cls := hown
  have hS : va_S A s.heap s.heap [] := va_S.rf
  refine lv_aload_n hx hb dX0_init_0 rfl (lv_at hl 0 rfl) ?_
  refine W.objInit hx hb hown (hts _ kX0_init_0) (hts _ kX0_init_1) (hts _ kX0_init_2) rfl (by rw [hml]; exact hl.1) rfl dX0_init_1 (Nat.le_of_ble_eq_true rfl) (Nat.le_of_ble_eq_true rfl) ?_
  refine W.eq (g2 := F0 m 4 ls []) rfl ?_
  refine lv_aload_n hx hb dX0_init_4 rfl (lv_at hl 0 rfl) ?_
  refine lv_sipush (v := 256) hx hb dX0_init_5 (by decide) ?_
  refine va_newa (atype := .int) (ty := .int) (N' := 256) (a0 := (256, .inl (fun _ => 0))) hx hb (hts _ kX0_init_3) rfl hK hP hD hS hA (fun _ => rfl) (by decide) (by decide) (by decide) (Nat.le_of_ble_eq_true rfl) (Nat.le_of_ble_eq_true rfl) dX0_init_8 (fun q8 cA H hK2 hP hD hS => ?_)
  have ec := (cI_eq hK2).symm
  subst ec
  have hP : va_P (dC, dI) vwCl ([(b, .inr (0, [.null, .null, .null, .null, .null, .null, .null])), (q8, .inl (cI, 256, .inl (fun _ => 0)))] : va_W) H := hP
  have hD : va_D A ([(b, .inr (0, [.null, .null, .null, .null, .null, .null, .null])), (q8, .inl (cI, 256, .inl (fun _ => 0)))] : va_W) := hD
  refine W.widen (k := 1) (n := 256) (by decide) (by decide) ?_
  refine va_putF (D := (dC, dI)) (ci := 0) (v := .ref q8) (ty := (.array .int)) (C := RX0) (T := TX0) (N := 7) hx hb hts inX0_init_0 tyX0 tyX0_ok nmX0 hown hK hP hD hS 0 rfl rfl 0 (by decide) (hts _ kX0_init_4) (fun _ h9 => h9) rfl hin rfl (tyX0_ok 0 (by decide)) rfl rfl (Nat.le_of_ble_eq_true rfl) dX0_init_10 (fun H locs hP hD hS => ?_)
  have hP : va_P (dC, dI) vwCl ([(b, .inr (0, [.ref q8, .null, .null, .null, .null, .null, .null])), (q8, .inl (cI, 256, .inl (fun _ => 0)))] : va_W) H := hP
  have hD : va_D A ([(b, .inr (0, [.ref q8, .null, .null, .null, .null, .null, .null])), (q8, .inl (cI, 256, .inl (fun _ => 0)))] : va_W) := hD
  refine lv_aload_n hx hb dX0_init_13 rfl (lv_at hl 0 rfl) ?_
  refine lv_sipush (v := 256) hx hb dX0_init_14 (by decide) ?_
  refine va_newa (atype := .int) (ty := .int) (N' := 256) (a0 := (256, .inl (fun _ => 0))) hx hb (hts _ kX0_init_3) rfl hK hP hD hS hA (fun _ => rfl) (by decide) (by decide) (by decide) (Nat.le_of_ble_eq_true rfl) (Nat.le_of_ble_eq_true rfl) dX0_init_17 (fun q17 cA H hK2 hP hD hS => ?_)
  have ec := (cI_eq hK2).symm
  subst ec
  have hP : va_P (dC, dI) vwCl ([(b, .inr (0, [.ref q8, .null, .null, .null, .null, .null, .null])), (q8, .inl (cI, 256, .inl (fun _ => 0))), (q17, .inl (cI, 256, .inl (fun _ => 0)))] : va_W) H := hP
  have hD : va_D A ([(b, .inr (0, [.ref q8, .null, .null, .null, .null, .null, .null])), (q8, .inl (cI, 256, .inl (fun _ => 0))), (q17, .inl (cI, 256, .inl (fun _ => 0)))] : va_W) := hD
  refine W.widen (k := 2) (n := 512) (by decide) (by decide) ?_
  refine va_putF (D := (dC, dI)) (ci := 0) (v := .ref q17) (ty := (.array .int)) (C := RX0) (T := TX0) (N := 7) hx hb hts inX0_init_0 tyX0 tyX0_ok nmX0 hown hK hP hD hS 0 rfl rfl 1 (by decide) (hts _ kX0_init_5) (fun _ h9 => h9) rfl hin rfl (tyX0_ok 1 (by decide)) rfl rfl (Nat.le_of_ble_eq_true rfl) dX0_init_19 (fun H locs hP hD hS => ?_)
  have hP : va_P (dC, dI) vwCl ([(b, .inr (0, [.ref q8, .ref q17, .null, .null, .null, .null, .null])), (q8, .inl (cI, 256, .inl (fun _ => 0))), (q17, .inl (cI, 256, .inl (fun _ => 0)))] : va_W) H := hP
  have hD : va_D A ([(b, .inr (0, [.ref q8, .ref q17, .null, .null, .null, .null, .null])), (q8, .inl (cI, 256, .inl (fun _ => 0))), (q17, .inl (cI, 256, .inl (fun _ => 0)))] : va_W) := hD
  refine lv_aload_n hx hb dX0_init_22 rfl (lv_at hl 0 rfl) ?_
  refine lv_bipush (v := 10) hx hb dX0_init_23 (by decide) ?_
  refine va_newa (atype := .int) (ty := .int) (N' := 10) (a0 := (10, .inl (fun _ => 0))) hx hb (hts _ kX0_init_3) rfl hK hP hD hS hA (fun _ => rfl) (by decide) (by decide) (by decide) (Nat.le_of_ble_eq_true rfl) (Nat.le_of_ble_eq_true rfl) dX0_init_25 (fun q25 cA H hK2 hP hD hS => ?_)
  have ec := (cI_eq hK2).symm
  subst ec
  have hP : va_P (dC, dI) vwCl ([(b, .inr (0, [.ref q8, .ref q17, .null, .null, .null, .null, .null])), (q8, .inl (cI, 256, .inl (fun _ => 0))), (q17, .inl (cI, 256, .inl (fun _ => 0))), (q25, .inl (cI, 10, .inl (fun _ => 0)))] : va_W) H := hP
  have hD : va_D A ([(b, .inr (0, [.ref q8, .ref q17, .null, .null, .null, .null, .null])), (q8, .inl (cI, 256, .inl (fun _ => 0))), (q17, .inl (cI, 256, .inl (fun _ => 0))), (q25, .inl (cI, 10, .inl (fun _ => 0)))] : va_W) := hD
  refine W.widen (k := 3) (n := 522) (by decide) (by decide) ?_
  refine va_putF (D := (dC, dI)) (ci := 0) (v := .ref q25) (ty := (.array .int)) (C := RX0) (T := TX0) (N := 7) hx hb hts inX0_init_0 tyX0 tyX0_ok nmX0 hown hK hP hD hS 0 rfl rfl 2 (by decide) (hts _ kX0_init_6) (fun _ h9 => h9) rfl hin rfl (tyX0_ok 2 (by decide)) rfl rfl (Nat.le_of_ble_eq_true rfl) dX0_init_27 (fun H locs hP hD hS => ?_)
  have hP : va_P (dC, dI) vwCl ([(b, .inr (0, [.ref q8, .ref q17, .ref q25, .null, .null, .null, .null])), (q8, .inl (cI, 256, .inl (fun _ => 0))), (q17, .inl (cI, 256, .inl (fun _ => 0))), (q25, .inl (cI, 10, .inl (fun _ => 0)))] : va_W) H := hP
  have hD : va_D A ([(b, .inr (0, [.ref q8, .ref q17, .ref q25, .null, .null, .null, .null])), (q8, .inl (cI, 256, .inl (fun _ => 0))), (q17, .inl (cI, 256, .inl (fun _ => 0))), (q25, .inl (cI, 10, .inl (fun _ => 0)))] : va_W) := hD
  refine lv_aload_n hx hb dX0_init_30 rfl (lv_at hl 0 rfl) ?_
  refine lv_bipush (v := 10) hx hb dX0_init_31 (by decide) ?_
  refine va_newa (atype := .int) (ty := .int) (N' := 10) (a0 := (10, .inl (fun _ => 0))) hx hb (hts _ kX0_init_3) rfl hK hP hD hS hA (fun _ => rfl) (by decide) (by decide) (by decide) (Nat.le_of_ble_eq_true rfl) (Nat.le_of_ble_eq_true rfl) dX0_init_33 (fun q33 cA H hK2 hP hD hS => ?_)
  have ec := (cI_eq hK2).symm
  subst ec
  have hP : va_P (dC, dI) vwCl ([(b, .inr (0, [.ref q8, .ref q17, .ref q25, .null, .null, .null, .null])), (q8, .inl (cI, 256, .inl (fun _ => 0))), (q17, .inl (cI, 256, .inl (fun _ => 0))), (q25, .inl (cI, 10, .inl (fun _ => 0))), (q33, .inl (cI, 10, .inl (fun _ => 0)))] : va_W) H := hP
  have hD : va_D A ([(b, .inr (0, [.ref q8, .ref q17, .ref q25, .null, .null, .null, .null])), (q8, .inl (cI, 256, .inl (fun _ => 0))), (q17, .inl (cI, 256, .inl (fun _ => 0))), (q25, .inl (cI, 10, .inl (fun _ => 0))), (q33, .inl (cI, 10, .inl (fun _ => 0)))] : va_W) := hD
  refine W.widen (k := 4) (n := 532) (by decide) (by decide) ?_
  refine va_putF (D := (dC, dI)) (ci := 0) (v := .ref q33) (ty := (.array .int)) (C := RX0) (T := TX0) (N := 7) hx hb hts inX0_init_0 tyX0 tyX0_ok nmX0 hown hK hP hD hS 0 rfl rfl 3 (by decide) (hts _ kX0_init_7) (fun _ h9 => h9) rfl hin rfl (tyX0_ok 3 (by decide)) rfl rfl (Nat.le_of_ble_eq_true rfl) dX0_init_35 (fun H locs hP hD hS => ?_)
  have hP : va_P (dC, dI) vwCl ([(b, .inr (0, [.ref q8, .ref q17, .ref q25, .ref q33, .null, .null, .null])), (q8, .inl (cI, 256, .inl (fun _ => 0))), (q17, .inl (cI, 256, .inl (fun _ => 0))), (q25, .inl (cI, 10, .inl (fun _ => 0))), (q33, .inl (cI, 10, .inl (fun _ => 0)))] : va_W) H := hP
  have hD : va_D A ([(b, .inr (0, [.ref q8, .ref q17, .ref q25, .ref q33, .null, .null, .null])), (q8, .inl (cI, 256, .inl (fun _ => 0))), (q17, .inl (cI, 256, .inl (fun _ => 0))), (q25, .inl (cI, 10, .inl (fun _ => 0))), (q33, .inl (cI, 10, .inl (fun _ => 0)))] : va_W) := hD
  refine lv_aload_n hx hb dX0_init_38 rfl (lv_at hl 0 rfl) ?_
  refine lv_bipush (v := 10) hx hb dX0_init_39 (by decide) ?_
  refine va_newa (atype := .int) (ty := .int) (N' := 10) (a0 := (10, .inl (fun _ => 0))) hx hb (hts _ kX0_init_3) rfl hK hP hD hS hA (fun _ => rfl) (by decide) (by decide) (by decide) (Nat.le_of_ble_eq_true rfl) (Nat.le_of_ble_eq_true rfl) dX0_init_41 (fun q41 cA H hK2 hP hD hS => ?_)
  have ec := (cI_eq hK2).symm
  subst ec
  have hP : va_P (dC, dI) vwCl ([(b, .inr (0, [.ref q8, .ref q17, .ref q25, .ref q33, .null, .null, .null])), (q8, .inl (cI, 256, .inl (fun _ => 0))), (q17, .inl (cI, 256, .inl (fun _ => 0))), (q25, .inl (cI, 10, .inl (fun _ => 0))), (q33, .inl (cI, 10, .inl (fun _ => 0))), (q41, .inl (cI, 10, .inl (fun _ => 0)))] : va_W) H := hP
  have hD : va_D A ([(b, .inr (0, [.ref q8, .ref q17, .ref q25, .ref q33, .null, .null, .null])), (q8, .inl (cI, 256, .inl (fun _ => 0))), (q17, .inl (cI, 256, .inl (fun _ => 0))), (q25, .inl (cI, 10, .inl (fun _ => 0))), (q33, .inl (cI, 10, .inl (fun _ => 0))), (q41, .inl (cI, 10, .inl (fun _ => 0)))] : va_W) := hD
  refine W.widen (k := 5) (n := 542) (by decide) (by decide) ?_
  refine va_putF (D := (dC, dI)) (ci := 0) (v := .ref q41) (ty := (.array .int)) (C := RX0) (T := TX0) (N := 7) hx hb hts inX0_init_0 tyX0 tyX0_ok nmX0 hown hK hP hD hS 0 rfl rfl 4 (by decide) (hts _ kX0_init_8) (fun _ h9 => h9) rfl hin rfl (tyX0_ok 4 (by decide)) rfl rfl (Nat.le_of_ble_eq_true rfl) dX0_init_43 (fun H locs hP hD hS => ?_)
  have hP : va_P (dC, dI) vwCl ([(b, .inr (0, [.ref q8, .ref q17, .ref q25, .ref q33, .ref q41, .null, .null])), (q8, .inl (cI, 256, .inl (fun _ => 0))), (q17, .inl (cI, 256, .inl (fun _ => 0))), (q25, .inl (cI, 10, .inl (fun _ => 0))), (q33, .inl (cI, 10, .inl (fun _ => 0))), (q41, .inl (cI, 10, .inl (fun _ => 0)))] : va_W) H := hP
  have hD : va_D A ([(b, .inr (0, [.ref q8, .ref q17, .ref q25, .ref q33, .ref q41, .null, .null])), (q8, .inl (cI, 256, .inl (fun _ => 0))), (q17, .inl (cI, 256, .inl (fun _ => 0))), (q25, .inl (cI, 10, .inl (fun _ => 0))), (q33, .inl (cI, 10, .inl (fun _ => 0))), (q41, .inl (cI, 10, .inl (fun _ => 0)))] : va_W) := hD
  refine lv_aload_n hx hb dX0_init_46 rfl (lv_at hl 0 rfl) ?_
  refine lv_bipush (v := 80) hx hb dX0_init_47 (by decide) ?_
  refine va_newa (atype := .int) (ty := .int) (N' := 80) (a0 := (80, .inl (fun _ => 0))) hx hb (hts _ kX0_init_3) rfl hK hP hD hS hA (fun _ => rfl) (by decide) (by decide) (by decide) (Nat.le_of_ble_eq_true rfl) (Nat.le_of_ble_eq_true rfl) dX0_init_49 (fun q49 cA H hK2 hP hD hS => ?_)
  have ec := (cI_eq hK2).symm
  subst ec
  have hP : va_P (dC, dI) vwCl ([(b, .inr (0, [.ref q8, .ref q17, .ref q25, .ref q33, .ref q41, .null, .null])), (q8, .inl (cI, 256, .inl (fun _ => 0))), (q17, .inl (cI, 256, .inl (fun _ => 0))), (q25, .inl (cI, 10, .inl (fun _ => 0))), (q33, .inl (cI, 10, .inl (fun _ => 0))), (q41, .inl (cI, 10, .inl (fun _ => 0))), (q49, .inl (cI, 80, .inl (fun _ => 0)))] : va_W) H := hP
  have hD : va_D A ([(b, .inr (0, [.ref q8, .ref q17, .ref q25, .ref q33, .ref q41, .null, .null])), (q8, .inl (cI, 256, .inl (fun _ => 0))), (q17, .inl (cI, 256, .inl (fun _ => 0))), (q25, .inl (cI, 10, .inl (fun _ => 0))), (q33, .inl (cI, 10, .inl (fun _ => 0))), (q41, .inl (cI, 10, .inl (fun _ => 0))), (q49, .inl (cI, 80, .inl (fun _ => 0)))] : va_W) := hD
  refine W.widen (k := 6) (n := 622) (by decide) (by decide) ?_
  refine va_putF (D := (dC, dI)) (ci := 0) (v := .ref q49) (ty := (.array .int)) (C := RX0) (T := TX0) (N := 7) hx hb hts inX0_init_0 tyX0 tyX0_ok nmX0 hown hK hP hD hS 0 rfl rfl 5 (by decide) (hts _ kX0_init_9) (fun _ h9 => h9) rfl hin rfl (tyX0_ok 5 (by decide)) rfl rfl (Nat.le_of_ble_eq_true rfl) dX0_init_51 (fun H locs hP hD hS => ?_)
  have hP : va_P (dC, dI) vwCl ([(b, .inr (0, [.ref q8, .ref q17, .ref q25, .ref q33, .ref q41, .ref q49, .null])), (q8, .inl (cI, 256, .inl (fun _ => 0))), (q17, .inl (cI, 256, .inl (fun _ => 0))), (q25, .inl (cI, 10, .inl (fun _ => 0))), (q33, .inl (cI, 10, .inl (fun _ => 0))), (q41, .inl (cI, 10, .inl (fun _ => 0))), (q49, .inl (cI, 80, .inl (fun _ => 0)))] : va_W) H := hP
  have hD : va_D A ([(b, .inr (0, [.ref q8, .ref q17, .ref q25, .ref q33, .ref q41, .ref q49, .null])), (q8, .inl (cI, 256, .inl (fun _ => 0))), (q17, .inl (cI, 256, .inl (fun _ => 0))), (q25, .inl (cI, 10, .inl (fun _ => 0))), (q33, .inl (cI, 10, .inl (fun _ => 0))), (q41, .inl (cI, 10, .inl (fun _ => 0))), (q49, .inl (cI, 80, .inl (fun _ => 0)))] : va_W) := hD
  refine lv_aload_n hx hb dX0_init_54 rfl (lv_at hl 0 rfl) ?_
  refine lv_bipush (v := 40) hx hb dX0_init_55 (by decide) ?_
  refine va_newa (atype := .int) (ty := .int) (N' := 40) (a0 := (40, .inl (fun _ => 0))) hx hb (hts _ kX0_init_3) rfl hK hP hD hS hA (fun _ => rfl) (by decide) (by decide) (by decide) (Nat.le_of_ble_eq_true rfl) (Nat.le_of_ble_eq_true rfl) dX0_init_57 (fun q57 cA H hK2 hP hD hS => ?_)
  have ec := (cI_eq hK2).symm
  subst ec
  have hP : va_P (dC, dI) vwCl ([(b, .inr (0, [.ref q8, .ref q17, .ref q25, .ref q33, .ref q41, .ref q49, .null])), (q8, .inl (cI, 256, .inl (fun _ => 0))), (q17, .inl (cI, 256, .inl (fun _ => 0))), (q25, .inl (cI, 10, .inl (fun _ => 0))), (q33, .inl (cI, 10, .inl (fun _ => 0))), (q41, .inl (cI, 10, .inl (fun _ => 0))), (q49, .inl (cI, 80, .inl (fun _ => 0))), (q57, .inl (cI, 40, .inl (fun _ => 0)))] : va_W) H := hP
  have hD : va_D A ([(b, .inr (0, [.ref q8, .ref q17, .ref q25, .ref q33, .ref q41, .ref q49, .null])), (q8, .inl (cI, 256, .inl (fun _ => 0))), (q17, .inl (cI, 256, .inl (fun _ => 0))), (q25, .inl (cI, 10, .inl (fun _ => 0))), (q33, .inl (cI, 10, .inl (fun _ => 0))), (q41, .inl (cI, 10, .inl (fun _ => 0))), (q49, .inl (cI, 80, .inl (fun _ => 0))), (q57, .inl (cI, 40, .inl (fun _ => 0)))] : va_W) := hD
  refine W.widen (k := 7) (n := 662) (by decide) (by decide) ?_
  refine va_putF (D := (dC, dI)) (ci := 0) (v := .ref q57) (ty := (.array .int)) (C := RX0) (T := TX0) (N := 7) hx hb hts inX0_init_0 tyX0 tyX0_ok nmX0 hown hK hP hD hS 0 rfl rfl 6 (by decide) (hts _ kX0_init_10) (fun _ h9 => h9) rfl hin rfl (tyX0_ok 6 (by decide)) rfl rfl (Nat.le_of_ble_eq_true rfl) dX0_init_59 (fun H locs hP hD hS => ?_)
  have hP : va_P (dC, dI) vwCl ([(b, .inr (0, [.ref q8, .ref q17, .ref q25, .ref q33, .ref q41, .ref q49, .ref q57])), (q8, .inl (cI, 256, .inl (fun _ => 0))), (q17, .inl (cI, 256, .inl (fun _ => 0))), (q25, .inl (cI, 10, .inl (fun _ => 0))), (q33, .inl (cI, 10, .inl (fun _ => 0))), (q41, .inl (cI, 10, .inl (fun _ => 0))), (q49, .inl (cI, 80, .inl (fun _ => 0))), (q57, .inl (cI, 40, .inl (fun _ => 0)))] : va_W) H := hP
  have hD : va_D A ([(b, .inr (0, [.ref q8, .ref q17, .ref q25, .ref q33, .ref q41, .ref q49, .ref q57])), (q8, .inl (cI, 256, .inl (fun _ => 0))), (q17, .inl (cI, 256, .inl (fun _ => 0))), (q25, .inl (cI, 10, .inl (fun _ => 0))), (q33, .inl (cI, 10, .inl (fun _ => 0))), (q41, .inl (cI, 10, .inl (fun _ => 0))), (q49, .inl (cI, 80, .inl (fun _ => 0))), (q57, .inl (cI, 40, .inl (fun _ => 0)))] : va_W) := hD
  have hP9 : va_P (dC, dI) vwCl (cs0 cI (fun i => [b, q8, q17, q25, q33, q41, q49, q57].getD i 0) i0) H := hP.sub [0, 1, 2, 3, 4, 5, 6, 7] rfl
  have hD9 : va_D A (cs0 cI (fun i => [b, q8, q17, q25, q33, q41, q49, q57].getD i 0) i0) := hD.sub [0, 1, 2, 3, 4, 5, 6, 7] (by decide) rfl
  exact hret _ _ _ _ (fun i => [b, q8, q17, q25, q33, q41, q49, q57].getD i 0) dX0_init_62 rfl hP9 hD9 hS

def i5 : S5 := ((fun _ => 0), (fun _ => 0), (fun _ => 0))
abbrev rX5_init : Room := { frames := 1, cells := 3, slots := 30, locals := 12 }
theorem hdX5_init : yX5_init.cls ≠ "java/lang/invoke/MethodHandle" ∧ yX5_init.cls ≠ "java/lang/invoke/VarHandle" ∧ (parseMethodDescriptor yX5_init.desc).map (fun d => d.parameters.length) = some 0 := by decide +kernel
theorem inX5_init_5 : ∀ w ∈ wsX50, w ∈ wsX5_init := by decide +kernel
theorem kX5_init_0 : Cond.methodLink RX5 3 objectInit ∈ wsX5_init := by decide +kernel
theorem kX5_init_1 : Cond.instanceMethod objectInit ∈ wsX5_init := by decide +kernel
theorem kX5_init_2 : Cond.code objectInit ⟨#[0xb1]⟩ 1 none ∈ wsX5_init := by decide +kernel
theorem kX5_init_3 : Cond.arrayClass .int ∈ wsX5_init := by decide +kernel
theorem kX5_init_4 : Cond.fieldLink RX5 9 "AheadStore$Roster" "is" "[I" ∈ wsX5_init := by decide +kernel
theorem kX5_init_5 : Cond.fieldLink RX5 15 "AheadStore$Roster" "last" "[I" ∈ wsX5_init := by decide +kernel
theorem kX5_init_6 : Cond.fieldLink RX5 18 "AheadStore$Roster" "cursor" "[I" ∈ wsX5_init := by decide +kernel
set_option maxHeartbeats 4000000 in
set_option maxRecDepth 100000 in
theorem i_X5 {l : Launch} {dC : Nat → ClassId} {dI : Nat → Nat → Nat} {cI : ClassId} {b sz : Nat} : ctC sxE l yX5_init wsX5_init rX5_init (dC, dI) vwCl [(cI, .int)] b [(b, .inr (5, [.null, .null, .null]))] sz 3 30 (fun q => cs5 cI q i5) := by
  refine mx_c (cc := cX5_init) (maxL := 1) (by decide) rfl rfl (Nat.le_of_ble_eq_true rfl) ?_
  intro p e s m below meth c Z A ls args hx hb hml hown hts hA hP hK hD hE hl hin hret
  have hown : s.vm.findClass RX5 = some m.cls := hown
  have hS : va_S A s.heap s.heap [] := va_S.rf
  refine lv_aload_n hx hb dX5_init_0 rfl (lv_at hl 0 rfl) ?_
  refine W.objInit hx hb hown (hts _ kX5_init_0) (hts _ kX5_init_1) (hts _ kX5_init_2) rfl (by rw [hml]; exact hl.1) rfl dX5_init_1 (Nat.le_of_ble_eq_true rfl) (Nat.le_of_ble_eq_true rfl) ?_
  refine W.eq (g2 := F0 m 4 ls []) rfl ?_
  refine lv_aload_n hx hb dX5_init_4 rfl (lv_at hl 0 rfl) ?_
  refine lv_bipush (v := 10) hx hb dX5_init_5 (by decide) ?_
  refine va_newa (atype := .int) (ty := .int) (N' := 10) (a0 := (10, .inl (fun _ => 0))) hx hb (hts _ kX5_init_3) rfl hK hP hD hS hA (fun _ => rfl) (by decide) (by decide) (by decide) (Nat.le_of_ble_eq_true rfl) (Nat.le_of_ble_eq_true rfl) dX5_init_7 (fun q7 cA H hK2 hP hD hS => ?_)
  have ec := (cI_eq hK2).symm
  subst ec
  have hP : va_P (dC, dI) vwCl ([(b, .inr (5, [.null, .null, .null])), (q7, .inl (cI, 10, .inl (fun _ => 0)))] : va_W) H := hP
  have hD : va_D A ([(b, .inr (5, [.null, .null, .null])), (q7, .inl (cI, 10, .inl (fun _ => 0)))] : va_W) := hD
  refine W.widen (k := 1) (n := 10) (by decide) (by decide) ?_
  refine va_putF (D := (dC, dI)) (ci := 5) (v := .ref q7) (ty := (.array .int)) (C := RX5) (T := TX5) (N := 3) hx hb hts inX5_init_5 tyX5 tyX5_ok nmX5 hown hK hP hD hS 0 rfl rfl 0 (by decide) (hts _ kX5_init_4) (fun _ h9 => h9) rfl hin rfl (tyX5_ok 0 (by decide)) rfl rfl (Nat.le_of_ble_eq_true rfl) dX5_init_9 (fun H locs hP hD hS => ?_)
  have hP : va_P (dC, dI) vwCl ([(b, .inr (5, [.ref q7, .null, .null])), (q7, .inl (cI, 10, .inl (fun _ => 0)))] : va_W) H := hP
  have hD : va_D A ([(b, .inr (5, [.ref q7, .null, .null])), (q7, .inl (cI, 10, .inl (fun _ => 0)))] : va_W) := hD
  refine lv_aload_n hx hb dX5_init_12 rfl (lv_at hl 0 rfl) ?_
  refine lv_bipush (v := 10) hx hb dX5_init_13 (by decide) ?_
  refine va_newa (atype := .int) (ty := .int) (N' := 10) (a0 := (10, .inl (fun _ => 0))) hx hb (hts _ kX5_init_3) rfl hK hP hD hS hA (fun _ => rfl) (by decide) (by decide) (by decide) (Nat.le_of_ble_eq_true rfl) (Nat.le_of_ble_eq_true rfl) dX5_init_15 (fun q15 cA H hK2 hP hD hS => ?_)
  have ec := (cI_eq hK2).symm
  subst ec
  have hP : va_P (dC, dI) vwCl ([(b, .inr (5, [.ref q7, .null, .null])), (q7, .inl (cI, 10, .inl (fun _ => 0))), (q15, .inl (cI, 10, .inl (fun _ => 0)))] : va_W) H := hP
  have hD : va_D A ([(b, .inr (5, [.ref q7, .null, .null])), (q7, .inl (cI, 10, .inl (fun _ => 0))), (q15, .inl (cI, 10, .inl (fun _ => 0)))] : va_W) := hD
  refine W.widen (k := 2) (n := 20) (by decide) (by decide) ?_
  refine va_putF (D := (dC, dI)) (ci := 5) (v := .ref q15) (ty := (.array .int)) (C := RX5) (T := TX5) (N := 3) hx hb hts inX5_init_5 tyX5 tyX5_ok nmX5 hown hK hP hD hS 0 rfl rfl 1 (by decide) (hts _ kX5_init_5) (fun _ h9 => h9) rfl hin rfl (tyX5_ok 1 (by decide)) rfl rfl (Nat.le_of_ble_eq_true rfl) dX5_init_17 (fun H locs hP hD hS => ?_)
  have hP : va_P (dC, dI) vwCl ([(b, .inr (5, [.ref q7, .ref q15, .null])), (q7, .inl (cI, 10, .inl (fun _ => 0))), (q15, .inl (cI, 10, .inl (fun _ => 0)))] : va_W) H := hP
  have hD : va_D A ([(b, .inr (5, [.ref q7, .ref q15, .null])), (q7, .inl (cI, 10, .inl (fun _ => 0))), (q15, .inl (cI, 10, .inl (fun _ => 0)))] : va_W) := hD
  refine lv_aload_n hx hb dX5_init_20 rfl (lv_at hl 0 rfl) ?_
  refine lv_bipush (v := 10) hx hb dX5_init_21 (by decide) ?_
  refine va_newa (atype := .int) (ty := .int) (N' := 10) (a0 := (10, .inl (fun _ => 0))) hx hb (hts _ kX5_init_3) rfl hK hP hD hS hA (fun _ => rfl) (by decide) (by decide) (by decide) (Nat.le_of_ble_eq_true rfl) (Nat.le_of_ble_eq_true rfl) dX5_init_23 (fun q23 cA H hK2 hP hD hS => ?_)
  have ec := (cI_eq hK2).symm
  subst ec
  have hP : va_P (dC, dI) vwCl ([(b, .inr (5, [.ref q7, .ref q15, .null])), (q7, .inl (cI, 10, .inl (fun _ => 0))), (q15, .inl (cI, 10, .inl (fun _ => 0))), (q23, .inl (cI, 10, .inl (fun _ => 0)))] : va_W) H := hP
  have hD : va_D A ([(b, .inr (5, [.ref q7, .ref q15, .null])), (q7, .inl (cI, 10, .inl (fun _ => 0))), (q15, .inl (cI, 10, .inl (fun _ => 0))), (q23, .inl (cI, 10, .inl (fun _ => 0)))] : va_W) := hD
  refine W.widen (k := 3) (n := 30) (by decide) (by decide) ?_
  refine va_putF (D := (dC, dI)) (ci := 5) (v := .ref q23) (ty := (.array .int)) (C := RX5) (T := TX5) (N := 3) hx hb hts inX5_init_5 tyX5 tyX5_ok nmX5 hown hK hP hD hS 0 rfl rfl 2 (by decide) (hts _ kX5_init_6) (fun _ h9 => h9) rfl hin rfl (tyX5_ok 2 (by decide)) rfl rfl (Nat.le_of_ble_eq_true rfl) dX5_init_25 (fun H locs hP hD hS => ?_)
  have hP : va_P (dC, dI) vwCl ([(b, .inr (5, [.ref q7, .ref q15, .ref q23])), (q7, .inl (cI, 10, .inl (fun _ => 0))), (q15, .inl (cI, 10, .inl (fun _ => 0))), (q23, .inl (cI, 10, .inl (fun _ => 0)))] : va_W) H := hP
  have hD : va_D A ([(b, .inr (5, [.ref q7, .ref q15, .ref q23])), (q7, .inl (cI, 10, .inl (fun _ => 0))), (q15, .inl (cI, 10, .inl (fun _ => 0))), (q23, .inl (cI, 10, .inl (fun _ => 0)))] : va_W) := hD
  have hP9 : va_P (dC, dI) vwCl (cs5 cI (fun i => [b, q7, q15, q23].getD i 0) i5) H := hP.sub [0, 1, 2, 3] rfl
  have hD9 : va_D A (cs5 cI (fun i => [b, q7, q15, q23].getD i 0) i5) := hD.sub [0, 1, 2, 3] (by decide) rfl
  exact hret _ _ _ _ (fun i => [b, q7, q15, q23].getD i 0) dX5_init_28 rfl hP9 hD9 hS

def i7 : S7 := ((fun _ => 0), (fun _ => 0), 8, 8)
abbrev rX7_init : Room := { frames := 1, cells := 2, slots := 272, locals := 12 }
theorem hdX7_init : yX7_init.cls ≠ "java/lang/invoke/MethodHandle" ∧ yX7_init.cls ≠ "java/lang/invoke/VarHandle" ∧ (parseMethodDescriptor yX7_init.desc).map (fun d => d.parameters.length) = some 0 := by decide +kernel
theorem inX7_init_7 : ∀ w ∈ wsX70, w ∈ wsX7_init := by decide +kernel
theorem kX7_init_0 : Cond.methodLink RX7 3 objectInit ∈ wsX7_init := by decide +kernel
theorem kX7_init_1 : Cond.instanceMethod objectInit ∈ wsX7_init := by decide +kernel
theorem kX7_init_2 : Cond.code objectInit ⟨#[0xb1]⟩ 1 none ∈ wsX7_init := by decide +kernel
theorem kX7_init_3 : Cond.arrayClass .int ∈ wsX7_init := by decide +kernel
theorem kX7_init_4 : Cond.fieldLink RX7 9 "AheadStore$Standby" "row" "[I" ∈ wsX7_init := by decide +kernel
theorem kX7_init_5 : Cond.fieldLink RX7 15 "AheadStore$Standby" "stamps" "[I" ∈ wsX7_init := by decide +kernel
theorem kX7_init_6 : Cond.fieldLink RX7 18 "AheadStore$Standby" "received" "I" ∈ wsX7_init := by decide +kernel
theorem kX7_init_7 : Cond.fieldLink RX7 22 "AheadStore$Standby" "done" "I" ∈ wsX7_init := by decide +kernel
set_option maxHeartbeats 4000000 in
set_option maxRecDepth 100000 in
theorem i_X7 {l : Launch} {dC : Nat → ClassId} {dI : Nat → Nat → Nat} {cI : ClassId} {b sz : Nat} : ctC sxE l yX7_init wsX7_init rX7_init (dC, dI) vwCl [(cI, .int)] b [(b, .inr (7, [.null, .null, .int 0, .int 0]))] sz 2 272 (fun q => cs7 cI q i7) := by
  refine mx_c (cc := cX7_init) (maxL := 1) (by decide) rfl rfl (Nat.le_of_ble_eq_true rfl) ?_
  intro p e s m below meth c Z A ls args hx hb hml hown hts hA hP hK hD hE hl hin hret
  have hown : s.vm.findClass RX7 = some m.cls := hown
  have hS : va_S A s.heap s.heap [] := va_S.rf
  refine lv_aload_n hx hb dX7_init_0 rfl (lv_at hl 0 rfl) ?_
  refine W.objInit hx hb hown (hts _ kX7_init_0) (hts _ kX7_init_1) (hts _ kX7_init_2) rfl (by rw [hml]; exact hl.1) rfl dX7_init_1 (Nat.le_of_ble_eq_true rfl) (Nat.le_of_ble_eq_true rfl) ?_
  refine W.eq (g2 := F0 m 4 ls []) rfl ?_
  refine lv_aload_n hx hb dX7_init_4 rfl (lv_at hl 0 rfl) ?_
  refine lv_sipush (v := 256) hx hb dX7_init_5 (by decide) ?_
  refine va_newa (atype := .int) (ty := .int) (N' := 256) (a0 := (256, .inl (fun _ => 0))) hx hb (hts _ kX7_init_3) rfl hK hP hD hS hA (fun _ => rfl) (by decide) (by decide) (by decide) (Nat.le_of_ble_eq_true rfl) (Nat.le_of_ble_eq_true rfl) dX7_init_8 (fun q8 cA H hK2 hP hD hS => ?_)
  have ec := (cI_eq hK2).symm
  subst ec
  have hP : va_P (dC, dI) vwCl ([(b, .inr (7, [.null, .null, .int 0, .int 0])), (q8, .inl (cI, 256, .inl (fun _ => 0)))] : va_W) H := hP
  have hD : va_D A ([(b, .inr (7, [.null, .null, .int 0, .int 0])), (q8, .inl (cI, 256, .inl (fun _ => 0)))] : va_W) := hD
  refine W.widen (k := 1) (n := 256) (by decide) (by decide) ?_
  refine va_putF (D := (dC, dI)) (ci := 7) (v := .ref q8) (ty := (.array .int)) (C := RX7) (T := TX7) (N := 4) hx hb hts inX7_init_7 tyX7 tyX7_ok nmX7 hown hK hP hD hS 0 rfl rfl 0 (by decide) (hts _ kX7_init_4) (fun _ h9 => h9) rfl hin rfl (tyX7_ok 0 (by decide)) rfl rfl (Nat.le_of_ble_eq_true rfl) dX7_init_10 (fun H locs hP hD hS => ?_)
  have hP : va_P (dC, dI) vwCl ([(b, .inr (7, [.ref q8, .null, .int 0, .int 0])), (q8, .inl (cI, 256, .inl (fun _ => 0)))] : va_W) H := hP
  have hD : va_D A ([(b, .inr (7, [.ref q8, .null, .int 0, .int 0])), (q8, .inl (cI, 256, .inl (fun _ => 0)))] : va_W) := hD
  refine lv_aload_n hx hb dX7_init_13 rfl (lv_at hl 0 rfl) ?_
  refine lv_bipush (v := 16) hx hb dX7_init_14 (by decide) ?_
  refine va_newa (atype := .int) (ty := .int) (N' := 16) (a0 := (16, .inl (fun _ => 0))) hx hb (hts _ kX7_init_3) rfl hK hP hD hS hA (fun _ => rfl) (by decide) (by decide) (by decide) (Nat.le_of_ble_eq_true rfl) (Nat.le_of_ble_eq_true rfl) dX7_init_16 (fun q16 cA H hK2 hP hD hS => ?_)
  have ec := (cI_eq hK2).symm
  subst ec
  have hP : va_P (dC, dI) vwCl ([(b, .inr (7, [.ref q8, .null, .int 0, .int 0])), (q8, .inl (cI, 256, .inl (fun _ => 0))), (q16, .inl (cI, 16, .inl (fun _ => 0)))] : va_W) H := hP
  have hD : va_D A ([(b, .inr (7, [.ref q8, .null, .int 0, .int 0])), (q8, .inl (cI, 256, .inl (fun _ => 0))), (q16, .inl (cI, 16, .inl (fun _ => 0)))] : va_W) := hD
  refine W.widen (k := 2) (n := 272) (by decide) (by decide) ?_
  refine va_putF (D := (dC, dI)) (ci := 7) (v := .ref q16) (ty := (.array .int)) (C := RX7) (T := TX7) (N := 4) hx hb hts inX7_init_7 tyX7 tyX7_ok nmX7 hown hK hP hD hS 0 rfl rfl 1 (by decide) (hts _ kX7_init_5) (fun _ h9 => h9) rfl hin rfl (tyX7_ok 1 (by decide)) rfl rfl (Nat.le_of_ble_eq_true rfl) dX7_init_18 (fun H locs hP hD hS => ?_)
  have hP : va_P (dC, dI) vwCl ([(b, .inr (7, [.ref q8, .ref q16, .int 0, .int 0])), (q8, .inl (cI, 256, .inl (fun _ => 0))), (q16, .inl (cI, 16, .inl (fun _ => 0)))] : va_W) H := hP
  have hD : va_D A ([(b, .inr (7, [.ref q8, .ref q16, .int 0, .int 0])), (q8, .inl (cI, 256, .inl (fun _ => 0))), (q16, .inl (cI, 16, .inl (fun _ => 0)))] : va_W) := hD
  refine lv_aload_n hx hb dX7_init_21 rfl (lv_at hl 0 rfl) ?_
  refine lv_bipush (v := 8) hx hb dX7_init_22 (by decide) ?_
  refine va_put (D := (dC, dI)) (ci := 7) (v := .int 8) (ty := .int) (C := RX7) (T := TX7) (N := 4) hx hb hts inX7_init_7 tyX7 tyX7_ok nmX7 hown hK hP hD hS 0 rfl rfl 2 (by decide) (hts _ kX7_init_6) (fun _ h9 => h9) rfl (tyX7_ok 2 (by decide)) rfl rfl (Nat.le_of_ble_eq_true rfl) dX7_init_24 (fun H locs hP hD hS => ?_)
  have hP : va_P (dC, dI) vwCl ([(b, .inr (7, [.ref q8, .ref q16, .int 8, .int 0])), (q8, .inl (cI, 256, .inl (fun _ => 0))), (q16, .inl (cI, 16, .inl (fun _ => 0)))] : va_W) H := hP
  have hD : va_D A ([(b, .inr (7, [.ref q8, .ref q16, .int 8, .int 0])), (q8, .inl (cI, 256, .inl (fun _ => 0))), (q16, .inl (cI, 16, .inl (fun _ => 0)))] : va_W) := hD
  refine lv_aload_n hx hb dX7_init_27 rfl (lv_at hl 0 rfl) ?_
  refine lv_bipush (v := 8) hx hb dX7_init_28 (by decide) ?_
  refine va_put (D := (dC, dI)) (ci := 7) (v := .int 8) (ty := .int) (C := RX7) (T := TX7) (N := 4) hx hb hts inX7_init_7 tyX7 tyX7_ok nmX7 hown hK hP hD hS 0 rfl rfl 3 (by decide) (hts _ kX7_init_7) (fun _ h9 => h9) rfl (tyX7_ok 3 (by decide)) rfl rfl (Nat.le_of_ble_eq_true rfl) dX7_init_30 (fun H locs hP hD hS => ?_)
  have hP : va_P (dC, dI) vwCl ([(b, .inr (7, [.ref q8, .ref q16, .int 8, .int 8])), (q8, .inl (cI, 256, .inl (fun _ => 0))), (q16, .inl (cI, 16, .inl (fun _ => 0)))] : va_W) H := hP
  have hD : va_D A ([(b, .inr (7, [.ref q8, .ref q16, .int 8, .int 8])), (q8, .inl (cI, 256, .inl (fun _ => 0))), (q16, .inl (cI, 16, .inl (fun _ => 0)))] : va_W) := hD
  have hP9 : va_P (dC, dI) vwCl (cs7 cI (fun i => [b, q8, q16].getD i 0) i7) H := hP.sub [0, 1, 2] rfl
  have hD9 : va_D A (cs7 cI (fun i => [b, q8, q16].getD i 0) i7) := hD.sub [0, 1, 2] (by decide) rfl
  exact hret _ _ _ _ (fun i => [b, q8, q16].getD i 0) dX7_init_33 rfl hP9 hD9 hS

def i6 : S6 := ((fun _ => 0), 0, 0)
abbrev rX6_init : Room := { frames := 1, cells := 1, slots := 96, locals := 12 }
theorem hdX6_init : yX6_init.cls ≠ "java/lang/invoke/MethodHandle" ∧ yX6_init.cls ≠ "java/lang/invoke/VarHandle" ∧ (parseMethodDescriptor yX6_init.desc).map (fun d => d.parameters.length) = some 0 := by decide +kernel
theorem inX6_init_6 : ∀ w ∈ wsX60, w ∈ wsX6_init := by decide +kernel
theorem kX6_init_0 : Cond.methodLink RX6 3 objectInit ∈ wsX6_init := by decide +kernel
theorem kX6_init_1 : Cond.instanceMethod objectInit ∈ wsX6_init := by decide +kernel
theorem kX6_init_2 : Cond.code objectInit ⟨#[0xb1]⟩ 1 none ∈ wsX6_init := by decide +kernel
theorem kX6_init_3 : Cond.arrayClass .int ∈ wsX6_init := by decide +kernel
theorem kX6_init_4 : Cond.fieldLink RX6 9 "AheadStore$Script" "parts" "[I" ∈ wsX6_init := by decide +kernel
theorem kX6_init_5 : Cond.fieldLink RX6 15 "AheadStore$Script" "size" "I" ∈ wsX6_init := by decide +kernel
theorem kX6_init_6 : Cond.fieldLink RX6 19 "AheadStore$Script" "ran" "I" ∈ wsX6_init := by decide +kernel
set_option maxHeartbeats 4000000 in
set_option maxRecDepth 100000 in
theorem i_X6 {l : Launch} {dC : Nat → ClassId} {dI : Nat → Nat → Nat} {cI : ClassId} {b sz : Nat} : ctC sxE l yX6_init wsX6_init rX6_init (dC, dI) vwCl [(cI, .int)] b [(b, .inr (6, [.null, .int 0, .int 0]))] sz 1 96 (fun q => cs6 cI q i6) := by
  refine mx_c (cc := cX6_init) (maxL := 1) (by decide) rfl rfl (Nat.le_of_ble_eq_true rfl) ?_
  intro p e s m below meth c Z A ls args hx hb hml hown hts hA hP hK hD hE hl hin hret
  have hown : s.vm.findClass RX6 = some m.cls := hown
  have hS : va_S A s.heap s.heap [] := va_S.rf
  refine lv_aload_n hx hb dX6_init_0 rfl (lv_at hl 0 rfl) ?_
  refine W.objInit hx hb hown (hts _ kX6_init_0) (hts _ kX6_init_1) (hts _ kX6_init_2) rfl (by rw [hml]; exact hl.1) rfl dX6_init_1 (Nat.le_of_ble_eq_true rfl) (Nat.le_of_ble_eq_true rfl) ?_
  refine W.eq (g2 := F0 m 4 ls []) rfl ?_
  refine lv_aload_n hx hb dX6_init_4 rfl (lv_at hl 0 rfl) ?_
  refine lv_bipush (v := 96) hx hb dX6_init_5 (by decide) ?_
  refine va_newa (atype := .int) (ty := .int) (N' := 96) (a0 := (96, .inl (fun _ => 0))) hx hb (hts _ kX6_init_3) rfl hK hP hD hS hA (fun _ => rfl) (by decide) (by decide) (by decide) (Nat.le_of_ble_eq_true rfl) (Nat.le_of_ble_eq_true rfl) dX6_init_7 (fun q7 cA H hK2 hP hD hS => ?_)
  have ec := (cI_eq hK2).symm
  subst ec
  have hP : va_P (dC, dI) vwCl ([(b, .inr (6, [.null, .int 0, .int 0])), (q7, .inl (cI, 96, .inl (fun _ => 0)))] : va_W) H := hP
  have hD : va_D A ([(b, .inr (6, [.null, .int 0, .int 0])), (q7, .inl (cI, 96, .inl (fun _ => 0)))] : va_W) := hD
  refine W.widen (k := 1) (n := 96) (by decide) (by decide) ?_
  refine va_putF (D := (dC, dI)) (ci := 6) (v := .ref q7) (ty := (.array .int)) (C := RX6) (T := TX6) (N := 3) hx hb hts inX6_init_6 tyX6 tyX6_ok nmX6 hown hK hP hD hS 0 rfl rfl 0 (by decide) (hts _ kX6_init_4) (fun _ h9 => h9) rfl hin rfl (tyX6_ok 0 (by decide)) rfl rfl (Nat.le_of_ble_eq_true rfl) dX6_init_9 (fun H locs hP hD hS => ?_)
  have hP : va_P (dC, dI) vwCl ([(b, .inr (6, [.ref q7, .int 0, .int 0])), (q7, .inl (cI, 96, .inl (fun _ => 0)))] : va_W) H := hP
  have hD : va_D A ([(b, .inr (6, [.ref q7, .int 0, .int 0])), (q7, .inl (cI, 96, .inl (fun _ => 0)))] : va_W) := hD
  refine lv_aload_n hx hb dX6_init_12 rfl (lv_at hl 0 rfl) ?_
  refine lv_iconst (v := 0) hx hb dX6_init_13 (by decide) ?_
  refine va_put (D := (dC, dI)) (ci := 6) (v := .int 0) (ty := .int) (C := RX6) (T := TX6) (N := 3) hx hb hts inX6_init_6 tyX6 tyX6_ok nmX6 hown hK hP hD hS 0 rfl rfl 1 (by decide) (hts _ kX6_init_5) (fun _ h9 => h9) rfl (tyX6_ok 1 (by decide)) rfl rfl (Nat.le_of_ble_eq_true rfl) dX6_init_14 (fun H locs hP hD hS => ?_)
  have hP : va_P (dC, dI) vwCl ([(b, .inr (6, [.ref q7, .int 0, .int 0])), (q7, .inl (cI, 96, .inl (fun _ => 0)))] : va_W) H := hP
  have hD : va_D A ([(b, .inr (6, [.ref q7, .int 0, .int 0])), (q7, .inl (cI, 96, .inl (fun _ => 0)))] : va_W) := hD
  refine lv_aload_n hx hb dX6_init_17 rfl (lv_at hl 0 rfl) ?_
  refine lv_iconst (v := 0) hx hb dX6_init_18 (by decide) ?_
  refine va_put (D := (dC, dI)) (ci := 6) (v := .int 0) (ty := .int) (C := RX6) (T := TX6) (N := 3) hx hb hts inX6_init_6 tyX6 tyX6_ok nmX6 hown hK hP hD hS 0 rfl rfl 2 (by decide) (hts _ kX6_init_6) (fun _ h9 => h9) rfl (tyX6_ok 2 (by decide)) rfl rfl (Nat.le_of_ble_eq_true rfl) dX6_init_19 (fun H locs hP hD hS => ?_)
  have hP : va_P (dC, dI) vwCl ([(b, .inr (6, [.ref q7, .int 0, .int 0])), (q7, .inl (cI, 96, .inl (fun _ => 0)))] : va_W) H := hP
  have hD : va_D A ([(b, .inr (6, [.ref q7, .int 0, .int 0])), (q7, .inl (cI, 96, .inl (fun _ => 0)))] : va_W) := hD
  have hP9 : va_P (dC, dI) vwCl (cs6 cI (fun i => [b, q7].getD i 0) i6) H := hP.sub [0, 1] rfl
  have hD9 : va_D A (cs6 cI (fun i => [b, q7].getD i 0) i6) := hD.sub [0, 1] (by decide) rfl
  exact hret _ _ _ _ (fun i => [b, q7].getD i 0) dX6_init_22 rfl hP9 hD9 hS

def i1 : S1 := i5
abbrev rX1_init : Room := { frames := 2, cells := 4, slots := 33, locals := 32 }
theorem hdX1_init : yX1_init.cls ≠ "java/lang/invoke/MethodHandle" ∧ yX1_init.cls ≠ "java/lang/invoke/VarHandle" ∧ (parseMethodDescriptor yX1_init.desc).map (fun d => d.parameters.length) = some 0 := by decide +kernel
theorem inX1_init_1 : ∀ w ∈ wsX10, w ∈ wsX1_init := by decide +kernel
theorem inX1_init_5 : ∀ w ∈ wsX50, w ∈ wsX1_init := by decide +kernel
theorem kX1_init_0 : Cond.methodLink RX1 3 objectInit ∈ wsX1_init := by decide +kernel
theorem kX1_init_1 : Cond.instanceMethod objectInit ∈ wsX1_init := by decide +kernel
theorem kX1_init_2 : Cond.code objectInit ⟨#[0xb1]⟩ 1 none ∈ wsX1_init := by decide +kernel
theorem kX1_init_3 : Cond.classLink RX1 9 RX5 ∈ wsX1_init := by decide +kernel
theorem kX1_init_4 : Cond.instantiable RX5 3 ∈ wsX1_init := by decide +kernel
theorem kX1_init_5 : Cond.initialized RX5 ∈ wsX1_init := by decide +kernel
theorem kX1_init_6 : Cond.instanceMethod yX5_init ∈ wsX1_init := by decide +kernel
theorem kX1_init_7 : Cond.fieldLink RX1 12 "AheadStore$Hindsight" "roster" "LAheadStore$Roster;" ∈ wsX1_init := by decide +kernel
set_option maxHeartbeats 4000000 in
set_option maxRecDepth 100000 in
theorem i_X1 {l : Launch} {dC : Nat → ClassId} {dI : Nat → Nat → Nat} {cI : ClassId} {b sz : Nat} : ctC sxE l yX1_init wsX1_init rX1_init (dC, dI) vwCl [(cI, .int)] b [(b, .inr (1, [.null]))] sz 4 33 (fun q => cs1 cI q i1) := by
  refine mx_c (cc := cX1_init) (maxL := 1) (by decide) rfl rfl (Nat.le_of_ble_eq_true rfl) ?_
  intro p e s m below meth c Z A ls args hx hb hml hown hts hA hP hK hD hE hl hin hret
  have hown : s.vm.findClass RX1 = some m.cls := hown
  have hS : va_S A s.heap s.heap [] := va_S.rf
  refine lv_aload_n hx hb dX1_init_0 rfl (lv_at hl 0 rfl) ?_
  refine W.objInit hx hb hown (hts _ kX1_init_0) (hts _ kX1_init_1) (hts _ kX1_init_2) rfl (by rw [hml]; exact hl.1) rfl dX1_init_1 (Nat.le_of_ble_eq_true rfl) (Nat.le_of_ble_eq_true rfl) ?_
  refine W.eq (g2 := F0 m 4 ls []) rfl ?_
  refine lv_aload_n hx hb dX1_init_4 rfl (lv_at hl 0 rfl) ?_
  refine va_new (ci := 5) (fs := [.null, .null, .null]) (C := RX5) (T := TX5) (N := 3) hx hb hts inX1_init_5 tyX5 tyX5_ok hown (hts _ kX1_init_3) (hts _ kX1_init_4) (hts _ kX1_init_5) hK hP hD hS hA rfl (fun j hj => by rcases (show j = 0 ∨ j = 1 ∨ j = 2 by omega) with rfl | rfl | rfl <;> rfl) (Nat.le_of_ble_eq_true rfl) (Nat.le_of_ble_eq_true rfl) dX1_init_5 (fun q5 H hP hD hS => ?_)
  have hP : va_P (dC, dI) vwCl ([(b, .inr (1, [.null])), (q5, .inr (5, [.null, .null, .null]))] : va_W) H := hP
  have hD : va_D A ([(b, .inr (1, [.null])), (q5, .inr (5, [.null, .null, .null]))] : va_W) := hD
  refine W.widen (k := 1) (n := 3) (by decide) (by decide) ?_
  refine lv_dup hx hb dX1_init_8 rfl ?_
  refine cx_nc (rest := [.ref q5, .ref b]) ⟨hx, hb, hml, hown, hts⟩ hl.1 ok_sxE hE hK hP hD hS hA (show Cut ([(b, .inr (1, [.null])), (q5, .inr (5, [.null, .null, .null]))] : va_W) [(q5, .inr (5, [.null, .null, .null]))] (fun qs9 => cs5 cI qs9 i5) (fun qs9 => ([(b, .inr (1, [.null]))] ++ cs5 cI qs9 i5 : va_W)) from ⟨[1], [0], rfl, rfl, rfl, by decide, by decide, fun _ => ⟨[0, 1, 2, 3, 4], rfl, rfl⟩⟩) (i_X5 (l := l) (dC := dC) (dI := dI) (cI := cI)) ⟨va_cnB 0 hts gX1_init_X5_init_n11 rfl rfl rfl (hE.1.1 (RX1, 11, yX5_init, "AheadStore") (List.mem_of_getElem? (i := 0) rfl)) (hts _ kX1_init_5) hdX5_init ⟨Nat.le_of_ble_eq_true rfl, Nat.le_of_ble_eq_true rfl⟩, rfl, hts _ kX1_init_6⟩ (Nat.le_of_ble_eq_true rfl) dX1_init_9 rfl ⟨Nat.le_of_ble_eq_true rfl, Nat.le_of_ble_eq_true rfl⟩ (fun qs9 H locs hq9 hPn hDn hSn => ?_)
  have hq9 : q5 = qs9 0 := hq9.symm
  subst hq9
  have hP := hPn
  have hD := hDn
  have hS := hSn
  refine W.widen (k := 4) (n := 33) (by decide) (by decide) ?_
  refine va_putF (D := (dC, dI)) (ci := 1) (v := .ref (qs9 0)) (ty := (.object "AheadStore$Roster")) (C := RX1) (T := TX1) (N := 1) hx hb hts inX1_init_1 tyX1 tyX1_ok nmX1 hown hK hP hD hS 0 rfl rfl 0 (by decide) (hts _ kX1_init_7) (fun _ h9 => h9) rfl hin rfl (tyX1_ok 0 (by decide)) rfl rfl (Nat.le_of_ble_eq_true rfl) dX1_init_12 (fun H locs hP hD hS => ?_)
  have hP : va_P (dC, dI) vwCl ([(b, .inr (1, [.ref (qs9 0)]))] ++ cs5 cI qs9 i5 : va_W) H := hP
  have hD : va_D A ([(b, .inr (1, [.ref (qs9 0)]))] ++ cs5 cI qs9 i5 : va_W) := hD
  have hP9 : va_P (dC, dI) vwCl (cs1 cI (fun i => [b, qs9 0, qs9 1, qs9 2, qs9 3].getD i 0) i1) H := hP.sub [0, 1, 2, 3, 4] rfl
  have hD9 : va_D A (cs1 cI (fun i => [b, qs9 0, qs9 1, qs9 2, qs9 3].getD i 0) i1) := hD.sub [0, 1, 2, 3, 4] (by decide) rfl
  exact hret _ _ _ _ (fun i => [b, qs9 0, qs9 1, qs9 2, qs9 3].getD i 0) dX1_init_15 rfl hP9 hD9 hS

def i4 : S4 := ((fun _ => 0), 0, 0, 0, 0, 0, 0)
abbrev rX4_init : Room := { frames := 1, cells := 1, slots := 16, locals := 12 }
theorem hdX4_init : yX4_init.cls ≠ "java/lang/invoke/MethodHandle" ∧ yX4_init.cls ≠ "java/lang/invoke/VarHandle" ∧ (parseMethodDescriptor yX4_init.desc).map (fun d => d.parameters.length) = some 0 := by decide +kernel
theorem inX4_init_4 : ∀ w ∈ wsX40, w ∈ wsX4_init := by decide +kernel
theorem kX4_init_0 : Cond.methodLink RX4 3 objectInit ∈ wsX4_init := by decide +kernel
theorem kX4_init_1 : Cond.instanceMethod objectInit ∈ wsX4_init := by decide +kernel
theorem kX4_init_2 : Cond.code objectInit ⟨#[0xb1]⟩ 1 none ∈ wsX4_init := by decide +kernel
theorem kX4_init_3 : Cond.arrayClass .int ∈ wsX4_init := by decide +kernel
theorem kX4_init_4 : Cond.fieldLink RX4 9 "AheadStore$Recovery" "unclean" "[I" ∈ wsX4_init := by decide +kernel
theorem kX4_init_5 : Cond.fieldLink RX4 15 "AheadStore$Recovery" "written" "I" ∈ wsX4_init := by decide +kernel
theorem kX4_init_6 : Cond.fieldLink RX4 19 "AheadStore$Recovery" "analysed" "Z" ∈ wsX4_init := by decide +kernel
theorem kX4_init_7 : Cond.fieldLink RX4 23 "AheadStore$Recovery" "losers" "I" ∈ wsX4_init := by decide +kernel
theorem kX4_init_8 : Cond.fieldLink RX4 26 "AheadStore$Recovery" "compensated" "I" ∈ wsX4_init := by decide +kernel
theorem kX4_init_9 : Cond.fieldLink RX4 29 "AheadStore$Recovery" "ended" "I" ∈ wsX4_init := by decide +kernel
theorem kX4_init_10 : Cond.fieldLink RX4 32 "AheadStore$Recovery" "redoneInAll" "I" ∈ wsX4_init := by decide +kernel
set_option maxHeartbeats 4000000 in
set_option maxRecDepth 100000 in
theorem i_X4 {l : Launch} {dC : Nat → ClassId} {dI : Nat → Nat → Nat} {cI : ClassId} {b sz : Nat} : ctC sxE l yX4_init wsX4_init rX4_init (dC, dI) vwCl [(cI, .int)] b [(b, .inr (4, [.null, .int 0, .int 0, .int 0, .int 0, .int 0, .int 0]))] sz 1 16 (fun q => cs4 cI q i4) := by
  refine mx_c (cc := cX4_init) (maxL := 1) (by decide) rfl rfl (Nat.le_of_ble_eq_true rfl) ?_
  intro p e s m below meth c Z A ls args hx hb hml hown hts hA hP hK hD hE hl hin hret
  have hown : s.vm.findClass RX4 = some m.cls := hown
  have hS : va_S A s.heap s.heap [] := va_S.rf
  refine lv_aload_n hx hb dX4_init_0 rfl (lv_at hl 0 rfl) ?_
  refine W.objInit hx hb hown (hts _ kX4_init_0) (hts _ kX4_init_1) (hts _ kX4_init_2) rfl (by rw [hml]; exact hl.1) rfl dX4_init_1 (Nat.le_of_ble_eq_true rfl) (Nat.le_of_ble_eq_true rfl) ?_
  refine W.eq (g2 := F0 m 4 ls []) rfl ?_
  refine lv_aload_n hx hb dX4_init_4 rfl (lv_at hl 0 rfl) ?_
  refine lv_bipush (v := 16) hx hb dX4_init_5 (by decide) ?_
  refine va_newa (atype := .int) (ty := .int) (N' := 16) (a0 := (16, .inl (fun _ => 0))) hx hb (hts _ kX4_init_3) rfl hK hP hD hS hA (fun _ => rfl) (by decide) (by decide) (by decide) (Nat.le_of_ble_eq_true rfl) (Nat.le_of_ble_eq_true rfl) dX4_init_7 (fun q7 cA H hK2 hP hD hS => ?_)
  have ec := (cI_eq hK2).symm
  subst ec
  have hP : va_P (dC, dI) vwCl ([(b, .inr (4, [.null, .int 0, .int 0, .int 0, .int 0, .int 0, .int 0])), (q7, .inl (cI, 16, .inl (fun _ => 0)))] : va_W) H := hP
  have hD : va_D A ([(b, .inr (4, [.null, .int 0, .int 0, .int 0, .int 0, .int 0, .int 0])), (q7, .inl (cI, 16, .inl (fun _ => 0)))] : va_W) := hD
  refine W.widen (k := 1) (n := 16) (by decide) (by decide) ?_
  refine va_putF (D := (dC, dI)) (ci := 4) (v := .ref q7) (ty := (.array .int)) (C := RX4) (T := TX4) (N := 7) hx hb hts inX4_init_4 tyX4 tyX4_ok nmX4 hown hK hP hD hS 0 rfl rfl 0 (by decide) (hts _ kX4_init_4) (fun _ h9 => h9) rfl hin rfl (tyX4_ok 0 (by decide)) rfl rfl (Nat.le_of_ble_eq_true rfl) dX4_init_9 (fun H locs hP hD hS => ?_)
  have hP : va_P (dC, dI) vwCl ([(b, .inr (4, [.ref q7, .int 0, .int 0, .int 0, .int 0, .int 0, .int 0])), (q7, .inl (cI, 16, .inl (fun _ => 0)))] : va_W) H := hP
  have hD : va_D A ([(b, .inr (4, [.ref q7, .int 0, .int 0, .int 0, .int 0, .int 0, .int 0])), (q7, .inl (cI, 16, .inl (fun _ => 0)))] : va_W) := hD
  refine lv_aload_n hx hb dX4_init_12 rfl (lv_at hl 0 rfl) ?_
  refine lv_iconst (v := 0) hx hb dX4_init_13 (by decide) ?_
  refine va_put (D := (dC, dI)) (ci := 4) (v := .int 0) (ty := .int) (C := RX4) (T := TX4) (N := 7) hx hb hts inX4_init_4 tyX4 tyX4_ok nmX4 hown hK hP hD hS 0 rfl rfl 1 (by decide) (hts _ kX4_init_5) (fun _ h9 => h9) rfl (tyX4_ok 1 (by decide)) rfl rfl (Nat.le_of_ble_eq_true rfl) dX4_init_14 (fun H locs hP hD hS => ?_)
  have hP : va_P (dC, dI) vwCl ([(b, .inr (4, [.ref q7, .int 0, .int 0, .int 0, .int 0, .int 0, .int 0])), (q7, .inl (cI, 16, .inl (fun _ => 0)))] : va_W) H := hP
  have hD : va_D A ([(b, .inr (4, [.ref q7, .int 0, .int 0, .int 0, .int 0, .int 0, .int 0])), (q7, .inl (cI, 16, .inl (fun _ => 0)))] : va_W) := hD
  refine lv_aload_n hx hb dX4_init_17 rfl (lv_at hl 0 rfl) ?_
  refine lv_iconst (v := 0) hx hb dX4_init_18 (by decide) ?_
  refine va_put (D := (dC, dI)) (ci := 4) (v := .int 0) (ty := .boolean) (C := RX4) (T := TX4) (N := 7) hx hb hts inX4_init_4 tyX4 tyX4_ok nmX4 hown hK hP hD hS 0 rfl rfl 2 (by decide) (hts _ kX4_init_6) (fun _ h9 => h9) rfl (tyX4_ok 2 (by decide)) (by decide) (by decide) (Nat.le_of_ble_eq_true rfl) dX4_init_19 (fun H locs hP hD hS => ?_)
  have hP : va_P (dC, dI) vwCl ([(b, .inr (4, [.ref q7, .int 0, .int 0, .int 0, .int 0, .int 0, .int 0])), (q7, .inl (cI, 16, .inl (fun _ => 0)))] : va_W) H := hP
  have hD : va_D A ([(b, .inr (4, [.ref q7, .int 0, .int 0, .int 0, .int 0, .int 0, .int 0])), (q7, .inl (cI, 16, .inl (fun _ => 0)))] : va_W) := hD
  refine lv_aload_n hx hb dX4_init_22 rfl (lv_at hl 0 rfl) ?_
  refine lv_iconst (v := 0) hx hb dX4_init_23 (by decide) ?_
  refine va_put (D := (dC, dI)) (ci := 4) (v := .int 0) (ty := .int) (C := RX4) (T := TX4) (N := 7) hx hb hts inX4_init_4 tyX4 tyX4_ok nmX4 hown hK hP hD hS 0 rfl rfl 3 (by decide) (hts _ kX4_init_7) (fun _ h9 => h9) rfl (tyX4_ok 3 (by decide)) rfl rfl (Nat.le_of_ble_eq_true rfl) dX4_init_24 (fun H locs hP hD hS => ?_)
  have hP : va_P (dC, dI) vwCl ([(b, .inr (4, [.ref q7, .int 0, .int 0, .int 0, .int 0, .int 0, .int 0])), (q7, .inl (cI, 16, .inl (fun _ => 0)))] : va_W) H := hP
  have hD : va_D A ([(b, .inr (4, [.ref q7, .int 0, .int 0, .int 0, .int 0, .int 0, .int 0])), (q7, .inl (cI, 16, .inl (fun _ => 0)))] : va_W) := hD
  refine lv_aload_n hx hb dX4_init_27 rfl (lv_at hl 0 rfl) ?_
  refine lv_iconst (v := 0) hx hb dX4_init_28 (by decide) ?_
  refine va_put (D := (dC, dI)) (ci := 4) (v := .int 0) (ty := .int) (C := RX4) (T := TX4) (N := 7) hx hb hts inX4_init_4 tyX4 tyX4_ok nmX4 hown hK hP hD hS 0 rfl rfl 4 (by decide) (hts _ kX4_init_8) (fun _ h9 => h9) rfl (tyX4_ok 4 (by decide)) rfl rfl (Nat.le_of_ble_eq_true rfl) dX4_init_29 (fun H locs hP hD hS => ?_)
  have hP : va_P (dC, dI) vwCl ([(b, .inr (4, [.ref q7, .int 0, .int 0, .int 0, .int 0, .int 0, .int 0])), (q7, .inl (cI, 16, .inl (fun _ => 0)))] : va_W) H := hP
  have hD : va_D A ([(b, .inr (4, [.ref q7, .int 0, .int 0, .int 0, .int 0, .int 0, .int 0])), (q7, .inl (cI, 16, .inl (fun _ => 0)))] : va_W) := hD
  refine lv_aload_n hx hb dX4_init_32 rfl (lv_at hl 0 rfl) ?_
  refine lv_iconst (v := 0) hx hb dX4_init_33 (by decide) ?_
  refine va_put (D := (dC, dI)) (ci := 4) (v := .int 0) (ty := .int) (C := RX4) (T := TX4) (N := 7) hx hb hts inX4_init_4 tyX4 tyX4_ok nmX4 hown hK hP hD hS 0 rfl rfl 5 (by decide) (hts _ kX4_init_9) (fun _ h9 => h9) rfl (tyX4_ok 5 (by decide)) rfl rfl (Nat.le_of_ble_eq_true rfl) dX4_init_34 (fun H locs hP hD hS => ?_)
  have hP : va_P (dC, dI) vwCl ([(b, .inr (4, [.ref q7, .int 0, .int 0, .int 0, .int 0, .int 0, .int 0])), (q7, .inl (cI, 16, .inl (fun _ => 0)))] : va_W) H := hP
  have hD : va_D A ([(b, .inr (4, [.ref q7, .int 0, .int 0, .int 0, .int 0, .int 0, .int 0])), (q7, .inl (cI, 16, .inl (fun _ => 0)))] : va_W) := hD
  refine lv_aload_n hx hb dX4_init_37 rfl (lv_at hl 0 rfl) ?_
  refine lv_iconst (v := 0) hx hb dX4_init_38 (by decide) ?_
  refine va_put (D := (dC, dI)) (ci := 4) (v := .int 0) (ty := .int) (C := RX4) (T := TX4) (N := 7) hx hb hts inX4_init_4 tyX4 tyX4_ok nmX4 hown hK hP hD hS 0 rfl rfl 6 (by decide) (hts _ kX4_init_10) (fun _ h9 => h9) rfl (tyX4_ok 6 (by decide)) rfl rfl (Nat.le_of_ble_eq_true rfl) dX4_init_39 (fun H locs hP hD hS => ?_)
  have hP : va_P (dC, dI) vwCl ([(b, .inr (4, [.ref q7, .int 0, .int 0, .int 0, .int 0, .int 0, .int 0])), (q7, .inl (cI, 16, .inl (fun _ => 0)))] : va_W) H := hP
  have hD : va_D A ([(b, .inr (4, [.ref q7, .int 0, .int 0, .int 0, .int 0, .int 0, .int 0])), (q7, .inl (cI, 16, .inl (fun _ => 0)))] : va_W) := hD
  have hP9 : va_P (dC, dI) vwCl (cs4 cI (fun i => [b, q7].getD i 0) i4) H := hP.sub [0, 1] rfl
  have hD9 : va_D A (cs4 cI (fun i => [b, q7].getD i 0) i4) := hD.sub [0, 1] (by decide) rfl
  exact hret _ _ _ _ (fun i => [b, q7].getD i 0) dX4_init_42 rfl hP9 hD9 hS

def i3 : S3 := ((fun _ => 0), (fun _ => 0), (fun _ => 0), (fun _ => 0), 0, 4, (fun j => if j < 8 then (-1) else (fun _ => 0) j), (fun _ => 0), (fun _ => 0), (fun _ => 0), (fun _ => 0), 0)
abbrev rX3_init : Room := { frames := 1, cells := 9, slots := 704, locals := 23 }
theorem hdX3_init : yX3_init.cls ≠ "java/lang/invoke/MethodHandle" ∧ yX3_init.cls ≠ "java/lang/invoke/VarHandle" ∧ (parseMethodDescriptor yX3_init.desc).map (fun d => d.parameters.length) = some 0 := by decide +kernel
theorem inX3_init_3 : ∀ w ∈ wsX30, w ∈ wsX3_init := by decide +kernel
theorem kX3_init_0 : Cond.methodLink RX3 3 objectInit ∈ wsX3_init := by decide +kernel
theorem kX3_init_1 : Cond.instanceMethod objectInit ∈ wsX3_init := by decide +kernel
theorem kX3_init_2 : Cond.code objectInit ⟨#[0xb1]⟩ 1 none ∈ wsX3_init := by decide +kernel
theorem kX3_init_3 : Cond.arrayClass .int ∈ wsX3_init := by decide +kernel
theorem kX3_init_4 : Cond.fieldLink RX3 9 "AheadStore$Pages" "disk" "[I" ∈ wsX3_init := by decide +kernel
theorem kX3_init_5 : Cond.fieldLink RX3 15 "AheadStore$Pages" "diskStamps" "[I" ∈ wsX3_init := by decide +kernel
theorem kX3_init_6 : Cond.fieldLink RX3 18 "AheadStore$Pages" "archive" "[I" ∈ wsX3_init := by decide +kernel
theorem kX3_init_7 : Cond.fieldLink RX3 21 "AheadStore$Pages" "archiveStamps" "[I" ∈ wsX3_init := by decide +kernel
theorem kX3_init_8 : Cond.fieldLink RX3 24 "AheadStore$Pages" "lost" "I" ∈ wsX3_init := by decide +kernel
theorem kX3_init_9 : Cond.fieldLink RX3 28 "AheadStore$Pages" "frameCount" "I" ∈ wsX3_init := by decide +kernel
theorem kX3_init_10 : Cond.fieldLink RX3 31 "AheadStore$Pages" "held" "[I" ∈ wsX3_init := by decide +kernel
theorem kX3_init_11 : Cond.fieldLink RX3 34 "AheadStore$Pages" "copies" "[I" ∈ wsX3_init := by decide +kernel
theorem kX3_init_12 : Cond.fieldLink RX3 37 "AheadStore$Pages" "stamps" "[I" ∈ wsX3_init := by decide +kernel
theorem kX3_init_13 : Cond.fieldLink RX3 40 "AheadStore$Pages" "recs" "[I" ∈ wsX3_init := by decide +kernel
theorem kX3_init_14 : Cond.fieldLink RX3 43 "AheadStore$Pages" "uses" "[I" ∈ wsX3_init := by decide +kernel
theorem kX3_init_15 : Cond.fieldLink RX3 46 "AheadStore$Pages" "clock" "I" ∈ wsX3_init := by decide +kernel
set_option maxHeartbeats 4000000 in
set_option maxRecDepth 100000 in
theorem i_X3 {l : Launch} {dC : Nat → ClassId} {dI : Nat → Nat → Nat} {cI : ClassId} {b sz : Nat} : ctC sxE l yX3_init wsX3_init rX3_init (dC, dI) vwCl [(cI, .int)] b [(b, .inr (3, [.null, .null, .null, .null, .int 0, .int 0, .null, .null, .null, .null, .null, .int 0]))] sz 9 704 (fun q => cs3 cI q i3) := by
  refine mx_c (cc := cX3_init) (maxL := 1) (by decide) rfl rfl (Nat.le_of_ble_eq_true rfl) ?_
  intro p e s m below meth c Z A ls args hx hb hml hown hts hA hP hK hD hE hl hin hret
  have hown : s.vm.findClass RX3 = some m.cls := hown
  have hS : va_S A s.heap s.heap [] := va_S.rf
  refine lv_aload_n hx hb dX3_init_0 rfl (lv_at hl 0 rfl) ?_
  refine W.objInit hx hb hown (hts _ kX3_init_0) (hts _ kX3_init_1) (hts _ kX3_init_2) rfl (by rw [hml]; exact hl.1) rfl dX3_init_1 (Nat.le_of_ble_eq_true rfl) (Nat.le_of_ble_eq_true rfl) ?_
  refine W.eq (g2 := F0 m 4 ls []) rfl ?_
  refine lv_aload_n hx hb dX3_init_4 rfl (lv_at hl 0 rfl) ?_
  refine lv_sipush (v := 256) hx hb dX3_init_5 (by decide) ?_
  refine va_newa (atype := .int) (ty := .int) (N' := 256) (a0 := (256, .inl (fun _ => 0))) hx hb (hts _ kX3_init_3) rfl hK hP hD hS hA (fun _ => rfl) (by decide) (by decide) (by decide) (Nat.le_of_ble_eq_true rfl) (Nat.le_of_ble_eq_true rfl) dX3_init_8 (fun q8 cA H hK2 hP hD hS => ?_)
  have ec := (cI_eq hK2).symm
  subst ec
  have hP : va_P (dC, dI) vwCl ([(b, .inr (3, [.null, .null, .null, .null, .int 0, .int 0, .null, .null, .null, .null, .null, .int 0])), (q8, .inl (cI, 256, .inl (fun _ => 0)))] : va_W) H := hP
  have hD : va_D A ([(b, .inr (3, [.null, .null, .null, .null, .int 0, .int 0, .null, .null, .null, .null, .null, .int 0])), (q8, .inl (cI, 256, .inl (fun _ => 0)))] : va_W) := hD
  refine W.widen (k := 1) (n := 256) (by decide) (by decide) ?_
  refine va_putF (D := (dC, dI)) (ci := 3) (v := .ref q8) (ty := (.array .int)) (C := RX3) (T := TX3) (N := 12) hx hb hts inX3_init_3 tyX3 tyX3_ok nmX3 hown hK hP hD hS 0 rfl rfl 0 (by decide) (hts _ kX3_init_4) (fun _ h9 => h9) rfl hin rfl (tyX3_ok 0 (by decide)) rfl rfl (Nat.le_of_ble_eq_true rfl) dX3_init_10 (fun H locs hP hD hS => ?_)
  have hP : va_P (dC, dI) vwCl ([(b, .inr (3, [.ref q8, .null, .null, .null, .int 0, .int 0, .null, .null, .null, .null, .null, .int 0])), (q8, .inl (cI, 256, .inl (fun _ => 0)))] : va_W) H := hP
  have hD : va_D A ([(b, .inr (3, [.ref q8, .null, .null, .null, .int 0, .int 0, .null, .null, .null, .null, .null, .int 0])), (q8, .inl (cI, 256, .inl (fun _ => 0)))] : va_W) := hD
  refine lv_aload_n hx hb dX3_init_13 rfl (lv_at hl 0 rfl) ?_
  refine lv_bipush (v := 16) hx hb dX3_init_14 (by decide) ?_
  refine va_newa (atype := .int) (ty := .int) (N' := 16) (a0 := (16, .inl (fun _ => 0))) hx hb (hts _ kX3_init_3) rfl hK hP hD hS hA (fun _ => rfl) (by decide) (by decide) (by decide) (Nat.le_of_ble_eq_true rfl) (Nat.le_of_ble_eq_true rfl) dX3_init_16 (fun q16 cA H hK2 hP hD hS => ?_)
  have ec := (cI_eq hK2).symm
  subst ec
  have hP : va_P (dC, dI) vwCl ([(b, .inr (3, [.ref q8, .null, .null, .null, .int 0, .int 0, .null, .null, .null, .null, .null, .int 0])), (q8, .inl (cI, 256, .inl (fun _ => 0))), (q16, .inl (cI, 16, .inl (fun _ => 0)))] : va_W) H := hP
  have hD : va_D A ([(b, .inr (3, [.ref q8, .null, .null, .null, .int 0, .int 0, .null, .null, .null, .null, .null, .int 0])), (q8, .inl (cI, 256, .inl (fun _ => 0))), (q16, .inl (cI, 16, .inl (fun _ => 0)))] : va_W) := hD
  refine W.widen (k := 2) (n := 272) (by decide) (by decide) ?_
  refine va_putF (D := (dC, dI)) (ci := 3) (v := .ref q16) (ty := (.array .int)) (C := RX3) (T := TX3) (N := 12) hx hb hts inX3_init_3 tyX3 tyX3_ok nmX3 hown hK hP hD hS 0 rfl rfl 1 (by decide) (hts _ kX3_init_5) (fun _ h9 => h9) rfl hin rfl (tyX3_ok 1 (by decide)) rfl rfl (Nat.le_of_ble_eq_true rfl) dX3_init_18 (fun H locs hP hD hS => ?_)
  have hP : va_P (dC, dI) vwCl ([(b, .inr (3, [.ref q8, .ref q16, .null, .null, .int 0, .int 0, .null, .null, .null, .null, .null, .int 0])), (q8, .inl (cI, 256, .inl (fun _ => 0))), (q16, .inl (cI, 16, .inl (fun _ => 0)))] : va_W) H := hP
  have hD : va_D A ([(b, .inr (3, [.ref q8, .ref q16, .null, .null, .int 0, .int 0, .null, .null, .null, .null, .null, .int 0])), (q8, .inl (cI, 256, .inl (fun _ => 0))), (q16, .inl (cI, 16, .inl (fun _ => 0)))] : va_W) := hD
  refine lv_aload_n hx hb dX3_init_21 rfl (lv_at hl 0 rfl) ?_
  refine lv_sipush (v := 256) hx hb dX3_init_22 (by decide) ?_
  refine va_newa (atype := .int) (ty := .int) (N' := 256) (a0 := (256, .inl (fun _ => 0))) hx hb (hts _ kX3_init_3) rfl hK hP hD hS hA (fun _ => rfl) (by decide) (by decide) (by decide) (Nat.le_of_ble_eq_true rfl) (Nat.le_of_ble_eq_true rfl) dX3_init_25 (fun q25 cA H hK2 hP hD hS => ?_)
  have ec := (cI_eq hK2).symm
  subst ec
  have hP : va_P (dC, dI) vwCl ([(b, .inr (3, [.ref q8, .ref q16, .null, .null, .int 0, .int 0, .null, .null, .null, .null, .null, .int 0])), (q8, .inl (cI, 256, .inl (fun _ => 0))), (q16, .inl (cI, 16, .inl (fun _ => 0))), (q25, .inl (cI, 256, .inl (fun _ => 0)))] : va_W) H := hP
  have hD : va_D A ([(b, .inr (3, [.ref q8, .ref q16, .null, .null, .int 0, .int 0, .null, .null, .null, .null, .null, .int 0])), (q8, .inl (cI, 256, .inl (fun _ => 0))), (q16, .inl (cI, 16, .inl (fun _ => 0))), (q25, .inl (cI, 256, .inl (fun _ => 0)))] : va_W) := hD
  refine W.widen (k := 3) (n := 528) (by decide) (by decide) ?_
  refine va_putF (D := (dC, dI)) (ci := 3) (v := .ref q25) (ty := (.array .int)) (C := RX3) (T := TX3) (N := 12) hx hb hts inX3_init_3 tyX3 tyX3_ok nmX3 hown hK hP hD hS 0 rfl rfl 2 (by decide) (hts _ kX3_init_6) (fun _ h9 => h9) rfl hin rfl (tyX3_ok 2 (by decide)) rfl rfl (Nat.le_of_ble_eq_true rfl) dX3_init_27 (fun H locs hP hD hS => ?_)
  have hP : va_P (dC, dI) vwCl ([(b, .inr (3, [.ref q8, .ref q16, .ref q25, .null, .int 0, .int 0, .null, .null, .null, .null, .null, .int 0])), (q8, .inl (cI, 256, .inl (fun _ => 0))), (q16, .inl (cI, 16, .inl (fun _ => 0))), (q25, .inl (cI, 256, .inl (fun _ => 0)))] : va_W) H := hP
  have hD : va_D A ([(b, .inr (3, [.ref q8, .ref q16, .ref q25, .null, .int 0, .int 0, .null, .null, .null, .null, .null, .int 0])), (q8, .inl (cI, 256, .inl (fun _ => 0))), (q16, .inl (cI, 16, .inl (fun _ => 0))), (q25, .inl (cI, 256, .inl (fun _ => 0)))] : va_W) := hD
  refine lv_aload_n hx hb dX3_init_30 rfl (lv_at hl 0 rfl) ?_
  refine lv_bipush (v := 16) hx hb dX3_init_31 (by decide) ?_
  refine va_newa (atype := .int) (ty := .int) (N' := 16) (a0 := (16, .inl (fun _ => 0))) hx hb (hts _ kX3_init_3) rfl hK hP hD hS hA (fun _ => rfl) (by decide) (by decide) (by decide) (Nat.le_of_ble_eq_true rfl) (Nat.le_of_ble_eq_true rfl) dX3_init_33 (fun q33 cA H hK2 hP hD hS => ?_)
  have ec := (cI_eq hK2).symm
  subst ec
  have hP : va_P (dC, dI) vwCl ([(b, .inr (3, [.ref q8, .ref q16, .ref q25, .null, .int 0, .int 0, .null, .null, .null, .null, .null, .int 0])), (q8, .inl (cI, 256, .inl (fun _ => 0))), (q16, .inl (cI, 16, .inl (fun _ => 0))), (q25, .inl (cI, 256, .inl (fun _ => 0))), (q33, .inl (cI, 16, .inl (fun _ => 0)))] : va_W) H := hP
  have hD : va_D A ([(b, .inr (3, [.ref q8, .ref q16, .ref q25, .null, .int 0, .int 0, .null, .null, .null, .null, .null, .int 0])), (q8, .inl (cI, 256, .inl (fun _ => 0))), (q16, .inl (cI, 16, .inl (fun _ => 0))), (q25, .inl (cI, 256, .inl (fun _ => 0))), (q33, .inl (cI, 16, .inl (fun _ => 0)))] : va_W) := hD
  refine W.widen (k := 4) (n := 544) (by decide) (by decide) ?_
  refine va_putF (D := (dC, dI)) (ci := 3) (v := .ref q33) (ty := (.array .int)) (C := RX3) (T := TX3) (N := 12) hx hb hts inX3_init_3 tyX3 tyX3_ok nmX3 hown hK hP hD hS 0 rfl rfl 3 (by decide) (hts _ kX3_init_7) (fun _ h9 => h9) rfl hin rfl (tyX3_ok 3 (by decide)) rfl rfl (Nat.le_of_ble_eq_true rfl) dX3_init_35 (fun H locs hP hD hS => ?_)
  have hP : va_P (dC, dI) vwCl ([(b, .inr (3, [.ref q8, .ref q16, .ref q25, .ref q33, .int 0, .int 0, .null, .null, .null, .null, .null, .int 0])), (q8, .inl (cI, 256, .inl (fun _ => 0))), (q16, .inl (cI, 16, .inl (fun _ => 0))), (q25, .inl (cI, 256, .inl (fun _ => 0))), (q33, .inl (cI, 16, .inl (fun _ => 0)))] : va_W) H := hP
  have hD : va_D A ([(b, .inr (3, [.ref q8, .ref q16, .ref q25, .ref q33, .int 0, .int 0, .null, .null, .null, .null, .null, .int 0])), (q8, .inl (cI, 256, .inl (fun _ => 0))), (q16, .inl (cI, 16, .inl (fun _ => 0))), (q25, .inl (cI, 256, .inl (fun _ => 0))), (q33, .inl (cI, 16, .inl (fun _ => 0)))] : va_W) := hD
  refine lv_aload_n hx hb dX3_init_38 rfl (lv_at hl 0 rfl) ?_
  refine lv_iconst (v := 0) hx hb dX3_init_39 (by decide) ?_
  refine va_put (D := (dC, dI)) (ci := 3) (v := .int 0) (ty := .int) (C := RX3) (T := TX3) (N := 12) hx hb hts inX3_init_3 tyX3 tyX3_ok nmX3 hown hK hP hD hS 0 rfl rfl 4 (by decide) (hts _ kX3_init_8) (fun _ h9 => h9) rfl (tyX3_ok 4 (by decide)) rfl rfl (Nat.le_of_ble_eq_true rfl) dX3_init_40 (fun H locs hP hD hS => ?_)
  have hP : va_P (dC, dI) vwCl ([(b, .inr (3, [.ref q8, .ref q16, .ref q25, .ref q33, .int 0, .int 0, .null, .null, .null, .null, .null, .int 0])), (q8, .inl (cI, 256, .inl (fun _ => 0))), (q16, .inl (cI, 16, .inl (fun _ => 0))), (q25, .inl (cI, 256, .inl (fun _ => 0))), (q33, .inl (cI, 16, .inl (fun _ => 0)))] : va_W) H := hP
  have hD : va_D A ([(b, .inr (3, [.ref q8, .ref q16, .ref q25, .ref q33, .int 0, .int 0, .null, .null, .null, .null, .null, .int 0])), (q8, .inl (cI, 256, .inl (fun _ => 0))), (q16, .inl (cI, 16, .inl (fun _ => 0))), (q25, .inl (cI, 256, .inl (fun _ => 0))), (q33, .inl (cI, 16, .inl (fun _ => 0)))] : va_W) := hD
  refine lv_aload_n hx hb dX3_init_43 rfl (lv_at hl 0 rfl) ?_
  refine lv_iconst (v := 4) hx hb dX3_init_44 (by decide) ?_
  refine va_put (D := (dC, dI)) (ci := 3) (v := .int 4) (ty := .int) (C := RX3) (T := TX3) (N := 12) hx hb hts inX3_init_3 tyX3 tyX3_ok nmX3 hown hK hP hD hS 0 rfl rfl 5 (by decide) (hts _ kX3_init_9) (fun _ h9 => h9) rfl (tyX3_ok 5 (by decide)) rfl rfl (Nat.le_of_ble_eq_true rfl) dX3_init_45 (fun H locs hP hD hS => ?_)
  have hP : va_P (dC, dI) vwCl ([(b, .inr (3, [.ref q8, .ref q16, .ref q25, .ref q33, .int 0, .int 4, .null, .null, .null, .null, .null, .int 0])), (q8, .inl (cI, 256, .inl (fun _ => 0))), (q16, .inl (cI, 16, .inl (fun _ => 0))), (q25, .inl (cI, 256, .inl (fun _ => 0))), (q33, .inl (cI, 16, .inl (fun _ => 0)))] : va_W) H := hP
  have hD : va_D A ([(b, .inr (3, [.ref q8, .ref q16, .ref q25, .ref q33, .int 0, .int 4, .null, .null, .null, .null, .null, .int 0])), (q8, .inl (cI, 256, .inl (fun _ => 0))), (q16, .inl (cI, 16, .inl (fun _ => 0))), (q25, .inl (cI, 256, .inl (fun _ => 0))), (q33, .inl (cI, 16, .inl (fun _ => 0)))] : va_W) := hD
  refine lv_aload_n hx hb dX3_init_48 rfl (lv_at hl 0 rfl) ?_
  refine lv_bipush (v := 8) hx hb dX3_init_49 (by decide) ?_
  refine va_newa (atype := .int) (ty := .int) (N' := 8) (a0 := (8, .inl (fun _ => 0))) hx hb (hts _ kX3_init_3) rfl hK hP hD hS hA (fun _ => rfl) (by decide) (by decide) (by decide) (Nat.le_of_ble_eq_true rfl) (Nat.le_of_ble_eq_true rfl) dX3_init_51 (fun q51 cA H hK2 hP hD hS => ?_)
  have ec := (cI_eq hK2).symm
  subst ec
  have hP : va_P (dC, dI) vwCl ([(b, .inr (3, [.ref q8, .ref q16, .ref q25, .ref q33, .int 0, .int 4, .null, .null, .null, .null, .null, .int 0])), (q8, .inl (cI, 256, .inl (fun _ => 0))), (q16, .inl (cI, 16, .inl (fun _ => 0))), (q25, .inl (cI, 256, .inl (fun _ => 0))), (q33, .inl (cI, 16, .inl (fun _ => 0))), (q51, .inl (cI, 8, .inl (fun _ => 0)))] : va_W) H := hP
  have hD : va_D A ([(b, .inr (3, [.ref q8, .ref q16, .ref q25, .ref q33, .int 0, .int 4, .null, .null, .null, .null, .null, .int 0])), (q8, .inl (cI, 256, .inl (fun _ => 0))), (q16, .inl (cI, 16, .inl (fun _ => 0))), (q25, .inl (cI, 256, .inl (fun _ => 0))), (q33, .inl (cI, 16, .inl (fun _ => 0))), (q51, .inl (cI, 8, .inl (fun _ => 0)))] : va_W) := hD
  refine W.widen (k := 5) (n := 552) (by decide) (by decide) ?_
  refine va_putF (D := (dC, dI)) (ci := 3) (v := .ref q51) (ty := (.array .int)) (C := RX3) (T := TX3) (N := 12) hx hb hts inX3_init_3 tyX3 tyX3_ok nmX3 hown hK hP hD hS 0 rfl rfl 6 (by decide) (hts _ kX3_init_10) (fun _ h9 => h9) rfl hin rfl (tyX3_ok 6 (by decide)) rfl rfl (Nat.le_of_ble_eq_true rfl) dX3_init_53 (fun H locs hP hD hS => ?_)
  have hP : va_P (dC, dI) vwCl ([(b, .inr (3, [.ref q8, .ref q16, .ref q25, .ref q33, .int 0, .int 4, .ref q51, .null, .null, .null, .null, .int 0])), (q8, .inl (cI, 256, .inl (fun _ => 0))), (q16, .inl (cI, 16, .inl (fun _ => 0))), (q25, .inl (cI, 256, .inl (fun _ => 0))), (q33, .inl (cI, 16, .inl (fun _ => 0))), (q51, .inl (cI, 8, .inl (fun _ => 0)))] : va_W) H := hP
  have hD : va_D A ([(b, .inr (3, [.ref q8, .ref q16, .ref q25, .ref q33, .int 0, .int 4, .ref q51, .null, .null, .null, .null, .int 0])), (q8, .inl (cI, 256, .inl (fun _ => 0))), (q16, .inl (cI, 16, .inl (fun _ => 0))), (q25, .inl (cI, 256, .inl (fun _ => 0))), (q33, .inl (cI, 16, .inl (fun _ => 0))), (q51, .inl (cI, 8, .inl (fun _ => 0)))] : va_W) := hD
  refine lv_aload_n hx hb dX3_init_56 rfl (lv_at hl 0 rfl) ?_
  refine lv_sipush (v := 128) hx hb dX3_init_57 (by decide) ?_
  refine va_newa (atype := .int) (ty := .int) (N' := 128) (a0 := (128, .inl (fun _ => 0))) hx hb (hts _ kX3_init_3) rfl hK hP hD hS hA (fun _ => rfl) (by decide) (by decide) (by decide) (Nat.le_of_ble_eq_true rfl) (Nat.le_of_ble_eq_true rfl) dX3_init_60 (fun q60 cA H hK2 hP hD hS => ?_)
  have ec := (cI_eq hK2).symm
  subst ec
  have hP : va_P (dC, dI) vwCl ([(b, .inr (3, [.ref q8, .ref q16, .ref q25, .ref q33, .int 0, .int 4, .ref q51, .null, .null, .null, .null, .int 0])), (q8, .inl (cI, 256, .inl (fun _ => 0))), (q16, .inl (cI, 16, .inl (fun _ => 0))), (q25, .inl (cI, 256, .inl (fun _ => 0))), (q33, .inl (cI, 16, .inl (fun _ => 0))), (q51, .inl (cI, 8, .inl (fun _ => 0))), (q60, .inl (cI, 128, .inl (fun _ => 0)))] : va_W) H := hP
  have hD : va_D A ([(b, .inr (3, [.ref q8, .ref q16, .ref q25, .ref q33, .int 0, .int 4, .ref q51, .null, .null, .null, .null, .int 0])), (q8, .inl (cI, 256, .inl (fun _ => 0))), (q16, .inl (cI, 16, .inl (fun _ => 0))), (q25, .inl (cI, 256, .inl (fun _ => 0))), (q33, .inl (cI, 16, .inl (fun _ => 0))), (q51, .inl (cI, 8, .inl (fun _ => 0))), (q60, .inl (cI, 128, .inl (fun _ => 0)))] : va_W) := hD
  refine W.widen (k := 6) (n := 680) (by decide) (by decide) ?_
  refine va_putF (D := (dC, dI)) (ci := 3) (v := .ref q60) (ty := (.array .int)) (C := RX3) (T := TX3) (N := 12) hx hb hts inX3_init_3 tyX3 tyX3_ok nmX3 hown hK hP hD hS 0 rfl rfl 7 (by decide) (hts _ kX3_init_11) (fun _ h9 => h9) rfl hin rfl (tyX3_ok 7 (by decide)) rfl rfl (Nat.le_of_ble_eq_true rfl) dX3_init_62 (fun H locs hP hD hS => ?_)
  have hP : va_P (dC, dI) vwCl ([(b, .inr (3, [.ref q8, .ref q16, .ref q25, .ref q33, .int 0, .int 4, .ref q51, .ref q60, .null, .null, .null, .int 0])), (q8, .inl (cI, 256, .inl (fun _ => 0))), (q16, .inl (cI, 16, .inl (fun _ => 0))), (q25, .inl (cI, 256, .inl (fun _ => 0))), (q33, .inl (cI, 16, .inl (fun _ => 0))), (q51, .inl (cI, 8, .inl (fun _ => 0))), (q60, .inl (cI, 128, .inl (fun _ => 0)))] : va_W) H := hP
  have hD : va_D A ([(b, .inr (3, [.ref q8, .ref q16, .ref q25, .ref q33, .int 0, .int 4, .ref q51, .ref q60, .null, .null, .null, .int 0])), (q8, .inl (cI, 256, .inl (fun _ => 0))), (q16, .inl (cI, 16, .inl (fun _ => 0))), (q25, .inl (cI, 256, .inl (fun _ => 0))), (q33, .inl (cI, 16, .inl (fun _ => 0))), (q51, .inl (cI, 8, .inl (fun _ => 0))), (q60, .inl (cI, 128, .inl (fun _ => 0)))] : va_W) := hD
  refine lv_aload_n hx hb dX3_init_65 rfl (lv_at hl 0 rfl) ?_
  refine lv_bipush (v := 8) hx hb dX3_init_66 (by decide) ?_
  refine va_newa (atype := .int) (ty := .int) (N' := 8) (a0 := (8, .inl (fun _ => 0))) hx hb (hts _ kX3_init_3) rfl hK hP hD hS hA (fun _ => rfl) (by decide) (by decide) (by decide) (Nat.le_of_ble_eq_true rfl) (Nat.le_of_ble_eq_true rfl) dX3_init_68 (fun q68 cA H hK2 hP hD hS => ?_)
  have ec := (cI_eq hK2).symm
  subst ec
  have hP : va_P (dC, dI) vwCl ([(b, .inr (3, [.ref q8, .ref q16, .ref q25, .ref q33, .int 0, .int 4, .ref q51, .ref q60, .null, .null, .null, .int 0])), (q8, .inl (cI, 256, .inl (fun _ => 0))), (q16, .inl (cI, 16, .inl (fun _ => 0))), (q25, .inl (cI, 256, .inl (fun _ => 0))), (q33, .inl (cI, 16, .inl (fun _ => 0))), (q51, .inl (cI, 8, .inl (fun _ => 0))), (q60, .inl (cI, 128, .inl (fun _ => 0))), (q68, .inl (cI, 8, .inl (fun _ => 0)))] : va_W) H := hP
  have hD : va_D A ([(b, .inr (3, [.ref q8, .ref q16, .ref q25, .ref q33, .int 0, .int 4, .ref q51, .ref q60, .null, .null, .null, .int 0])), (q8, .inl (cI, 256, .inl (fun _ => 0))), (q16, .inl (cI, 16, .inl (fun _ => 0))), (q25, .inl (cI, 256, .inl (fun _ => 0))), (q33, .inl (cI, 16, .inl (fun _ => 0))), (q51, .inl (cI, 8, .inl (fun _ => 0))), (q60, .inl (cI, 128, .inl (fun _ => 0))), (q68, .inl (cI, 8, .inl (fun _ => 0)))] : va_W) := hD
  refine W.widen (k := 7) (n := 688) (by decide) (by decide) ?_
  refine va_putF (D := (dC, dI)) (ci := 3) (v := .ref q68) (ty := (.array .int)) (C := RX3) (T := TX3) (N := 12) hx hb hts inX3_init_3 tyX3 tyX3_ok nmX3 hown hK hP hD hS 0 rfl rfl 8 (by decide) (hts _ kX3_init_12) (fun _ h9 => h9) rfl hin rfl (tyX3_ok 8 (by decide)) rfl rfl (Nat.le_of_ble_eq_true rfl) dX3_init_70 (fun H locs hP hD hS => ?_)
  have hP : va_P (dC, dI) vwCl ([(b, .inr (3, [.ref q8, .ref q16, .ref q25, .ref q33, .int 0, .int 4, .ref q51, .ref q60, .ref q68, .null, .null, .int 0])), (q8, .inl (cI, 256, .inl (fun _ => 0))), (q16, .inl (cI, 16, .inl (fun _ => 0))), (q25, .inl (cI, 256, .inl (fun _ => 0))), (q33, .inl (cI, 16, .inl (fun _ => 0))), (q51, .inl (cI, 8, .inl (fun _ => 0))), (q60, .inl (cI, 128, .inl (fun _ => 0))), (q68, .inl (cI, 8, .inl (fun _ => 0)))] : va_W) H := hP
  have hD : va_D A ([(b, .inr (3, [.ref q8, .ref q16, .ref q25, .ref q33, .int 0, .int 4, .ref q51, .ref q60, .ref q68, .null, .null, .int 0])), (q8, .inl (cI, 256, .inl (fun _ => 0))), (q16, .inl (cI, 16, .inl (fun _ => 0))), (q25, .inl (cI, 256, .inl (fun _ => 0))), (q33, .inl (cI, 16, .inl (fun _ => 0))), (q51, .inl (cI, 8, .inl (fun _ => 0))), (q60, .inl (cI, 128, .inl (fun _ => 0))), (q68, .inl (cI, 8, .inl (fun _ => 0)))] : va_W) := hD
  refine lv_aload_n hx hb dX3_init_73 rfl (lv_at hl 0 rfl) ?_
  refine lv_bipush (v := 8) hx hb dX3_init_74 (by decide) ?_
  refine va_newa (atype := .int) (ty := .int) (N' := 8) (a0 := (8, .inl (fun _ => 0))) hx hb (hts _ kX3_init_3) rfl hK hP hD hS hA (fun _ => rfl) (by decide) (by decide) (by decide) (Nat.le_of_ble_eq_true rfl) (Nat.le_of_ble_eq_true rfl) dX3_init_76 (fun q76 cA H hK2 hP hD hS => ?_)
  have ec := (cI_eq hK2).symm
  subst ec
  have hP : va_P (dC, dI) vwCl ([(b, .inr (3, [.ref q8, .ref q16, .ref q25, .ref q33, .int 0, .int 4, .ref q51, .ref q60, .ref q68, .null, .null, .int 0])), (q8, .inl (cI, 256, .inl (fun _ => 0))), (q16, .inl (cI, 16, .inl (fun _ => 0))), (q25, .inl (cI, 256, .inl (fun _ => 0))), (q33, .inl (cI, 16, .inl (fun _ => 0))), (q51, .inl (cI, 8, .inl (fun _ => 0))), (q60, .inl (cI, 128, .inl (fun _ => 0))), (q68, .inl (cI, 8, .inl (fun _ => 0))), (q76, .inl (cI, 8, .inl (fun _ => 0)))] : va_W) H := hP
  have hD : va_D A ([(b, .inr (3, [.ref q8, .ref q16, .ref q25, .ref q33, .int 0, .int 4, .ref q51, .ref q60, .ref q68, .null, .null, .int 0])), (q8, .inl (cI, 256, .inl (fun _ => 0))), (q16, .inl (cI, 16, .inl (fun _ => 0))), (q25, .inl (cI, 256, .inl (fun _ => 0))), (q33, .inl (cI, 16, .inl (fun _ => 0))), (q51, .inl (cI, 8, .inl (fun _ => 0))), (q60, .inl (cI, 128, .inl (fun _ => 0))), (q68, .inl (cI, 8, .inl (fun _ => 0))), (q76, .inl (cI, 8, .inl (fun _ => 0)))] : va_W) := hD
  refine W.widen (k := 8) (n := 696) (by decide) (by decide) ?_
  refine va_putF (D := (dC, dI)) (ci := 3) (v := .ref q76) (ty := (.array .int)) (C := RX3) (T := TX3) (N := 12) hx hb hts inX3_init_3 tyX3 tyX3_ok nmX3 hown hK hP hD hS 0 rfl rfl 9 (by decide) (hts _ kX3_init_13) (fun _ h9 => h9) rfl hin rfl (tyX3_ok 9 (by decide)) rfl rfl (Nat.le_of_ble_eq_true rfl) dX3_init_78 (fun H locs hP hD hS => ?_)
  have hP : va_P (dC, dI) vwCl ([(b, .inr (3, [.ref q8, .ref q16, .ref q25, .ref q33, .int 0, .int 4, .ref q51, .ref q60, .ref q68, .ref q76, .null, .int 0])), (q8, .inl (cI, 256, .inl (fun _ => 0))), (q16, .inl (cI, 16, .inl (fun _ => 0))), (q25, .inl (cI, 256, .inl (fun _ => 0))), (q33, .inl (cI, 16, .inl (fun _ => 0))), (q51, .inl (cI, 8, .inl (fun _ => 0))), (q60, .inl (cI, 128, .inl (fun _ => 0))), (q68, .inl (cI, 8, .inl (fun _ => 0))), (q76, .inl (cI, 8, .inl (fun _ => 0)))] : va_W) H := hP
  have hD : va_D A ([(b, .inr (3, [.ref q8, .ref q16, .ref q25, .ref q33, .int 0, .int 4, .ref q51, .ref q60, .ref q68, .ref q76, .null, .int 0])), (q8, .inl (cI, 256, .inl (fun _ => 0))), (q16, .inl (cI, 16, .inl (fun _ => 0))), (q25, .inl (cI, 256, .inl (fun _ => 0))), (q33, .inl (cI, 16, .inl (fun _ => 0))), (q51, .inl (cI, 8, .inl (fun _ => 0))), (q60, .inl (cI, 128, .inl (fun _ => 0))), (q68, .inl (cI, 8, .inl (fun _ => 0))), (q76, .inl (cI, 8, .inl (fun _ => 0)))] : va_W) := hD
  refine lv_aload_n hx hb dX3_init_81 rfl (lv_at hl 0 rfl) ?_
  refine lv_bipush (v := 8) hx hb dX3_init_82 (by decide) ?_
  refine va_newa (atype := .int) (ty := .int) (N' := 8) (a0 := (8, .inl (fun _ => 0))) hx hb (hts _ kX3_init_3) rfl hK hP hD hS hA (fun _ => rfl) (by decide) (by decide) (by decide) (Nat.le_of_ble_eq_true rfl) (Nat.le_of_ble_eq_true rfl) dX3_init_84 (fun q84 cA H hK2 hP hD hS => ?_)
  have ec := (cI_eq hK2).symm
  subst ec
  have hP : va_P (dC, dI) vwCl ([(b, .inr (3, [.ref q8, .ref q16, .ref q25, .ref q33, .int 0, .int 4, .ref q51, .ref q60, .ref q68, .ref q76, .null, .int 0])), (q8, .inl (cI, 256, .inl (fun _ => 0))), (q16, .inl (cI, 16, .inl (fun _ => 0))), (q25, .inl (cI, 256, .inl (fun _ => 0))), (q33, .inl (cI, 16, .inl (fun _ => 0))), (q51, .inl (cI, 8, .inl (fun _ => 0))), (q60, .inl (cI, 128, .inl (fun _ => 0))), (q68, .inl (cI, 8, .inl (fun _ => 0))), (q76, .inl (cI, 8, .inl (fun _ => 0))), (q84, .inl (cI, 8, .inl (fun _ => 0)))] : va_W) H := hP
  have hD : va_D A ([(b, .inr (3, [.ref q8, .ref q16, .ref q25, .ref q33, .int 0, .int 4, .ref q51, .ref q60, .ref q68, .ref q76, .null, .int 0])), (q8, .inl (cI, 256, .inl (fun _ => 0))), (q16, .inl (cI, 16, .inl (fun _ => 0))), (q25, .inl (cI, 256, .inl (fun _ => 0))), (q33, .inl (cI, 16, .inl (fun _ => 0))), (q51, .inl (cI, 8, .inl (fun _ => 0))), (q60, .inl (cI, 128, .inl (fun _ => 0))), (q68, .inl (cI, 8, .inl (fun _ => 0))), (q76, .inl (cI, 8, .inl (fun _ => 0))), (q84, .inl (cI, 8, .inl (fun _ => 0)))] : va_W) := hD
  refine W.widen (k := 9) (n := 704) (by decide) (by decide) ?_
  refine va_putF (D := (dC, dI)) (ci := 3) (v := .ref q84) (ty := (.array .int)) (C := RX3) (T := TX3) (N := 12) hx hb hts inX3_init_3 tyX3 tyX3_ok nmX3 hown hK hP hD hS 0 rfl rfl 10 (by decide) (hts _ kX3_init_14) (fun _ h9 => h9) rfl hin rfl (tyX3_ok 10 (by decide)) rfl rfl (Nat.le_of_ble_eq_true rfl) dX3_init_86 (fun H locs hP hD hS => ?_)
  have hP : va_P (dC, dI) vwCl ([(b, .inr (3, [.ref q8, .ref q16, .ref q25, .ref q33, .int 0, .int 4, .ref q51, .ref q60, .ref q68, .ref q76, .ref q84, .int 0])), (q8, .inl (cI, 256, .inl (fun _ => 0))), (q16, .inl (cI, 16, .inl (fun _ => 0))), (q25, .inl (cI, 256, .inl (fun _ => 0))), (q33, .inl (cI, 16, .inl (fun _ => 0))), (q51, .inl (cI, 8, .inl (fun _ => 0))), (q60, .inl (cI, 128, .inl (fun _ => 0))), (q68, .inl (cI, 8, .inl (fun _ => 0))), (q76, .inl (cI, 8, .inl (fun _ => 0))), (q84, .inl (cI, 8, .inl (fun _ => 0)))] : va_W) H := hP
  have hD : va_D A ([(b, .inr (3, [.ref q8, .ref q16, .ref q25, .ref q33, .int 0, .int 4, .ref q51, .ref q60, .ref q68, .ref q76, .ref q84, .int 0])), (q8, .inl (cI, 256, .inl (fun _ => 0))), (q16, .inl (cI, 16, .inl (fun _ => 0))), (q25, .inl (cI, 256, .inl (fun _ => 0))), (q33, .inl (cI, 16, .inl (fun _ => 0))), (q51, .inl (cI, 8, .inl (fun _ => 0))), (q60, .inl (cI, 128, .inl (fun _ => 0))), (q68, .inl (cI, 8, .inl (fun _ => 0))), (q76, .inl (cI, 8, .inl (fun _ => 0))), (q84, .inl (cI, 8, .inl (fun _ => 0)))] : va_W) := hD
  refine lv_aload_n hx hb dX3_init_89 rfl (lv_at hl 0 rfl) ?_
  refine lv_iconst (v := 0) hx hb dX3_init_90 (by decide) ?_
  refine va_put (D := (dC, dI)) (ci := 3) (v := .int 0) (ty := .int) (C := RX3) (T := TX3) (N := 12) hx hb hts inX3_init_3 tyX3 tyX3_ok nmX3 hown hK hP hD hS 0 rfl rfl 11 (by decide) (hts _ kX3_init_15) (fun _ h9 => h9) rfl (tyX3_ok 11 (by decide)) rfl rfl (Nat.le_of_ble_eq_true rfl) dX3_init_91 (fun H locs hP hD hS => ?_)
  have hP : va_P (dC, dI) vwCl ([(b, .inr (3, [.ref q8, .ref q16, .ref q25, .ref q33, .int 0, .int 4, .ref q51, .ref q60, .ref q68, .ref q76, .ref q84, .int 0])), (q8, .inl (cI, 256, .inl (fun _ => 0))), (q16, .inl (cI, 16, .inl (fun _ => 0))), (q25, .inl (cI, 256, .inl (fun _ => 0))), (q33, .inl (cI, 16, .inl (fun _ => 0))), (q51, .inl (cI, 8, .inl (fun _ => 0))), (q60, .inl (cI, 128, .inl (fun _ => 0))), (q68, .inl (cI, 8, .inl (fun _ => 0))), (q76, .inl (cI, 8, .inl (fun _ => 0))), (q84, .inl (cI, 8, .inl (fun _ => 0)))] : va_W) H := hP
  have hD : va_D A ([(b, .inr (3, [.ref q8, .ref q16, .ref q25, .ref q33, .int 0, .int 4, .ref q51, .ref q60, .ref q68, .ref q76, .ref q84, .int 0])), (q8, .inl (cI, 256, .inl (fun _ => 0))), (q16, .inl (cI, 16, .inl (fun _ => 0))), (q25, .inl (cI, 256, .inl (fun _ => 0))), (q33, .inl (cI, 16, .inl (fun _ => 0))), (q51, .inl (cI, 8, .inl (fun _ => 0))), (q60, .inl (cI, 128, .inl (fun _ => 0))), (q68, .inl (cI, 8, .inl (fun _ => 0))), (q76, .inl (cI, 8, .inl (fun _ => 0))), (q84, .inl (cI, 8, .inl (fun _ => 0)))] : va_W) := hD
  refine lv_aload_n hx hb dX3_init_94 rfl (lv_at hl 0 rfl) ?_
  refine va_get (D := (dC, dI)) (ci := 3) (v := .ref q51) (C := RX3) (T := TX3) (N := 12) hx hb hts inX3_init_3 hown hK hP 0 rfl rfl 6 (by decide) (hts _ kX3_init_10) (fun _ h9 => h9) rfl dX3_init_95 ?_
  refine lv_iconst (v := (-1)) hx hb dX3_init_98 (by decide) ?_
  refine cx_svc (As := [.ref q51, .int (-1)]) (rest := []) ⟨hx, hb, hml, hown, hts⟩ hl.1 ok_noE trivial hK hP hD hS hA (show Cut ([(b, .inr (3, [.ref q8, .ref q16, .ref q25, .ref q33, .int 0, .int 4, .ref q51, .ref q60, .ref q68, .ref q76, .ref q84, .int 0])), (q8, .inl (cI, 256, .inl (fun _ => 0))), (q16, .inl (cI, 16, .inl (fun _ => 0))), (q25, .inl (cI, 256, .inl (fun _ => 0))), (q33, .inl (cI, 16, .inl (fun _ => 0))), (q51, .inl (cI, 8, .inl (fun _ => 0))), (q60, .inl (cI, 128, .inl (fun _ => 0))), (q68, .inl (cI, 8, .inl (fun _ => 0))), (q76, .inl (cI, 8, .inl (fun _ => 0))), (q84, .inl (cI, 8, .inl (fun _ => 0)))] : va_W) [(q51, .inl (cI, 8, .inl (fun _ => 0)))] (fun v : Nat → Int32 => [(q51, .inl (cI, 8, .inl v))]) (fun v => ([(b, .inr (3, [.ref q8, .ref q16, .ref q25, .ref q33, .int 0, .int 4, .ref q51, .ref q60, .ref q68, .ref q76, .ref q84, .int 0])), (q8, .inl (cI, 256, .inl (fun _ => 0))), (q16, .inl (cI, 16, .inl (fun _ => 0))), (q25, .inl (cI, 256, .inl (fun _ => 0))), (q33, .inl (cI, 16, .inl (fun _ => 0))), (q51, .inl (cI, 8, .inl v)), (q60, .inl (cI, 128, .inl (fun _ => 0))), (q68, .inl (cI, 8, .inl (fun _ => 0))), (q76, .inl (cI, 8, .inl (fun _ => 0))), (q84, .inl (cI, 8, .inl (fun _ => 0)))] : va_W)) from ⟨[5], [0, 1, 2, 3, 4, 6, 7, 8, 9], rfl, rfl, rfl, by decide, by decide, fun _ => ⟨[0, 1, 2, 3, 4, 9, 5, 6, 7, 8], rfl, rfl⟩⟩) (c_J7_fill_53178 (l := l) (dC := dC) (dI := dI) (cI := cI) (q0 := fun _ => q51) (Q := fun v => v = (fun j => if j < 8 then (-1) else (fun _ => 0) j)) (fill_ok (by decide) rfl)) (va_cwS 2 hts gX3_init_J7_fill_53178 rfl rfl rfl hdJ7_fill_53178 ⟨Nat.le_of_ble_eq_true rfl, Nat.le_of_ble_eq_true rfl⟩) rfl (Nat.le_of_ble_eq_true rfl) dX3_init_99 rfl ⟨Nat.le_of_ble_eq_true rfl, Nat.le_of_ble_eq_true rfl⟩ (fun v H locs ev hP hD hS => ?_)
  subst ev
  have hP : va_P (dC, dI) vwCl ([(b, .inr (3, [.ref q8, .ref q16, .ref q25, .ref q33, .int 0, .int 4, .ref q51, .ref q60, .ref q68, .ref q76, .ref q84, .int 0])), (q8, .inl (cI, 256, .inl (fun _ => 0))), (q16, .inl (cI, 16, .inl (fun _ => 0))), (q25, .inl (cI, 256, .inl (fun _ => 0))), (q33, .inl (cI, 16, .inl (fun _ => 0))), (q51, .inl (cI, 8, .inl (fun j => if j < 8 then (-1) else (fun _ => 0) j))), (q60, .inl (cI, 128, .inl (fun _ => 0))), (q68, .inl (cI, 8, .inl (fun _ => 0))), (q76, .inl (cI, 8, .inl (fun _ => 0))), (q84, .inl (cI, 8, .inl (fun _ => 0)))] : va_W) H := hP
  have hD : va_D A ([(b, .inr (3, [.ref q8, .ref q16, .ref q25, .ref q33, .int 0, .int 4, .ref q51, .ref q60, .ref q68, .ref q76, .ref q84, .int 0])), (q8, .inl (cI, 256, .inl (fun _ => 0))), (q16, .inl (cI, 16, .inl (fun _ => 0))), (q25, .inl (cI, 256, .inl (fun _ => 0))), (q33, .inl (cI, 16, .inl (fun _ => 0))), (q51, .inl (cI, 8, .inl (fun j => if j < 8 then (-1) else (fun _ => 0) j))), (q60, .inl (cI, 128, .inl (fun _ => 0))), (q68, .inl (cI, 8, .inl (fun _ => 0))), (q76, .inl (cI, 8, .inl (fun _ => 0))), (q84, .inl (cI, 8, .inl (fun _ => 0)))] : va_W) := hD
  have hP9 : va_P (dC, dI) vwCl (cs3 cI (fun i => [b, q8, q16, q25, q33, q51, q60, q68, q76, q84].getD i 0) i3) H := hP.sub [0, 1, 2, 3, 4, 5, 6, 7, 8, 9] rfl
  have hD9 : va_D A (cs3 cI (fun i => [b, q8, q16, q25, q33, q51, q60, q68, q76, q84].getD i 0) i3) := hD.sub [0, 1, 2, 3, 4, 5, 6, 7, 8, 9] (by decide) rfl
  exact hret _ _ _ _ (fun i => [b, q8, q16, q25, q33, q51, q60, q68, q76, q84].getD i 0) dX3_init_102 rfl hP9 hD9 hS

def i8 : S8 := ((fun _ => 0), 0, 0, (-1), i6, 0, 0, 0, 0)
abbrev rX8_init : Room := { frames := 2, cells := 3, slots := 499, locals := 32 }
theorem hdX8_init : yX8_init.cls ≠ "java/lang/invoke/MethodHandle" ∧ yX8_init.cls ≠ "java/lang/invoke/VarHandle" ∧ (parseMethodDescriptor yX8_init.desc).map (fun d => d.parameters.length) = some 0 := by decide +kernel
theorem inX8_init_6 : ∀ w ∈ wsX60, w ∈ wsX8_init := by decide +kernel
theorem inX8_init_8 : ∀ w ∈ wsX80, w ∈ wsX8_init := by decide +kernel
theorem kX8_init_0 : Cond.methodLink RX8 3 objectInit ∈ wsX8_init := by decide +kernel
theorem kX8_init_1 : Cond.instanceMethod objectInit ∈ wsX8_init := by decide +kernel
theorem kX8_init_2 : Cond.code objectInit ⟨#[0xb1]⟩ 1 none ∈ wsX8_init := by decide +kernel
theorem kX8_init_3 : Cond.arrayClass .int ∈ wsX8_init := by decide +kernel
theorem kX8_init_4 : Cond.fieldLink RX8 9 "AheadStore$Tape" "bytes" "[I" ∈ wsX8_init := by decide +kernel
theorem kX8_init_5 : Cond.fieldLink RX8 15 "AheadStore$Tape" "size" "I" ∈ wsX8_init := by decide +kernel
theorem kX8_init_6 : Cond.fieldLink RX8 19 "AheadStore$Tape" "fault" "I" ∈ wsX8_init := by decide +kernel
theorem kX8_init_7 : Cond.fieldLink RX8 22 "AheadStore$Tape" "faultPlace" "I" ∈ wsX8_init := by decide +kernel
theorem kX8_init_8 : Cond.classLink RX8 25 RX6 ∈ wsX8_init := by decide +kernel
theorem kX8_init_9 : Cond.instantiable RX6 3 ∈ wsX8_init := by decide +kernel
theorem kX8_init_10 : Cond.initialized RX6 ∈ wsX8_init := by decide +kernel
theorem kX8_init_11 : Cond.instanceMethod yX6_init ∈ wsX8_init := by decide +kernel
theorem kX8_init_12 : Cond.fieldLink RX8 28 "AheadStore$Tape" "draft" "LAheadStore$Script;" ∈ wsX8_init := by decide +kernel
theorem kX8_init_13 : Cond.fieldLink RX8 32 "AheadStore$Tape" "place" "I" ∈ wsX8_init := by decide +kernel
theorem kX8_init_14 : Cond.fieldLink RX8 35 "AheadStore$Tape" "token" "I" ∈ wsX8_init := by decide +kernel
theorem kX8_init_15 : Cond.fieldLink RX8 38 "AheadStore$Tape" "tokenPlace" "I" ∈ wsX8_init := by decide +kernel
theorem kX8_init_16 : Cond.fieldLink RX8 41 "AheadStore$Tape" "value" "I" ∈ wsX8_init := by decide +kernel
set_option maxHeartbeats 4000000 in
set_option maxRecDepth 100000 in
theorem i_X8 {l : Launch} {dC : Nat → ClassId} {dI : Nat → Nat → Nat} {cI : ClassId} {b sz : Nat} : ctC sxE l yX8_init wsX8_init rX8_init (dC, dI) vwCl [(cI, .int)] b [(b, .inr (8, [.null, .int 0, .int 0, .int 0, .null, .int 0, .int 0, .int 0, .int 0]))] sz 3 499 (fun q => cs8 cI q i8) := by
  refine mx_c (cc := cX8_init) (maxL := 1) (by decide) rfl rfl (Nat.le_of_ble_eq_true rfl) ?_
  intro p e s m below meth c Z A ls args hx hb hml hown hts hA hP hK hD hE hl hin hret
  have hown : s.vm.findClass RX8 = some m.cls := hown
  have hS : va_S A s.heap s.heap [] := va_S.rf
  refine lv_aload_n hx hb dX8_init_0 rfl (lv_at hl 0 rfl) ?_
  refine W.objInit hx hb hown (hts _ kX8_init_0) (hts _ kX8_init_1) (hts _ kX8_init_2) rfl (by rw [hml]; exact hl.1) rfl dX8_init_1 (Nat.le_of_ble_eq_true rfl) (Nat.le_of_ble_eq_true rfl) ?_
  refine W.eq (g2 := F0 m 4 ls []) rfl ?_
  refine lv_aload_n hx hb dX8_init_4 rfl (lv_at hl 0 rfl) ?_
  refine lv_sipush (v := 400) hx hb dX8_init_5 (by decide) ?_
  refine va_newa (atype := .int) (ty := .int) (N' := 400) (a0 := (400, .inl (fun _ => 0))) hx hb (hts _ kX8_init_3) rfl hK hP hD hS hA (fun _ => rfl) (by decide) (by decide) (by decide) (Nat.le_of_ble_eq_true rfl) (Nat.le_of_ble_eq_true rfl) dX8_init_8 (fun q8 cA H hK2 hP hD hS => ?_)
  have ec := (cI_eq hK2).symm
  subst ec
  have hP : va_P (dC, dI) vwCl ([(b, .inr (8, [.null, .int 0, .int 0, .int 0, .null, .int 0, .int 0, .int 0, .int 0])), (q8, .inl (cI, 400, .inl (fun _ => 0)))] : va_W) H := hP
  have hD : va_D A ([(b, .inr (8, [.null, .int 0, .int 0, .int 0, .null, .int 0, .int 0, .int 0, .int 0])), (q8, .inl (cI, 400, .inl (fun _ => 0)))] : va_W) := hD
  refine W.widen (k := 1) (n := 400) (by decide) (by decide) ?_
  refine va_putF (D := (dC, dI)) (ci := 8) (v := .ref q8) (ty := (.array .int)) (C := RX8) (T := TX8) (N := 9) hx hb hts inX8_init_8 tyX8 tyX8_ok nmX8 hown hK hP hD hS 0 rfl rfl 0 (by decide) (hts _ kX8_init_4) (fun _ h9 => h9) rfl hin rfl (tyX8_ok 0 (by decide)) rfl rfl (Nat.le_of_ble_eq_true rfl) dX8_init_10 (fun H locs hP hD hS => ?_)
  have hP : va_P (dC, dI) vwCl ([(b, .inr (8, [.ref q8, .int 0, .int 0, .int 0, .null, .int 0, .int 0, .int 0, .int 0])), (q8, .inl (cI, 400, .inl (fun _ => 0)))] : va_W) H := hP
  have hD : va_D A ([(b, .inr (8, [.ref q8, .int 0, .int 0, .int 0, .null, .int 0, .int 0, .int 0, .int 0])), (q8, .inl (cI, 400, .inl (fun _ => 0)))] : va_W) := hD
  refine lv_aload_n hx hb dX8_init_13 rfl (lv_at hl 0 rfl) ?_
  refine lv_iconst (v := 0) hx hb dX8_init_14 (by decide) ?_
  refine va_put (D := (dC, dI)) (ci := 8) (v := .int 0) (ty := .int) (C := RX8) (T := TX8) (N := 9) hx hb hts inX8_init_8 tyX8 tyX8_ok nmX8 hown hK hP hD hS 0 rfl rfl 1 (by decide) (hts _ kX8_init_5) (fun _ h9 => h9) rfl (tyX8_ok 1 (by decide)) rfl rfl (Nat.le_of_ble_eq_true rfl) dX8_init_15 (fun H locs hP hD hS => ?_)
  have hP : va_P (dC, dI) vwCl ([(b, .inr (8, [.ref q8, .int 0, .int 0, .int 0, .null, .int 0, .int 0, .int 0, .int 0])), (q8, .inl (cI, 400, .inl (fun _ => 0)))] : va_W) H := hP
  have hD : va_D A ([(b, .inr (8, [.ref q8, .int 0, .int 0, .int 0, .null, .int 0, .int 0, .int 0, .int 0])), (q8, .inl (cI, 400, .inl (fun _ => 0)))] : va_W) := hD
  refine lv_aload_n hx hb dX8_init_18 rfl (lv_at hl 0 rfl) ?_
  refine lv_iconst (v := 0) hx hb dX8_init_19 (by decide) ?_
  refine va_put (D := (dC, dI)) (ci := 8) (v := .int 0) (ty := .int) (C := RX8) (T := TX8) (N := 9) hx hb hts inX8_init_8 tyX8 tyX8_ok nmX8 hown hK hP hD hS 0 rfl rfl 2 (by decide) (hts _ kX8_init_6) (fun _ h9 => h9) rfl (tyX8_ok 2 (by decide)) rfl rfl (Nat.le_of_ble_eq_true rfl) dX8_init_20 (fun H locs hP hD hS => ?_)
  have hP : va_P (dC, dI) vwCl ([(b, .inr (8, [.ref q8, .int 0, .int 0, .int 0, .null, .int 0, .int 0, .int 0, .int 0])), (q8, .inl (cI, 400, .inl (fun _ => 0)))] : va_W) H := hP
  have hD : va_D A ([(b, .inr (8, [.ref q8, .int 0, .int 0, .int 0, .null, .int 0, .int 0, .int 0, .int 0])), (q8, .inl (cI, 400, .inl (fun _ => 0)))] : va_W) := hD
  refine lv_aload_n hx hb dX8_init_23 rfl (lv_at hl 0 rfl) ?_
  refine lv_iconst (v := (-1)) hx hb dX8_init_24 (by decide) ?_
  refine va_put (D := (dC, dI)) (ci := 8) (v := .int (-1)) (ty := .int) (C := RX8) (T := TX8) (N := 9) hx hb hts inX8_init_8 tyX8 tyX8_ok nmX8 hown hK hP hD hS 0 rfl rfl 3 (by decide) (hts _ kX8_init_7) (fun _ h9 => h9) rfl (tyX8_ok 3 (by decide)) rfl rfl (Nat.le_of_ble_eq_true rfl) dX8_init_25 (fun H locs hP hD hS => ?_)
  have hP : va_P (dC, dI) vwCl ([(b, .inr (8, [.ref q8, .int 0, .int 0, .int (-1), .null, .int 0, .int 0, .int 0, .int 0])), (q8, .inl (cI, 400, .inl (fun _ => 0)))] : va_W) H := hP
  have hD : va_D A ([(b, .inr (8, [.ref q8, .int 0, .int 0, .int (-1), .null, .int 0, .int 0, .int 0, .int 0])), (q8, .inl (cI, 400, .inl (fun _ => 0)))] : va_W) := hD
  refine lv_aload_n hx hb dX8_init_28 rfl (lv_at hl 0 rfl) ?_
  refine va_new (ci := 6) (fs := [.null, .int 0, .int 0]) (C := RX6) (T := TX6) (N := 3) hx hb hts inX8_init_6 tyX6 tyX6_ok hown (hts _ kX8_init_8) (hts _ kX8_init_9) (hts _ kX8_init_10) hK hP hD hS hA rfl (fun j hj => by rcases (show j = 0 ∨ j = 1 ∨ j = 2 by omega) with rfl | rfl | rfl <;> rfl) (Nat.le_of_ble_eq_true rfl) (Nat.le_of_ble_eq_true rfl) dX8_init_29 (fun q29 H hP hD hS => ?_)
  have hP : va_P (dC, dI) vwCl ([(b, .inr (8, [.ref q8, .int 0, .int 0, .int (-1), .null, .int 0, .int 0, .int 0, .int 0])), (q8, .inl (cI, 400, .inl (fun _ => 0))), (q29, .inr (6, [.null, .int 0, .int 0]))] : va_W) H := hP
  have hD : va_D A ([(b, .inr (8, [.ref q8, .int 0, .int 0, .int (-1), .null, .int 0, .int 0, .int 0, .int 0])), (q8, .inl (cI, 400, .inl (fun _ => 0))), (q29, .inr (6, [.null, .int 0, .int 0]))] : va_W) := hD
  refine W.widen (k := 2) (n := 403) (by decide) (by decide) ?_
  refine lv_dup hx hb dX8_init_32 rfl ?_
  refine cx_nc (rest := [.ref q29, .ref b]) ⟨hx, hb, hml, hown, hts⟩ hl.1 ok_sxE hE hK hP hD hS hA (show Cut ([(b, .inr (8, [.ref q8, .int 0, .int 0, .int (-1), .null, .int 0, .int 0, .int 0, .int 0])), (q8, .inl (cI, 400, .inl (fun _ => 0))), (q29, .inr (6, [.null, .int 0, .int 0]))] : va_W) [(q29, .inr (6, [.null, .int 0, .int 0]))] (fun qs33 => cs6 cI qs33 i6) (fun qs33 => ([(b, .inr (8, [.ref q8, .int 0, .int 0, .int (-1), .null, .int 0, .int 0, .int 0, .int 0])), (q8, .inl (cI, 400, .inl (fun _ => 0)))] ++ cs6 cI qs33 i6 : va_W)) from ⟨[2], [0, 1], rfl, rfl, rfl, by decide, by decide, fun _ => ⟨[0, 1, 2, 3], rfl, rfl⟩⟩) (i_X6 (l := l) (dC := dC) (dI := dI) (cI := cI)) ⟨va_cnB 0 hts gX8_init_X6_init_n27 rfl rfl rfl (hE.1.1 (RX8, 27, yX6_init, "AheadStore") (List.mem_of_getElem? (i := 8) rfl)) (hts _ kX8_init_10) hdX6_init ⟨Nat.le_of_ble_eq_true rfl, Nat.le_of_ble_eq_true rfl⟩, rfl, hts _ kX8_init_11⟩ (Nat.le_of_ble_eq_true rfl) dX8_init_33 rfl ⟨Nat.le_of_ble_eq_true rfl, Nat.le_of_ble_eq_true rfl⟩ (fun qs33 H locs hq33 hPn hDn hSn => ?_)
  have hq33 : q29 = qs33 0 := hq33.symm
  subst hq33
  have hP := hPn
  have hD := hDn
  have hS := hSn
  refine W.widen (k := 3) (n := 499) (by decide) (by decide) ?_
  refine va_putF (D := (dC, dI)) (ci := 8) (v := .ref (qs33 0)) (ty := (.object "AheadStore$Script")) (C := RX8) (T := TX8) (N := 9) hx hb hts inX8_init_8 tyX8 tyX8_ok nmX8 hown hK hP hD hS 0 rfl rfl 4 (by decide) (hts _ kX8_init_12) (fun _ h9 => h9) rfl hin rfl (tyX8_ok 4 (by decide)) rfl rfl (Nat.le_of_ble_eq_true rfl) dX8_init_36 (fun H locs hP hD hS => ?_)
  have hP : va_P (dC, dI) vwCl ([(b, .inr (8, [.ref q8, .int 0, .int 0, .int (-1), .ref (qs33 0), .int 0, .int 0, .int 0, .int 0])), (q8, .inl (cI, 400, .inl (fun _ => 0)))] ++ cs6 cI qs33 i6 : va_W) H := hP
  have hD : va_D A ([(b, .inr (8, [.ref q8, .int 0, .int 0, .int (-1), .ref (qs33 0), .int 0, .int 0, .int 0, .int 0])), (q8, .inl (cI, 400, .inl (fun _ => 0)))] ++ cs6 cI qs33 i6 : va_W) := hD
  refine lv_aload_n hx hb dX8_init_39 rfl (lv_at hl 0 rfl) ?_
  refine lv_iconst (v := 0) hx hb dX8_init_40 (by decide) ?_
  refine va_put (D := (dC, dI)) (ci := 8) (v := .int 0) (ty := .int) (C := RX8) (T := TX8) (N := 9) hx hb hts inX8_init_8 tyX8 tyX8_ok nmX8 hown hK hP hD hS 0 rfl rfl 5 (by decide) (hts _ kX8_init_13) (fun _ h9 => h9) rfl (tyX8_ok 5 (by decide)) rfl rfl (Nat.le_of_ble_eq_true rfl) dX8_init_41 (fun H locs hP hD hS => ?_)
  have hP : va_P (dC, dI) vwCl ([(b, .inr (8, [.ref q8, .int 0, .int 0, .int (-1), .ref (qs33 0), .int 0, .int 0, .int 0, .int 0])), (q8, .inl (cI, 400, .inl (fun _ => 0)))] ++ cs6 cI qs33 i6 : va_W) H := hP
  have hD : va_D A ([(b, .inr (8, [.ref q8, .int 0, .int 0, .int (-1), .ref (qs33 0), .int 0, .int 0, .int 0, .int 0])), (q8, .inl (cI, 400, .inl (fun _ => 0)))] ++ cs6 cI qs33 i6 : va_W) := hD
  refine lv_aload_n hx hb dX8_init_44 rfl (lv_at hl 0 rfl) ?_
  refine lv_iconst (v := 0) hx hb dX8_init_45 (by decide) ?_
  refine va_put (D := (dC, dI)) (ci := 8) (v := .int 0) (ty := .int) (C := RX8) (T := TX8) (N := 9) hx hb hts inX8_init_8 tyX8 tyX8_ok nmX8 hown hK hP hD hS 0 rfl rfl 6 (by decide) (hts _ kX8_init_14) (fun _ h9 => h9) rfl (tyX8_ok 6 (by decide)) rfl rfl (Nat.le_of_ble_eq_true rfl) dX8_init_46 (fun H locs hP hD hS => ?_)
  have hP : va_P (dC, dI) vwCl ([(b, .inr (8, [.ref q8, .int 0, .int 0, .int (-1), .ref (qs33 0), .int 0, .int 0, .int 0, .int 0])), (q8, .inl (cI, 400, .inl (fun _ => 0)))] ++ cs6 cI qs33 i6 : va_W) H := hP
  have hD : va_D A ([(b, .inr (8, [.ref q8, .int 0, .int 0, .int (-1), .ref (qs33 0), .int 0, .int 0, .int 0, .int 0])), (q8, .inl (cI, 400, .inl (fun _ => 0)))] ++ cs6 cI qs33 i6 : va_W) := hD
  refine lv_aload_n hx hb dX8_init_49 rfl (lv_at hl 0 rfl) ?_
  refine lv_iconst (v := 0) hx hb dX8_init_50 (by decide) ?_
  refine va_put (D := (dC, dI)) (ci := 8) (v := .int 0) (ty := .int) (C := RX8) (T := TX8) (N := 9) hx hb hts inX8_init_8 tyX8 tyX8_ok nmX8 hown hK hP hD hS 0 rfl rfl 7 (by decide) (hts _ kX8_init_15) (fun _ h9 => h9) rfl (tyX8_ok 7 (by decide)) rfl rfl (Nat.le_of_ble_eq_true rfl) dX8_init_51 (fun H locs hP hD hS => ?_)
  have hP : va_P (dC, dI) vwCl ([(b, .inr (8, [.ref q8, .int 0, .int 0, .int (-1), .ref (qs33 0), .int 0, .int 0, .int 0, .int 0])), (q8, .inl (cI, 400, .inl (fun _ => 0)))] ++ cs6 cI qs33 i6 : va_W) H := hP
  have hD : va_D A ([(b, .inr (8, [.ref q8, .int 0, .int 0, .int (-1), .ref (qs33 0), .int 0, .int 0, .int 0, .int 0])), (q8, .inl (cI, 400, .inl (fun _ => 0)))] ++ cs6 cI qs33 i6 : va_W) := hD
  refine lv_aload_n hx hb dX8_init_54 rfl (lv_at hl 0 rfl) ?_
  refine lv_iconst (v := 0) hx hb dX8_init_55 (by decide) ?_
  refine va_put (D := (dC, dI)) (ci := 8) (v := .int 0) (ty := .int) (C := RX8) (T := TX8) (N := 9) hx hb hts inX8_init_8 tyX8 tyX8_ok nmX8 hown hK hP hD hS 0 rfl rfl 8 (by decide) (hts _ kX8_init_16) (fun _ h9 => h9) rfl (tyX8_ok 8 (by decide)) rfl rfl (Nat.le_of_ble_eq_true rfl) dX8_init_56 (fun H locs hP hD hS => ?_)
  have hP : va_P (dC, dI) vwCl ([(b, .inr (8, [.ref q8, .int 0, .int 0, .int (-1), .ref (qs33 0), .int 0, .int 0, .int 0, .int 0])), (q8, .inl (cI, 400, .inl (fun _ => 0)))] ++ cs6 cI qs33 i6 : va_W) H := hP
  have hD : va_D A ([(b, .inr (8, [.ref q8, .int 0, .int 0, .int (-1), .ref (qs33 0), .int 0, .int 0, .int 0, .int 0])), (q8, .inl (cI, 400, .inl (fun _ => 0)))] ++ cs6 cI qs33 i6 : va_W) := hD
  have hP9 : va_P (dC, dI) vwCl (cs8 cI (fun i => [b, q8, qs33 0, qs33 1].getD i 0) i8) H := hP.sub [0, 1, 2, 3] rfl
  have hD9 : va_D A (cs8 cI (fun i => [b, q8, qs33 0, qs33 1].getD i 0) i8) := hD.sub [0, 1, 2, 3] (by decide) rfl
  exact hret _ _ _ _ (fun i => [b, q8, qs33 0, qs33 1].getD i 0) dX8_init_59 rfl hP9 hD9 hS

def i9 : S9 := (i2, i3, i5, i0, i7, i6, 1, 0, 0, 0, 0)
abbrev rX9_init : Room := { frames := 2, cells := 29, slots := 10397, locals := 43 }
theorem hdX9_init : yX9_init.cls ≠ "java/lang/invoke/MethodHandle" ∧ yX9_init.cls ≠ "java/lang/invoke/VarHandle" ∧ (parseMethodDescriptor yX9_init.desc).map (fun d => d.parameters.length) = some 0 := by decide +kernel
theorem inX9_init_0 : ∀ w ∈ wsX00, w ∈ wsX9_init := by decide +kernel
theorem inX9_init_2 : ∀ w ∈ wsX20, w ∈ wsX9_init := by decide +kernel
theorem inX9_init_3 : ∀ w ∈ wsX30, w ∈ wsX9_init := by decide +kernel
theorem inX9_init_5 : ∀ w ∈ wsX50, w ∈ wsX9_init := by decide +kernel
theorem inX9_init_6 : ∀ w ∈ wsX60, w ∈ wsX9_init := by decide +kernel
theorem inX9_init_7 : ∀ w ∈ wsX70, w ∈ wsX9_init := by decide +kernel
theorem inX9_init_9 : ∀ w ∈ wsX90, w ∈ wsX9_init := by decide +kernel
theorem kX9_init_0 : Cond.methodLink RX9 3 objectInit ∈ wsX9_init := by decide +kernel
theorem kX9_init_1 : Cond.instanceMethod objectInit ∈ wsX9_init := by decide +kernel
theorem kX9_init_2 : Cond.code objectInit ⟨#[0xb1]⟩ 1 none ∈ wsX9_init := by decide +kernel
theorem kX9_init_3 : Cond.classLink RX9 9 RX2 ∈ wsX9_init := by decide +kernel
theorem kX9_init_4 : Cond.instantiable RX2 4 ∈ wsX9_init := by decide +kernel
theorem kX9_init_5 : Cond.initialized RX2 ∈ wsX9_init := by decide +kernel
theorem kX9_init_6 : Cond.instanceMethod yX2_init ∈ wsX9_init := by decide +kernel
theorem kX9_init_7 : Cond.fieldLink RX9 12 "AheadStore$World" "journal" "LAheadStore$Journal;" ∈ wsX9_init := by decide +kernel
theorem kX9_init_8 : Cond.classLink RX9 18 RX3 ∈ wsX9_init := by decide +kernel
theorem kX9_init_9 : Cond.instantiable RX3 12 ∈ wsX9_init := by decide +kernel
theorem kX9_init_10 : Cond.initialized RX3 ∈ wsX9_init := by decide +kernel
theorem kX9_init_11 : Cond.methodLink RX9 20 yX3_init ∈ wsX9_init := by decide +kernel
theorem kX9_init_12 : Cond.instanceMethod yX3_init ∈ wsX9_init := by decide +kernel
theorem kX9_init_13 : Cond.fieldLink RX9 21 "AheadStore$World" "pages" "LAheadStore$Pages;" ∈ wsX9_init := by decide +kernel
theorem kX9_init_14 : Cond.classLink RX9 25 RX5 ∈ wsX9_init := by decide +kernel
theorem kX9_init_15 : Cond.instantiable RX5 3 ∈ wsX9_init := by decide +kernel
theorem kX9_init_16 : Cond.initialized RX5 ∈ wsX9_init := by decide +kernel
theorem kX9_init_17 : Cond.instanceMethod yX5_init ∈ wsX9_init := by decide +kernel
theorem kX9_init_18 : Cond.fieldLink RX9 28 "AheadStore$World" "roster" "LAheadStore$Roster;" ∈ wsX9_init := by decide +kernel
theorem kX9_init_19 : Cond.classLink RX9 32 RX0 ∈ wsX9_init := by decide +kernel
theorem kX9_init_20 : Cond.instantiable RX0 7 ∈ wsX9_init := by decide +kernel
theorem kX9_init_21 : Cond.initialized RX0 ∈ wsX9_init := by decide +kernel
theorem kX9_init_22 : Cond.instanceMethod yX0_init ∈ wsX9_init := by decide +kernel
theorem kX9_init_23 : Cond.fieldLink RX9 35 "AheadStore$World" "claims" "LAheadStore$Claims;" ∈ wsX9_init := by decide +kernel
theorem kX9_init_24 : Cond.classLink RX9 39 RX7 ∈ wsX9_init := by decide +kernel
theorem kX9_init_25 : Cond.instantiable RX7 4 ∈ wsX9_init := by decide +kernel
theorem kX9_init_26 : Cond.initialized RX7 ∈ wsX9_init := by decide +kernel
theorem kX9_init_27 : Cond.instanceMethod yX7_init ∈ wsX9_init := by decide +kernel
theorem kX9_init_28 : Cond.fieldLink RX9 42 "AheadStore$World" "standby" "LAheadStore$Standby;" ∈ wsX9_init := by decide +kernel
theorem kX9_init_29 : Cond.classLink RX9 46 RX6 ∈ wsX9_init := by decide +kernel
theorem kX9_init_30 : Cond.instantiable RX6 3 ∈ wsX9_init := by decide +kernel
theorem kX9_init_31 : Cond.initialized RX6 ∈ wsX9_init := by decide +kernel
theorem kX9_init_32 : Cond.instanceMethod yX6_init ∈ wsX9_init := by decide +kernel
theorem kX9_init_33 : Cond.fieldLink RX9 49 "AheadStore$World" "script" "LAheadStore$Script;" ∈ wsX9_init := by decide +kernel
theorem kX9_init_34 : Cond.fieldLink RX9 53 "AheadStore$World" "up" "Z" ∈ wsX9_init := by decide +kernel
theorem kX9_init_35 : Cond.fieldLink RX9 57 "AheadStore$World" "master" "I" ∈ wsX9_init := by decide +kernel
theorem kX9_init_36 : Cond.fieldLink RX9 61 "AheadStore$World" "openCheck" "I" ∈ wsX9_init := by decide +kernel
theorem kX9_init_37 : Cond.fieldLink RX9 64 "AheadStore$World" "redone" "I" ∈ wsX9_init := by decide +kernel
theorem kX9_init_38 : Cond.fieldLink RX9 67 "AheadStore$World" "crashes" "I" ∈ wsX9_init := by decide +kernel
set_option maxHeartbeats 4000000 in
set_option maxRecDepth 100000 in
theorem i_X9 {l : Launch} {dC : Nat → ClassId} {dI : Nat → Nat → Nat} {cI : ClassId} {b sz : Nat} : ctC sxE l yX9_init wsX9_init rX9_init (dC, dI) vwCl [(cI, .int)] b [(b, .inr (9, [.null, .null, .null, .null, .null, .null, .int 0, .int 0, .int 0, .int 0, .int 0]))] sz 29 10397 (fun q => cs9 cI q i9) := by
  refine mx_c (cc := cX9_init) (maxL := 1) (by decide) rfl rfl (Nat.le_of_ble_eq_true rfl) ?_
  intro p e s m below meth c Z A ls args hx hb hml hown hts hA hP hK hD hE hl hin hret
  have hown : s.vm.findClass RX9 = some m.cls := hown
  have hS : va_S A s.heap s.heap [] := va_S.rf
  refine lv_aload_n hx hb dX9_init_0 rfl (lv_at hl 0 rfl) ?_
  refine W.objInit hx hb hown (hts _ kX9_init_0) (hts _ kX9_init_1) (hts _ kX9_init_2) rfl (by rw [hml]; exact hl.1) rfl dX9_init_1 (Nat.le_of_ble_eq_true rfl) (Nat.le_of_ble_eq_true rfl) ?_
  refine W.eq (g2 := F0 m 4 ls []) rfl ?_
  refine lv_aload_n hx hb dX9_init_4 rfl (lv_at hl 0 rfl) ?_
  refine va_new (ci := 2) (fs := [.null, .int 0, .int 0, .int 0]) (C := RX2) (T := TX2) (N := 4) hx hb hts inX9_init_2 tyX2 tyX2_ok hown (hts _ kX9_init_3) (hts _ kX9_init_4) (hts _ kX9_init_5) hK hP hD hS hA rfl (fun j hj => by rcases (show j = 0 ∨ j = 1 ∨ j = 2 ∨ j = 3 by omega) with rfl | rfl | rfl | rfl <;> rfl) (Nat.le_of_ble_eq_true rfl) (Nat.le_of_ble_eq_true rfl) dX9_init_5 (fun q5 H hP hD hS => ?_)
  have hP : va_P (dC, dI) vwCl ([(b, .inr (9, [.null, .null, .null, .null, .null, .null, .int 0, .int 0, .int 0, .int 0, .int 0])), (q5, .inr (2, [.null, .int 0, .int 0, .int 0]))] : va_W) H := hP
  have hD : va_D A ([(b, .inr (9, [.null, .null, .null, .null, .null, .null, .int 0, .int 0, .int 0, .int 0, .int 0])), (q5, .inr (2, [.null, .int 0, .int 0, .int 0]))] : va_W) := hD
  refine W.widen (k := 1) (n := 4) (by decide) (by decide) ?_
  refine lv_dup hx hb dX9_init_8 rfl ?_
  refine cx_nc (rest := [.ref q5, .ref b]) ⟨hx, hb, hml, hown, hts⟩ hl.1 ok_sxE hE hK hP hD hS hA (show Cut ([(b, .inr (9, [.null, .null, .null, .null, .null, .null, .int 0, .int 0, .int 0, .int 0, .int 0])), (q5, .inr (2, [.null, .int 0, .int 0, .int 0]))] : va_W) [(q5, .inr (2, [.null, .int 0, .int 0, .int 0]))] (fun qs9 => cs2 cI qs9 i2) (fun qs9 => ([(b, .inr (9, [.null, .null, .null, .null, .null, .null, .int 0, .int 0, .int 0, .int 0, .int 0]))] ++ cs2 cI qs9 i2 : va_W)) from ⟨[1], [0], rfl, rfl, rfl, by decide, by decide, fun _ => ⟨[0, 1, 2], rfl, rfl⟩⟩) (i_X2 (l := l) (dC := dC) (dI := dI) (cI := cI)) ⟨va_cnB 0 hts gX9_init_X2_init_n11 rfl rfl rfl (hE.1.1 (RX9, 11, yX2_init, "AheadStore") (List.mem_of_getElem? (i := 9) rfl)) (hts _ kX9_init_5) hdX2_init ⟨Nat.le_of_ble_eq_true rfl, Nat.le_of_ble_eq_true rfl⟩, rfl, hts _ kX9_init_6⟩ (Nat.le_of_ble_eq_true rfl) dX9_init_9 rfl ⟨Nat.le_of_ble_eq_true rfl, Nat.le_of_ble_eq_true rfl⟩ (fun qs9 H locs hq9 hPn hDn hSn => ?_)
  have hq9 : q5 = qs9 0 := hq9.symm
  subst hq9
  have hP := hPn
  have hD := hDn
  have hS := hSn
  refine W.widen (k := 2) (n := 8604) (by decide) (by decide) ?_
  refine va_putF (D := (dC, dI)) (ci := 9) (v := .ref (qs9 0)) (ty := (.object "AheadStore$Journal")) (C := RX9) (T := TX9) (N := 11) hx hb hts inX9_init_9 tyX9 tyX9_ok nmX9 hown hK hP hD hS 0 rfl rfl 0 (by decide) (hts _ kX9_init_7) (fun _ h9 => h9) rfl hin rfl (tyX9_ok 0 (by decide)) rfl rfl (Nat.le_of_ble_eq_true rfl) dX9_init_12 (fun H locs hP hD hS => ?_)
  have hP : va_P (dC, dI) vwCl ([(b, .inr (9, [.ref (qs9 0), .null, .null, .null, .null, .null, .int 0, .int 0, .int 0, .int 0, .int 0]))] ++ cs2 cI qs9 i2 : va_W) H := hP
  have hD : va_D A ([(b, .inr (9, [.ref (qs9 0), .null, .null, .null, .null, .null, .int 0, .int 0, .int 0, .int 0, .int 0]))] ++ cs2 cI qs9 i2 : va_W) := hD
  refine lv_aload_n hx hb dX9_init_15 rfl (lv_at hl 0 rfl) ?_
  refine va_new (ci := 3) (fs := [.null, .null, .null, .null, .int 0, .int 0, .null, .null, .null, .null, .null, .int 0]) (C := RX3) (T := TX3) (N := 12) hx hb hts inX9_init_3 tyX3 tyX3_ok hown (hts _ kX9_init_8) (hts _ kX9_init_9) (hts _ kX9_init_10) hK hP hD hS hA rfl (fun j hj => by rcases (show j = 0 ∨ j = 1 ∨ j = 2 ∨ j = 3 ∨ j = 4 ∨ j = 5 ∨ j = 6 ∨ j = 7 ∨ j = 8 ∨ j = 9 ∨ j = 10 ∨ j = 11 by omega) with rfl | rfl | rfl | rfl | rfl | rfl | rfl | rfl | rfl | rfl | rfl | rfl <;> rfl) (Nat.le_of_ble_eq_true rfl) (Nat.le_of_ble_eq_true rfl) dX9_init_16 (fun q16 H hP hD hS => ?_)
  have hP : va_P (dC, dI) vwCl ([(b, .inr (9, [.ref (qs9 0), .null, .null, .null, .null, .null, .int 0, .int 0, .int 0, .int 0, .int 0]))] ++ cs2 cI qs9 i2 ++ [(q16, .inr (3, [.null, .null, .null, .null, .int 0, .int 0, .null, .null, .null, .null, .null, .int 0]))] : va_W) H := hP
  have hD : va_D A ([(b, .inr (9, [.ref (qs9 0), .null, .null, .null, .null, .null, .int 0, .int 0, .int 0, .int 0, .int 0]))] ++ cs2 cI qs9 i2 ++ [(q16, .inr (3, [.null, .null, .null, .null, .int 0, .int 0, .null, .null, .null, .null, .null, .int 0]))] : va_W) := hD
  refine W.widen (k := 3) (n := 8616) (by decide) (by decide) ?_
  refine lv_dup hx hb dX9_init_19 rfl ?_
  refine cx_ic (rest := [.ref q16, .ref b]) ⟨hx, hb, hml, hown, hts⟩ hl.1 ok_sxE hE hK hP hD hS hA (show Cut ([(b, .inr (9, [.ref (qs9 0), .null, .null, .null, .null, .null, .int 0, .int 0, .int 0, .int 0, .int 0]))] ++ cs2 cI qs9 i2 ++ [(q16, .inr (3, [.null, .null, .null, .null, .int 0, .int 0, .null, .null, .null, .null, .null, .int 0]))] : va_W) [(q16, .inr (3, [.null, .null, .null, .null, .int 0, .int 0, .null, .null, .null, .null, .null, .int 0]))] (fun qs20 => cs3 cI qs20 i3) (fun qs20 => ([(b, .inr (9, [.ref (qs9 0), .null, .null, .null, .null, .null, .int 0, .int 0, .int 0, .int 0, .int 0]))] ++ cs2 cI qs9 i2 ++ cs3 cI qs20 i3 : va_W)) from ⟨[3], [0, 1, 2], rfl, rfl, rfl, by decide, by decide, fun _ => ⟨[0, 1, 2, 3, 4, 5, 6, 7, 8, 9, 10, 11, 12], rfl, rfl⟩⟩) (i_X3 (l := l) (dC := dC) (dI := dI) (cI := cI)) (cwI 0 hts gX9_init_X3_init rfl rfl rfl (hts _ kX9_init_10) (hts _ kX9_init_11) (hts _ kX9_init_12) rfl hdX3_init ⟨Nat.le_of_ble_eq_true rfl, Nat.le_of_ble_eq_true rfl⟩) (Nat.le_of_ble_eq_true rfl) dX9_init_20 rfl ⟨Nat.le_of_ble_eq_true rfl, Nat.le_of_ble_eq_true rfl⟩ (fun qs20 H locs hq20 hPn hDn hSn => ?_)
  have hq20 : q16 = qs20 0 := hq20.symm
  subst hq20
  have hP := hPn
  have hD := hDn
  have hS := hSn
  refine W.widen (k := 12) (n := 9320) (by decide) (by decide) ?_
  refine va_putF (D := (dC, dI)) (ci := 9) (v := .ref (qs20 0)) (ty := (.object "AheadStore$Pages")) (C := RX9) (T := TX9) (N := 11) hx hb hts inX9_init_9 tyX9 tyX9_ok nmX9 hown hK hP hD hS 0 rfl rfl 1 (by decide) (hts _ kX9_init_13) (fun _ h9 => h9) rfl hin rfl (tyX9_ok 1 (by decide)) rfl rfl (Nat.le_of_ble_eq_true rfl) dX9_init_23 (fun H locs hP hD hS => ?_)
  have hP : va_P (dC, dI) vwCl ([(b, .inr (9, [.ref (qs9 0), .ref (qs20 0), .null, .null, .null, .null, .int 0, .int 0, .int 0, .int 0, .int 0]))] ++ cs2 cI qs9 i2 ++ cs3 cI qs20 i3 : va_W) H := hP
  have hD : va_D A ([(b, .inr (9, [.ref (qs9 0), .ref (qs20 0), .null, .null, .null, .null, .int 0, .int 0, .int 0, .int 0, .int 0]))] ++ cs2 cI qs9 i2 ++ cs3 cI qs20 i3 : va_W) := hD
  refine lv_aload_n hx hb dX9_init_26 rfl (lv_at hl 0 rfl) ?_
  refine va_new (ci := 5) (fs := [.null, .null, .null]) (C := RX5) (T := TX5) (N := 3) hx hb hts inX9_init_5 tyX5 tyX5_ok hown (hts _ kX9_init_14) (hts _ kX9_init_15) (hts _ kX9_init_16) hK hP hD hS hA rfl (fun j hj => by rcases (show j = 0 ∨ j = 1 ∨ j = 2 by omega) with rfl | rfl | rfl <;> rfl) (Nat.le_of_ble_eq_true rfl) (Nat.le_of_ble_eq_true rfl) dX9_init_27 (fun q27 H hP hD hS => ?_)
  have hP : va_P (dC, dI) vwCl ([(b, .inr (9, [.ref (qs9 0), .ref (qs20 0), .null, .null, .null, .null, .int 0, .int 0, .int 0, .int 0, .int 0]))] ++ cs2 cI qs9 i2 ++ cs3 cI qs20 i3 ++ [(q27, .inr (5, [.null, .null, .null]))] : va_W) H := hP
  have hD : va_D A ([(b, .inr (9, [.ref (qs9 0), .ref (qs20 0), .null, .null, .null, .null, .int 0, .int 0, .int 0, .int 0, .int 0]))] ++ cs2 cI qs9 i2 ++ cs3 cI qs20 i3 ++ [(q27, .inr (5, [.null, .null, .null]))] : va_W) := hD
  refine W.widen (k := 13) (n := 9323) (by decide) (by decide) ?_
  refine lv_dup hx hb dX9_init_30 rfl ?_
  refine cx_nc (rest := [.ref q27, .ref b]) ⟨hx, hb, hml, hown, hts⟩ hl.1 ok_sxE hE hK hP hD hS hA (show Cut ([(b, .inr (9, [.ref (qs9 0), .ref (qs20 0), .null, .null, .null, .null, .int 0, .int 0, .int 0, .int 0, .int 0]))] ++ cs2 cI qs9 i2 ++ cs3 cI qs20 i3 ++ [(q27, .inr (5, [.null, .null, .null]))] : va_W) [(q27, .inr (5, [.null, .null, .null]))] (fun qs31 => cs5 cI qs31 i5) (fun qs31 => ([(b, .inr (9, [.ref (qs9 0), .ref (qs20 0), .null, .null, .null, .null, .int 0, .int 0, .int 0, .int 0, .int 0]))] ++ cs2 cI qs9 i2 ++ cs3 cI qs20 i3 ++ cs5 cI qs31 i5 : va_W)) from ⟨[13], [0, 1, 2, 3, 4, 5, 6, 7, 8, 9, 10, 11, 12], rfl, rfl, rfl, by decide, by decide, fun _ => ⟨[0, 1, 2, 3, 4, 5, 6, 7, 8, 9, 10, 11, 12, 13, 14, 15, 16], rfl, rfl⟩⟩) (i_X5 (l := l) (dC := dC) (dI := dI) (cI := cI)) ⟨va_cnB 0 hts gX9_init_X5_init_n27 rfl rfl rfl (hE.1.1 (RX9, 27, yX5_init, "AheadStore") (List.mem_of_getElem? (i := 10) rfl)) (hts _ kX9_init_16) hdX5_init ⟨Nat.le_of_ble_eq_true rfl, Nat.le_of_ble_eq_true rfl⟩, rfl, hts _ kX9_init_17⟩ (Nat.le_of_ble_eq_true rfl) dX9_init_31 rfl ⟨Nat.le_of_ble_eq_true rfl, Nat.le_of_ble_eq_true rfl⟩ (fun qs31 H locs hq31 hPn hDn hSn => ?_)
  have hq31 : q27 = qs31 0 := hq31.symm
  subst hq31
  have hP := hPn
  have hD := hDn
  have hS := hSn
  refine W.widen (k := 16) (n := 9353) (by decide) (by decide) ?_
  refine va_putF (D := (dC, dI)) (ci := 9) (v := .ref (qs31 0)) (ty := (.object "AheadStore$Roster")) (C := RX9) (T := TX9) (N := 11) hx hb hts inX9_init_9 tyX9 tyX9_ok nmX9 hown hK hP hD hS 0 rfl rfl 2 (by decide) (hts _ kX9_init_18) (fun _ h9 => h9) rfl hin rfl (tyX9_ok 2 (by decide)) rfl rfl (Nat.le_of_ble_eq_true rfl) dX9_init_34 (fun H locs hP hD hS => ?_)
  have hP : va_P (dC, dI) vwCl ([(b, .inr (9, [.ref (qs9 0), .ref (qs20 0), .ref (qs31 0), .null, .null, .null, .int 0, .int 0, .int 0, .int 0, .int 0]))] ++ cs2 cI qs9 i2 ++ cs3 cI qs20 i3 ++ cs5 cI qs31 i5 : va_W) H := hP
  have hD : va_D A ([(b, .inr (9, [.ref (qs9 0), .ref (qs20 0), .ref (qs31 0), .null, .null, .null, .int 0, .int 0, .int 0, .int 0, .int 0]))] ++ cs2 cI qs9 i2 ++ cs3 cI qs20 i3 ++ cs5 cI qs31 i5 : va_W) := hD
  refine lv_aload_n hx hb dX9_init_37 rfl (lv_at hl 0 rfl) ?_
  refine va_new (ci := 0) (fs := [.null, .null, .null, .null, .null, .null, .null]) (C := RX0) (T := TX0) (N := 7) hx hb hts inX9_init_0 tyX0 tyX0_ok hown (hts _ kX9_init_19) (hts _ kX9_init_20) (hts _ kX9_init_21) hK hP hD hS hA rfl (fun j hj => by rcases (show j = 0 ∨ j = 1 ∨ j = 2 ∨ j = 3 ∨ j = 4 ∨ j = 5 ∨ j = 6 by omega) with rfl | rfl | rfl | rfl | rfl | rfl | rfl <;> rfl) (Nat.le_of_ble_eq_true rfl) (Nat.le_of_ble_eq_true rfl) dX9_init_38 (fun q38 H hP hD hS => ?_)
  have hP : va_P (dC, dI) vwCl ([(b, .inr (9, [.ref (qs9 0), .ref (qs20 0), .ref (qs31 0), .null, .null, .null, .int 0, .int 0, .int 0, .int 0, .int 0]))] ++ cs2 cI qs9 i2 ++ cs3 cI qs20 i3 ++ cs5 cI qs31 i5 ++ [(q38, .inr (0, [.null, .null, .null, .null, .null, .null, .null]))] : va_W) H := hP
  have hD : va_D A ([(b, .inr (9, [.ref (qs9 0), .ref (qs20 0), .ref (qs31 0), .null, .null, .null, .int 0, .int 0, .int 0, .int 0, .int 0]))] ++ cs2 cI qs9 i2 ++ cs3 cI qs20 i3 ++ cs5 cI qs31 i5 ++ [(q38, .inr (0, [.null, .null, .null, .null, .null, .null, .null]))] : va_W) := hD
  refine W.widen (k := 17) (n := 9360) (by decide) (by decide) ?_
  refine lv_dup hx hb dX9_init_41 rfl ?_
  refine cx_nc (rest := [.ref q38, .ref b]) ⟨hx, hb, hml, hown, hts⟩ hl.1 ok_sxE hE hK hP hD hS hA (show Cut ([(b, .inr (9, [.ref (qs9 0), .ref (qs20 0), .ref (qs31 0), .null, .null, .null, .int 0, .int 0, .int 0, .int 0, .int 0]))] ++ cs2 cI qs9 i2 ++ cs3 cI qs20 i3 ++ cs5 cI qs31 i5 ++ [(q38, .inr (0, [.null, .null, .null, .null, .null, .null, .null]))] : va_W) [(q38, .inr (0, [.null, .null, .null, .null, .null, .null, .null]))] (fun qs42 => cs0 cI qs42 i0) (fun qs42 => ([(b, .inr (9, [.ref (qs9 0), .ref (qs20 0), .ref (qs31 0), .null, .null, .null, .int 0, .int 0, .int 0, .int 0, .int 0]))] ++ cs2 cI qs9 i2 ++ cs3 cI qs20 i3 ++ cs5 cI qs31 i5 ++ cs0 cI qs42 i0 : va_W)) from ⟨[17], [0, 1, 2, 3, 4, 5, 6, 7, 8, 9, 10, 11, 12, 13, 14, 15, 16], rfl, rfl, rfl, by decide, by decide, fun _ => ⟨[0, 1, 2, 3, 4, 5, 6, 7, 8, 9, 10, 11, 12, 13, 14, 15, 16, 17, 18, 19, 20, 21, 22, 23, 24], rfl, rfl⟩⟩) (i_X0 (l := l) (dC := dC) (dI := dI) (cI := cI)) ⟨va_cnB 0 hts gX9_init_X0_init_n34 rfl rfl rfl (hE.1.1 (RX9, 34, yX0_init, "AheadStore") (List.mem_of_getElem? (i := 11) rfl)) (hts _ kX9_init_21) hdX0_init ⟨Nat.le_of_ble_eq_true rfl, Nat.le_of_ble_eq_true rfl⟩, rfl, hts _ kX9_init_22⟩ (Nat.le_of_ble_eq_true rfl) dX9_init_42 rfl ⟨Nat.le_of_ble_eq_true rfl, Nat.le_of_ble_eq_true rfl⟩ (fun qs42 H locs hq42 hPn hDn hSn => ?_)
  have hq42 : q38 = qs42 0 := hq42.symm
  subst hq42
  have hP := hPn
  have hD := hDn
  have hS := hSn
  refine W.widen (k := 24) (n := 10022) (by decide) (by decide) ?_
  refine va_putF (D := (dC, dI)) (ci := 9) (v := .ref (qs42 0)) (ty := (.object "AheadStore$Claims")) (C := RX9) (T := TX9) (N := 11) hx hb hts inX9_init_9 tyX9 tyX9_ok nmX9 hown hK hP hD hS 0 rfl rfl 3 (by decide) (hts _ kX9_init_23) (fun _ h9 => h9) rfl hin rfl (tyX9_ok 3 (by decide)) rfl rfl (Nat.le_of_ble_eq_true rfl) dX9_init_45 (fun H locs hP hD hS => ?_)
  have hP : va_P (dC, dI) vwCl ([(b, .inr (9, [.ref (qs9 0), .ref (qs20 0), .ref (qs31 0), .ref (qs42 0), .null, .null, .int 0, .int 0, .int 0, .int 0, .int 0]))] ++ cs2 cI qs9 i2 ++ cs3 cI qs20 i3 ++ cs5 cI qs31 i5 ++ cs0 cI qs42 i0 : va_W) H := hP
  have hD : va_D A ([(b, .inr (9, [.ref (qs9 0), .ref (qs20 0), .ref (qs31 0), .ref (qs42 0), .null, .null, .int 0, .int 0, .int 0, .int 0, .int 0]))] ++ cs2 cI qs9 i2 ++ cs3 cI qs20 i3 ++ cs5 cI qs31 i5 ++ cs0 cI qs42 i0 : va_W) := hD
  refine lv_aload_n hx hb dX9_init_48 rfl (lv_at hl 0 rfl) ?_
  refine va_new (ci := 7) (fs := [.null, .null, .int 0, .int 0]) (C := RX7) (T := TX7) (N := 4) hx hb hts inX9_init_7 tyX7 tyX7_ok hown (hts _ kX9_init_24) (hts _ kX9_init_25) (hts _ kX9_init_26) hK hP hD hS hA rfl (fun j hj => by rcases (show j = 0 ∨ j = 1 ∨ j = 2 ∨ j = 3 by omega) with rfl | rfl | rfl | rfl <;> rfl) (Nat.le_of_ble_eq_true rfl) (Nat.le_of_ble_eq_true rfl) dX9_init_49 (fun q49 H hP hD hS => ?_)
  have hP : va_P (dC, dI) vwCl ([(b, .inr (9, [.ref (qs9 0), .ref (qs20 0), .ref (qs31 0), .ref (qs42 0), .null, .null, .int 0, .int 0, .int 0, .int 0, .int 0]))] ++ cs2 cI qs9 i2 ++ cs3 cI qs20 i3 ++ cs5 cI qs31 i5 ++ cs0 cI qs42 i0 ++ [(q49, .inr (7, [.null, .null, .int 0, .int 0]))] : va_W) H := hP
  have hD : va_D A ([(b, .inr (9, [.ref (qs9 0), .ref (qs20 0), .ref (qs31 0), .ref (qs42 0), .null, .null, .int 0, .int 0, .int 0, .int 0, .int 0]))] ++ cs2 cI qs9 i2 ++ cs3 cI qs20 i3 ++ cs5 cI qs31 i5 ++ cs0 cI qs42 i0 ++ [(q49, .inr (7, [.null, .null, .int 0, .int 0]))] : va_W) := hD
  refine W.widen (k := 25) (n := 10026) (by decide) (by decide) ?_
  refine lv_dup hx hb dX9_init_52 rfl ?_
  refine cx_nc (rest := [.ref q49, .ref b]) ⟨hx, hb, hml, hown, hts⟩ hl.1 ok_sxE hE hK hP hD hS hA (show Cut ([(b, .inr (9, [.ref (qs9 0), .ref (qs20 0), .ref (qs31 0), .ref (qs42 0), .null, .null, .int 0, .int 0, .int 0, .int 0, .int 0]))] ++ cs2 cI qs9 i2 ++ cs3 cI qs20 i3 ++ cs5 cI qs31 i5 ++ cs0 cI qs42 i0 ++ [(q49, .inr (7, [.null, .null, .int 0, .int 0]))] : va_W) [(q49, .inr (7, [.null, .null, .int 0, .int 0]))] (fun qs53 => cs7 cI qs53 i7) (fun qs53 => ([(b, .inr (9, [.ref (qs9 0), .ref (qs20 0), .ref (qs31 0), .ref (qs42 0), .null, .null, .int 0, .int 0, .int 0, .int 0, .int 0]))] ++ cs2 cI qs9 i2 ++ cs3 cI qs20 i3 ++ cs5 cI qs31 i5 ++ cs0 cI qs42 i0 ++ cs7 cI qs53 i7 : va_W)) from ⟨[25], [0, 1, 2, 3, 4, 5, 6, 7, 8, 9, 10, 11, 12, 13, 14, 15, 16, 17, 18, 19, 20, 21, 22, 23, 24], rfl, rfl, rfl, by decide, by decide, fun _ => ⟨[0, 1, 2, 3, 4, 5, 6, 7, 8, 9, 10, 11, 12, 13, 14, 15, 16, 17, 18, 19, 20, 21, 22, 23, 24, 25, 26, 27], rfl, rfl⟩⟩) (i_X7 (l := l) (dC := dC) (dI := dI) (cI := cI)) ⟨va_cnB 0 hts gX9_init_X7_init_n41 rfl rfl rfl (hE.1.1 (RX9, 41, yX7_init, "AheadStore") (List.mem_of_getElem? (i := 12) rfl)) (hts _ kX9_init_26) hdX7_init ⟨Nat.le_of_ble_eq_true rfl, Nat.le_of_ble_eq_true rfl⟩, rfl, hts _ kX9_init_27⟩ (Nat.le_of_ble_eq_true rfl) dX9_init_53 rfl ⟨Nat.le_of_ble_eq_true rfl, Nat.le_of_ble_eq_true rfl⟩ (fun qs53 H locs hq53 hPn hDn hSn => ?_)
  have hq53 : q49 = qs53 0 := hq53.symm
  subst hq53
  have hP := hPn
  have hD := hDn
  have hS := hSn
  refine W.widen (k := 27) (n := 10298) (by decide) (by decide) ?_
  refine va_putF (D := (dC, dI)) (ci := 9) (v := .ref (qs53 0)) (ty := (.object "AheadStore$Standby")) (C := RX9) (T := TX9) (N := 11) hx hb hts inX9_init_9 tyX9 tyX9_ok nmX9 hown hK hP hD hS 0 rfl rfl 4 (by decide) (hts _ kX9_init_28) (fun _ h9 => h9) rfl hin rfl (tyX9_ok 4 (by decide)) rfl rfl (Nat.le_of_ble_eq_true rfl) dX9_init_56 (fun H locs hP hD hS => ?_)
  have hP : va_P (dC, dI) vwCl ([(b, .inr (9, [.ref (qs9 0), .ref (qs20 0), .ref (qs31 0), .ref (qs42 0), .ref (qs53 0), .null, .int 0, .int 0, .int 0, .int 0, .int 0]))] ++ cs2 cI qs9 i2 ++ cs3 cI qs20 i3 ++ cs5 cI qs31 i5 ++ cs0 cI qs42 i0 ++ cs7 cI qs53 i7 : va_W) H := hP
  have hD : va_D A ([(b, .inr (9, [.ref (qs9 0), .ref (qs20 0), .ref (qs31 0), .ref (qs42 0), .ref (qs53 0), .null, .int 0, .int 0, .int 0, .int 0, .int 0]))] ++ cs2 cI qs9 i2 ++ cs3 cI qs20 i3 ++ cs5 cI qs31 i5 ++ cs0 cI qs42 i0 ++ cs7 cI qs53 i7 : va_W) := hD
  refine lv_aload_n hx hb dX9_init_59 rfl (lv_at hl 0 rfl) ?_
  refine va_new (ci := 6) (fs := [.null, .int 0, .int 0]) (C := RX6) (T := TX6) (N := 3) hx hb hts inX9_init_6 tyX6 tyX6_ok hown (hts _ kX9_init_29) (hts _ kX9_init_30) (hts _ kX9_init_31) hK hP hD hS hA rfl (fun j hj => by rcases (show j = 0 ∨ j = 1 ∨ j = 2 by omega) with rfl | rfl | rfl <;> rfl) (Nat.le_of_ble_eq_true rfl) (Nat.le_of_ble_eq_true rfl) dX9_init_60 (fun q60 H hP hD hS => ?_)
  have hP : va_P (dC, dI) vwCl ([(b, .inr (9, [.ref (qs9 0), .ref (qs20 0), .ref (qs31 0), .ref (qs42 0), .ref (qs53 0), .null, .int 0, .int 0, .int 0, .int 0, .int 0]))] ++ cs2 cI qs9 i2 ++ cs3 cI qs20 i3 ++ cs5 cI qs31 i5 ++ cs0 cI qs42 i0 ++ cs7 cI qs53 i7 ++ [(q60, .inr (6, [.null, .int 0, .int 0]))] : va_W) H := hP
  have hD : va_D A ([(b, .inr (9, [.ref (qs9 0), .ref (qs20 0), .ref (qs31 0), .ref (qs42 0), .ref (qs53 0), .null, .int 0, .int 0, .int 0, .int 0, .int 0]))] ++ cs2 cI qs9 i2 ++ cs3 cI qs20 i3 ++ cs5 cI qs31 i5 ++ cs0 cI qs42 i0 ++ cs7 cI qs53 i7 ++ [(q60, .inr (6, [.null, .int 0, .int 0]))] : va_W) := hD
  refine W.widen (k := 28) (n := 10301) (by decide) (by decide) ?_
  refine lv_dup hx hb dX9_init_63 rfl ?_
  refine cx_nc (rest := [.ref q60, .ref b]) ⟨hx, hb, hml, hown, hts⟩ hl.1 ok_sxE hE hK hP hD hS hA (show Cut ([(b, .inr (9, [.ref (qs9 0), .ref (qs20 0), .ref (qs31 0), .ref (qs42 0), .ref (qs53 0), .null, .int 0, .int 0, .int 0, .int 0, .int 0]))] ++ cs2 cI qs9 i2 ++ cs3 cI qs20 i3 ++ cs5 cI qs31 i5 ++ cs0 cI qs42 i0 ++ cs7 cI qs53 i7 ++ [(q60, .inr (6, [.null, .int 0, .int 0]))] : va_W) [(q60, .inr (6, [.null, .int 0, .int 0]))] (fun qs64 => cs6 cI qs64 i6) (fun qs64 => ([(b, .inr (9, [.ref (qs9 0), .ref (qs20 0), .ref (qs31 0), .ref (qs42 0), .ref (qs53 0), .null, .int 0, .int 0, .int 0, .int 0, .int 0]))] ++ cs2 cI qs9 i2 ++ cs3 cI qs20 i3 ++ cs5 cI qs31 i5 ++ cs0 cI qs42 i0 ++ cs7 cI qs53 i7 ++ cs6 cI qs64 i6 : va_W)) from ⟨[28], [0, 1, 2, 3, 4, 5, 6, 7, 8, 9, 10, 11, 12, 13, 14, 15, 16, 17, 18, 19, 20, 21, 22, 23, 24, 25, 26, 27], rfl, rfl, rfl, by decide, by decide, fun _ => ⟨[0, 1, 2, 3, 4, 5, 6, 7, 8, 9, 10, 11, 12, 13, 14, 15, 16, 17, 18, 19, 20, 21, 22, 23, 24, 25, 26, 27, 28, 29], rfl, rfl⟩⟩) (i_X6 (l := l) (dC := dC) (dI := dI) (cI := cI)) ⟨va_cnB 0 hts gX9_init_X6_init_n48 rfl rfl rfl (hE.1.1 (RX9, 48, yX6_init, "AheadStore") (List.mem_of_getElem? (i := 13) rfl)) (hts _ kX9_init_31) hdX6_init ⟨Nat.le_of_ble_eq_true rfl, Nat.le_of_ble_eq_true rfl⟩, rfl, hts _ kX9_init_32⟩ (Nat.le_of_ble_eq_true rfl) dX9_init_64 rfl ⟨Nat.le_of_ble_eq_true rfl, Nat.le_of_ble_eq_true rfl⟩ (fun qs64 H locs hq64 hPn hDn hSn => ?_)
  have hq64 : q60 = qs64 0 := hq64.symm
  subst hq64
  have hP := hPn
  have hD := hDn
  have hS := hSn
  refine W.widen (k := 29) (n := 10397) (by decide) (by decide) ?_
  refine va_putF (D := (dC, dI)) (ci := 9) (v := .ref (qs64 0)) (ty := (.object "AheadStore$Script")) (C := RX9) (T := TX9) (N := 11) hx hb hts inX9_init_9 tyX9 tyX9_ok nmX9 hown hK hP hD hS 0 rfl rfl 5 (by decide) (hts _ kX9_init_33) (fun _ h9 => h9) rfl hin rfl (tyX9_ok 5 (by decide)) rfl rfl (Nat.le_of_ble_eq_true rfl) dX9_init_67 (fun H locs hP hD hS => ?_)
  have hP : va_P (dC, dI) vwCl ([(b, .inr (9, [.ref (qs9 0), .ref (qs20 0), .ref (qs31 0), .ref (qs42 0), .ref (qs53 0), .ref (qs64 0), .int 0, .int 0, .int 0, .int 0, .int 0]))] ++ cs2 cI qs9 i2 ++ cs3 cI qs20 i3 ++ cs5 cI qs31 i5 ++ cs0 cI qs42 i0 ++ cs7 cI qs53 i7 ++ cs6 cI qs64 i6 : va_W) H := hP
  have hD : va_D A ([(b, .inr (9, [.ref (qs9 0), .ref (qs20 0), .ref (qs31 0), .ref (qs42 0), .ref (qs53 0), .ref (qs64 0), .int 0, .int 0, .int 0, .int 0, .int 0]))] ++ cs2 cI qs9 i2 ++ cs3 cI qs20 i3 ++ cs5 cI qs31 i5 ++ cs0 cI qs42 i0 ++ cs7 cI qs53 i7 ++ cs6 cI qs64 i6 : va_W) := hD
  refine lv_aload_n hx hb dX9_init_70 rfl (lv_at hl 0 rfl) ?_
  refine lv_iconst (v := 1) hx hb dX9_init_71 (by decide) ?_
  refine va_put (D := (dC, dI)) (ci := 9) (v := .int 1) (ty := .boolean) (C := RX9) (T := TX9) (N := 11) hx hb hts inX9_init_9 tyX9 tyX9_ok nmX9 hown hK hP hD hS 0 rfl rfl 6 (by decide) (hts _ kX9_init_34) (fun _ h9 => h9) rfl (tyX9_ok 6 (by decide)) (by decide) (by decide) (Nat.le_of_ble_eq_true rfl) dX9_init_72 (fun H locs hP hD hS => ?_)
  have hP : va_P (dC, dI) vwCl ([(b, .inr (9, [.ref (qs9 0), .ref (qs20 0), .ref (qs31 0), .ref (qs42 0), .ref (qs53 0), .ref (qs64 0), .int 1, .int 0, .int 0, .int 0, .int 0]))] ++ cs2 cI qs9 i2 ++ cs3 cI qs20 i3 ++ cs5 cI qs31 i5 ++ cs0 cI qs42 i0 ++ cs7 cI qs53 i7 ++ cs6 cI qs64 i6 : va_W) H := hP
  have hD : va_D A ([(b, .inr (9, [.ref (qs9 0), .ref (qs20 0), .ref (qs31 0), .ref (qs42 0), .ref (qs53 0), .ref (qs64 0), .int 1, .int 0, .int 0, .int 0, .int 0]))] ++ cs2 cI qs9 i2 ++ cs3 cI qs20 i3 ++ cs5 cI qs31 i5 ++ cs0 cI qs42 i0 ++ cs7 cI qs53 i7 ++ cs6 cI qs64 i6 : va_W) := hD
  refine lv_aload_n hx hb dX9_init_75 rfl (lv_at hl 0 rfl) ?_
  refine lv_iconst (v := 0) hx hb dX9_init_76 (by decide) ?_
  refine va_put (D := (dC, dI)) (ci := 9) (v := .int 0) (ty := .int) (C := RX9) (T := TX9) (N := 11) hx hb hts inX9_init_9 tyX9 tyX9_ok nmX9 hown hK hP hD hS 0 rfl rfl 7 (by decide) (hts _ kX9_init_35) (fun _ h9 => h9) rfl (tyX9_ok 7 (by decide)) rfl rfl (Nat.le_of_ble_eq_true rfl) dX9_init_77 (fun H locs hP hD hS => ?_)
  have hP : va_P (dC, dI) vwCl ([(b, .inr (9, [.ref (qs9 0), .ref (qs20 0), .ref (qs31 0), .ref (qs42 0), .ref (qs53 0), .ref (qs64 0), .int 1, .int 0, .int 0, .int 0, .int 0]))] ++ cs2 cI qs9 i2 ++ cs3 cI qs20 i3 ++ cs5 cI qs31 i5 ++ cs0 cI qs42 i0 ++ cs7 cI qs53 i7 ++ cs6 cI qs64 i6 : va_W) H := hP
  have hD : va_D A ([(b, .inr (9, [.ref (qs9 0), .ref (qs20 0), .ref (qs31 0), .ref (qs42 0), .ref (qs53 0), .ref (qs64 0), .int 1, .int 0, .int 0, .int 0, .int 0]))] ++ cs2 cI qs9 i2 ++ cs3 cI qs20 i3 ++ cs5 cI qs31 i5 ++ cs0 cI qs42 i0 ++ cs7 cI qs53 i7 ++ cs6 cI qs64 i6 : va_W) := hD
  refine lv_aload_n hx hb dX9_init_80 rfl (lv_at hl 0 rfl) ?_
  refine lv_iconst (v := 0) hx hb dX9_init_81 (by decide) ?_
  refine va_put (D := (dC, dI)) (ci := 9) (v := .int 0) (ty := .int) (C := RX9) (T := TX9) (N := 11) hx hb hts inX9_init_9 tyX9 tyX9_ok nmX9 hown hK hP hD hS 0 rfl rfl 8 (by decide) (hts _ kX9_init_36) (fun _ h9 => h9) rfl (tyX9_ok 8 (by decide)) rfl rfl (Nat.le_of_ble_eq_true rfl) dX9_init_82 (fun H locs hP hD hS => ?_)
  have hP : va_P (dC, dI) vwCl ([(b, .inr (9, [.ref (qs9 0), .ref (qs20 0), .ref (qs31 0), .ref (qs42 0), .ref (qs53 0), .ref (qs64 0), .int 1, .int 0, .int 0, .int 0, .int 0]))] ++ cs2 cI qs9 i2 ++ cs3 cI qs20 i3 ++ cs5 cI qs31 i5 ++ cs0 cI qs42 i0 ++ cs7 cI qs53 i7 ++ cs6 cI qs64 i6 : va_W) H := hP
  have hD : va_D A ([(b, .inr (9, [.ref (qs9 0), .ref (qs20 0), .ref (qs31 0), .ref (qs42 0), .ref (qs53 0), .ref (qs64 0), .int 1, .int 0, .int 0, .int 0, .int 0]))] ++ cs2 cI qs9 i2 ++ cs3 cI qs20 i3 ++ cs5 cI qs31 i5 ++ cs0 cI qs42 i0 ++ cs7 cI qs53 i7 ++ cs6 cI qs64 i6 : va_W) := hD
  refine lv_aload_n hx hb dX9_init_85 rfl (lv_at hl 0 rfl) ?_
  refine lv_iconst (v := 0) hx hb dX9_init_86 (by decide) ?_
  refine va_put (D := (dC, dI)) (ci := 9) (v := .int 0) (ty := .int) (C := RX9) (T := TX9) (N := 11) hx hb hts inX9_init_9 tyX9 tyX9_ok nmX9 hown hK hP hD hS 0 rfl rfl 9 (by decide) (hts _ kX9_init_37) (fun _ h9 => h9) rfl (tyX9_ok 9 (by decide)) rfl rfl (Nat.le_of_ble_eq_true rfl) dX9_init_87 (fun H locs hP hD hS => ?_)
  have hP : va_P (dC, dI) vwCl ([(b, .inr (9, [.ref (qs9 0), .ref (qs20 0), .ref (qs31 0), .ref (qs42 0), .ref (qs53 0), .ref (qs64 0), .int 1, .int 0, .int 0, .int 0, .int 0]))] ++ cs2 cI qs9 i2 ++ cs3 cI qs20 i3 ++ cs5 cI qs31 i5 ++ cs0 cI qs42 i0 ++ cs7 cI qs53 i7 ++ cs6 cI qs64 i6 : va_W) H := hP
  have hD : va_D A ([(b, .inr (9, [.ref (qs9 0), .ref (qs20 0), .ref (qs31 0), .ref (qs42 0), .ref (qs53 0), .ref (qs64 0), .int 1, .int 0, .int 0, .int 0, .int 0]))] ++ cs2 cI qs9 i2 ++ cs3 cI qs20 i3 ++ cs5 cI qs31 i5 ++ cs0 cI qs42 i0 ++ cs7 cI qs53 i7 ++ cs6 cI qs64 i6 : va_W) := hD
  refine lv_aload_n hx hb dX9_init_90 rfl (lv_at hl 0 rfl) ?_
  refine lv_iconst (v := 0) hx hb dX9_init_91 (by decide) ?_
  refine va_put (D := (dC, dI)) (ci := 9) (v := .int 0) (ty := .int) (C := RX9) (T := TX9) (N := 11) hx hb hts inX9_init_9 tyX9 tyX9_ok nmX9 hown hK hP hD hS 0 rfl rfl 10 (by decide) (hts _ kX9_init_38) (fun _ h9 => h9) rfl (tyX9_ok 10 (by decide)) rfl rfl (Nat.le_of_ble_eq_true rfl) dX9_init_92 (fun H locs hP hD hS => ?_)
  have hP : va_P (dC, dI) vwCl ([(b, .inr (9, [.ref (qs9 0), .ref (qs20 0), .ref (qs31 0), .ref (qs42 0), .ref (qs53 0), .ref (qs64 0), .int 1, .int 0, .int 0, .int 0, .int 0]))] ++ cs2 cI qs9 i2 ++ cs3 cI qs20 i3 ++ cs5 cI qs31 i5 ++ cs0 cI qs42 i0 ++ cs7 cI qs53 i7 ++ cs6 cI qs64 i6 : va_W) H := hP
  have hD : va_D A ([(b, .inr (9, [.ref (qs9 0), .ref (qs20 0), .ref (qs31 0), .ref (qs42 0), .ref (qs53 0), .ref (qs64 0), .int 1, .int 0, .int 0, .int 0, .int 0]))] ++ cs2 cI qs9 i2 ++ cs3 cI qs20 i3 ++ cs5 cI qs31 i5 ++ cs0 cI qs42 i0 ++ cs7 cI qs53 i7 ++ cs6 cI qs64 i6 : va_W) := hD
  have hP9 : va_P (dC, dI) vwCl (cs9 cI (fun i => [b, qs9 0, qs9 1, qs20 0, qs20 1, qs20 2, qs20 3, qs20 4, qs20 5, qs20 6, qs20 7, qs20 8, qs20 9, qs31 0, qs31 1, qs31 2, qs31 3, qs42 0, qs42 1, qs42 2, qs42 3, qs42 4, qs42 5, qs42 6, qs42 7, qs53 0, qs53 1, qs53 2, qs64 0, qs64 1].getD i 0) i9) H := hP.sub [0, 1, 2, 3, 4, 5, 6, 7, 8, 9, 10, 11, 12, 13, 14, 15, 16, 17, 18, 19, 20, 21, 22, 23, 24, 25, 26, 27, 28, 29] rfl
  have hD9 : va_D A (cs9 cI (fun i => [b, qs9 0, qs9 1, qs20 0, qs20 1, qs20 2, qs20 3, qs20 4, qs20 5, qs20 6, qs20 7, qs20 8, qs20 9, qs31 0, qs31 1, qs31 2, qs31 3, qs42 0, qs42 1, qs42 2, qs42 3, qs42 4, qs42 5, qs42 6, qs42 7, qs53 0, qs53 1, qs53 2, qs64 0, qs64 1].getD i 0) i9) := hD.sub [0, 1, 2, 3, 4, 5, 6, 7, 8, 9, 10, 11, 12, 13, 14, 15, 16, 17, 18, 19, 20, 21, 22, 23, 24, 25, 26, 27, 28, 29] (by decide) rfl
  exact hret _ _ _ _ (fun i => [b, qs9 0, qs9 1, qs20 0, qs20 1, qs20 2, qs20 3, qs20 4, qs20 5, qs20 6, qs20 7, qs20 8, qs20 9, qs31 0, qs31 1, qs31 2, qs31 3, qs42 0, qs42 1, qs42 2, qs42 3, qs42 4, qs42 5, qs42 6, qs42 7, qs53 0, qs53 1, qs53 2, qs64 0, qs64 1].getD i 0) dX9_init_95 rfl hP9 hD9 hS

def i10 : S10 := (i9, i8, i4, i1, none, none)
abbrev rX10_init : Room := { frames := 3, cells := 41, slots := 10973, locals := 63 }
theorem hdX10_init : yX10_init.cls ≠ "java/lang/invoke/MethodHandle" ∧ yX10_init.cls ≠ "java/lang/invoke/VarHandle" ∧ (parseMethodDescriptor yX10_init.desc).map (fun d => d.parameters.length) = some 0 := by decide +kernel
theorem inX10_init_1 : ∀ w ∈ wsX10, w ∈ wsX10_init := by decide +kernel
theorem inX10_init_10 : ∀ w ∈ wsX100, w ∈ wsX10_init := by decide +kernel
theorem inX10_init_4 : ∀ w ∈ wsX40, w ∈ wsX10_init := by decide +kernel
theorem inX10_init_8 : ∀ w ∈ wsX80, w ∈ wsX10_init := by decide +kernel
theorem inX10_init_9 : ∀ w ∈ wsX90, w ∈ wsX10_init := by decide +kernel
theorem kX10_init_0 : Cond.methodLink RX10 1 objectInit ∈ wsX10_init := by decide +kernel
theorem kX10_init_1 : Cond.instanceMethod objectInit ∈ wsX10_init := by decide +kernel
theorem kX10_init_2 : Cond.code objectInit ⟨#[0xb1]⟩ 1 none ∈ wsX10_init := by decide +kernel
theorem kX10_init_3 : Cond.classLink RX10 7 RX9 ∈ wsX10_init := by decide +kernel
theorem kX10_init_4 : Cond.instantiable RX9 11 ∈ wsX10_init := by decide +kernel
theorem kX10_init_5 : Cond.initialized RX9 ∈ wsX10_init := by decide +kernel
theorem kX10_init_6 : Cond.instanceMethod yX9_init ∈ wsX10_init := by decide +kernel
theorem kX10_init_7 : Cond.fieldLink RX10 10 "AheadStore" "now" "LAheadStore$World;" ∈ wsX10_init := by decide +kernel
theorem kX10_init_8 : Cond.classLink RX10 16 RX8 ∈ wsX10_init := by decide +kernel
theorem kX10_init_9 : Cond.instantiable RX8 9 ∈ wsX10_init := by decide +kernel
theorem kX10_init_10 : Cond.initialized RX8 ∈ wsX10_init := by decide +kernel
theorem kX10_init_11 : Cond.instanceMethod yX8_init ∈ wsX10_init := by decide +kernel
theorem kX10_init_12 : Cond.fieldLink RX10 19 "AheadStore" "tape" "LAheadStore$Tape;" ∈ wsX10_init := by decide +kernel
theorem kX10_init_13 : Cond.classLink RX10 23 RX4 ∈ wsX10_init := by decide +kernel
theorem kX10_init_14 : Cond.instantiable RX4 7 ∈ wsX10_init := by decide +kernel
theorem kX10_init_15 : Cond.initialized RX4 ∈ wsX10_init := by decide +kernel
theorem kX10_init_16 : Cond.instanceMethod yX4_init ∈ wsX10_init := by decide +kernel
theorem kX10_init_17 : Cond.fieldLink RX10 26 "AheadStore" "recovery" "LAheadStore$Recovery;" ∈ wsX10_init := by decide +kernel
theorem kX10_init_18 : Cond.classLink RX10 30 RX1 ∈ wsX10_init := by decide +kernel
theorem kX10_init_19 : Cond.instantiable RX1 1 ∈ wsX10_init := by decide +kernel
theorem kX10_init_20 : Cond.initialized RX1 ∈ wsX10_init := by decide +kernel
theorem kX10_init_21 : Cond.instanceMethod yX1_init ∈ wsX10_init := by decide +kernel
theorem kX10_init_22 : Cond.fieldLink RX10 33 "AheadStore" "hindsight" "LAheadStore$Hindsight;" ∈ wsX10_init := by decide +kernel
set_option maxHeartbeats 4000000 in
set_option maxRecDepth 100000 in
theorem i_X10 {l : Launch} {dC : Nat → ClassId} {dI : Nat → Nat → Nat} {cI : ClassId} {b sz : Nat} : ctC sxE l yX10_init wsX10_init rX10_init (dC, dI) vwCl [(cI, .int)] b [(b, .inr (10, [.null, .null, .null, .null, .null, .null]))] sz 41 10973 (fun q => cs10 cI q i10) := by
  refine mx_c (cc := cX10_init) (maxL := 1) (by decide) rfl rfl (Nat.le_of_ble_eq_true rfl) ?_
  intro p e s m below meth c Z A ls args hx hb hml hown hts hA hP hK hD hE hl hin hret
  have hown : s.vm.findClass RX10 = some m.cls := hown
  have hS : va_S A s.heap s.heap [] := va_S.rf
  refine lv_aload_n hx hb dX10_init_0 rfl (lv_at hl 0 rfl) ?_
  refine W.objInit hx hb hown (hts _ kX10_init_0) (hts _ kX10_init_1) (hts _ kX10_init_2) rfl (by rw [hml]; exact hl.1) rfl dX10_init_1 (Nat.le_of_ble_eq_true rfl) (Nat.le_of_ble_eq_true rfl) ?_
  refine W.eq (g2 := F0 m 4 ls []) rfl ?_
  refine lv_aload_n hx hb dX10_init_4 rfl (lv_at hl 0 rfl) ?_
  refine va_new (ci := 9) (fs := [.null, .null, .null, .null, .null, .null, .int 0, .int 0, .int 0, .int 0, .int 0]) (C := RX9) (T := TX9) (N := 11) hx hb hts inX10_init_9 tyX9 tyX9_ok hown (hts _ kX10_init_3) (hts _ kX10_init_4) (hts _ kX10_init_5) hK hP hD hS hA rfl (fun j hj => by rcases (show j = 0 ∨ j = 1 ∨ j = 2 ∨ j = 3 ∨ j = 4 ∨ j = 5 ∨ j = 6 ∨ j = 7 ∨ j = 8 ∨ j = 9 ∨ j = 10 by omega) with rfl | rfl | rfl | rfl | rfl | rfl | rfl | rfl | rfl | rfl | rfl <;> rfl) (Nat.le_of_ble_eq_true rfl) (Nat.le_of_ble_eq_true rfl) dX10_init_5 (fun q5 H hP hD hS => ?_)
  have hP : va_P (dC, dI) vwCl ([(b, .inr (10, [.null, .null, .null, .null, .null, .null])), (q5, .inr (9, [.null, .null, .null, .null, .null, .null, .int 0, .int 0, .int 0, .int 0, .int 0]))] : va_W) H := hP
  have hD : va_D A ([(b, .inr (10, [.null, .null, .null, .null, .null, .null])), (q5, .inr (9, [.null, .null, .null, .null, .null, .null, .int 0, .int 0, .int 0, .int 0, .int 0]))] : va_W) := hD
  refine W.widen (k := 1) (n := 11) (by decide) (by decide) ?_
  refine lv_dup hx hb dX10_init_8 rfl ?_
  refine cx_nc (rest := [.ref q5, .ref b]) ⟨hx, hb, hml, hown, hts⟩ hl.1 ok_sxE hE hK hP hD hS hA (show Cut ([(b, .inr (10, [.null, .null, .null, .null, .null, .null])), (q5, .inr (9, [.null, .null, .null, .null, .null, .null, .int 0, .int 0, .int 0, .int 0, .int 0]))] : va_W) [(q5, .inr (9, [.null, .null, .null, .null, .null, .null, .int 0, .int 0, .int 0, .int 0, .int 0]))] (fun qs9 => cs9 cI qs9 i9) (fun qs9 => ([(b, .inr (10, [.null, .null, .null, .null, .null, .null]))] ++ cs9 cI qs9 i9 : va_W)) from ⟨[1], [0], rfl, rfl, rfl, by decide, by decide, fun _ => ⟨[0, 1, 2, 3, 4, 5, 6, 7, 8, 9, 10, 11, 12, 13, 14, 15, 16, 17, 18, 19, 20, 21, 22, 23, 24, 25, 26, 27, 28, 29, 30], rfl, rfl⟩⟩) (i_X9 (l := l) (dC := dC) (dI := dI) (cI := cI)) ⟨va_cnB 0 hts gX10_init_X9_init_n9 rfl rfl rfl (hE.1.1 (RX10, 9, yX9_init, "AheadStore") (List.mem_of_getElem? (i := 1) rfl)) (hts _ kX10_init_5) hdX9_init ⟨Nat.le_of_ble_eq_true rfl, Nat.le_of_ble_eq_true rfl⟩, rfl, hts _ kX10_init_6⟩ (Nat.le_of_ble_eq_true rfl) dX10_init_9 rfl ⟨Nat.le_of_ble_eq_true rfl, Nat.le_of_ble_eq_true rfl⟩ (fun qs9 H locs hq9 hPn hDn hSn => ?_)
  have hq9 : q5 = qs9 0 := hq9.symm
  subst hq9
  have hP := hPn
  have hD := hDn
  have hS := hSn
  refine W.widen (k := 30) (n := 10408) (by decide) (by decide) ?_
  refine va_putF (D := (dC, dI)) (ci := 10) (v := .ref (qs9 0)) (ty := (.object "AheadStore$World")) (C := RX10) (T := TX10) (N := 6) hx hb hts inX10_init_10 tyX10 tyX10_ok nmX10 hown hK hP hD hS 0 rfl rfl 0 (by decide) (hts _ kX10_init_7) (fun _ h9 => h9) rfl hin rfl (tyX10_ok 0 (by decide)) rfl rfl (Nat.le_of_ble_eq_true rfl) dX10_init_12 (fun H locs hP hD hS => ?_)
  have hP : va_P (dC, dI) vwCl ([(b, .inr (10, [.ref (qs9 0), .null, .null, .null, .null, .null]))] ++ cs9 cI qs9 i9 : va_W) H := hP
  have hD : va_D A ([(b, .inr (10, [.ref (qs9 0), .null, .null, .null, .null, .null]))] ++ cs9 cI qs9 i9 : va_W) := hD
  refine lv_aload_n hx hb dX10_init_15 rfl (lv_at hl 0 rfl) ?_
  refine va_new (ci := 8) (fs := [.null, .int 0, .int 0, .int 0, .null, .int 0, .int 0, .int 0, .int 0]) (C := RX8) (T := TX8) (N := 9) hx hb hts inX10_init_8 tyX8 tyX8_ok hown (hts _ kX10_init_8) (hts _ kX10_init_9) (hts _ kX10_init_10) hK hP hD hS hA rfl (fun j hj => by rcases (show j = 0 ∨ j = 1 ∨ j = 2 ∨ j = 3 ∨ j = 4 ∨ j = 5 ∨ j = 6 ∨ j = 7 ∨ j = 8 by omega) with rfl | rfl | rfl | rfl | rfl | rfl | rfl | rfl | rfl <;> rfl) (Nat.le_of_ble_eq_true rfl) (Nat.le_of_ble_eq_true rfl) dX10_init_16 (fun q16 H hP hD hS => ?_)
  have hP : va_P (dC, dI) vwCl ([(b, .inr (10, [.ref (qs9 0), .null, .null, .null, .null, .null]))] ++ cs9 cI qs9 i9 ++ [(q16, .inr (8, [.null, .int 0, .int 0, .int 0, .null, .int 0, .int 0, .int 0, .int 0]))] : va_W) H := hP
  have hD : va_D A ([(b, .inr (10, [.ref (qs9 0), .null, .null, .null, .null, .null]))] ++ cs9 cI qs9 i9 ++ [(q16, .inr (8, [.null, .int 0, .int 0, .int 0, .null, .int 0, .int 0, .int 0, .int 0]))] : va_W) := hD
  refine W.widen (k := 31) (n := 10417) (by decide) (by decide) ?_
  refine lv_dup hx hb dX10_init_19 rfl ?_
  refine cx_nc (rest := [.ref q16, .ref b]) ⟨hx, hb, hml, hown, hts⟩ hl.1 ok_sxE hE hK hP hD hS hA (show Cut ([(b, .inr (10, [.ref (qs9 0), .null, .null, .null, .null, .null]))] ++ cs9 cI qs9 i9 ++ [(q16, .inr (8, [.null, .int 0, .int 0, .int 0, .null, .int 0, .int 0, .int 0, .int 0]))] : va_W) [(q16, .inr (8, [.null, .int 0, .int 0, .int 0, .null, .int 0, .int 0, .int 0, .int 0]))] (fun qs20 => cs8 cI qs20 i8) (fun qs20 => ([(b, .inr (10, [.ref (qs9 0), .null, .null, .null, .null, .null]))] ++ cs9 cI qs9 i9 ++ cs8 cI qs20 i8 : va_W)) from ⟨[31], [0, 1, 2, 3, 4, 5, 6, 7, 8, 9, 10, 11, 12, 13, 14, 15, 16, 17, 18, 19, 20, 21, 22, 23, 24, 25, 26, 27, 28, 29, 30], rfl, rfl, rfl, by decide, by decide, fun _ => ⟨[0, 1, 2, 3, 4, 5, 6, 7, 8, 9, 10, 11, 12, 13, 14, 15, 16, 17, 18, 19, 20, 21, 22, 23, 24, 25, 26, 27, 28, 29, 30, 31, 32, 33, 34], rfl, rfl⟩⟩) (i_X8 (l := l) (dC := dC) (dI := dI) (cI := cI)) ⟨va_cnB 0 hts gX10_init_X8_init_n18 rfl rfl rfl (hE.1.1 (RX10, 18, yX8_init, "AheadStore") (List.mem_of_getElem? (i := 2) rfl)) (hts _ kX10_init_10) hdX8_init ⟨Nat.le_of_ble_eq_true rfl, Nat.le_of_ble_eq_true rfl⟩, rfl, hts _ kX10_init_11⟩ (Nat.le_of_ble_eq_true rfl) dX10_init_20 rfl ⟨Nat.le_of_ble_eq_true rfl, Nat.le_of_ble_eq_true rfl⟩ (fun qs20 H locs hq20 hPn hDn hSn => ?_)
  have hq20 : q16 = qs20 0 := hq20.symm
  subst hq20
  have hP := hPn
  have hD := hDn
  have hS := hSn
  refine W.widen (k := 34) (n := 10916) (by decide) (by decide) ?_
  refine va_putF (D := (dC, dI)) (ci := 10) (v := .ref (qs20 0)) (ty := (.object "AheadStore$Tape")) (C := RX10) (T := TX10) (N := 6) hx hb hts inX10_init_10 tyX10 tyX10_ok nmX10 hown hK hP hD hS 0 rfl rfl 1 (by decide) (hts _ kX10_init_12) (fun _ h9 => h9) rfl hin rfl (tyX10_ok 1 (by decide)) rfl rfl (Nat.le_of_ble_eq_true rfl) dX10_init_23 (fun H locs hP hD hS => ?_)
  have hP : va_P (dC, dI) vwCl ([(b, .inr (10, [.ref (qs9 0), .ref (qs20 0), .null, .null, .null, .null]))] ++ cs9 cI qs9 i9 ++ cs8 cI qs20 i8 : va_W) H := hP
  have hD : va_D A ([(b, .inr (10, [.ref (qs9 0), .ref (qs20 0), .null, .null, .null, .null]))] ++ cs9 cI qs9 i9 ++ cs8 cI qs20 i8 : va_W) := hD
  refine lv_aload_n hx hb dX10_init_26 rfl (lv_at hl 0 rfl) ?_
  refine va_new (ci := 4) (fs := [.null, .int 0, .int 0, .int 0, .int 0, .int 0, .int 0]) (C := RX4) (T := TX4) (N := 7) hx hb hts inX10_init_4 tyX4 tyX4_ok hown (hts _ kX10_init_13) (hts _ kX10_init_14) (hts _ kX10_init_15) hK hP hD hS hA rfl (fun j hj => by rcases (show j = 0 ∨ j = 1 ∨ j = 2 ∨ j = 3 ∨ j = 4 ∨ j = 5 ∨ j = 6 by omega) with rfl | rfl | rfl | rfl | rfl | rfl | rfl <;> rfl) (Nat.le_of_ble_eq_true rfl) (Nat.le_of_ble_eq_true rfl) dX10_init_27 (fun q27 H hP hD hS => ?_)
  have hP : va_P (dC, dI) vwCl ([(b, .inr (10, [.ref (qs9 0), .ref (qs20 0), .null, .null, .null, .null]))] ++ cs9 cI qs9 i9 ++ cs8 cI qs20 i8 ++ [(q27, .inr (4, [.null, .int 0, .int 0, .int 0, .int 0, .int 0, .int 0]))] : va_W) H := hP
  have hD : va_D A ([(b, .inr (10, [.ref (qs9 0), .ref (qs20 0), .null, .null, .null, .null]))] ++ cs9 cI qs9 i9 ++ cs8 cI qs20 i8 ++ [(q27, .inr (4, [.null, .int 0, .int 0, .int 0, .int 0, .int 0, .int 0]))] : va_W) := hD
  refine W.widen (k := 35) (n := 10923) (by decide) (by decide) ?_
  refine lv_dup hx hb dX10_init_30 rfl ?_
  refine cx_nc (rest := [.ref q27, .ref b]) ⟨hx, hb, hml, hown, hts⟩ hl.1 ok_sxE hE hK hP hD hS hA (show Cut ([(b, .inr (10, [.ref (qs9 0), .ref (qs20 0), .null, .null, .null, .null]))] ++ cs9 cI qs9 i9 ++ cs8 cI qs20 i8 ++ [(q27, .inr (4, [.null, .int 0, .int 0, .int 0, .int 0, .int 0, .int 0]))] : va_W) [(q27, .inr (4, [.null, .int 0, .int 0, .int 0, .int 0, .int 0, .int 0]))] (fun qs31 => cs4 cI qs31 i4) (fun qs31 => ([(b, .inr (10, [.ref (qs9 0), .ref (qs20 0), .null, .null, .null, .null]))] ++ cs9 cI qs9 i9 ++ cs8 cI qs20 i8 ++ cs4 cI qs31 i4 : va_W)) from ⟨[35], [0, 1, 2, 3, 4, 5, 6, 7, 8, 9, 10, 11, 12, 13, 14, 15, 16, 17, 18, 19, 20, 21, 22, 23, 24, 25, 26, 27, 28, 29, 30, 31, 32, 33, 34], rfl, rfl, rfl, by decide, by decide, fun _ => ⟨[0, 1, 2, 3, 4, 5, 6, 7, 8, 9, 10, 11, 12, 13, 14, 15, 16, 17, 18, 19, 20, 21, 22, 23, 24, 25, 26, 27, 28, 29, 30, 31, 32, 33, 34, 35, 36], rfl, rfl⟩⟩) (i_X4 (l := l) (dC := dC) (dI := dI) (cI := cI)) ⟨va_cnB 0 hts gX10_init_X4_init_n25 rfl rfl rfl (hE.1.1 (RX10, 25, yX4_init, "AheadStore") (List.mem_of_getElem? (i := 3) rfl)) (hts _ kX10_init_15) hdX4_init ⟨Nat.le_of_ble_eq_true rfl, Nat.le_of_ble_eq_true rfl⟩, rfl, hts _ kX10_init_16⟩ (Nat.le_of_ble_eq_true rfl) dX10_init_31 rfl ⟨Nat.le_of_ble_eq_true rfl, Nat.le_of_ble_eq_true rfl⟩ (fun qs31 H locs hq31 hPn hDn hSn => ?_)
  have hq31 : q27 = qs31 0 := hq31.symm
  subst hq31
  have hP := hPn
  have hD := hDn
  have hS := hSn
  refine W.widen (k := 36) (n := 10939) (by decide) (by decide) ?_
  refine va_putF (D := (dC, dI)) (ci := 10) (v := .ref (qs31 0)) (ty := (.object "AheadStore$Recovery")) (C := RX10) (T := TX10) (N := 6) hx hb hts inX10_init_10 tyX10 tyX10_ok nmX10 hown hK hP hD hS 0 rfl rfl 2 (by decide) (hts _ kX10_init_17) (fun _ h9 => h9) rfl hin rfl (tyX10_ok 2 (by decide)) rfl rfl (Nat.le_of_ble_eq_true rfl) dX10_init_34 (fun H locs hP hD hS => ?_)
  have hP : va_P (dC, dI) vwCl ([(b, .inr (10, [.ref (qs9 0), .ref (qs20 0), .ref (qs31 0), .null, .null, .null]))] ++ cs9 cI qs9 i9 ++ cs8 cI qs20 i8 ++ cs4 cI qs31 i4 : va_W) H := hP
  have hD : va_D A ([(b, .inr (10, [.ref (qs9 0), .ref (qs20 0), .ref (qs31 0), .null, .null, .null]))] ++ cs9 cI qs9 i9 ++ cs8 cI qs20 i8 ++ cs4 cI qs31 i4 : va_W) := hD
  refine lv_aload_n hx hb dX10_init_37 rfl (lv_at hl 0 rfl) ?_
  refine va_new (ci := 1) (fs := [.null]) (C := RX1) (T := TX1) (N := 1) hx hb hts inX10_init_1 tyX1 tyX1_ok hown (hts _ kX10_init_18) (hts _ kX10_init_19) (hts _ kX10_init_20) hK hP hD hS hA rfl (fun j hj => by rcases (show j = 0 by omega) with rfl <;> rfl) (Nat.le_of_ble_eq_true rfl) (Nat.le_of_ble_eq_true rfl) dX10_init_38 (fun q38 H hP hD hS => ?_)
  have hP : va_P (dC, dI) vwCl ([(b, .inr (10, [.ref (qs9 0), .ref (qs20 0), .ref (qs31 0), .null, .null, .null]))] ++ cs9 cI qs9 i9 ++ cs8 cI qs20 i8 ++ cs4 cI qs31 i4 ++ [(q38, .inr (1, [.null]))] : va_W) H := hP
  have hD : va_D A ([(b, .inr (10, [.ref (qs9 0), .ref (qs20 0), .ref (qs31 0), .null, .null, .null]))] ++ cs9 cI qs9 i9 ++ cs8 cI qs20 i8 ++ cs4 cI qs31 i4 ++ [(q38, .inr (1, [.null]))] : va_W) := hD
  refine W.widen (k := 37) (n := 10940) (by decide) (by decide) ?_
  refine lv_dup hx hb dX10_init_41 rfl ?_
  refine cx_nc (rest := [.ref q38, .ref b]) ⟨hx, hb, hml, hown, hts⟩ hl.1 ok_sxE hE hK hP hD hS hA (show Cut ([(b, .inr (10, [.ref (qs9 0), .ref (qs20 0), .ref (qs31 0), .null, .null, .null]))] ++ cs9 cI qs9 i9 ++ cs8 cI qs20 i8 ++ cs4 cI qs31 i4 ++ [(q38, .inr (1, [.null]))] : va_W) [(q38, .inr (1, [.null]))] (fun qs42 => cs1 cI qs42 i1) (fun qs42 => ([(b, .inr (10, [.ref (qs9 0), .ref (qs20 0), .ref (qs31 0), .null, .null, .null]))] ++ cs9 cI qs9 i9 ++ cs8 cI qs20 i8 ++ cs4 cI qs31 i4 ++ cs1 cI qs42 i1 : va_W)) from ⟨[37], [0, 1, 2, 3, 4, 5, 6, 7, 8, 9, 10, 11, 12, 13, 14, 15, 16, 17, 18, 19, 20, 21, 22, 23, 24, 25, 26, 27, 28, 29, 30, 31, 32, 33, 34, 35, 36], rfl, rfl, rfl, by decide, by decide, fun _ => ⟨[0, 1, 2, 3, 4, 5, 6, 7, 8, 9, 10, 11, 12, 13, 14, 15, 16, 17, 18, 19, 20, 21, 22, 23, 24, 25, 26, 27, 28, 29, 30, 31, 32, 33, 34, 35, 36, 37, 38, 39, 40, 41], rfl, rfl⟩⟩) (i_X1 (l := l) (dC := dC) (dI := dI) (cI := cI)) ⟨va_cnB 0 hts gX10_init_X1_init_n32 rfl rfl rfl (hE.1.1 (RX10, 32, yX1_init, "AheadStore") (List.mem_of_getElem? (i := 4) rfl)) (hts _ kX10_init_20) hdX1_init ⟨Nat.le_of_ble_eq_true rfl, Nat.le_of_ble_eq_true rfl⟩, rfl, hts _ kX10_init_21⟩ (Nat.le_of_ble_eq_true rfl) dX10_init_42 rfl ⟨Nat.le_of_ble_eq_true rfl, Nat.le_of_ble_eq_true rfl⟩ (fun qs42 H locs hq42 hPn hDn hSn => ?_)
  have hq42 : q38 = qs42 0 := hq42.symm
  subst hq42
  have hP := hPn
  have hD := hDn
  have hS := hSn
  refine W.widen (k := 41) (n := 10973) (by decide) (by decide) ?_
  refine va_putF (D := (dC, dI)) (ci := 10) (v := .ref (qs42 0)) (ty := (.object "AheadStore$Hindsight")) (C := RX10) (T := TX10) (N := 6) hx hb hts inX10_init_10 tyX10 tyX10_ok nmX10 hown hK hP hD hS 0 rfl rfl 3 (by decide) (hts _ kX10_init_22) (fun _ h9 => h9) rfl hin rfl (tyX10_ok 3 (by decide)) rfl rfl (Nat.le_of_ble_eq_true rfl) dX10_init_45 (fun H locs hP hD hS => ?_)
  have hP : va_P (dC, dI) vwCl ([(b, .inr (10, [.ref (qs9 0), .ref (qs20 0), .ref (qs31 0), .ref (qs42 0), .null, .null]))] ++ cs9 cI qs9 i9 ++ cs8 cI qs20 i8 ++ cs4 cI qs31 i4 ++ cs1 cI qs42 i1 : va_W) H := hP
  have hD : va_D A ([(b, .inr (10, [.ref (qs9 0), .ref (qs20 0), .ref (qs31 0), .ref (qs42 0), .null, .null]))] ++ cs9 cI qs9 i9 ++ cs8 cI qs20 i8 ++ cs4 cI qs31 i4 ++ cs1 cI qs42 i1 : va_W) := hD
  have hP9 : va_P (dC, dI) vwCl (cs10 cI (fun i => [b, qs9 0, qs9 1, qs9 2, qs9 3, qs9 4, qs9 5, qs9 6, qs9 7, qs9 8, qs9 9, qs9 10, qs9 11, qs9 12, qs9 13, qs9 14, qs9 15, qs9 16, qs9 17, qs9 18, qs9 19, qs9 20, qs9 21, qs9 22, qs9 23, qs9 24, qs9 25, qs9 26, qs9 27, qs9 28, qs9 29, qs20 0, qs20 1, qs20 2, qs20 3, qs31 0, qs31 1, qs42 0, qs42 1, qs42 2, qs42 3, qs42 4].getD i 0) i10) H := hP.sub [0, 1, 2, 3, 4, 5, 6, 7, 8, 9, 10, 11, 12, 13, 14, 15, 16, 17, 18, 19, 20, 21, 22, 23, 24, 25, 26, 27, 28, 29, 30, 31, 32, 33, 34, 35, 36, 37, 38, 39, 40, 41] rfl
  have hD9 : va_D A (cs10 cI (fun i => [b, qs9 0, qs9 1, qs9 2, qs9 3, qs9 4, qs9 5, qs9 6, qs9 7, qs9 8, qs9 9, qs9 10, qs9 11, qs9 12, qs9 13, qs9 14, qs9 15, qs9 16, qs9 17, qs9 18, qs9 19, qs9 20, qs9 21, qs9 22, qs9 23, qs9 24, qs9 25, qs9 26, qs9 27, qs9 28, qs9 29, qs20 0, qs20 1, qs20 2, qs20 3, qs31 0, qs31 1, qs42 0, qs42 1, qs42 2, qs42 3, qs42 4].getD i 0) i10) := hD.sub [0, 1, 2, 3, 4, 5, 6, 7, 8, 9, 10, 11, 12, 13, 14, 15, 16, 17, 18, 19, 20, 21, 22, 23, 24, 25, 26, 27, 28, 29, 30, 31, 32, 33, 34, 35, 36, 37, 38, 39, 40, 41] (by decide) rfl
  exact hret _ _ _ _ (fun i => [b, qs9 0, qs9 1, qs9 2, qs9 3, qs9 4, qs9 5, qs9 6, qs9 7, qs9 8, qs9 9, qs9 10, qs9 11, qs9 12, qs9 13, qs9 14, qs9 15, qs9 16, qs9 17, qs9 18, qs9 19, qs9 20, qs9 21, qs9 22, qs9 23, qs9 24, qs9 25, qs9 26, qs9 27, qs9 28, qs9 29, qs20 0, qs20 1, qs20 2, qs20 3, qs31 0, qs31 1, qs42 0, qs42 1, qs42 2, qs42 3, qs42 4].getD i 0) dX10_init_48 rfl hP9 hD9 hS
