/-! ===== what a contract is here: a method's start, its end, and how a call goes, once for all ===== -/
/-- what a method takes along of its surroundings (statics): kept by a call, by what is written elsewhere -/
def okE (E : (Nat → Prop) → State → Prop) : Prop := (∀ (A : Nat → Prop) (a : Array Value) (U : State) (g : JFrame) (mk : MethodId), E A U → E A (U.calling g mk a)) ∧ ∀ (A B : Nat → Prop) (s U : State), E A s → s.WarmedH U.vm → (∀ q : Nat, q < s.heap.size → ¬ A q → U.heap[q]? = s.heap[q]?) → (∀ q, B q → A q) → E B U
def noE : (Nat → Prop) → State → Prop := fun _ _ => True
theorem ok_noE : okE noE := ⟨fun _ _ _ _ _ _ => trivial, fun _ _ _ _ _ _ _ _ => trivial⟩
def pcE (E : (Nat → Prop) → State → Prop) (D : va_G) (cl : List vw_C) (tys : List (ClassId × FieldType)) (av : List Value) (ws0 : va_W) (sz : Nat) : Array Value → State → Prop := va_Pc av (fun U => U.heap.size = sz ∧ va_P D cl ws0 U.heap ∧ va_K D cl tys U ∧ va_D (fun _ => True) ws0 ∧ E (va_A ws0 sz) U)
def bqE (D : va_G) (cl : List vw_C) (tys : List (ClassId × FieldType)) (A : Nat → Prop) {S : Type} (cf : S → va_W) (u : S) (t : State) : Prop := va_P D cl (cf u) t.heap ∧ va_K D cl tys t ∧ va_D A (cf u)
def ctI (E : (Nat → Prop) → State → Prop) (l : Launch) (y : MethodName) (ws : List Cond) (rm : Room) (D : va_G) (cl : List vw_C) (tys : List (ClassId × FieldType)) (av : List Value) (ws0 : va_W) (sz : Nat) {S : Type} (post : Int32 → S → Prop) (cf : S → va_W) : Prop := Met l y ws rm (pcE E D cl tys av ws0 sz) (va_Qi post (bqE D cl tys (va_A ws0 sz) cf) (va_A ws0 sz)) 0 0 (va_A ws0 sz)
def ctV (E : (Nat → Prop) → State → Prop) (l : Launch) (y : MethodName) (ws : List Cond) (rm : Room) (D : va_G) (cl : List vw_C) (tys : List (ClassId × FieldType)) (av : List Value) (ws0 : va_W) (sz : Nat) {S : Type} (post : S → Prop) (cf : S → va_W) : Prop := Met l y ws rm (pcE E D cl tys av ws0 sz) (va_Qv post (bqE D cl tys (va_A ws0 sz) cf) (va_A ws0 sz)) 0 0 (va_A ws0 sz)
theorem pcE_blind {E : (Nat → Prop) → State → Prop} {D : va_G} {cl : List vw_C} {tys : List (ClassId × FieldType)} {av : List Value} {ws0 : va_W} {sz : Nat} (hE : okE E) : FrameBlind (pcE E D cl tys av ws0 sz) := fun a U g mk q => by
  obtain ⟨q0, q1, qP, qK, qD, qE⟩ := q
  exact ⟨q0, q1, qP, va_K.moved (u := U) (U := U.calling g mk a) (Vm.Alike.refl U.vm) qK, qD, hE.1 _ a U g mk qE⟩
theorem va_P.subM {D : va_G} {cl : List vw_C} {ws ws' : va_W} {H : Heap} (h : va_P D cl ws H) (is : List Nat) (hs : is.map (fun i => ws[i]?) = ws'.map some) : va_P D cl ws' H := by
  intro k q hq
  have h1 : (is.map (fun i => ws[i]?))[k]? = some (some q) := by rw [hs, List.getElem?_map, hq]; rfl
  rw [List.getElem?_map] at h1
  cases hi : is[k]? with
  | none => rw [hi] at h1; cases h1
  | some i => rw [hi] at h1; exact h i q (Option.some.inj h1)
/-- a method's contract, of one that answers a number, out of the walk of its body -/
theorem mx_i {S : Type} {E : (Nat → Prop) → State → Prop} {l : Launch} {y : MethodName} {ws ws' : List Cond} {rm : Room} {D : va_G} {cl : List vw_C} {tys : List (ClassId × FieldType)} {cc : ByteArray} {maxL : Nat} {ty : FieldType} {av : List Value} {ws0 : va_W} {sz : Nat} {post : Int32 → S → Prop} {cf : S → va_W}
    (hy : plainName y.cls = true) (hw : ws = Cond.code y cc maxL (some ty) :: ws') (hlen : (lg_sl av).length ≤ maxL)
    (body : ∀ (p : Program) (e : Env) (s : State) (m : MethodId) (below : List Frame) (meth : Method) (c : Code) (Z : State → Prop) (A : Nat → Prop) (ls : Array Slot) (args : Array Value), p.tables.exec = Jvm.exec → c.code = cc → c.maxLocals = maxL → s.vm.findClass y.cls = some m.cls → (∀ w ∈ ws, w.before args s = true) → (∀ q : Nat, s.heap.size ≤ q → A q) → va_P D cl ws0 s.heap → va_K D cl tys s → va_D A ws0 → E A s → lv_has ls maxL (lv_args 0 av) →
      (∀ (H : Heap) (locs : List Loc) (ls : Array Slot) (pc : Nat) (v : Int32) (u : S), decode cc pc = .ok (.ireturn, 1) → narrow ty (.int v) = .int v → post v u → va_P D cl (cf u) H → va_D A (cf u) → va_S A s.heap H locs → W p l e rm s m args below meth c H locs 0 0 Z (F0 m pc ls [.int v])) →
      W p l e rm s m args below meth c s.heap [] 0 0 Z (F0 m 0 ls [])) : ctI E l y ws rm D cl tys av ws0 sz post cf := by
  refine Met.ofW (cc := cc) (maxL := maxL) (ret := some ty) hy hw ?_
  intro p e s m args below meth c s₁ B hml hv
  obtain ⟨rfl, hsz, hP, hK, hD0, hE⟩ := hv
  subst hsz
  rw [lg_entry_eq]
  have hl := lv_entry av (n := maxL) hlen
  refine body p e s m below meth c _ (va_A ws0 s.heap.size) _ _ B.exec B.bytes hml (findClass_of_methodNamed B.named) (atoms_spec (ws := ws) B.pre) (fun q h => Or.inr h) hP hK hD0.self hE hl ?_
  intro H locs ls pc v u hdg hn hp hP1 hD1 hS
  exact W.zret B.exec B.bytes B.returns hn (fun t ht hW => ⟨⟨v, u, rfl, hp, by rw [ht]; exact hP1, va_K.moved hW.alike hK, hD1⟩, hS.F ht⟩) hS.2.2 hdg
/-- the same of one that answers nothing -/
theorem mx_v {S : Type} {E : (Nat → Prop) → State → Prop} {l : Launch} {y : MethodName} {ws ws' : List Cond} {rm : Room} {D : va_G} {cl : List vw_C} {tys : List (ClassId × FieldType)} {cc : ByteArray} {maxL : Nat} {av : List Value} {ws0 : va_W} {sz : Nat} {post : S → Prop} {cf : S → va_W}
    (hy : plainName y.cls = true) (hw : ws = Cond.code y cc maxL none :: ws') (hlen : (lg_sl av).length ≤ maxL)
    (body : ∀ (p : Program) (e : Env) (s : State) (m : MethodId) (below : List Frame) (meth : Method) (c : Code) (Z : State → Prop) (A : Nat → Prop) (ls : Array Slot) (args : Array Value), p.tables.exec = Jvm.exec → c.code = cc → c.maxLocals = maxL → s.vm.findClass y.cls = some m.cls → (∀ w ∈ ws, w.before args s = true) → (∀ q : Nat, s.heap.size ≤ q → A q) → va_P D cl ws0 s.heap → va_K D cl tys s → va_D A ws0 → E A s → lv_has ls maxL (lv_args 0 av) →
      (∀ (H : Heap) (locs : List Loc) (ls : Array Slot) (pc : Nat) (u : S), decode cc pc = .ok (.return_, 1) → post u → va_P D cl (cf u) H → va_D A (cf u) → va_S A s.heap H locs → W p l e rm s m args below meth c H locs 0 0 Z (F0 m pc ls [])) →
      W p l e rm s m args below meth c s.heap [] 0 0 Z (F0 m 0 ls [])) : ctV E l y ws rm D cl tys av ws0 sz post cf := by
  refine Met.ofW (cc := cc) (maxL := maxL) (ret := none) hy hw ?_
  intro p e s m args below meth c s₁ B hml hv
  obtain ⟨rfl, hsz, hP, hK, hD0, hE⟩ := hv
  subst hsz
  rw [lg_entry_eq]
  have hl := lv_entry av (n := maxL) hlen
  refine body p e s m below meth c _ (va_A ws0 s.heap.size) _ _ B.exec B.bytes hml (findClass_of_methodNamed B.named) (atoms_spec (ws := ws) B.pre) (fun q h => Or.inr h) hP hK hD0.self hE hl ?_
  intro H locs ls pc u hdg hp hP1 hD1 hS
  exact W.vret B.exec B.bytes B.returns (fun t ht hW => ⟨⟨u, rfl, hp, by rw [ht]; exact hP1, va_K.moved hW.alike hK, hD1⟩, hS.F ht⟩) hS.2.2 hdg
/-- how a callee's cells lie among the caller's, and how they come back -/
def Cut (ws wc : va_W) {S : Type} (cf cw : S → va_W) : Prop := ∃ isC isR : List Nat, isC.map (fun i => ws[i]?) = wc.map some ∧ isR.map (fun i => ws[i]?) = (isR.filterMap (fun i => ws[i]?)).map some ∧ va_nd isC = true ∧ va_nd isR = true ∧ (∀ i ∈ isR, i ∉ isC) ∧ ∀ v : S, ∃ is : List Nat, va_nd is = true ∧ is.map (fun i => (isR.filterMap (fun i => ws[i]?) ++ cf v)[i]?) = (cw v).map some
section CX
variable {p : Program} {l : Launch} {e : Env} {R : Room} {s : State} {m : MethodId} {args : Array Value} {below : List Frame} {meth : Method} {c : Code} {H : Heap} {locs : List Loc} {Z : State → Prop}
variable {pc : Nat} {ls : Array Slot} {rest st0 : List Value} {A : Nat → Prop}
variable {y : MethodName} {bytes cc : ByteArray} {maxL nL n index : Nat} {ret : Option FieldType} {wsy : List Cond} {rmy : Room} {Ts : List Cond} {own C host : String} {b : Addr} {As : List Value}
variable {D : va_G} {cl : List vw_C} {tys : List (ClassId × FieldType)} {ws wc wr : va_W} {E : (Nat → Prop) → State → Prop}
theorem cx_pre (hE : okE E) (hes : E A s) (hK : va_K D cl tys s) (hP : va_P D cl ws H) (hD : va_D A ws) (hS : va_S A s.heap H locs) (hA : ∀ q : Nat, s.heap.size ≤ q → A q) (isC : List Nat) (hC : isC.map (fun i => ws[i]?) = wc.map some) (hnC : va_nd isC = true) (av : List Value) :
    ∀ U : State, U.heap = H → s.WarmedH U.vm → pcE E D cl tys av wc H.size av.toArray U := fun U hU hW => by
  have hF := va_free (wc := wc) hD hS hA isC hC
  exact ⟨rfl, by rw [hU], by rw [hU]; exact hP.subM isC hC, va_K.moved hW.alike hK, (hD.sub isC hnC hC).weaken (fun _ _ _ _ => trivial), hE.2 A _ s U hes hW (fun q h1 h2 => by rw [hU]; exact hS.2.1 q h1 h2) hF⟩
/-- a call of a method of an object, that answers a number -/
theorem cx_vi {S : Type} {post : Int32 → S → Prop} {cf cw : S → va_W} (X : CallFix p m c cc nL s args Ts own) (hsize : ls.size = nL) (hE : okE E) (hes : E A s) (hK : va_K D cl tys s) (hP : va_P D cl ws H) (hD : va_D A ws) (hS : va_S A s.heap H locs) (hA : ∀ q : Nat, s.heap.size ≤ q → A q)
    (hcut : Cut ws wc cf cw)
    (hM : ctI E l y wsy rmy D cl tys (.ref b :: As) wc H.size post cf) (cll : CallW R s args own C index y bytes maxL ret wsy rmy 0 0 n) {ci : Nat} {fs : List Value} {qc : vw_C} (hc : cl[ci]? = some qc) (hqc : qc.1 = C) (he : wc[0]? = some (b, .inr (ci, fs)))
    (hn : As.length = n) (hroom : (rest.map fun v => v.category).sum ≤ 8) (hdg : decode cc pc = .ok (.invokevirtual index, 3)) (hst : st0 = As.reverse ++ .ref b :: rest)
    (kk : ∀ (r : Int32) (u : S) (H1 : Heap) (locs1 : List Loc), post r u → va_P D cl (cw u) H1 → va_D A (cw u) → va_S A s.heap H1 locs1 → W p l e R s m args below meth c H1 locs1 0 0 Z (F0 m (pc + 3) ls (.int r :: rest))) : W p l e R s m args below meth c H locs 0 0 Z (F0 m pc ls st0) := by
  obtain ⟨isC, isR, hC, hR, hnC, hnR, hdis, hj⟩ := hcut
  have hF := va_free (wc := wc) hD hS hA isC hC
  have hPc := hP.subM isC hC
  subst hqc
  refine va_calli (va_runV (As := As) (rest := rest) X hM cll ⟨pcE_blind hE, va_recv hK hPc hc he, cx_pre hE hes hK hP hD hS hA isC hC hnC _⟩ rfl hn hsize hst (lv_room hroom) hdg ⟨Nat.zero_le _, Nat.zero_le _⟩) hS (fun q _ h => hF q h) hF (fun r u t H1 locs1 ht hvm hw hB hz1 hk1 hS1 => ?_)
  obtain ⟨hP1, hK1, hD1⟩ := hB
  rw [ht] at hP1
  obtain ⟨hP2, hD2⟩ := va_join hP hD isC isR hC hR hnR hdis hk1 hF hP1 hD1
  obtain ⟨is, hi1, hi2⟩ := hj u
  exact kk r u H1 locs1 hw (hP2.subM is hi2) (hD2.sub is hi1 hi2) hS1
/-- .. that answers nothing -/
theorem cx_vv {S : Type} {post : S → Prop} {cf cw : S → va_W} (X : CallFix p m c cc nL s args Ts own) (hsize : ls.size = nL) (hE : okE E) (hes : E A s) (hK : va_K D cl tys s) (hP : va_P D cl ws H) (hD : va_D A ws) (hS : va_S A s.heap H locs) (hA : ∀ q : Nat, s.heap.size ≤ q → A q)
    (hcut : Cut ws wc cf cw)
    (hM : ctV E l y wsy rmy D cl tys (.ref b :: As) wc H.size post cf) (cll : CallW R s args own C index y bytes maxL ret wsy rmy 0 0 n) {ci : Nat} {fs : List Value} {qc : vw_C} (hc : cl[ci]? = some qc) (hqc : qc.1 = C) (he : wc[0]? = some (b, .inr (ci, fs)))
    (hn : As.length = n) (hroom : (rest.map fun v => v.category).sum ≤ 8) (hdg : decode cc pc = .ok (.invokevirtual index, 3)) (hst : st0 = As.reverse ++ .ref b :: rest)
    (kk : ∀ (u : S) (H1 : Heap) (locs1 : List Loc), post u → va_P D cl (cw u) H1 → va_D A (cw u) → va_S A s.heap H1 locs1 → W p l e R s m args below meth c H1 locs1 0 0 Z (F0 m (pc + 3) ls rest)) : W p l e R s m args below meth c H locs 0 0 Z (F0 m pc ls st0) := by
  obtain ⟨isC, isR, hC, hR, hnC, hnR, hdis, hj⟩ := hcut
  have hF := va_free (wc := wc) hD hS hA isC hC
  have hPc := hP.subM isC hC
  subst hqc
  refine va_callv (va_runV (As := As) (rest := rest) X hM cll ⟨pcE_blind hE, va_recv hK hPc hc he, cx_pre hE hes hK hP hD hS hA isC hC hnC _⟩ rfl hn hsize hst (lv_room hroom) hdg ⟨Nat.zero_le _, Nat.zero_le _⟩) hS (fun q _ h => hF q h) hF (fun u t H1 locs1 ht hvm hw hB hz1 hk1 hS1 => ?_)
  obtain ⟨hP1, hK1, hD1⟩ := hB
  rw [ht] at hP1
  obtain ⟨hP2, hD2⟩ := va_join hP hD isC isR hC hR hnR hdis hk1 hF hP1 hD1
  obtain ⟨is, hi1, hi2⟩ := hj u
  exact kk u H1 locs1 hw (hP2.subM is hi2) (hD2.sub is hi1 hi2) hS1
/-- a call of a static method of the same class, or of the JDK -/
theorem cx_si {S : Type} {post : Int32 → S → Prop} {cf cw : S → va_W} (X : CallFix p m c cc nL s args Ts own) (hsize : ls.size = nL) (hE : okE E) (hes : E A s) (hK : va_K D cl tys s) (hP : va_P D cl ws H) (hD : va_D A ws) (hS : va_S A s.heap H locs) (hA : ∀ q : Nat, s.heap.size ≤ q → A q)
    (hcut : Cut ws wc cf cw)
    (hM : ctI E l y wsy rmy D cl tys As wc H.size post cf) (cll : CallB R s args own index y bytes maxL ret wsy rmy 0 0 n ∧ (Cond.static y).before args s = true)
    (hn : As.length = n) (hroom : (rest.map fun v => v.category).sum ≤ 8) (hdg : decode cc pc = .ok (.invokestatic index, 3)) (hst : st0 = As.reverse ++ rest)
    (kk : ∀ (r : Int32) (u : S) (H1 : Heap) (locs1 : List Loc), post r u → va_P D cl (cw u) H1 → va_D A (cw u) → va_S A s.heap H1 locs1 → W p l e R s m args below meth c H1 locs1 0 0 Z (F0 m (pc + 3) ls (.int r :: rest))) : W p l e R s m args below meth c H locs 0 0 Z (F0 m pc ls st0) := by
  obtain ⟨isC, isR, hC, hR, hnC, hnR, hdis, hj⟩ := hcut
  have hF := va_free (wc := wc) hD hS hA isC hC
  refine va_calli (va_runS (As := As) (rest := rest) X hM cll ⟨pcE_blind hE, cx_pre hE hes hK hP hD hS hA isC hC hnC _⟩ rfl hn hsize hst (lv_room hroom) hdg ⟨Nat.zero_le _, Nat.zero_le _⟩) hS (fun q _ h => hF q h) hF (fun r u t H1 locs1 ht hvm hw hB hz1 hk1 hS1 => ?_)
  obtain ⟨hP1, hK1, hD1⟩ := hB
  rw [ht] at hP1
  obtain ⟨hP2, hD2⟩ := va_join hP hD isC isR hC hR hnR hdis hk1 hF hP1 hD1
  obtain ⟨is, hi1, hi2⟩ := hj u
  exact kk r u H1 locs1 hw (hP2.subM is hi2) (hD2.sub is hi1 hi2) hS1
theorem cx_sv {S : Type} {post : S → Prop} {cf cw : S → va_W} (X : CallFix p m c cc nL s args Ts own) (hsize : ls.size = nL) (hE : okE E) (hes : E A s) (hK : va_K D cl tys s) (hP : va_P D cl ws H) (hD : va_D A ws) (hS : va_S A s.heap H locs) (hA : ∀ q : Nat, s.heap.size ≤ q → A q)
    (hcut : Cut ws wc cf cw)
    (hM : ctV E l y wsy rmy D cl tys As wc H.size post cf) (cll : CallB R s args own index y bytes maxL ret wsy rmy 0 0 n ∧ (Cond.static y).before args s = true)
    (hn : As.length = n) (hroom : (rest.map fun v => v.category).sum ≤ 8) (hdg : decode cc pc = .ok (.invokestatic index, 3)) (hst : st0 = As.reverse ++ rest)
    (kk : ∀ (u : S) (H1 : Heap) (locs1 : List Loc), post u → va_P D cl (cw u) H1 → va_D A (cw u) → va_S A s.heap H1 locs1 → W p l e R s m args below meth c H1 locs1 0 0 Z (F0 m (pc + 3) ls rest)) : W p l e R s m args below meth c H locs 0 0 Z (F0 m pc ls st0) := by
  obtain ⟨isC, isR, hC, hR, hnC, hnR, hdis, hj⟩ := hcut
  have hF := va_free (wc := wc) hD hS hA isC hC
  refine va_callv (va_runS (As := As) (rest := rest) X hM cll ⟨pcE_blind hE, cx_pre hE hes hK hP hD hS hA isC hC hnC _⟩ rfl hn hsize hst (lv_room hroom) hdg ⟨Nat.zero_le _, Nat.zero_le _⟩) hS (fun q _ h => hF q h) hF (fun u t H1 locs1 ht hvm hw hB hz1 hk1 hS1 => ?_)
  obtain ⟨hP1, hK1, hD1⟩ := hB
  rw [ht] at hP1
  obtain ⟨hP2, hD2⟩ := va_join hP hD isC isR hC hR hnR hdis hk1 hF hP1 hD1
  obtain ⟨is, hi1, hi2⟩ := hj u
  exact kk u H1 locs1 hw (hP2.subM is hi2) (hD2.sub is hi1 hi2) hS1
/-- a call of a nest mate's static method, that answers a number -/
theorem cx_ni {S : Type} {post : Int32 → S → Prop} {cf cw : S → va_W} (X : CallFix p m c cc nL s args Ts own) (hsize : ls.size = nL) (hE : okE E) (hes : E A s) (hK : va_K D cl tys s) (hP : va_P D cl ws H) (hD : va_D A ws) (hS : va_S A s.heap H locs) (hA : ∀ q : Nat, s.heap.size ≤ q → A q)
    (hcut : Cut ws wc cf cw)
    (hM : ctI E l y wsy rmy D cl tys As wc H.size post cf) (cll : va_CN R s args own index y host bytes maxL ret wsy rmy 0 0 n ∧ (Cond.static y).before args s = true ∧ True)
    (hn : As.length = n) (hroom : (rest.map fun v => v.category).sum ≤ 8) (hdg : decode cc pc = .ok (.invokestatic index, 3)) (hst : st0 = As.reverse ++ rest)
    (kk : ∀ (r : Int32) (u : S) (H1 : Heap) (locs1 : List Loc), post r u → va_P D cl (cw u) H1 → va_D A (cw u) → va_S A s.heap H1 locs1 → W p l e R s m args below meth c H1 locs1 0 0 Z (F0 m (pc + 3) ls (.int r :: rest))) : W p l e R s m args below meth c H locs 0 0 Z (F0 m pc ls st0) := by
  obtain ⟨isC, isR, hC, hR, hnC, hnR, hdis, hj⟩ := hcut
  have hF := va_free (wc := wc) hD hS hA isC hC
  refine va_calli (va_runSN (As := As) (rest := rest) X hM cll ⟨pcE_blind hE, cx_pre hE hes hK hP hD hS hA isC hC hnC _⟩ rfl hn hsize hst (lv_room hroom) hdg ⟨Nat.zero_le _, Nat.zero_le _⟩) hS (fun q _ h => hF q h) hF (fun r u t H1 locs1 ht hvm hw hB hz1 hk1 hS1 => ?_)
  obtain ⟨hP1, hK1, hD1⟩ := hB
  rw [ht] at hP1
  obtain ⟨hP2, hD2⟩ := va_join hP hD isC isR hC hR hnR hdis hk1 hF hP1 hD1
  obtain ⟨is, hi1, hi2⟩ := hj u
  exact kk r u H1 locs1 hw (hP2.subM is hi2) (hD2.sub is hi1 hi2) hS1
end CX
theorem ok_and {E F : (Nat → Prop) → State → Prop} (h : okE E) (k : okE F) : okE (fun A U => E A U ∧ F A U) := ⟨fun A a U g mk q => ⟨h.1 A a U g mk q.1, k.1 A a U g mk q.2⟩, fun A B s U q hW hh hAB => ⟨h.2 A B s U q.1 hW hh hAB, k.2 A B s U q.2 hW hh hAB⟩⟩
/-- a number that is a truth value -/
def zb (v : Int32) : Prop := v = 0 ∨ v = 1
theorem zb_n {v : Int32} (h : zb v) : narrow .boolean (.int v) = .int v := by rcases h with rfl | rfl <;> decide
theorem zb_f {v : Int32} (h : zb v) : fits .boolean (.int v) = true := by rcases h with rfl | rfl <;> decide
section SX
variable {p : Program} {l : Launch} {e : Env} {R : Room} {s : State} {m : MethodId} {args : Array Value} {below : List Frame} {meth : Method} {c : Code} {H : Heap} {locs : List Loc} {cells slots : Nat} {Q : State → Prop}
variable {cc : ByteArray} {pc : Nat} {ls : Array Slot} {rest : List Value} {A : Nat → Prop}
theorem sx_ald (hexec : p.tables.exec = Jvm.exec) (hb : c.code = cc) {t N : Nat} {f : Nat → Int32} (hT : va_T .int t N (fun j => .int (f j)) A s s.heap) (hS : va_S A s.heap H locs) {i : Int32} (hin : vp_in i N) (hdg : decode cc pc = .ok (.iaload, 1))
    (kk : W p l e R s m args below meth c H locs cells slots Q (F0 m (pc + 1) ls (.int (f i.toNatClampNeg) :: rest))) : W p l e R s m args below meth c H locs cells slots Q (F0 m pc ls (.int i :: .ref t :: rest)) := by
  obtain ⟨cell, h1, h2, h3, h4, h5, h6, h7⟩ := hT
  have hlt : i.toNatClampNeg < N := Nat.not_le.mp fun q => hin (Or.inr q)
  exact W.iald (v := .int (f i.toNatClampNeg)) hexec hb (by rw [hS.2.1 t (Array.getElem?_eq_some_iff.mp h1).1 h7]; exact h1) h2 h3 (fun q => q.elim (fun z => hin (Or.inl z)) (fun z => hin (Or.inr (Nat.le_trans h4 z)))) (h6 _ hlt) rfl rfl hdg kk
theorem sx_alen (hexec : p.tables.exec = Jvm.exec) (hb : c.code = cc) {t N : Nat} {f : Nat → Value} (hT : va_T .int t N f A s s.heap) (hS : va_S A s.heap H locs) {v : Int32} (hv : Int32.ofNat N = v) (hdg : decode cc pc = .ok (.arraylength, 1))
    (kk : W p l e R s m args below meth c H locs cells slots Q (F0 m (pc + 1) ls (.int v :: rest))) : W p l e R s m args below meth c H locs cells slots Q (F0 m pc ls (.ref t :: rest)) := by
  obtain ⟨cell, h1, h2, h3, h4, h5, h6, h7⟩ := hT
  subst hv
  exact W.alen (n := Int32.ofNat N) hexec hb (by rw [hS.2.1 t (Array.getElem?_eq_some_iff.mp h1).1 h7]; exact h1) h2 h5 rfl rfl hdg kk
end SX
