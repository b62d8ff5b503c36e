
theorem rf_some {o : Option Nat} {a : Nat} (h : o = some a) : va_rf o = .ref a := by rw [h]; rfl
theorem rf_none {o : Option Nat} (h : o = none) : va_rf o = .null := by rw [h]; rfl
/-- a contract of a method that answers a number and may make cells -/
def ctM (E : (Nat → Prop) → State → Prop) (l : Launch) (y : MethodName) (ws : List Cond) (rm : Room) (D : va_G) (cl : List vw_C) (tys : List (ClassId × FieldType)) (av : List Value) (ws0 : va_W) (sz mc ms : Nat) {S : Type} (post : Int32 → S → Prop) (cf : S → va_W) : Prop := Met l y ws rm (pcE E D cl tys av ws0 sz) (va_Qi post (bqE D cl tys (va_A ws0 sz) cf) (va_A ws0 sz)) mc ms (va_A ws0 sz)
/-! ===== a callee's cells among the caller's, up to order: for large worlds ===== -/
theorem vp_iff {D : va_G} {cl : List vw_C} {ws : va_W} {H : Heap} : va_P D cl ws H ↔ ∀ q ∈ ws, va_at D cl q H := by
  constructor
  · intro h q hq
    obtain ⟨k, hk⟩ := List.getElem?_of_mem hq
    exact h k q hk
  · intro h k q hk
    exact h q (List.mem_of_getElem? hk)
theorem vd_iff {A : Nat → Prop} {ws : va_W} : va_D A ws ↔ (ws.map (fun q => q.1)).Nodup ∧ ∀ q ∈ ws, A q.1 := by
  constructor
  · intro h
    refine ⟨?_, fun q hq => ?_⟩
    · show List.Pairwise _ _
      rw [List.pairwise_iff_getElem]
      intro i j hi hj hij he
      rw [List.length_map] at hi hj
      rw [List.getElem_map, List.getElem_map] at he
      have := h.1 i j ws[i] ws[j] (List.getElem?_eq_getElem hi) (List.getElem?_eq_getElem hj) he
      omega
    · obtain ⟨k, hk⟩ := List.getElem?_of_mem hq
      exact h.2 k q hk
  · intro ⟨h1, h2⟩
    refine ⟨fun i j p q hi hj he => ?_, fun k q hk => h2 q (List.mem_of_getElem? hk)⟩
    have h1 : List.Pairwise (fun a b => a ≠ b) (ws.map (fun q => q.1)) := h1
    rw [List.pairwise_iff_getElem] at h1
    obtain ⟨hi1, hi2⟩ := List.getElem?_eq_some_iff.mp hi
    obtain ⟨hj1, hj2⟩ := List.getElem?_eq_some_iff.mp hj
    have key : ∀ a b : Nat, ∀ (ha : a < ws.length) (hb : b < ws.length), a < b → ws[a].1 ≠ ws[b].1 := by
      intro a b ha hb hab
      have := h1 a b (by rw [List.length_map]; exact ha) (by rw [List.length_map]; exact hb) hab
      rwa [List.getElem_map, List.getElem_map] at this
    rcases Nat.lt_trichotomy i j with h | h | h
    · exact absurd (by rw [hi2, hj2]; exact he) (key i j hi1 hj1 h)
    · exact h
    · exact absurd (by rw [hi2, hj2]; exact he.symm) (key j i hj1 hi1 h)
theorem vp_perm {D : va_G} {cl : List vw_C} {ws ws' : va_W} {H : Heap} (h : ws.Perm ws') (hP : va_P D cl ws H) : va_P D cl ws' H := vp_iff.mpr fun q hq => vp_iff.mp hP q (h.mem_iff.mpr hq)
theorem vd_perm {A : Nat → Prop} {ws ws' : va_W} (h : ws.Perm ws') (hD : va_D A ws) : va_D A ws' := by
  obtain ⟨h1, h2⟩ := vd_iff.mp hD
  exact vd_iff.mpr ⟨(h.map _).nodup_iff.mp h1, fun q hq => h2 q (h.mem_iff.mpr hq)⟩
/-- the callee's cells wc, the rest wr; behind the call the cells are cf v, and the whole is cw v -/
def CutP (ws wc : va_W) {S : Type} (cf cw : S → va_W) : Prop := ∃ wr : va_W, ws.Perm (wc ++ wr) ∧ ∀ v : S, (wr ++ cf v).Perm (cw v)
/-- .. when the callee's cells stand in one stretch -/
theorem cutp_mid {a b wc : va_W} {S : Type} {cf : S → va_W} : CutP (a ++ (wc ++ b)) wc cf (fun v => a ++ (cf v ++ b)) :=
  ⟨a ++ b, List.perm_append_comm_assoc a wc b, fun v => by
    have h1 : ((a ++ b) ++ cf v).Perm (a ++ (b ++ cf v)) := by rw [List.append_assoc]
    exact h1.trans (List.Perm.append_left a List.perm_append_comm)⟩
/-- .. in two stretches -/
theorem cutp_two {a b c wc wd : va_W} {S : Type} {cf cg : S → va_W} : CutP (a ++ (wc ++ (b ++ (wd ++ c)))) (wc ++ wd) (fun v => cf v ++ cg v) (fun v => a ++ (cf v ++ (b ++ (cg v ++ c)))) := by
  refine ⟨a ++ (b ++ c), ?_, fun v => ?_⟩
  · have h1 : (a ++ (wc ++ (b ++ (wd ++ c)))).Perm (wc ++ (a ++ (b ++ (wd ++ c)))) := List.perm_append_comm_assoc a wc _
    have h2 : (a ++ (b ++ (wd ++ c))).Perm (a ++ (wd ++ (b ++ c))) := List.Perm.append_left a (List.perm_append_comm_assoc b wd c)
    have h3 : (a ++ (wd ++ (b ++ c))).Perm (wd ++ (a ++ (b ++ c))) := List.perm_append_comm_assoc a wd _
    have h4 := h1.trans (List.Perm.append_left wc (h2.trans h3))
    rw [List.append_assoc]
    exact h4
  · have h1 : ((a ++ (b ++ c)) ++ (cf v ++ cg v)).Perm ((cf v ++ cg v) ++ (a ++ (b ++ c))) := List.perm_append_comm
    refine h1.trans ?_
    have h2 : (a ++ (cf v ++ (b ++ (cg v ++ c)))).Perm (cf v ++ (a ++ (b ++ (cg v ++ c)))) := List.perm_append_comm_assoc a _ _
    have h3 : (a ++ (b ++ (cg v ++ c))).Perm (a ++ (cg v ++ (b ++ c))) := List.Perm.append_left a (List.perm_append_comm_assoc b _ c)
    have h4 : (a ++ (cg v ++ (b ++ c))).Perm (cg v ++ (a ++ (b ++ c))) := List.perm_append_comm_assoc a _ _
    rw [List.append_assoc]
    exact (h2.trans (List.Perm.append_left _ (h3.trans h4))).symm
/-- .. in two stretches that stand in the other order -/
theorem cutp_swap {ws wc wd : va_W} {S : Type} {cf cg : S → va_W} {cw : S → va_W} (h : CutP ws (wc ++ wd) (fun v => cf v ++ cg v) cw) : CutP ws (wd ++ wc) (fun v => cg v ++ cf v) cw := by
  obtain ⟨wr, h1, h2⟩ := h
  exact ⟨wr, h1.trans (List.Perm.append_right wr List.perm_append_comm), fun v => (List.Perm.append_left wr List.perm_append_comm).trans (h2 v)⟩
theorem cutp_join {A0 : Nat → Prop} {D : va_G} {cl : List vw_C} {ws wc wr w1 : va_W} {H H1 : Heap} (hP : va_P D cl ws H) (hD : va_D A0 ws) (hc : ws.Perm (wc ++ wr))
    (hk : ∀ q : Nat, q < H.size → ¬ va_A wc H.size q → H1[q]? = H[q]?) (hF : ∀ q, va_A wc H.size q → A0 q) (hP1 : va_P D cl w1 H1) (hD1 : va_D (va_A wc H.size) w1) : va_P D cl (wr ++ w1) H1 ∧ va_D A0 (wr ++ w1) := by
  have hPc := vp_perm hc hP
  have hDc := vd_perm hc hD
  obtain ⟨hn, hA⟩ := vd_iff.mp hDc
  obtain ⟨hn1, hA1⟩ := vd_iff.mp hD1
  rw [List.map_append, List.nodup_append] at hn
  have apart : ∀ q ∈ wr, q.1 < H.size ∧ ¬ va_A wc H.size q.1 := by
    intro q hq
    obtain ⟨k, hkq⟩ := List.getElem?_of_mem (List.mem_append_right wc hq)
    have hl := (hPc k q hkq).lt
    refine ⟨hl, fun z => ?_⟩
    rcases z with ⟨k2, e2, z⟩ | z
    · exact hn.2.2 q.1 (List.mem_map.mpr ⟨(q.1, e2), List.mem_of_getElem? z, rfl⟩) q.1 (List.mem_map.mpr ⟨q, hq, rfl⟩) rfl
    · omega
  refine ⟨vp_iff.mpr fun q hq => ?_, vd_iff.mpr ⟨?_, fun q hq => ?_⟩⟩
  · rcases List.mem_append.mp hq with h | h
    · exact (vp_iff.mp hPc q (List.mem_append_right wc h)).kept (hk q.1 (apart q h).1 (apart q h).2)
    · exact vp_iff.mp hP1 q h
  · rw [List.map_append, List.nodup_append]
    refine ⟨hn.2.1, hn1, fun a ha b hb hab => ?_⟩
    obtain ⟨x, hx, rfl⟩ := List.mem_map.mp ha
    obtain ⟨z, hz, rfl⟩ := List.mem_map.mp hb
    exact (apart x hx).2 (by rw [hab]; exact hA1 z hz)
  · rcases List.mem_append.mp hq with h | h
    · exact hA q (List.mem_append_right wc h)
    · exact hF _ (hA1 q h)
theorem cutp_midE {ws a b wc : va_W} {S : Type} {cf cw : S → va_W} (h1 : ws = a ++ (wc ++ b)) (h2 : ∀ v, cw v = a ++ (cf v ++ b)) : CutP ws wc cf cw := by
  subst h1
  obtain rfl : cw = fun v => a ++ (cf v ++ b) := funext h2
  exact cutp_mid
theorem cutp_twoE {ws a b c wc wd : va_W} {S : Type} {cf cg cw : S → va_W} (h1 : ws = a ++ (wc ++ (b ++ (wd ++ c)))) (h2 : ∀ v, cw v = a ++ (cf v ++ (b ++ (cg v ++ c)))) : CutP ws (wc ++ wd) (fun v => cf v ++ cg v) cw := by
  subst h1
  obtain rfl : cw = fun v => a ++ (cf v ++ (b ++ (cg v ++ c))) := funext h2
  exact cutp_two
section CG
variable {p : Program} {l : Launch} {e : Env} {R : Room} {s : State} {m : MethodId} {args : Array Value} {below : List Frame} {meth : Method} {c : Code} {H : Heap} {locs : List Loc} {Z : State → Prop} {cells slots mc ms : Nat}
variable {pc : Nat} {ls : Array Slot} {rest st0 : List Value} {A : Nat → Prop}
variable {y : MethodName} {bytes cc : ByteArray} {maxL nL n index : Nat} {ret : Option FieldType} {wsy : List Cond} {rmy : Room} {Ts : List Cond} {own C host : String} {b : Addr} {As : List Value}
variable {D : va_G} {cl : List vw_C} {tys : List (ClassId × FieldType)} {ws wc wr : va_W} {E : (Nat → Prop) → State → Prop}
theorem cutp_free (hD : va_D A ws) (hS : va_S A s.heap H locs) (hA : ∀ q : Nat, s.heap.size ≤ q → A q) (hc : ws.Perm (wc ++ wr)) : ∀ q, va_A wc H.size q → A q := by
  intro q h
  rcases h with ⟨k, e2, h⟩ | h
  · exact (vd_iff.mp (vd_perm hc hD)).2 (q, e2) (List.mem_append_left wr (List.mem_of_getElem? h))
  · exact hA q (Nat.le_trans hS.1 h)
theorem cutp_P (hP : va_P D cl ws H) (hc : ws.Perm (wc ++ wr)) : va_P D cl wc H := vp_iff.mpr fun q hq => vp_iff.mp (vp_perm hc hP) q (List.mem_append_left wr hq)
theorem cutp_D (hD : va_D A ws) (hc : ws.Perm (wc ++ wr)) : va_D A wc := by
  obtain ⟨h1, h2⟩ := vd_iff.mp (vd_perm hc hD)
  rw [List.map_append, List.nodup_append] at h1
  exact vd_iff.mpr ⟨h1.1, fun q hq => h2 q (List.mem_append_left wr hq)⟩
theorem cutp_pre (hE : okE E) (hes : E A s) (hK : va_K D cl tys s) (hP : va_P D cl ws H) (hD : va_D A ws) (hS : va_S A s.heap H locs) (hA : ∀ q : Nat, s.heap.size ≤ q → A q) (hc : ws.Perm (wc ++ wr)) (av : List Value) :
    ∀ U : State, U.heap = H → s.WarmedH U.vm → pcE E D cl tys av wc H.size av.toArray U := fun U hU hW => by
  have hF := cutp_free hD hS hA hc
  exact ⟨rfl, by rw [hU], by rw [hU]; exact cutp_P hP hc, va_K.moved hW.alike hK, (cutp_D hD hc).weaken (fun _ _ _ _ => trivial), hE.2 A _ s U hes hW (fun q h1 h2 => by rw [hU]; exact hS.2.1 q h1 h2) hF⟩
/-- a call that may make cells, in a large world -/
theorem cx_vim {S : Type} {post : Int32 → S → Prop} {cf cw : S → va_W} (X : CallFix p m c cc nL s args Ts own) (hsize : ls.size = nL) (hE : okE E) (hes : E A s) (hK : va_K D cl tys s) (hP : va_P D cl ws H) (hD : va_D A ws) (hS : va_S A s.heap H locs) (hA : ∀ q : Nat, s.heap.size ≤ q → A q)
    (hcut : CutP ws wc cf cw)
    (hM : ctM E l y wsy rmy D cl tys (.ref b :: As) wc H.size mc ms post cf) (cll : CallW R s args own C index y bytes maxL ret wsy rmy mc ms n) {ci : Nat} {fs : List Value} {qc : vw_C} (hc : cl[ci]? = some qc) (hqc : qc.1 = C) (he : wc[0]? = some (b, .inr (ci, fs)))
    (hn : As.length = n) (hroom : (rest.map fun v => v.category).sum ≤ 8) (hdg : decode cc pc = .ok (.invokevirtual index, 3)) (hst : st0 = As.reverse ++ .ref b :: rest) (hf : cells + mc ≤ R.cells ∧ slots + ms ≤ R.slots)
    (kk : ∀ (r : Int32) (u : S) (H1 : Heap) (locs1 : List Loc), post r u → va_P D cl (cw u) H1 → va_D A (cw u) → va_S A s.heap H1 locs1 → W p l e R s m args below meth c H1 locs1 (cells + mc) (slots + ms) Z (F0 m (pc + 3) ls (.int r :: rest))) : W p l e R s m args below meth c H locs cells slots Z (F0 m pc ls st0) := by
  obtain ⟨wr, hcc, hj⟩ := hcut
  have hF := cutp_free hD hS hA hcc
  have hPc := cutp_P hP hcc
  subst hqc
  refine va_calli (va_runV (As := As) (rest := rest) X hM cll ⟨pcE_blind hE, va_recv hK hPc hc he, cutp_pre hE hes hK hP hD hS hA hcc _⟩ rfl hn hsize hst (lv_room hroom) hdg hf) hS (fun q _ h => hF q h) hF (fun r u t H1 locs1 ht hvm hw hB hz1 hk1 hS1 => ?_)
  obtain ⟨hP1, hK1, hD1⟩ := hB
  rw [ht] at hP1
  obtain ⟨hP2, hD2⟩ := cutp_join hP hD hcc hk1 hF hP1 hD1
  exact kk r u H1 locs1 hw (vp_perm (hj u) hP2) (vd_perm (hj u) hD2) hS1
theorem cx_vig {S : Type} {post : Int32 → S → Prop} {cf cw : S → va_W} (X : CallFix p m c cc nL s args Ts own) (hsize : ls.size = nL) (hE : okE E) (hes : E A s) (hK : va_K D cl tys s) (hP : va_P D cl ws H) (hD : va_D A ws) (hS : va_S A s.heap H locs) (hA : ∀ q : Nat, s.heap.size ≤ q → A q)
    (hcut : CutP ws wc cf cw)
    (hM : ctI E l y wsy rmy D cl tys (.ref b :: As) wc H.size post cf) (cll : CallW R s args own C index y bytes maxL ret wsy rmy 0 0 n) {ci : Nat} {fs : List Value} {qc : vw_C} (hc : cl[ci]? = some qc) (hqc : qc.1 = C) (he : wc[0]? = some (b, .inr (ci, fs)))
    (hn : As.length = n) (hroom : (rest.map fun v => v.category).sum ≤ 8) (hdg : decode cc pc = .ok (.invokevirtual index, 3)) (hst : st0 = As.reverse ++ .ref b :: rest) (hf : cells ≤ R.cells ∧ slots ≤ R.slots)
    (kk : ∀ (r : Int32) (u : S) (H1 : Heap) (locs1 : List Loc), post r u → va_P D cl (cw u) H1 → va_D A (cw u) → va_S A s.heap H1 locs1 → W p l e R s m args below meth c H1 locs1 cells slots Z (F0 m (pc + 3) ls (.int r :: rest))) : W p l e R s m args below meth c H locs cells slots Z (F0 m pc ls st0) :=
  cx_vim (mc := 0) (ms := 0) X hsize hE hes hK hP hD hS hA hcut hM cll hc hqc he hn hroom hdg hst hf kk
theorem cx_vvg {S : Type} {post : S → Prop} {cf cw : S → va_W} (X : CallFix p m c cc nL s args Ts own) (hsize : ls.size = nL) (hE : okE E) (hes : E A s) (hK : va_K D cl tys s) (hP : va_P D cl ws H) (hD : va_D A ws) (hS : va_S A s.heap H locs) (hA : ∀ q : Nat, s.heap.size ≤ q → A q)
    (hcut : CutP ws wc cf cw)
    (hM : ctV E l y wsy rmy D cl tys (.ref b :: As) wc H.size post cf) (cll : CallW R s args own C index y bytes maxL ret wsy rmy 0 0 n) {ci : Nat} {fs : List Value} {qc : vw_C} (hc : cl[ci]? = some qc) (hqc : qc.1 = C) (he : wc[0]? = some (b, .inr (ci, fs)))
    (hn : As.length = n) (hroom : (rest.map fun v => v.category).sum ≤ 8) (hdg : decode cc pc = .ok (.invokevirtual index, 3)) (hst : st0 = As.reverse ++ .ref b :: rest) (hf : cells ≤ R.cells ∧ slots ≤ R.slots)
    (kk : ∀ (u : S) (H1 : Heap) (locs1 : List Loc), post u → va_P D cl (cw u) H1 → va_D A (cw u) → va_S A s.heap H1 locs1 → W p l e R s m args below meth c H1 locs1 cells slots Z (F0 m (pc + 3) ls rest)) : W p l e R s m args below meth c H locs cells slots Z (F0 m pc ls st0) := by
  obtain ⟨wr, hcc, hj⟩ := hcut
  have hF := cutp_free hD hS hA hcc
  have hPc := cutp_P hP hcc
  subst hqc
  refine va_callv (va_runV (As := As) (rest := rest) X hM cll ⟨pcE_blind hE, va_recv hK hPc hc he, cutp_pre hE hes hK hP hD hS hA hcc _⟩ rfl hn hsize hst (lv_room hroom) hdg hf) hS (fun q _ h => hF q h) hF (fun u t H1 locs1 ht hvm hw hB hz1 hk1 hS1 => ?_)
  obtain ⟨hP1, hK1, hD1⟩ := hB
  rw [ht] at hP1
  obtain ⟨hP2, hD2⟩ := cutp_join hP hD hcc hk1 hF hP1 hD1
  exact kk u H1 locs1 hw (vp_perm (hj u) hP2) (vd_perm (hj u) hD2) hS1
end CG
theorem mx_m {S : Type} {E : (Nat → Prop) → State → Prop} {l : Launch} {y : MethodName} {ws ws' : List Cond} {rm : Room} {D : va_G} {cl : List vw_C} {tys : List (ClassId × FieldType)} {cc : ByteArray} {maxL mc ms : Nat} {ty : FieldType} {av : List Value} {ws0 : va_W} {sz : Nat} {post : Int32 → S → Prop} {cf : S → va_W}
    (hy : plainName y.cls = true) (hw : ws = Cond.code y cc maxL (some ty) :: ws') (hlen : (lg_sl av).length ≤ maxL)
    (body : ∀ (p : Program) (e : Env) (s : State) (m : MethodId) (below : List Frame) (meth : Method) (c : Code) (Z : State → Prop) (A : Nat → Prop) (ls : Array Slot) (args : Array Value), p.tables.exec = Jvm.exec → c.code = cc → c.maxLocals = maxL → s.vm.findClass y.cls = some m.cls → (∀ w ∈ ws, w.before args s = true) → (∀ q : Nat, s.heap.size ≤ q → A q) → va_P D cl ws0 s.heap → va_K D cl tys s → va_D A ws0 → E A s → lv_has ls maxL (lv_args 0 av) →
      (∀ (H : Heap) (locs : List Loc) (ls : Array Slot) (pc : Nat) (v : Int32) (u : S), decode cc pc = .ok (.ireturn, 1) → narrow ty (.int v) = .int v → post v u → va_P D cl (cf u) H → va_D A (cf u) → va_S A s.heap H locs → W p l e rm s m args below meth c H locs mc ms Z (F0 m pc ls [.int v])) →
      W p l e rm s m args below meth c s.heap [] 0 0 Z (F0 m 0 ls [])) : ctM E l y ws rm D cl tys av ws0 sz mc ms post cf := by
  refine Met.ofW (cc := cc) (maxL := maxL) (ret := some ty) hy hw ?_
  intro p e s m args below meth c s₁ B hml hv
  obtain ⟨rfl, hsz, hP, hK, hD0, hE⟩ := hv
  subst hsz
  rw [lg_entry_eq]
  have hl := lv_entry av (n := maxL) hlen
  refine body p e s m below meth c _ (va_A ws0 s.heap.size) _ _ B.exec B.bytes hml (findClass_of_methodNamed B.named) (atoms_spec (ws := ws) B.pre) (fun q h => Or.inr h) hP hK hD0.self hE hl ?_
  intro H locs ls pc v u hdg hn hp hP1 hD1 hS
  exact W.zret B.exec B.bytes B.returns hn (fun t ht hW => ⟨⟨v, u, rfl, hp, by rw [ht]; exact hP1, va_K.moved hW.alike hK, hD1⟩, hS.F ht⟩) hS.2.2 hdg

def wp_X10_would_j_145 (Q : Int32 → S10 → S9 → Prop) (x3 : Int32) (x4 : Int32) (u0 : S10) (u1 : S9) : Prop := (x3 = 256 → Q (g4_compensated (g10_recovery u0)) u0 u1) ∧ (¬ x3 = 256 → (x3 = 257 → Q (g4_ended (g10_recovery u0)) u0 u1) ∧ (¬ x3 = 257 → (x3 = 258 → Q (g4_redoneInAll (g10_recovery u0)) u0 u1) ∧ (¬ x3 = 258 → (x3 = 259 → Q ((g9_crashes u1) - x4) u0 u1) ∧ (¬ x3 = 259 → (x3 = 260 → Q (g2_endPlace (g9_journal u1)) u0 u1) ∧ (¬ x3 = 260 → (x3 = 261 → Q (g4_losers (g10_recovery u0)) u0 u1) ∧ (¬ x3 = 261 → wp_X3_byteNow (g9_pages u1) x3 (fun r_1 => Q r_1 u0 u1)))))))
def wp_X10_would_j_135 (k_100 : Int32 → Int32 → Int32 → Int32 → S10 → S9 → Prop) (Q : Int32 → S10 → S9 → Prop) (x2 : Int32) (x3 : Int32) (x4 : Int32) (x5 : Int32) (y2 : Int32) (u0 : S10) (u1 : S9) : Prop := wp_X4_attempt (g10_recovery u0) u1 y2 (fun r_2 v_3 v_4 => ∀ u0_5 : S10, u0_5 = s10_recovery u0 v_3 → (∀ x5_6 : Int32, x5_6 = x5 + 1 → (k_100 x2 x3 x4 x5_6 u0_5 v_4)))
def wp_X10_would_j_100 (Q : Int32 → S10 → S9 → Prop) : Nat → Int32 → Int32 → Int32 → Int32 → S10 → S9 → Prop
  | 0, _, _, _, _, _, _ => False
  | n + 1, x2, x3, x4, x5, u0, u1 => (1000000 ≤ x5 → wp_X10_would_j_145 Q x3 x4 u0 u1) ∧ (¬ 1000000 ≤ x5 → ((g9_up u1) = 0 → (x2 = 0 → wp_X10_would_j_135 (fun x2 x3 x4 x5 u0 u1 => wp_X10_would_j_100 Q n x2 x3 x4 x5 u0 u1) Q x2 x3 x4 x5 (-1) u0 u1) ∧ (¬ x2 = 0 → wp_X10_would_j_135 (fun x2 x3 x4 x5 u0 u1 => wp_X10_would_j_100 Q n x2 x3 x4 x5 u0 u1) Q x2 x3 x4 x5 x2 u0 u1)) ∧ (¬ (g9_up u1) = 0 → wp_X10_would_j_145 Q x3 x4 u0 u1))
def wp_X10_would_j_81 (Q : Int32 → S10 → S9 → Prop) (x2 : Int32) (x3 : Int32) (u0 : S10) (u1 : S9) : Prop := ∀ x4_7 : Int32, x4_7 = (g9_crashes u1) → (wp_X4_reset (g10_recovery u0) (fun v_8 => ∀ u0_9 : S10, u0_9 = s10_recovery u0 v_8 → (∃ n_10, wp_X10_would_j_100 Q n_10 x2 x3 x4_7 0 u0_9 u1)))
def wp_X10_would_j (u0 : S10) (u1 : S9) (x1 : Int32) (x2 : Int32) (x3 : Int32) (Q : Int32 → S10 → S9 → Prop) : Prop := wp_X9_copyFrom u1 (g10_now u0) (fun v_11 => ((g9_up v_11) = 0 → wp_X10_would_j_81 Q x2 x3 u0 v_11) ∧ (¬ (g9_up v_11) = 0 → wp_X9_fall v_11 x1 (fun v_12 => wp_X10_would_j_81 Q x2 x3 u0 v_12)))
def wp_X10_would_s (u0 : S10) (u1 : S9) (x1 x2 x3 : Int32) (Q : Int32 → S10 → S9 → Prop) : Prop := (x1 < 0 → Q (-1) u0 u1) ∧ (¬ x1 < 0 → (999 < x1 → Q (-1) u0 u1) ∧ (¬ 999 < x1 → (x2 < 0 → Q (-1) u0 u1) ∧ (¬ x2 < 0 → (9 < x2 → Q (-1) u0 u1) ∧ (¬ 9 < x2 → (x3 < 0 → Q (-1) u0 u1) ∧ (¬ x3 < 0 → (x3 ≤ 261 → wp_X10_would_j u0 u1 x1 x2 x3 Q) ∧ (¬ x3 ≤ 261 → Q (-1) u0 u1))))))
def wp_X10_would_n (u0 : S10) (x1 x2 x3 : Int32) (Q0 : Int32 → Prop) (Q : Int32 → S10 → S9 → Prop) : Prop := (x1 < 0 → Q0 (-1)) ∧ (¬ x1 < 0 → (999 < x1 → Q0 (-1)) ∧ (¬ 999 < x1 → (x2 < 0 → Q0 (-1)) ∧ (¬ x2 < 0 → (9 < x2 → Q0 (-1)) ∧ (¬ 9 < x2 → (x3 < 0 → Q0 (-1)) ∧ (¬ x3 < 0 → (x3 ≤ 261 → ∀ a : Nat, wp_X10_would_j (s10_thought u0 (some a)) i9 x1 x2 x3 Q) ∧ (¬ x3 ≤ 261 → Q0 (-1)))))))
set_option maxHeartbeats 4000000 in
set_option maxRecDepth 100000 in
theorem cutp_93 (cI : ClassId) (q0 : Nat → Nat) (q1 : Nat → Nat) (u0 : S10) (u1 : S9) : CutP (cs10 cI q0 u0 ++ cs9 cI q1 u1) (cs3 cI (fun i => q1 (i + 3)) (g9_pages u1)) (fun _ : Unit => cs3 cI (fun i => q1 (i + 3)) (g9_pages u1)) (fun _ : Unit => (cs10 cI q0 u0 ++ cs9 cI q1 u1)) := cutp_midE (a := List.take 45 (cs10 cI q0 u0 ++ cs9 cI q1 u1)) (b := List.drop 55 (cs10 cI q0 u0 ++ cs9 cI q1 u1)) rfl (fun _ => rfl)
set_option maxHeartbeats 4000000 in
set_option maxRecDepth 100000 in
theorem cutp_94 (cI : ClassId) (q0 : Nat → Nat) (q1 : Nat → Nat) (u0 : S10) (u1 : S9) : CutP (cs10 cI q0 u0 ++ cs9 cI q1 u1) (cs4 cI (fun i => q0 (i + 35)) (g10_recovery u0) ++ cs9 cI q1 u1) (fun v : S4 × S9 => cs4 cI (fun i => q0 (i + 35)) v.1 ++ cs9 cI q1 v.2) (fun v : S4 × S9 => (cs10 cI q0 (s10_recovery u0 v.1) ++ cs9 cI q1 v.2)) := cutp_twoE (a := List.take 35 (cs10 cI q0 u0 ++ cs9 cI q1 u1)) (b := List.take 5 (List.drop 37 (cs10 cI q0 u0 ++ cs9 cI q1 u1))) (c := List.drop 72 (cs10 cI q0 u0 ++ cs9 cI q1 u1)) (wc := cs4 cI (fun i => q0 (i + 35)) (g10_recovery u0)) (wd := cs9 cI q1 u1) (cf := fun v : S4 × S9 => cs4 cI (fun i => q0 (i + 35)) v.1) (cg := fun v : S4 × S9 => cs9 cI q1 v.2) rfl (fun _ => rfl)
set_option maxHeartbeats 4000000 in
set_option maxRecDepth 100000 in
theorem cutp_95 (cI : ClassId) (q0 : Nat → Nat) (q1 : Nat → Nat) (u0 : S10) (u1 : S9) : CutP (cs10 cI q0 u0 ++ cs9 cI q1 u1) (cs4 cI (fun i => q0 (i + 35)) (g10_recovery u0)) (fun v : S4 => cs4 cI (fun i => q0 (i + 35)) v) (fun v : S4 => (cs10 cI q0 (s10_recovery u0 v) ++ cs9 cI q1 u1)) := cutp_midE (a := List.take 35 (cs10 cI q0 u0 ++ cs9 cI q1 u1)) (b := List.drop 37 (cs10 cI q0 u0 ++ cs9 cI q1 u1)) rfl (fun _ => rfl)
set_option maxHeartbeats 4000000 in
set_option maxRecDepth 100000 in
theorem cutp_96 (cI : ClassId) (q0 : Nat → Nat) (q1 : Nat → Nat) (u0 : S10) (u1 : S9) : CutP (cs10 cI q0 u0 ++ cs9 cI q1 u1) (cs9 cI q1 u1) (fun v : S9 => cs9 cI q1 v) (fun v : S9 => (cs10 cI q0 u0 ++ cs9 cI q1 v)) := cutp_midE (a := List.take 42 (cs10 cI q0 u0 ++ cs9 cI q1 u1)) (b := List.drop 72 (cs10 cI q0 u0 ++ cs9 cI q1 u1)) rfl (fun _ => rfl)
set_option maxHeartbeats 4000000 in
set_option maxRecDepth 100000 in
theorem cutp_97 (cI : ClassId) (q0 : Nat → Nat) (q1 : Nat → Nat) (u0 : S10) (u1 : S9) : CutP (cs10 cI q0 u0 ++ cs9 cI q1 u1) (cs9 cI q1 u1 ++ cs9 cI (fun i => q0 (i + 1)) (g10_now u0)) (fun v : S9 => cs9 cI q1 v ++ cs9 cI (fun i => q0 (i + 1)) (g10_now u0)) (fun v : S9 => (cs10 cI q0 u0 ++ cs9 cI q1 v)) := cutp_swap (cf := fun v : S9 => cs9 cI (fun i => q0 (i + 1)) (g10_now u0)) (cg := fun v : S9 => cs9 cI q1 v) (cutp_twoE (a := List.take 1 (cs10 cI q0 u0 ++ cs9 cI q1 u1)) (b := List.take 11 (List.drop 31 (cs10 cI q0 u0 ++ cs9 cI q1 u1))) (c := List.drop 72 (cs10 cI q0 u0 ++ cs9 cI q1 u1)) (wc := cs9 cI (fun i => q0 (i + 1)) (g10_now u0)) (wd := cs9 cI q1 u1) (cf := fun v : S9 => cs9 cI (fun i => q0 (i + 1)) (g10_now u0)) (cg := fun v : S9 => cs9 cI q1 v) rfl (fun _ => rfl))
abbrev rX10_would : Room := { frames := 7, cells := 30, slots := 10408, locals := 164 }
theorem hdX10_would : yX10_would.cls = RX10 ∧ yX10_would.cls ≠ "java/lang/invoke/MethodHandle" ∧ yX10_would.cls ≠ "java/lang/invoke/VarHandle" ∧ (parseMethodDescriptor yX10_would.desc).map (fun d => d.parameters.length) = some 3 := by decide +kernel
theorem inX10_would_10 : ∀ w ∈ wsX100, w ∈ wsX10_would := by decide +kernel
theorem inX10_would_2 : ∀ w ∈ wsX20, w ∈ wsX10_would := by decide +kernel
theorem inX10_would_4 : ∀ w ∈ wsX40, w ∈ wsX10_would := by decide +kernel
theorem inX10_would_9 : ∀ w ∈ wsX90, w ∈ wsX10_would := by decide +kernel
theorem kX10_would_0 : Cond.fieldLink RX10 41 "AheadStore$World" "pages" "LAheadStore$Pages;" ∈ wsX10_would := by decide +kernel
theorem kX10_would_1 : Cond.fieldLink RX10 256 "AheadStore" "thought" "LAheadStore$World;" ∈ wsX10_would := by decide +kernel
theorem kX10_would_2 : Cond.fieldLink RX10 269 "AheadStore$Recovery" "compensated" "I" ∈ wsX10_would := by decide +kernel
theorem kX10_would_3 : Cond.fieldLink RX10 26 "AheadStore" "recovery" "LAheadStore$Recovery;" ∈ wsX10_would := by decide +kernel
theorem kX10_would_4 : Cond.fieldLink RX10 272 "AheadStore$Recovery" "ended" "I" ∈ wsX10_would := by decide +kernel
theorem kX10_would_5 : Cond.fieldLink RX10 275 "AheadStore$Recovery" "redoneInAll" "I" ∈ wsX10_would := by decide +kernel
theorem kX10_would_6 : Cond.fieldLink RX10 262 "AheadStore$World" "crashes" "I" ∈ wsX10_would := by decide +kernel
theorem kX10_would_7 : Cond.fieldLink RX10 227 "AheadStore$Journal" "endPlace" "I" ∈ wsX10_would := by decide +kernel
theorem kX10_would_8 : Cond.fieldLink RX10 223 "AheadStore$World" "journal" "LAheadStore$Journal;" ∈ wsX10_would := by decide +kernel
theorem kX10_would_9 : Cond.fieldLink RX10 278 "AheadStore$Recovery" "losers" "I" ∈ wsX10_would := by decide +kernel
theorem kX10_would_10 : Cond.fieldLink RX10 37 "AheadStore$World" "up" "Z" ∈ wsX10_would := by decide +kernel
theorem kX10_would_11 : Cond.constant RX10 268 (1000000) ∈ wsX10_would := by decide +kernel
theorem kX10_would_12 : Cond.fieldLink RX10 10 "AheadStore" "now" "LAheadStore$World;" ∈ wsX10_would := by decide +kernel
theorem kX10_would_13 : Cond.classLink RX10 7 RX9 ∈ wsX10_would := by decide +kernel
theorem kX10_would_14 : Cond.instantiable RX9 11 ∈ wsX10_would := by decide +kernel
theorem kX10_would_15 : Cond.initialized RX9 ∈ wsX10_would := by decide +kernel
theorem kX10_would_16 : Cond.instanceMethod yX9_init ∈ wsX10_would := by decide +kernel
set_option maxHeartbeats 4000000 in
set_option maxRecDepth 100000 in
theorem wb_X10_would_j {l : Launch} {dC : Nat → ClassId} {dI : Nat → Nat → Nat} {cI : ClassId} {p : Program} {e : Env} {s : State} {m : MethodId} {below : List Frame} {meth : Method} {c : Code} {Z : State → Prop} {A : Nat → Prop} {args : Array Value} {q0 q1 : Nat → Nat} {u0 : S10} {u1 : S9} {x1 : Int32} {x2 : Int32} {x3 : Int32} {Q : Int32 → S10 → S9 → Prop} {H : Heap} {locs : List Loc} {ls : Array Slot} (hx : p.tables.exec = Jvm.exec) (hb : c.code = cX10_would) (hml : c.maxLocals = 6) (hown : s.vm.findClass RX10 = some m.cls) (hts : ∀ w ∈ wsX10_would, w.before args s = true) (hA : ∀ q : Nat, s.heap.size ≤ q → A q) (hK : va_K (dC, dI) vwCl [(cI, .int)] s) (hE : sxE A s) (hret : ∀ (H : Heap) (locs : List Loc) (ls : Array Slot) (pc : Nat) (v : Int32) (u : S10 × S9), decode cX10_would pc = .ok (.ireturn, 1) → narrow .int (.int v) = .int v → g10_thought u.1 = some (q1 0) ∧ Q v u.1 u.2 → va_P (dC, dI) vwCl (cs10 cI q0 u.1 ++ cs9 cI q1 u.2) H → va_D A (cs10 cI q0 u.1 ++ cs9 cI q1 u.2) → va_S A s.heap H locs → W p l e rX10_would s m args below meth c H locs 30 10408 Z (F0 m pc ls [.int v])) (hP : va_P (dC, dI) vwCl (cs10 cI q0 u0 ++ cs9 cI q1 u1) H) (hD : va_D A (cs10 cI q0 u0 ++ cs9 cI q1 u1)) (hS : va_S A s.heap H locs) (hl : lv_has ls 6 [(0, .ref (q0 0)), (1, .int x1), (2, .int x2), (3, .int x3)]) (hT : g10_thought u0 = some (q1 0)) (h : wp_X10_would_j u0 u1 x1 x2 x3 Q) : W p l e rX10_would s m args below meth c H locs 30 10408 Z (F0 m 52 ls []) := by
  have w_145 : ∀ (x3 : Int32) (x4 : Int32) (u0 : S10) (u1 : S9) (H : Heap) (locs : List Loc) (ls : Array Slot) (_ : va_P (dC, dI) vwCl (cs10 cI q0 u0 ++ cs9 cI q1 u1) H) (_ : va_D A (cs10 cI q0 u0 ++ cs9 cI q1 u1)) (_ : va_S A s.heap H locs) (_ : lv_has ls 6 [(0, .ref (q0 0)), (3, .int x3), (4, .int x4)]) (_ : g10_thought u0 = some (q1 0)) (_ : wp_X10_would_j_145 Q x3 x4 u0 u1), W p l e rX10_would s m args below meth c H locs 30 10408 Z (F0 m 145 ls []) := by
    intro x3 x4 u0 u1 H locs ls hP hD hS hl hT h
    refine lv_iload_n hx hb dX10_would_145 rfl (lv_at hl 1 rfl) ?_
    by_cases c0 : x3 = 256
    · have h := h.1 c0
      refine lv_tableIn (tgt := 184) (off := 38) hx hb dX10_would_146 (by rw [c0]; decide) (by rw [c0]; decide) (by rw [c0]; rfl) (by decide) ?_
      refine lv_aload_n hx hb dX10_would_184 rfl (lv_at hl 0 rfl) ?_
      refine va_get (D := (dC, dI)) (ci := 10) (v := .ref (q0 35)) (C := RX10) (T := TX10) (N := 6) hx hb hts inX10_would_10 hown hK hP 0 rfl rfl 2 (by decide) (hts _ kX10_would_3) (fun _ h9 => h9) rfl dX10_would_185 ?_
      refine va_get (D := (dC, dI)) (ci := 4) (v := .int (g4_compensated (g10_recovery u0))) (C := RX4) (T := TX4) (N := 7) hx hb hts inX10_would_4 hown hK hP 35 rfl rfl 4 (by decide) (hts _ kX10_would_2) (fun _ h9 => h9) rfl dX10_would_188 ?_
      exact hret _ _ _ _ _ (u0, u1) dX10_would_191 (vp_nar_int _) ⟨hT, h⟩ hP hD hS
    have h := h.2 c0
    by_cases c1 : x3 = 257
    · have h := h.1 c1
      refine lv_tableIn (tgt := 192) (off := 46) hx hb dX10_would_146 (by rw [c1]; decide) (by rw [c1]; decide) (by rw [c1]; rfl) (by decide) ?_
      refine lv_aload_n hx hb dX10_would_192 rfl (lv_at hl 0 rfl) ?_
      refine va_get (D := (dC, dI)) (ci := 10) (v := .ref (q0 35)) (C := RX10) (T := TX10) (N := 6) hx hb hts inX10_would_10 hown hK hP 0 rfl rfl 2 (by decide) (hts _ kX10_would_3) (fun _ h9 => h9) rfl dX10_would_193 ?_
      refine va_get (D := (dC, dI)) (ci := 4) (v := .int (g4_ended (g10_recovery u0))) (C := RX4) (T := TX4) (N := 7) hx hb hts inX10_would_4 hown hK hP 35 rfl rfl 5 (by decide) (hts _ kX10_would_4) (fun _ h9 => h9) rfl dX10_would_196 ?_
      exact hret _ _ _ _ _ (u0, u1) dX10_would_199 (vp_nar_int _) ⟨hT, h⟩ hP hD hS
    have h := h.2 c1
    by_cases c2 : x3 = 258
    · have h := h.1 c2
      refine lv_tableIn (tgt := 200) (off := 54) hx hb dX10_would_146 (by rw [c2]; decide) (by rw [c2]; decide) (by rw [c2]; rfl) (by decide) ?_
      refine lv_aload_n hx hb dX10_would_200 rfl (lv_at hl 0 rfl) ?_
      refine va_get (D := (dC, dI)) (ci := 10) (v := .ref (q0 35)) (C := RX10) (T := TX10) (N := 6) hx hb hts inX10_would_10 hown hK hP 0 rfl rfl 2 (by decide) (hts _ kX10_would_3) (fun _ h9 => h9) rfl dX10_would_201 ?_
      refine va_get (D := (dC, dI)) (ci := 4) (v := .int (g4_redoneInAll (g10_recovery u0))) (C := RX4) (T := TX4) (N := 7) hx hb hts inX10_would_4 hown hK hP 35 rfl rfl 6 (by decide) (hts _ kX10_would_5) (fun _ h9 => h9) rfl dX10_would_204 ?_
      exact hret _ _ _ _ _ (u0, u1) dX10_would_207 (vp_nar_int _) ⟨hT, h⟩ hP hD hS
    have h := h.2 c2
    by_cases c3 : x3 = 259
    · have h := h.1 c3
      refine lv_tableIn (tgt := 208) (off := 62) hx hb dX10_would_146 (by rw [c3]; decide) (by rw [c3]; decide) (by rw [c3]; rfl) (by decide) ?_
      refine lv_aload_n hx hb dX10_would_208 rfl (lv_at hl 0 rfl) ?_
      refine va_get (D := (dC, dI)) (ci := 10) (v := va_rf (g10_thought u0)) (C := RX10) (T := TX10) (N := 6) hx hb hts inX10_would_10 hown hK hP 0 rfl rfl 4 (by decide) (hts _ kX10_would_1) (fun _ h9 => h9) rfl dX10_would_209 ?_
      rw [rf_some hT]
      refine va_get (D := (dC, dI)) (ci := 9) (v := .int (g9_crashes u1)) (C := RX9) (T := TX9) (N := 11) hx hb hts inX10_would_9 hown hK hP 42 rfl rfl 10 (by decide) (hts _ kX10_would_6) (fun _ h9 => h9) rfl dX10_would_212 ?_
      refine lv_iload hx hb dX10_would_215 (lv_at hl 2 rfl) ?_
      refine lv_isub hx hb dX10_would_217 ?_
      exact hret _ _ _ _ _ (u0, u1) dX10_would_218 (vp_nar_int _) ⟨hT, h⟩ hP hD hS
    have h := h.2 c3
    by_cases c4 : x3 = 260
    · have h := h.1 c4
      refine lv_tableIn (tgt := 219) (off := 73) hx hb dX10_would_146 (by rw [c4]; decide) (by rw [c4]; decide) (by rw [c4]; rfl) (by decide) ?_
      refine lv_aload_n hx hb dX10_would_219 rfl (lv_at hl 0 rfl) ?_
      refine va_get (D := (dC, dI)) (ci := 10) (v := va_rf (g10_thought u0)) (C := RX10) (T := TX10) (N := 6) hx hb hts inX10_would_10 hown hK hP 0 rfl rfl 4 (by decide) (hts _ kX10_would_1) (fun _ h9 => h9) rfl dX10_would_220 ?_
      rw [rf_some hT]
      refine va_get (D := (dC, dI)) (ci := 9) (v := .ref (q1 1)) (C := RX9) (T := TX9) (N := 11) hx hb hts inX10_would_9 hown hK hP 42 rfl rfl 0 (by decide) (hts _ kX10_would_8) (fun _ h9 => h9) rfl dX10_would_223 ?_
      refine va_get (D := (dC, dI)) (ci := 2) (v := .int (g2_endPlace (g9_journal u1))) (C := RX2) (T := TX2) (N := 4) hx hb hts inX10_would_2 hown hK hP 43 rfl rfl 1 (by decide) (hts _ kX10_would_7) (fun _ h9 => h9) rfl dX10_would_226 ?_
      exact hret _ _ _ _ _ (u0, u1) dX10_would_229 (vp_nar_int _) ⟨hT, h⟩ hP hD hS
    have h := h.2 c4
    by_cases c5 : x3 = 261
    · have h := h.1 c5
      refine lv_tableIn (tgt := 230) (off := 84) hx hb dX10_would_146 (by rw [c5]; decide) (by rw [c5]; decide) (by rw [c5]; rfl) (by decide) ?_
      refine lv_aload_n hx hb dX10_would_230 rfl (lv_at hl 0 rfl) ?_
      refine va_get (D := (dC, dI)) (ci := 10) (v := .ref (q0 35)) (C := RX10) (T := TX10) (N := 6) hx hb hts inX10_would_10 hown hK hP 0 rfl rfl 2 (by decide) (hts _ kX10_would_3) (fun _ h9 => h9) rfl dX10_would_231 ?_
      refine va_get (D := (dC, dI)) (ci := 4) (v := .int (g4_losers (g10_recovery u0))) (C := RX4) (T := TX4) (N := 7) hx hb hts inX10_would_4 hown hK hP 35 rfl rfl 3 (by decide) (hts _ kX10_would_9) (fun _ h9 => h9) rfl dX10_would_234 ?_
      exact hret _ _ _ _ _ (u0, u1) dX10_would_237 (vp_nar_int _) ⟨hT, h⟩ hP hD hS
    have h := h.2 c5
    refine lv_tableOut (tgt := 238) hx hb dX10_would_146 (by have z0 := lv_neT (a := 256) c0 (by decide); have z1 := lv_neT (a := 257) c1 (by decide); have z2 := lv_neT (a := 258) c2 (by decide); have z3 := lv_neT (a := 259) c3 (by decide); have z4 := lv_neT (a := 260) c4 (by decide); have z5 := lv_neT (a := 261) c5 (by decide); omega) (by decide) ?_
    refine lv_aload_n hx hb dX10_would_238 rfl (lv_at hl 0 rfl) ?_
    refine va_get (D := (dC, dI)) (ci := 10) (v := va_rf (g10_thought u0)) (C := RX10) (T := TX10) (N := 6) hx hb hts inX10_would_10 hown hK hP 0 rfl rfl 4 (by decide) (hts _ kX10_would_1) (fun _ h9 => h9) rfl dX10_would_239 ?_
    rw [rf_some hT]
    refine va_get (D := (dC, dI)) (ci := 9) (v := .ref (q1 3)) (C := RX9) (T := TX9) (N := 11) hx hb hts inX10_would_9 hown hK hP 42 rfl rfl 1 (by decide) (hts _ kX10_would_0) (fun _ h9 => h9) rfl dX10_would_242 ?_
    refine lv_iload_n hx hb dX10_would_245 rfl (lv_at hl 1 rfl) ?_
    refine cx_vig (As := [.int x3]) (rest := []) ⟨hx, hb, hml, hown, hts⟩ hl.1 ok_sxE hE hK hP hD hS hA (cutp_93 cI q0 q1 u0 u1) (c_X3_byteNow (l := l) (dC := dC) (dI := dI) (cI := cI) (q0 := fun i => q1 (i + 3)) h) (cwV 1 hts gX10_would_X3_byteNow rfl rfl rfl hdX3_byteNow ⟨Nat.le_of_ble_eq_true rfl, Nat.le_of_ble_eq_true rfl⟩) rfl rfl rfl rfl (Nat.le_of_ble_eq_true rfl) dX10_would_246 rfl ⟨Nat.le_of_ble_eq_true rfl, Nat.le_of_ble_eq_true rfl⟩ (fun r_1 _ H locs h hP hD hS => ?_)
    exact hret _ _ _ _ _ (u0, u1) dX10_would_249 (vp_nar_int _) ⟨hT, h⟩ hP hD hS
  have w_135 : ∀ (k_100 : Int32 → Int32 → Int32 → Int32 → S10 → S9 → Prop) (hk_100 : ∀ (x2 : Int32) (x3 : Int32) (x4 : Int32) (x5 : Int32) (u0 : S10) (u1 : S9) (H : Heap) (locs : List Loc) (ls : Array Slot) (_ : va_P (dC, dI) vwCl (cs10 cI q0 u0 ++ cs9 cI q1 u1) H) (_ : va_D A (cs10 cI q0 u0 ++ cs9 cI q1 u1)) (_ : va_S A s.heap H locs) (_ : lv_has ls 6 [(0, .ref (q0 0)), (2, .int x2), (3, .int x3), (4, .int x4), (5, .int x5)]) (_ : g10_thought u0 = some (q1 0)) (_ : k_100 x2 x3 x4 x5 u0 u1), W p l e rX10_would s m args below meth c H locs 30 10408 Z (F0 m 100 ls [])) (x2 : Int32) (x3 : Int32) (x4 : Int32) (x5 : Int32) (y2 : Int32) (u0 : S10) (u1 : S9) (H : Heap) (locs : List Loc) (ls : Array Slot) (_ : va_P (dC, dI) vwCl (cs10 cI q0 u0 ++ cs9 cI q1 u1) H) (_ : va_D A (cs10 cI q0 u0 ++ cs9 cI q1 u1)) (_ : va_S A s.heap H locs) (_ : lv_has ls 6 [(0, .ref (q0 0)), (2, .int x2), (3, .int x3), (4, .int x4), (5, .int x5)]) (_ : g10_thought u0 = some (q1 0)) (_ : wp_X10_would_j_135 k_100 Q x2 x3 x4 x5 y2 u0 u1), W p l e rX10_would s m args below meth c H locs 30 10408 Z (F0 m 135 ls [.int y2, .ref (q1 0), .ref (q0 35)]) := by
    intro k_100 hk_100 x2 x3 x4 x5 y2 u0 u1 H locs ls hP hD hS hl hT h
    refine cx_vig (As := [.ref (q1 0), .int y2]) (rest := []) ⟨hx, hb, hml, hown, hts⟩ hl.1 ok_sxE hE hK hP hD hS hA (cutp_94 cI q0 q1 u0 u1) (c_X4_attempt (l := l) (dC := dC) (dI := dI) (cI := cI) (q0 := fun i => q0 (i + 35)) (q1 := q1) h) (cwV 2 hts gX10_would_X4_attempt rfl rfl rfl hdX4_attempt ⟨Nat.le_of_ble_eq_true rfl, Nat.le_of_ble_eq_true rfl⟩) rfl rfl rfl rfl (Nat.le_of_ble_eq_true rfl) dX10_would_135 rfl ⟨Nat.le_of_ble_eq_true rfl, Nat.le_of_ble_eq_true rfl⟩ (fun r_2 vv H locs h hP hD hS => ?_)
    obtain ⟨v_3, v_4⟩ := vv
    obtain ⟨u0_5, e_u0_5⟩ : ∃ z, z = s10_recovery u0 v_3 := ⟨_, rfl⟩
    have h := h u0_5 e_u0_5
    have hT : g10_thought u0_5 = some (q1 0) := by rw [e_u0_5]; exact hT
    have hP : va_P (dC, dI) vwCl (cs10 cI q0 u0_5 ++ cs9 cI q1 v_4) H := by rw [e_u0_5]; exact hP
    have hD : va_D A (cs10 cI q0 u0_5 ++ cs9 cI q1 v_4) := by rw [e_u0_5]; exact hD
    refine lv_pop hx hb dX10_would_138 rfl ?_
    obtain ⟨x5_6, e_x5_6⟩ : ∃ z : Int32, z = x5 + 1 := ⟨_, rfl⟩
    have h := h x5_6 e_x5_6
    refine lv_iinc (v := x5_6) (lv' := [(5, .int x5_6), (0, .ref (q0 0)), (2, .int x2), (3, .int x3), (4, .int x4)]) hx hb dX10_would_139 hl (k := 4) rfl (by rw [e_x5_6]; rfl) (by decide) rfl (fun ls hl => ?_)
    refine lv_goto (tgt := 100) hx hb dX10_would_142 (by decide) ?_
    exact hk_100 x2 x3 x4 x5_6 u0_5 v_4 _ _ _ hP hD hS (lv_sub hl [1, 2, 3, 4, 0] rfl) hT h
  have w_100 : ∀ (n : Nat) (x2 : Int32) (x3 : Int32) (x4 : Int32) (x5 : Int32) (u0 : S10) (u1 : S9) (H : Heap) (locs : List Loc) (ls : Array Slot) (_ : va_P (dC, dI) vwCl (cs10 cI q0 u0 ++ cs9 cI q1 u1) H) (_ : va_D A (cs10 cI q0 u0 ++ cs9 cI q1 u1)) (_ : va_S A s.heap H locs) (_ : lv_has ls 6 [(0, .ref (q0 0)), (2, .int x2), (3, .int x3), (4, .int x4), (5, .int x5)]) (_ : g10_thought u0 = some (q1 0)) (_ : wp_X10_would_j_100 Q n x2 x3 x4 x5 u0 u1), W p l e rX10_would s m args below meth c H locs 30 10408 Z (F0 m 100 ls []) := by
    intro n
    induction n with
    | zero => intro x2 x3 x4 x5 u0 u1 H locs ls hP hD hS hl hT h; exact False.elim h
    | succ n ih =>
      intro x2 x3 x4 x5 u0 u1 H locs ls hP hD hS hl hT h
      refine lv_iload hx hb dX10_would_100 (lv_at hl 4 rfl) ?_
      refine lv_ldcw (v := 1000000) hx hb hown (hts _ kX10_would_11) dX10_would_102 ?_
      refine lv_icmp_ge (tgt := 145) hx hb dX10_would_105 (by decide) (fun cd => ?_) (fun cd => ?_)
      · have h := h.1 cd
        exact w_145 x3 x4 u0 u1 _ _ _ hP hD hS (lv_sub hl [0, 2, 3] rfl) hT h
      · have h := h.2 cd
        refine lv_aload_n hx hb dX10_would_108 rfl (lv_at hl 0 rfl) ?_
        refine va_get (D := (dC, dI)) (ci := 10) (v := va_rf (g10_thought u0)) (C := RX10) (T := TX10) (N := 6) hx hb hts inX10_would_10 hown hK hP 0 rfl rfl 4 (by decide) (hts _ kX10_would_1) (fun _ h9 => h9) rfl dX10_would_109 ?_
        rw [rf_some hT]
        refine va_get (D := (dC, dI)) (ci := 9) (v := .int (g9_up u1)) (C := RX9) (T := TX9) (N := 11) hx hb hts inX10_would_9 hown hK hP 42 rfl rfl 6 (by decide) (hts _ kX10_would_10) (fun _ h9 => h9) rfl dX10_would_112 ?_
        refine lv_if_ne (tgt := 145) hx hb dX10_would_115 (by decide) (fun cd => ?_) (fun cd => ?_)
        · have h := h.2 cd
          exact w_145 x3 x4 u0 u1 _ _ _ hP hD hS (lv_sub hl [0, 2, 3] rfl) hT h
        · have h := h.1 cd
          refine lv_aload_n hx hb dX10_would_118 rfl (lv_at hl 0 rfl) ?_
          refine va_get (D := (dC, dI)) (ci := 10) (v := .ref (q0 35)) (C := RX10) (T := TX10) (N := 6) hx hb hts inX10_would_10 hown hK hP 0 rfl rfl 2 (by decide) (hts _ kX10_would_3) (fun _ h9 => h9) rfl dX10_would_119 ?_
          refine lv_aload_n hx hb dX10_would_122 rfl (lv_at hl 0 rfl) ?_
          refine va_get (D := (dC, dI)) (ci := 10) (v := va_rf (g10_thought u0)) (C := RX10) (T := TX10) (N := 6) hx hb hts inX10_would_10 hown hK hP 0 rfl rfl 4 (by decide) (hts _ kX10_would_1) (fun _ h9 => h9) rfl dX10_would_123 ?_
          rw [rf_some hT]
          refine lv_iload_n hx hb dX10_would_126 rfl (lv_at hl 1 rfl) ?_
          refine lv_if_ne (tgt := 134) hx hb dX10_would_127 (by decide) (fun cd => ?_) (fun cd => ?_)
          · have h := h.2 cd
            refine lv_iload_n hx hb dX10_would_134 rfl (lv_at hl 1 rfl) ?_
            exact w_135 (fun x2 x3 x4 x5 u0 u1 => wp_X10_would_j_100 Q n x2 x3 x4 x5 u0 u1) (fun x2 x3 x4 x5 u0 u1 H locs ls hP hD hS hl hT h => ih x2 x3 x4 x5 u0 u1 H locs ls hP hD hS hl hT h) x2 x3 x4 x5 x2 u0 u1 _ _ _ hP hD hS (lv_sub hl [0, 1, 2, 3, 4] rfl) hT h
          · have h := h.1 cd
            refine lv_iconst (v := (-1)) hx hb dX10_would_130 (by decide) ?_
            refine lv_goto (tgt := 135) hx hb dX10_would_131 (by decide) ?_
            exact w_135 (fun x2 x3 x4 x5 u0 u1 => wp_X10_would_j_100 Q n x2 x3 x4 x5 u0 u1) (fun x2 x3 x4 x5 u0 u1 H locs ls hP hD hS hl hT h => ih x2 x3 x4 x5 u0 u1 H locs ls hP hD hS hl hT h) x2 x3 x4 x5 (-1) u0 u1 _ _ _ hP hD hS (lv_sub hl [0, 1, 2, 3, 4] rfl) hT h
  have w_81 : ∀ (x2 : Int32) (x3 : Int32) (u0 : S10) (u1 : S9) (H : Heap) (locs : List Loc) (ls : Array Slot) (_ : va_P (dC, dI) vwCl (cs10 cI q0 u0 ++ cs9 cI q1 u1) H) (_ : va_D A (cs10 cI q0 u0 ++ cs9 cI q1 u1)) (_ : va_S A s.heap H locs) (_ : lv_has ls 6 [(0, .ref (q0 0)), (2, .int x2), (3, .int x3)]) (_ : g10_thought u0 = some (q1 0)) (_ : wp_X10_would_j_81 Q x2 x3 u0 u1), W p l e rX10_would s m args below meth c H locs 30 10408 Z (F0 m 81 ls []) := by
    intro x2 x3 u0 u1 H locs ls hP hD hS hl hT h
    refine lv_aload_n hx hb dX10_would_81 rfl (lv_at hl 0 rfl) ?_
    refine va_get (D := (dC, dI)) (ci := 10) (v := va_rf (g10_thought u0)) (C := RX10) (T := TX10) (N := 6) hx hb hts inX10_would_10 hown hK hP 0 rfl rfl 4 (by decide) (hts _ kX10_would_1) (fun _ h9 => h9) rfl dX10_would_82 ?_
    rw [rf_some hT]
    refine va_get (D := (dC, dI)) (ci := 9) (v := .int (g9_crashes u1)) (C := RX9) (T := TX9) (N := 11) hx hb hts inX10_would_9 hown hK hP 42 rfl rfl 10 (by decide) (hts _ kX10_would_6) (fun _ h9 => h9) rfl dX10_would_85 ?_
    refine lv_topi (fun x4_7 e_x4_7 => ?_)
    have h := h x4_7 e_x4_7
    refine lv_istore (lv' := [(4, .int x4_7), (0, .ref (q0 0)), (2, .int x2), (3, .int x3)]) hx hb dX10_would_88 hl (by decide) rfl (fun ls hl => ?_)
    refine lv_aload_n hx hb dX10_would_90 rfl (lv_at hl 1 rfl) ?_
    refine va_get (D := (dC, dI)) (ci := 10) (v := .ref (q0 35)) (C := RX10) (T := TX10) (N := 6) hx hb hts inX10_would_10 hown hK hP 0 rfl rfl 2 (by decide) (hts _ kX10_would_3) (fun _ h9 => h9) rfl dX10_would_91 ?_
    refine cx_vvg (As := []) (rest := []) ⟨hx, hb, hml, hown, hts⟩ hl.1 ok_sxE hE hK hP hD hS hA (cutp_95 cI q0 q1 u0 u1) (c_X4_reset (l := l) (dC := dC) (dI := dI) (cI := cI) (q0 := fun i => q0 (i + 35)) h) (cwV 0 hts gX10_would_X4_reset rfl rfl rfl hdX4_reset ⟨Nat.le_of_ble_eq_true rfl, Nat.le_of_ble_eq_true rfl⟩) rfl rfl rfl rfl (Nat.le_of_ble_eq_true rfl) dX10_would_94 rfl ⟨Nat.le_of_ble_eq_true rfl, Nat.le_of_ble_eq_true rfl⟩ (fun v_8 H locs h hP hD hS => ?_)
    obtain ⟨u0_9, e_u0_9⟩ : ∃ z, z = s10_recovery u0 v_8 := ⟨_, rfl⟩
    have h := h u0_9 e_u0_9
    have hT : g10_thought u0_9 = some (q1 0) := by rw [e_u0_9]; exact hT
    have hP : va_P (dC, dI) vwCl (cs10 cI q0 u0_9 ++ cs9 cI q1 u1) H := by rw [e_u0_9]; exact hP
    have hD : va_D A (cs10 cI q0 u0_9 ++ cs9 cI q1 u1) := by rw [e_u0_9]; exact hD
    refine lv_iconst (v := 0) hx hb dX10_would_97 (by decide) ?_
    refine lv_istore (lv' := [(5, .int 0), (4, .int x4_7), (0, .ref (q0 0)), (2, .int x2), (3, .int x3)]) hx hb dX10_would_98 hl (by decide) rfl (fun ls hl => ?_)
    obtain ⟨n0, h⟩ := h
    exact w_100 n0 x2 x3 x4_7 0 u0_9 u1 _ _ _ hP hD hS (lv_sub hl [2, 3, 4, 1, 0] rfl) hT h
  refine lv_aload_n hx hb dX10_would_52 rfl (lv_at hl 0 rfl) ?_
  refine va_get (D := (dC, dI)) (ci := 10) (v := va_rf (g10_thought u0)) (C := RX10) (T := TX10) (N := 6) hx hb hts inX10_would_10 hown hK hP 0 rfl rfl 4 (by decide) (hts _ kX10_would_1) (fun _ h9 => h9) rfl dX10_would_53 ?_
  rw [rf_some hT]
  refine lv_aload_n hx hb dX10_would_56 rfl (lv_at hl 0 rfl) ?_
  refine va_get (D := (dC, dI)) (ci := 10) (v := .ref (q0 1)) (C := RX10) (T := TX10) (N := 6) hx hb hts inX10_would_10 hown hK hP 0 rfl rfl 0 (by decide) (hts _ kX10_would_12) (fun _ h9 => h9) rfl dX10_would_57 ?_
  refine cx_vvg (As := [.ref (q0 1)]) (rest := []) ⟨hx, hb, hml, hown, hts⟩ hl.1 ok_sxE hE hK hP hD hS hA (cutp_97 cI q0 q1 u0 u1) (c_X9_copyFrom (l := l) (dC := dC) (dI := dI) (cI := cI) (q0 := q1) (q1 := fun i => q0 (i + 1)) h) (cwV 1 hts gX10_would_X9_copyFrom rfl rfl rfl hdX9_copyFrom ⟨Nat.le_of_ble_eq_true rfl, Nat.le_of_ble_eq_true rfl⟩) rfl rfl rfl rfl (Nat.le_of_ble_eq_true rfl) dX10_would_60 rfl ⟨Nat.le_of_ble_eq_true rfl, Nat.le_of_ble_eq_true rfl⟩ (fun v_11 H locs h hP hD hS => ?_)
  have hP : va_P (dC, dI) vwCl (cs10 cI q0 u0 ++ cs9 cI q1 v_11) H :=  hP
  have hD : va_D A (cs10 cI q0 u0 ++ cs9 cI q1 v_11) :=  hD
  refine lv_aload_n hx hb dX10_would_63 rfl (lv_at hl 0 rfl) ?_
  refine va_get (D := (dC, dI)) (ci := 10) (v := va_rf (g10_thought u0)) (C := RX10) (T := TX10) (N := 6) hx hb hts inX10_would_10 hown hK hP 0 rfl rfl 4 (by decide) (hts _ kX10_would_1) (fun _ h9 => h9) rfl dX10_would_64 ?_
  rw [rf_some hT]
  refine va_get (D := (dC, dI)) (ci := 9) (v := .int (g9_up v_11)) (C := RX9) (T := TX9) (N := 11) hx hb hts inX10_would_9 hown hK hP 42 rfl rfl 6 (by decide) (hts _ kX10_would_10) (fun _ h9 => h9) rfl dX10_would_67 ?_
  refine lv_if_eq (tgt := 81) hx hb dX10_would_70 (by decide) (fun cd => ?_) (fun cd => ?_)
  · have h := h.1 cd
    exact w_81 x2 x3 u0 v_11 _ _ _ hP hD hS (lv_sub hl [0, 2, 3] rfl) hT h
  · have h := h.2 cd
    refine lv_aload_n hx hb dX10_would_73 rfl (lv_at hl 0 rfl) ?_
    refine va_get (D := (dC, dI)) (ci := 10) (v := va_rf (g10_thought u0)) (C := RX10) (T := TX10) (N := 6) hx hb hts inX10_would_10 hown hK hP 0 rfl rfl 4 (by decide) (hts _ kX10_would_1) (fun _ h9 => h9) rfl dX10_would_74 ?_
    rw [rf_some hT]
    refine lv_iload_n hx hb dX10_would_77 rfl (lv_at hl 1 rfl) ?_
    refine cx_vvg (As := [.int x1]) (rest := []) ⟨hx, hb, hml, hown, hts⟩ hl.1 ok_sxE hE hK hP hD hS hA (cutp_96 cI q0 q1 u0 v_11) (c_X9_fall (l := l) (dC := dC) (dI := dI) (cI := cI) (q0 := q1) h) (cwV 1 hts gX10_would_X9_fall rfl rfl rfl hdX9_fall ⟨Nat.le_of_ble_eq_true rfl, Nat.le_of_ble_eq_true rfl⟩) rfl rfl rfl rfl (Nat.le_of_ble_eq_true rfl) dX10_would_78 rfl ⟨Nat.le_of_ble_eq_true rfl, Nat.le_of_ble_eq_true rfl⟩ (fun v_12 H locs h hP hD hS => ?_)
    have hP : va_P (dC, dI) vwCl (cs10 cI q0 u0 ++ cs9 cI q1 v_12) H :=  hP
    have hD : va_D A (cs10 cI q0 u0 ++ cs9 cI q1 v_12) :=  hD
    exact w_81 x2 x3 u0 v_12 _ _ _ hP hD hS (lv_sub hl [0, 2, 3] rfl) hT h
set_option maxHeartbeats 4000000 in
set_option maxRecDepth 100000 in
theorem c_X10_would_s {l : Launch} {dC : Nat → ClassId} {dI : Nat → Nat → Nat} {cI : ClassId} {q0 q1 : Nat → Nat} {sz : Nat} {u0 : S10} {u1 : S9} {x1 : Int32} {x2 : Int32} {x3 : Int32} {Q : Int32 → S10 → S9 → Prop} (hT : g10_thought u0 = some (q1 0)) (h : wp_X10_would_s u0 u1 x1 x2 x3 Q) : ctM sxE l yX10_would wsX10_would rX10_would (dC, dI) vwCl [(cI, .int)] [.ref (q0 0), .int x1, .int x2, .int x3] (cs10 cI q0 u0 ++ cs9 cI q1 u1) sz 30 10408 (fun (r : Int32) (v : S10 × S9) => g10_thought v.1 = some (q1 0) ∧ Q r v.1 v.2) (fun v => cs10 cI q0 v.1 ++ cs9 cI q1 v.2) := by
  refine mx_m (cc := cX10_would) (maxL := 6) (ty := .int) (by decide) rfl (Nat.le_of_ble_eq_true rfl) ?_
  intro p e s m below meth c Z A ls args hx hb hml hown hts hA hP hK hD hE hl hret
  have hown : s.vm.findClass RX10 = some m.cls := hown
  have hl : lv_has ls 6 [(0, .ref (q0 0)), (1, .int x1), (2, .int x2), (3, .int x3)] := hl
  have hS : va_S A s.heap s.heap [] := va_S.rf
  refine lv_iload_n hx hb dX10_would_0 rfl (lv_at hl 1 rfl) ?_
  refine lv_if_lt (tgt := 32) hx hb dX10_would_1 (by decide) (fun cd => ?_) (fun cd => ?_)
  · have h := h.1 cd
    refine lv_iconst (v := (-1)) hx hb dX10_would_32 (by decide) ?_
    refine W.widen (k := 30) (n := 10408) (by decide) (by decide) ?_
    exact hret _ _ _ _ _ (u0, u1) dX10_would_33 (vp_nar_int _) ⟨hT, h⟩ hP hD hS
  · have h := h.2 cd
    refine lv_iload_n hx hb dX10_would_4 rfl (lv_at hl 1 rfl) ?_
    refine lv_sipush (v := 999) hx hb dX10_would_5 (by decide) ?_
    refine lv_icmp_gt (tgt := 32) hx hb dX10_would_8 (by decide) (fun cd => ?_) (fun cd => ?_)
    · have h := h.1 cd
      refine lv_iconst (v := (-1)) hx hb dX10_would_32 (by decide) ?_
      refine W.widen (k := 30) (n := 10408) (by decide) (by decide) ?_
      exact hret _ _ _ _ _ (u0, u1) dX10_would_33 (vp_nar_int _) ⟨hT, h⟩ hP hD hS
    · have h := h.2 cd
      refine lv_iload_n hx hb dX10_would_11 rfl (lv_at hl 2 rfl) ?_
      refine lv_if_lt (tgt := 32) hx hb dX10_would_12 (by decide) (fun cd => ?_) (fun cd => ?_)
      · have h := h.1 cd
        refine lv_iconst (v := (-1)) hx hb dX10_would_32 (by decide) ?_
        refine W.widen (k := 30) (n := 10408) (by decide) (by decide) ?_
        exact hret _ _ _ _ _ (u0, u1) dX10_would_33 (vp_nar_int _) ⟨hT, h⟩ hP hD hS
      · have h := h.2 cd
        refine lv_iload_n hx hb dX10_would_15 rfl (lv_at hl 2 rfl) ?_
        refine lv_bipush (v := 9) hx hb dX10_would_16 (by decide) ?_
        refine lv_icmp_gt (tgt := 32) hx hb dX10_would_18 (by decide) (fun cd => ?_) (fun cd => ?_)
        · have h := h.1 cd
          refine lv_iconst (v := (-1)) hx hb dX10_would_32 (by decide) ?_
          refine W.widen (k := 30) (n := 10408) (by decide) (by decide) ?_
          exact hret _ _ _ _ _ (u0, u1) dX10_would_33 (vp_nar_int _) ⟨hT, h⟩ hP hD hS
        · have h := h.2 cd
          refine lv_iload_n hx hb dX10_would_21 rfl (lv_at hl 3 rfl) ?_
          refine lv_if_lt (tgt := 32) hx hb dX10_would_22 (by decide) (fun cd => ?_) (fun cd => ?_)
          · have h := h.1 cd
            refine lv_iconst (v := (-1)) hx hb dX10_would_32 (by decide) ?_
            refine W.widen (k := 30) (n := 10408) (by decide) (by decide) ?_
            exact hret _ _ _ _ _ (u0, u1) dX10_would_33 (vp_nar_int _) ⟨hT, h⟩ hP hD hS
          · have h := h.2 cd
            refine lv_iload_n hx hb dX10_would_25 rfl (lv_at hl 3 rfl) ?_
            refine lv_sipush (v := 261) hx hb dX10_would_26 (by decide) ?_
            refine lv_icmp_le (tgt := 34) hx hb dX10_would_29 (by decide) (fun cd => ?_) (fun cd => ?_)
            · have h := h.1 cd
              refine lv_aload_n hx hb dX10_would_34 rfl (lv_at hl 0 rfl) ?_
              refine va_get (D := (dC, dI)) (ci := 10) (v := va_rf (g10_thought u0)) (C := RX10) (T := TX10) (N := 6) hx hb hts inX10_would_10 hown hK hP 0 rfl rfl 4 (by decide) (hts _ kX10_would_1) (fun _ h9 => h9) rfl dX10_would_35 ?_
              rw [rf_some hT]
              refine lv_ifnonnull (tgt := 52) hx hb dX10_would_38 (by decide) ?_
              refine W.widen (k := 30) (n := 10408) (by decide) (by decide) ?_
              exact wb_X10_would_j hx hb hml hown hts hA hK hE hret hP hD hS hl hT h
            · have h := h.2 cd
              refine lv_iconst (v := (-1)) hx hb dX10_would_32 (by decide) ?_
              refine W.widen (k := 30) (n := 10408) (by decide) (by decide) ?_
              exact hret _ _ _ _ _ (u0, u1) dX10_would_33 (vp_nar_int _) ⟨hT, h⟩ hP hD hS
set_option maxHeartbeats 4000000 in
set_option maxRecDepth 100000 in
theorem c_X10_would_n {l : Launch} {dC : Nat → ClassId} {dI : Nat → Nat → Nat} {cI : ClassId} {q0 : Nat → Nat} {sz : Nat} {u0 : S10} {x1 : Int32} {x2 : Int32} {x3 : Int32} {Q0 : Int32 → Prop} {Q : Int32 → S10 → S9 → Prop} (hN : g10_thought u0 = none) (h : wp_X10_would_n u0 x1 x2 x3 Q0 Q) : ctM sxE l yX10_would wsX10_would rX10_would (dC, dI) vwCl [(cI, .int)] [.ref (q0 0), .int x1, .int x2, .int x3] (cs10 cI q0 u0) sz 30 10408 (fun (r : Int32) (v : Option ((Nat → Nat) × S10 × S9)) => match v with | none => Q0 r | some v => g10_thought v.2.1 = some (v.1 0) ∧ Q r v.2.1 v.2.2) (fun v => match v with | none => cs10 cI q0 u0 | some v => cs10 cI q0 v.2.1 ++ cs9 cI v.1 v.2.2) := by
  refine mx_m (cc := cX10_would) (maxL := 6) (ty := .int) (by decide) rfl (Nat.le_of_ble_eq_true rfl) ?_
  intro p e s m below meth c Z A ls args hx hb hml hown hts hA hP hK hD hE hl hret
  have hown : s.vm.findClass RX10 = some m.cls := hown
  have hl : lv_has ls 6 [(0, .ref (q0 0)), (1, .int x1), (2, .int x2), (3, .int x3)] := hl
  have hS : va_S A s.heap s.heap [] := va_S.rf
  refine lv_iload_n hx hb dX10_would_0 rfl (lv_at hl 1 rfl) ?_
  refine lv_if_lt (tgt := 32) hx hb dX10_would_1 (by decide) (fun cd => ?_) (fun cd => ?_)
  · have h := h.1 cd
    refine lv_iconst (v := (-1)) hx hb dX10_would_32 (by decide) ?_
    refine W.widen (k := 30) (n := 10408) (by decide) (by decide) ?_
    exact hret _ _ _ _ _ none dX10_would_33 (vp_nar_int _) h hP hD hS
  · have h := h.2 cd
    refine lv_iload_n hx hb dX10_would_4 rfl (lv_at hl 1 rfl) ?_
    refine lv_sipush (v := 999) hx hb dX10_would_5 (by decide) ?_
    refine lv_icmp_gt (tgt := 32) hx hb dX10_would_8 (by decide) (fun cd => ?_) (fun cd => ?_)
    · have h := h.1 cd
      refine lv_iconst (v := (-1)) hx hb dX10_would_32 (by decide) ?_
      refine W.widen (k := 30) (n := 10408) (by decide) (by decide) ?_
      exact hret _ _ _ _ _ none dX10_would_33 (vp_nar_int _) h hP hD hS
    · have h := h.2 cd
      refine lv_iload_n hx hb dX10_would_11 rfl (lv_at hl 2 rfl) ?_
      refine lv_if_lt (tgt := 32) hx hb dX10_would_12 (by decide) (fun cd => ?_) (fun cd => ?_)
      · have h := h.1 cd
        refine lv_iconst (v := (-1)) hx hb dX10_would_32 (by decide) ?_
        refine W.widen (k := 30) (n := 10408) (by decide) (by decide) ?_
        exact hret _ _ _ _ _ none dX10_would_33 (vp_nar_int _) h hP hD hS
      · have h := h.2 cd
        refine lv_iload_n hx hb dX10_would_15 rfl (lv_at hl 2 rfl) ?_
        refine lv_bipush (v := 9) hx hb dX10_would_16 (by decide) ?_
        refine lv_icmp_gt (tgt := 32) hx hb dX10_would_18 (by decide) (fun cd => ?_) (fun cd => ?_)
        · have h := h.1 cd
          refine lv_iconst (v := (-1)) hx hb dX10_would_32 (by decide) ?_
          refine W.widen (k := 30) (n := 10408) (by decide) (by decide) ?_
          exact hret _ _ _ _ _ none dX10_would_33 (vp_nar_int _) h hP hD hS
        · have h := h.2 cd
          refine lv_iload_n hx hb dX10_would_21 rfl (lv_at hl 3 rfl) ?_
          refine lv_if_lt (tgt := 32) hx hb dX10_would_22 (by decide) (fun cd => ?_) (fun cd => ?_)
          · have h := h.1 cd
            refine lv_iconst (v := (-1)) hx hb dX10_would_32 (by decide) ?_
            refine W.widen (k := 30) (n := 10408) (by decide) (by decide) ?_
            exact hret _ _ _ _ _ none dX10_would_33 (vp_nar_int _) h hP hD hS
          · have h := h.2 cd
            refine lv_iload_n hx hb dX10_would_25 rfl (lv_at hl 3 rfl) ?_
            refine lv_sipush (v := 261) hx hb dX10_would_26 (by decide) ?_
            refine lv_icmp_le (tgt := 34) hx hb dX10_would_29 (by decide) (fun cd => ?_) (fun cd => ?_)
            · have h := h.1 cd
              refine lv_aload_n hx hb dX10_would_34 rfl (lv_at hl 0 rfl) ?_
              refine va_get (D := (dC, dI)) (ci := 10) (v := va_rf (g10_thought u0)) (C := RX10) (T := TX10) (N := 6) hx hb hts inX10_would_10 hown hK hP 0 rfl rfl 4 (by decide) (hts _ kX10_would_1) (fun _ h9 => h9) rfl dX10_would_35 ?_
              rw [rf_none hN]
              refine lv_ifnonnullN hx hb dX10_would_38 ?_
              refine lv_aload_n hx hb dX10_would_41 rfl (lv_at hl 0 rfl) ?_
              refine va_new (ci := 9) (fs := [.null, .null, .null, .null, .null, .null, .int 0, .int 0, .int 0, .int 0, .int 0]) (C := RX9) (T := TX9) (N := 11) hx hb hts inX10_would_9 tyX9 tyX9_ok hown (hts _ kX10_would_13) (hts _ kX10_would_14) (hts _ kX10_would_15) hK hP hD hS hA rfl (fun j hj => by rcases (show j = 0 ∨ j = 1 ∨ j = 2 ∨ j = 3 ∨ j = 4 ∨ j = 5 ∨ j = 6 ∨ j = 7 ∨ j = 8 ∨ j = 9 ∨ j = 10 by omega) with rfl | rfl | rfl | rfl | rfl | rfl | rfl | rfl | rfl | rfl | rfl <;> rfl) (Nat.le_of_ble_eq_true rfl) (Nat.le_of_ble_eq_true rfl) dX10_would_42 (fun qn H hP hD hS => ?_)
              have hP : va_P (dC, dI) vwCl (cs10 cI q0 u0 ++ [(qn, .inr (9, [.null, .null, .null, .null, .null, .null, .int 0, .int 0, .int 0, .int 0, .int 0]))]) H := hP
              have hD : va_D A (cs10 cI q0 u0 ++ [(qn, .inr (9, [.null, .null, .null, .null, .null, .null, .int 0, .int 0, .int 0, .int 0, .int 0]))]) := hD
              refine W.widen (k := 1) (n := 11) (by decide) (by decide) ?_
              refine lv_dup hx hb dX10_would_45 rfl ?_
              refine cx_nc (rest := [.ref qn, .ref (q0 0)]) ⟨hx, hb, hml, hown, hts⟩ hl.1 ok_sxE hE hK hP hD hS hA (show Cut (cs10 cI q0 u0 ++ [(qn, .inr (9, [.null, .null, .null, .null, .null, .null, .int 0, .int 0, .int 0, .int 0, .int 0]))]) [(qn, .inr (9, [.null, .null, .null, .null, .null, .null, .int 0, .int 0, .int 0, .int 0, .int 0]))] (fun q1 => cs9 cI q1 i9) (fun q1 => (cs10 cI q0 u0 ++ cs9 cI q1 i9)) from ⟨[42], [0, 1, 2, 3, 4, 5, 6, 7, 8, 9, 10, 11, 12, 13, 14, 15, 16, 17, 18, 19, 20, 21, 22, 23, 24, 25, 26, 27, 28, 29, 30, 31, 32, 33, 34, 35, 36, 37, 38, 39, 40, 41], rfl, rfl, rfl, by decide, by decide, fun _ => ⟨[0, 1, 2, 3, 4, 5, 6, 7, 8, 9, 10, 11, 12, 13, 14, 15, 16, 17, 18, 19, 20, 21, 22, 23, 24, 25, 26, 27, 28, 29, 30, 31, 32, 33, 34, 35, 36, 37, 38, 39, 40, 41, 42, 43, 44, 45, 46, 47, 48, 49, 50, 51, 52, 53, 54, 55, 56, 57, 58, 59, 60, 61, 62, 63, 64, 65, 66, 67, 68, 69, 70, 71], rfl, rfl⟩⟩) (i_X9 (l := l) (dC := dC) (dI := dI) (cI := cI)) ⟨va_cnB 0 hts gX10_would_X9_init_n9 rfl rfl rfl (hE.1.1 (RX10, 9, yX9_init, "AheadStore") (List.mem_of_getElem? (i := 1) rfl)) (hts _ kX10_would_15) hdX9_init ⟨Nat.le_of_ble_eq_true rfl, Nat.le_of_ble_eq_true rfl⟩, rfl, hts _ kX10_would_16⟩ (Nat.le_of_ble_eq_true rfl) dX10_would_46 rfl ⟨Nat.le_of_ble_eq_true rfl, Nat.le_of_ble_eq_true rfl⟩ (fun q1 H locs hq hPn hDn hSn => ?_)
              have hq := hq.symm
              subst hq
              have hP := hPn
              have hD := hDn
              have hS := hSn
              refine W.widen (k := 30) (n := 10408) (by decide) (by decide) ?_
              refine va_put (D := (dC, dI)) (ci := 10) (v := .ref (q1 0)) (ty := (.object "AheadStore$World")) (C := RX10) (T := TX10) (N := 6) hx hb hts inX10_would_10 tyX10 tyX10_ok nmX10 hown hK hP hD hS 0 rfl rfl 4 (by decide) (hts _ kX10_would_1) (fun _ h9 => h9) rfl (tyX10_ok 4 (by decide)) rfl rfl (Nat.le_of_ble_eq_true rfl) dX10_would_49 (fun H locs hP hD hS => ?_)
              have hP : va_P (dC, dI) vwCl (cs10 cI q0 (s10_thought u0 (some (q1 0))) ++ cs9 cI q1 i9) H := hP
              have hD : va_D A (cs10 cI q0 (s10_thought u0 (some (q1 0))) ++ cs9 cI q1 i9) := hD
              exact wb_X10_would_j hx hb hml hown hts hA hK hE (fun H locs ls pc v u hd hn hp hP hD hS => hret H locs ls pc v (some (q1, u.1, u.2)) hd hn hp hP hD hS) hP hD hS hl rfl (h (q1 0))
            · have h := h.2 cd
              refine lv_iconst (v := (-1)) hx hb dX10_would_32 (by decide) ?_
              refine W.widen (k := 30) (n := 10408) (by decide) (by decide) ?_
              exact hret _ _ _ _ _ none dX10_would_33 (vp_nar_int _) h hP hD hS
