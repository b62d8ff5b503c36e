def oc (cI : ClassId) (o : Option ((Nat → Nat) × S9)) : va_W := match o with | none => [] | some x => cs9 cI x.1 x.2
def osn (o : Option ((Nat → Nat) × S9)) : Option S9 := match o with | none => none | some x => some x.2
def ofa (o : Option ((Nat → Nat) × S9)) : Option Nat := match o with | none => none | some x => some (x.1 0)
def wL (cI : ClassId) (q0 q1 : Nat → Nat) (th kp : Option ((Nat → Nat) × S9)) (u : S10) (v : S11) : va_W := cs10 cI q0 u ++ (cs11 cI q1 v ++ (oc cI th ++ oc cI kp))
theorem cutA (cI : ClassId) (q0 q1 : Nat → Nat) (th kp : Option ((Nat → Nat) × S9)) (u : S10) (v : S11) : CutP (wL cI q0 q1 th kp u v) (cs10 cI q0 u) (fun u2 : S10 => cs10 cI q0 u2) (fun u2 => wL cI q0 q1 th kp u2 v) := cutp_midE (a := []) (b := cs11 cI q1 v ++ (oc cI th ++ oc cI kp)) rfl (fun _ => rfl)
theorem cutA0 (cI : ClassId) (q0 q1 : Nat → Nat) (th kp : Option ((Nat → Nat) × S9)) (u : S10) (v : S11) : CutP (wL cI q0 q1 th kp u v) (cs10 cI q0 u) (fun _ : Unit => cs10 cI q0 u) (fun _ => wL cI q0 q1 th kp u v) := cutp_midE (a := []) (b := cs11 cI q1 v ++ (oc cI th ++ oc cI kp)) rfl (fun _ => rfl)
theorem cutB (cI : ClassId) (q0 q1 : Nat → Nat) (th kp : Option ((Nat → Nat) × S9)) (u : S10) (v : S11) : CutP (wL cI q0 q1 th kp u v) (cs11 cI q1 v) (fun v2 : S11 => cs11 cI q1 v2) (fun v2 => wL cI q0 q1 th kp u v2) := cutp_midE (a := cs10 cI q0 u) (b := oc cI th ++ oc cI kp) rfl (fun _ => rfl)
theorem cutWs (cI : ClassId) (q0 q1 : Nat → Nat) (x : (Nat → Nat) × S9) (kp : Option ((Nat → Nat) × S9)) (u : S10) (v : S11) : CutP (wL cI q0 q1 (some x) kp u v) (cs10 cI q0 u ++ cs9 cI x.1 x.2) (fun w : S10 × S9 => cs10 cI q0 w.1 ++ cs9 cI x.1 w.2) (fun w => wL cI q0 q1 (some (x.1, w.2)) kp w.1 v) := cutp_twoE (a := []) (b := cs11 cI q1 v) (c := oc cI kp) (wc := cs10 cI q0 u) (wd := cs9 cI x.1 x.2) (cf := fun w : S10 × S9 => cs10 cI q0 w.1) (cg := fun w : S10 × S9 => cs9 cI x.1 w.2) rfl (fun _ => rfl)
theorem cutIs (cI : ClassId) (q0 q1 : Nat → Nat) (th : Option ((Nat → Nat) × S9)) (x : (Nat → Nat) × S9) (u : S10) (v : S11) : CutP (wL cI q0 q1 th (some x) u v) (cs10 cI q0 u ++ cs9 cI x.1 x.2) (fun w : S10 × S9 => cs10 cI q0 w.1 ++ cs9 cI x.1 w.2) (fun w => wL cI q0 q1 th (some (x.1, w.2)) w.1 v) := cutp_twoE (a := []) (b := cs11 cI q1 v ++ oc cI th) (c := []) (wc := cs10 cI q0 u) (wd := cs9 cI x.1 x.2) (cf := fun w : S10 × S9 => cs10 cI q0 w.1) (cg := fun w : S10 × S9 => cs9 cI x.1 w.2) (by simp [wL, oc]) (fun w => by simp [wL, oc])
/-- a World is made: it comes where none was -/
theorem cutWn (cI : ClassId) (q0 q1 : Nat → Nat) (kp : Option ((Nat → Nat) × S9)) (u : S10) (v : S11) : CutP (wL cI q0 q1 none kp u v) (cs10 cI q0 u) (fun o : Option ((Nat → Nat) × S10 × S9) => match o with | none => cs10 cI q0 u | some w => cs10 cI q0 w.2.1 ++ cs9 cI w.1 w.2.2) (fun o => match o with | none => wL cI q0 q1 none kp u v | some w => wL cI q0 q1 (some (w.1, w.2.2)) kp w.2.1 v) := by
  refine ⟨cs11 cI q1 v ++ oc cI kp, List.Perm.refl _, fun o => ?_⟩
  cases o with
  | none => exact List.perm_append_comm
  | some w =>
    show ((cs11 cI q1 v ++ oc cI kp) ++ (cs10 cI q0 w.2.1 ++ cs9 cI w.1 w.2.2)).Perm (cs10 cI q0 w.2.1 ++ (cs11 cI q1 v ++ (cs9 cI w.1 w.2.2 ++ oc cI kp)))
    have h1 := List.perm_append_comm_assoc (cs11 cI q1 v ++ oc cI kp) (cs10 cI q0 w.2.1) (cs9 cI w.1 w.2.2)
    refine h1.trans (List.Perm.append_left _ ?_)
    rw [List.append_assoc]
    exact List.Perm.append_left _ List.perm_append_comm
theorem cutIn (cI : ClassId) (q0 q1 : Nat → Nat) (th : Option ((Nat → Nat) × S9)) (u : S10) (v : S11) : CutP (wL cI q0 q1 th none u v) (cs10 cI q0 u) (fun o : Option ((Nat → Nat) × S10 × S9) => match o with | none => cs10 cI q0 u | some w => cs10 cI q0 w.2.1 ++ cs9 cI w.1 w.2.2) (fun o => match o with | none => wL cI q0 q1 th none u v | some w => wL cI q0 q1 th (some (w.1, w.2.2)) w.2.1 v) := by
  refine ⟨cs11 cI q1 v ++ (oc cI th ++ []), List.Perm.refl _, fun o => ?_⟩
  cases o with
  | none => exact List.perm_append_comm
  | some w =>
    show ((cs11 cI q1 v ++ (oc cI th ++ [])) ++ (cs10 cI q0 w.2.1 ++ cs9 cI w.1 w.2.2)).Perm (cs10 cI q0 w.2.1 ++ (cs11 cI q1 v ++ (oc cI th ++ cs9 cI w.1 w.2.2)))
    have h1 := List.perm_append_comm_assoc (cs11 cI q1 v ++ (oc cI th ++ [])) (cs10 cI q0 w.2.1) (cs9 cI w.1 w.2.2)
    refine h1.trans (List.Perm.append_left _ ?_)
    rw [List.append_nil, List.append_assoc]
theorem law_lt {L k : Nat} (hL : L ≤ 3072) (hk : 6 * k ≤ L) (h : ¬ Int32.ofNat L - 6 < nI (6 * k)) : 6 * k + 6 ≤ L := by
  rcases Nat.lt_or_ge L (6 * k + 6) with q | q
  · refine absurd ?_ h
    rw [Int32.lt_iff_toInt_lt, nI_toInt (by omega), show (Int32.ofNat L - 6).toInt = (L : Int) - (6 : Nat) from pk_sub_toInt (a := L) (b := 6) (by omega) (by omega)]
    omega
  · exact q
theorem law_in {L k : Nat} (hL : L ≤ 3072) (h : 6 * k + 6 ≤ L) (j : Nat) (hj : j < 6) : vp_in (nI (6 * k) + nI j) L := by
  rw [nI_add]
  exact vp_in_nI (by omega) (by omega)
set_option maxHeartbeats 40000000 in
set_option maxRecDepth 100000 in
/-- THE LAW'S LOOP: at its head, with k calls done -/
theorem law_loop {p : Program} {l : Launch} {e : Env} {s : State} {m : MethodId} {below : List Frame} {meth : Method} {c : Code} {dC : Nat → ClassId} {dI : Nat → Nat → Nat} {cI : ClassId} {b L : Nat} {xs : Nat → Int32} {Sim : SimT} (hs : SimOK Sim) (hL : L ≤ 3072) (C0 : lw_At p s m meth c b L xs) (hK : va_K (dC, dI) vwCl [(cI, .int)] s) (hE : tyE (fun q : Nat => s.heap.size ≤ q) s) (q0 q1 : Nat → Nat) :
    ∀ (n k : Nat), k + n = 513 → 6 * k ≤ L → ∀ (u : S10) (th kp : Option ((Nat → Nat) × S9)) (v : S11) (H : Heap) (locs : List Loc) (ls : Array Slot), Sim u (osn th) (osn kp) v → g10_thought u = ofa th → g10_kept u = ofa kp → va_P (dC, dI) vwCl (wL cI q0 q1 th kp u v) H → va_D (fun q : Nat => s.heap.size ≤ q) (wL cI q0 q1 th kp u v) → va_S (fun q : Nat => s.heap.size ≤ q) s.heap H locs → lv_has ls 4 [(0, .ref b), (1, .ref (q0 0)), (2, .ref (q1 0)), (3, .int (nI (6 * k)))] → W p l e room_1 s m #[Value.ref b] below meth c H locs (53 + 30 * k) (44166 + 10408 * k) (lw_Z below #[Value.ref b] s) (F0 m 18 ls []) := by
  obtain ⟨hx, hb, hr, hml, hown, hts, hX, hbl, hlocks, hgv⟩ := id C0
  have hown : s.vm.findClass RL = some m.cls := hown
  have hA : ∀ q : Nat, s.heap.size ≤ q → (fun q : Nat => s.heap.size ≤ q) q := fun _ h => h
  have hbA : ¬ (fun q : Nat => s.heap.size ≤ q) b := Nat.not_le.mpr hbl
  intro n
  induction n with
  | zero => intro k h1 h2; exfalso; omega
  | succ n ih =>
    intro k hkn hk6 u th kp v H locs ls hsim hT hKp hP hD hS hl
    refine lv_iload_n hx hb dL_law_18 rfl (lv_at hl 3 rfl) ?_
    refine lv_aload_n hx hb dL_law_19 rfl (lv_at hl 0 rfl) ?_
    refine va_slen hx hb hX hbl hbA hS dL_law_20 ?_
    refine lv_bipush (v := 6) hx hb dL_law_21 (by decide) ?_
    refine lv_isub hx hb dL_law_23 ?_
    refine lv_icmp_gt (tgt := 1006) hx hb dL_law_24 (by decide) (fun cd => ?_) (fun cd => ?_)
    · refine lv_iconst (v := 1) hx hb dL_law_1006 (by decide) ?_
      refine va_forget (fun q hq => hS.2.2 q hq) ?_
      refine W.widen (k := 193980) (n := 8520310) (by omega) (by omega) ?_
      exact lw_ret hx hb hr hlocks dL_law_1007
    · have hlt := law_lt hL hk6 cd
      have hin0 : vp_in (nI (6 * k)) L := vp_in_nI (by omega) (by omega)
      have hin1 : vp_in (nI (6 * k) + 1) L := law_in hL hlt 1 (by decide)
      have hin2 : vp_in (nI (6 * k) + 2) L := law_in hL hlt 2 (by decide)
      have hin3 : vp_in (nI (6 * k) + 3) L := law_in hL hlt 3 (by decide)
      have hin4 : vp_in (nI (6 * k) + 4) L := law_in hL hlt 4 (by decide)
      have hin5 : vp_in (nI (6 * k) + 5) L := law_in hL hlt 5 (by decide)
      have hend : ∀ (u : S10) (th kp : Option ((Nat → Nat) × S9)) (v : S11) (H : Heap) (locs : List Loc) (ls : Array Slot), Sim u (osn th) (osn kp) v → g10_thought u = ofa th → g10_kept u = ofa kp → va_P (dC, dI) vwCl (wL cI q0 q1 th kp u v) H → va_D (fun q : Nat => s.heap.size ≤ q) (wL cI q0 q1 th kp u v) → va_S (fun q : Nat => s.heap.size ≤ q) s.heap H locs → lv_has ls 4 [(0, .ref b), (1, .ref (q0 0)), (2, .ref (q1 0)), (3, .int (nI (6 * k)))] → W p l e room_1 s m #[Value.ref b] below meth c H locs (53 + 30 * (k + 1)) (44166 + 10408 * (k + 1)) (lw_Z below #[Value.ref b] s) (F0 m 1000 ls []) := by
        intro u th kp v H locs ls hsim hT hKp hP hD hS hl
        refine lv_iinc (v := nI (6 * (k + 1))) (lv' := [(3, .int (nI (6 * (k + 1)))), (0, .ref b), (1, .ref (q0 0)), (2, .ref (q1 0))]) hx hb dL_law_1000 hl (k := 3) rfl (show nI (6 * k) + nI 6 = nI (6 * (k + 1)) by rw [nI_add]; rfl) (by decide) rfl (fun ls hl => ?_)
        refine lv_goto (tgt := 18) hx hb dL_law_1003 (by decide) ?_
        exact ih (k + 1) (by omega) (by omega) u th kp v _ _ _ hsim hT hKp hP hD hS (lv_sub hl [1, 2, 3, 0] rfl)
      refine lv_aload_n hx hb dL_law_27 rfl (lv_at hl 0 rfl) ?_
      refine lv_iload_n hx hb dL_law_28 rfl (lv_at hl 3 rfl) ?_
      refine va_sld hx hb hX hbl hbA hS hin0 dL_law_29 ?_
      refine lv_bipush (v := 31) hx hb dL_law_30 (by decide) ?_
      refine lv_iand hx hb dL_law_32 ?_
      refine lv_topi (fun w ew => ?_)
      by_cases c0 : w = 0
      · refine lv_tableIn (tgt := 160) (off := 127) hx hb dL_law_33 (by rw [c0]; decide) (by rw [c0]; decide) (by rw [c0]; rfl) (by decide) ?_
        refine lv_aload_n hx hb dL_law_160 rfl (lv_at hl 1 rfl) ?_
        refine lv_aload_n hx hb dL_law_161 rfl (lv_at hl 0 rfl) ?_
        refine lv_iload_n hx hb dL_law_162 rfl (lv_at hl 3 rfl) ?_
        refine lv_iconst (v := 1) hx hb dL_law_163 (by decide) ?_
        refine lv_iadd hx hb dL_law_164 ?_
        refine va_sld hx hb hX hbl hbA hS hin1 dL_law_165 ?_
        have h := hs.2.1 u (osn th) (osn kp) v (xs (nI (6 * k) + 1).toNatClampNeg) hsim
        refine cx_vig (As := [.int (xs (nI (6 * k) + 1).toNatClampNeg)]) (rest := []) ⟨hx, hb, hml, hown, hts⟩ hl.1 ok_sxE hE.1 hK hP hD hS hA (cutA cI q0 q1 th kp u v) (c_X10_frames (l := l) (dC := dC) (dI := dI) (cI := cI) (q0 := q0) h) (cwV 1 hts gT_X10_frames rfl rfl rfl hdX10_frames ⟨Nat.le_of_ble_eq_true rfl, Nat.le_of_ble_eq_true rfl⟩) rfl rfl rfl rfl (Nat.le_of_ble_eq_true rfl) dL_law_166 rfl ⟨(show _ ≤ 193980 by omega), (show _ ≤ 8520310 by omega)⟩ (fun r u2 H locs h hP hD hS => ?_)
        refine lv_aload_n hx hb dL_law_169 rfl (lv_at hl 2 rfl) ?_
        refine lv_aload_n hx hb dL_law_170 rfl (lv_at hl 0 rfl) ?_
        refine lv_iload_n hx hb dL_law_171 rfl (lv_at hl 3 rfl) ?_
        refine lv_iconst (v := 1) hx hb dL_law_172 (by decide) ?_
        refine lv_iadd hx hb dL_law_173 ?_
        refine va_sld hx hb hX hbl hbA hS hin1 dL_law_174 ?_
        refine cx_vig (As := [.int (xs (nI (6 * k) + 1).toNatClampNeg)]) (rest := [.int r]) ⟨hx, hb, hml, hown, hts⟩ hl.1 ok_noE trivial hK hP hD hS hA (cutB cI q0 q1 th kp u2 v) (c_X11_frames (l := l) (dC := dC) (dI := dI) (cI := cI) (q0 := q1) h) (cwV 1 hts gT_X11_frames rfl rfl rfl hdX11_frames ⟨Nat.le_of_ble_eq_true rfl, Nat.le_of_ble_eq_true rfl⟩) rfl rfl rfl rfl (Nat.le_of_ble_eq_true rfl) dL_law_175 rfl ⟨(show _ ≤ 193980 by omega), (show _ ≤ 8520310 by omega)⟩ (fun r2 v2 H locs h hP hD hS => ?_)
        refine lv_icmp_eq (tgt := 1000) hx hb dL_law_178 (by decide) (fun cd => ?_) (fun cd => absurd h.1 cd)
        refine W.widen (k := 53 + 30 * (k + 1)) (n := 44166 + 10408 * (k + 1)) (by omega) (by omega) ?_
        exact hend u2 th kp v2 _ _ _ h.2.1 (h.2.2.1.trans hT) (h.2.2.2.trans hKp) hP hD hS hl
      by_cases c1 : w = 1
      · refine lv_tableIn (tgt := 183) (off := 150) hx hb dL_law_33 (by rw [c1]; decide) (by rw [c1]; decide) (by rw [c1]; rfl) (by decide) ?_
        refine lv_aload_n hx hb dL_law_183 rfl (lv_at hl 1 rfl) ?_
        refine lv_aload_n hx hb dL_law_184 rfl (lv_at hl 0 rfl) ?_
        refine lv_iload_n hx hb dL_law_185 rfl (lv_at hl 3 rfl) ?_
        refine lv_iconst (v := 1) hx hb dL_law_186 (by decide) ?_
        refine lv_iadd hx hb dL_law_187 ?_
        refine va_sld hx hb hX hbl hbA hS hin1 dL_law_188 ?_
        refine lv_aload_n hx hb dL_law_189 rfl (lv_at hl 0 rfl) ?_
        refine lv_iload_n hx hb dL_law_190 rfl (lv_at hl 3 rfl) ?_
        refine lv_iconst (v := 2) hx hb dL_law_191 (by decide) ?_
        refine lv_iadd hx hb dL_law_192 ?_
        refine va_sld hx hb hX hbl hbA hS hin2 dL_law_193 ?_
        have h := hs.2.2.1 u (osn th) (osn kp) v (xs (nI (6 * k) + 1).toNatClampNeg) (xs (nI (6 * k) + 2).toNatClampNeg) hsim
        refine cx_vig (As := [.int (xs (nI (6 * k) + 1).toNatClampNeg), .int (xs (nI (6 * k) + 2).toNatClampNeg)]) (rest := []) ⟨hx, hb, hml, hown, hts⟩ hl.1 ok_sxE hE.1 hK hP hD hS hA (cutA cI q0 q1 th kp u v) (c_X10_act (l := l) (dC := dC) (dI := dI) (cI := cI) (q0 := q0) h) (cwV 2 hts gT_X10_act rfl rfl rfl hdX10_act ⟨Nat.le_of_ble_eq_true rfl, Nat.le_of_ble_eq_true rfl⟩) rfl rfl rfl rfl (Nat.le_of_ble_eq_true rfl) dL_law_194 rfl ⟨(show _ ≤ 193980 by omega), (show _ ≤ 8520310 by omega)⟩ (fun r u2 H locs h hP hD hS => ?_)
        refine lv_aload_n hx hb dL_law_197 rfl (lv_at hl 2 rfl) ?_
        refine lv_aload_n hx hb dL_law_198 rfl (lv_at hl 0 rfl) ?_
        refine lv_iload_n hx hb dL_law_199 rfl (lv_at hl 3 rfl) ?_
        refine lv_iconst (v := 1) hx hb dL_law_200 (by decide) ?_
        refine lv_iadd hx hb dL_law_201 ?_
        refine va_sld hx hb hX hbl hbA hS hin1 dL_law_202 ?_
        refine lv_aload_n hx hb dL_law_203 rfl (lv_at hl 0 rfl) ?_
        refine lv_iload_n hx hb dL_law_204 rfl (lv_at hl 3 rfl) ?_
        refine lv_iconst (v := 2) hx hb dL_law_205 (by decide) ?_
        refine lv_iadd hx hb dL_law_206 ?_
        refine va_sld hx hb hX hbl hbA hS hin2 dL_law_207 ?_
        refine cx_vig (As := [.int (xs (nI (6 * k) + 1).toNatClampNeg), .int (xs (nI (6 * k) + 2).toNatClampNeg)]) (rest := [.int r]) ⟨hx, hb, hml, hown, hts⟩ hl.1 ok_noE trivial hK hP hD hS hA (cutB cI q0 q1 th kp u2 v) (c_X11_act (l := l) (dC := dC) (dI := dI) (cI := cI) (q0 := q1) h) (cwV 2 hts gT_X11_act rfl rfl rfl hdX11_act ⟨Nat.le_of_ble_eq_true rfl, Nat.le_of_ble_eq_true rfl⟩) rfl rfl rfl rfl (Nat.le_of_ble_eq_true rfl) dL_law_208 rfl ⟨(show _ ≤ 193980 by omega), (show _ ≤ 8520310 by omega)⟩ (fun r2 v2 H locs h hP hD hS => ?_)
        refine lv_icmp_eq (tgt := 1000) hx hb dL_law_211 (by decide) (fun cd => ?_) (fun cd => absurd h.1 cd)
        refine W.widen (k := 53 + 30 * (k + 1)) (n := 44166 + 10408 * (k + 1)) (by omega) (by omega) ?_
        exact hend u2 th kp v2 _ _ _ h.2.1 (h.2.2.1.trans hT) (h.2.2.2.trans hKp) hP hD hS hl
      by_cases c2 : w = 2
      · refine lv_tableIn (tgt := 216) (off := 183) hx hb dL_law_33 (by rw [c2]; decide) (by rw [c2]; decide) (by rw [c2]; rfl) (by decide) ?_
        refine lv_aload_n hx hb dL_law_216 rfl (lv_at hl 1 rfl) ?_
        refine lv_aload_n hx hb dL_law_217 rfl (lv_at hl 0 rfl) ?_
        refine lv_iload_n hx hb dL_law_218 rfl (lv_at hl 3 rfl) ?_
        refine lv_iconst (v := 1) hx hb dL_law_219 (by decide) ?_
        refine lv_iadd hx hb dL_law_220 ?_
        refine va_sld hx hb hX hbl hbA hS hin1 dL_law_221 ?_
        refine lv_aload_n hx hb dL_law_222 rfl (lv_at hl 0 rfl) ?_
        refine lv_iload_n hx hb dL_law_223 rfl (lv_at hl 3 rfl) ?_
        refine lv_iconst (v := 2) hx hb dL_law_224 (by decide) ?_
        refine lv_iadd hx hb dL_law_225 ?_
        refine va_sld hx hb hX hbl hbA hS hin2 dL_law_226 ?_
        refine lv_aload_n hx hb dL_law_227 rfl (lv_at hl 0 rfl) ?_
        refine lv_iload_n hx hb dL_law_228 rfl (lv_at hl 3 rfl) ?_
        refine lv_iconst (v := 3) hx hb dL_law_229 (by decide) ?_
        refine lv_iadd hx hb dL_law_230 ?_
        refine va_sld hx hb hX hbl hbA hS hin3 dL_law_231 ?_
        have h := hs.2.2.2.1 u (osn th) (osn kp) v (xs (nI (6 * k) + 1).toNatClampNeg) (xs (nI (6 * k) + 2).toNatClampNeg) (xs (nI (6 * k) + 3).toNatClampNeg) hsim
        refine cx_vig (As := [.int (xs (nI (6 * k) + 1).toNatClampNeg), .int (xs (nI (6 * k) + 2).toNatClampNeg), .int (xs (nI (6 * k) + 3).toNatClampNeg)]) (rest := []) ⟨hx, hb, hml, hown, hts⟩ hl.1 ok_sxE hE.1 hK hP hD hS hA (cutA cI q0 q1 th kp u v) (c_X10_write (l := l) (dC := dC) (dI := dI) (cI := cI) (q0 := q0) h) (cwV 3 hts gT_X10_write rfl rfl rfl hdX10_write ⟨Nat.le_of_ble_eq_true rfl, Nat.le_of_ble_eq_true rfl⟩) rfl rfl rfl rfl (Nat.le_of_ble_eq_true rfl) dL_law_232 rfl ⟨(show _ ≤ 193980 by omega), (show _ ≤ 8520310 by omega)⟩ (fun r u2 H locs h hP hD hS => ?_)
        refine lv_aload_n hx hb dL_law_235 rfl (lv_at hl 2 rfl) ?_
        refine lv_aload_n hx hb dL_law_236 rfl (lv_at hl 0 rfl) ?_
        refine lv_iload_n hx hb dL_law_237 rfl (lv_at hl 3 rfl) ?_
        refine lv_iconst (v := 1) hx hb dL_law_238 (by decide) ?_
        refine lv_iadd hx hb dL_law_239 ?_
        refine va_sld hx hb hX hbl hbA hS hin1 dL_law_240 ?_
        refine lv_aload_n hx hb dL_law_241 rfl (lv_at hl 0 rfl) ?_
        refine lv_iload_n hx hb dL_law_242 rfl (lv_at hl 3 rfl) ?_
        refine lv_iconst (v := 2) hx hb dL_law_243 (by decide) ?_
        refine lv_iadd hx hb dL_law_244 ?_
        refine va_sld hx hb hX hbl hbA hS hin2 dL_law_245 ?_
        refine lv_aload_n hx hb dL_law_246 rfl (lv_at hl 0 rfl) ?_
        refine lv_iload_n hx hb dL_law_247 rfl (lv_at hl 3 rfl) ?_
        refine lv_iconst (v := 3) hx hb dL_law_248 (by decide) ?_
        refine lv_iadd hx hb dL_law_249 ?_
        refine va_sld hx hb hX hbl hbA hS hin3 dL_law_250 ?_
        refine cx_vig (As := [.int (xs (nI (6 * k) + 1).toNatClampNeg), .int (xs (nI (6 * k) + 2).toNatClampNeg), .int (xs (nI (6 * k) + 3).toNatClampNeg)]) (rest := [.int r]) ⟨hx, hb, hml, hown, hts⟩ hl.1 ok_noE trivial hK hP hD hS hA (cutB cI q0 q1 th kp u2 v) (c_X11_write (l := l) (dC := dC) (dI := dI) (cI := cI) (q0 := q1) h) (cwV 3 hts gT_X11_write rfl rfl rfl hdX11_write ⟨Nat.le_of_ble_eq_true rfl, Nat.le_of_ble_eq_true rfl⟩) rfl rfl rfl rfl (Nat.le_of_ble_eq_true rfl) dL_law_251 rfl ⟨(show _ ≤ 193980 by omega), (show _ ≤ 8520310 by omega)⟩ (fun r2 v2 H locs h hP hD hS => ?_)
        refine lv_icmp_eq (tgt := 1000) hx hb dL_law_254 (by decide) (fun cd => ?_) (fun cd => absurd h.1 cd)
        refine W.widen (k := 53 + 30 * (k + 1)) (n := 44166 + 10408 * (k + 1)) (by omega) (by omega) ?_
        exact hend u2 th kp v2 _ _ _ h.2.1 (h.2.2.1.trans hT) (h.2.2.2.trans hKp) hP hD hS hl
      by_cases c3 : w = 3
      · refine lv_tableIn (tgt := 259) (off := 226) hx hb dL_law_33 (by rw [c3]; decide) (by rw [c3]; decide) (by rw [c3]; rfl) (by decide) ?_
        refine lv_aload_n hx hb dL_law_259 rfl (lv_at hl 1 rfl) ?_
        refine lv_aload_n hx hb dL_law_260 rfl (lv_at hl 0 rfl) ?_
        refine lv_iload_n hx hb dL_law_261 rfl (lv_at hl 3 rfl) ?_
        refine lv_iconst (v := 1) hx hb dL_law_262 (by decide) ?_
        refine lv_iadd hx hb dL_law_263 ?_
        refine va_sld hx hb hX hbl hbA hS hin1 dL_law_264 ?_
        refine lv_aload_n hx hb dL_law_265 rfl (lv_at hl 0 rfl) ?_
        refine lv_iload_n hx hb dL_law_266 rfl (lv_at hl 3 rfl) ?_
        refine lv_iconst (v := 2) hx hb dL_law_267 (by decide) ?_
        refine lv_iadd hx hb dL_law_268 ?_
        refine va_sld hx hb hX hbl hbA hS hin2 dL_law_269 ?_
        refine lv_aload_n hx hb dL_law_270 rfl (lv_at hl 0 rfl) ?_
        refine lv_iload_n hx hb dL_law_271 rfl (lv_at hl 3 rfl) ?_
        refine lv_iconst (v := 3) hx hb dL_law_272 (by decide) ?_
        refine lv_iadd hx hb dL_law_273 ?_
        refine va_sld hx hb hX hbl hbA hS hin3 dL_law_274 ?_
        have h := hs.2.2.2.2.1 u (osn th) (osn kp) v (xs (nI (6 * k) + 1).toNatClampNeg) (xs (nI (6 * k) + 2).toNatClampNeg) (xs (nI (6 * k) + 3).toNatClampNeg) hsim
        refine cx_vig (As := [.int (xs (nI (6 * k) + 1).toNatClampNeg), .int (xs (nI (6 * k) + 2).toNatClampNeg), .int (xs (nI (6 * k) + 3).toNatClampNeg)]) (rest := []) ⟨hx, hb, hml, hown, hts⟩ hl.1 ok_sxE hE.1 hK hP hD hS hA (cutA cI q0 q1 th kp u v) (c_X10_add (l := l) (dC := dC) (dI := dI) (cI := cI) (q0 := q0) h) (cwV 3 hts gT_X10_add rfl rfl rfl hdX10_add ⟨Nat.le_of_ble_eq_true rfl, Nat.le_of_ble_eq_true rfl⟩) rfl rfl rfl rfl (Nat.le_of_ble_eq_true rfl) dL_law_275 rfl ⟨(show _ ≤ 193980 by omega), (show _ ≤ 8520310 by omega)⟩ (fun r u2 H locs h hP hD hS => ?_)
        refine lv_aload_n hx hb dL_law_278 rfl (lv_at hl 2 rfl) ?_
        refine lv_aload_n hx hb dL_law_279 rfl (lv_at hl 0 rfl) ?_
        refine lv_iload_n hx hb dL_law_280 rfl (lv_at hl 3 rfl) ?_
        refine lv_iconst (v := 1) hx hb dL_law_281 (by decide) ?_
        refine lv_iadd hx hb dL_law_282 ?_
        refine va_sld hx hb hX hbl hbA hS hin1 dL_law_283 ?_
        refine lv_aload_n hx hb dL_law_284 rfl (lv_at hl 0 rfl) ?_
        refine lv_iload_n hx hb dL_law_285 rfl (lv_at hl 3 rfl) ?_
        refine lv_iconst (v := 2) hx hb dL_law_286 (by decide) ?_
        refine lv_iadd hx hb dL_law_287 ?_
        refine va_sld hx hb hX hbl hbA hS hin2 dL_law_288 ?_
        refine lv_aload_n hx hb dL_law_289 rfl (lv_at hl 0 rfl) ?_
        refine lv_iload_n hx hb dL_law_290 rfl (lv_at hl 3 rfl) ?_
        refine lv_iconst (v := 3) hx hb dL_law_291 (by decide) ?_
        refine lv_iadd hx hb dL_law_292 ?_
        refine va_sld hx hb hX hbl hbA hS hin3 dL_law_293 ?_
        refine cx_vig (As := [.int (xs (nI (6 * k) + 1).toNatClampNeg), .int (xs (nI (6 * k) + 2).toNatClampNeg), .int (xs (nI (6 * k) + 3).toNatClampNeg)]) (rest := [.int r]) ⟨hx, hb, hml, hown, hts⟩ hl.1 ok_noE trivial hK hP hD hS hA (cutB cI q0 q1 th kp u2 v) (c_X11_add (l := l) (dC := dC) (dI := dI) (cI := cI) (q0 := q1) h) (cwV 3 hts gT_X11_add rfl rfl rfl hdX11_add ⟨Nat.le_of_ble_eq_true rfl, Nat.le_of_ble_eq_true rfl⟩) rfl rfl rfl rfl (Nat.le_of_ble_eq_true rfl) dL_law_294 rfl ⟨(show _ ≤ 193980 by omega), (show _ ≤ 8520310 by omega)⟩ (fun r2 v2 H locs h hP hD hS => ?_)
        refine lv_icmp_eq (tgt := 1000) hx hb dL_law_297 (by decide) (fun cd => ?_) (fun cd => absurd h.1 cd)
        refine W.widen (k := 53 + 30 * (k + 1)) (n := 44166 + 10408 * (k + 1)) (by omega) (by omega) ?_
        exact hend u2 th kp v2 _ _ _ h.2.1 (h.2.2.1.trans hT) (h.2.2.2.trans hKp) hP hD hS hl
      by_cases c4 : w = 4
      · refine lv_tableIn (tgt := 302) (off := 269) hx hb dL_law_33 (by rw [c4]; decide) (by rw [c4]; decide) (by rw [c4]; rfl) (by decide) ?_
        refine lv_aload_n hx hb dL_law_302 rfl (lv_at hl 1 rfl) ?_
        refine lv_aload_n hx hb dL_law_303 rfl (lv_at hl 0 rfl) ?_
        refine lv_iload_n hx hb dL_law_304 rfl (lv_at hl 3 rfl) ?_
        refine lv_iconst (v := 1) hx hb dL_law_305 (by decide) ?_
        refine lv_iadd hx hb dL_law_306 ?_
        refine va_sld hx hb hX hbl hbA hS hin1 dL_law_307 ?_
        have h := hs.2.2.2.2.2.1 u (osn th) (osn kp) v (xs (nI (6 * k) + 1).toNatClampNeg) hsim
        refine cx_vig (As := [.int (xs (nI (6 * k) + 1).toNatClampNeg)]) (rest := []) ⟨hx, hb, hml, hown, hts⟩ hl.1 ok_sxE hE.1 hK hP hD hS hA (cutA cI q0 q1 th kp u v) (c_X10_save (l := l) (dC := dC) (dI := dI) (cI := cI) (q0 := q0) h) (cwV 1 hts gT_X10_save rfl rfl rfl hdX10_save ⟨Nat.le_of_ble_eq_true rfl, Nat.le_of_ble_eq_true rfl⟩) rfl rfl rfl rfl (Nat.le_of_ble_eq_true rfl) dL_law_308 rfl ⟨(show _ ≤ 193980 by omega), (show _ ≤ 8520310 by omega)⟩ (fun r u2 H locs h hP hD hS => ?_)
        refine lv_aload_n hx hb dL_law_311 rfl (lv_at hl 2 rfl) ?_
        refine lv_aload_n hx hb dL_law_312 rfl (lv_at hl 0 rfl) ?_
        refine lv_iload_n hx hb dL_law_313 rfl (lv_at hl 3 rfl) ?_
        refine lv_iconst (v := 1) hx hb dL_law_314 (by decide) ?_
        refine lv_iadd hx hb dL_law_315 ?_
        refine va_sld hx hb hX hbl hbA hS hin1 dL_law_316 ?_
        refine cx_vig (As := [.int (xs (nI (6 * k) + 1).toNatClampNeg)]) (rest := [.int r]) ⟨hx, hb, hml, hown, hts⟩ hl.1 ok_noE trivial hK hP hD hS hA (cutB cI q0 q1 th kp u2 v) (c_X11_save (l := l) (dC := dC) (dI := dI) (cI := cI) (q0 := q1) h) (cwV 1 hts gT_X11_save rfl rfl rfl hdX11_save ⟨Nat.le_of_ble_eq_true rfl, Nat.le_of_ble_eq_true rfl⟩) rfl rfl rfl rfl (Nat.le_of_ble_eq_true rfl) dL_law_317 rfl ⟨(show _ ≤ 193980 by omega), (show _ ≤ 8520310 by omega)⟩ (fun r2 v2 H locs h hP hD hS => ?_)
        refine lv_icmp_eq (tgt := 1000) hx hb dL_law_320 (by decide) (fun cd => ?_) (fun cd => absurd h.1 cd)
        refine W.widen (k := 53 + 30 * (k + 1)) (n := 44166 + 10408 * (k + 1)) (by omega) (by omega) ?_
        exact hend u2 th kp v2 _ _ _ h.2.1 (h.2.2.1.trans hT) (h.2.2.2.trans hKp) hP hD hS hl
      by_cases c5 : w = 5
      · refine lv_tableIn (tgt := 325) (off := 292) hx hb dL_law_33 (by rw [c5]; decide) (by rw [c5]; decide) (by rw [c5]; rfl) (by decide) ?_
        refine lv_aload_n hx hb dL_law_325 rfl (lv_at hl 1 rfl) ?_
        refine lv_aload_n hx hb dL_law_326 rfl (lv_at hl 0 rfl) ?_
        refine lv_iload_n hx hb dL_law_327 rfl (lv_at hl 3 rfl) ?_
        refine lv_iconst (v := 1) hx hb dL_law_328 (by decide) ?_
        refine lv_iadd hx hb dL_law_329 ?_
        refine va_sld hx hb hX hbl hbA hS hin1 dL_law_330 ?_
        refine lv_aload_n hx hb dL_law_331 rfl (lv_at hl 0 rfl) ?_
        refine lv_iload_n hx hb dL_law_332 rfl (lv_at hl 3 rfl) ?_
        refine lv_iconst (v := 2) hx hb dL_law_333 (by decide) ?_
        refine lv_iadd hx hb dL_law_334 ?_
        refine va_sld hx hb hX hbl hbA hS hin2 dL_law_335 ?_
        have h := hs.2.2.2.2.2.2.1 u (osn th) (osn kp) v (xs (nI (6 * k) + 1).toNatClampNeg) (xs (nI (6 * k) + 2).toNatClampNeg) hsim
        refine cx_vig (As := [.int (xs (nI (6 * k) + 1).toNatClampNeg), .int (xs (nI (6 * k) + 2).toNatClampNeg)]) (rest := []) ⟨hx, hb, hml, hown, hts⟩ hl.1 ok_sxE hE.1 hK hP hD hS hA (cutA cI q0 q1 th kp u v) (c_X10_back (l := l) (dC := dC) (dI := dI) (cI := cI) (q0 := q0) h) (cwV 2 hts gT_X10_back rfl rfl rfl hdX10_back ⟨Nat.le_of_ble_eq_true rfl, Nat.le_of_ble_eq_true rfl⟩) rfl rfl rfl rfl (Nat.le_of_ble_eq_true rfl) dL_law_336 rfl ⟨(show _ ≤ 193980 by omega), (show _ ≤ 8520310 by omega)⟩ (fun r u2 H locs h hP hD hS => ?_)
        refine lv_aload_n hx hb dL_law_339 rfl (lv_at hl 2 rfl) ?_
        refine lv_aload_n hx hb dL_law_340 rfl (lv_at hl 0 rfl) ?_
        refine lv_iload_n hx hb dL_law_341 rfl (lv_at hl 3 rfl) ?_
        refine lv_iconst (v := 1) hx hb dL_law_342 (by decide) ?_
        refine lv_iadd hx hb dL_law_343 ?_
        refine va_sld hx hb hX hbl hbA hS hin1 dL_law_344 ?_
        refine lv_aload_n hx hb dL_law_345 rfl (lv_at hl 0 rfl) ?_
        refine lv_iload_n hx hb dL_law_346 rfl (lv_at hl 3 rfl) ?_
        refine lv_iconst (v := 2) hx hb dL_law_347 (by decide) ?_
        refine lv_iadd hx hb dL_law_348 ?_
        refine va_sld hx hb hX hbl hbA hS hin2 dL_law_349 ?_
        refine cx_vig (As := [.int (xs (nI (6 * k) + 1).toNatClampNeg), .int (xs (nI (6 * k) + 2).toNatClampNeg)]) (rest := [.int r]) ⟨hx, hb, hml, hown, hts⟩ hl.1 ok_noE trivial hK hP hD hS hA (cutB cI q0 q1 th kp u2 v) (c_X11_back (l := l) (dC := dC) (dI := dI) (cI := cI) (q0 := q1) h) (cwV 2 hts gT_X11_back rfl rfl rfl hdX11_back ⟨Nat.le_of_ble_eq_true rfl, Nat.le_of_ble_eq_true rfl⟩) rfl rfl rfl rfl (Nat.le_of_ble_eq_true rfl) dL_law_350 rfl ⟨(show _ ≤ 193980 by omega), (show _ ≤ 8520310 by omega)⟩ (fun r2 v2 H locs h hP hD hS => ?_)
        refine lv_icmp_eq (tgt := 1000) hx hb dL_law_353 (by decide) (fun cd => ?_) (fun cd => absurd h.1 cd)
        refine W.widen (k := 53 + 30 * (k + 1)) (n := 44166 + 10408 * (k + 1)) (by omega) (by omega) ?_
        exact hend u2 th kp v2 _ _ _ h.2.1 (h.2.2.1.trans hT) (h.2.2.2.trans hKp) hP hD hS hl
      by_cases c6 : w = 6
      · refine lv_tableIn (tgt := 358) (off := 325) hx hb dL_law_33 (by rw [c6]; decide) (by rw [c6]; decide) (by rw [c6]; rfl) (by decide) ?_
        refine lv_aload_n hx hb dL_law_358 rfl (lv_at hl 1 rfl) ?_
        refine lv_aload_n hx hb dL_law_359 rfl (lv_at hl 0 rfl) ?_
        refine lv_iload_n hx hb dL_law_360 rfl (lv_at hl 3 rfl) ?_
        refine lv_iconst (v := 1) hx hb dL_law_361 (by decide) ?_
        refine lv_iadd hx hb dL_law_362 ?_
        refine va_sld hx hb hX hbl hbA hS hin1 dL_law_363 ?_
        refine lv_aload_n hx hb dL_law_364 rfl (lv_at hl 0 rfl) ?_
        refine lv_iload_n hx hb dL_law_365 rfl (lv_at hl 3 rfl) ?_
        refine lv_iconst (v := 2) hx hb dL_law_366 (by decide) ?_
        refine lv_iadd hx hb dL_law_367 ?_
        refine va_sld hx hb hX hbl hbA hS hin2 dL_law_368 ?_
        have h := hs.2.2.2.2.2.2.2.1 u (osn th) (osn kp) v (xs (nI (6 * k) + 1).toNatClampNeg) (xs (nI (6 * k) + 2).toNatClampNeg) hsim
        refine cx_vig (As := [.int (xs (nI (6 * k) + 1).toNatClampNeg), .int (xs (nI (6 * k) + 2).toNatClampNeg)]) (rest := []) ⟨hx, hb, hml, hown, hts⟩ hl.1 ok_sxE hE.1 hK hP hD hS hA (cutA cI q0 q1 th kp u v) (c_X10_roll (l := l) (dC := dC) (dI := dI) (cI := cI) (q0 := q0) h) (cwV 2 hts gT_X10_roll rfl rfl rfl hdX10_roll ⟨Nat.le_of_ble_eq_true rfl, Nat.le_of_ble_eq_true rfl⟩) rfl rfl rfl rfl (Nat.le_of_ble_eq_true rfl) dL_law_369 rfl ⟨(show _ ≤ 193980 by omega), (show _ ≤ 8520310 by omega)⟩ (fun r u2 H locs h hP hD hS => ?_)
        refine lv_aload_n hx hb dL_law_372 rfl (lv_at hl 2 rfl) ?_
        refine lv_aload_n hx hb dL_law_373 rfl (lv_at hl 0 rfl) ?_
        refine lv_iload_n hx hb dL_law_374 rfl (lv_at hl 3 rfl) ?_
        refine lv_iconst (v := 1) hx hb dL_law_375 (by decide) ?_
        refine lv_iadd hx hb dL_law_376 ?_
        refine va_sld hx hb hX hbl hbA hS hin1 dL_law_377 ?_
        refine lv_aload_n hx hb dL_law_378 rfl (lv_at hl 0 rfl) ?_
        refine lv_iload_n hx hb dL_law_379 rfl (lv_at hl 3 rfl) ?_
        refine lv_iconst (v := 2) hx hb dL_law_380 (by decide) ?_
        refine lv_iadd hx hb dL_law_381 ?_
        refine va_sld hx hb hX hbl hbA hS hin2 dL_law_382 ?_
        refine cx_vig (As := [.int (xs (nI (6 * k) + 1).toNatClampNeg), .int (xs (nI (6 * k) + 2).toNatClampNeg)]) (rest := [.int r]) ⟨hx, hb, hml, hown, hts⟩ hl.1 ok_noE trivial hK hP hD hS hA (cutB cI q0 q1 th kp u2 v) (c_X11_roll (l := l) (dC := dC) (dI := dI) (cI := cI) (q0 := q1) h) (cwV 2 hts gT_X11_roll rfl rfl rfl hdX11_roll ⟨Nat.le_of_ble_eq_true rfl, Nat.le_of_ble_eq_true rfl⟩) rfl rfl rfl rfl (Nat.le_of_ble_eq_true rfl) dL_law_383 rfl ⟨(show _ ≤ 193980 by omega), (show _ ≤ 8520310 by omega)⟩ (fun r2 v2 H locs h hP hD hS => ?_)
        refine lv_icmp_eq (tgt := 1000) hx hb dL_law_386 (by decide) (fun cd => ?_) (fun cd => absurd h.1 cd)
        refine W.widen (k := 53 + 30 * (k + 1)) (n := 44166 + 10408 * (k + 1)) (by omega) (by omega) ?_
        exact hend u2 th kp v2 _ _ _ h.2.1 (h.2.2.1.trans hT) (h.2.2.2.trans hKp) hP hD hS hl
      by_cases c7 : w = 7
      · refine lv_tableIn (tgt := 391) (off := 358) hx hb dL_law_33 (by rw [c7]; decide) (by rw [c7]; decide) (by rw [c7]; rfl) (by decide) ?_
        refine lv_aload_n hx hb dL_law_391 rfl (lv_at hl 1 rfl) ?_
        refine lv_aload_n hx hb dL_law_392 rfl (lv_at hl 0 rfl) ?_
        refine lv_iload_n hx hb dL_law_393 rfl (lv_at hl 3 rfl) ?_
        refine lv_iconst (v := 1) hx hb dL_law_394 (by decide) ?_
        refine lv_iadd hx hb dL_law_395 ?_
        refine va_sld hx hb hX hbl hbA hS hin1 dL_law_396 ?_
        refine lv_aload_n hx hb dL_law_397 rfl (lv_at hl 0 rfl) ?_
        refine lv_iload_n hx hb dL_law_398 rfl (lv_at hl 3 rfl) ?_
        refine lv_iconst (v := 2) hx hb dL_law_399 (by decide) ?_
        refine lv_iadd hx hb dL_law_400 ?_
        refine va_sld hx hb hX hbl hbA hS hin2 dL_law_401 ?_
        have h := hs.2.2.2.2.2.2.2.2.1 u (osn th) (osn kp) v (xs (nI (6 * k) + 1).toNatClampNeg) (xs (nI (6 * k) + 2).toNatClampNeg) hsim
        refine cx_vig (As := [.int (xs (nI (6 * k) + 1).toNatClampNeg), .int (xs (nI (6 * k) + 2).toNatClampNeg)]) (rest := []) ⟨hx, hb, hml, hown, hts⟩ hl.1 ok_sxE hE.1 hK hP hD hS hA (cutA cI q0 q1 th kp u v) (c_X10_keep (l := l) (dC := dC) (dI := dI) (cI := cI) (q0 := q0) h) (cwV 2 hts gT_X10_keep rfl rfl rfl hdX10_keep ⟨Nat.le_of_ble_eq_true rfl, Nat.le_of_ble_eq_true rfl⟩) rfl rfl rfl rfl (Nat.le_of_ble_eq_true rfl) dL_law_402 rfl ⟨(show _ ≤ 193980 by omega), (show _ ≤ 8520310 by omega)⟩ (fun r u2 H locs h hP hD hS => ?_)
        refine lv_aload_n hx hb dL_law_405 rfl (lv_at hl 2 rfl) ?_
        refine lv_aload_n hx hb dL_law_406 rfl (lv_at hl 0 rfl) ?_
        refine lv_iload_n hx hb dL_law_407 rfl (lv_at hl 3 rfl) ?_
        refine lv_iconst (v := 1) hx hb dL_law_408 (by decide) ?_
        refine lv_iadd hx hb dL_law_409 ?_
        refine va_sld hx hb hX hbl hbA hS hin1 dL_law_410 ?_
        refine lv_aload_n hx hb dL_law_411 rfl (lv_at hl 0 rfl) ?_
        refine lv_iload_n hx hb dL_law_412 rfl (lv_at hl 3 rfl) ?_
        refine lv_iconst (v := 2) hx hb dL_law_413 (by decide) ?_
        refine lv_iadd hx hb dL_law_414 ?_
        refine va_sld hx hb hX hbl hbA hS hin2 dL_law_415 ?_
        refine cx_vig (As := [.int (xs (nI (6 * k) + 1).toNatClampNeg), .int (xs (nI (6 * k) + 2).toNatClampNeg)]) (rest := [.int r]) ⟨hx, hb, hml, hown, hts⟩ hl.1 ok_noE trivial hK hP hD hS hA (cutB cI q0 q1 th kp u2 v) (c_X11_keep (l := l) (dC := dC) (dI := dI) (cI := cI) (q0 := q1) h) (cwV 2 hts gT_X11_keep rfl rfl rfl hdX11_keep ⟨Nat.le_of_ble_eq_true rfl, Nat.le_of_ble_eq_true rfl⟩) rfl rfl rfl rfl (Nat.le_of_ble_eq_true rfl) dL_law_416 rfl ⟨(show _ ≤ 193980 by omega), (show _ ≤ 8520310 by omega)⟩ (fun r2 v2 H locs h hP hD hS => ?_)
        refine lv_icmp_eq (tgt := 1000) hx hb dL_law_419 (by decide) (fun cd => ?_) (fun cd => absurd h.1 cd)
        refine W.widen (k := 53 + 30 * (k + 1)) (n := 44166 + 10408 * (k + 1)) (by omega) (by omega) ?_
        exact hend u2 th kp v2 _ _ _ h.2.1 (h.2.2.1.trans hT) (h.2.2.2.trans hKp) hP hD hS hl
      by_cases c8 : w = 8
      · refine lv_tableIn (tgt := 424) (off := 391) hx hb dL_law_33 (by rw [c8]; decide) (by rw [c8]; decide) (by rw [c8]; rfl) (by decide) ?_
        refine lv_aload_n hx hb dL_law_424 rfl (lv_at hl 1 rfl) ?_
        refine lv_aload_n hx hb dL_law_425 rfl (lv_at hl 0 rfl) ?_
        refine lv_iload_n hx hb dL_law_426 rfl (lv_at hl 3 rfl) ?_
        refine lv_iconst (v := 1) hx hb dL_law_427 (by decide) ?_
        refine lv_iadd hx hb dL_law_428 ?_
        refine va_sld hx hb hX hbl hbA hS hin1 dL_law_429 ?_
        have h := hs.2.2.2.2.2.2.2.2.2.1 u (osn th) (osn kp) v (xs (nI (6 * k) + 1).toNatClampNeg) hsim
        refine cx_vig (As := [.int (xs (nI (6 * k) + 1).toNatClampNeg)]) (rest := []) ⟨hx, hb, hml, hown, hts⟩ hl.1 ok_sxE hE.1 hK hP hD hS hA (cutA cI q0 q1 th kp u v) (c_X10_crash (l := l) (dC := dC) (dI := dI) (cI := cI) (q0 := q0) h) (cwV 1 hts gT_X10_crash rfl rfl rfl hdX10_crash ⟨Nat.le_of_ble_eq_true rfl, Nat.le_of_ble_eq_true rfl⟩) rfl rfl rfl rfl (Nat.le_of_ble_eq_true rfl) dL_law_430 rfl ⟨(show _ ≤ 193980 by omega), (show _ ≤ 8520310 by omega)⟩ (fun r u2 H locs h hP hD hS => ?_)
        refine lv_aload_n hx hb dL_law_433 rfl (lv_at hl 2 rfl) ?_
        refine lv_aload_n hx hb dL_law_434 rfl (lv_at hl 0 rfl) ?_
        refine lv_iload_n hx hb dL_law_435 rfl (lv_at hl 3 rfl) ?_
        refine lv_iconst (v := 1) hx hb dL_law_436 (by decide) ?_
        refine lv_iadd hx hb dL_law_437 ?_
        refine va_sld hx hb hX hbl hbA hS hin1 dL_law_438 ?_
        refine cx_vig (As := [.int (xs (nI (6 * k) + 1).toNatClampNeg)]) (rest := [.int r]) ⟨hx, hb, hml, hown, hts⟩ hl.1 ok_noE trivial hK hP hD hS hA (cutB cI q0 q1 th kp u2 v) (c_X11_crash (l := l) (dC := dC) (dI := dI) (cI := cI) (q0 := q1) h) (cwV 1 hts gT_X11_crash rfl rfl rfl hdX11_crash ⟨Nat.le_of_ble_eq_true rfl, Nat.le_of_ble_eq_true rfl⟩) rfl rfl rfl rfl (Nat.le_of_ble_eq_true rfl) dL_law_439 rfl ⟨(show _ ≤ 193980 by omega), (show _ ≤ 8520310 by omega)⟩ (fun r2 v2 H locs h hP hD hS => ?_)
        refine lv_icmp_eq (tgt := 1000) hx hb dL_law_442 (by decide) (fun cd => ?_) (fun cd => absurd h.1 cd)
        refine W.widen (k := 53 + 30 * (k + 1)) (n := 44166 + 10408 * (k + 1)) (by omega) (by omega) ?_
        exact hend u2 th kp v2 _ _ _ h.2.1 (h.2.2.1.trans hT) (h.2.2.2.trans hKp) hP hD hS hl
      by_cases c9 : w = 9
      · refine lv_tableIn (tgt := 447) (off := 414) hx hb dL_law_33 (by rw [c9]; decide) (by rw [c9]; decide) (by rw [c9]; rfl) (by decide) ?_
        refine lv_aload_n hx hb dL_law_447 rfl (lv_at hl 1 rfl) ?_
        refine lv_aload_n hx hb dL_law_448 rfl (lv_at hl 0 rfl) ?_
        refine lv_iload_n hx hb dL_law_449 rfl (lv_at hl 3 rfl) ?_
        refine lv_iconst (v := 1) hx hb dL_law_450 (by decide) ?_
        refine lv_iadd hx hb dL_law_451 ?_
        refine va_sld hx hb hX hbl hbA hS hin1 dL_law_452 ?_
        have h := hs.2.2.2.2.2.2.2.2.2.2.1 u (osn th) (osn kp) v (xs (nI (6 * k) + 1).toNatClampNeg) hsim
        refine cx_vig (As := [.int (xs (nI (6 * k) + 1).toNatClampNeg)]) (rest := []) ⟨hx, hb, hml, hown, hts⟩ hl.1 ok_sxE hE.1 hK hP hD hS hA (cutA cI q0 q1 th kp u v) (c_X10_recover (l := l) (dC := dC) (dI := dI) (cI := cI) (q0 := q0) h) (cwV 1 hts gT_X10_recover rfl rfl rfl hdX10_recover ⟨Nat.le_of_ble_eq_true rfl, Nat.le_of_ble_eq_true rfl⟩) rfl rfl rfl rfl (Nat.le_of_ble_eq_true rfl) dL_law_453 rfl ⟨(show _ ≤ 193980 by omega), (show _ ≤ 8520310 by omega)⟩ (fun r u2 H locs h hP hD hS => ?_)
        refine lv_aload_n hx hb dL_law_456 rfl (lv_at hl 2 rfl) ?_
        refine lv_aload_n hx hb dL_law_457 rfl (lv_at hl 0 rfl) ?_
        refine lv_iload_n hx hb dL_law_458 rfl (lv_at hl 3 rfl) ?_
        refine lv_iconst (v := 1) hx hb dL_law_459 (by decide) ?_
        refine lv_iadd hx hb dL_law_460 ?_
        refine va_sld hx hb hX hbl hbA hS hin1 dL_law_461 ?_
        refine cx_vig (As := [.int (xs (nI (6 * k) + 1).toNatClampNeg)]) (rest := [.int r]) ⟨hx, hb, hml, hown, hts⟩ hl.1 ok_noE trivial hK hP hD hS hA (cutB cI q0 q1 th kp u2 v) (c_X11_recover (l := l) (dC := dC) (dI := dI) (cI := cI) (q0 := q1) h) (cwV 1 hts gT_X11_recover rfl rfl rfl hdX11_recover ⟨Nat.le_of_ble_eq_true rfl, Nat.le_of_ble_eq_true rfl⟩) rfl rfl rfl rfl (Nat.le_of_ble_eq_true rfl) dL_law_462 rfl ⟨(show _ ≤ 193980 by omega), (show _ ≤ 8520310 by omega)⟩ (fun r2 v2 H locs h hP hD hS => ?_)
        refine lv_icmp_eq (tgt := 1000) hx hb dL_law_465 (by decide) (fun cd => ?_) (fun cd => absurd h.1 cd)
        refine W.widen (k := 53 + 30 * (k + 1)) (n := 44166 + 10408 * (k + 1)) (by omega) (by omega) ?_
        exact hend u2 th kp v2 _ _ _ h.2.1 (h.2.2.1.trans hT) (h.2.2.2.trans hKp) hP hD hS hl
      by_cases c10 : w = 10
      · refine lv_tableIn (tgt := 470) (off := 437) hx hb dL_law_33 (by rw [c10]; decide) (by rw [c10]; decide) (by rw [c10]; rfl) (by decide) ?_
        refine lv_aload_n hx hb dL_law_470 rfl (lv_at hl 1 rfl) ?_
        refine lv_aload_n hx hb dL_law_471 rfl (lv_at hl 0 rfl) ?_
        refine lv_iload_n hx hb dL_law_472 rfl (lv_at hl 3 rfl) ?_
        refine lv_iconst (v := 1) hx hb dL_law_473 (by decide) ?_
        refine lv_iadd hx hb dL_law_474 ?_
        refine va_sld hx hb hX hbl hbA hS hin1 dL_law_475 ?_
        refine lv_aload_n hx hb dL_law_476 rfl (lv_at hl 0 rfl) ?_
        refine lv_iload_n hx hb dL_law_477 rfl (lv_at hl 3 rfl) ?_
        refine lv_iconst (v := 2) hx hb dL_law_478 (by decide) ?_
        refine lv_iadd hx hb dL_law_479 ?_
        refine va_sld hx hb hX hbl hbA hS hin2 dL_law_480 ?_
        refine lv_aload_n hx hb dL_law_481 rfl (lv_at hl 0 rfl) ?_
        refine lv_iload_n hx hb dL_law_482 rfl (lv_at hl 3 rfl) ?_
        refine lv_iconst (v := 3) hx hb dL_law_483 (by decide) ?_
        refine lv_iadd hx hb dL_law_484 ?_
        refine va_sld hx hb hX hbl hbA hS hin3 dL_law_485 ?_
        refine lv_aload_n hx hb dL_law_486 rfl (lv_at hl 0 rfl) ?_
        refine lv_iload_n hx hb dL_law_487 rfl (lv_at hl 3 rfl) ?_
        refine lv_iconst (v := 4) hx hb dL_law_488 (by decide) ?_
        refine lv_iadd hx hb dL_law_489 ?_
        refine va_sld hx hb hX hbl hbA hS hin4 dL_law_490 ?_
        refine lv_aload_n hx hb dL_law_491 rfl (lv_at hl 0 rfl) ?_
        refine lv_iload_n hx hb dL_law_492 rfl (lv_at hl 3 rfl) ?_
        refine lv_iconst (v := 5) hx hb dL_law_493 (by decide) ?_
        refine lv_iadd hx hb dL_law_494 ?_
        refine va_sld hx hb hX hbl hbA hS hin5 dL_law_495 ?_
        have h := hs.2.2.2.2.2.2.2.2.2.2.2.1 u (osn th) (osn kp) v (xs (nI (6 * k) + 1).toNatClampNeg) (xs (nI (6 * k) + 2).toNatClampNeg) (xs (nI (6 * k) + 3).toNatClampNeg) (xs (nI (6 * k) + 4).toNatClampNeg) (xs (nI (6 * k) + 5).toNatClampNeg) hsim
        refine cx_vig (As := [.int (xs (nI (6 * k) + 1).toNatClampNeg), .int (xs (nI (6 * k) + 2).toNatClampNeg), .int (xs (nI (6 * k) + 3).toNatClampNeg), .int (xs (nI (6 * k) + 4).toNatClampNeg), .int (xs (nI (6 * k) + 5).toNatClampNeg)]) (rest := []) ⟨hx, hb, hml, hown, hts⟩ hl.1 ok_sxE hE.1 hK hP hD hS hA (cutA cI q0 q1 th kp u v) (c_X10_feed (l := l) (dC := dC) (dI := dI) (cI := cI) (q0 := q0) h) (cwV 5 hts gT_X10_feed rfl rfl rfl hdX10_feed ⟨Nat.le_of_ble_eq_true rfl, Nat.le_of_ble_eq_true rfl⟩) rfl rfl rfl rfl (Nat.le_of_ble_eq_true rfl) dL_law_496 rfl ⟨(show _ ≤ 193980 by omega), (show _ ≤ 8520310 by omega)⟩ (fun r u2 H locs h hP hD hS => ?_)
        refine lv_aload_n hx hb dL_law_499 rfl (lv_at hl 2 rfl) ?_
        refine lv_aload_n hx hb dL_law_500 rfl (lv_at hl 0 rfl) ?_
        refine lv_iload_n hx hb dL_law_501 rfl (lv_at hl 3 rfl) ?_
        refine lv_iconst (v := 1) hx hb dL_law_502 (by decide) ?_
        refine lv_iadd hx hb dL_law_503 ?_
        refine va_sld hx hb hX hbl hbA hS hin1 dL_law_504 ?_
        refine lv_aload_n hx hb dL_law_505 rfl (lv_at hl 0 rfl) ?_
        refine lv_iload_n hx hb dL_law_506 rfl (lv_at hl 3 rfl) ?_
        refine lv_iconst (v := 2) hx hb dL_law_507 (by decide) ?_
        refine lv_iadd hx hb dL_law_508 ?_
        refine va_sld hx hb hX hbl hbA hS hin2 dL_law_509 ?_
        refine lv_aload_n hx hb dL_law_510 rfl (lv_at hl 0 rfl) ?_
        refine lv_iload_n hx hb dL_law_511 rfl (lv_at hl 3 rfl) ?_
        refine lv_iconst (v := 3) hx hb dL_law_512 (by decide) ?_
        refine lv_iadd hx hb dL_law_513 ?_
        refine va_sld hx hb hX hbl hbA hS hin3 dL_law_514 ?_
        refine lv_aload_n hx hb dL_law_515 rfl (lv_at hl 0 rfl) ?_
        refine lv_iload_n hx hb dL_law_516 rfl (lv_at hl 3 rfl) ?_
        refine lv_iconst (v := 4) hx hb dL_law_517 (by decide) ?_
        refine lv_iadd hx hb dL_law_518 ?_
        refine va_sld hx hb hX hbl hbA hS hin4 dL_law_519 ?_
        refine lv_aload_n hx hb dL_law_520 rfl (lv_at hl 0 rfl) ?_
        refine lv_iload_n hx hb dL_law_521 rfl (lv_at hl 3 rfl) ?_
        refine lv_iconst (v := 5) hx hb dL_law_522 (by decide) ?_
        refine lv_iadd hx hb dL_law_523 ?_
        refine va_sld hx hb hX hbl hbA hS hin5 dL_law_524 ?_
        refine cx_vig (As := [.int (xs (nI (6 * k) + 1).toNatClampNeg), .int (xs (nI (6 * k) + 2).toNatClampNeg), .int (xs (nI (6 * k) + 3).toNatClampNeg), .int (xs (nI (6 * k) + 4).toNatClampNeg), .int (xs (nI (6 * k) + 5).toNatClampNeg)]) (rest := [.int r]) ⟨hx, hb, hml, hown, hts⟩ hl.1 ok_noE trivial hK hP hD hS hA (cutB cI q0 q1 th kp u2 v) (c_X11_feed (l := l) (dC := dC) (dI := dI) (cI := cI) (q0 := q1) h) (cwV 5 hts gT_X11_feed rfl rfl rfl hdX11_feed ⟨Nat.le_of_ble_eq_true rfl, Nat.le_of_ble_eq_true rfl⟩) rfl rfl rfl rfl (Nat.le_of_ble_eq_true rfl) dL_law_525 rfl ⟨(show _ ≤ 193980 by omega), (show _ ≤ 8520310 by omega)⟩ (fun r2 v2 H locs h hP hD hS => ?_)
        refine lv_icmp_eq (tgt := 1000) hx hb dL_law_528 (by decide) (fun cd => ?_) (fun cd => absurd h.1 cd)
        refine W.widen (k := 53 + 30 * (k + 1)) (n := 44166 + 10408 * (k + 1)) (by omega) (by omega) ?_
        exact hend u2 th kp v2 _ _ _ h.2.1 (h.2.2.1.trans hT) (h.2.2.2.trans hKp) hP hD hS hl
      by_cases c11 : w = 11
      · refine lv_tableIn (tgt := 533) (off := 500) hx hb dL_law_33 (by rw [c11]; decide) (by rw [c11]; decide) (by rw [c11]; rfl) (by decide) ?_
        refine lv_aload_n hx hb dL_law_533 rfl (lv_at hl 1 rfl) ?_
        refine lv_aload_n hx hb dL_law_534 rfl (lv_at hl 0 rfl) ?_
        refine lv_iload_n hx hb dL_law_535 rfl (lv_at hl 3 rfl) ?_
        refine lv_iconst (v := 1) hx hb dL_law_536 (by decide) ?_
        refine lv_iadd hx hb dL_law_537 ?_
        refine va_sld hx hb hX hbl hbA hS hin1 dL_law_538 ?_
        have h := hs.2.2.2.2.2.2.2.2.2.2.2.2.1 u (osn th) (osn kp) v (xs (nI (6 * k) + 1).toNatClampNeg) hsim
        refine cx_vig (As := [.int (xs (nI (6 * k) + 1).toNatClampNeg)]) (rest := []) ⟨hx, hb, hml, hown, hts⟩ hl.1 ok_sxE hE.1 hK hP hD hS hA (cutA cI q0 q1 th kp u v) (c_X10_end (l := l) (dC := dC) (dI := dI) (cI := cI) (q0 := q0) h) (cwV 1 hts gT_X10_end rfl rfl rfl hdX10_end ⟨Nat.le_of_ble_eq_true rfl, Nat.le_of_ble_eq_true rfl⟩) rfl rfl rfl rfl (Nat.le_of_ble_eq_true rfl) dL_law_539 rfl ⟨(show _ ≤ 193980 by omega), (show _ ≤ 8520310 by omega)⟩ (fun r u2 H locs h hP hD hS => ?_)
        refine lv_aload_n hx hb dL_law_542 rfl (lv_at hl 2 rfl) ?_
        refine lv_aload_n hx hb dL_law_543 rfl (lv_at hl 0 rfl) ?_
        refine lv_iload_n hx hb dL_law_544 rfl (lv_at hl 3 rfl) ?_
        refine lv_iconst (v := 1) hx hb dL_law_545 (by decide) ?_
        refine lv_iadd hx hb dL_law_546 ?_
        refine va_sld hx hb hX hbl hbA hS hin1 dL_law_547 ?_
        refine cx_vig (As := [.int (xs (nI (6 * k) + 1).toNatClampNeg)]) (rest := [.int r]) ⟨hx, hb, hml, hown, hts⟩ hl.1 ok_noE trivial hK hP hD hS hA (cutB cI q0 q1 th kp u2 v) (c_X11_end (l := l) (dC := dC) (dI := dI) (cI := cI) (q0 := q1) h) (cwV 1 hts gT_X11_end rfl rfl rfl hdX11_end ⟨Nat.le_of_ble_eq_true rfl, Nat.le_of_ble_eq_true rfl⟩) rfl rfl rfl rfl (Nat.le_of_ble_eq_true rfl) dL_law_548 rfl ⟨(show _ ≤ 193980 by omega), (show _ ≤ 8520310 by omega)⟩ (fun r2 v2 H locs h hP hD hS => ?_)
        refine lv_icmp_eq (tgt := 1000) hx hb dL_law_551 (by decide) (fun cd => ?_) (fun cd => absurd h.1 cd)
        refine W.widen (k := 53 + 30 * (k + 1)) (n := 44166 + 10408 * (k + 1)) (by omega) (by omega) ?_
        exact hend u2 th kp v2 _ _ _ h.2.1 (h.2.2.1.trans hT) (h.2.2.2.trans hKp) hP hD hS hl
      by_cases c12 : w = 12
      · refine lv_tableIn (tgt := 556) (off := 523) hx hb dL_law_33 (by rw [c12]; decide) (by rw [c12]; decide) (by rw [c12]; rfl) (by decide) ?_
        refine lv_aload_n hx hb dL_law_556 rfl (lv_at hl 1 rfl) ?_
        have h := hs.2.2.2.2.2.2.2.2.2.2.2.2.2.1 u (osn th) (osn kp) v hsim
        refine cx_vig (As := []) (rest := []) ⟨hx, hb, hml, hown, hts⟩ hl.1 ok_tyE hE hK hP hD hS hA (cutA cI q0 q1 th kp u v) (c_X10_plan (l := l) (dC := dC) (dI := dI) (cI := cI) (q0 := q0) h) (cwV 0 hts gT_X10_plan rfl rfl rfl hdX10_plan ⟨Nat.le_of_ble_eq_true rfl, Nat.le_of_ble_eq_true rfl⟩) rfl rfl rfl rfl (Nat.le_of_ble_eq_true rfl) dL_law_557 rfl ⟨(show _ ≤ 193980 by omega), (show _ ≤ 8520310 by omega)⟩ (fun r u2 H locs h hP hD hS => ?_)
        refine lv_aload_n hx hb dL_law_560 rfl (lv_at hl 2 rfl) ?_
        refine cx_vig (As := []) (rest := [.int r]) ⟨hx, hb, hml, hown, hts⟩ hl.1 ok_noE trivial hK hP hD hS hA (cutB cI q0 q1 th kp u2 v) (c_X11_plan (l := l) (dC := dC) (dI := dI) (cI := cI) (q0 := q1) h) (cwV 0 hts gT_X11_plan rfl rfl rfl hdX11_plan ⟨Nat.le_of_ble_eq_true rfl, Nat.le_of_ble_eq_true rfl⟩) rfl rfl rfl rfl (Nat.le_of_ble_eq_true rfl) dL_law_561 rfl ⟨(show _ ≤ 193980 by omega), (show _ ≤ 8520310 by omega)⟩ (fun r2 v2 H locs h hP hD hS => ?_)
        refine lv_icmp_eq (tgt := 1000) hx hb dL_law_564 (by decide) (fun cd => ?_) (fun cd => absurd h.1 cd)
        refine W.widen (k := 53 + 30 * (k + 1)) (n := 44166 + 10408 * (k + 1)) (by omega) (by omega) ?_
        exact hend u2 th kp v2 _ _ _ h.2.1 (h.2.2.1.trans hT) (h.2.2.2.trans hKp) hP hD hS hl
      by_cases c13 : w = 13
      · refine lv_tableIn (tgt := 569) (off := 536) hx hb dL_law_33 (by rw [c13]; decide) (by rw [c13]; decide) (by rw [c13]; rfl) (by decide) ?_
        refine lv_aload_n hx hb dL_law_569 rfl (lv_at hl 1 rfl) ?_
        refine lv_aload_n hx hb dL_law_570 rfl (lv_at hl 0 rfl) ?_
        refine lv_iload_n hx hb dL_law_571 rfl (lv_at hl 3 rfl) ?_
        refine lv_iconst (v := 1) hx hb dL_law_572 (by decide) ?_
        refine lv_iadd hx hb dL_law_573 ?_
        refine va_sld hx hb hX hbl hbA hS hin1 dL_law_574 ?_
        have h := hs.2.2.2.2.2.2.2.2.2.2.2.2.2.2.1 u (osn th) (osn kp) v (xs (nI (6 * k) + 1).toNatClampNeg) hsim
        refine cx_vig (As := [.int (xs (nI (6 * k) + 1).toNatClampNeg)]) (rest := []) ⟨hx, hb, hml, hown, hts⟩ hl.1 ok_sxE hE.1 hK hP hD hS hA (cutA0 cI q0 q1 th kp u v) (c_X10_fault (l := l) (dC := dC) (dI := dI) (cI := cI) (q0 := q0) h) (cwV 1 hts gT_X10_fault rfl rfl rfl hdX10_fault ⟨Nat.le_of_ble_eq_true rfl, Nat.le_of_ble_eq_true rfl⟩) rfl rfl rfl rfl (Nat.le_of_ble_eq_true rfl) dL_law_575 rfl ⟨(show _ ≤ 193980 by omega), (show _ ≤ 8520310 by omega)⟩ (fun r _ H locs h hP hD hS => ?_)
        refine lv_aload_n hx hb dL_law_578 rfl (lv_at hl 2 rfl) ?_
        refine lv_aload_n hx hb dL_law_579 rfl (lv_at hl 0 rfl) ?_
        refine lv_iload_n hx hb dL_law_580 rfl (lv_at hl 3 rfl) ?_
        refine lv_iconst (v := 1) hx hb dL_law_581 (by decide) ?_
        refine lv_iadd hx hb dL_law_582 ?_
        refine va_sld hx hb hX hbl hbA hS hin1 dL_law_583 ?_
        refine cx_vig (As := [.int (xs (nI (6 * k) + 1).toNatClampNeg)]) (rest := [.int r]) ⟨hx, hb, hml, hown, hts⟩ hl.1 ok_noE trivial hK hP hD hS hA (cutB cI q0 q1 th kp u v) (c_X11_fault (l := l) (dC := dC) (dI := dI) (cI := cI) (q0 := q1) h) (cwV 1 hts gT_X11_fault rfl rfl rfl hdX11_fault ⟨Nat.le_of_ble_eq_true rfl, Nat.le_of_ble_eq_true rfl⟩) rfl rfl rfl rfl (Nat.le_of_ble_eq_true rfl) dL_law_584 rfl ⟨(show _ ≤ 193980 by omega), (show _ ≤ 8520310 by omega)⟩ (fun r2 v2 H locs h hP hD hS => ?_)
        refine lv_icmp_eq (tgt := 1000) hx hb dL_law_587 (by decide) (fun cd => ?_) (fun cd => absurd h.1 cd)
        refine W.widen (k := 53 + 30 * (k + 1)) (n := 44166 + 10408 * (k + 1)) (by omega) (by omega) ?_
        exact hend u th kp v2 _ _ _ h.2 hT hKp hP hD hS hl
      by_cases c14 : w = 14
      · refine lv_tableIn (tgt := 592) (off := 559) hx hb dL_law_33 (by rw [c14]; decide) (by rw [c14]; decide) (by rw [c14]; rfl) (by decide) ?_
        refine lv_aload_n hx hb dL_law_592 rfl (lv_at hl 1 rfl) ?_
        refine lv_aload_n hx hb dL_law_593 rfl (lv_at hl 0 rfl) ?_
        refine lv_iload_n hx hb dL_law_594 rfl (lv_at hl 3 rfl) ?_
        refine lv_iconst (v := 1) hx hb dL_law_595 (by decide) ?_
        refine lv_iadd hx hb dL_law_596 ?_
        refine va_sld hx hb hX hbl hbA hS hin1 dL_law_597 ?_
        have h := hs.2.2.2.2.2.2.2.2.2.2.2.2.2.2.2.1 u (osn th) (osn kp) v (xs (nI (6 * k) + 1).toNatClampNeg) hsim
        refine cx_vig (As := [.int (xs (nI (6 * k) + 1).toNatClampNeg)]) (rest := []) ⟨hx, hb, hml, hown, hts⟩ hl.1 ok_sxE hE.1 hK hP hD hS hA (cutA cI q0 q1 th kp u v) (c_X10_run (l := l) (dC := dC) (dI := dI) (cI := cI) (q0 := q0) h) (cwV 1 hts gT_X10_run rfl rfl rfl hdX10_run ⟨Nat.le_of_ble_eq_true rfl, Nat.le_of_ble_eq_true rfl⟩) rfl rfl rfl rfl (Nat.le_of_ble_eq_true rfl) dL_law_598 rfl ⟨(show _ ≤ 193980 by omega), (show _ ≤ 8520310 by omega)⟩ (fun r u2 H locs h hP hD hS => ?_)
        refine lv_aload_n hx hb dL_law_601 rfl (lv_at hl 2 rfl) ?_
        refine lv_aload_n hx hb dL_law_602 rfl (lv_at hl 0 rfl) ?_
        refine lv_iload_n hx hb dL_law_603 rfl (lv_at hl 3 rfl) ?_
        refine lv_iconst (v := 1) hx hb dL_law_604 (by decide) ?_
        refine lv_iadd hx hb dL_law_605 ?_
        refine va_sld hx hb hX hbl hbA hS hin1 dL_law_606 ?_
        refine cx_vig (As := [.int (xs (nI (6 * k) + 1).toNatClampNeg)]) (rest := [.int r]) ⟨hx, hb, hml, hown, hts⟩ hl.1 ok_noE trivial hK hP hD hS hA (cutB cI q0 q1 th kp u2 v) (c_X11_run (l := l) (dC := dC) (dI := dI) (cI := cI) (q0 := q1) h) (cwV 1 hts gT_X11_run rfl rfl rfl hdX11_run ⟨Nat.le_of_ble_eq_true rfl, Nat.le_of_ble_eq_true rfl⟩) rfl rfl rfl rfl (Nat.le_of_ble_eq_true rfl) dL_law_607 rfl ⟨(show _ ≤ 193980 by omega), (show _ ≤ 8520310 by omega)⟩ (fun r2 v2 H locs h hP hD hS => ?_)
        refine lv_icmp_eq (tgt := 1000) hx hb dL_law_610 (by decide) (fun cd => ?_) (fun cd => absurd h.1 cd)
        refine W.widen (k := 53 + 30 * (k + 1)) (n := 44166 + 10408 * (k + 1)) (by omega) (by omega) ?_
        exact hend u2 th kp v2 _ _ _ h.2.1 (h.2.2.1.trans hT) (h.2.2.2.trans hKp) hP hD hS hl
      by_cases c15 : w = 15
      · refine lv_tableIn (tgt := 615) (off := 582) hx hb dL_law_33 (by rw [c15]; decide) (by rw [c15]; decide) (by rw [c15]; rfl) (by decide) ?_
        refine lv_aload_n hx hb dL_law_615 rfl (lv_at hl 1 rfl) ?_
        refine lv_aload_n hx hb dL_law_616 rfl (lv_at hl 0 rfl) ?_
        refine lv_iload_n hx hb dL_law_617 rfl (lv_at hl 3 rfl) ?_
        refine lv_iconst (v := 1) hx hb dL_law_618 (by decide) ?_
        refine lv_iadd hx hb dL_law_619 ?_
        refine va_sld hx hb hX hbl hbA hS hin1 dL_law_620 ?_
        refine lv_aload_n hx hb dL_law_621 rfl (lv_at hl 0 rfl) ?_
        refine lv_iload_n hx hb dL_law_622 rfl (lv_at hl 3 rfl) ?_
        refine lv_iconst (v := 2) hx hb dL_law_623 (by decide) ?_
        refine lv_iadd hx hb dL_law_624 ?_
        refine va_sld hx hb hX hbl hbA hS hin2 dL_law_625 ?_
        have h := hs.2.2.2.2.2.2.2.2.2.2.2.2.2.2.2.2.1 u (osn th) (osn kp) v (xs (nI (6 * k) + 1).toNatClampNeg) (xs (nI (6 * k) + 2).toNatClampNeg) hsim
        refine cx_vig (As := [.int (xs (nI (6 * k) + 1).toNatClampNeg), .int (xs (nI (6 * k) + 2).toNatClampNeg)]) (rest := []) ⟨hx, hb, hml, hown, hts⟩ hl.1 ok_sxE hE.1 hK hP hD hS hA (cutA0 cI q0 q1 th kp u v) (c_X10_at (l := l) (dC := dC) (dI := dI) (cI := cI) (q0 := q0) h) (cwV 2 hts gT_X10_at rfl rfl rfl hdX10_at ⟨Nat.le_of_ble_eq_true rfl, Nat.le_of_ble_eq_true rfl⟩) rfl rfl rfl rfl (Nat.le_of_ble_eq_true rfl) dL_law_626 rfl ⟨(show _ ≤ 193980 by omega), (show _ ≤ 8520310 by omega)⟩ (fun r _ H locs h hP hD hS => ?_)
        refine lv_aload_n hx hb dL_law_629 rfl (lv_at hl 2 rfl) ?_
        refine lv_aload_n hx hb dL_law_630 rfl (lv_at hl 0 rfl) ?_
        refine lv_iload_n hx hb dL_law_631 rfl (lv_at hl 3 rfl) ?_
        refine lv_iconst (v := 1) hx hb dL_law_632 (by decide) ?_
        refine lv_iadd hx hb dL_law_633 ?_
        refine va_sld hx hb hX hbl hbA hS hin1 dL_law_634 ?_
        refine lv_aload_n hx hb dL_law_635 rfl (lv_at hl 0 rfl) ?_
        refine lv_iload_n hx hb dL_law_636 rfl (lv_at hl 3 rfl) ?_
        refine lv_iconst (v := 2) hx hb dL_law_637 (by decide) ?_
        refine lv_iadd hx hb dL_law_638 ?_
        refine va_sld hx hb hX hbl hbA hS hin2 dL_law_639 ?_
        refine cx_vig (As := [.int (xs (nI (6 * k) + 1).toNatClampNeg), .int (xs (nI (6 * k) + 2).toNatClampNeg)]) (rest := [.int r]) ⟨hx, hb, hml, hown, hts⟩ hl.1 ok_noE trivial hK hP hD hS hA (cutB cI q0 q1 th kp u v) (c_X11_at (l := l) (dC := dC) (dI := dI) (cI := cI) (q0 := q1) h) (cwV 2 hts gT_X11_at rfl rfl rfl hdX11_at ⟨Nat.le_of_ble_eq_true rfl, Nat.le_of_ble_eq_true rfl⟩) rfl rfl rfl rfl (Nat.le_of_ble_eq_true rfl) dL_law_640 rfl ⟨(show _ ≤ 193980 by omega), (show _ ≤ 8520310 by omega)⟩ (fun r2 v2 H locs h hP hD hS => ?_)
        refine lv_icmp_eq (tgt := 1000) hx hb dL_law_643 (by decide) (fun cd => ?_) (fun cd => absurd h.1 cd)
        refine W.widen (k := 53 + 30 * (k + 1)) (n := 44166 + 10408 * (k + 1)) (by omega) (by omega) ?_
        exact hend u th kp v2 _ _ _ h.2 hT hKp hP hD hS hl
      by_cases c16 : w = 16
      · refine lv_tableIn (tgt := 648) (off := 615) hx hb dL_law_33 (by rw [c16]; decide) (by rw [c16]; decide) (by rw [c16]; rfl) (by decide) ?_
        refine lv_aload_n hx hb dL_law_648 rfl (lv_at hl 1 rfl) ?_
        refine lv_aload_n hx hb dL_law_649 rfl (lv_at hl 0 rfl) ?_
        refine lv_iload_n hx hb dL_law_650 rfl (lv_at hl 3 rfl) ?_
        refine lv_iconst (v := 1) hx hb dL_law_651 (by decide) ?_
        refine lv_iadd hx hb dL_law_652 ?_
        refine va_sld hx hb hX hbl hbA hS hin1 dL_law_653 ?_
        refine lv_aload_n hx hb dL_law_654 rfl (lv_at hl 0 rfl) ?_
        refine lv_iload_n hx hb dL_law_655 rfl (lv_at hl 3 rfl) ?_
        refine lv_iconst (v := 2) hx hb dL_law_656 (by decide) ?_
        refine lv_iadd hx hb dL_law_657 ?_
        refine va_sld hx hb hX hbl hbA hS hin2 dL_law_658 ?_
        have h := hs.2.2.2.2.2.2.2.2.2.2.2.2.2.2.2.2.2.1 u (osn th) (osn kp) v (xs (nI (6 * k) + 1).toNatClampNeg) (xs (nI (6 * k) + 2).toNatClampNeg) hsim
        refine cx_vig (As := [.int (xs (nI (6 * k) + 1).toNatClampNeg), .int (xs (nI (6 * k) + 2).toNatClampNeg)]) (rest := []) ⟨hx, hb, hml, hown, hts⟩ hl.1 ok_sxE hE.1 hK hP hD hS hA (cutA0 cI q0 q1 th kp u v) (c_X10_page (l := l) (dC := dC) (dI := dI) (cI := cI) (q0 := q0) h) (cwV 2 hts gT_X10_page rfl rfl rfl hdX10_page ⟨Nat.le_of_ble_eq_true rfl, Nat.le_of_ble_eq_true rfl⟩) rfl rfl rfl rfl (Nat.le_of_ble_eq_true rfl) dL_law_659 rfl ⟨(show _ ≤ 193980 by omega), (show _ ≤ 8520310 by omega)⟩ (fun r _ H locs h hP hD hS => ?_)
        refine lv_aload_n hx hb dL_law_662 rfl (lv_at hl 2 rfl) ?_
        refine lv_aload_n hx hb dL_law_663 rfl (lv_at hl 0 rfl) ?_
        refine lv_iload_n hx hb dL_law_664 rfl (lv_at hl 3 rfl) ?_
        refine lv_iconst (v := 1) hx hb dL_law_665 (by decide) ?_
        refine lv_iadd hx hb dL_law_666 ?_
        refine va_sld hx hb hX hbl hbA hS hin1 dL_law_667 ?_
        refine lv_aload_n hx hb dL_law_668 rfl (lv_at hl 0 rfl) ?_
        refine lv_iload_n hx hb dL_law_669 rfl (lv_at hl 3 rfl) ?_
        refine lv_iconst (v := 2) hx hb dL_law_670 (by decide) ?_
        refine lv_iadd hx hb dL_law_671 ?_
        refine va_sld hx hb hX hbl hbA hS hin2 dL_law_672 ?_
        refine cx_vig (As := [.int (xs (nI (6 * k) + 1).toNatClampNeg), .int (xs (nI (6 * k) + 2).toNatClampNeg)]) (rest := [.int r]) ⟨hx, hb, hml, hown, hts⟩ hl.1 ok_noE trivial hK hP hD hS hA (cutB cI q0 q1 th kp u v) (c_X11_page (l := l) (dC := dC) (dI := dI) (cI := cI) (q0 := q1) h) (cwV 2 hts gT_X11_page rfl rfl rfl hdX11_page ⟨Nat.le_of_ble_eq_true rfl, Nat.le_of_ble_eq_true rfl⟩) rfl rfl rfl rfl (Nat.le_of_ble_eq_true rfl) dL_law_673 rfl ⟨(show _ ≤ 193980 by omega), (show _ ≤ 8520310 by omega)⟩ (fun r2 v2 H locs h hP hD hS => ?_)
        refine lv_icmp_eq (tgt := 1000) hx hb dL_law_676 (by decide) (fun cd => ?_) (fun cd => absurd h.1 cd)
        refine W.widen (k := 53 + 30 * (k + 1)) (n := 44166 + 10408 * (k + 1)) (by omega) (by omega) ?_
        exact hend u th kp v2 _ _ _ h.2 hT hKp hP hD hS hl
      by_cases c17 : w = 17
      · refine lv_tableIn (tgt := 681) (off := 648) hx hb dL_law_33 (by rw [c17]; decide) (by rw [c17]; decide) (by rw [c17]; rfl) (by decide) ?_
        refine lv_aload_n hx hb dL_law_681 rfl (lv_at hl 1 rfl) ?_
        refine lv_aload_n hx hb dL_law_682 rfl (lv_at hl 0 rfl) ?_
        refine lv_iload_n hx hb dL_law_683 rfl (lv_at hl 3 rfl) ?_
        refine lv_iconst (v := 1) hx hb dL_law_684 (by decide) ?_
        refine lv_iadd hx hb dL_law_685 ?_
        refine va_sld hx hb hX hbl hbA hS hin1 dL_law_686 ?_
        refine lv_aload_n hx hb dL_law_687 rfl (lv_at hl 0 rfl) ?_
        refine lv_iload_n hx hb dL_law_688 rfl (lv_at hl 3 rfl) ?_
        refine lv_iconst (v := 2) hx hb dL_law_689 (by decide) ?_
        refine lv_iadd hx hb dL_law_690 ?_
        refine va_sld hx hb hX hbl hbA hS hin2 dL_law_691 ?_
        have h := hs.2.2.2.2.2.2.2.2.2.2.2.2.2.2.2.2.2.2.1 u (osn th) (osn kp) v (xs (nI (6 * k) + 1).toNatClampNeg) (xs (nI (6 * k) + 2).toNatClampNeg) hsim
        refine cx_vig (As := [.int (xs (nI (6 * k) + 1).toNatClampNeg), .int (xs (nI (6 * k) + 2).toNatClampNeg)]) (rest := []) ⟨hx, hb, hml, hown, hts⟩ hl.1 ok_sxE hE.1 hK hP hD hS hA (cutA0 cI q0 q1 th kp u v) (c_X10_tx (l := l) (dC := dC) (dI := dI) (cI := cI) (q0 := q0) h) (cwV 2 hts gT_X10_tx rfl rfl rfl hdX10_tx ⟨Nat.le_of_ble_eq_true rfl, Nat.le_of_ble_eq_true rfl⟩) rfl rfl rfl rfl (Nat.le_of_ble_eq_true rfl) dL_law_692 rfl ⟨(show _ ≤ 193980 by omega), (show _ ≤ 8520310 by omega)⟩ (fun r _ H locs h hP hD hS => ?_)
        refine lv_aload_n hx hb dL_law_695 rfl (lv_at hl 2 rfl) ?_
        refine lv_aload_n hx hb dL_law_696 rfl (lv_at hl 0 rfl) ?_
        refine lv_iload_n hx hb dL_law_697 rfl (lv_at hl 3 rfl) ?_
        refine lv_iconst (v := 1) hx hb dL_law_698 (by decide) ?_
        refine lv_iadd hx hb dL_law_699 ?_
        refine va_sld hx hb hX hbl hbA hS hin1 dL_law_700 ?_
        refine lv_aload_n hx hb dL_law_701 rfl (lv_at hl 0 rfl) ?_
        refine lv_iload_n hx hb dL_law_702 rfl (lv_at hl 3 rfl) ?_
        refine lv_iconst (v := 2) hx hb dL_law_703 (by decide) ?_
        refine lv_iadd hx hb dL_law_704 ?_
        refine va_sld hx hb hX hbl hbA hS hin2 dL_law_705 ?_
        refine cx_vig (As := [.int (xs (nI (6 * k) + 1).toNatClampNeg), .int (xs (nI (6 * k) + 2).toNatClampNeg)]) (rest := [.int r]) ⟨hx, hb, hml, hown, hts⟩ hl.1 ok_noE trivial hK hP hD hS hA (cutB cI q0 q1 th kp u v) (c_X11_tx (l := l) (dC := dC) (dI := dI) (cI := cI) (q0 := q1) h) (cwV 2 hts gT_X11_tx rfl rfl rfl hdX11_tx ⟨Nat.le_of_ble_eq_true rfl, Nat.le_of_ble_eq_true rfl⟩) rfl rfl rfl rfl (Nat.le_of_ble_eq_true rfl) dL_law_706 rfl ⟨(show _ ≤ 193980 by omega), (show _ ≤ 8520310 by omega)⟩ (fun r2 v2 H locs h hP hD hS => ?_)
        refine lv_icmp_eq (tgt := 1000) hx hb dL_law_709 (by decide) (fun cd => ?_) (fun cd => absurd h.1 cd)
        refine W.widen (k := 53 + 30 * (k + 1)) (n := 44166 + 10408 * (k + 1)) (by omega) (by omega) ?_
        exact hend u th kp v2 _ _ _ h.2 hT hKp hP hD hS hl
      by_cases c18 : w = 18
      · refine lv_tableIn (tgt := 714) (off := 681) hx hb dL_law_33 (by rw [c18]; decide) (by rw [c18]; decide) (by rw [c18]; rfl) (by decide) ?_
        refine lv_aload_n hx hb dL_law_714 rfl (lv_at hl 1 rfl) ?_
        refine lv_aload_n hx hb dL_law_715 rfl (lv_at hl 0 rfl) ?_
        refine lv_iload_n hx hb dL_law_716 rfl (lv_at hl 3 rfl) ?_
        refine lv_iconst (v := 1) hx hb dL_law_717 (by decide) ?_
        refine lv_iadd hx hb dL_law_718 ?_
        refine va_sld hx hb hX hbl hbA hS hin1 dL_law_719 ?_
        have h := hs.2.2.2.2.2.2.2.2.2.2.2.2.2.2.2.2.2.2.2.1 u (osn th) (osn kp) v (xs (nI (6 * k) + 1).toNatClampNeg) hsim
        refine cx_vig (As := [.int (xs (nI (6 * k) + 1).toNatClampNeg)]) (rest := []) ⟨hx, hb, hml, hown, hts⟩ hl.1 ok_sxE hE.1 hK hP hD hS hA (cutA0 cI q0 q1 th kp u v) (c_X10_log (l := l) (dC := dC) (dI := dI) (cI := cI) (q0 := q0) h) (cwV 1 hts gT_X10_log rfl rfl rfl hdX10_log ⟨Nat.le_of_ble_eq_true rfl, Nat.le_of_ble_eq_true rfl⟩) rfl rfl rfl rfl (Nat.le_of_ble_eq_true rfl) dL_law_720 rfl ⟨(show _ ≤ 193980 by omega), (show _ ≤ 8520310 by omega)⟩ (fun r _ H locs h hP hD hS => ?_)
        refine lv_aload_n hx hb dL_law_723 rfl (lv_at hl 2 rfl) ?_
        refine lv_aload_n hx hb dL_law_724 rfl (lv_at hl 0 rfl) ?_
        refine lv_iload_n hx hb dL_law_725 rfl (lv_at hl 3 rfl) ?_
        refine lv_iconst (v := 1) hx hb dL_law_726 (by decide) ?_
        refine lv_iadd hx hb dL_law_727 ?_
        refine va_sld hx hb hX hbl hbA hS hin1 dL_law_728 ?_
        refine cx_vig (As := [.int (xs (nI (6 * k) + 1).toNatClampNeg)]) (rest := [.int r]) ⟨hx, hb, hml, hown, hts⟩ hl.1 ok_noE trivial hK hP hD hS hA (cutB cI q0 q1 th kp u v) (c_X11_log (l := l) (dC := dC) (dI := dI) (cI := cI) (q0 := q1) h) (cwV 1 hts gT_X11_log rfl rfl rfl hdX11_log ⟨Nat.le_of_ble_eq_true rfl, Nat.le_of_ble_eq_true rfl⟩) rfl rfl rfl rfl (Nat.le_of_ble_eq_true rfl) dL_law_729 rfl ⟨(show _ ≤ 193980 by omega), (show _ ≤ 8520310 by omega)⟩ (fun r2 v2 H locs h hP hD hS => ?_)
        refine lv_icmp_eq (tgt := 1000) hx hb dL_law_732 (by decide) (fun cd => ?_) (fun cd => absurd h.1 cd)
        refine W.widen (k := 53 + 30 * (k + 1)) (n := 44166 + 10408 * (k + 1)) (by omega) (by omega) ?_
        exact hend u th kp v2 _ _ _ h.2 hT hKp hP hD hS hl
      by_cases c19 : w = 19
      · refine lv_tableIn (tgt := 737) (off := 704) hx hb dL_law_33 (by rw [c19]; decide) (by rw [c19]; decide) (by rw [c19]; rfl) (by decide) ?_
        refine lv_aload_n hx hb dL_law_737 rfl (lv_at hl 1 rfl) ?_
        refine lv_aload_n hx hb dL_law_738 rfl (lv_at hl 0 rfl) ?_
        refine lv_iload_n hx hb dL_law_739 rfl (lv_at hl 3 rfl) ?_
        refine lv_iconst (v := 1) hx hb dL_law_740 (by decide) ?_
        refine lv_iadd hx hb dL_law_741 ?_
        refine va_sld hx hb hX hbl hbA hS hin1 dL_law_742 ?_
        refine lv_aload_n hx hb dL_law_743 rfl (lv_at hl 0 rfl) ?_
        refine lv_iload_n hx hb dL_law_744 rfl (lv_at hl 3 rfl) ?_
        refine lv_iconst (v := 2) hx hb dL_law_745 (by decide) ?_
        refine lv_iadd hx hb dL_law_746 ?_
        refine va_sld hx hb hX hbl hbA hS hin2 dL_law_747 ?_
        have h := hs.2.2.2.2.2.2.2.2.2.2.2.2.2.2.2.2.2.2.2.2.1 u (osn th) (osn kp) v (xs (nI (6 * k) + 1).toNatClampNeg) (xs (nI (6 * k) + 2).toNatClampNeg) hsim
        refine cx_vig (As := [.int (xs (nI (6 * k) + 1).toNatClampNeg), .int (xs (nI (6 * k) + 2).toNatClampNeg)]) (rest := []) ⟨hx, hb, hml, hown, hts⟩ hl.1 ok_sxE hE.1 hK hP hD hS hA (cutA0 cI q0 q1 th kp u v) (c_X10_record (l := l) (dC := dC) (dI := dI) (cI := cI) (q0 := q0) h) (cwV 2 hts gT_X10_record rfl rfl rfl hdX10_record ⟨Nat.le_of_ble_eq_true rfl, Nat.le_of_ble_eq_true rfl⟩) rfl rfl rfl rfl (Nat.le_of_ble_eq_true rfl) dL_law_748 rfl ⟨(show _ ≤ 193980 by omega), (show _ ≤ 8520310 by omega)⟩ (fun r _ H locs h hP hD hS => ?_)
        refine lv_aload_n hx hb dL_law_751 rfl (lv_at hl 2 rfl) ?_
        refine lv_aload_n hx hb dL_law_752 rfl (lv_at hl 0 rfl) ?_
        refine lv_iload_n hx hb dL_law_753 rfl (lv_at hl 3 rfl) ?_
        refine lv_iconst (v := 1) hx hb dL_law_754 (by decide) ?_
        refine lv_iadd hx hb dL_law_755 ?_
        refine va_sld hx hb hX hbl hbA hS hin1 dL_law_756 ?_
        refine lv_aload_n hx hb dL_law_757 rfl (lv_at hl 0 rfl) ?_
        refine lv_iload_n hx hb dL_law_758 rfl (lv_at hl 3 rfl) ?_
        refine lv_iconst (v := 2) hx hb dL_law_759 (by decide) ?_
        refine lv_iadd hx hb dL_law_760 ?_
        refine va_sld hx hb hX hbl hbA hS hin2 dL_law_761 ?_
        refine cx_vig (As := [.int (xs (nI (6 * k) + 1).toNatClampNeg), .int (xs (nI (6 * k) + 2).toNatClampNeg)]) (rest := [.int r]) ⟨hx, hb, hml, hown, hts⟩ hl.1 ok_noE trivial hK hP hD hS hA (cutB cI q0 q1 th kp u v) (c_X11_record (l := l) (dC := dC) (dI := dI) (cI := cI) (q0 := q1) h) (cwV 2 hts gT_X11_record rfl rfl rfl hdX11_record ⟨Nat.le_of_ble_eq_true rfl, Nat.le_of_ble_eq_true rfl⟩) rfl rfl rfl rfl (Nat.le_of_ble_eq_true rfl) dL_law_762 rfl ⟨(show _ ≤ 193980 by omega), (show _ ≤ 8520310 by omega)⟩ (fun r2 v2 H locs h hP hD hS => ?_)
        refine lv_icmp_eq (tgt := 1000) hx hb dL_law_765 (by decide) (fun cd => ?_) (fun cd => absurd h.1 cd)
        refine W.widen (k := 53 + 30 * (k + 1)) (n := 44166 + 10408 * (k + 1)) (by omega) (by omega) ?_
        exact hend u th kp v2 _ _ _ h.2 hT hKp hP hD hS hl
      by_cases c20 : w = 20
      · refine lv_tableIn (tgt := 770) (off := 737) hx hb dL_law_33 (by rw [c20]; decide) (by rw [c20]; decide) (by rw [c20]; rfl) (by decide) ?_
        refine lv_aload_n hx hb dL_law_770 rfl (lv_at hl 1 rfl) ?_
        refine lv_aload_n hx hb dL_law_771 rfl (lv_at hl 0 rfl) ?_
        refine lv_iload_n hx hb dL_law_772 rfl (lv_at hl 3 rfl) ?_
        refine lv_iconst (v := 1) hx hb dL_law_773 (by decide) ?_
        refine lv_iadd hx hb dL_law_774 ?_
        refine va_sld hx hb hX hbl hbA hS hin1 dL_law_775 ?_
        refine lv_aload_n hx hb dL_law_776 rfl (lv_at hl 0 rfl) ?_
        refine lv_iload_n hx hb dL_law_777 rfl (lv_at hl 3 rfl) ?_
        refine lv_iconst (v := 2) hx hb dL_law_778 (by decide) ?_
        refine lv_iadd hx hb dL_law_779 ?_
        refine va_sld hx hb hX hbl hbA hS hin2 dL_law_780 ?_
        refine lv_aload_n hx hb dL_law_781 rfl (lv_at hl 0 rfl) ?_
        refine lv_iload_n hx hb dL_law_782 rfl (lv_at hl 3 rfl) ?_
        refine lv_iconst (v := 3) hx hb dL_law_783 (by decide) ?_
        refine lv_iadd hx hb dL_law_784 ?_
        refine va_sld hx hb hX hbl hbA hS hin3 dL_law_785 ?_
        rcases th with _ | ⟨qt, wt⟩
        · have h := hs.2.2.2.2.2.2.2.2.2.2.2.2.2.2.2.2.2.2.2.2.2.2.1 u (osn kp) v (xs (nI (6 * k) + 1).toNatClampNeg) (xs (nI (6 * k) + 2).toNatClampNeg) (xs (nI (6 * k) + 3).toNatClampNeg) hsim
          refine cx_vim (As := [.int (xs (nI (6 * k) + 1).toNatClampNeg), .int (xs (nI (6 * k) + 2).toNatClampNeg), .int (xs (nI (6 * k) + 3).toNatClampNeg)]) (rest := []) ⟨hx, hb, hml, hown, hts⟩ hl.1 ok_sxE hE.1 hK hP hD hS hA (cutWn cI q0 q1 kp u v) (c_X10_would_n (l := l) (dC := dC) (dI := dI) (cI := cI) (q0 := q0) hT h) (cwV 3 hts gT_X10_would rfl rfl rfl hdX10_would ⟨Nat.le_of_ble_eq_true rfl, Nat.le_of_ble_eq_true rfl⟩) rfl rfl rfl rfl (Nat.le_of_ble_eq_true rfl) dL_law_786 rfl ⟨(show _ ≤ 193980 by omega), (show _ ≤ 8520310 by omega)⟩ (fun r o H locs h hP hD hS => ?_)
          rcases o with _ | ⟨qn, u2, w2⟩
          · refine lv_aload_n hx hb dL_law_789 rfl (lv_at hl 2 rfl) ?_
            refine lv_aload_n hx hb dL_law_790 rfl (lv_at hl 0 rfl) ?_
            refine lv_iload_n hx hb dL_law_791 rfl (lv_at hl 3 rfl) ?_
            refine lv_iconst (v := 1) hx hb dL_law_792 (by decide) ?_
            refine lv_iadd hx hb dL_law_793 ?_
            refine va_sld hx hb hX hbl hbA hS hin1 dL_law_794 ?_
            refine lv_aload_n hx hb dL_law_795 rfl (lv_at hl 0 rfl) ?_
            refine lv_iload_n hx hb dL_law_796 rfl (lv_at hl 3 rfl) ?_
            refine lv_iconst (v := 2) hx hb dL_law_797 (by decide) ?_
            refine lv_iadd hx hb dL_law_798 ?_
            refine va_sld hx hb hX hbl hbA hS hin2 dL_law_799 ?_
            refine lv_aload_n hx hb dL_law_800 rfl (lv_at hl 0 rfl) ?_
            refine lv_iload_n hx hb dL_law_801 rfl (lv_at hl 3 rfl) ?_
            refine lv_iconst (v := 3) hx hb dL_law_802 (by decide) ?_
            refine lv_iadd hx hb dL_law_803 ?_
            refine va_sld hx hb hX hbl hbA hS hin3 dL_law_804 ?_
            refine cx_vig (As := [.int (xs (nI (6 * k) + 1).toNatClampNeg), .int (xs (nI (6 * k) + 2).toNatClampNeg), .int (xs (nI (6 * k) + 3).toNatClampNeg)]) (rest := [.int r]) ⟨hx, hb, hml, hown, hts⟩ hl.1 ok_noE trivial hK hP hD hS hA (cutB cI q0 q1 none kp u v) (c_X11_would (l := l) (dC := dC) (dI := dI) (cI := cI) (q0 := q1) h) (cwV 3 hts gT_X11_would rfl rfl rfl hdX11_would ⟨Nat.le_of_ble_eq_true rfl, Nat.le_of_ble_eq_true rfl⟩) rfl rfl rfl rfl (Nat.le_of_ble_eq_true rfl) dL_law_805 rfl ⟨(show _ ≤ 193980 by omega), (show _ ≤ 8520310 by omega)⟩ (fun r2 v2 H locs h hP hD hS => ?_)
            refine lv_icmp_eq (tgt := 1000) hx hb dL_law_808 (by decide) (fun cd => ?_) (fun cd => absurd h.1 cd)
            refine W.widen (k := 53 + 30 * (k + 1)) (n := 44166 + 10408 * (k + 1)) (by omega) (by omega) ?_
            exact hend u none kp v2 _ _ _ h.2 hT hKp hP hD hS hl
          · have hT2 := h.1
            have h := h.2
            refine lv_aload_n hx hb dL_law_789 rfl (lv_at hl 2 rfl) ?_
            refine lv_aload_n hx hb dL_law_790 rfl (lv_at hl 0 rfl) ?_
            refine lv_iload_n hx hb dL_law_791 rfl (lv_at hl 3 rfl) ?_
            refine lv_iconst (v := 1) hx hb dL_law_792 (by decide) ?_
            refine lv_iadd hx hb dL_law_793 ?_
            refine va_sld hx hb hX hbl hbA hS hin1 dL_law_794 ?_
            refine lv_aload_n hx hb dL_law_795 rfl (lv_at hl 0 rfl) ?_
            refine lv_iload_n hx hb dL_law_796 rfl (lv_at hl 3 rfl) ?_
            refine lv_iconst (v := 2) hx hb dL_law_797 (by decide) ?_
            refine lv_iadd hx hb dL_law_798 ?_
            refine va_sld hx hb hX hbl hbA hS hin2 dL_law_799 ?_
            refine lv_aload_n hx hb dL_law_800 rfl (lv_at hl 0 rfl) ?_
            refine lv_iload_n hx hb dL_law_801 rfl (lv_at hl 3 rfl) ?_
            refine lv_iconst (v := 3) hx hb dL_law_802 (by decide) ?_
            refine lv_iadd hx hb dL_law_803 ?_
            refine va_sld hx hb hX hbl hbA hS hin3 dL_law_804 ?_
            refine cx_vig (As := [.int (xs (nI (6 * k) + 1).toNatClampNeg), .int (xs (nI (6 * k) + 2).toNatClampNeg), .int (xs (nI (6 * k) + 3).toNatClampNeg)]) (rest := [.int r]) ⟨hx, hb, hml, hown, hts⟩ hl.1 ok_noE trivial hK hP hD hS hA (cutB cI q0 q1 (some (qn, w2)) kp u2 v) (c_X11_would (l := l) (dC := dC) (dI := dI) (cI := cI) (q0 := q1) h) (cwV 3 hts gT_X11_would rfl rfl rfl hdX11_would ⟨Nat.le_of_ble_eq_true rfl, Nat.le_of_ble_eq_true rfl⟩) rfl rfl rfl rfl (Nat.le_of_ble_eq_true rfl) dL_law_805 rfl ⟨(show _ ≤ 193980 by omega), (show _ ≤ 8520310 by omega)⟩ (fun r2 v2 H locs h hP hD hS => ?_)
            refine lv_icmp_eq (tgt := 1000) hx hb dL_law_808 (by decide) (fun cd => ?_) (fun cd => absurd h.1 cd)
            refine W.widen (k := 53 + 30 * (k + 1)) (n := 44166 + 10408 * (k + 1)) (by omega) (by omega) ?_
            exact hend u2 (some (qn, w2)) kp v2 _ _ _ h.2.1 hT2 (h.2.2.trans hKp) hP hD hS hl
        · have h := hs.2.2.2.2.2.2.2.2.2.2.2.2.2.2.2.2.2.2.2.2.2.1 u wt (osn kp) v (xs (nI (6 * k) + 1).toNatClampNeg) (xs (nI (6 * k) + 2).toNatClampNeg) (xs (nI (6 * k) + 3).toNatClampNeg) hsim
          refine cx_vim (As := [.int (xs (nI (6 * k) + 1).toNatClampNeg), .int (xs (nI (6 * k) + 2).toNatClampNeg), .int (xs (nI (6 * k) + 3).toNatClampNeg)]) (rest := []) ⟨hx, hb, hml, hown, hts⟩ hl.1 ok_sxE hE.1 hK hP hD hS hA (cutWs cI q0 q1 (qt, wt) kp u v) (c_X10_would_s (l := l) (dC := dC) (dI := dI) (cI := cI) (q0 := q0) (q1 := qt) hT h) (cwV 3 hts gT_X10_would rfl rfl rfl hdX10_would ⟨Nat.le_of_ble_eq_true rfl, Nat.le_of_ble_eq_true rfl⟩) rfl rfl rfl rfl (Nat.le_of_ble_eq_true rfl) dL_law_786 rfl ⟨(show _ ≤ 193980 by omega), (show _ ≤ 8520310 by omega)⟩ (fun r o H locs h hP hD hS => ?_)
          obtain ⟨u2, w2⟩ := o
          have hT2 := h.1
          have h := h.2
          refine lv_aload_n hx hb dL_law_789 rfl (lv_at hl 2 rfl) ?_
          refine lv_aload_n hx hb dL_law_790 rfl (lv_at hl 0 rfl) ?_
          refine lv_iload_n hx hb dL_law_791 rfl (lv_at hl 3 rfl) ?_
          refine lv_iconst (v := 1) hx hb dL_law_792 (by decide) ?_
          refine lv_iadd hx hb dL_law_793 ?_
          refine va_sld hx hb hX hbl hbA hS hin1 dL_law_794 ?_
          refine lv_aload_n hx hb dL_law_795 rfl (lv_at hl 0 rfl) ?_
          refine lv_iload_n hx hb dL_law_796 rfl (lv_at hl 3 rfl) ?_
          refine lv_iconst (v := 2) hx hb dL_law_797 (by decide) ?_
          refine lv_iadd hx hb dL_law_798 ?_
          refine va_sld hx hb hX hbl hbA hS hin2 dL_law_799 ?_
          refine lv_aload_n hx hb dL_law_800 rfl (lv_at hl 0 rfl) ?_
          refine lv_iload_n hx hb dL_law_801 rfl (lv_at hl 3 rfl) ?_
          refine lv_iconst (v := 3) hx hb dL_law_802 (by decide) ?_
          refine lv_iadd hx hb dL_law_803 ?_
          refine va_sld hx hb hX hbl hbA hS hin3 dL_law_804 ?_
          refine cx_vig (As := [.int (xs (nI (6 * k) + 1).toNatClampNeg), .int (xs (nI (6 * k) + 2).toNatClampNeg), .int (xs (nI (6 * k) + 3).toNatClampNeg)]) (rest := [.int r]) ⟨hx, hb, hml, hown, hts⟩ hl.1 ok_noE trivial hK hP hD hS hA (cutB cI q0 q1 (some (qt, w2)) kp u2 v) (c_X11_would (l := l) (dC := dC) (dI := dI) (cI := cI) (q0 := q1) h) (cwV 3 hts gT_X11_would rfl rfl rfl hdX11_would ⟨Nat.le_of_ble_eq_true rfl, Nat.le_of_ble_eq_true rfl⟩) rfl rfl rfl rfl (Nat.le_of_ble_eq_true rfl) dL_law_805 rfl ⟨(show _ ≤ 193980 by omega), (show _ ≤ 8520310 by omega)⟩ (fun r2 v2 H locs h hP hD hS => ?_)
          refine lv_icmp_eq (tgt := 1000) hx hb dL_law_808 (by decide) (fun cd => ?_) (fun cd => absurd h.1 cd)
          refine W.widen (k := 53 + 30 * (k + 1)) (n := 44166 + 10408 * (k + 1)) (by omega) (by omega) ?_
          exact hend u2 (some (qt, w2)) kp v2 _ _ _ h.2.1 hT2 (h.2.2.trans hKp) hP hD hS hl
      by_cases c21 : w = 21
      · refine lv_tableIn (tgt := 813) (off := 780) hx hb dL_law_33 (by rw [c21]; decide) (by rw [c21]; decide) (by rw [c21]; rfl) (by decide) ?_
        refine lv_aload_n hx hb dL_law_813 rfl (lv_at hl 1 rfl) ?_
        have h := hs.2.2.2.2.2.2.2.2.2.2.2.2.2.2.2.2.2.2.2.2.2.2.2.1 u (osn th) (osn kp) v hsim
        refine cx_vig (As := []) (rest := []) ⟨hx, hb, hml, hown, hts⟩ hl.1 ok_sxE hE.1 hK hP hD hS hA (cutA0 cI q0 q1 th kp u v) (c_X10_victim (l := l) (dC := dC) (dI := dI) (cI := cI) (q0 := q0) h) (cwV 0 hts gT_X10_victim rfl rfl rfl hdX10_victim ⟨Nat.le_of_ble_eq_true rfl, Nat.le_of_ble_eq_true rfl⟩) rfl rfl rfl rfl (Nat.le_of_ble_eq_true rfl) dL_law_814 rfl ⟨(show _ ≤ 193980 by omega), (show _ ≤ 8520310 by omega)⟩ (fun r _ H locs h hP hD hS => ?_)
        refine lv_aload_n hx hb dL_law_817 rfl (lv_at hl 2 rfl) ?_
        refine cx_vig (As := []) (rest := [.int r]) ⟨hx, hb, hml, hown, hts⟩ hl.1 ok_noE trivial hK hP hD hS hA (cutB cI q0 q1 th kp u v) (c_X11_victim (l := l) (dC := dC) (dI := dI) (cI := cI) (q0 := q1) h) (cwV 0 hts gT_X11_victim rfl rfl rfl hdX11_victim ⟨Nat.le_of_ble_eq_true rfl, Nat.le_of_ble_eq_true rfl⟩) rfl rfl rfl rfl (Nat.le_of_ble_eq_true rfl) dL_law_818 rfl ⟨(show _ ≤ 193980 by omega), (show _ ≤ 8520310 by omega)⟩ (fun r2 v2 H locs h hP hD hS => ?_)
        refine lv_icmp_eq (tgt := 1000) hx hb dL_law_821 (by decide) (fun cd => ?_) (fun cd => absurd h.1 cd)
        refine W.widen (k := 53 + 30 * (k + 1)) (n := 44166 + 10408 * (k + 1)) (by omega) (by omega) ?_
        exact hend u th kp v2 _ _ _ h.2 hT hKp hP hD hS hl
      by_cases c22 : w = 22
      · refine lv_tableIn (tgt := 826) (off := 793) hx hb dL_law_33 (by rw [c22]; decide) (by rw [c22]; decide) (by rw [c22]; rfl) (by decide) ?_
        refine lv_aload_n hx hb dL_law_826 rfl (lv_at hl 1 rfl) ?_
        refine lv_aload_n hx hb dL_law_827 rfl (lv_at hl 0 rfl) ?_
        refine lv_iload_n hx hb dL_law_828 rfl (lv_at hl 3 rfl) ?_
        refine lv_iconst (v := 1) hx hb dL_law_829 (by decide) ?_
        refine lv_iadd hx hb dL_law_830 ?_
        refine va_sld hx hb hX hbl hbA hS hin1 dL_law_831 ?_
        have h := hs.2.2.2.2.2.2.2.2.2.2.2.2.2.2.2.2.2.2.2.2.2.2.2.2.1 u (osn th) (osn kp) v (xs (nI (6 * k) + 1).toNatClampNeg) hsim
        refine cx_vig (As := [.int (xs (nI (6 * k) + 1).toNatClampNeg)]) (rest := []) ⟨hx, hb, hml, hown, hts⟩ hl.1 ok_sxE hE.1 hK hP hD hS hA (cutA cI q0 q1 th kp u v) (c_X10_ship (l := l) (dC := dC) (dI := dI) (cI := cI) (q0 := q0) h) (cwV 1 hts gT_X10_ship rfl rfl rfl hdX10_ship ⟨Nat.le_of_ble_eq_true rfl, Nat.le_of_ble_eq_true rfl⟩) rfl rfl rfl rfl (Nat.le_of_ble_eq_true rfl) dL_law_832 rfl ⟨(show _ ≤ 193980 by omega), (show _ ≤ 8520310 by omega)⟩ (fun r u2 H locs h hP hD hS => ?_)
        refine lv_aload_n hx hb dL_law_835 rfl (lv_at hl 2 rfl) ?_
        refine lv_aload_n hx hb dL_law_836 rfl (lv_at hl 0 rfl) ?_
        refine lv_iload_n hx hb dL_law_837 rfl (lv_at hl 3 rfl) ?_
        refine lv_iconst (v := 1) hx hb dL_law_838 (by decide) ?_
        refine lv_iadd hx hb dL_law_839 ?_
        refine va_sld hx hb hX hbl hbA hS hin1 dL_law_840 ?_
        refine cx_vig (As := [.int (xs (nI (6 * k) + 1).toNatClampNeg)]) (rest := [.int r]) ⟨hx, hb, hml, hown, hts⟩ hl.1 ok_noE trivial hK hP hD hS hA (cutB cI q0 q1 th kp u2 v) (c_X11_ship (l := l) (dC := dC) (dI := dI) (cI := cI) (q0 := q1) h) (cwV 1 hts gT_X11_ship rfl rfl rfl hdX11_ship ⟨Nat.le_of_ble_eq_true rfl, Nat.le_of_ble_eq_true rfl⟩) rfl rfl rfl rfl (Nat.le_of_ble_eq_true rfl) dL_law_841 rfl ⟨(show _ ≤ 193980 by omega), (show _ ≤ 8520310 by omega)⟩ (fun r2 v2 H locs h hP hD hS => ?_)
        refine lv_icmp_eq (tgt := 1000) hx hb dL_law_844 (by decide) (fun cd => ?_) (fun cd => absurd h.1 cd)
        refine W.widen (k := 53 + 30 * (k + 1)) (n := 44166 + 10408 * (k + 1)) (by omega) (by omega) ?_
        exact hend u2 th kp v2 _ _ _ h.2.1 (h.2.2.1.trans hT) (h.2.2.2.trans hKp) hP hD hS hl
      by_cases c23 : w = 23
      · refine lv_tableIn (tgt := 849) (off := 816) hx hb dL_law_33 (by rw [c23]; decide) (by rw [c23]; decide) (by rw [c23]; rfl) (by decide) ?_
        refine lv_aload_n hx hb dL_law_849 rfl (lv_at hl 1 rfl) ?_
        refine lv_aload_n hx hb dL_law_850 rfl (lv_at hl 0 rfl) ?_
        refine lv_iload_n hx hb dL_law_851 rfl (lv_at hl 3 rfl) ?_
        refine lv_iconst (v := 1) hx hb dL_law_852 (by decide) ?_
        refine lv_iadd hx hb dL_law_853 ?_
        refine va_sld hx hb hX hbl hbA hS hin1 dL_law_854 ?_
        refine lv_aload_n hx hb dL_law_855 rfl (lv_at hl 0 rfl) ?_
        refine lv_iload_n hx hb dL_law_856 rfl (lv_at hl 3 rfl) ?_
        refine lv_iconst (v := 2) hx hb dL_law_857 (by decide) ?_
        refine lv_iadd hx hb dL_law_858 ?_
        refine va_sld hx hb hX hbl hbA hS hin2 dL_law_859 ?_
        have h := hs.2.2.2.2.2.2.2.2.2.2.2.2.2.2.2.2.2.2.2.2.2.2.2.2.2.1 u (osn th) (osn kp) v (xs (nI (6 * k) + 1).toNatClampNeg) (xs (nI (6 * k) + 2).toNatClampNeg) hsim
        refine cx_vig (As := [.int (xs (nI (6 * k) + 1).toNatClampNeg), .int (xs (nI (6 * k) + 2).toNatClampNeg)]) (rest := []) ⟨hx, hb, hml, hown, hts⟩ hl.1 ok_sxE hE.1 hK hP hD hS hA (cutA cI q0 q1 th kp u v) (c_X10_stand (l := l) (dC := dC) (dI := dI) (cI := cI) (q0 := q0) h) (cwV 2 hts gT_X10_stand rfl rfl rfl hdX10_stand ⟨Nat.le_of_ble_eq_true rfl, Nat.le_of_ble_eq_true rfl⟩) rfl rfl rfl rfl (Nat.le_of_ble_eq_true rfl) dL_law_860 rfl ⟨(show _ ≤ 193980 by omega), (show _ ≤ 8520310 by omega)⟩ (fun r u2 H locs h hP hD hS => ?_)
        refine lv_aload_n hx hb dL_law_863 rfl (lv_at hl 2 rfl) ?_
        refine lv_aload_n hx hb dL_law_864 rfl (lv_at hl 0 rfl) ?_
        refine lv_iload_n hx hb dL_law_865 rfl (lv_at hl 3 rfl) ?_
        refine lv_iconst (v := 1) hx hb dL_law_866 (by decide) ?_
        refine lv_iadd hx hb dL_law_867 ?_
        refine va_sld hx hb hX hbl hbA hS hin1 dL_law_868 ?_
        refine lv_aload_n hx hb dL_law_869 rfl (lv_at hl 0 rfl) ?_
        refine lv_iload_n hx hb dL_law_870 rfl (lv_at hl 3 rfl) ?_
        refine lv_iconst (v := 2) hx hb dL_law_871 (by decide) ?_
        refine lv_iadd hx hb dL_law_872 ?_
        refine va_sld hx hb hX hbl hbA hS hin2 dL_law_873 ?_
        refine cx_vig (As := [.int (xs (nI (6 * k) + 1).toNatClampNeg), .int (xs (nI (6 * k) + 2).toNatClampNeg)]) (rest := [.int r]) ⟨hx, hb, hml, hown, hts⟩ hl.1 ok_noE trivial hK hP hD hS hA (cutB cI q0 q1 th kp u2 v) (c_X11_stand (l := l) (dC := dC) (dI := dI) (cI := cI) (q0 := q1) h) (cwV 2 hts gT_X11_stand rfl rfl rfl hdX11_stand ⟨Nat.le_of_ble_eq_true rfl, Nat.le_of_ble_eq_true rfl⟩) rfl rfl rfl rfl (Nat.le_of_ble_eq_true rfl) dL_law_874 rfl ⟨(show _ ≤ 193980 by omega), (show _ ≤ 8520310 by omega)⟩ (fun r2 v2 H locs h hP hD hS => ?_)
        refine lv_icmp_eq (tgt := 1000) hx hb dL_law_877 (by decide) (fun cd => ?_) (fun cd => absurd h.1 cd)
        refine W.widen (k := 53 + 30 * (k + 1)) (n := 44166 + 10408 * (k + 1)) (by omega) (by omega) ?_
        exact hend u2 th kp v2 _ _ _ h.2.1 (h.2.2.1.trans hT) (h.2.2.2.trans hKp) hP hD hS hl
      by_cases c24 : w = 24
      · refine lv_tableIn (tgt := 882) (off := 849) hx hb dL_law_33 (by rw [c24]; decide) (by rw [c24]; decide) (by rw [c24]; rfl) (by decide) ?_
        refine lv_aload_n hx hb dL_law_882 rfl (lv_at hl 1 rfl) ?_
        refine lv_aload_n hx hb dL_law_883 rfl (lv_at hl 0 rfl) ?_
        refine lv_iload_n hx hb dL_law_884 rfl (lv_at hl 3 rfl) ?_
        refine lv_iconst (v := 1) hx hb dL_law_885 (by decide) ?_
        refine lv_iadd hx hb dL_law_886 ?_
        refine va_sld hx hb hX hbl hbA hS hin1 dL_law_887 ?_
        refine lv_aload_n hx hb dL_law_888 rfl (lv_at hl 0 rfl) ?_
        refine lv_iload_n hx hb dL_law_889 rfl (lv_at hl 3 rfl) ?_
        refine lv_iconst (v := 2) hx hb dL_law_890 (by decide) ?_
        refine lv_iadd hx hb dL_law_891 ?_
        refine va_sld hx hb hX hbl hbA hS hin2 dL_law_892 ?_
        have h := hs.2.2.2.2.2.2.2.2.2.2.2.2.2.2.2.2.2.2.2.2.2.2.2.2.2.2.1 u (osn th) (osn kp) v (xs (nI (6 * k) + 1).toNatClampNeg) (xs (nI (6 * k) + 2).toNatClampNeg) hsim
        refine cx_vig (As := [.int (xs (nI (6 * k) + 1).toNatClampNeg), .int (xs (nI (6 * k) + 2).toNatClampNeg)]) (rest := []) ⟨hx, hb, hml, hown, hts⟩ hl.1 ok_sxE hE.1 hK hP hD hS hA (cutA cI q0 q1 th kp u v) (c_X10_asOf (l := l) (dC := dC) (dI := dI) (cI := cI) (q0 := q0) h) (cwV 2 hts gT_X10_asOf rfl rfl rfl hdX10_asOf ⟨Nat.le_of_ble_eq_true rfl, Nat.le_of_ble_eq_true rfl⟩) rfl rfl rfl rfl (Nat.le_of_ble_eq_true rfl) dL_law_893 rfl ⟨(show _ ≤ 193980 by omega), (show _ ≤ 8520310 by omega)⟩ (fun r u2 H locs h hP hD hS => ?_)
        refine lv_aload_n hx hb dL_law_896 rfl (lv_at hl 2 rfl) ?_
        refine lv_aload_n hx hb dL_law_897 rfl (lv_at hl 0 rfl) ?_
        refine lv_iload_n hx hb dL_law_898 rfl (lv_at hl 3 rfl) ?_
        refine lv_iconst (v := 1) hx hb dL_law_899 (by decide) ?_
        refine lv_iadd hx hb dL_law_900 ?_
        refine va_sld hx hb hX hbl hbA hS hin1 dL_law_901 ?_
        refine lv_aload_n hx hb dL_law_902 rfl (lv_at hl 0 rfl) ?_
        refine lv_iload_n hx hb dL_law_903 rfl (lv_at hl 3 rfl) ?_
        refine lv_iconst (v := 2) hx hb dL_law_904 (by decide) ?_
        refine lv_iadd hx hb dL_law_905 ?_
        refine va_sld hx hb hX hbl hbA hS hin2 dL_law_906 ?_
        refine cx_vig (As := [.int (xs (nI (6 * k) + 1).toNatClampNeg), .int (xs (nI (6 * k) + 2).toNatClampNeg)]) (rest := [.int r]) ⟨hx, hb, hml, hown, hts⟩ hl.1 ok_noE trivial hK hP hD hS hA (cutB cI q0 q1 th kp u2 v) (c_X11_asOf (l := l) (dC := dC) (dI := dI) (cI := cI) (q0 := q1) h) (cwV 2 hts gT_X11_asOf rfl rfl rfl hdX11_asOf ⟨Nat.le_of_ble_eq_true rfl, Nat.le_of_ble_eq_true rfl⟩) rfl rfl rfl rfl (Nat.le_of_ble_eq_true rfl) dL_law_907 rfl ⟨(show _ ≤ 193980 by omega), (show _ ≤ 8520310 by omega)⟩ (fun r2 v2 H locs h hP hD hS => ?_)
        refine lv_icmp_eq (tgt := 1000) hx hb dL_law_910 (by decide) (fun cd => ?_) (fun cd => absurd h.1 cd)
        refine W.widen (k := 53 + 30 * (k + 1)) (n := 44166 + 10408 * (k + 1)) (by omega) (by omega) ?_
        exact hend u2 th kp v2 _ _ _ h.2.1 (h.2.2.1.trans hT) (h.2.2.2.trans hKp) hP hD hS hl
      by_cases c25 : w = 25
      · refine lv_tableIn (tgt := 915) (off := 882) hx hb dL_law_33 (by rw [c25]; decide) (by rw [c25]; decide) (by rw [c25]; rfl) (by decide) ?_
        refine lv_aload_n hx hb dL_law_915 rfl (lv_at hl 1 rfl) ?_
        refine lv_aload_n hx hb dL_law_916 rfl (lv_at hl 0 rfl) ?_
        refine lv_iload_n hx hb dL_law_917 rfl (lv_at hl 3 rfl) ?_
        refine lv_iconst (v := 1) hx hb dL_law_918 (by decide) ?_
        refine lv_iadd hx hb dL_law_919 ?_
        refine va_sld hx hb hX hbl hbA hS hin1 dL_law_920 ?_
        have h := hs.2.2.2.2.2.2.2.2.2.2.2.2.2.2.2.2.2.2.2.2.2.2.2.2.2.2.2.1 u (osn th) (osn kp) v (xs (nI (6 * k) + 1).toNatClampNeg) hsim
        refine cx_vig (As := [.int (xs (nI (6 * k) + 1).toNatClampNeg)]) (rest := []) ⟨hx, hb, hml, hown, hts⟩ hl.1 ok_sxE hE.1 hK hP hD hS hA (cutA0 cI q0 q1 th kp u v) (c_X10_count (l := l) (dC := dC) (dI := dI) (cI := cI) (q0 := q0) h) (cwV 1 hts gT_X10_count rfl rfl rfl hdX10_count ⟨Nat.le_of_ble_eq_true rfl, Nat.le_of_ble_eq_true rfl⟩) rfl rfl rfl rfl (Nat.le_of_ble_eq_true rfl) dL_law_921 rfl ⟨(show _ ≤ 193980 by omega), (show _ ≤ 8520310 by omega)⟩ (fun r _ H locs h hP hD hS => ?_)
        refine lv_aload_n hx hb dL_law_924 rfl (lv_at hl 2 rfl) ?_
        refine lv_aload_n hx hb dL_law_925 rfl (lv_at hl 0 rfl) ?_
        refine lv_iload_n hx hb dL_law_926 rfl (lv_at hl 3 rfl) ?_
        refine lv_iconst (v := 1) hx hb dL_law_927 (by decide) ?_
        refine lv_iadd hx hb dL_law_928 ?_
        refine va_sld hx hb hX hbl hbA hS hin1 dL_law_929 ?_
        refine cx_vig (As := [.int (xs (nI (6 * k) + 1).toNatClampNeg)]) (rest := [.int r]) ⟨hx, hb, hml, hown, hts⟩ hl.1 ok_noE trivial hK hP hD hS hA (cutB cI q0 q1 th kp u v) (c_X11_count (l := l) (dC := dC) (dI := dI) (cI := cI) (q0 := q1) h) (cwV 1 hts gT_X11_count rfl rfl rfl hdX11_count ⟨Nat.le_of_ble_eq_true rfl, Nat.le_of_ble_eq_true rfl⟩) rfl rfl rfl rfl (Nat.le_of_ble_eq_true rfl) dL_law_930 rfl ⟨(show _ ≤ 193980 by omega), (show _ ≤ 8520310 by omega)⟩ (fun r2 v2 H locs h hP hD hS => ?_)
        refine lv_icmp_eq (tgt := 1000) hx hb dL_law_933 (by decide) (fun cd => ?_) (fun cd => absurd h.1 cd)
        refine W.widen (k := 53 + 30 * (k + 1)) (n := 44166 + 10408 * (k + 1)) (by omega) (by omega) ?_
        exact hend u th kp v2 _ _ _ h.2 hT hKp hP hD hS hl
      by_cases c26 : w = 26
      · refine lv_tableIn (tgt := 938) (off := 905) hx hb dL_law_33 (by rw [c26]; decide) (by rw [c26]; decide) (by rw [c26]; rfl) (by decide) ?_
        refine lv_aload_n hx hb dL_law_938 rfl (lv_at hl 1 rfl) ?_
        refine lv_aload_n hx hb dL_law_939 rfl (lv_at hl 0 rfl) ?_
        refine lv_iload_n hx hb dL_law_940 rfl (lv_at hl 3 rfl) ?_
        refine lv_iconst (v := 1) hx hb dL_law_941 (by decide) ?_
        refine lv_iadd hx hb dL_law_942 ?_
        refine va_sld hx hb hX hbl hbA hS hin1 dL_law_943 ?_
        refine lv_if_eq (tgt := 951) hx hb dL_law_944 (by decide) (fun ca => ?_) (fun ca => ?_)
        · refine lv_iconst (v := 0) hx hb dL_law_951 (by decide) ?_
          rcases kp with _ | ⟨qt, wt⟩
          · have h := hs.2.2.2.2.2.2.2.2.2.2.2.2.2.2.2.2.2.2.2.2.2.2.2.2.2.2.2.2.2.1 u (osn th) v 0 (Or.inl rfl) hsim
            refine cx_vim (As := [.int 0]) (rest := []) ⟨hx, hb, hml, hown, hts⟩ hl.1 ok_sxE hE.1 hK hP hD hS hA (cutIn cI q0 q1 th u v) (c_X10_image_n (l := l) (dC := dC) (dI := dI) (cI := cI) (q0 := q0) hKp h) (cwV 1 hts gT_X10_image rfl rfl rfl hdX10_image ⟨Nat.le_of_ble_eq_true rfl, Nat.le_of_ble_eq_true rfl⟩) rfl rfl rfl rfl (Nat.le_of_ble_eq_true rfl) dL_law_952 rfl ⟨(show _ ≤ 193980 by omega), (show _ ≤ 8520310 by omega)⟩ (fun r o H locs h hP hD hS => ?_)
            rcases o with _ | ⟨qn, u2, w2⟩
            · refine lv_aload_n hx hb dL_law_955 rfl (lv_at hl 2 rfl) ?_
              refine lv_aload_n hx hb dL_law_956 rfl (lv_at hl 0 rfl) ?_
              refine lv_iload_n hx hb dL_law_957 rfl (lv_at hl 3 rfl) ?_
              refine lv_iconst (v := 1) hx hb dL_law_958 (by decide) ?_
              refine lv_iadd hx hb dL_law_959 ?_
              refine va_sld hx hb hX hbl hbA hS hin1 dL_law_960 ?_
              refine lv_if_eq (tgt := 968) hx hb dL_law_961 (by decide) (fun cd2 => ?_) (fun cd2 => absurd ca cd2)
              refine lv_iconst (v := 0) hx hb dL_law_968 (by decide) ?_
              refine cx_vig (As := [.int 0]) (rest := [.int r]) ⟨hx, hb, hml, hown, hts⟩ hl.1 ok_noE trivial hK hP hD hS hA (cutB cI q0 q1 th none u v) (c_X11_image (l := l) (dC := dC) (dI := dI) (cI := cI) (q0 := q1) h) (cwV 1 hts gT_X11_image rfl rfl rfl hdX11_image ⟨Nat.le_of_ble_eq_true rfl, Nat.le_of_ble_eq_true rfl⟩) rfl rfl rfl rfl (Nat.le_of_ble_eq_true rfl) dL_law_969 rfl ⟨(show _ ≤ 193980 by omega), (show _ ≤ 8520310 by omega)⟩ (fun r2 v2 H locs h hP hD hS => ?_)
              refine lv_icmp_eq (tgt := 1000) hx hb dL_law_972 (by decide) (fun cd => ?_) (fun cd => absurd h.1 cd)
              refine W.widen (k := 53 + 30 * (k + 1)) (n := 44166 + 10408 * (k + 1)) (by omega) (by omega) ?_
              exact hend u th none v2 _ _ _ h.2 hT hKp hP hD hS hl
            · have hT2 := h.1
              have h := h.2
              refine lv_aload_n hx hb dL_law_955 rfl (lv_at hl 2 rfl) ?_
              refine lv_aload_n hx hb dL_law_956 rfl (lv_at hl 0 rfl) ?_
              refine lv_iload_n hx hb dL_law_957 rfl (lv_at hl 3 rfl) ?_
              refine lv_iconst (v := 1) hx hb dL_law_958 (by decide) ?_
              refine lv_iadd hx hb dL_law_959 ?_
              refine va_sld hx hb hX hbl hbA hS hin1 dL_law_960 ?_
              refine lv_if_eq (tgt := 968) hx hb dL_law_961 (by decide) (fun cd2 => ?_) (fun cd2 => absurd ca cd2)
              refine lv_iconst (v := 0) hx hb dL_law_968 (by decide) ?_
              refine cx_vig (As := [.int 0]) (rest := [.int r]) ⟨hx, hb, hml, hown, hts⟩ hl.1 ok_noE trivial hK hP hD hS hA (cutB cI q0 q1 th (some (qn, w2)) u2 v) (c_X11_image (l := l) (dC := dC) (dI := dI) (cI := cI) (q0 := q1) h) (cwV 1 hts gT_X11_image rfl rfl rfl hdX11_image ⟨Nat.le_of_ble_eq_true rfl, Nat.le_of_ble_eq_true rfl⟩) rfl rfl rfl rfl (Nat.le_of_ble_eq_true rfl) dL_law_969 rfl ⟨(show _ ≤ 193980 by omega), (show _ ≤ 8520310 by omega)⟩ (fun r2 v2 H locs h hP hD hS => ?_)
              refine lv_icmp_eq (tgt := 1000) hx hb dL_law_972 (by decide) (fun cd => ?_) (fun cd => absurd h.1 cd)
              refine W.widen (k := 53 + 30 * (k + 1)) (n := 44166 + 10408 * (k + 1)) (by omega) (by omega) ?_
              exact hend u2 th (some (qn, w2)) v2 _ _ _ h.2.1 (h.2.2.trans hT) hT2 hP hD hS hl
          · have h := hs.2.2.2.2.2.2.2.2.2.2.2.2.2.2.2.2.2.2.2.2.2.2.2.2.2.2.2.2.1 u (osn th) wt v 0 (Or.inl rfl) hsim
            refine cx_vim (As := [.int 0]) (rest := []) ⟨hx, hb, hml, hown, hts⟩ hl.1 ok_sxE hE.1 hK hP hD hS hA (cutIs cI q0 q1 th (qt, wt) u v) (c_X10_image_s (l := l) (dC := dC) (dI := dI) (cI := cI) (q0 := q0) (q1 := qt) hKp h) (cwV 1 hts gT_X10_image rfl rfl rfl hdX10_image ⟨Nat.le_of_ble_eq_true rfl, Nat.le_of_ble_eq_true rfl⟩) rfl rfl rfl rfl (Nat.le_of_ble_eq_true rfl) dL_law_952 rfl ⟨(show _ ≤ 193980 by omega), (show _ ≤ 8520310 by omega)⟩ (fun r o H locs h hP hD hS => ?_)
            obtain ⟨u2, w2⟩ := o
            have hT2 := h.1
            have h := h.2
            refine lv_aload_n hx hb dL_law_955 rfl (lv_at hl 2 rfl) ?_
            refine lv_aload_n hx hb dL_law_956 rfl (lv_at hl 0 rfl) ?_
            refine lv_iload_n hx hb dL_law_957 rfl (lv_at hl 3 rfl) ?_
            refine lv_iconst (v := 1) hx hb dL_law_958 (by decide) ?_
            refine lv_iadd hx hb dL_law_959 ?_
            refine va_sld hx hb hX hbl hbA hS hin1 dL_law_960 ?_
            refine lv_if_eq (tgt := 968) hx hb dL_law_961 (by decide) (fun cd2 => ?_) (fun cd2 => absurd ca cd2)
            refine lv_iconst (v := 0) hx hb dL_law_968 (by decide) ?_
            refine cx_vig (As := [.int 0]) (rest := [.int r]) ⟨hx, hb, hml, hown, hts⟩ hl.1 ok_noE trivial hK hP hD hS hA (cutB cI q0 q1 th (some (qt, w2)) u2 v) (c_X11_image (l := l) (dC := dC) (dI := dI) (cI := cI) (q0 := q1) h) (cwV 1 hts gT_X11_image rfl rfl rfl hdX11_image ⟨Nat.le_of_ble_eq_true rfl, Nat.le_of_ble_eq_true rfl⟩) rfl rfl rfl rfl (Nat.le_of_ble_eq_true rfl) dL_law_969 rfl ⟨(show _ ≤ 193980 by omega), (show _ ≤ 8520310 by omega)⟩ (fun r2 v2 H locs h hP hD hS => ?_)
            refine lv_icmp_eq (tgt := 1000) hx hb dL_law_972 (by decide) (fun cd => ?_) (fun cd => absurd h.1 cd)
            refine W.widen (k := 53 + 30 * (k + 1)) (n := 44166 + 10408 * (k + 1)) (by omega) (by omega) ?_
            exact hend u2 th (some (qt, w2)) v2 _ _ _ h.2.1 (h.2.2.trans hT) hT2 hP hD hS hl
        · refine lv_iconst (v := 1) hx hb dL_law_947 (by decide) ?_
          refine lv_goto (tgt := 952) hx hb dL_law_948 (by decide) ?_
          rcases kp with _ | ⟨qt, wt⟩
          · have h := hs.2.2.2.2.2.2.2.2.2.2.2.2.2.2.2.2.2.2.2.2.2.2.2.2.2.2.2.2.2.1 u (osn th) v 1 (Or.inr rfl) hsim
            refine cx_vim (As := [.int 1]) (rest := []) ⟨hx, hb, hml, hown, hts⟩ hl.1 ok_sxE hE.1 hK hP hD hS hA (cutIn cI q0 q1 th u v) (c_X10_image_n (l := l) (dC := dC) (dI := dI) (cI := cI) (q0 := q0) hKp h) (cwV 1 hts gT_X10_image rfl rfl rfl hdX10_image ⟨Nat.le_of_ble_eq_true rfl, Nat.le_of_ble_eq_true rfl⟩) rfl rfl rfl rfl (Nat.le_of_ble_eq_true rfl) dL_law_952 rfl ⟨(show _ ≤ 193980 by omega), (show _ ≤ 8520310 by omega)⟩ (fun r o H locs h hP hD hS => ?_)
            rcases o with _ | ⟨qn, u2, w2⟩
            · refine lv_aload_n hx hb dL_law_955 rfl (lv_at hl 2 rfl) ?_
              refine lv_aload_n hx hb dL_law_956 rfl (lv_at hl 0 rfl) ?_
              refine lv_iload_n hx hb dL_law_957 rfl (lv_at hl 3 rfl) ?_
              refine lv_iconst (v := 1) hx hb dL_law_958 (by decide) ?_
              refine lv_iadd hx hb dL_law_959 ?_
              refine va_sld hx hb hX hbl hbA hS hin1 dL_law_960 ?_
              refine lv_if_eq (tgt := 968) hx hb dL_law_961 (by decide) (fun cd2 => absurd cd2 ca) (fun cd2 => ?_)
              refine lv_iconst (v := 1) hx hb dL_law_964 (by decide) ?_
              refine lv_goto (tgt := 969) hx hb dL_law_965 (by decide) ?_
              refine cx_vig (As := [.int 1]) (rest := [.int r]) ⟨hx, hb, hml, hown, hts⟩ hl.1 ok_noE trivial hK hP hD hS hA (cutB cI q0 q1 th none u v) (c_X11_image (l := l) (dC := dC) (dI := dI) (cI := cI) (q0 := q1) h) (cwV 1 hts gT_X11_image rfl rfl rfl hdX11_image ⟨Nat.le_of_ble_eq_true rfl, Nat.le_of_ble_eq_true rfl⟩) rfl rfl rfl rfl (Nat.le_of_ble_eq_true rfl) dL_law_969 rfl ⟨(show _ ≤ 193980 by omega), (show _ ≤ 8520310 by omega)⟩ (fun r2 v2 H locs h hP hD hS => ?_)
              refine lv_icmp_eq (tgt := 1000) hx hb dL_law_972 (by decide) (fun cd => ?_) (fun cd => absurd h.1 cd)
              refine W.widen (k := 53 + 30 * (k + 1)) (n := 44166 + 10408 * (k + 1)) (by omega) (by omega) ?_
              exact hend u th none v2 _ _ _ h.2 hT hKp hP hD hS hl
            · have hT2 := h.1
              have h := h.2
              refine lv_aload_n hx hb dL_law_955 rfl (lv_at hl 2 rfl) ?_
              refine lv_aload_n hx hb dL_law_956 rfl (lv_at hl 0 rfl) ?_
              refine lv_iload_n hx hb dL_law_957 rfl (lv_at hl 3 rfl) ?_
              refine lv_iconst (v := 1) hx hb dL_law_958 (by decide) ?_
              refine lv_iadd hx hb dL_law_959 ?_
              refine va_sld hx hb hX hbl hbA hS hin1 dL_law_960 ?_
              refine lv_if_eq (tgt := 968) hx hb dL_law_961 (by decide) (fun cd2 => absurd cd2 ca) (fun cd2 => ?_)
              refine lv_iconst (v := 1) hx hb dL_law_964 (by decide) ?_
              refine lv_goto (tgt := 969) hx hb dL_law_965 (by decide) ?_
              refine cx_vig (As := [.int 1]) (rest := [.int r]) ⟨hx, hb, hml, hown, hts⟩ hl.1 ok_noE trivial hK hP hD hS hA (cutB cI q0 q1 th (some (qn, w2)) u2 v) (c_X11_image (l := l) (dC := dC) (dI := dI) (cI := cI) (q0 := q1) h) (cwV 1 hts gT_X11_image rfl rfl rfl hdX11_image ⟨Nat.le_of_ble_eq_true rfl, Nat.le_of_ble_eq_true rfl⟩) rfl rfl rfl rfl (Nat.le_of_ble_eq_true rfl) dL_law_969 rfl ⟨(show _ ≤ 193980 by omega), (show _ ≤ 8520310 by omega)⟩ (fun r2 v2 H locs h hP hD hS => ?_)
              refine lv_icmp_eq (tgt := 1000) hx hb dL_law_972 (by decide) (fun cd => ?_) (fun cd => absurd h.1 cd)
              refine W.widen (k := 53 + 30 * (k + 1)) (n := 44166 + 10408 * (k + 1)) (by omega) (by omega) ?_
              exact hend u2 th (some (qn, w2)) v2 _ _ _ h.2.1 (h.2.2.trans hT) hT2 hP hD hS hl
          · have h := hs.2.2.2.2.2.2.2.2.2.2.2.2.2.2.2.2.2.2.2.2.2.2.2.2.2.2.2.2.1 u (osn th) wt v 1 (Or.inr rfl) hsim
            refine cx_vim (As := [.int 1]) (rest := []) ⟨hx, hb, hml, hown, hts⟩ hl.1 ok_sxE hE.1 hK hP hD hS hA (cutIs cI q0 q1 th (qt, wt) u v) (c_X10_image_s (l := l) (dC := dC) (dI := dI) (cI := cI) (q0 := q0) (q1 := qt) hKp h) (cwV 1 hts gT_X10_image rfl rfl rfl hdX10_image ⟨Nat.le_of_ble_eq_true rfl, Nat.le_of_ble_eq_true rfl⟩) rfl rfl rfl rfl (Nat.le_of_ble_eq_true rfl) dL_law_952 rfl ⟨(show _ ≤ 193980 by omega), (show _ ≤ 8520310 by omega)⟩ (fun r o H locs h hP hD hS => ?_)
            obtain ⟨u2, w2⟩ := o
            have hT2 := h.1
            have h := h.2
            refine lv_aload_n hx hb dL_law_955 rfl (lv_at hl 2 rfl) ?_
            refine lv_aload_n hx hb dL_law_956 rfl (lv_at hl 0 rfl) ?_
            refine lv_iload_n hx hb dL_law_957 rfl (lv_at hl 3 rfl) ?_
            refine lv_iconst (v := 1) hx hb dL_law_958 (by decide) ?_
            refine lv_iadd hx hb dL_law_959 ?_
            refine va_sld hx hb hX hbl hbA hS hin1 dL_law_960 ?_
            refine lv_if_eq (tgt := 968) hx hb dL_law_961 (by decide) (fun cd2 => absurd cd2 ca) (fun cd2 => ?_)
            refine lv_iconst (v := 1) hx hb dL_law_964 (by decide) ?_
            refine lv_goto (tgt := 969) hx hb dL_law_965 (by decide) ?_
            refine cx_vig (As := [.int 1]) (rest := [.int r]) ⟨hx, hb, hml, hown, hts⟩ hl.1 ok_noE trivial hK hP hD hS hA (cutB cI q0 q1 th (some (qt, w2)) u2 v) (c_X11_image (l := l) (dC := dC) (dI := dI) (cI := cI) (q0 := q1) h) (cwV 1 hts gT_X11_image rfl rfl rfl hdX11_image ⟨Nat.le_of_ble_eq_true rfl, Nat.le_of_ble_eq_true rfl⟩) rfl rfl rfl rfl (Nat.le_of_ble_eq_true rfl) dL_law_969 rfl ⟨(show _ ≤ 193980 by omega), (show _ ≤ 8520310 by omega)⟩ (fun r2 v2 H locs h hP hD hS => ?_)
            refine lv_icmp_eq (tgt := 1000) hx hb dL_law_972 (by decide) (fun cd => ?_) (fun cd => absurd h.1 cd)
            refine W.widen (k := 53 + 30 * (k + 1)) (n := 44166 + 10408 * (k + 1)) (by omega) (by omega) ?_
            exact hend u2 th (some (qt, w2)) v2 _ _ _ h.2.1 (h.2.2.trans hT) hT2 hP hD hS hl
      by_cases c27 : w = 27
      · refine lv_tableIn (tgt := 977) (off := 944) hx hb dL_law_33 (by rw [c27]; decide) (by rw [c27]; decide) (by rw [c27]; rfl) (by decide) ?_
        refine lv_aload_n hx hb dL_law_977 rfl (lv_at hl 1 rfl) ?_
        refine lv_aload_n hx hb dL_law_978 rfl (lv_at hl 0 rfl) ?_
        refine lv_iload_n hx hb dL_law_979 rfl (lv_at hl 3 rfl) ?_
        refine lv_iconst (v := 1) hx hb dL_law_980 (by decide) ?_
        refine lv_iadd hx hb dL_law_981 ?_
        refine va_sld hx hb hX hbl hbA hS hin1 dL_law_982 ?_
        have h := hs.2.2.2.2.2.2.2.2.2.2.2.2.2.2.2.2.2.2.2.2.2.2.2.2.2.2.2.2.2.2 u (osn th) (osn kp) v (xs (nI (6 * k) + 1).toNatClampNeg) hsim
        refine cx_vig (As := [.int (xs (nI (6 * k) + 1).toNatClampNeg)]) (rest := []) ⟨hx, hb, hml, hown, hts⟩ hl.1 ok_sxE hE.1 hK hP hD hS hA (cutA0 cI q0 q1 th kp u v) (c_X10_look (l := l) (dC := dC) (dI := dI) (cI := cI) (q0 := q0) h) (cwV 1 hts gT_X10_look rfl rfl rfl hdX10_look ⟨Nat.le_of_ble_eq_true rfl, Nat.le_of_ble_eq_true rfl⟩) rfl rfl rfl rfl (Nat.le_of_ble_eq_true rfl) dL_law_983 rfl ⟨(show _ ≤ 193980 by omega), (show _ ≤ 8520310 by omega)⟩ (fun r _ H locs h hP hD hS => ?_)
        refine lv_aload_n hx hb dL_law_986 rfl (lv_at hl 2 rfl) ?_
        refine lv_aload_n hx hb dL_law_987 rfl (lv_at hl 0 rfl) ?_
        refine lv_iload_n hx hb dL_law_988 rfl (lv_at hl 3 rfl) ?_
        refine lv_iconst (v := 1) hx hb dL_law_989 (by decide) ?_
        refine lv_iadd hx hb dL_law_990 ?_
        refine va_sld hx hb hX hbl hbA hS hin1 dL_law_991 ?_
        refine cx_vig (As := [.int (xs (nI (6 * k) + 1).toNatClampNeg)]) (rest := [.int r]) ⟨hx, hb, hml, hown, hts⟩ hl.1 ok_noE trivial hK hP hD hS hA (cutB cI q0 q1 th kp u v) (c_X11_look (l := l) (dC := dC) (dI := dI) (cI := cI) (q0 := q1) h) (cwV 1 hts gT_X11_look rfl rfl rfl hdX11_look ⟨Nat.le_of_ble_eq_true rfl, Nat.le_of_ble_eq_true rfl⟩) rfl rfl rfl rfl (Nat.le_of_ble_eq_true rfl) dL_law_992 rfl ⟨(show _ ≤ 193980 by omega), (show _ ≤ 8520310 by omega)⟩ (fun r2 v2 H locs h hP hD hS => ?_)
        refine lv_icmp_eq (tgt := 1000) hx hb dL_law_995 (by decide) (fun cd => ?_) (fun cd => absurd h.1 cd)
        refine W.widen (k := 53 + 30 * (k + 1)) (n := 44166 + 10408 * (k + 1)) (by omega) (by omega) ?_
        exact hend u th kp v2 _ _ _ h.2 hT hKp hP hD hS hl
      refine lv_tableOut (tgt := 1000) hx hb dL_law_33 (by have z0 := lv_neT (a := 0) c0 (by decide); have z1 := lv_neT (a := 1) c1 (by decide); have z2 := lv_neT (a := 2) c2 (by decide); have z3 := lv_neT (a := 3) c3 (by decide); have z4 := lv_neT (a := 4) c4 (by decide); have z5 := lv_neT (a := 5) c5 (by decide); have z6 := lv_neT (a := 6) c6 (by decide); have z7 := lv_neT (a := 7) c7 (by decide); have z8 := lv_neT (a := 8) c8 (by decide); have z9 := lv_neT (a := 9) c9 (by decide); have z10 := lv_neT (a := 10) c10 (by decide); have z11 := lv_neT (a := 11) c11 (by decide); have z12 := lv_neT (a := 12) c12 (by decide); have z13 := lv_neT (a := 13) c13 (by decide); have z14 := lv_neT (a := 14) c14 (by decide); have z15 := lv_neT (a := 15) c15 (by decide); have z16 := lv_neT (a := 16) c16 (by decide); have z17 := lv_neT (a := 17) c17 (by decide); have z18 := lv_neT (a := 18) c18 (by decide); have z19 := lv_neT (a := 19) c19 (by decide); have z20 := lv_neT (a := 20) c20 (by decide); have z21 := lv_neT (a := 21) c21 (by decide); have z22 := lv_neT (a := 22) c22 (by decide); have z23 := lv_neT (a := 23) c23 (by decide); have z24 := lv_neT (a := 24) c24 (by decide); have z25 := lv_neT (a := 25) c25 (by decide); have z26 := lv_neT (a := 26) c26 (by decide); have z27 := lv_neT (a := 27) c27 (by decide); omega) (by decide) ?_
      refine W.widen (k := 53 + 30 * (k + 1)) (n := 44166 + 10408 * (k + 1)) (by omega) (by omega) ?_
      exact hend u th kp v _ _ _ hsim hT hKp hP hD hS hl
