theorem sxA_of {args : Array Value} {s : State} {A : Nat → Prop} {nm : String} {N : Nat} {f : Nat → Int32} (hN : N < 2 ^ 31) (hl : (Cond.laysStatic "AheadStore" nm "[I").before args s = true) (hini : (Cond.initialized "AheadStore").before args s = true) (harr : (Cond.arrayOf (.static "AheadStore" nm "[I") .int).before args s = true) (hle : (Cond.eq (.length (.static "AheadStore" nm "[I")) (.int (Int32.ofNat N))).before args s = true) (hel : ∀ j : Nat, j < N → (Cond.eq (.elem (.static "AheadStore" nm "[I") (.int (Int32.ofNat j))) (.int (f j))).before args s = true) (hA : ∀ a : Nat, a < s.heap.size → ¬ A a) : sxA nm N f A s := by
  obtain ⟨t, ht, hT⟩ := va_Tof (f := fun j => .int (f j)) (A := A) hN harr (va_eqt hle) (fun j hj => va_eqt (hel j hj)) hA
  exact ⟨t, va_Zof hl hini ht hA, hT⟩
def gvL : List Cond := flatC (Jvm.Cond.and given_1 narrow_1)
theorem gv_LENGTHS : (Cond.laysStatic "AheadStore" "LENGTHS" "[I" ∈ lw_tbl) ∧ (Cond.arrayOf (.static "AheadStore" "LENGTHS" "[I") .int ∈ gvL) ∧ (Cond.eq (.length (.static "AheadStore" "LENGTHS" "[I")) (.int (Int32.ofNat 10)) ∈ gvL) := ⟨by decide +kernel, by decide +kernel, by decide +kernel⟩
theorem ge_LENGTHS : ∀ j, j < 10 → Cond.eq (.elem (.static "AheadStore" "LENGTHS" "[I") (.int (Int32.ofNat j))) (.int (st_LENGTHS j)) ∈ gvL := by decide +kernel
theorem gv_OPERANDS : (Cond.laysStatic "AheadStore" "OPERANDS" "[I" ∈ lw_tbl) ∧ (Cond.arrayOf (.static "AheadStore" "OPERANDS" "[I") .int ∈ gvL) ∧ (Cond.eq (.length (.static "AheadStore" "OPERANDS" "[I")) (.int (Int32.ofNat 14)) ∈ gvL) := ⟨by decide +kernel, by decide +kernel, by decide +kernel⟩
theorem ge_OPERANDS : ∀ j, j < 14 → Cond.eq (.elem (.static "AheadStore" "OPERANDS" "[I") (.int (Int32.ofNat j))) (.int (st_OPERANDS j)) ∈ gvL := by decide +kernel
theorem gv_LEAST : (Cond.laysStatic "AheadStore" "LEAST" "[I" ∈ lw_tbl) ∧ (Cond.arrayOf (.static "AheadStore" "LEAST" "[I") .int ∈ gvL) ∧ (Cond.eq (.length (.static "AheadStore" "LEAST" "[I")) (.int (Int32.ofNat 14)) ∈ gvL) := ⟨by decide +kernel, by decide +kernel, by decide +kernel⟩
theorem ge_LEAST : ∀ j, j < 14 → Cond.eq (.elem (.static "AheadStore" "LEAST" "[I") (.int (Int32.ofNat j))) (.int (st_LEAST j)) ∈ gvL := by decide +kernel
theorem gv_MOST : (Cond.laysStatic "AheadStore" "MOST" "[I" ∈ lw_tbl) ∧ (Cond.arrayOf (.static "AheadStore" "MOST" "[I") .int ∈ gvL) ∧ (Cond.eq (.length (.static "AheadStore" "MOST" "[I")) (.int (Int32.ofNat 14)) ∈ gvL) := ⟨by decide +kernel, by decide +kernel, by decide +kernel⟩
theorem ge_MOST : ∀ j, j < 14 → Cond.eq (.elem (.static "AheadStore" "MOST" "[I") (.int (Int32.ofNat j))) (.int (st_MOST j)) ∈ gvL := by decide +kernel
theorem gi_own : Cond.initialized "AheadStore" ∈ lw_tbl := by decide +kernel
theorem gs_1 : (Cond.exactly (.string "AheadStore$Tape" 98) "java/lang/String" ∈ gvL) ∧ (Cond.eq (.field (.string "AheadStore$Tape" 98) "java/lang/String" "coder" "B") (.int 0) ∈ gvL) ∧ (Cond.arrayOf (.field (.string "AheadStore$Tape" 98) "java/lang/String" "value" "[B") .byte ∈ gvL) ∧ (Cond.eq (.length (.field (.string "AheadStore$Tape" 98) "java/lang/String" "value" "[B")) (.int (Int32.ofNat 77)) ∈ gvL) := ⟨by decide +kernel, by decide +kernel, by decide +kernel, by decide +kernel⟩
theorem gs_2 : ∀ j, j < 77 → Cond.eq (.elem (.field (.string "AheadStore$Tape" 98) "java/lang/String" "value" "[B") (.int (Int32.ofNat j))) (.int (st_WORDS j)) ∈ gvL := by decide +kernel
theorem gs_3 : (Cond.stringRef "AheadStore$Tape" 98 "begin write add save back open close commit abort roll flush page check over " ∈ lw_tbl) ∧ (Cond.laysStatic "java/lang/String" "COMPACT_STRINGS" "Z" ∈ lw_tbl) ∧ (Cond.initialized "java/lang/String" ∈ lw_tbl) ∧ (Cond.laysStatic "jdk/internal/util/Preconditions" "SIOOBE_FORMATTER" "Ljava/util/function/BiFunction;" ∈ lw_tbl) ∧ (Cond.initialized "jdk/internal/util/Preconditions" ∈ lw_tbl) := ⟨by decide +kernel, by decide +kernel, by decide +kernel, by decide +kernel, by decide +kernel⟩
theorem gs_4 : (Cond.eq (.static "java/lang/String" "COMPACT_STRINGS" "Z") (.int 1) ∈ gvL) ∧ (Cond.isRef (.static "jdk/internal/util/Preconditions" "SIOOBE_FORMATTER" "Ljava/util/function/BiFunction;") ∈ gvL) := ⟨by decide +kernel, by decide +kernel⟩
theorem gn_0 : Cond.methodLinkNest RX1 11 yX5_init "AheadStore" ∈ lw_tbl := by decide +kernel
theorem gn_1 : Cond.methodLinkNest RX10 9 yX9_init "AheadStore" ∈ lw_tbl := by decide +kernel
theorem gn_2 : Cond.methodLinkNest RX10 18 yX8_init "AheadStore" ∈ lw_tbl := by decide +kernel
theorem gn_3 : Cond.methodLinkNest RX10 25 yX4_init "AheadStore" ∈ lw_tbl := by decide +kernel
theorem gn_4 : Cond.methodLinkNest RX10 32 yX1_init "AheadStore" ∈ lw_tbl := by decide +kernel
theorem gn_5 : Cond.methodLinkNest RX3 73 yX10_isPage "AheadStore" ∈ lw_tbl := by decide +kernel
theorem gn_6 : Cond.methodLinkNest RX4 148 yX10_isPage "AheadStore" ∈ lw_tbl := by decide +kernel
theorem gn_7 : Cond.methodLinkNest RX5 37 yX10_isParty "AheadStore" ∈ lw_tbl := by decide +kernel
theorem gn_8 : Cond.methodLinkNest RX8 27 yX6_init "AheadStore" ∈ lw_tbl := by decide +kernel
theorem gn_9 : Cond.methodLinkNest RX9 11 yX2_init "AheadStore" ∈ lw_tbl := by decide +kernel
theorem gn_10 : Cond.methodLinkNest RX9 27 yX5_init "AheadStore" ∈ lw_tbl := by decide +kernel
theorem gn_11 : Cond.methodLinkNest RX9 34 yX0_init "AheadStore" ∈ lw_tbl := by decide +kernel
theorem gn_12 : Cond.methodLinkNest RX9 41 yX7_init "AheadStore" ∈ lw_tbl := by decide +kernel
theorem gn_13 : Cond.methodLinkNest RX9 48 yX6_init "AheadStore" ∈ lw_tbl := by decide +kernel
theorem gn_14 : Cond.methodLinkNest RX9 73 yX10_isParty "AheadStore" ∈ lw_tbl := by decide +kernel
theorem gn_15 : Cond.methodLinkNest RX9 210 yX10_isPage "AheadStore" ∈ lw_tbl := by decide +kernel
theorem gf_0 : Cond.fieldLinkNest RX2 46 "AheadStore" "LENGTHS" "[I" "AheadStore" ∈ lw_tbl := by decide +kernel
theorem gf_1 : Cond.fieldLinkNest RX8 66 "AheadStore" "OPERANDS" "[I" "AheadStore" ∈ lw_tbl := by decide +kernel
theorem gf_2 : Cond.fieldLinkNest RX8 69 "AheadStore" "LEAST" "[I" "AheadStore" ∈ lw_tbl := by decide +kernel
theorem gf_3 : Cond.fieldLinkNest RX8 72 "AheadStore" "MOST" "[I" "AheadStore" ∈ lw_tbl := by decide +kernel
theorem ga_int : Cond.arrayClass .int ∈ lw_tbl := by decide +kernel
theorem gk_X0 : Cond.instantiable RX0 7 ∈ lw_tbl := by decide +kernel
theorem gk_X1 : Cond.instantiable RX1 1 ∈ lw_tbl := by decide +kernel
theorem gk_X2 : Cond.instantiable RX2 4 ∈ lw_tbl := by decide +kernel
theorem gk_X3 : Cond.instantiable RX3 12 ∈ lw_tbl := by decide +kernel
theorem gk_X4 : Cond.instantiable RX4 7 ∈ lw_tbl := by decide +kernel
theorem gk_X5 : Cond.instantiable RX5 3 ∈ lw_tbl := by decide +kernel
theorem gk_X6 : Cond.instantiable RX6 3 ∈ lw_tbl := by decide +kernel
theorem gk_X7 : Cond.instantiable RX7 4 ∈ lw_tbl := by decide +kernel
theorem gk_X8 : Cond.instantiable RX8 9 ∈ lw_tbl := by decide +kernel
theorem gk_X9 : Cond.instantiable RX9 11 ∈ lw_tbl := by decide +kernel
theorem gk_X10 : Cond.instantiable RX10 6 ∈ lw_tbl := by decide +kernel
theorem gk_X11 : Cond.instantiable RX11 28 ∈ lw_tbl := by decide +kernel
theorem tyE_start {args : Array Value} {s : State} (hts : ∀ w ∈ lw_tbl, w.before args s = true) (hg : ∀ w ∈ gvL, w.before args s = true) : tyE (fun q : Nat => s.heap.size ≤ q) s := by
  have hA : ∀ a : Nat, a < s.heap.size → ¬ (fun q : Nat => s.heap.size ≤ q) a := fun a h => Nat.not_le.mpr h
  refine ⟨⟨⟨List.forall_mem_cons.mpr ⟨va_Nw.of rfl (hts _ gn_0), List.forall_mem_cons.mpr ⟨va_Nw.of rfl (hts _ gn_1), List.forall_mem_cons.mpr ⟨va_Nw.of rfl (hts _ gn_2), List.forall_mem_cons.mpr ⟨va_Nw.of rfl (hts _ gn_3), List.forall_mem_cons.mpr ⟨va_Nw.of rfl (hts _ gn_4), List.forall_mem_cons.mpr ⟨va_Nw.of rfl (hts _ gn_5), List.forall_mem_cons.mpr ⟨va_Nw.of rfl (hts _ gn_6), List.forall_mem_cons.mpr ⟨va_Nw.of rfl (hts _ gn_7), List.forall_mem_cons.mpr ⟨va_Nw.of rfl (hts _ gn_8), List.forall_mem_cons.mpr ⟨va_Nw.of rfl (hts _ gn_9), List.forall_mem_cons.mpr ⟨va_Nw.of rfl (hts _ gn_10), List.forall_mem_cons.mpr ⟨va_Nw.of rfl (hts _ gn_11), List.forall_mem_cons.mpr ⟨va_Nw.of rfl (hts _ gn_12), List.forall_mem_cons.mpr ⟨va_Nw.of rfl (hts _ gn_13), List.forall_mem_cons.mpr ⟨va_Nw.of rfl (hts _ gn_14), List.forall_mem_cons.mpr ⟨va_Nw.of rfl (hts _ gn_15), fun _ h => absurd h List.not_mem_nil⟩⟩⟩⟩⟩⟩⟩⟩⟩⟩⟩⟩⟩⟩⟩⟩, List.forall_mem_cons.mpr ⟨va_Nw.of rfl (hts _ gf_0), List.forall_mem_cons.mpr ⟨va_Nw.of rfl (hts _ gf_1), List.forall_mem_cons.mpr ⟨va_Nw.of rfl (hts _ gf_2), List.forall_mem_cons.mpr ⟨va_Nw.of rfl (hts _ gf_3), fun _ h => absurd h List.not_mem_nil⟩⟩⟩⟩⟩, sxA_of (by decide) (hts _ gv_LENGTHS.1) (hts _ gi_own) (hg _ gv_LENGTHS.2.1) (hg _ gv_LENGTHS.2.2) (fun j hj => hg _ (ge_LENGTHS j hj)) hA, sxA_of (by decide) (hts _ gv_OPERANDS.1) (hts _ gi_own) (hg _ gv_OPERANDS.2.1) (hg _ gv_OPERANDS.2.2) (fun j hj => hg _ (ge_OPERANDS j hj)) hA, sxA_of (by decide) (hts _ gv_LEAST.1) (hts _ gi_own) (hg _ gv_LEAST.2.1) (hg _ gv_LEAST.2.2) (fun j hj => hg _ (ge_LEAST j hj)) hA, sxA_of (by decide) (hts _ gv_MOST.1) (hts _ gi_own) (hg _ gv_MOST.2.1) (hg _ gv_MOST.2.2) (fun j hj => hg _ (ge_MOST j hj)) hA⟩, ?_⟩
  have hel : ∀ i : Nat, i < 1 → ∀ j : Nat, j < ([77] : List Nat).getD i 0 → (Cond.eq (.elem (.field (.string "AheadStore$Tape" 98) "java/lang/String" "value" "[B") (.int (Int32.ofNat j))) (.int ((([(List.range 77).map st_WORDS] : List (List Int32)).getD i []).getD j 0))).before args s = true := by
    intro i hi j hj
    obtain rfl : i = 0 := by omega
    have hj : j < 77 := hj
    have e1 : (([(List.range 77).map st_WORDS] : List (List Int32)).getD 0 []).getD j 0 = st_WORDS j := by simp [hj]
    rw [e1]
    exact hg _ (gs_2 j hj)
  obtain ⟨adK, adV, hS, hT⟩ := vk_Sof (args := args) (s := s) (N := 1) (tm := fun _ => (.string "AheadStore$Tape" 98)) (len := [77]) (byt := [(List.range 77).map st_WORDS]) (A := fun q : Nat => s.heap.size ≤ q) (fun i hi => by rw [show i = 0 by omega]; decide) (fun i hi => hg _ gs_1.1) (fun i hi => hg _ gs_1.2.1) (fun i hi => hg _ gs_1.2.2.1) (fun i hi => by rw [show i = 0 by omega]; exact hg _ gs_1.2.2.2) hel (fun i j hi hj hij => absurd (by omega) hij) hA
  obtain ⟨h1, h2, h3, h4⟩ := hS.1 0 (by decide)
  refine ⟨adK 0, adV 0, vk_R.of (hts _ gs_3.1) (hT 0 (by decide)), h1, h2, h3, ?_, va_Zof (hts _ gs_3.2.1) (hts _ gs_3.2.2.1) (va_eqt (hg _ gs_4.1)) hA, va_Zqof (hts _ gs_3.2.2.2.1) (hts _ gs_3.2.2.2.2) (hg _ gs_4.2) hA⟩
  obtain ⟨cell, k1, k2, k3, k4, k5, k6, k7⟩ := h4
  refine ⟨cell, k1, k2, k3, k4, k5, fun j hj => ?_, k7⟩
  have e1 : (([(List.range 77).map st_WORDS] : List (List Int32)).getD 0 []).getD j 0 = st_WORDS j := by simp [hj]
  show cell.slots[j]? = some (Value.int (st_WORDS j))
  rw [← e1]; exact k6 j hj
set_option maxHeartbeats 4000000 in
set_option maxRecDepth 100000 in
/-- THE LAW, from its entry, out of any relation that is kept -/
theorem whole_open {p : Program} {e : Env} {s : State} {m : MethodId} {below : List Frame} {meth : Method} {c : Code} (l : Launch) {b L : Nat} {xs : Nat → Int32} {Sim : SimT} (hs : SimOK Sim) (hL : L ≤ 3072) (C0 : lw_At p s m meth c b L xs) : W p l e room_1 s m #[Value.ref b] below meth c s.heap [] 0 0 (lw_Z below #[Value.ref b] s) (entryFrame m ([Value.ref b] : List Value).toArray 4) := by
  obtain ⟨hx, hb, hr, hml, hown, hts, hX, hbl, hlocks, hgv⟩ := id C0
  have hown : s.vm.findClass RL = some m.cls := hown
  have hg : ∀ w ∈ gvL, w.before #[Value.ref b] s = true := flat_of_before _ hgv
  have hE := tyE_start hts hg
  have hA : ∀ q : Nat, s.heap.size ≤ q → (fun q : Nat => s.heap.size ≤ q) q := fun _ h => h
  obtain ⟨c0, iS0, hKn0⟩ := u_known (C := RX0) (T := TX0) (N := 7) (n := 7) hts inX0 (hts _ gk_X0)
  obtain ⟨c1, iS1, hKn1⟩ := u_known (C := RX1) (T := TX1) (N := 1) (n := 1) hts inX1 (hts _ gk_X1)
  obtain ⟨c2, iS2, hKn2⟩ := u_known (C := RX2) (T := TX2) (N := 4) (n := 4) hts inX2 (hts _ gk_X2)
  obtain ⟨c3, iS3, hKn3⟩ := u_known (C := RX3) (T := TX3) (N := 12) (n := 12) hts inX3 (hts _ gk_X3)
  obtain ⟨c4, iS4, hKn4⟩ := u_known (C := RX4) (T := TX4) (N := 7) (n := 7) hts inX4 (hts _ gk_X4)
  obtain ⟨c5, iS5, hKn5⟩ := u_known (C := RX5) (T := TX5) (N := 3) (n := 3) hts inX5 (hts _ gk_X5)
  obtain ⟨c6, iS6, hKn6⟩ := u_known (C := RX6) (T := TX6) (N := 3) (n := 3) hts inX6 (hts _ gk_X6)
  obtain ⟨c7, iS7, hKn7⟩ := u_known (C := RX7) (T := TX7) (N := 4) (n := 4) hts inX7 (hts _ gk_X7)
  obtain ⟨c8, iS8, hKn8⟩ := u_known (C := RX8) (T := TX8) (N := 9) (n := 9) hts inX8 (hts _ gk_X8)
  obtain ⟨c9, iS9, hKn9⟩ := u_known (C := RX9) (T := TX9) (N := 11) (n := 11) hts inX9 (hts _ gk_X9)
  obtain ⟨c10, iS10, hKn10⟩ := u_known (C := RX10) (T := TX10) (N := 6) (n := 6) hts inX10 (hts _ gk_X10)
  obtain ⟨c11, iS11, hKn11⟩ := u_known (C := RX11) (T := TX11) (N := 28) (n := 28) hts inX11 (hts _ gk_X11)
  obtain ⟨dC, dI, hKc⟩ : ∃ (dC : Nat → ClassId) (dI : Nat → Nat → Nat), ∀ (k : Nat) (q : vw_C), vwCl[k]? = some q → u_Kn s q.1 q.2.1 q.2.2 (dC k) (dI k) := by
    refine ⟨fun k => [c0, c1, c2, c3, c4, c5, c6, c7, c8, c9, c10, c11].getD k 0, fun k => [iS0, iS1, iS2, iS3, iS4, iS5, iS6, iS7, iS8, iS9, iS10, iS11].getD k (fun _ => 0), ?_⟩
    intro k q hq
    match k, hq with
    | 0, hq => cases hq; exact hKn0
    | 1, hq => cases hq; exact hKn1
    | 2, hq => cases hq; exact hKn2
    | 3, hq => cases hq; exact hKn3
    | 4, hq => cases hq; exact hKn4
    | 5, hq => cases hq; exact hKn5
    | 6, hq => cases hq; exact hKn6
    | 7, hq => cases hq; exact hKn7
    | 8, hq => cases hq; exact hKn8
    | 9, hq => cases hq; exact hKn9
    | 10, hq => cases hq; exact hKn10
    | 11, hq => cases hq; exact hKn11
    | k + 12, hq => simp [vwCl] at hq
  obtain ⟨cI, kA, comp, f1, f2, f3⟩ := Cond.arrayClass_spec (type := .int) (hts _ ga_int)
  have hS : va_S (fun q : Nat => s.heap.size ≤ q) s.heap s.heap [] := va_S.rf
  have hK : va_K (dC, dI) vwCl [(cI, .int)] s := by
      refine ⟨hKc, fun k q h => ?_⟩
      match k, h with
      | 0, h => cases h; exact ⟨fun n z => ⟨fun k h => (by cases h), kA, f2, comp, f3⟩, f1⟩
      | k + 1, h => simp at h
  have hP : va_P (dC, dI) vwCl [] s.heap := fun k q h => by simp at h
  have hD : va_D (fun q : Nat => s.heap.size ≤ q) [] := ⟨fun i j p q h => by simp at h, fun k q h => by simp at h⟩
  have hl := lv_entry ([.ref b]) (n := 4) (Nat.le_of_ble_eq_true rfl)
  rw [lg_entry_eq]
  generalize (lg_sl ([.ref b]) ++ List.replicate (4 - (lg_sl ([.ref b])).length) Slot.unset).toArray = ls at hl ⊢
  have hl : lv_has ls 4 [(0, .ref b)] := hl
  refine va_new (ci := 10) (fs := [.null, .null, .null, .null, .null, .null]) (C := RX10) (T := TX10) (N := 6) hx hb hts inX10 tyX10 tyX10_ok hown (hts _ lcX10_0) (hts _ lcX10_1) (hts _ (lk9_16)) hK hP hD hS hA rfl (fun j hj => by rcases (show j = 0 ∨ j = 1 ∨ j = 2 ∨ j = 3 ∨ j = 4 ∨ j = 5 by omega) with rfl | rfl | rfl | rfl | rfl | rfl <;> rfl) (Nat.le_of_ble_eq_true rfl) (Nat.le_of_ble_eq_true rfl) dL_law_0 (fun qn H hP hD hS => ?_)
  have hP : va_P (dC, dI) vwCl ([(qn, .inr (10, [.null, .null, .null, .null, .null, .null]))] : va_W) H := hP
  have hD : va_D (fun q : Nat => s.heap.size ≤ q) ([(qn, .inr (10, [.null, .null, .null, .null, .null, .null]))] : va_W) := hD
  refine W.widen (k := 1) (n := 6) (by decide) (by decide) ?_
  refine lv_dup hx hb dL_law_3 rfl ?_
  refine cx_ic (rest := [.ref qn]) ⟨hx, hb, hml, hown, hts⟩ hl.1 ok_sxE hE.1 hK hP hD hS hA (show Cut ([(qn, .inr (10, [.null, .null, .null, .null, .null, .null]))] : va_W) [(qn, .inr (10, [.null, .null, .null, .null, .null, .null]))] (fun q0 => cs10 cI q0 i10) (fun q0 => (cs10 cI q0 i10)) from ⟨[0], [], rfl, rfl, rfl, by decide, by decide, fun _ => ⟨[0, 1, 2, 3, 4, 5, 6, 7, 8, 9, 10, 11, 12, 13, 14, 15, 16, 17, 18, 19, 20, 21, 22, 23, 24, 25, 26, 27, 28, 29, 30, 31, 32, 33, 34, 35, 36, 37, 38, 39, 40, 41], rfl, rfl⟩⟩) (i_X10 (l := l) (dC := dC) (dI := dI) (cI := cI)) (cwI 0 hts gT_X10_init rfl rfl rfl (hts _ lk9_16) (hts _ lk9_25) (hts _ lk9_24) rfl hdX10_init ⟨Nat.le_of_ble_eq_true rfl, Nat.le_of_ble_eq_true rfl⟩) (Nat.le_of_ble_eq_true rfl) dL_law_4 rfl ⟨Nat.le_of_ble_eq_true rfl, Nat.le_of_ble_eq_true rfl⟩ (fun q0 H locs hq hPn hDn hSn => ?_)
  have hq := hq.symm
  subst hq
  have hP := hPn
  have hD := hDn
  have hS := hSn
  refine W.widen (k := 42) (n := 10979) (by decide) (by decide) ?_
  refine lv_astore_n (lv' := [(1, .ref (q0 0)), (0, .ref b)]) hx hb dL_law_7 rfl hl (by decide) rfl (fun ls hl => ?_)
  refine va_new (ci := 11) (fs := [.int 0, .null, .null, .int 0, .null, .int 0, .int 0, .int 0, .int 0, .int 0, .null, .null, .null, .null, .int 0, .int 0, .int 0, .int 0, .int 0, .null, .int 0, .int 0, .int 0, .int 0, .int 0, .null, .int 0, .null]) (C := RX11) (T := TX11) (N := 28) hx hb hts inX11 tyX11 tyX11_ok hown (hts _ lcX11_0) (hts _ lcX11_1) (hts _ (lk12_16)) hK hP hD hS hA rfl (fun j hj => by rcases (show j = 0 ∨ j = 1 ∨ j = 2 ∨ j = 3 ∨ j = 4 ∨ j = 5 ∨ j = 6 ∨ j = 7 ∨ j = 8 ∨ j = 9 ∨ j = 10 ∨ j = 11 ∨ j = 12 ∨ j = 13 ∨ j = 14 ∨ j = 15 ∨ j = 16 ∨ j = 17 ∨ j = 18 ∨ j = 19 ∨ j = 20 ∨ j = 21 ∨ j = 22 ∨ j = 23 ∨ j = 24 ∨ j = 25 ∨ j = 26 ∨ j = 27 by omega) with rfl | rfl | rfl | rfl | rfl | rfl | rfl | rfl | rfl | rfl | rfl | rfl | rfl | rfl | rfl | rfl | rfl | rfl | rfl | rfl | rfl | rfl | rfl | rfl | rfl | rfl | rfl | rfl <;> rfl) (Nat.le_of_ble_eq_true rfl) (Nat.le_of_ble_eq_true rfl) dL_law_8 (fun qn H hP hD hS => ?_)
  have hP : va_P (dC, dI) vwCl (cs10 cI q0 i10 ++ [(qn, .inr (11, [.int 0, .null, .null, .int 0, .null, .int 0, .int 0, .int 0, .int 0, .int 0, .null, .null, .null, .null, .int 0, .int 0, .int 0, .int 0, .int 0, .null, .int 0, .int 0, .int 0, .int 0, .int 0, .null, .int 0, .null]))] : va_W) H := hP
  have hD : va_D (fun q : Nat => s.heap.size ≤ q) (cs10 cI q0 i10 ++ [(qn, .inr (11, [.int 0, .null, .null, .int 0, .null, .int 0, .int 0, .int 0, .int 0, .int 0, .null, .null, .null, .null, .int 0, .int 0, .int 0, .int 0, .int 0, .null, .int 0, .int 0, .int 0, .int 0, .int 0, .null, .int 0, .null]))] : va_W) := hD
  refine W.widen (k := 43) (n := 11007) (by decide) (by decide) ?_
  refine lv_dup hx hb dL_law_11 rfl ?_
  refine cx_ic (rest := [.ref qn]) ⟨hx, hb, hml, hown, hts⟩ hl.1 ok_noE trivial hK hP hD hS hA (show Cut (cs10 cI q0 i10 ++ [(qn, .inr (11, [.int 0, .null, .null, .int 0, .null, .int 0, .int 0, .int 0, .int 0, .int 0, .null, .null, .null, .null, .int 0, .int 0, .int 0, .int 0, .int 0, .null, .int 0, .int 0, .int 0, .int 0, .int 0, .null, .int 0, .null]))] : va_W) [(qn, .inr (11, [.int 0, .null, .null, .int 0, .null, .int 0, .int 0, .int 0, .int 0, .int 0, .null, .null, .null, .null, .int 0, .int 0, .int 0, .int 0, .int 0, .null, .int 0, .int 0, .int 0, .int 0, .int 0, .null, .int 0, .null]))] (fun q1 => cs11 cI q1 i11) (fun q1 => (cs10 cI q0 i10 ++ cs11 cI q1 i11)) from ⟨[42], [0, 1, 2, 3, 4, 5, 6, 7, 8, 9, 10, 11, 12, 13, 14, 15, 16, 17, 18, 19, 20, 21, 22, 23, 24, 25, 26, 27, 28, 29, 30, 31, 32, 33, 34, 35, 36, 37, 38, 39, 40, 41], rfl, rfl, rfl, by decide, by decide, fun _ => ⟨[0, 1, 2, 3, 4, 5, 6, 7, 8, 9, 10, 11, 12, 13, 14, 15, 16, 17, 18, 19, 20, 21, 22, 23, 24, 25, 26, 27, 28, 29, 30, 31, 32, 33, 34, 35, 36, 37, 38, 39, 40, 41, 42, 43, 44, 45, 46, 47, 48, 49, 50, 51, 52], rfl, rfl⟩⟩) (i_X11 (l := l) (dC := dC) (dI := dI) (cI := cI)) (cwI 0 hts gT_X11_init rfl rfl rfl (hts _ lk12_16) (hts _ lk12_26) (hts _ lk12_24) rfl hdX11_init ⟨Nat.le_of_ble_eq_true rfl, Nat.le_of_ble_eq_true rfl⟩) (Nat.le_of_ble_eq_true rfl) dL_law_12 rfl ⟨Nat.le_of_ble_eq_true rfl, Nat.le_of_ble_eq_true rfl⟩ (fun q1 H locs hq hPn hDn hSn => ?_)
  have hq := hq.symm
  subst hq
  have hP := hPn
  have hD := hDn
  have hS := hSn
  refine W.widen (k := 53) (n := 44166) (by decide) (by decide) ?_
  refine lv_astore_n (lv' := [(2, .ref (q1 0)), (1, .ref (q0 0)), (0, .ref b)]) hx hb dL_law_15 rfl hl (by decide) rfl (fun ls hl => ?_)
  refine lv_iconst (v := 0) hx hb dL_law_16 (by decide) ?_
  refine lv_istore_n (lv' := [(3, .int 0), (2, .ref (q1 0)), (1, .ref (q0 0)), (0, .ref b)]) hx hb dL_law_17 rfl hl (by decide) rfl (fun ls hl => ?_)
  have hP : va_P (dC, dI) vwCl (wL cI q0 q1 none none i10 i11) H := by unfold wL oc; rw [List.append_nil, List.append_nil]; exact hP
  have hD : va_D (fun q : Nat => s.heap.size ≤ q) (wL cI q0 q1 none none i10 i11) := by unfold wL oc; rw [List.append_nil, List.append_nil]; exact hD
  have hl : lv_has ls 4 [(0, .ref b), (1, .ref (q0 0)), (2, .ref (q1 0)), (3, .int (nI (6 * 0)))] := lv_sub hl [3, 2, 1, 0] rfl
  exact law_loop hs hL C0 hK hE q0 q1 513 0 (by omega) (by omega) i10 none none i11 _ _ _ hs.1 rfl rfl hP hD hS hl
