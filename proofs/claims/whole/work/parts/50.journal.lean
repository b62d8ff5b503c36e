/-! ===== the journal: its bytes as numbers; what its readers answer ===== -/
def isJ (J : S2) (b : Nat → Nat) (e f : Nat) : Prop := g2_endPlace J = nI e ∧ g2_flushedPlace J = nI f ∧ e ≤ 8600 ∧ (∀ i, i < e → g2_row J i = nI (b i)) ∧ (∀ i, b i < 256) ∧ (∀ i, e ≤ i → b i = 0)
theorem w_byteAt {J : S2} {b : Nat → Nat} {e f i : Nat} (h : isJ J b e f) (hi : i < 2 ^ 31) {Q : Int32 → Prop} (q : Q (nI (b i))) : wp_X2_byteAt J (nI i) Q := by
  obtain ⟨h1, -, h3, h4, h5, h6⟩ := h
  unfold wp_X2_byteAt
  rw [h1]
  refine ⟨fun c => absurd c (nI_pos hi), fun _ => ⟨fun c => ?_, fun c => ⟨fun c2 => ?_, fun c2 => ⟨?_, ?_⟩⟩⟩⟩
  · rw [h6 i ((nI_leI (by omega) hi).mp c)] at q
    exact q
  · have a : ¬ e ≤ i := fun z => c ((nI_leI (by omega) hi).mpr z)
    have c2 : nI 8600 ≤ nI i := c2
    have := (nI_leI (by omega) hi).mp c2
    omega
  · have a : ¬ e ≤ i := fun z => c ((nI_leI (by omega) hi).mpr z)
    exact vp_in_nI (by omega) (by omega)
  · have a : ¬ e ≤ i := fun z => c ((nI_leI (by omega) hi).mpr z)
    rw [nI_clamp hi, h4 i (by omega)]
    exact q
theorem w_byteAt' {J : S2} {b : Nat → Nat} {e f i : Nat} {x : Int32} (h : isJ J b e f) (hx : x = nI i) (hi : i < 2 ^ 31) {Q : Int32 → Prop} (q : Q (nI (b i))) : wp_X2_byteAt J x Q := by rw [hx]; exact w_byteAt h hi q
def pr2 (b : Nat → Nat) (i : Nat) : Nat := b i * 256 + b (i + 1)
theorem pr2_lt {b : Nat → Nat} (h : ∀ i, b i < 256) (i : Nat) : pr2 b i < 65536 := by have := h i; have := h (i + 1); unfold pr2; omega
theorem w_pairAt {J : S2} {b : Nat → Nat} {e f i : Nat} (h : isJ J b e f) (hi : i < 2 ^ 30) {Q : Int32 → Prop} (q : Q (nI (pr2 b i))) : wp_X2_pairAt J (nI i) Q := by
  refine w_byteAt h (by omega) ?_
  refine w_byteAt' h (nI_1 i) (by omega) ?_
  rw [show nI (b i) * 256 = nI (b i * 256) from pk_mul (b i) 256, nI_add]
  exact q
theorem w_addressAt {J : S2} {b : Nat → Nat} {e f i : Nat} (h : isJ J b e f) (hi : i < 2 ^ 30) {Q : Int32 → Prop} (q : Q (nI (b (i + 5)))) : wp_X2_addressAt J (nI i) Q := by
  refine w_byteAt' h (nI_add i 5) (by omega) ?_
  have h5 := h.2.2.2.2.1 (i + 5)
  rw [pk_andN (m := 255) (n := b (i + 5)) (by omega) 8 (by decide), Nat.mod_eq_of_lt h5]
  exact q
def bhd (b : Nat → Nat) (s : Nat) : Nat := s + max (b (s + 1)) 6
theorem w_behind {J : S2} {b : Nat → Nat} {e f i : Nat} (h : isJ J b e f) (hi : i < 2 ^ 30) {Q : Int32 → Prop} (q : Q (nI (bhd b i))) : wp_X2_behind J (nI i) Q := by
  refine w_byteAt' h (nI_1 i) (by omega) ?_
  have h5 := h.2.2.2.2.1 (i + 1)
  have e1 : (if nI (b (i + 1)) < (6 : Int32) then (6 : Int32) else nI (b (i + 1))) = nI (max (b (i + 1)) 6) := by
    show (if nI (b (i + 1)) < nI 6 then nI 6 else nI (b (i + 1))) = _
    by_cases c : b (i + 1) < 6
    · rw [if_pos ((nI_ltI (by omega) (by omega)).mpr c), Nat.max_eq_right (by omega)]
    · rw [if_neg (fun z => c ((nI_ltI (by omega) (by omega)).mp z)), Nat.max_eq_left (by omega)]
  rw [e1, nI_add]
  exact q
def tch (b : Nat → Nat) (s : Nat) : Bool := b s == 2 || b s == 3 || b s == 4
def und (b : Nat → Nat) (s : Nat) : Bool := b s == 2 || b s == 3
def bI (x : Bool) : Int32 := if x then 1 else 0
theorem w_touches {J : S2} {b : Nat → Nat} {e f i : Nat} (h : isJ J b e f) (hi : i < 2 ^ 30) {Q : Int32 → Prop} (q : Q (bI (tch b i))) : wp_X2_touches J (nI i) Q := by
  refine w_byteAt h (by omega) ?_
  have h5 := h.2.2.2.2.1 i
  have k : ∀ n : Nat, n < 2 ^ 31 → (nI (b i) = nI n ↔ b i = n) := fun n hn => nI_eq (by omega) hn
  have k2 : nI (b i) = 2 ↔ b i = 2 := k 2 (by omega)
  have k3 : nI (b i) = 3 ↔ b i = 3 := k 3 (by omega)
  have k4 : nI (b i) = 4 ↔ b i = 4 := k 4 (by omega)
  unfold tch bI at q
  simp only [k2, k3, k4]
  by_cases a : b i = 2 <;> by_cases a3 : b i = 3 <;> by_cases a4 : b i = 4 <;> simp_all
theorem w_undoable {J : S2} {b : Nat → Nat} {e f i : Nat} (h : isJ J b e f) (hi : i < 2 ^ 30) {Q : Int32 → Prop} (q : Q (bI (und b i))) : wp_X2_undoable J (nI i) Q := by
  refine w_byteAt h (by omega) ?_
  have h5 := h.2.2.2.2.1 i
  have k : ∀ n : Nat, n < 2 ^ 31 → (nI (b i) = nI n ↔ b i = n) := fun n hn => nI_eq (by omega) hn
  have k2 : nI (b i) = 2 ↔ b i = 2 := k 2 (by omega)
  have k3 : nI (b i) = 3 ↔ b i = 3 := k 3 (by omega)
  unfold und bI at q
  simp only [k2, k3]
  by_cases a : b i = 2 <;> by_cases a3 : b i = 3 <;> simp_all
def onw (b : Nat → Nat) (s : Nat) : Nat := if b s = 4 then pr2 b (s + 8) else if b s = 9 then pr2 b (s + 5) else pr2 b (s + 3)
theorem w_onward {J : S2} {b : Nat → Nat} {e f i : Nat} (h : isJ J b e f) (hi : i < 2 ^ 29) {Q : Int32 → Prop} (q : Q (nI (onw b i))) : wp_X2_onward J (nI i) Q := by
  refine w_byteAt h (by omega) ?_
  have h5 := h.2.2.2.2.1 i
  have k : ∀ n : Nat, n < 2 ^ 31 → (nI (b i) = nI n ↔ b i = n) := fun n hn => nI_eq (by omega) hn
  have k4 : nI (b i) = 4 ↔ b i = 4 := k 4 (by omega)
  have k9 : nI (b i) = 9 ↔ b i = 9 := k 9 (by omega)
  have p : ∀ j, j < 2 ^ 29 → Q (nI (pr2 b (i + j))) → wp_X2_pairAt J (nI i + nI j) (fun r => Q r) := fun j hj q => by rw [nI_add]; exact w_pairAt h (by omega) q
  unfold onw at q
  refine ⟨fun c => ?_, fun c => ⟨fun c9 => ?_, fun c9 => ?_⟩⟩
  · rw [if_pos (k4.mp c)] at q
    exact p 8 (by omega) q
  · rw [if_neg (fun z => c (k4.mpr z)), if_pos (k9.mp c9)] at q
    exact p 5 (by omega) q
  · rw [if_neg (fun z => c (k4.mpr z)), if_neg (fun z => c9 (k9.mpr z))] at q
    exact p 3 (by omega) q
