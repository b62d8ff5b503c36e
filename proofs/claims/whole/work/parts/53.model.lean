/-! ===== the reference's log: the same bytes in its row ===== -/
def isM (n : Nat → Int32) (b : Nat → Nat) (e f : Nat) : Prop := n 0 = nI (e - 8) ∧ n 1 = nI (f - 8) ∧ 8 ≤ e ∧ 8 ≤ f ∧ e ≤ 8600 ∧ f ≤ 8600 ∧ (∀ i, i < e → n (1680 + i) = nI (b i)) ∧ (∀ i, b i < 256) ∧ (∀ i, e ≤ i → b i = 0)
theorem ivp {k n : Nat} (h : k < n) (hn : n < 2 ^ 31) : vp_in (nI k) n := vp_in_nI h hn
theorem x_end1 {m : S11} {b : Nat → Nat} {e f : Nat} (h : isM (g11_now m) b e f) {Q : Int32 → Prop} (q : Q (nI e)) : wp_X11_end1 m Q := by
  refine ⟨ivp (k := 0) (by omega) (by omega), ?_⟩
  show Q (g11_now m 0 + nI 8)
  rw [h.1, nI_add, show e - 8 + 8 = e by have := h.2.2.1; omega]
  exact q
theorem x_flushed {m : S11} {b : Nat → Nat} {e f : Nat} (h : isM (g11_now m) b e f) {Q : Int32 → Prop} (q : Q (nI f)) : wp_X11_flushed m Q := by
  refine ⟨ivp (k := 1) (by omega) (by omega), ?_⟩
  show Q (g11_now m 1 + nI 8)
  rw [h.2.1, nI_add, show f - 8 + 8 = f by have := h.2.2.2.1; omega]
  exact q
theorem x_logByte {m : S11} {b : Nat → Nat} {e f i : Nat} (h : isM (g11_now m) b e f) (hi : i < e) {Q : Int32 → Prop} (q : Q (nI (b i))) : wp_X11_logByte m (nI i) Q := by
  have h3 := h.2.2.2.2.1
  have e1 : (1680 : Int32) + nI i = nI (1680 + i) := nI_add 1680 i
  unfold wp_X11_logByte
  rw [e1, nI_clamp (by omega)]
  refine ⟨ivp (by omega) (by omega), ?_⟩
  rw [h.2.2.2.2.2.2.1 i hi]
  exact q
theorem x_logByte' {m : S11} {b : Nat → Nat} {e f i : Nat} {x : Int32} (h : isM (g11_now m) b e f) (hx : x = nI i) (hi : i < e) {Q : Int32 → Prop} (q : Q (nI (b i))) : wp_X11_logByte m x Q := by rw [hx]; exact x_logByte h hi q
theorem x_two {m : S11} {b : Nat → Nat} {e f i : Nat} (h : isM (g11_now m) b e f) (hi : i + 1 < e) {Q : Int32 → Prop} (q : Q (nI (pr2 b i))) : wp_X11_two m (nI i) Q := by
  refine x_logByte h (by omega) ?_
  refine x_logByte' h (nI_1 i) hi ?_
  rw [show (256 : Int32) * nI (b i) = nI (256 * b i) from pk_mul 256 (b i), nI_add, Nat.mul_comm]
  exact q
theorem x_behind {m : S11} {b : Nat → Nat} {e f i : Nat} (h : isM (g11_now m) b e f) (hi : i + 5 < e) (h4 : b i = 4 → i + 9 < e) (h9 : b i = 9 → i + 6 < e) {Q : Int32 → Prop} (q : Q (nI (onw b i))) : wp_X11_behind m (nI i) Q := by
  refine x_logByte h (by omega) ?_
  have h5 := h.2.2.2.2.2.2.2.1 i
  have h3 := h.2.2.2.2.1
  have k4 : nI (b i) = 4 ↔ b i = 4 := nI_eq (b := 4) (by omega) (by omega)
  have k9 : nI (b i) = 9 ↔ b i = 9 := nI_eq (b := 9) (by omega) (by omega)
  have p : ∀ j, i + j + 1 < e → Q (nI (pr2 b (i + j))) → wp_X11_two m (nI i + nI j) (fun r => Q r) := fun j hj q => by rw [nI_add]; exact x_two h hj q
  unfold onw at q
  refine ⟨fun c => ?_, fun c => x_logByte h (by omega) ⟨fun c9 => ?_, fun c9 => ?_⟩⟩
  · rw [if_pos (k4.mp c)] at q
    exact p 8 (by have := h4 (k4.mp c); omega) q
  · rw [if_neg (fun z => c (k4.mpr z)), if_pos (k9.mp c9)] at q
    exact p 5 (by have := h9 (k9.mp c9); omega) q
  · rw [if_neg (fun z => c (k4.mpr z)), if_neg (fun z => c9 (k9.mpr z))] at q
    exact p 3 (by omega) q
theorem x_isUndoable {m : S11} {b : Nat → Nat} {e f i : Nat} (h : isM (g11_now m) b e f) (hi : i < e) {Q : Int32 → Prop} (q : Q (bI (und b i))) : wp_X11_isUndoable m (nI i) Q := by
  refine x_logByte h hi ?_
  have h5 := h.2.2.2.2.2.2.2.1 i
  have k2 : nI (b i) = 2 ↔ b i = 2 := nI_eq (b := 2) (by omega) (by omega)
  have k3 : nI (b i) = 3 ↔ b i = 3 := nI_eq (b := 3) (by omega) (by omega)
  unfold und bI at q
  refine ⟨fun c => ?_, fun c => x_logByte h hi ⟨fun c3 => ?_, fun c3 => ?_⟩⟩
  · simp [k2.mp c] at q; exact q
  · simp [k3.mp c3] at q; exact q
  · simp [show ¬ b i = 2 from fun z => c (k2.mpr z), show ¬ b i = 3 from fun z => c3 (k3.mpr z)] at q; exact q
