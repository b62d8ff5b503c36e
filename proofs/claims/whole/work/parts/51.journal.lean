theorem a255 {n : Nat} (h : n < 2 ^ 32) : nI n &&& 255 = nI (n % 256) := pk_andN (m := 255) h 8 (by decide)
theorem a255s {w c : Nat} (hw : w < 256) (hc : c < 256) : (nI w - nI c) &&& 255 = nI ((w + 256 - c) % 256) := by
  rw [pk_and (nI w - nI c) (m := 255) 8 (by decide)]
  congr 1
  rw [Int32.toBitVec_sub, BitVec.toNat_sub, pk_tn (by omega), pk_tn (by omega)]
  omega
def dnb (b : Nat → Nat) (s w : Nat) : Nat := if b s = 2 then b (s + 7) else if b s = 3 then (w + b (s + 6)) % 256 else if b s = 4 then (if b (s + 6) = 0 then b (s + 7) else (w + b (s + 7)) % 256) else w
theorem dnb_lt {b : Nat → Nat} (h : ∀ i, b i < 256) (s : Nat) {w : Nat} (hw : w < 256) : dnb b s w < 256 := by
  have := h (s + 7)
  unfold dnb
  split <;> (try split) <;> (try split) <;> (try split) <;> omega
theorem w_done {J : S2} {b : Nat → Nat} {e f i w : Nat} (h : isJ J b e f) (hi : i < 2 ^ 29) (hw : w < 256) {Q : Int32 → Prop} (q : Q (nI (dnb b i w))) : wp_X2_done J (nI i) (nI w) Q := by
  refine w_byteAt h (by omega) ?_
  have h5 := h.2.2.2.2.1
  have k : ∀ n m : Nat, n < 256 → m < 2 ^ 31 → (nI n = nI m ↔ n = m) := fun n m hn hm => nI_eq (by omega) hm
  have k2 : nI (b i) = 2 ↔ b i = 2 := k _ 2 (h5 i) (by omega)
  have k3 : nI (b i) = 3 ↔ b i = 3 := k _ 3 (h5 i) (by omega)
  have k4 : nI (b i) = 4 ↔ b i = 4 := k _ 4 (h5 i) (by omega)
  have k0 : nI (b (i + 6)) = 0 ↔ b (i + 6) = 0 := k _ 0 (h5 _) (by omega)
  have a : ∀ j, nI w + nI (b (i + j)) &&& 255 = nI ((w + b (i + j)) % 256) := fun j => by
    have := h5 (i + j)
    rw [nI_add, a255 (by omega)]
  unfold dnb at q
  refine ⟨fun c => ?_, fun c => ⟨fun c3 => ?_, fun c3 => ⟨fun c4 => ?_, fun c4 => ?_⟩⟩⟩
  · rw [if_pos (k2.mp c)] at q
    exact w_byteAt' h (nI_add i 7) (by omega) q
  · rw [if_neg (fun z => c (k2.mpr z)), if_pos (k3.mp c3)] at q
    refine w_byteAt' h (nI_add i 6) (by omega) ?_
    rw [a 6]; exact q
  · rw [if_neg (fun z => c (k2.mpr z)), if_neg (fun z => c3 (k3.mpr z)), if_pos (k4.mp c4)] at q
    refine w_byteAt' h (nI_add i 6) (by omega) ⟨fun c0 => ?_, fun c0 => ?_⟩
    · rw [if_pos (k0.mp c0)] at q
      exact w_byteAt' h (nI_add i 7) (by omega) q
    · rw [if_neg (fun z => c0 (k0.mpr z))] at q
      refine w_byteAt' h (nI_add i 7) (by omega) ?_
      rw [a 7]; exact q
  · rw [if_neg (fun z => c (k2.mpr z)), if_neg (fun z => c3 (k3.mpr z)), if_neg (fun z => c4 (k4.mpr z))] at q
    exact q
def unb (b : Nat → Nat) (s w : Nat) : Nat := if b s = 2 then b (s + 6) else (w + 256 - b (s + 6)) % 256
theorem w_undone {J : S2} {b : Nat → Nat} {e f i w : Nat} (h : isJ J b e f) (hi : i < 2 ^ 29) (hw : w < 256) {Q : Int32 → Prop} (q : Q (nI (unb b i w))) : wp_X2_undone J (nI i) (nI w) Q := by
  refine w_byteAt h (by omega) ?_
  have h5 := h.2.2.2.2.1
  have k2 : nI (b i) = 2 ↔ b i = 2 := nI_eq (b := 2) (by have := h5 i; omega) (by omega)
  unfold unb at q
  refine ⟨fun c => ?_, fun c => ?_⟩
  · rw [if_pos (k2.mp c)] at q
    exact w_byteAt' h (nI_add i 6) (by omega) q
  · rw [if_neg (fun z => c (k2.mpr z))] at q
    refine w_byteAt' h (nI_add i 6) (by omega) ?_
    rw [a255s hw (h5 _)]; exact q
def lenK (k : Nat) : Nat := [0, 6, 9, 8, 11, 6, 6, 6, 6, 8].getD k 0
theorem lenK_ok : ∀ k, k < 10 → st_LENGTHS k = nI (lenK k) := by decide +kernel
def due (b : Nat → Nat) (s : Nat) : Nat := if b s = 10 then 8 + 4 * b (s + 5) + 3 * b (s + 6 + 4 * b (s + 5)) else if b s < 10 then lenK (b s) else 0
theorem w_lengthDue {J : S2} {b : Nat → Nat} {e f i : Nat} (h : isJ J b e f) (hi : i < 2 ^ 29) {Q : Int32 → Prop} (q : Q (nI (due b i))) : wp_X2_lengthDue J (nI i) Q := by
  refine w_byteAt h (by omega) ?_
  have h5 := h.2.2.2.2.1
  have b5 := h5 i
  have k10 : nI (b i) = 10 ↔ b i = 10 := nI_eq (b := 10) (by omega) (by omega)
  unfold due at q
  refine ⟨fun c => ?_, fun c => ⟨fun c0 => absurd c0 (nI_pos (by omega)), fun _ => ⟨fun c1 => ?_, fun c1 => ?_⟩⟩⟩
  · rw [if_pos (k10.mp c)] at q
    refine w_byteAt' h (nI_add i 5) (by omega) ?_
    have e1 : nI i + 6 + 4 * nI (b (i + 5)) = nI (i + 6 + 4 * b (i + 5)) := by
      show nI i + nI 6 + nI 4 * nI (b (i + 5)) = _
      rw [pk_mul, nI_add, nI_add]
    have := h5 (i + 5)
    refine w_byteAt' h e1 (by omega) ?_
    have e2 : 8 + 4 * nI (b (i + 5)) + 3 * nI (b (i + 6 + 4 * b (i + 5))) = nI (8 + 4 * b (i + 5) + 3 * b (i + 6 + 4 * b (i + 5))) := by
      show nI 8 + nI 4 * nI (b (i + 5)) + nI 3 * nI (b (i + 6 + 4 * b (i + 5))) = _
      rw [pk_mul, pk_mul, nI_add, nI_add]
    rw [e2]; exact q
  · have c1 : nI 10 ≤ nI (b i) := c1
    have c1 := (nI_leI (by omega) (by omega)).mp c1
    rw [if_neg (fun z => c (k10.mpr z)), if_neg (by omega)] at q
    exact q
  · have c1 : ¬ nI 10 ≤ nI (b i) := c1
    have c1 : b i < 10 := Nat.not_le.mp fun z => c1 ((nI_leI (by omega) (by omega)).mpr z)
    rw [if_neg (fun z => c (k10.mpr z)), if_pos c1] at q
    refine ⟨vp_in_nI c1 (by omega), ?_⟩
    rw [nI_clamp (by omega), lenK_ok _ c1]; exact q
def sumN (b : Nat → Nat) (s : Nat) : Nat → Nat
  | 0 => 0
  | n + 1 => sumN b s n + b (s + n)
theorem sumN_le {b : Nat → Nat} (h : ∀ i, b i < 256) (s n : Nat) : sumN b s n ≤ 255 * n := by
  induction n with
  | zero => exact Nat.le_refl _
  | succ n ih => have := h (s + n); show sumN b s n + b (s + n) ≤ _; omega
def whl (b : Nat → Nat) (e s : Nat) : Bool := decide (8 ≤ s ∧ 6 ≤ b (s + 1) ∧ b (s + 1) = due b s ∧ s + b (s + 1) ≤ e ∧ (90 + sumN b s (b (s + 1) - 1)) % 256 = b (s + b (s + 1) - 1))
theorem w_whole_go {J : S2} {b : Nat → Nat} {e f s m : Nat} (h : isJ J b e f) (hs : s + m < e) {Q : Int32 → Prop} (q : Q (bI (decide ((90 + sumN b s m) % 256 = b (s + m))))) : ∀ k i : Nat, k + i = m → wp_X2_wholeAt_63 J Q (k + 1) (nI (s + m)) (nI (90 + sumN b s i)) (nI (s + i)) := by
  obtain ⟨h1, -, h3, h4, h5, h6⟩ := h
  intro k
  induction k with
  | zero =>
    intro i hi
    obtain rfl : i = m := by omega
    have hl := sumN_le h5 s i
    refine ⟨fun _ => ⟨vp_in_nI (by omega) (by omega), ?_⟩, fun c => absurd (nI_le (Nat.le_refl _) (by omega)) c⟩
    rw [nI_clamp (by omega), h4 _ hs, a255 (by omega)]
    have k : nI ((90 + sumN b s i) % 256) = nI (b (s + i)) ↔ (90 + sumN b s i) % 256 = b (s + i) := nI_eq (by omega) (by have := h5 (s + i); omega)
    refine ⟨fun c => ?_, fun c => ?_⟩
    · rw [decide_eq_true (k.mp c)] at q; exact q
    · rw [decide_eq_false (fun z => c (k.mpr z))] at q; exact q
  | succ k ih =>
    intro i hi
    refine ⟨fun c => absurd c (nI_ge (by omega) (by omega)), fun _ => ⟨vp_in_nI (by omega) (by omega), fun x ex y ey => ?_⟩⟩
    rw [ex, ey, nI_clamp (by omega), h4 _ (by omega), nI_add, nI_1, Nat.add_assoc s i 1, show 90 + sumN b s i + b (s + i) = 90 + sumN b s (i + 1) from Nat.add_assoc _ _ _]
    exact ih (i + 1) (by omega)
theorem w_wholeAt {J : S2} {b : Nat → Nat} {e f i : Nat} (h : isJ J b e f) (hi : i < 2 ^ 29) {Q : Int32 → Prop} (q : Q (bI (whl b e i))) : wp_X2_wholeAt J (nI i) Q := by
  have h5 := h.2.2.2.2.1
  have h3 := h.2.2.1
  have h1 := h.1
  have b1 := h5 (i + 1)
  refine w_byteAt' h (nI_1 i) (by omega) fun x ex => ?_
  unfold whl at q
  refine ⟨fun c => ?_, fun c => ⟨fun c6 => ?_, fun c6 => ?_⟩⟩
  · have c : nI i < nI 8 := c
    rw [decide_eq_false (fun z => absurd ((nI_ltI (by omega) (by omega)).mp c) (by omega))] at q
    exact q
  · have c6 : nI (b (i + 1)) < nI 6 := c6
    rw [decide_eq_false (fun z => absurd ((nI_ltI (by omega) (by omega)).mp c6) (by omega))] at q
    exact q
  · have c : 8 ≤ i := Nat.not_lt.mp fun z => c (nI_lt z (by decide))
    have c6 : 6 ≤ b (i + 1) := Nat.not_lt.mp fun z => c6 (nI_lt z (by decide))
    obtain ⟨m, hm⟩ : ∃ m, b (i + 1) = m + 1 := ⟨b (i + 1) - 1, by omega⟩
    have ex2 : x = nI (i + m) := by
      rw [ex, hm, nI_add, show i + (m + 1) = (i + m) + 1 by omega, nI_pred]
    refine w_lengthDue h hi ⟨fun cd => ?_, fun cd => ?_⟩
    · have hd : due b i < 2 ^ 31 := by
        have := h5 (i + 5); have := h5 (i + 6 + 4 * b (i + 5))
        unfold due lenK
        split
        · omega
        · split
          · rename_i z1 z2
            have : ∀ k, k < 10 → ([0, 6, 9, 8, 11, 6, 6, 6, 6, 8] : List Nat).getD k 0 < 12 := by decide
            have := this _ z2
            omega
          · omega
      have cd := (nI_eq (by omega) hd).mp cd
      rw [ex2, h1]
      refine ⟨fun ce => ?_, fun ce => ⟨fun _ => ?_, fun c86 => ?_⟩⟩
      · have ce := (nI_leI (by omega) (by omega)).mp ce
        rw [decide_eq_false (fun z => by omega)] at q
        exact q
      · have ce : i + m < e := Nat.not_le.mp fun z => ce (nI_le z (by omega))
        refine ⟨m + 1, ?_⟩
        have e0 : (90 : Int32) = nI (90 + sumN b i 0) := rfl
        rw [e0]
        refine w_whole_go h ce ?_ m 0 (by omega)
        have e9 : decide (8 ≤ i ∧ 6 ≤ b (i + 1) ∧ b (i + 1) = due b i ∧ i + b (i + 1) ≤ e ∧ (90 + sumN b i (b (i + 1) - 1)) % 256 = b (i + b (i + 1) - 1)) = decide ((90 + sumN b i m) % 256 = b (i + m)) := by
          rw [hm] at cd ⊢
          rw [show m + 1 - 1 = m by omega, show i + (m + 1) - 1 = i + m by omega]
          by_cases z : (90 + sumN b i m) % 256 = b (i + m)
          · rw [decide_eq_true z, decide_eq_true ⟨c, by omega, cd, by omega, z⟩]
          · rw [decide_eq_false z, decide_eq_false (fun y => z y.2.2.2.2)]
        rw [e9] at q
        exact q
      · have ce : i + m < e := Nat.not_le.mp fun z => ce (nI_le z (by omega))
        exact absurd (show nI (i + m) < nI 8600 from nI_lt (by omega) (by omega)) c86
    · rw [decide_eq_false (fun z => cd (by rw [z.2.2.1]))] at q
      exact q
