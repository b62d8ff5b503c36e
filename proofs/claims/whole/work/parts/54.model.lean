theorem rem256 {n : Nat} (h : n < 2 ^ 31) : nI n - nI n / 256 * 256 = nI (n % 256) := pk_rem (d := 256) h (by decide) (by decide)
theorem div256 {n : Nat} (h : n < 2 ^ 31) : nI n / 256 = nI (n / 256) := pk_div (d := 256) h (by decide) (by decide)
theorem x_check_go {m : S11} {b : Nat → Nat} {e f s n : Nat} (h : isM (g11_now m) b e f) (hs : s + n ≤ e) {Q : Int32 → Prop} (q : Q (nI ((90 + sumN b s n) % 256))) : ∀ k i : Nat, k + i = n → wp_X11_checkOf_6 m Q (k + 1) (nI s) (nI (n + 1)) (nI (90 + sumN b s i)) (nI i) := by
  have h3 := h.2.2.2.2.1
  have h5 := h.2.2.2.2.2.2.2.1
  intro k
  induction k with
  | zero =>
    intro i hi
    obtain rfl : i = n := by omega
    have hl := sumN_le h5 s i
    refine ⟨fun _ => ?_, fun c => absurd (by rw [nI_pred]; exact nI_le (Nat.le_refl _) (by omega)) c⟩
    rw [rem256 (by omega)]
    exact q
  | succ k ih =>
    intro i hi
    refine ⟨fun c => ?_, fun _ => ?_⟩
    · rw [nI_pred] at c
      exact absurd c (nI_ge (by omega) (by omega))
    · refine x_logByte' h (nI_add s i) (by omega) fun x ex y ey => ?_
      rw [ex, ey, nI_add, nI_1, show 90 + sumN b s i + b (s + i) = 90 + sumN b s (i + 1) from Nat.add_assoc _ _ _]
      exact ih (i + 1) (by omega)
theorem x_checkOf {m : S11} {b : Nat → Nat} {e f s n : Nat} (h : isM (g11_now m) b e f) (hs : s + n ≤ e) {Q : Int32 → Prop} (q : Q (nI ((90 + sumN b s n) % 256))) : wp_X11_checkOf m (nI s) (nI (n + 1)) Q := ⟨n + 1, x_check_go h hs q n 0 (by omega)⟩
theorem x_isIn {m : S11} {a lo hi : Nat} (ha : a < 2 ^ 31) (hl : lo < 2 ^ 31) (hh : hi < 2 ^ 31) {Q : Int32 → Prop} (q : Q (bI (decide (lo ≤ a ∧ a ≤ hi)))) : wp_X11_isIn m (nI a) (nI lo) (nI hi) Q := by
  unfold bI at q
  refine ⟨fun c => ?_, fun c => ⟨fun c2 => ?_, fun c2 => ?_⟩⟩
  · have c := (nI_ltI ha hl).mp c
    simpa [show ¬ (lo ≤ a ∧ a ≤ hi) by omega] using q
  · have c2 := (nI_ltI hh ha).mp c2
    simpa [show ¬ (lo ≤ a ∧ a ≤ hi) by omega] using q
  · have c : lo ≤ a := Nat.not_lt.mp fun z => c (nI_lt z hl)
    have c2 : a ≤ hi := Nat.not_lt.mp fun z => c2 (nI_lt z ha)
    simpa [c, c2] using q
/-- the length that a record's kind wants, by the reference; 0: none -/
def mlg (b : Nat → Nat) (e s : Nat) : Nat := if b s = 2 then 9 else if b s = 3 then 8 else if b s = 9 then 8 else if b s = 4 then 11 else if b s = 10 then (if e < s + 7 then 0 else if 9 < b (s + 5) then 0 else if e ≤ s + 6 + 4 * b (s + 5) then 0 else if 8 < b (s + 6 + 4 * b (s + 5)) then 0 else 8 + 4 * b (s + 5) + 3 * b (s + 6 + 4 * b (s + 5))) else if 1 ≤ b s ∧ b s ≤ 8 then 6 else 0
def nIo (n : Nat) : Int32 := if n = 0 then -1 else nI n
theorem x_longFor {m : S11} {b : Nat → Nat} {e f s : Nat} (h : isM (g11_now m) b e f) (hs : s + 6 ≤ e) {Q : Int32 → Prop} (q : Q (nIo (mlg b e s))) : wp_X11_longFor m (nI s) Q := by
  have h3 := h.2.2.2.2.1
  have h5 := h.2.2.2.2.2.2.2.1
  have b0 := h5 s
  have b5 := h5 (s + 5)
  have k : ∀ j : Nat, j < 2 ^ 31 → (nI (b s) = nI j ↔ b s = j) := fun j hj => nI_eq (by omega) hj
  unfold mlg at q
  refine x_logByte h (by omega) ⟨fun c => ?_, fun c => ⟨fun c3 => ?_, fun c3 => ⟨fun c9 => ?_, fun c9 => ⟨fun c4 => ?_, fun c4 => ⟨fun c10 => ?_, fun c10 => ?_⟩⟩⟩⟩⟩
  · rw [if_pos ((k 2 (by omega)).mp c)] at q; exact q
  all_goals rw [if_neg (fun z => c ((k 2 (by omega)).mpr z))] at q
  · rw [if_pos ((k 3 (by omega)).mp c3)] at q; exact q
  all_goals rw [if_neg (fun z => c3 ((k 3 (by omega)).mpr z))] at q
  · rw [if_pos ((k 9 (by omega)).mp c9)] at q; exact q
  all_goals rw [if_neg (fun z => c9 ((k 9 (by omega)).mpr z))] at q
  · rw [if_pos ((k 4 (by omega)).mp c4)] at q; exact q
  all_goals rw [if_neg (fun z => c4 ((k 4 (by omega)).mpr z))] at q
  · rw [if_pos ((k 10 (by omega)).mp c10)] at q
    refine x_end1 h ⟨fun d => ?_, fun d => ?_⟩
    · have d : nI e < nI s + nI 7 := d
      rw [nI_add] at d
      rw [if_pos ((nI_ltI (by omega) (by omega)).mp d)] at q; exact q
    have d : ¬ nI e < nI s + nI 7 := d
    rw [nI_add] at d
    have d : s + 7 ≤ e := Nat.not_lt.mp fun z => d (nI_lt z (by omega))
    rw [if_neg (by omega)] at q
    refine x_logByte' h (nI_add s 5) (by omega) ⟨fun d9 => ?_, fun d9 => ?_⟩
    · have d9 : nI (b (s + 5)) ≤ nI 9 := d9
      have d9 := (nI_leI (by omega) (by omega)).mp d9
      rw [if_neg (by omega)] at q
      refine x_logByte' h (nI_add s 5) (by omega) fun x ex => ?_
      have ex : x = nI (s + 6 + 4 * b (s + 5)) := by
        rw [ex]
        show nI s + nI 6 + nI 4 * nI (b (s + 5)) = _
        rw [pk_mul, nI_add, nI_add]
      rw [ex]
      refine x_end1 h ⟨fun g => ?_, fun g => ?_⟩
      · rw [if_pos ((nI_leI (by omega) (by omega)).mp g)] at q; exact q
      have g : s + 6 + 4 * b (s + 5) < e := Nat.not_le.mp fun z => g (nI_le z (by omega))
      rw [if_neg (by omega)] at q
      have b7 := h5 (s + 6 + 4 * b (s + 5))
      refine x_logByte h g ⟨fun g8 => ?_, fun g8 => ?_⟩
      · have g8 : nI 8 < nI (b (s + 6 + 4 * b (s + 5))) := g8
        rw [if_pos ((nI_ltI (by omega) (by omega)).mp g8)] at q; exact q
      · rw [if_neg (fun z => g8 (show nI 8 < _ from nI_lt z (by omega)))] at q
        refine x_logByte' h (nI_add s 5) (by omega) (x_logByte h g ?_)
        have e2 : 8 + 4 * nI (b (s + 5)) + 3 * nI (b (s + 6 + 4 * b (s + 5))) = nI (8 + 4 * b (s + 5) + 3 * b (s + 6 + 4 * b (s + 5))) := by
          show nI 8 + nI 4 * nI (b (s + 5)) + nI 3 * nI (b (s + 6 + 4 * b (s + 5))) = _
          rw [pk_mul, pk_mul, nI_add, nI_add]
        rw [e2]
        unfold nIo at q
        rw [if_neg (by omega)] at q; exact q
    · have d9 : ¬ nI (b (s + 5)) ≤ nI 9 := d9
      rw [if_pos (Nat.not_le.mp fun z => d9 (nI_le z (by omega)))] at q; exact q
  · rw [if_neg (fun z => c10 ((k 10 (by omega)).mpr z))] at q
    refine x_isIn (m := m) (a := b s) (lo := 1) (hi := 8) (by omega) (by omega) (by omega) ⟨fun d => ?_, fun d => ?_⟩
    · unfold bI at d
      by_cases z : 1 ≤ b s ∧ b s ≤ 8
      · simp [z] at d
      · rw [if_neg z] at q; exact q
    · unfold bI at d
      by_cases z : 1 ≤ b s ∧ b s ≤ 8
      · rw [if_pos z] at q; exact q
      · simp [z] at d
