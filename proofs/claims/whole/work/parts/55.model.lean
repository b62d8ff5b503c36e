def mwh (b : Nat → Nat) (e s : Nat) : Bool := decide (s + 6 ≤ e ∧ mlg b e s ≠ 0 ∧ b (s + 1) = mlg b e s ∧ s + mlg b e s ≤ e ∧ b (s + mlg b e s - 1) = (90 + sumN b s (mlg b e s - 1)) % 256)
theorem mlg_cases (b : Nat → Nat) (hb : ∀ i, b i < 256) (e s : Nat) : mlg b e s = 0 ∨ (6 ≤ mlg b e s ∧ mlg b e s < 80) := by
  have := hb (s + 5)
  have := hb (s + 6 + 4 * b (s + 5))
  unfold mlg
  repeat' split
  all_goals omega
theorem x_isWhole {m : S11} {b : Nat → Nat} {e f s : Nat} (h : isM (g11_now m) b e f) (hs : s < 2 ^ 29) {Q : Int32 → Prop} (q : Q (bI (mwh b e s))) : wp_X11_isWhole m (nI s) Q := by
  have h3 := h.2.2.2.2.1
  have h5 := h.2.2.2.2.2.2.2.1
  have b1 := h5 (s + 1)
  have hc := mlg_cases b h5 e s
  unfold mwh at q
  refine x_end1 h ⟨fun c => ?_, fun c => ?_⟩
  · have c : nI s + nI 6 ≤ nI e := c
    rw [nI_add] at c
    have c := (nI_leI (by omega) (by omega)).mp c
    refine x_longFor h c ?_
    generalize hn : mlg b e s = n at q hc ⊢
    unfold nIo
    by_cases z : n = 0
    · rw [if_pos z]
      rw [decide_eq_false (fun y => y.2.1 z)] at q
      exact ⟨fun _ => q, fun y => absurd rfl y⟩
    · rw [if_neg z]
      have hn6 : 6 ≤ n ∧ n < 80 := by omega
      refine ⟨fun y => absurd y (fun y => ?_), fun _ => ?_⟩
      · have : ¬ nI n < 0 := nI_pos (by omega)
        rw [y] at this
        exact this (by decide)
      refine x_logByte' h (nI_1 s) (by omega) ⟨fun d => ?_, fun d => ?_⟩
      · have d := (nI_eq (by omega) (by omega)).mp d
        refine x_end1 h ⟨fun g => ?_, fun g => ?_⟩
        · rw [nI_add] at g
          have g := (nI_ltI (by omega) (by omega)).mp g
          rw [decide_eq_false (fun y => by omega)] at q; exact q
        · rw [nI_add] at g
          have g : s + n ≤ e := Nat.not_lt.mp fun y => g (nI_lt y (by omega))
          obtain ⟨k, hk⟩ : ∃ k, n = k + 1 := ⟨n - 1, by omega⟩
          have e1 : nI s + nI n - 1 = nI (s + k) := by rw [nI_add, hk, show s + (k + 1) = (s + k) + 1 by omega, nI_pred]
          refine x_logByte' h e1 (by omega) ?_
          rw [hk]
          refine x_checkOf h (by omega) ?_
          have b2 := h5 (s + k)
          have kk : nI (b (s + k)) = nI ((90 + sumN b s k) % 256) ↔ b (s + k) = (90 + sumN b s k) % 256 := nI_eq (by omega) (by omega)
          rw [show n - 1 = k by omega, show s + n - 1 = s + k by omega] at q
          refine ⟨fun y => ?_, fun y => ?_⟩
          · rw [decide_eq_true ⟨c, z, d, g, kk.mp y⟩] at q; exact q
          · rw [decide_eq_false (fun t => y (kk.mpr t.2.2.2.2))] at q; exact q
      · rw [decide_eq_false (fun y => d (by rw [y.2.2.1]))] at q; exact q
  · have c : ¬ nI s + nI 6 ≤ nI e := c
    rw [nI_add] at c
    rw [decide_eq_false (fun y => c (nI_le y.1 (by omega)))] at q; exact q
/-- where a record that ends within the log tells no more than nine and eight, both sides find it whole alike -/
theorem whl_mwh {b : Nat → Nat} {e s : Nat} (hb : ∀ i, b i < 256) (h8 : 8 ≤ s) (ht : b s = 10 → s + b (s + 1) ≤ e → b (s + 1) = due b s → b (s + 5) ≤ 9 ∧ b (s + 6 + 4 * b (s + 5)) ≤ 8) : whl b e s = mwh b e s := by
  have l10 : ∀ k, k < 10 → lenK k = (if k = 0 then 0 else if k = 2 then 9 else if k = 3 then 8 else if k = 9 then 8 else if k = 4 then 11 else 6) := by decide
  unfold whl mwh
  apply decide_eq_decide.mpr
  constructor
  · rintro ⟨_, h6, hd, hl, hc⟩
    have hm : mlg b e s = b (s + 1) := by
      have hd0 := hd
      unfold due at hd
      unfold mlg
      by_cases c10 : b s = 10
      · obtain ⟨t1, t2⟩ := ht c10 hl hd0
        rw [if_pos c10] at hd
        rw [if_neg (by omega), if_neg (by omega), if_neg (by omega), if_neg (by omega), if_pos c10, if_neg (by omega), if_neg (by omega), if_neg (by omega), if_neg (by omega)]
        exact hd.symm
      · rw [if_neg c10] at hd
        by_cases c : b s < 10
        · rw [if_pos c, l10 _ c] at hd
          rw [hd]
          repeat' split
          all_goals omega
        · rw [if_neg c] at hd
          omega
    rw [hm]
    exact ⟨by omega, by omega, rfl, hl, hc.symm⟩
  · rintro ⟨h6, hn, hd, hl, hc⟩
    have hb5 := hb (s + 5)
    have hm : due b s = mlg b e s := by
      unfold mlg at hn ⊢
      unfold due
      by_cases c10 : b s = 10
      · have n2 : ¬ b s = 2 := by omega
        have n3 : ¬ b s = 3 := by omega
        have n9 : ¬ b s = 9 := by omega
        have n4 : ¬ b s = 4 := by omega
        rw [if_neg n2, if_neg n3, if_neg n9, if_neg n4, if_pos c10] at hn
        rw [if_pos c10, if_neg n2, if_neg n3, if_neg n9, if_neg n4, if_pos c10]
        by_cases g1 : e < s + 7
        · rw [if_pos g1] at hn; exact absurd rfl hn
        · rw [if_neg g1] at hn ⊢
          by_cases g2 : 9 < b (s + 5)
          · rw [if_pos g2] at hn; exact absurd rfl hn
          · rw [if_neg g2] at hn ⊢
            by_cases g3 : e ≤ s + 6 + 4 * b (s + 5)
            · rw [if_pos g3] at hn; exact absurd rfl hn
            · rw [if_neg g3] at hn ⊢
              by_cases g4 : 8 < b (s + 6 + 4 * b (s + 5))
              · rw [if_pos g4] at hn; exact absurd rfl hn
              · rw [if_neg g4]
      · rw [if_neg c10]
        by_cases c : b s < 10
        · rw [if_pos c, l10 _ c]
          repeat' split
          all_goals omega
        · rw [if_neg c]
          rw [if_neg (by omega), if_neg (by omega), if_neg (by omega), if_neg (by omega), if_neg c10, if_neg (by omega)]
    have hz := mlg_cases b hb e s
    rw [hd]
    exact ⟨h8, by omega, hm.symm, hl, hc.symm⟩
