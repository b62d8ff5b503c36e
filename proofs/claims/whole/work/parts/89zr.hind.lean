/-! ===== in hindsight: the log walked through, both sides ===== -/
section
variable {m : S11} {F c tau : Nat → Nat} {R : S5} {T I L : Nat → Int32} {b : Nat → Nat} {e f k : Nat} {J : S2}
/-- the class's table in front of record j -/
def HT (R : S5) (b : Nat → Nat) (j : Nat) : Prop := ∃ F : Nat → Nat, RO R F ∧ (∀ i, F i < 65536) ∧ AT F b j True ∧ AZ F
/-- the reference's -/
def RT (I L : Nat → Int32) (b : Nat → Nat) (j : Nat) : Prop := ∀ t, 1 ≤ t → t ≤ 9 → (I t = 1 ↔ ((rp b j t).1 = 1 ∨ (rp b j t).1 = 2)) ∧ (((rp b j t).1 = 1 ∨ (rp b j t).1 = 2) → L t = nI (rp b j t).2)
theorem HT_S (hJ : isJ J b e f) (hL : LogOK b e k) {j : Nat} (hj : j < k) (h : HT R b j) {Q : S5 → Prop} (q : ∀ R2, HT R2 b (j + 1) → Q R2) : wp_X5_learn R J (nI (wlk b j)) Q := by
  obtain ⟨F, h1, h2, h3, h4⟩ := h
  obtain ⟨l9, l0, l1, l2, l10⟩ := leg_b hL hj
  have hk := wlk_mono (b := b) (show j ≤ k by omega)
  have hke := hL.1.1
  have hE := hJ.2.2.1
  refine w_learn hJ (by omega) h2 (fun z i hi => ⟨((l10 z).2.2.2.1 i hi).1, ((l10 z).2.2.2.1 i hi).2.1⟩) h1 fun R2 hR2 => q R2 ?_
  obtain ⟨a1, a2, a3⟩ := an1_ok hL hj h3 h4
  refine ⟨_, hR2, an1_b hL hE hJ.2.2.2.2.1 hj h2, fun t t1 t9 => ?_, a2⟩
  obtain ⟨d1, d2, d3⟩ := a1 t t1 t9
  exact ⟨d1, d2, fun _ => d3 (Or.inl trivial)⟩
theorem HT_0 {Q : S5 → Prop} (q : ∀ R2, HT R2 b 0 → Q R2) : wp_X5_clear R Q := by
  refine w_fill (by omega) fun a1 ha1 _ R1 hR1 => w_fill (by omega) fun a2 ha2 _ R2 hR2 => w_fill (by omega) fun a3 ha3 _ R3 hR3 => q R3 ?_
  rw [hR3, hR2, hR1]
  refine ⟨fun _ => 0, fun t t1 t9 => ⟨ha1 t (by omega), ha2 t (by omega), ha3 t (by omega)⟩, fun _ => (by decide : (0 : Nat) < 65536), fun t t1 t9 => ⟨fun z => absurd rfl z, fun _ => rfl, fun _ _ => rfl⟩, fun _ _ _ _ _ _ => rfl⟩
theorem RT_S (hL : LogOK b e k) {j : Nat} (hj : j < k) (h : RT I L b j) : (b (wlk b j + 2) = 0 → RT I L b (j + 1)) ∧ (b (wlk b j + 2) ≠ 0 → ∀ y : Int32, (y = 1 ↔ b (wlk b j) ≠ 5 ∧ b (wlk b j) ≠ 7) → RT (upd I (b (wlk b j + 2)) y) (upd L (b (wlk b j + 2)) (nI (wlk b j))) b (j + 1)) := by
  obtain ⟨l9, l0, l1, l2, l10⟩ := leg_b hL hj
  obtain ⟨h6, h68, h3, h4, hv⟩ := rec_rd hL hj
  have e0 : rv b (wlk b j) 0 = b (wlk b j) := hv 0 (by omega)
  have e2 : rv b (wlk b j) 2 = b (wlk b j + 2) := hv 2 (by omega)
  have er : rp b (j + 1) = lrn (rp b j) (wlk b j) (rv b (wlk b j)) := rfl
  refine ⟨fun z t t1 t9 => ?_, fun z y hy t t1 t9 => ?_⟩
  · have : rp b (j + 1) t = rp b j t := by
      rw [er]; unfold lrn; rw [e2, if_pos (Or.inr (Or.inl z))]
    rw [this]; exact h t t1 t9
  · by_cases d : t = b (wlk b j + 2)
    · subst d
      rw [pk_us, pk_us]
      have ee : rp b (j + 1) (b (wlk b j + 2)) = if b (wlk b j) = 7 then (0, 0) else (if b (wlk b j) = 5 then 3 else if b (wlk b j) = 6 then 2 else if (rp b j (b (wlk b j + 2))).1 = 0 then 1 else (rp b j (b (wlk b j + 2))).1, wlk b j) := by
        rw [er]; unfold lrn; rw [e2, e0, if_neg (by omega)]
      rw [ee]
      by_cases c7 : b (wlk b j) = 7
      · rw [if_pos c7]
        refine ⟨⟨fun w => absurd c7 (hy.mp w).2, fun w => ?_⟩, fun w => ?_⟩
        · have w : (0 : Nat) = 1 ∨ (0 : Nat) = 2 := w
          omega
        · have w : (0 : Nat) = 1 ∨ (0 : Nat) = 2 := w
          omega
      · rw [if_neg c7]
        refine ⟨?_, fun _ => rfl⟩
        show y = 1 ↔ ((if b (wlk b j) = 5 then 3 else if b (wlk b j) = 6 then 2 else if (rp b j (b (wlk b j + 2))).1 = 0 then 1 else (rp b j (b (wlk b j + 2))).1) = 1 ∨ (if b (wlk b j) = 5 then 3 else if b (wlk b j) = 6 then 2 else if (rp b j (b (wlk b j + 2))).1 = 0 then 1 else (rp b j (b (wlk b j + 2))).1) = 2)
        by_cases c5 : b (wlk b j) = 5
        · rw [if_pos c5]
          exact ⟨fun w => absurd c5 (hy.mp w).1, fun w => by omega⟩
        · rw [if_neg c5]
          refine ⟨fun _ => ?_, fun _ => hy.mpr ⟨c5, c7⟩⟩
          by_cases c6 : b (wlk b j) = 6
          · rw [if_pos c6]; exact Or.inr rfl
          · rw [if_neg c6]
            by_cases c0 : (rp b j (b (wlk b j + 2))).1 = 0
            · rw [if_pos c0]; exact Or.inl rfl
            · rw [if_neg c0]
              by_cases c1 : b (wlk b j) = 1
              · exact absurd (l1 c1) c0
              · exact l2 c1 c7 z
    · have : rp b (j + 1) t = rp b j t := by
        rw [er]; exact lrn_ne (by rw [e2]; exact d)
      rw [pk_un d, pk_un d, this]; exact h t t1 t9
theorem x_see31 (hM : isM (g11_now m) b e f) (hL : LogOK b e k) {j0 : Nat} (hj0 : j0 ≤ k) {Q : S11 → Prop} (q : ∀ I2 L2, RT I2 L2 b j0 → Q (thR m T I2 L2)) : ∀ d j (I L : Nat → Int32), j + d = j0 → RT I L b j → wp_X11_seesThrough_31 Q (d + 1) (nI (wlk b j0)) (nI (wlk b j)) (thR m T I L) := by
  have h5 := hM.2.2.2.2.2.2.2.1
  have hE := hM.2.2.2.2.1
  have hke := hL.1.1
  intro d
  induction d with
  | zero =>
    intro j I L hd h
    have hd : j = j0 := hd
    subst hd
    exact ⟨fun _ => q I L h, fun y => absurd (nI_le (Nat.le_refl _) (by have := wlk_mono (b := b) hj0; omega)) y⟩
  | succ d ih =>
    intro j I L hd h
    have hj : j < k := by omega
    have hM2 : isM (g11_now (thR m T I L)) b e f := by rw [tH1.2.2.2]; exact hM
    have hlt := wlk_lt (b := b) (show j < j0 by omega)
    have hlk := wlk_mono (b := b) hj0
    obtain ⟨h6, h68, h3, h4, hv⟩ := rec_rd hL hj
    obtain ⟨l9, l0, l1, l2, l10⟩ := leg_b hL hj
    obtain ⟨s1, s2⟩ := RT_S hL hj h
    have b2 := h5 (wlk b j + 2)
    have b0 := h5 (wlk b j)
    have nx : ∀ I2 L2 : Nat → Int32, RT I2 L2 b (j + 1) → wp_X11_seesThrough_96 (fun x1 x2 u0 => wp_X11_seesThrough_31 Q (d + 1) x1 x2 u0) Q (nI (wlk b j0)) (nI (wlk b j)) (thR m T I2 L2) := by
      intro I2 L2 h2
      refine x_len (m := thR m T I2 L2) (by rw [tH1.2.2.2]; exact hM) hL hj fun x hx y hy => ?_
      rw [hy, hx]
      exact ih (j + 1) I2 L2 (by omega) h2
    have n88 : b (wlk b j + 2) ≠ 0 → ∀ y : Int32, (y = 1 ↔ b (wlk b j) ≠ 5 ∧ b (wlk b j) ≠ 7) → wp_X11_seesThrough_88 (fun x1 x2 u0 => wp_X11_seesThrough_96 (fun x1 x2 u0 => wp_X11_seesThrough_31 Q (d + 1) x1 x2 u0) Q x1 x2 u0) Q (nI (wlk b j0)) (nI (wlk b j)) (nI (b (wlk b j + 2))) (nI (b (wlk b j + 2))) y (thR m T I L) := by
      intro z y hy
      refine ⟨ivp (by omega) (by omega), fun u hu => ⟨ivp (by omega) (by omega), fun u2 hu2 => ?_⟩⟩
      rw [nI_clamp (by omega), tH1.2.1, tH3] at hu
      rw [hu, nI_clamp (by omega), tH1.2.2.1, tH4] at hu2
      rw [hu2]
      exact nx _ _ (s2 z y hy)
    refine pk_le (wlk b j0) (wlk b j) (fun y => by omega) (fun _ => x_wh hM2 hL (show j ≤ k by omega) ?_)
    rw [if_pos hj]
    refine ⟨fun y => absurd y (by decide), fun _ => x_logByte' hM2 (nI_add (wlk b j) 2) (by omega) (pk_eq (b (wlk b j + 2)) 0 (fun y => nx I L (s1 y)) (fun y => x_logByte hM2 (by omega) (pk_eq (b (wlk b j)) 5 (fun c5 => ?_) (fun c5 => x_logByte hM2 (by omega) (pk_eq (b (wlk b j)) 7 (fun c7 => ?_) (fun c7 => ?_))))))⟩
    · exact n88 y 0 ⟨fun z => absurd z (by decide), fun z => absurd c5 z.1⟩
    · exact n88 y 0 ⟨fun z => absurd z (by decide), fun z => absurd c7 z.2⟩
    · exact n88 y 1 ⟨fun _ => ⟨c5, c7⟩, fun _ => rfl⟩
theorem x_see (hM : isM (g11_now m) b e f) (hL : LogOK b e k) {j0 : Nat} (hj0 : j0 ≤ k) {Q : S11 → Prop} (q : ∀ I2 L2, RT I2 L2 b j0 → Q (thR m T I2 L2)) : wp_X11_seesThrough (thR m T I L) (nI (wlk b j0)) Q := by
  have go : ∀ d x (I L : Nat → Int32), x + d = 10 → (∀ i, i < x → I i = 0 ∧ L i = 0) → wp_X11_seesThrough_2 Q (d + 1) (nI (wlk b j0)) (nI x) (thR m T I L) := by
    intro d
    induction d with
    | zero =>
      intro x I L hd h
      refine pk_lt 9 x (fun _ => ⟨j0 + 1, x_see31 hM hL hj0 q j0 0 I L (by omega) fun t t1 t9 => ?_⟩) (fun y => by omega)
      rw [(h t (by omega)).1]
      refine ⟨⟨fun y => absurd y (by decide), fun y => ?_⟩, fun y => ?_⟩
      · have y : (0 : Nat) = 1 ∨ (0 : Nat) = 2 := y
        omega
      · have y : (0 : Nat) = 1 ∨ (0 : Nat) = 2 := y
        omega
    | succ d ih =>
      intro x I L hd h
      refine pk_lt 9 x (fun y => by omega) (fun _ => ⟨ivp (by omega) (by omega), fun u hu => ⟨ivp (by omega) (by omega), fun u2 hu2 y hy => ?_⟩⟩)
      rw [nI_clamp (by omega), tH1.2.1, tH3] at hu
      rw [hu, nI_clamp (by omega), tH1.2.2.1, tH4] at hu2
      rw [hu2, hy, nI_1]
      refine ih (x + 1) _ _ (by omega) fun i hi => ?_
      by_cases d : i = x
      · rw [d, pk_us, pk_us]; exact ⟨rfl, rfl⟩
      · rw [pk_un d, pk_un d]; exact h i (by omega)
  exact ⟨11, go 10 0 I L (by omega) fun i hi => by omega⟩
theorem mz9 (hb : ∀ i, F i < 65536) : sum9 (mzA F) ≤ 600000 := by
  have h : ∀ t, mzA F t ≤ 65536 := fun t => by
    unfold mzA
    split
    · have := hb (704 + 18 * t); omega
    · omega
  have := h 1; have := h 2; have := h 3; have := h 4; have := h 5; have := h 6; have := h 7; have := h 8; have := h 9
  unfold sum9; omega
/-- from the walked log on: the same byte on both sides -/
theorem hind (hJ : isJ J b e f) (hM : isM (g11_now m) b e f) (hL : LogOK b e k) {a j0 : Nat} (ha : a < 256) (hj0 : j0 ≤ k) (h : HT R b j0) (ht : ∀ x, tau x < 256) : ∃ z, (∀ Q : Int32 → S1 → Prop, (∀ R2, Q (nI z) R2) → wp_X1_rolledBack R J (nI a) (nI (tau a)) Q) ∧ ∀ (T I L : Nat → Int32), (∀ x, x < 256 → T x = nI (tau x)) → ∀ Q : S11 → Prop, (∀ T2 I2 L2, T2 a = nI z → Q (thR m T2 I2 L2)) → wp_X11_rollsThought (thR m T I L) (nI (wlk b j0)) Q := by
  obtain ⟨F, h1, h2, h3, h4⟩ := h
  have hke := hL.1.1
  have hE := hM.2.2.2.2.1
  have hR2 : ∀ C : Nat → Int32, (∀ i, i < 10 → C i = g5_last R i) → RO (s5_cursor R C) (curF F) := by
    intro C hC t t1 t9
    obtain ⟨a1, a2, a3⟩ := h1 t t1 t9
    rw [curF_c t1 t9, curF_n (j := 702 + 18 * t) (fun u _ _ => by omega), curF_n (j := 703 + 18 * t) (fun u _ _ => by omega)]
    exact ⟨a1, a2, (hC t (by omega)).trans a2⟩
  have hp : ∀ t, 1 ≤ t → t ≤ 9 → (ac (curF F) t ↔ ((rp b j0 t).1 = 1 ∨ (rp b j0 t).1 = 2)) ∧ (ac (curF F) t → curF F (704 + 18 * t) = (rp b j0 t).2) := by
    intro t t1 t9
    unfold ac
    rw [curF_c t1 t9, curF_n (j := 702 + 18 * t) (fun u _ _ => by omega)]
    obtain ⟨d1, d2, d3⟩ := h3 t t1 t9
    have r3 := (rp_Sz (b := b) j0 t).2.2.1
    refine ⟨⟨fun y => ?_, fun y => ?_⟩, fun y => ?_⟩
    · obtain ⟨⟨k1, k2, k3⟩, k4⟩ := d1 (by omega)
      have : (rp b j0 t).1 ≠ 3 := fun z => by have := k2.mpr z; omega
      omega
    · have n0 : F (702 + 18 * t) ≠ 0 := fun z => by have := d3 trivial z; omega
      obtain ⟨⟨k1, k2, k3⟩, k4⟩ := d1 n0
      have : F (702 + 18 * t) ≠ 3 := fun z => by have := k2.mp z; omega
      omega
    · exact (d1 (by omega)).2
  have hl : lnk (curF F) (fun t => decide ((rp b j0 t).1 = 1 ∨ (rp b j0 t).1 = 2)) (fun t => (rp b j0 t).2) := by
    intro t t1 t9
    obtain ⟨k1, k2⟩ := hp t t1 t9
    exact ⟨fun y => ⟨decide_eq_true (k1.mp y), (k2 y).symm⟩, fun y z => absurd (k1.mpr (of_decide_eq_true y)) z⟩
  obtain ⟨z, z1, z2⟩ := roll hJ hM hL ha 600000 0 (curF F) (s5_cursor R (va_cpy (g5_last R) (g5_cursor R) (0 : Int32).toNatClampNeg (0 : Int32).toNatClampNeg (10 : Int32).toNatClampNeg)) (fun t => (rp b j0 t).2) tau (hR2 _ fun i hi => cpI (k := 10) (by decide) hi) (curF_b h2) hl (fun t => Sz_mono hj0 (rp_Sz j0 t).1) (mz9 (curF_b h2)) (by omega) ht
  refine ⟨z, fun Q q => ⟨by decide, fun u hu u2 hu2 => ⟨600000 + 1, ?_⟩⟩, fun T I L hT Q q => x_see hM hL hj0 fun I2 L2 h2' => x_fr (p := fun t => decide ((rp b j0 t).1 = 1 ∨ (rp b j0 t).1 = 2)) (c := fun t => (rp b j0 t).2) (fun t t1 t9 => ?_) (fun t => ?_) (z2 T I2 L2 (fun t t1 t9 => ?_) hT Q q)⟩
  · rw [hu2, hu]; exact z1 Q q
  · obtain ⟨k1, k2⟩ := h2' t t1 t9
    exact ⟨⟨fun y => decide_eq_true (k1.mp y), fun y => k1.mpr (of_decide_eq_true y)⟩, fun y => k2 (of_decide_eq_true y)⟩
  · have := Sz_lt (Sz_mono hj0 (rp_Sz (b := b) j0 t).1); omega
  · obtain ⟨k1, k2⟩ := h2' t t1 t9
    exact ⟨⟨fun y => decide_eq_true (k1.mp y), fun y => k1.mpr (of_decide_eq_true y)⟩, fun y => k2 (of_decide_eq_true y)⟩
end
