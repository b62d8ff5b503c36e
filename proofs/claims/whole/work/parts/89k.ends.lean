/-! ===== recovery: the ends of what is committed ===== -/
section
variable {m : S11} {n : Nat → Int32} {pn : Int32} {F F2 : Nat → Nat} {G G2 : Nat → Int32} {b b2 : Nat → Nat} {e f k e2 f2 c cp en : Nat} {w : S9} {P : S3} {C : S0} {R : S5} {J : S2} {U : Nat → Nat} {r : S4} {x2 : Int32}
def GZ (G : Nat → Int32) : Prop := ∀ j, 882 ≤ j → j < 1404 → j ≠ 1394 → G j = 0
def EI (F : Nat → Nat) (b : Nat → Nat) (e k c : Nat) : Prop := IB F b e e k ∧ wlk b k = e ∧ AT F b k True ∧ AZ F ∧ F 3 = 1 ∧ 6 * c ≤ e
theorem IB_up (h : IB F b e f k) (h2 : f ≤ f2) (h3 : f2 ≤ e) : IB F b e f2 k := IB_c h rfl rfl rfl rfl h.1 h.2.1 h.2.2.1 h2 h3
theorem EI_gone (h : EI F b e k c) {t : Nat} (h1 : 1 ≤ t) (h9 : t ≤ 9) (hi : F (702 + 18 * t) ≠ 0) : EI (goneF F t) (appB b e (plainR 7 t (F (703 + 18 * t)))) (e + 6) (k + 1) (c + 1) := by
  obtain ⟨i1, i2, i3, i4, i5, i6⟩ := h
  obtain ⟨⟨a1, a2, a3⟩, a4⟩ := (i3 t h1 h9).1 hi
  obtain ⟨g1, g2, g3⟩ := gone_step i1 i2 h1 h9 a4 a1
  have o : ∀ j, ¬ (702 + 18 * t ≤ j ∧ j < 720 + 18 * t) → goneF F t j = F j := fun j hj => by unfold goneF; rw [if_neg hj]
  have z : ∀ j, 702 + 18 * t ≤ j → j < 720 + 18 * t → goneF F t j = 0 := fun j j1 j2 => by unfold goneF; rw [if_pos ⟨j1, j2⟩]
  refine ⟨IB_up g1 (by omega) (Nat.le_refl _), g2, fun u u1 u9 => ?_, fun u j u1 u9 j1 j2 => ?_, by rw [o 3 (by omega)]; exact i5, by omega⟩
  · rw [g3]
    by_cases d : u = t
    · subst d
      rw [z _ (by omega) (by omega), z _ (by omega) (by omega)]
      exact ⟨fun y => absurd rfl y, fun _ => rfl, fun _ _ => by simp⟩
    · rw [o _ (by omega), o _ (by omega)]
      simp only [if_neg d]
      exact i3 u u1 u9
  · by_cases d : u = t
    · subst d; exact z _ (by omega) (by omega)
    · rw [o _ (by omega)]; exact i4 u j u1 u9 j1 j2
theorem plainR_lt {kd t pv : Nat} (hk : kd < 256) (ht : t < 256) (hp : pv < 65536) (i : Nat) : (plainR kd t pv).getD i 0 < 256 := by
  have hl : ∀ i, [kd, 0, t, pv / 256, pv % 256].getD i 0 < 256 := fun i => by
    match i with
    | 0 => exact hk
    | 1 => show 0 < 256; omega
    | 2 => exact ht
    | 3 => show pv / 256 < 256; omega
    | 4 => show pv % 256 < 256; omega
    | j + 5 => show ([] : List Nat).getD j 0 < 256; simp
  unfold plainR sealR
  rw [getD_app]
  split
  · rw [getD_set1 (by simp)]
    split
    · simp
    · exact hl i
  · split <;> omega
abbrev ES : Type := Bool × (Nat → Nat) × (Nat → Nat) × Nat × Nat
def enA (x2 : Int32) : Nat → Nat → (Nat → Nat) → (Nat → Nat) → Nat → Nat → ES
  | 0, _, F, b, e, en => (false, F, b, e, en)
  | N + 1, t, F, b, e, en => if F (702 + 18 * t) = 3 then (if x2 = nI (0 + en) then (true, F, b, e, en) else enA x2 N (t + 1) (goneF F t) (appB b e (plainR 7 t (F (703 + 18 * t)))) (e + 6) (en + 1)) else enA x2 N (t + 1) F b e en
theorem room6 (h : EI F b e k c) : e + 6 ≤ 8600 ∧ e ≤ 8590 := by have := log_room h.1.2.2.2.1 h.2.1; omega
theorem enA_ok : ∀ N t F b e en k, N + t = 10 → 1 ≤ t → (∀ i, b i < 256) → EI F b e k en → LimOK x2 (0 + en) → (∀ u, 1 ≤ u → u < t → F (702 + 18 * u) ≠ 3) → ∃ k2, EI (enA x2 N t F b e en).2.1 (enA x2 N t F b e en).2.2.1 (enA x2 N t F b e en).2.2.2.1 k2 (enA x2 N t F b e en).2.2.2.2 ∧ LimOK x2 (0 + (enA x2 N t F b e en).2.2.2.2) ∧ (∀ i, (enA x2 N t F b e en).2.2.1 i < 256) ∧ (∀ i, i < 720 ∨ 882 ≤ i → (enA x2 N t F b e en).2.1 i = F i) ∧ ((enA x2 N t F b e en).1 = true → x2 = nI (0 + (enA x2 N t F b e en).2.2.2.2)) ∧ ((enA x2 N t F b e en).1 = false → ∀ u, 1 ≤ u → u ≤ 9 → (enA x2 N t F b e en).2.1 (702 + 18 * u) ≠ 3) := by
  intro N
  induction N with
  | zero =>
    intro t F b e en k ht h1 h5 hI hl hu
    exact ⟨k, hI, hl, h5, fun _ _ => rfl, fun z => absurd z (by simp [enA]), fun _ u u1 u9 => hu u u1 (by omega)⟩
  | succ N ih =>
    intro t F b e en k ht h1 h5 hI hl hu
    unfold enA
    by_cases c3 : F (702 + 18 * t) = 3
    · rw [if_pos c3]
      by_cases cs : x2 = nI (0 + en)
      · rw [if_pos cs]
        exact ⟨k, hI, hl, h5, fun _ _ => rfl, fun _ => cs, fun z => absurd z (by simp)⟩
      · rw [if_neg cs]
        have hr := room6 hI
        have hI2 := EI_gone hI h1 (by omega) (by omega)
        have h62 := hI.2.2.2.2.2
        have hb := hI.1.1 (703 + 18 * t)
        have hl2 : LimOK x2 (0 + (en + 1)) := Lim_S (c := 0 + en) hl cs (by omega)
        obtain ⟨k2, q1, q2, q3, q4, q5, q6⟩ := ih (t + 1) _ _ _ (en + 1) (k + 1) (by omega) (by omega) (fun i => by
          unfold appB
          split
          · exact h5 i
          · exact plainR_lt (by omega) (by omega) hb _) hI2 hl2 (fun u u1 u2 => by
          unfold goneF
          split
          · omega
          · exact hu u u1 (by omega))
        refine ⟨k2, q1, q2, q3, fun i hi => ?_, q5, q6⟩
        rw [q4 i hi, goneF_txo h1 (by omega) i hi]
    · rw [if_neg c3]
      exact ih (t + 1) F b e en k (by omega) (by omega) h5 hI hl fun u u1 u2 => by
        by_cases d : u = t
        · subst d; exact c3
        · exact hu u u1 (by omega)
theorem curF_gone {t : Nat} (h1 : 1 ≤ t) (h9 : t ≤ 9) : goneF (curF F) t = curF (goneF F t) := by
  funext j
  unfold goneF curF
  dsimp only
  by_cases c1 : 702 + 18 * t ≤ j ∧ j < 720 + 18 * t
  · rw [if_pos c1]
    by_cases c2 : 722 ≤ j ∧ j < 882 ∧ (j - 704) % 18 = 0
    · rw [if_pos c2, if_pos (by omega)]
    · rw [if_neg c2, if_pos c1]
  · rw [if_neg c1]
    by_cases c2 : 722 ≤ j ∧ j < 882 ∧ (j - 704) % 18 = 0
    · rw [if_pos c2, if_pos c2, if_neg (by omega)]
    · rw [if_neg c2, if_neg c2, if_neg c1]
theorem curF_b (hb : ∀ i, F i < 65536) : ∀ i, curF F i < 65536 := fun i => by unfold curF; split; exact hb _; exact hb _
theorem w_en (hG : GZ G) {Q : Int32 → S4 → S9 → Prop} : ∀ N t F b e en k w, N + t = 10 → 1 ≤ t → EI F b e k en → LimOK x2 (0 + en) → CW w (curF F) G b e e → (∀ w2, CW w2 (curF (enA x2 N t F b e en).2.1) G (enA x2 N t F b e en).2.2.1 (enA x2 N t F b e en).2.2.2.1 (enA x2 N t F b e en).2.2.2.1 → g9_script w2 = g9_script w → ((enA x2 N t F b e en).1 = true → Q 0 (e4 r 0 (enA x2 N t F b e en).2.2.2.2) w2) ∧ ((enA x2 N t F b e en).1 = false → wp_X4_undo_8 Q 1 x2 (nI 10) (e4 r 0 (enA x2 N t F b e en).2.2.2.2) w2)) → wp_X4_undo_8 Q (N + 1) x2 (nI t) (e4 r 0 en) w := by
  intro N
  induction N with
  | zero =>
    intro t F b e en k w ht h1 hI hl hC q
    obtain rfl : t = 10 := by omega
    exact (q w hC rfl).2 rfl
  | succ N ih =>
    intro t F b e en k w ht h1 hI hl hC q
    have ib := hI.1.1
    have hbt := ib (702 + 18 * t)
    have e0 : curF F (702 + 18 * t) = F (702 + 18 * t) := curF_n fun u _ _ => by omega
    have e1 : curF F (703 + 18 * t) = F (703 + 18 * t) := curF_n fun u _ _ => by omega
    unfold enA at q
    refine pk_lt 9 t (fun z => by omega) (fun _ => ⟨ivp (by omega) (by omega), ?_⟩)
    rw [nI_clamp (by omega), (hC.2.2.1 t h1 (by omega)).1, e0]
    refine pk_eq (F (702 + 18 * t)) 3 (fun c3 => ?_) (fun c3 => ?_)
    · rw [if_pos c3] at q
      have ew : g4_written (e4 r 0 en) = nI (0 + en) := rfl
      rw [ew]
      refine ⟨fun z => ?_, fun z => ?_⟩
      · rw [if_pos z.symm] at q
        exact (q w hC rfl).1 rfl
      · rw [if_neg (fun y => z y.symm)] at q
        have hr := room6 hI
        have h62 := hI.2.2.2.2.2
        refine w_endOne hC (curF_b ib) hr.1 hG h1 (by omega) fun w2 hC2 s2 y hy => ?_
        rw [hy, nI_1]
        rw [curF_gone h1 (by omega), e1] at hC2
        exact ih (t + 1) _ _ _ (en + 1) (k + 1) w2 (by omega) (by omega) (EI_gone hI h1 (by omega) (by omega)) (Lim_S (c := 0 + en) hl (fun y => z y.symm) (by omega)) hC2 fun w3 c3 s3 => q w3 c3 (s3.trans s2)
    · rw [if_neg c3] at q
      intro y hy
      rw [hy, nI_1]
      exact ih (t + 1) F b e en k w (by omega) (by omega) hI hl hC q
theorem x_en (hG : GZ G) (hm : g11_mayWrite m = x2) {Q : S11 → Prop} : ∀ N t F b e en k n pn, N + t = 10 → 1 ≤ t → EI F b e k en → LimOK x2 (0 + en) → isR n F G b e e → (∀ n2 p2, ((enA x2 N t F b e en).1 = true → isR n2 (crF (enA x2 N t F b e en).2.1) (crG G) (trB (enA x2 N t F b e en).2.2.1 (enA x2 N t F b e en).2.2.2.1) (enA x2 N t F b e en).2.2.2.1 (enA x2 N t F b e en).2.2.2.1 → Q (mS (eM m (0 + (enA x2 N t F b e en).2.2.2.2) 0 (enA x2 N t F b e en).2.2.2.2) n2 p2)) ∧ ((enA x2 N t F b e en).1 = false → isR n2 (enA x2 N t F b e en).2.1 G (enA x2 N t F b e en).2.2.1 (enA x2 N t F b e en).2.2.2.1 (enA x2 N t F b e en).2.2.2.1 → wp_X11_recovers_55 Q 1 (nI 10) (mS (eM m (0 + (enA x2 N t F b e en).2.2.2.2) 0 (enA x2 N t F b e en).2.2.2.2) n2 p2))) → wp_X11_recovers_55 Q (N + 1) (nI t) (mS (eM m (0 + en) 0 en) n pn) := by
  intro N
  induction N with
  | zero =>
    intro t F b e en k n pn ht h1 hI hl hR q
    obtain rfl : t = 10 := by omega
    exact (q n pn).2 rfl hR
  | succ N ih =>
    intro t F b e en k n pn ht h1 hI hl hR q
    have ib := hI.1.1
    have hbt := ib (702 + 18 * t)
    unfold enA at q
    refine pk_lt 9 t (fun z => by omega) (fun _ => x_isOf hR h1 (by omega) (pk_eq (F (702 + 18 * t)) 3 (fun c3 => ?_) (fun c3 => ?_)))
    · rw [if_pos c3] at q
      have hr := room6 hI
      have h62 := hI.2.2.2.2.2
      refine x_ends hR hm hl ib hr.1 hG h1 (by omega) (fun n2 hz r2 => ⟨fun _ => ?_, fun z => absurd rfl z⟩) (fun n2 p2 hz r2 => ⟨fun z => absurd z (by decide), fun _ y hy => ?_⟩)
      · rw [if_pos hz] at q
        exact (q n2 pn).1 rfl r2
      · rw [if_neg hz] at q
        rw [hy, nI_1]
        exact ih (t + 1) _ _ _ (en + 1) (k + 1) n2 p2 (by omega) (by omega) (EI_gone hI h1 (by omega) (by omega)) (Lim_S (c := 0 + en) hl hz (by omega)) r2 q
    · rw [if_neg c3] at q
      intro y hy
      rw [hy, nI_1]
      exact ih (t + 1) F b e en k n pn (by omega) (by omega) hI hl hR q
end
