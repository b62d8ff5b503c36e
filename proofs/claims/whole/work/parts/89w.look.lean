/-! ===== calls of the store: victim, look ===== -/
section
variable {m : S11} {n : Nat → Int32} {pn : Int32} {F F2 : Nat → Nat} {G G2 : Nat → Int32} {b b2 : Nat → Nat} {e f k e2 f2 c cp en : Nat} {w : S9} {P : S3} {C : S0} {R : S5} {J : S2} {U : Nat → Nat} {r : S4} {x2 : Int32} {u : S10} {D : Nat → Bool} {cs : Nat → Nat}
def vcA (D : Nat → Bool) (cs : Nat → Nat) : Nat → Nat → Nat → Nat
  | 0, _, a => a
  | N + 1, t, a => vcA D cs N (t + 1) (if D t = true ∧ (a = 0 ∨ cs t < cs a) then t else a)
theorem D_ex (G : Nat → Int32) : ∃ D : Nat → Bool, ∀ t, D t = true ↔ Rch (fun i => G (1394 + i)) (G (1394 + t)) t := ⟨fun t => @decide (Rch (fun i => G (1394 + i)) (G (1394 + t)) t) (Classical.propDecidable _), fun t => by simp⟩
theorem chn_le : ∀ N s, chn b N s ≤ N := by
  intro N
  induction N with
  | zero => intro s; exact Nat.le_refl _
  | succ N ih =>
    intro s
    unfold chn
    split
    · omega
    · have := ih (vnx (rv b s))
      rcases vun_01 (rv b s) with z | z <;> omega
theorem ch_le (s : Nat) : ch b s ≤ s := chn_le s s
theorem ch_lt (hI : IV F G b e f k) (he : e ≤ 8600) {t : Nat} (h1 : 1 ≤ t) (h9 : t ≤ 9) : cst F b t < 65536 := by
  obtain ⟨a1, a2, a3⟩ := tx_ok hI h1 h9
  have iL := hI.1.2.2.2.1
  have g : ∀ s, Sz b k s → ch b s < 65536 := fun s hs => by
    have := ch_le (b := b) s
    have := Sz_lt hs
    have := iL.1.1
    omega
  unfold cst
  split
  · exact g _ (a2 (by omega)).1
  · split
    · exact g _ (a3 (by omega))
    · omega
theorem vcA_ok : ∀ N t a, N + t = 10 → a ≤ 9 → vcA D cs N t a ≤ 9 := by
  intro N
  induction N with
  | zero => intro t a _ h; exact h
  | succ N ih =>
    intro t a ht h
    unfold vcA
    refine ih (t + 1) _ (by omega) ?_
    split
    · omega
    · exact h
theorem o_victim (h : SW (g10_now u) n) {K : Int32 → Int32 → S11 → Prop} (q : ∀ r, K r r (mS (s11_told m 0) n pn)) : wp_X10_victim u (fun r => wp_X11_victim (mS m n pn) (fun r2 v2 => K r r2 v2)) := by
  obtain ⟨F, G, b, e, f, k, hC, hR, hI⟩ := h
  obtain ⟨D, hD⟩ := D_ex G
  have hE := hC.1.2.2.1
  have wg : ∀ {Q : Int32 → Prop} N t a (x1 x2 : Int32), N + t = 10 → 1 ≤ t → a ≤ 9 → (a = 0 → x2 = -1) → (a ≠ 0 → x2 = nI a ∧ x1 = nI (cst F b a)) → (vcA D (cst F b) N t a = 0 → Q (-1)) → (vcA D (cst F b) N t a ≠ 0 → Q (nI (vcA D (cst F b) N t a))) → wp_X10_victim_6 u Q (N + 1) x1 x2 (nI t) := by
    intro Q N
    induction N with
    | zero =>
      intro t a x1 x2 ht h1 ha y0 y1 q0 q1
      refine pk_lt 9 t (fun _ => ?_) (fun z => by omega)
      by_cases d : a = 0
      · rw [y0 d]; exact q0 d
      · rw [(y1 d).1]; exact q1 d
    | succ N ih =>
      intro t a x1 x2 ht h1 ha y0 y1 q0 q1
      unfold vcA at q0 q1
      have n52 : ∀ a2 (x1 x2 : Int32), a2 ≤ 9 → (a2 = 0 → x2 = -1) → (a2 ≠ 0 → x2 = nI a2 ∧ x1 = nI (cst F b a2)) → (vcA D (cst F b) N (t + 1) a2 = 0 → Q (-1)) → (vcA D (cst F b) N (t + 1) a2 ≠ 0 → Q (nI (vcA D (cst F b) N (t + 1) a2))) → wp_X10_victim_52 u (fun x1 x2 x3 => wp_X10_victim_6 u Q (N + 1) x1 x2 x3) Q x1 x2 (nI t) := fun a2 x1 x2 ha2 z0 z1 p0 p1 y hy => by
        rw [hy, nI_1]; exact ih (t + 1) a2 x1 x2 (by omega) (by omega) ha2 z0 z1 p0 p1
      have hct := ch_lt hI hE h1 (show t ≤ 9 by omega)
      refine pk_lt 9 t (fun z => by omega) (fun _ => w_dead hC.2.2.2.1 h1 (by omega) (fun z => ⟨fun y => absurd y (by decide), fun _ => w_cost hC hI h1 (by omega) ?_⟩) (fun z => ⟨fun _ => ?_, fun y => absurd rfl y⟩))
      · have dt := (hD t).mpr z
        by_cases d : a = 0
        · rw [if_pos ⟨dt, Or.inl d⟩] at q0 q1
          exact ⟨fun _ => n52 t _ _ (by omega) (fun y => by omega) (fun _ => ⟨rfl, rfl⟩) q0 q1, fun y => absurd (y0 d) y⟩
        · have hca := ch_lt hI hE (show 1 ≤ a by omega) ha
          rw [(y1 d).1, (y1 d).2]
          refine ⟨fun y => absurd y.symm (Lim_0.resolve_right (by omega)), fun _ => pk_le (cst F b a) (cst F b t) (fun y => ?_) (fun y => ?_)⟩
          · rw [if_neg (by omega)] at q0 q1
            exact n52 a _ _ ha (fun y => absurd y d) (fun _ => ⟨rfl, rfl⟩) q0 q1
          · rw [if_pos ⟨dt, Or.inr y⟩] at q0 q1
            exact n52 t _ _ (by omega) (fun y => by omega) (fun _ => ⟨rfl, rfl⟩) q0 q1
      · have dt : ¬ D t = true := fun y => z ((hD t).mp y)
        rw [if_neg (fun y => dt y.1)] at q0 q1
        exact n52 a x1 x2 ha y0 y1 q0 q1
  have xg : ∀ {Q : Int32 → S11 → Prop} N t a (x1 : Int32), N + t = 10 → 1 ≤ t → a ≤ 9 → (a = 0 → x1 = -1) → (a ≠ 0 → x1 = nI a) → (vcA D (cst F b) N t a = 0 → Q (-1) (mS (s11_told m 0) n pn)) → (vcA D (cst F b) N t a ≠ 0 → Q (nI (vcA D (cst F b) N t a)) (mS (s11_told m 0) n pn)) → wp_X11_victim_9 Q (N + 1) x1 (nI t) (mS (s11_told m 0) n pn) := by
    intro Q N
    induction N with
    | zero =>
      intro t a x1 ht h1 ha y0 y1 q0 q1
      refine pk_lt 9 t (fun _ => ?_) (fun z => by omega)
      by_cases d : a = 0
      · rw [y0 d]; exact q0 d
      · rw [y1 d]; exact q1 d
    | succ N ih =>
      intro t a x1 ht h1 ha y0 y1 q0 q1
      unfold vcA at q0 q1
      have n48 : ∀ a2 (x1 : Int32), a2 ≤ 9 → (a2 = 0 → x1 = -1) → (a2 ≠ 0 → x1 = nI a2) → (vcA D (cst F b) N (t + 1) a2 = 0 → Q (-1) (mS (s11_told m 0) n pn)) → (vcA D (cst F b) N (t + 1) a2 ≠ 0 → Q (nI (vcA D (cst F b) N (t + 1) a2)) (mS (s11_told m 0) n pn)) → wp_X11_victim_48 (fun x1 x2 u0 => wp_X11_victim_9 Q (N + 1) x1 x2 u0) Q x1 (nI t) (mS (s11_told m 0) n pn) := fun a2 x1 ha2 z0 z1 p0 p1 y hy => by
        rw [hy, nI_1]; exact ih (t + 1) a2 x1 (by omega) (by omega) ha2 z0 z1 p0 p1
      have hct := ch_lt hI hE h1 (show t ≤ 9 by omega)
      refine pk_lt 9 t (fun z => by omega) (fun _ => x_dead (m := s11_told m 0) hR h1 (by omega) (fun z => ⟨fun y => absurd y (by decide), fun _ => ?_⟩) (fun z => ⟨fun _ => ?_, fun y => absurd rfl y⟩))
      · have dt := (hD t).mpr z
        by_cases d : a = 0
        · rw [if_pos ⟨dt, Or.inl d⟩] at q0 q1
          exact ⟨fun _ => n48 t _ (by omega) (fun y => by omega) (fun _ => rfl) q0 q1, fun y => absurd (y0 d) y⟩
        · have hca := ch_lt hI hE (show 1 ≤ a by omega) ha
          rw [y1 d]
          refine ⟨fun y => absurd y.symm (Lim_0.resolve_right (by omega)), fun _ => x_cost (m := s11_told m 0) hR hI h1 (by omega) (x_cost (m := s11_told m 0) hR hI (by omega) ha (pk_le (cst F b a) (cst F b t) (fun y => ?_) (fun y => ?_)))⟩
          · rw [if_neg (by omega)] at q0 q1
            exact n48 a _ ha (fun y => absurd y d) (fun _ => rfl) q0 q1
          · rw [if_pos ⟨dt, Or.inr y⟩] at q0 q1
            exact n48 t _ (by omega) (fun y => by omega) (fun _ => rfl) q0 q1
      · have dt : ¬ D t = true := fun y => z ((hD t).mp y)
        rw [if_neg (fun y => dt y.1)] at q0 q1
        exact n48 a x1 ha y0 y1 q0 q1
  intro y hy
  refine ⟨10, wg 9 1 0 0 y (by omega) (by omega) (by omega) (fun _ => hy) (fun z => absurd rfl z) (fun z v hv y2 hy2 => ⟨10, ?_⟩) (fun z v hv y2 hy2 => ⟨10, ?_⟩)⟩
  · rw [hv]
    exact xg 9 1 0 y2 (by omega) (by omega) (by omega) (fun _ => hy2) (fun z => absurd rfl z) (fun _ => q _) (fun y => absurd z y)
  · rw [hv]
    exact xg 9 1 0 y2 (by omega) (by omega) (by omega) (fun _ => hy2) (fun z => absurd rfl z) (fun y => absurd y z) (fun _ => q _)
/-- what is still needed of the log -/
def ndF (F : Nat → Nat) : Nat → Nat → Nat → Nat
  | 0, _, a => a
  | N + 1, g, a => ndF F N (g + 1) (if F (562 + 20 * g) = 0 then a else min a (F (562 + 20 * g)))
def ndT (F b : Nat → Nat) : Nat → Nat → Nat → Nat
  | 0, _, a => a
  | N + 1, t, a => ndT F b N (t + 1) (if F (702 + 18 * t) = 0 then a else min a (fstR b (F (703 + 18 * t)) (F (703 + 18 * t))))
theorem ndF_8 (hS : ∀ g, g < 8 → F (562 + 20 * g) ≠ 0 → 8 ≤ F (562 + 20 * g)) : ∀ N g a, N + g = 8 → 8 ≤ a → a < 65536 → 8 ≤ ndF F N g a ∧ ndF F N g a ≤ a := by
  intro N
  induction N with
  | zero => intro g a _ h _; exact ⟨h, Nat.le_refl _⟩
  | succ N ih =>
    intro g a hg h h2
    unfold ndF
    have := hS g (by omega)
    split
    · exact ih (g + 1) a (by omega) h h2
    · rename_i c
      have := this c
      obtain ⟨q1, q2⟩ := ih (g + 1) (min a (F (562 + 20 * g))) (by omega) (by omega) (by omega)
      exact ⟨q1, by omega⟩
theorem ndT_8 (hS : ∀ t, 1 ≤ t → t ≤ 9 → F (702 + 18 * t) ≠ 0 → 8 ≤ fstR b (F (703 + 18 * t)) (F (703 + 18 * t))) : ∀ N t a, N + t = 10 → 1 ≤ t → 8 ≤ a → 8 ≤ ndT F b N t a ∧ ndT F b N t a ≤ a := by
  intro N
  induction N with
  | zero => intro g a _ _ h; exact ⟨h, Nat.le_refl _⟩
  | succ N ih =>
    intro t a ht h1 h
    unfold ndT
    have := hS t h1 (by omega)
    split
    · exact ih (t + 1) a (by omega) (by omega) h
    · rename_i c
      have := this c
      obtain ⟨q1, q2⟩ := ih (t + 1) (min a (fstR b (F (703 + 18 * t)) (F (703 + 18 * t)))) (by omega) (by omega) (by omega)
      exact ⟨q1, by omega⟩
end
