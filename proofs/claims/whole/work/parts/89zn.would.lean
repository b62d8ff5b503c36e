/-! ===== would ===== -/
section
variable {m : S11} {n W V : Nat → Int32} {p l r a c d : Int32} {u : S10} {w : S9}
/-- the reference while it thinks: its row, what waits, its counters -/
def tW (m : S11) (n W : Nat → Int32) (p : Int32) (V : Nat → Int32) (l r a c d : Int32) : S11 := (m.1, n, W, p, V, l, r, a, c, d, m.2.2.2.2.2.2.2.2.2.2)
theorem tW1 {n2 : Nat → Int32} {p2 : Int32} : mS (tW m n W p V l r a c d) n2 p2 = tW m n2 W p2 V l r a c d := rfl
theorem tW2 {l2 r2 a2 c2 d2 : Int32} {V2 : Nat → Int32} : mR (tW m n W p V l r a c d) a2 r2 c2 d2 l2 V2 = tW m n W p V2 l2 r2 a2 c2 d2 := rfl
theorem tW3 {W2 : Nat → Int32} : s11_waiting (tW m n W p V l r a c d) W2 = tW m n W2 p V l r a c d := rfl
theorem tW4 {n2 : Nat → Int32} : s11_now (tW m n W p V l r a c d) n2 = tW m n2 W p V l r a c d := rfl
theorem tW5 {x y : Int32} : s11_ended (s11_compensated (tW m n W p V l r a c d) x) y = tW m n W p V l r a x y := rfl
theorem tW6 : g11_now (tW m n W p V l r a c d) = n ∧ g11_waiting (tW m n W p V l r a c d) = W ∧ g11_losers (tW m n W p V l r a c d) = l ∧ g11_compensated (tW m n W p V l r a c d) = c ∧ g11_ended (tW m n W p V l r a c d) = d := ⟨rfl, rfl, rfl, rfl, rfl⟩
def Fl2 (v2 v : S11) : Prop := Fld v2 v ∧ g11_plans v2 = g11_plans v ∧ g11_planMany v2 = g11_planMany v ∧ g11_tape v2 = g11_tape v ∧ g11_taped v2 = g11_taped v ∧ g11_faultKind v2 = g11_faultKind v ∧ g11_faultPlace v2 = g11_faultPlace v
theorem tW7 : Fl2 (tW m n W p V l r a c d) m := ⟨⟨rfl, rfl, rfl⟩, rfl, rfl, rfl, rfl, rfl, rfl⟩
theorem tW8 : m = tW m (g11_now m) (g11_waiting m) (g11_laidAt m) (g11_unclean m) (g11_losers m) (g11_recovered m) (g11_mayWrite m) (g11_compensated m) (g11_ended m) := rfl
/-- the row put back -/
theorem x_253 {x7 : Int32} {Q : Int32 → S11 → Prop} (q : ∀ N : Nat → Int32, (∀ i, i < 10700 → N i = W i) → Q x7 (tW m N W p V l r a c d)) : ∀ e x (N : Nat → Int32), x + e = 10700 → (∀ i, i < x → N i = W i) → ∃ M, wp_X11_would_253 Q M x7 (nI x) (tW m N W p V l r a c d) := by
  intro e
  induction e with
  | zero =>
    intro x N hd h1
    have hd : x = 10700 := hd
    subst hd
    exact ⟨1, fun _ => q N h1, fun y => absurd (by decide) y⟩
  | succ e ih =>
    intro x N hd h1
    obtain ⟨M, hM⟩ := ih (x + 1) (upd N x (W x)) (by omega) (fun i hi => by
      by_cases c : i = x
      · rw [c, pk_us]
      · rw [pk_un c]; exact h1 i (by omega))
    refine ⟨M + 1, pk_le 10700 x (fun y => by omega) (fun _ => ?_)⟩
    obtain ⟨g1, g2, -⟩ := tW6 (m := m) (n := N) (W := W) (p := p) (V := V) (l := l) (r := r) (a := a) (c := c) (d := d)
    rw [g1, g2, tW4]
    refine ⟨ivp (by omega) (by omega), ivp (by omega) (by omega), fun u1 hu1 x2 hx2 => ?_⟩
    rw [nI_clamp (by omega)] at hu1
    rw [hu1, hx2, nI_1]; exact hM
theorem x_248 {x7 : Int32} {Q : Int32 → S11 → Prop} (q : ∀ v2, Fl2 v2 m → (∀ i, i < 10700 → g11_now v2 i = W i) → Q x7 v2) : wp_X11_would_248 Q x7 (tW m n W p V l r a c d) :=
  x_253 (fun N hN => q _ tW7 (by rw [tW6.1]; exact hN)) 10700 0 n (by omega) (fun i hi => by omega)
theorem x_end0 {Q : Int32 → Prop} {b : Nat → Nat} {e f : Nat} (h : isM n b e f) (q : Q (nI e)) : wp_X11_end1 (tW m n W p V l r a c d) Q := x_end1 (b := b) (e := e) (f := f) (by rw [tW6.1]; exact h) q
/-- the answer when it is up -/
theorem w_ans {mu a3 : Nat} {x4 x5 x6 : Int32} {rr : S4} (h : SWm w n mu) (hu : ¬ g9_up w = 0) (h3 : a3 ≤ 261) (k1 : g4_compensated rr = c) (k2 : g4_ended rr = d) (k3 : g4_redoneInAll rr = x6) (k4 : g4_losers rr = x5) : ∃ x7, (∀ Q : Int32 → S10 → S9 → Prop, Q x7 (s10_recovery u rr) w → wp_X10_would_j_145 Q (nI a3) x4 (s10_recovery u rr) w) ∧ ∀ (Q : Int32 → S11 → Prop) (N : Nat) (x2 : Int32), wp_X11_would_248 Q x7 (tW m n W p V l r a c d) → wp_X11_would_110 Q (N + 1) x2 (nI a3) x4 x5 x6 (tW m n W p V l r a c d) := by
  obtain ⟨F, G, b, e, f, k, hC, hR, hI, -⟩ := h
  have h3' : F 3 = 0 := by
    rcases Nat.eq_zero_or_pos (F 3) with y | y
    · exact y
    · exact absurd (by rw [hC.2.2.2.2.2.1, if_neg (by omega)]) hu
  have ib := hI.1.1
  have g9 : n 9 = g9_crashes w := by rw [hR.2.2.1 9 (by unfold gk; omega)]; exact hC.2.2.2.2.2.2.2.2.2.symm
  have hup : ∀ {Q : Int32 → Prop}, Q 1 → wp_X11_isUp (tW m n W p V l r a c d) Q := fun {Q} q => by
    have h := x_isUp (m := tW m n W p V l r a c d) (pn := p) (Q := Q) hR (ib 3) (by rw [if_pos h3']; exact q)
    rw [tW1] at h; exact h
  obtain ⟨q1, q2, q3, q4, q5⟩ := tW6 (m := m) (n := n) (W := W) (p := p) (V := V) (l := l) (r := r) (a := a) (c := c) (d := d)
  have em : ∀ j, j ≤ 261 → a3 ≠ j → ¬ nI a3 = nI j := fun j hj y z => y ((nI_eq (by omega) (by omega)).mp z)
  -- the reference from its answer on
  have xg : ∀ (Q : Int32 → S11 → Prop) (N : Nat) (x2 : Int32), (256 ≤ a3 → (nI a3 = 256 → wp_X11_would_248 Q c (tW m n W p V l r a c d)) ∧ (¬ nI a3 = 256 → (nI a3 = 257 → wp_X11_would_248 Q d (tW m n W p V l r a c d)) ∧ (¬ nI a3 = 257 → (nI a3 = 258 → wp_X11_would_248 Q x6 (tW m n W p V l r a c d)) ∧ (¬ nI a3 = 258 → (nI a3 = 259 → vp_in (9 : Int32) 10700 ∧ (wp_X11_would_248 Q (n (9 : Int32).toNatClampNeg - x4) (tW m n W p V l r a c d))) ∧ (¬ nI a3 = 259 → (nI a3 = 260 → wp_X11_end1 (tW m n W p V l r a c d) (fun r_8 => wp_X11_would_248 Q r_8 (tW m n W p V l r a c d))) ∧ (¬ nI a3 = 260 → wp_X11_would_248 Q x5 (tW m n W p V l r a c d))))))) → (a3 < 256 → wp_X11_byteNow (tW m n W p V l r a c d) (nI a3) (fun r_9 => wp_X11_would_248 Q r_9 (tW m n W p V l r a c d))) → wp_X11_would_110 Q (N + 1) x2 (nI a3) x4 x5 x6 (tW m n W p V l r a c d) := by
    intro Q N x2 y1 y2
    refine hup ⟨fun y => absurd y (by decide), fun _ => ?_⟩
    rw [q1, q4, q5]
    exact pk_le 256 a3 (fun y => y1 y) (fun y => y2 (by omega))
  by_cases c6 : a3 = 256
  · subst c6
    exact ⟨c, fun Q q => ⟨fun _ => by rw [show g4_compensated (g10_recovery (s10_recovery u rr)) = c from k1]; exact q, fun y => absurd rfl y⟩, fun Q N x2 q => xg Q N x2 (fun _ => ⟨fun _ => q, fun y => absurd rfl y⟩) (fun y => by omega)⟩
  by_cases c7 : a3 = 257
  · subst c7
    exact ⟨d, fun Q q => ⟨fun y => absurd y (by decide), fun _ => ⟨fun _ => by rw [show g4_ended (g10_recovery (s10_recovery u rr)) = d from k2]; exact q, fun y => absurd rfl y⟩⟩, fun Q N x2 q => xg Q N x2 (fun _ => ⟨fun y => absurd y (by decide), fun _ => ⟨fun _ => q, fun y => absurd rfl y⟩⟩) (fun y => by omega)⟩
  by_cases c8 : a3 = 258
  · subst c8
    exact ⟨x6, fun Q q => ⟨fun y => absurd y (by decide), fun _ => ⟨fun y => absurd y (by decide), fun _ => ⟨fun _ => by rw [show g4_redoneInAll (g10_recovery (s10_recovery u rr)) = x6 from k3]; exact q, fun y => absurd rfl y⟩⟩⟩, fun Q N x2 q => xg Q N x2 (fun _ => ⟨fun y => absurd y (by decide), fun _ => ⟨fun y => absurd y (by decide), fun _ => ⟨fun _ => q, fun y => absurd rfl y⟩⟩⟩) (fun y => by omega)⟩
  by_cases c9 : a3 = 259
  · subst c9
    refine ⟨g9_crashes w - x4, fun Q q => ⟨fun y => absurd y (by decide), fun _ => ⟨fun y => absurd y (by decide), fun _ => ⟨fun y => absurd y (by decide), fun _ => ⟨fun _ => q, fun y => absurd rfl y⟩⟩⟩⟩, fun Q N x2 q => xg Q N x2 (fun _ => ⟨fun y => absurd y (by decide), fun _ => ⟨fun y => absurd y (by decide), fun _ => ⟨fun y => absurd y (by decide), fun _ => ⟨fun _ => ⟨ivp (k := 9) (by omega) (by omega), ?_⟩, fun y => absurd rfl y⟩⟩⟩⟩) (fun y => by omega)⟩
    show wp_X11_would_248 Q (n 9 - x4) _
    rw [g9]; exact q
  by_cases c10 : a3 = 260
  · subst c10
    exact ⟨nI e, fun Q q => ⟨fun y => absurd y (by decide), fun _ => ⟨fun y => absurd y (by decide), fun _ => ⟨fun y => absurd y (by decide), fun _ => ⟨fun y => absurd y (by decide), fun _ => ⟨fun _ => by rw [hC.1.1]; exact q, fun y => absurd rfl y⟩⟩⟩⟩⟩, fun Q N x2 q => xg Q N x2 (fun _ => ⟨fun y => absurd y (by decide), fun _ => ⟨fun y => absurd y (by decide), fun _ => ⟨fun y => absurd y (by decide), fun _ => ⟨fun y => absurd y (by decide), fun _ => ⟨fun _ => x_end0 hR.1 q, fun y => absurd rfl y⟩⟩⟩⟩⟩) (fun y => by omega)⟩
  by_cases c11 : a3 = 261
  · subst c11
    exact ⟨x5, fun Q q => ⟨fun y => absurd y (by decide), fun _ => ⟨fun y => absurd y (by decide), fun _ => ⟨fun y => absurd y (by decide), fun _ => ⟨fun y => absurd y (by decide), fun _ => ⟨fun y => absurd y (by decide), fun _ => ⟨fun _ => by rw [show g4_losers (g10_recovery (s10_recovery u rr)) = x5 from k4]; exact q, fun y => absurd rfl y⟩⟩⟩⟩⟩⟩, fun Q N x2 q => xg Q N x2 (fun _ => ⟨fun y => absurd y (by decide), fun _ => ⟨fun y => absurd y (by decide), fun _ => ⟨fun y => absurd y (by decide), fun _ => ⟨fun y => absurd y (by decide), fun _ => ⟨fun y => absurd y (by decide), fun _ => q⟩⟩⟩⟩⟩) (fun y => by omega)⟩
  · have hlt : a3 < 256 := by omega
    have h5 := hI.1.2.2.1.1
    refine ⟨_, fun Q q => ⟨fun y => absurd y (em 256 (by omega) c6), fun _ => ⟨fun y => absurd y (em 257 (by omega) c7), fun _ => ⟨fun y => absurd y (em 258 (by omega) c8), fun _ => ⟨fun y => absurd y (em 259 (by omega) c9), fun _ => ⟨fun y => absurd y (em 260 (by omega) c10), fun _ => ⟨fun y => absurd y (em 261 (by omega) c11), fun _ => w_byteNow hC.2.1 h5.2 ib hlt q⟩⟩⟩⟩⟩⟩, fun Q N x2 q => xg Q N x2 (fun y => by omega) (fun _ => ?_)⟩
    have h := x_byteNow (m := tW m n W p V l r a c d) (pn := p) (Q := fun r_9 => wp_X11_would_248 Q r_9 (tW m n W p V l r a c d)) hR h5.2 ib hlt q
    rw [tW1] at h; exact h
end
