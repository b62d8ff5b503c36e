/-! ===== would: the attempts, the whole ===== -/
section
variable {m : S11} {n W V : Nat → Int32} {p l r a c d : Int32} {u : S10} {w : S9}
theorem w_fin {mu a2 a3 i N : Nat} {x4 x5 x6 : Int32} {rr : S4} (h : SWm w n mu) (hu : ¬ g9_up w = 0) (h3 : a3 ≤ 261) (hi : i < 1000000) (k1 : g4_compensated rr = c) (k2 : g4_ended rr = d) (k3 : g4_redoneInAll rr = x6) (k4 : g4_losers rr = x5) {Q : Int32 → S10 → S9 → Prop} (g : ∀ x7 rr2 w2, (∀ K2 : Int32 → S11 → Prop, (∀ v2, Fl2 v2 m → (∀ i, i < 10700 → g11_now v2 i = W i) → K2 x7 v2) → wp_X11_would_110 K2 (N + 1) (nI a2) (nI a3) x4 x5 x6 (tW m n W p V l r a c d)) → Q x7 (s10_recovery u rr2) w2) : wp_X10_would_j_100 Q (N + 1) (nI a2) (nI a3) x4 (nI i) (s10_recovery u rr) w := by
  obtain ⟨x7, A, B⟩ := w_ans (m := m) (W := W) (V := V) (p := p) (l := l) (r := r) (a := a) (u := u) (x4 := x4) h hu h3 k1 k2 k3 k4
  exact pk_le 1000000 i (fun y => by omega) (fun _ => ⟨fun y => absurd y hu, fun _ => A Q (g x7 rr w (fun K2 hK => B K2 N _ (x_248 hK)))⟩)
theorem w_loop {a2 a3 : Nat} (h2 : a2 ≤ 9) (h3 : a3 ≤ 261) {x4 : Int32} : ∀ (N i : Nat) (rr : S4) (w : S9) (n V : Nat → Int32) (p l r a c d x5 x6 : Int32) (mu : Nat), SWm w n mu → 8600 < mu + 6 * N → 6 * i ≤ mu → g4_compensated rr = c → g4_ended rr = d → g4_redoneInAll rr = x6 → ((g4_analysed rr = 0 ∧ x5 = -1 ∧ g9_up w = 0) ∨ (g4_analysed rr ≠ 0 ∧ g4_losers rr = x5 ∧ x5 ≠ -1)) → ∀ Q : Int32 → S10 → S9 → Prop, (∀ x7 rr2 w2, (∀ K2 : Int32 → S11 → Prop, (∀ v2, Fl2 v2 m → (∀ i, i < 10700 → g11_now v2 i = W i) → K2 x7 v2) → wp_X11_would_110 K2 (N + 1) (nI a2) (nI a3) x4 x5 x6 (tW m n W p V l r a c d)) → Q x7 (s10_recovery u rr2) w2) → wp_X10_would_j_100 Q (N + 1) (nI a2) (nI a3) x4 (nI i) (s10_recovery u rr) w := by
  intro N
  induction N with
  | zero =>
    intro i rr w n V p l r a c d x5 x6 mu hS hN
    have := SWm_le hS
    omega
  | succ N ih =>
    intro i rr w n V p l r a c d x5 x6 mu hS hN hi k1 k2 k3 k4 Q g
    have hmu := SWm_le hS
    by_cases hu : g9_up w = 0
    · -- one attempt
      have att : ∀ y2 : Int32, ((y2 = -1 ∧ a2 = 0) ∨ (y2 = nI a2 ∧ a2 ≠ 0)) → (∀ K2 : Int32 → S11 → Prop, wp_X11_would_127 (fun x2 x3 x4 x5 x6 u0 => wp_X11_would_110 K2 (N + 1) x2 x3 x4 x5 x6 u0) K2 (nI a2) (nI a3) x4 x5 x6 y2 (tW m n W p V l r a c d) → wp_X11_would_110 K2 (N + 1 + 1) (nI a2) (nI a3) x4 x5 x6 (tW m n W p V l r a c d)) → wp_X10_would_j_135 (fun x2 x3 x4 x5 u0 u1 => wp_X10_would_j_100 Q (N + 1) x2 x3 x4 x5 u0 u1) Q (nI a2) (nI a3) x4 (nI i) y2 (s10_recovery u rr) w := by
        intro y2 hy hX2
        refine s_attempt2 (m := tW m n W p V l r a c d) (n := n) (pn := p) (r := rr) hS hu (by rcases hy with y | y; exact Or.inl y.1; exact Or.inr ⟨a2, by omega, y.1⟩) fun cp en rd ls r2 w2 s2 hc hl mu2 hst h4 hX u5 hu5 x56 hx56 => ?_
        obtain ⟨v, ⟨V2, n2, p2, ev, hS2, h7, h8⟩, hv⟩ := D_S (d_recovers _ _) (hX (fun v => ∃ V2 n2 p2, v = mS (mR (tW m n W p V l r a c d) y2 (nI (cp + en)) (g11_compensated (tW m n W p V l r a c d) + nI cp) (g11_ended (tW m n W p V l r a c d) + nI en) ls V2) n2 p2 ∧ SWm w2 n2 mu2 ∧ n2 7 = n 7 ∧ n2 8 = rd) (fun V2 n2 p2 b1 b2 b3 => ⟨V2, n2, p2, rfl, b1, b2, b3⟩))
        rw [tW6.2.2.2.1, tW6.2.2.2.2, tW2, tW1] at ev
        rw [tW1] at hv
        subst ev
        rw [hx56, nI_1, hu5]
        obtain ⟨q1, q2, q3, q4, q5, q6⟩ := h4
        have e1 : g4_compensated r2 = c + nI cp := by rw [q2, k1]
        have e2 : g4_ended r2 = d + nI en := by rw [q3, k2]
        have e3 : g4_redoneInAll r2 = x6 + rd := by rw [q4, k3]
        -- the reference's turn
        have turn : ∀ K2 : Int32 → S11 → Prop, wp_X11_would_110 K2 (N + 1) (nI a2) (nI a3) x4 (if x5 = -1 then ls else x5) (x6 + rd) (tW m n2 W p2 V2 ls (nI (cp + en)) y2 (c + nI cp) (d + nI en)) → wp_X11_would_110 K2 (N + 1 + 1) (nI a2) (nI a3) x4 x5 x6 (tW m n W p V l r a c d) := by
          intro K2 hK
          refine hX2 K2 (hv _ ⟨fun c0 x hx => ⟨ivp (k := 8) (by omega) (by omega), fun y hy => ?_⟩, fun c0 => ⟨ivp (k := 8) (by omega) (by omega), fun y hy => ?_⟩⟩)
          · rw [tW6.2.2.1] at hx
            rw [tW6.1] at hy
            have hy : y = x6 + n2 8 := hy
            rw [hx, hy, h8]
            rw [if_pos c0] at hK; exact hK
          · rw [tW6.1] at hy
            have hy : y = x6 + n2 8 := hy
            rw [hy, h8]
            rw [if_neg c0] at hK; exact hK
        have e4 : g4_analysed r2 ≠ 0 ∧ g4_losers r2 = (if x5 = -1 then ls else x5) ∧ (if x5 = -1 then ls else x5) ≠ -1 := by
          rcases k4 with ⟨y1, y2, y3⟩ | ⟨y1, y2, y3⟩
          · rw [q6, q5, if_pos y1, if_pos y1, if_pos y2]; exact ⟨by decide, rfl, hl⟩
          · rw [q6, q5, if_neg y1, if_neg y1, if_neg y3]; exact ⟨y1, y2, y3⟩
        have g' : ∀ x7 rr2 w3, (∀ K2 : Int32 → S11 → Prop, (∀ v2, Fl2 v2 m → (∀ i, i < 10700 → g11_now v2 i = W i) → K2 x7 v2) → wp_X11_would_110 K2 (N + 1) (nI a2) (nI a3) x4 (if x5 = -1 then ls else x5) (x6 + rd) (tW m n2 W p2 V2 ls (nI (cp + en)) y2 (c + nI cp) (d + nI en))) → Q x7 (s10_recovery u rr2) w3 := fun x7 rr2 w3 hh => g x7 rr2 w3 (fun K2 hK => turn K2 (hh K2 hK))
        rcases hst with y | ⟨y1, y2', y3⟩
        · exact w_fin hS2 y h3 (by omega) e1 e2 e3 e4.2.1 g'
        · have h1 : 1 ≤ cp + en := by
            rcases hy with z | z
            · exact absurd (y2'.symm.trans z.1) (nI_m1 (by omega))
            · have := (nI_eq (by omega) (by omega)).mp (z.1.symm.trans y2')
              omega
          exact ih (i + 1) r2 w2 n2 V2 p2 ls _ y2 _ _ _ _ mu2 hS2 (by omega) (by omega) e1 e2 e3 (Or.inr e4) Q g'
      have hd : ∀ {Q : Int32 → Prop}, Q 0 → wp_X11_isUp (tW m n W p V l r a c d) Q := fun {Q} q => by
        obtain ⟨F, G, b, e, f, k, hC, hR, hI, -⟩ := hS
        have h3' : F 3 ≠ 0 := fun z => by
          have := hC.2.2.2.2.2.1
          rw [if_pos z, hu] at this
          exact absurd this (by decide)
        have h := x_isUp (m := tW m n W p V l r a c d) (pn := p) (Q := Q) hR (hI.1.1 3) (by rw [if_neg h3']; exact q)
        rw [tW1] at h; exact h
      refine pk_le 1000000 i (fun y => by omega) (fun _ => ⟨fun _ => pk_eq a2 0 (fun y => ?_) (fun y => ?_), fun y => absurd hu y⟩)
      · exact att (-1) (Or.inl ⟨rfl, y⟩) (fun K2 hK => hd ⟨fun _ => ⟨fun _ => hK, fun z => absurd (by rw [y]; rfl) z⟩, fun z => absurd rfl z⟩)
      · exact att (nI a2) (Or.inr ⟨rfl, y⟩) (fun K2 hK => hd ⟨fun _ => ⟨fun z => absurd ((nI_eq (b := 0) (by omega) (by omega)).mp z) y, fun _ => hK⟩, fun z => absurd rfl z⟩)
    · rcases k4 with y | ⟨y1, y2, y3⟩
      · exact absurd y.2.2 hu
      · exact w_fin hS hu h3 (by omega) k1 k2 k3 y2 g
/-- from the fallen World on -/
theorem w_81 {a2 a3 : Nat} (h2 : a2 ≤ 9) (h3 : a3 ≤ 261) (hS : SW w n) (hu : g9_up w = 0) {Q : Int32 → S10 → S9 → Prop} (g : ∀ x7 rr2 w2, (∀ K2 : Int32 → S11 → Prop, (∀ v2, Fl2 v2 m → (∀ i, i < 10700 → g11_now v2 i = W i) → K2 x7 v2) → wp_X11_would_85 K2 (nI a2) (nI a3) (tW m n W p V l r a c d)) → Q x7 (s10_recovery u rr2) w2) : wp_X10_would_j_81 Q (nI a2) (nI a3) u w := by
  intro x4 hx4 s1 e1 s2 e2 s3 e3 s4 e4 u2 hu2
  rw [hu2]
  obtain ⟨mu, hm⟩ := SWm_of hS
  have k4 : g4_analysed s4 = 0 ∧ g4_compensated s4 = 0 ∧ g4_ended s4 = 0 ∧ g4_redoneInAll s4 = 0 := by rw [e4, e3, e2, e1]; exact ⟨rfl, rfl, rfl, rfl⟩
  have h9 : n 9 = x4 := by
    obtain ⟨F, G, b, e, f, k, hC, hR, hI⟩ := hS
    rw [hx4, hR.2.2.1 9 (by unfold gk; omega)]; exact hC.2.2.2.2.2.2.2.2.2.symm
  refine ⟨1434 + 1, w_loop (m := m) (W := W) h2 h3 1434 0 s4 w n V p l r a 0 0 (-1) 0 mu hm (by omega) (by omega) k4.2.1 k4.2.2.1 k4.2.2.2 (Or.inl ⟨k4.1, rfl, hu⟩) Q (fun x7 rr2 w2 hh => g x7 rr2 w2 (fun K2 hK => ⟨ivp (k := 9) (by omega) (by omega), fun y4 hy4 y5 hy5 v1 hv1 v2 hv2 => ?_⟩))⟩
  rw [tW6.1] at hy4
  have hy4 : y4 = n 9 := hy4
  rw [hv1, tW5] at hv2
  rw [hv2, hy5, hy4, h9]
  exact ⟨1434 + 1, hh K2 hK⟩
def cpW (n W0 : Nat → Int32) (x : Nat) : Nat → Int32 := fun i => if i < x then n i else W0 i
theorem cpW_S {n W0 : Nat → Int32} {x : Nat} : upd (cpW n W0 x) x (n x) = cpW n W0 (x + 1) := by
  funext i
  by_cases c : i = x
  · rw [c, pk_us]; unfold cpW; rw [if_pos (by omega)]
  · rw [pk_un c]; unfold cpW
    by_cases c2 : i < x
    · rw [if_pos c2, if_pos (by omega)]
    · rw [if_neg c2, if_neg (by omega)]
theorem x_45 {W0 : Nat → Int32} {x1 x2 x3 : Int32} {Q : Int32 → S11 → Prop} (q : wp_X11_isUp (tW m n (cpW n W0 10700) p V l r a c d) (fun r_15 => (r_15 = 0 → wp_X11_would_85 Q x2 x3 (tW m n (cpW n W0 10700) p V l r a c d)) ∧ (¬ r_15 = 0 → wp_X11_crashes (tW m n (cpW n W0 10700) p V l r a c d) x1 (fun v_16 => wp_X11_would_85 Q x2 x3 v_16)))) : ∀ e x, x + e = 10700 → ∃ M, wp_X11_would_45 Q M x1 x2 x3 (nI x) (tW m n (cpW n W0 x) p V l r a c d) := by
  intro e
  induction e with
  | zero =>
    intro x hd
    have hd : x = 10700 := hd
    subst hd
    exact ⟨1, fun _ => q, fun y => absurd (by decide) y⟩
  | succ e ih =>
    intro x hd
    obtain ⟨M, hM⟩ := ih (x + 1) (by omega)
    refine ⟨M + 1, pk_le 10700 x (fun y => by omega) (fun _ => ?_)⟩
    obtain ⟨g1, g2, -⟩ := tW6 (m := m) (n := n) (W := cpW n W0 x) (p := p) (V := V) (l := l) (r := r) (a := a) (c := c) (d := d)
    rw [g1, g2, tW3]
    refine ⟨ivp (by omega) (by omega), ivp (by omega) (by omega), fun u1 hu1 x2 hx2 => ?_⟩
    rw [nI_clamp (by omega), cpW_S] at hu1
    rw [hu1, hx2, nI_1]; exact hM
theorem Fl2_t {v1 v2 v3 : S11} (h : Fl2 v1 v2) (h2 : Fl2 v2 v3) : Fl2 v1 v3 := ⟨Fld_t h.1 h2.1, h.2.1.trans h2.2.1, h.2.2.1.trans h2.2.2.1, h.2.2.2.1.trans h2.2.2.2.1, h.2.2.2.2.1.trans h2.2.2.2.2.1, h.2.2.2.2.2.1.trans h2.2.2.2.2.2.1, h.2.2.2.2.2.2.trans h2.2.2.2.2.2.2⟩
theorem Fl2_told : Fl2 (s11_told m 0) m := ⟨⟨rfl, rfl, rfl⟩, rfl, rfl, rfl, rfl, rfl, rfl⟩
theorem told_n : g11_now (s11_told m 0) = g11_now m := rfl
theorem o_would {w0 : S9} {a1 a2 a3 : Nat} (h1 : a1 ≤ 999) (h2 : a2 ≤ 9) (h3 : a3 ≤ 261) (h : SW (g10_now u) (g11_now m)) {K : Int32 → S10 → S9 → Int32 → S11 → Prop} (q : ∀ x7 rr2 w2 v2, Fl2 v2 m → (∀ i, i < 10700 → g11_now v2 i = g11_now m i) → K x7 (s10_recovery u rr2) w2 x7 v2) : wp_X10_would_j u w0 (nI a1) (nI a2) (nI a3) (fun r u2 w2 => wp_X11_would m (nI a1) (nI a2) (nI a3) (fun r2 v2 => K r u2 w2 r2 v2)) := by
  have fT := Fl2_told (m := m)
  have hn := told_n (m := m)
  have head : ∀ K2 : Int32 → S11 → Prop, (∃ N, wp_X11_would_45 K2 N (nI a1) (nI a2) (nI a3) 0 (s11_told m 0)) → wp_X11_would m (nI a1) (nI a2) (nI a3) K2 := by
    intro K2 hK v hv
    rw [hv]
    exact x_isIn1 (lo := 0) (hi := 999) rfl (by omega) (by omega) (by omega) h1 ⟨fun y => absurd y (by decide), fun _ => x_isIn1 (lo := 0) (hi := 9) rfl (by omega) (by omega) (by omega) h2 ⟨fun y => absurd y (by decide), fun _ => x_isIn1 (lo := 0) (hi := 261) rfl (by omega) (by omega) (by omega) h3 ⟨fun y => absurd y (by decide), fun _ => hK⟩⟩⟩
  generalize s11_told m 0 = m0 at fT hn head
  have em := tW8 (m := m0)
  rw [hn] at em
  generalize hn0 : g11_now m = n at *
  generalize g11_waiting m0 = W0 at em
  generalize g11_laidAt m0 = p at em
  generalize g11_unclean m0 = V at em
  generalize g11_losers m0 = l at em
  generalize g11_recovered m0 = r at em
  generalize g11_mayWrite m0 = a at em
  generalize g11_compensated m0 = c at em
  generalize g11_ended m0 = d at em
  have hw : ∀ i, i < 10700 → cpW n W0 10700 i = n i := fun i hi => by unfold cpW; rw [if_pos hi]
  have c0 : cpW n W0 0 = W0 := by funext i; unfold cpW; rw [if_neg (by omega)]
  have go : ∀ K2 : Int32 → S11 → Prop, wp_X11_isUp (tW m0 n (cpW n W0 10700) p V l r a c d) (fun r_15 => (r_15 = 0 → wp_X11_would_85 K2 (nI a2) (nI a3) (tW m0 n (cpW n W0 10700) p V l r a c d)) ∧ (¬ r_15 = 0 → wp_X11_crashes (tW m0 n (cpW n W0 10700) p V l r a c d) (nI a1) (fun v_16 => wp_X11_would_85 K2 (nI a2) (nI a3) v_16))) → wp_X11_would m (nI a1) (nI a2) (nI a3) K2 := by
    intro K2 hK
    refine head K2 ?_
    have hh := x_45 (m := m0) (W0 := W0) (p := p) (V := V) (l := l) (r := r) (a := a) (c := c) (d := d) hK 10700 0 (by omega)
    rw [c0] at hh
    rw [em]; exact hh
  have fin : ∀ x7 rr2 w2, ∀ v2, Fl2 v2 m0 → (∀ i, i < 10700 → g11_now v2 i = cpW n W0 10700 i) → K x7 (s10_recovery u rr2) w2 x7 v2 := fun x7 rr2 w2 v2 f1 f2 => q x7 rr2 w2 v2 (Fl2_t f1 fT) (fun i hi => (f2 i hi).trans (hw i hi))
  obtain ⟨F, G, b, e, f, k, hC, hR, hI⟩ := h
  have ib := hI.1.1
  refine w_copyFrom hC fun w2 hC2 s2 => w_up hC2.2.2.2.2.2.1 (fun z3 => ?_) (fun z3 => ?_)
  · have hu : g9_up w2 = 0 := by rw [hC2.2.2.2.2.2.1, if_neg z3]
    refine w_81 (m := m0) (W := cpW n W0 10700) (p := p) (V := V) (l := l) (r := r) (a := a) (c := c) (d := d) h2 h3 ⟨F, G, b, e, f, k, hC2, hR, hI⟩ hu (fun x7 rr2 w3 hh => go _ ?_)
    have x := x_isUp (m := tW m0 n (cpW n W0 10700) p V l r a c d) (pn := p) (Q := fun r_15 => (r_15 = 0 → wp_X11_would_85 (fun r2 v2 => K x7 (s10_recovery u rr2) w3 r2 v2) (nI a2) (nI a3) (tW m0 n (cpW n W0 10700) p V l r a c d)) ∧ (¬ r_15 = 0 → wp_X11_crashes (tW m0 n (cpW n W0 10700) p V l r a c d) (nI a1) (fun v_16 => wp_X11_would_85 (fun r2 v2 => K x7 (s10_recovery u rr2) w3 r2 v2) (nI a2) (nI a3) v_16))) hR (ib 3) (by
      rw [if_neg z3]
      exact ⟨fun _ => hh _ (fin x7 rr2 w3), fun y => absurd rfl y⟩)
    rw [tW1] at x; exact x
  · have i5 := hI.1.2.2.2.2.1.2
    refine w_fall hC2 (mm := a1) (by omega) i5 fun w3 hC3 s3 => ?_
    obtain ⟨k2, hI2⟩ := cr_IV (G := G) (mm := a1) hI.1
    have xc := x_crashes (m := tW m0 n (cpW n W0 10700) p V l r a c d) (pn := p) hR i5 (mm := a1) (by omega) (Q := fun v => ∃ n2, v = mS (tW m0 n (cpW n W0 10700) p V l r a c d) n2 p ∧ isR n2 (crF F) (crG G) (trB b (min e (f + a1))) (min e (f + a1)) (min e (f + a1))) (fun n2 r2 => ⟨n2, rfl, r2⟩)
    obtain ⟨v, ⟨n2, ev, r2⟩, hv⟩ := D_S (d_crashes _ _) xc
    rw [tW1] at ev hv
    subst ev
    have hu : g9_up w3 = 0 := by rw [hC3.2.2.2.2.2.1, if_neg (by unfold crF; rw [if_neg (by omega), if_neg (by omega), if_pos rfl]; omega)]
    refine w_81 (m := m0) (W := cpW n W0 10700) (p := p) (V := V) (l := l) (r := r) (a := a) (c := c) (d := d) h2 h3 ⟨_, _, _, _, _, k2, hC3, r2, hI2⟩ hu (fun x7 rr2 w4 hh => go _ ?_)
    have x := x_isUp (m := tW m0 n (cpW n W0 10700) p V l r a c d) (pn := p) (Q := fun r_15 => (r_15 = 0 → wp_X11_would_85 (fun r2 v2 => K x7 (s10_recovery u rr2) w4 r2 v2) (nI a2) (nI a3) (tW m0 n (cpW n W0 10700) p V l r a c d)) ∧ (¬ r_15 = 0 → wp_X11_crashes (tW m0 n (cpW n W0 10700) p V l r a c d) (nI a1) (fun v_16 => wp_X11_would_85 (fun r2 v2 => K x7 (s10_recovery u rr2) w4 r2 v2) (nI a2) (nI a3) v_16))) hR (ib 3) (by
      rw [if_pos z3]
      exact ⟨fun y => absurd y (by decide), fun _ => hv _ (hh _ (fin x7 rr2 w4))⟩)
    rw [tW1] at x; exact x
end
