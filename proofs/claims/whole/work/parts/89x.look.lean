/-! ===== calls of the store: look ===== -/
section
variable {m : S11} {n : Nat → Int32} {pn : Int32} {F F2 : Nat → Nat} {G G2 : Nat → Int32} {b b2 : Nat → Nat} {e f k e2 f2 c cp en : Nat} {w : S9} {P : S3} {C : S0} {R : S5} {J : S2} {U : Nat → Nat} {r : S4} {x2 : Int32} {u : S10} {D : Nat → Bool} {cs : Nat → Nat}
def ndd (F b : Nat → Nat) : Nat := if F 3 ≠ 0 then 8 else if F 2 = 0 then 8 else ndT F b 9 1 (ndF F 8 0 (F 2))
theorem nd_facts (hI : IV F G b e f k) : (∀ g, g < 8 → F (562 + 20 * g) ≠ 0 → 8 ≤ F (562 + 20 * g) ∧ g < F 5 ∧ F (560 + 20 * g) ≠ 0) ∧ (∀ t, 1 ≤ t → t ≤ 9 → F (702 + 18 * t) ≠ 0 → 8 ≤ fstR b (F (703 + 18 * t)) (F (703 + 18 * t)) ∧ fstR b (F (703 + 18 * t)) (F (703 + 18 * t)) ≤ F (703 + 18 * t) ∧ St b k (F (703 + 18 * t))) := by
  obtain ⟨ib, iy, iF, iL, -⟩ := hI.1
  refine ⟨fun g hg hn => ?_, fun t t1 t9 hn => ?_⟩
  · obtain ⟨a1, ⟨j, j1, j2⟩, a3⟩ := iF.2.2.1 g hg hn
    have := wlk_8 (b := b) j
    refine ⟨by omega, ?_, a1⟩
    by_cases d : g < F 5
    · exact d
    · exact absurd ((iF.2.1 g hg).2 (by omega)) a1
  · have hS := ((tx_ok hI t1 t9).2.1 hn).2
    obtain ⟨q1, q2⟩ := fstR_8 iL _ _ (Nat.le_refl _) hS
    exact ⟨q1, q2, hS⟩
theorem w_needed (hC : CW w F G b e f) (hI : IV F G b e f k) {Q : Int32 → Prop} (q : Q (nI (ndd F b))) : wp_X9_needed w Q := by
  obtain ⟨ib, iy, iF, iL, -⟩ := id hI.1
  obtain ⟨n1, n2⟩ := nd_facts hI
  have hE := hC.1.2.2.1
  have hke := iL.1.1
  have g57 : ∀ N t a, N + t = 10 → 1 ≤ t → a < 65536 → Q (nI (ndT F b N t a)) → wp_X9_needed_57 w Q (N + 1) (nI a) (nI t) := by
    intro N
    induction N with
    | zero => intro t a ht h1 _ q; exact pk_lt 9 t (fun _ => q) (fun z => by omega)
    | succ N ih =>
      intro t a ht h1 ha q
      unfold ndT at q
      obtain ⟨r1, r2, r3⟩ := hC.2.2.1 t h1 (by omega)
      have hbt := ib (702 + 18 * t)
      have hbl := ib (703 + 18 * t)
      refine pk_lt 9 t (fun z => by omega) (fun _ => ⟨ivp (by omega) (by omega), ?_⟩)
      rw [nI_clamp (by omega), r1]
      refine pk_eq (F (702 + 18 * t)) 0 (fun z y hy => ?_) (fun z => ⟨ivp (by omega) (by omega), fun x hx => ?_⟩)
      · rw [if_pos z] at q
        rw [hy, nI_1]; exact ih (t + 1) a (by omega) (by omega) ha q
      · rw [if_neg z] at q
        obtain ⟨m1, m2, m3⟩ := n2 t h1 (by omega) z
        have := Sz_lt (b := b) (Or.inr m3)
        rw [nI_clamp (by omega), r2] at hx
        rw [hx]
        refine ⟨F (703 + 18 * t) + 1, w_first_go hC.1 iL _ _ 0 (Nat.le_refl _) m3 (by omega) fun x1 hx1 y hy => ?_⟩
        have ex : x1 = nI (min a (fstR b (F (703 + 18 * t)) (F (703 + 18 * t)))) := by
          rw [hx1]
          by_cases c : fstR b (F (703 + 18 * t)) (F (703 + 18 * t)) < a
          · rw [if_pos (nI_lt c (by omega))]; congr 1; omega
          · rw [if_neg (fun y => c ((nI_ltI (by omega) (by omega)).mp y))]; congr 1; omega
        rw [hy, nI_1, ex]; exact ih (t + 1) _ (by omega) (by omega) (by omega) q
  have g17 : ∀ N g a, N + g = 8 → a < 65536 → Q (nI (ndT F b 9 1 (ndF F N g a))) → wp_X9_needed_17 w Q (N + 1) (nI a) (nI g) := by
    intro N
    induction N with
    | zero => intro g a hg ha q; exact pk_le 8 g (fun _ => ⟨10, g57 9 1 a (by omega) (by omega) ha q⟩) (fun z => by omega)
    | succ N ih =>
      intro g a hg ha q
      unfold ndF at q
      have hbr := ib (562 + 20 * g)
      refine pk_le 8 g (fun z => by omega) (fun _ => ⟨ivp (by omega) (by omega), ?_⟩)
      rw [nI_clamp (by omega), hC.2.1.2.2.2.2.2.2.2.2.1 g (by omega)]
      refine pk_eq (F (562 + 20 * g)) 0 (fun z y hy => ?_) (fun z => ⟨ivp (by omega) (by omega), fun x1 hx1 y hy => ?_⟩)
      · rw [if_pos z] at q
        rw [hy, nI_1]; exact ih (g + 1) a (by omega) ha q
      · rw [if_neg z] at q
        have ex : x1 = nI (min a (F (562 + 20 * g))) := by
          rw [hx1]
          by_cases c : F (562 + 20 * g) < a
          · rw [if_pos (nI_lt c (by omega))]; congr 1; omega
          · rw [if_neg (fun y => c ((nI_ltI (by omega) (by omega)).mp y))]; congr 1; omega
        rw [hy, nI_1, ex]; exact ih (g + 1) _ (by omega) (by omega) q
  have hb2 := ib 2
  unfold ndd at q
  refine w_up hC.2.2.2.2.2.1 (fun z => ?_) (fun z => ?_)
  · rw [if_pos z] at q; exact q
  · rw [if_neg (by omega)] at q
    unfold wp_X9_firstFrom
    rw [hC.2.2.2.2.2.2.1]
    refine pk_eq (F 2) 0 (fun y => ⟨9, ?_⟩) (fun y => ⟨9, ?_⟩)
    · rw [if_pos y] at q
      refine g17 8 0 8 (by omega) (by omega) ?_
      obtain ⟨p1, p2⟩ := ndF_8 (F := F) (fun g hg hn => (n1 g hg hn).1) 8 0 8 (by omega) (by omega) (by omega)
      obtain ⟨p3, p4⟩ := ndT_8 (F := F) (b := b) (fun t t1 t9 hn => (n2 t t1 t9 hn).1) 9 1 (ndF F 8 0 8) (by omega) (by omega) p1
      rw [show ndT F b 9 1 (ndF F 8 0 8) = 8 by omega]; exact q
    · rw [if_neg y] at q
      exact g17 8 0 (F 2) (by omega) hb2 q
theorem x_needed (hR : isR n F G b e f) (hI : IV F G b e f k) {Q : Int32 → Prop} (q : Q (nI (ndd F b))) : wp_X11_needed (mS m n pn) Q := by
  obtain ⟨ib, iy, iF, iL, -⟩ := id hI.1
  obtain ⟨n1, n2⟩ := nd_facts hI
  have hE := hR.1.2.2.2.2.1
  have hke := iL.1.1
  have h8 := iF.1.2
  have g92 : ∀ N t a, N + t = 10 → 1 ≤ t → a < 65536 → Q (nI (ndT F b N t a)) → wp_X11_needed_92 (mS m n pn) Q (N + 1) (nI a) (nI t) := by
    intro N
    induction N with
    | zero => intro t a ht h1 _ q; exact pk_lt 9 t (fun _ => q) (fun z => by omega)
    | succ N ih =>
      intro t a ht h1 ha q
      unfold ndT at q
      have hbt := ib (702 + 18 * t)
      have hbl := ib (703 + 18 * t)
      refine pk_lt 9 t (fun z => by omega) (fun _ => x_isOf hR h1 (by omega) (pk_le (F (702 + 18 * t)) 0 (fun z y hy => ?_) (fun z => ?_)))
      · rw [if_pos (by omega)] at q
        rw [hy, nI_1]; exact ih (t + 1) a (by omega) (by omega) ha q
      · rw [if_neg (by omega)] at q
        obtain ⟨m1, m2, m3⟩ := n2 t h1 (by omega) (by omega)
        have e1 : (720 : Int32) + 18 * (nI t - 1) + 1 = nI (703 + 18 * t) := by rw [show (720 : Int32) + 18 * (nI t - 1) + 1 = nI (702 + 18 * t + 1) from txA t h1 1]; congr 1; omega
        unfold wp_X11_firstRecord
        simp only [wp_X11_txAt]
        rw [e1, nI_clamp (by omega), gmS, hR.2.1 _ (show nk (703 + 18 * t) by unfold nk; omega)]
        refine ⟨ivp (by omega) (by omega), fun x hx => ⟨F (703 + 18 * t) + 1, ?_⟩⟩
        rw [hx]
        refine x_first_go (m := mS m n pn) hR.1 iL _ _ (Nat.le_refl _) m3 (pk_le (fstR b (F (703 + 18 * t)) (F (703 + 18 * t))) a (fun c y hy => ?_) (fun c y hy => ?_))
        · rw [Nat.min_eq_right c] at q
          rw [hy, nI_1]; exact ih (t + 1) _ (by omega) (by omega) (by omega) q
        · rw [Nat.min_eq_left (by omega)] at q
          rw [hy, nI_1]; exact ih (t + 1) _ (by omega) (by omega) (by omega) q
  have ndz : ∀ N g a, N + g = 8 → F 5 ≤ g → ndF F N g a = a := by
    intro N
    induction N with
    | zero => intro g a _ _; rfl
    | succ N ih =>
      intro g a hg h
      unfold ndF
      have : F (562 + 20 * g) = 0 := by
        by_cases d : F (562 + 20 * g) = 0
        · exact d
        · have := (n1 g (by omega) d).2.1; omega
      rw [if_pos this]; exact ih (g + 1) a (by omega) (by omega)
  have g28 : ∀ N g a, N + g = F 5 → a < 65536 → Q (nI (ndT F b 9 1 (ndF F (8 - g) g a))) → wp_X11_needed_28 (mS m n pn) Q (N + 1) (nI a) (nI g) := by
    intro N
    induction N with
    | zero =>
      intro g a hg ha q
      rw [ndz (8 - g) g a (by omega) (by omega)] at q
      exact x_frameMany hR (pk_le (F 5) g (fun _ => ⟨10, g92 9 1 a (by omega) (by omega) ha q⟩) (fun z => by omega))
    | succ N ih =>
      intro g a hg ha q
      rw [show 8 - g = (8 - (g + 1)) + 1 by omega] at q
      unfold ndF at q
      have hb0 := ib (560 + 20 * g)
      have hb2 := ib (562 + 20 * g)
      have nx : ∀ a2, a2 < 65536 → Q (nI (ndT F b 9 1 (ndF F (8 - (g + 1)) (g + 1) a2))) → wp_X11_needed_84 (mS m n pn) (fun x1 x2 => wp_X11_needed_28 (mS m n pn) Q (N + 1) x1 x2) Q (nI a2) (nI g) := fun a2 h2 q2 y hy => by
        rw [hy, nI_1]; exact ih (g + 1) a2 (by omega) h2 q2
      refine x_frameMany hR (pk_le (F 5) g (fun z => by omega) (fun _ => ?_))
      simp only [wp_X11_frameAt]
      have ef0 : (560 : Int32) + 20 * nI g + 0 = nI (560 + 20 * g) := by
        rw [Int32.add_zero]
        show nI 560 + nI 20 * nI _ = _
        rw [pk_mul, nI_add]
      have ef2 : (560 : Int32) + 20 * nI g + 2 = nI (562 + 20 * g) := by
        show nI 560 + nI 20 * nI _ + nI 2 = _
        rw [pk_mul, nI_add, nI_add]; congr 1; omega
      rw [ef0, ef2, nI_clamp (n := 560 + 20 * g) (by omega), nI_clamp (n := 562 + 20 * g) (by omega), gmS, hR.2.1 (560 + 20 * g) (by unfold nk; omega), hR.2.1 (562 + 20 * g) (by unfold nk; omega)]
      refine ⟨ivp (by omega) (by omega), pk_le (F (560 + 20 * g)) 0 (fun z => nx a ha ?_) (fun z => ⟨ivp (by omega) (by omega), pk_le (F (562 + 20 * g)) 0 (fun z2 => nx a ha ?_) (fun z2 => ⟨ivp (by omega) (by omega), pk_le (F (562 + 20 * g)) a (fun c => nx _ (by omega) ?_) (fun c => nx a ha ?_)⟩)⟩)⟩
      · have : F (562 + 20 * g) = 0 := by
          by_cases d : F (562 + 20 * g) = 0
          · exact d
          · exact absurd (show F (560 + 20 * g) = 0 by omega) (n1 g (by omega) d).2.2
        rw [if_pos this] at q; exact q
      · rw [if_pos (by omega)] at q; exact q
      · rw [if_neg (by omega), Nat.min_eq_right c] at q; exact q
      · rw [if_neg (by omega), Nat.min_eq_left (by omega)] at q; exact q
  have hb2 := ib 2
  unfold ndd at q
  refine x_isUp hR (ib 3) ?_
  by_cases z : F 3 = 0
  · rw [if_neg (by omega)] at q
    rw [if_pos z]
    refine ⟨fun y => absurd y (by decide), fun _ => ⟨ivp (k := 2) (by omega) (by omega), ?_⟩⟩
    have g2 : g11_now (mS m n pn) (2 : Int32).toNatClampNeg = nI (F 2) := hR.2.1 2 (by unfold nk; omega)
    rw [g2]
    refine pk_eq (F 2) 0 (fun y => ?_) (fun y => ⟨ivp (k := 2) (by omega) (by omega), fun x hx => ⟨F 5 + 1, ?_⟩⟩)
    · rw [if_pos y] at q; exact q
    · rw [if_neg y] at q
      rw [hx]
      exact g28 (F 5) 0 (F 2) (by omega) hb2 q
  · rw [if_pos z] at q
    rw [if_neg z]
    exact ⟨fun _ => q, fun y => absurd rfl y⟩
theorem w_allD (hC : RC C F G) (hD : ∀ t, D t = true ↔ Rch (fun i => G (1394 + i)) (G (1394 + t)) t) {Q : Int32 → Prop} (q : Q (orL D 9 1 0)) : wp_X0_allDeadlocked C Q := by
  have go : ∀ N t a, N + t = 10 → 1 ≤ t → Q (orL D N t a) → wp_X0_allDeadlocked_4 C Q (N + 1) a (nI t) := by
    intro N
    induction N with
    | zero => intro t a ht _ q; exact pk_lt 9 t (fun _ => q) (fun z => by omega)
    | succ N ih =>
      intro t a ht h1 q
      unfold orL at q
      refine pk_lt 9 t (fun z => by omega) (fun _ => w_dead hC h1 (by omega) (fun z => ⟨fun y => absurd y (by decide), fun _ x hx y hy => ?_⟩) (fun z => ⟨fun _ y hy => ?_, fun y => absurd rfl y⟩))
      · rw [if_pos ((hD t).mpr z)] at q
        rw [hy, nI_1, hx]; exact ih (t + 1) _ (by omega) (by omega) q
      · rw [if_neg (fun y => z ((hD t).mp y))] at q
        rw [hy, nI_1]; exact ih (t + 1) _ (by omega) (by omega) q
  exact ⟨10, go 9 1 0 (by omega) (by omega) q⟩
theorem x_locked (hR : isR n F G b e f) (hD : ∀ t, D t = true ↔ Rch (fun i => G (1394 + i)) (G (1394 + t)) t) {Q : Int32 → Prop} (q : Q (orL D 9 1 0)) : wp_X11_lockedSet (mS m n pn) Q := by
  have go : ∀ N t a, N + t = 10 → 1 ≤ t → Q (orL D N t a) → wp_X11_lockedSet_4 (mS m n pn) Q (N + 1) a (nI t) := by
    intro N
    induction N with
    | zero => intro t a ht _ q; exact pk_lt 9 t (fun _ => q) (fun z => by omega)
    | succ N ih =>
      intro t a ht h1 q
      unfold orL at q
      refine pk_lt 9 t (fun z => by omega) (fun _ => x_dead hR h1 (by omega) (fun z => ⟨fun y => absurd y (by decide), fun _ x hx y hy => ?_⟩) (fun z => ⟨fun _ y hy => ?_, fun y => absurd rfl y⟩))
      · rw [if_pos ((hD t).mpr z)] at q
        rw [hy, nI_1, hx]; exact ih (t + 1) _ (by omega) (by omega) q
      · rw [if_neg (fun y => z ((hD t).mp y))] at q
        rw [hy, nI_1]; exact ih (t + 1) _ (by omega) (by omega) q
  exact ⟨10, go 9 1 0 (by omega) (by omega) q⟩
theorem x_txSet (hR : isR n F G b e f) (hb : ∀ i, F i < 65536) {s : Nat} (hs : s < 65536) {Q : Int32 → Prop} (q : Q (orL (isE F s) 9 1 0)) : wp_X11_txSet (mS m n pn) (nI s) Q := by
  have go : ∀ N t a, N + t = 10 → 1 ≤ t → Q (orL (isE F s) N t a) → wp_X11_txSet_4 (mS m n pn) Q (N + 1) (nI s) a (nI t) := by
    intro N
    induction N with
    | zero => intro t a ht _ q; exact pk_lt 9 t (fun _ => q) (fun z => by omega)
    | succ N ih =>
      intro t a ht h1 q
      unfold orL at q
      have hbt := hb (702 + 18 * t)
      refine pk_lt 9 t (fun z => by omega) (fun _ => x_isOf hR h1 (by omega) (pk_eq (F (702 + 18 * t)) s (fun z x hx y hy => ?_) (fun z y hy => ?_)))
      · rw [if_pos (by unfold isE; simp; exact z)] at q
        rw [hy, nI_1, hx]; exact ih (t + 1) _ (by omega) (by omega) q
      · rw [if_neg (by unfold isE; simp; exact z)] at q
        rw [hy, nI_1]; exact ih (t + 1) _ (by omega) (by omega) q
  exact ⟨10, go 9 1 0 (by omega) (by omega) q⟩
end
