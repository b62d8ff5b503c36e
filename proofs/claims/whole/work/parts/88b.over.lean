/-! ===== a checkpoint ended: both sides ===== -/
section
variable {m : S11} {n : Nat → Int32} {pn : Int32} {F F2 : Nat → Nat} {G G2 : Nat → Int32} {b b2 : Nat → Nat} {e f k e2 f2 : Nat} {w : S9} {P : S3} {R : S5} {Sp : Nat → Prop} {T : Nat → Nat × Nat} {c : Nat → Nat}
theorem isR_lay (h : isR n F G b e f) (ds : List Nat) : isR (layL n e ds) F G b e f := by
  refine ⟨isM_lay h.1 ds, fun j hj => ?_, fun j hj => ?_, ?_, h.2.2.2.2⟩
  · have := hj
    unfold nk at this
    rw [layL_lt (by omega)]; exact h.2.1 j hj
  · have := hj
    unfold gk at this
    rw [layL_lt (by omega)]; exact h.2.2.1 j hj
  · rw [layL_lt (by omega)]; exact h.2.2.2.1
def isB (F : Nat → Nat) (t : Nat) : Bool := decide (F (702 + 18 * t) ≠ 0)
def isE (F : Nat → Nat) (s t : Nat) : Bool := decide (F (702 + 18 * t) = s)
theorem w_ata (h : RO R F) (hb : ∀ i, F i < 65536) {s : Nat} (hs : s < 65536) {Q : Int32 → Prop} (q : Q (orL (isE F s) 9 1 0)) : wp_X5_allThatAre R (nI s) Q := by
  have go : ∀ N t a, N + t = 10 → 1 ≤ t → Q (orL (isE F s) N t a) → wp_X5_allThatAre_4 R Q (N + 1) (nI s) a (nI t) := by
    intro N
    induction N with
    | zero =>
      intro t a ht _ q
      exact pk_lt 9 t (fun _ => q) (fun z => by omega)
    | succ N ih =>
      intro t a ht h1 q
      have hbt := hb (702 + 18 * t)
      refine pk_lt 9 t (fun z => by omega) (fun _ => ⟨ivp (by omega) (by omega), ?_⟩)
      rw [nI_clamp (by omega), (h t h1 (by omega)).1]
      unfold orL at q
      refine pk_eq (F (702 + 18 * t)) s (fun z => ?_) (fun z => ?_)
      · rw [if_pos (by unfold isE; exact decide_eq_true z)] at q
        intro y hy y2 hy2
        rw [hy, hy2, nI_1]
        exact ih (t + 1) _ (by omega) (by omega) q
      · rw [if_neg (by unfold isE; simp; exact z)] at q
        intro y2 hy2
        rw [hy2, nI_1]
        exact ih (t + 1) _ (by omega) (by omega) q
  exact ⟨10, go 9 1 0 (by omega) (by omega) q⟩
theorem x_txMany (h : isR n F G b e f) (hb : ∀ i, F i < 65536) {Q : Int32 → Prop} (q : Q (nI (cnt (isB F) 9 1))) : wp_X11_txMany (mS m n pn) Q := by
  have go : ∀ N t a, N + t = 10 → 1 ≤ t → Q (nI (a + cnt (isB F) N t)) → wp_X11_txMany_4 (mS m n pn) Q (N + 1) (nI a) (nI t) := by
    intro N
    induction N with
    | zero =>
      intro t a ht _ q
      exact pk_lt 9 t (fun _ => q) (fun z => by omega)
    | succ N ih =>
      intro t a ht h1 q
      have hbt := hb (702 + 18 * t)
      unfold cnt at q
      refine pk_lt 9 t (fun z => by omega) (fun _ => x_isOf h h1 (by omega) (pk_le (F (702 + 18 * t)) 0 (fun z => ?_) (fun z => ?_)))
      · rw [if_neg (by unfold isB; simp; omega), Nat.zero_add] at q
        intro y2 hy2
        rw [hy2, nI_1]
        exact ih (t + 1) _ (by omega) (by omega) q
      · rw [if_pos (by unfold isB; simp; omega), ← Nat.add_assoc] at q
        intro y hy y2 hy2
        rw [hy, hy2, nI_1, nI_1]
        exact ih (t + 1) _ (by omega) (by omega) q
  exact ⟨10, go 9 1 0 (by omega) (by omega) (by rw [Nat.zero_add]; exact q)⟩
theorem w_uncleanCount (h : RP P F G) (hb : ∀ i, F i < 65536) {Q : Int32 → Prop} (q : Q (nI (cnt (unB F) 8 0))) : wp_X3_uncleanCount P Q := by
  have go : ∀ N t a, N + t = 8 → Q (nI (a + cnt (unB F) N t)) → wp_X3_uncleanCount_4 P Q (N + 1) (nI a) (nI t) := by
    intro N
    induction N with
    | zero =>
      intro t a ht q
      exact pk_le 8 t (fun _ => q) (fun z => by omega)
    | succ N ih =>
      intro t a ht q
      have hbt := hb (562 + 20 * t)
      unfold cnt at q
      refine pk_le 8 t (fun z => by omega) (fun _ => ⟨ivp (by omega) (by omega), ?_⟩)
      rw [nI_clamp (by omega), h.2.2.2.2.2.2.2.2.1 t (by omega)]
      refine pk_eq (F (562 + 20 * t)) 0 (fun z => ?_) (fun z => ?_)
      · rw [if_neg (by unfold unB; simp; omega), Nat.zero_add] at q
        intro y2 hy2
        rw [hy2, nI_1]
        exact ih (t + 1) _ (by omega) q
      · rw [if_pos (by unfold unB; simp; omega), ← Nat.add_assoc] at q
        intro y hy y2 hy2
        rw [hy, hy2, nI_1, nI_1]
        exact ih (t + 1) _ (by omega) q
  exact ⟨9, go 8 0 0 (by omega) (by rw [Nat.zero_add]; exact q)⟩
theorem x_uncleanMany (h : isR n F G b e f) (hI : IFr F Sp) (hb : ∀ i, F i < 65536) {Q : Int32 → Prop} (q : Q (nI (cnt (unB F) 8 0))) : wp_X11_uncleanMany (mS m n pn) Q := by
  have h8 := hI.1.2
  have e8 : cnt (unB F) 8 0 = cnt (unB F) (F 5) 0 := by
    have := cnt_app (unB F) (F 5) (8 - F 5) 0
    rw [show F 5 + (8 - F 5) = 8 by omega, cnt_0 (unB F) (8 - F 5) (0 + F 5)] at this
    · omega
    · intro i h1 h2
      unfold unB
      refine decide_eq_false fun z => ?_
      exact (hI.2.2.1 i (by omega) z).1 ((hI.2.1 i (by omega)).2 (by omega))
  rw [e8] at q
  have go : ∀ N t a, N + t = F 5 → Q (nI (a + cnt (unB F) N t)) → wp_X11_uncleanMany_4 (mS m n pn) Q (N + 1) (nI a) (nI t) := by
    intro N
    induction N with
    | zero =>
      intro t a ht q
      exact x_frameMany h (pk_le (F 5) t (fun _ => q) (fun z => by omega))
    | succ N ih =>
      intro t a ht q
      have hb0 := hb (560 + 20 * t)
      have hb2 := hb (562 + 20 * t)
      unfold cnt at q
      refine x_frameMany h (pk_le (F 5) t (fun z => by omega) (fun _ => ?_))
      have e2 : (560 : Int32) + 20 * nI t + 2 = nI (562 + 20 * t) := by rw [frAt]; show nI _ + nI 2 = _; rw [nI_add]; congr 1; omega
      simp only [wp_X11_frameAt]
      rw [frAt0, e2, nI_clamp (by omega), nI_clamp (by omega), gmS, h.2.1 _ (show nk (560 + 20 * t) by unfold nk; omega), h.2.1 _ (show nk (562 + 20 * t) by unfold nk; omega)]
      have skip : F (562 + 20 * t) = 0 → wp_X11_uncleanMany_46 (mS m n pn) (fun x1 x2 => wp_X11_uncleanMany_4 (mS m n pn) Q (N + 1) x1 x2) Q (nI a) (nI t) := fun z => by
        rw [if_neg (by unfold unB; simp; omega), Nat.zero_add] at q
        intro y2 hy2
        rw [hy2, nI_1]
        exact ih (t + 1) _ (by omega) q
      refine ⟨ivp (by omega) (by omega), pk_le (F (560 + 20 * t)) 0 (fun z => skip ?_) (fun z => ⟨ivp (by omega) (by omega), pk_le (F (562 + 20 * t)) 0 (fun z2 => skip (by omega)) (fun z2 => ?_)⟩)⟩
      · by_cases d : F (562 + 20 * t) = 0
        · exact d
        · exact absurd (by omega) (hI.2.2.1 t (by omega) d).1
      · rw [if_pos (by unfold unB; simp; omega), ← Nat.add_assoc] at q
        intro y hy y2 hy2
        rw [hy, hy2, nI_1, nI_1]
        exact ih (t + 1) _ (by omega) q
  exact ⟨F 5 + 1, go (F 5) 0 0 (by omega) (by rw [Nat.zero_add]; exact q)⟩
def txf (F : Nat → Nat) (t : Nat) : List Nat := [t, F (702 + 18 * t), F (703 + 18 * t) / 256, F (703 + 18 * t) % 256]
def pgf (F : Nat → Nat) (p : Nat) : List Nat := [p, F (562 + 20 * fo F p) / 256, F (562 + 20 * fo F p) % 256]
theorem cat_4 {ds : List Nat} (x : Nat) (l : List Nat) (h : cat (txf F) (x :: l) = txf F x ++ cat (txf F) l) : True := trivial
theorem w_ovt (hR : RO (g9_roster w) F) (hb : ∀ i, F i < 65536) (h2 : ∀ t, 1 ≤ t → t ≤ 9 → F (702 + 18 * t) ≤ 2) {Q : Int32 → S9 → Prop} : ∀ N t ds J, N + t = 10 → 1 ≤ t → isPn J b e f ds → e + ds.length + 4 * N < 8600 →
    (∀ J2, isPn J2 b e f (ds ++ cat (txf F) (selL (isB F) N t)) → wp_X3_uncleanCount (g9_pages w) (fun r => wp_X2_put J2 r (fun v => ∀ u : S9, u = s9_journal w v → ∃ n2, wp_X9_checkEnds_145 Q n2 0 u))) → wp_X9_checkEnds_65 Q (N + 1) (nI t) (s9_journal w J) := by
  intro N
  induction N with
  | zero =>
    intro t ds J ht h1 hJ hl q
    have : cat (txf F) (selL (isB F) 0 t) = [] := rfl
    rw [this, List.append_nil] at q
    exact pk_lt 9 t (fun _ => q J hJ) (fun z => by omega)
  | succ N ih =>
    intro t ds J ht h1 hJ hl q
    have hb0 := hb (702 + 18 * t)
    have hb1 := hb (703 + 18 * t)
    have h22 := h2 t h1 (by omega)
    refine pk_lt 9 t (fun z => by omega) (fun _ => ⟨ivp (by omega) (by omega), ?_⟩)
    rw [nI_clamp (by omega)]
    show (g5_is (g9_roster w) t = 0 → _) ∧ (¬ g5_is (g9_roster w) t = 0 → _)
    rw [(hR t h1 (by omega)).1]
    unfold selL at q
    refine pk_eq (F (702 + 18 * t)) 0 (fun z => ?_) (fun z => ?_)
    · rw [if_neg (by unfold isB; simp; omega)] at q
      intro y hy
      rw [hy, nI_1]
      exact ih (t + 1) ds J (by omega) (by omega) hJ (by omega) q
    · rw [if_pos (by unfold isB; simp; omega)] at q
      refine w_put (d := t) hJ (by omega) (by rw [a255 (by omega), Nat.mod_eq_of_lt (by omega)]) fun J1 hJ1 w1 hw1 => ?_
      rw [hw1]
      refine ⟨ivp (by omega) (by omega), ?_⟩
      show wp_X2_put J1 (g5_is (g9_roster w) t) _
      rw [(hR t h1 (by omega)).1]
      refine w_put (d := F (702 + 18 * t)) hJ1 (by simp; omega) (by rw [a255 (by omega), Nat.mod_eq_of_lt (by omega)]) fun J2 hJ2 w2 hw2 => ?_
      rw [hw2]
      refine ⟨ivp (by omega) (by omega), ?_⟩
      show wp_X2_putPair J2 (g5_last (g9_roster w) t) _
      rw [(hR t h1 (by omega)).2.1]
      refine w_putPair hJ2 (by simp; omega) hb1 fun J3 hJ3 w3 hw3 y hy => ?_
      rw [hw3, hy, nI_1]
      have e1 : ds ++ [t] ++ [F (702 + 18 * t)] ++ [F (703 + 18 * t) / 256, F (703 + 18 * t) % 256] = ds ++ txf F t := by simp [txf]
      rw [e1] at hJ3
      refine ih (t + 1) _ J3 (by omega) (by omega) hJ3 (by simp [txf]; omega) fun J4 hJ4 => q J4 ?_
      rw [List.append_assoc] at hJ4
      exact hJ4
theorem w_ovp (hP : RP (g9_pages w) F G) (hb : ∀ i, F i < 65536) (h8 : F 5 ≤ 8) {Q : Int32 → S9 → Prop} : ∀ N p ds J, N + p = 16 → isPn J b e f ds → e + ds.length + 3 * N < 8600 →
    (∀ J2, isPn J2 b e f (ds ++ cat (pgf F) (selL (pgB F) N p)) → wp_X2_seal J2 (fun r_2 v_3 => ∀ u0_4 : S9, u0_4 = s9_journal w v_3 → (wp_X2_flushThrough (g9_journal u0_4) r_2 (fun v_5 => ∀ u0_6 : S9, u0_6 = s9_journal u0_4 v_5 → (∀ u0_7 : S9, u0_7 = s9_master u0_6 (g9_openCheck u0_6) → (∀ u0_8 : S9, u0_8 = s9_openCheck u0_7 0 → (Q 1 u0_8))))))) → wp_X9_checkEnds_145 Q (N + 1) (nI p) (s9_journal w J) := by
  intro N
  induction N with
  | zero =>
    intro p ds J hp hJ hl q
    have : cat (pgf F) (selL (pgB F) 0 p) = [] := rfl
    rw [this, List.append_nil] at q
    exact pk_le 16 p (fun _ => q J hJ) (fun z => by omega)
  | succ N ih =>
    intro p ds J hp hJ hl q
    unfold selL at q
    have skip : pgB F p = false → wp_X9_checkEnds_200 (fun x2 u0 => wp_X9_checkEnds_145 Q (N + 1) x2 u0) Q (nI p) (s9_journal w J) := fun z => by
      rw [if_neg (by rw [z]; simp)] at q
      intro y hy
      rw [hy, nI_1]
      exact ih (p + 1) ds J (by omega) hJ (by omega) q
    refine pk_le 16 p (fun z => by omega) (fun _ => w_frameOf (P := g9_pages w) hP h8 (by omega) hb ?_)
    rcases foI_cases F p h8 with ⟨e1, c1⟩ | ⟨e1, c1⟩
    · rw [e1]
      exact ⟨fun _ => skip (by unfold pgB; exact decide_eq_false fun z => c1 z.1), fun z => absurd (show (-1 : Int32) < 0 by decide) z⟩
    · rw [e1]
      have hb2 := hb (562 + 20 * fo F p)
      refine ⟨fun z => absurd z (nI_pos (by omega)), fun _ => ⟨ivp (by omega) (by omega), ?_⟩⟩
      rw [nI_clamp (by omega)]
      show (g3_recs (g9_pages w) (fo F p) = 0 → _) ∧ (¬ g3_recs (g9_pages w) (fo F p) = 0 → _)
      rw [hP.2.2.2.2.2.2.2.2.1 _ (by omega)]
      refine pk_eq (F (562 + 20 * fo F p)) 0 (fun z => skip (by unfold pgB; exact decide_eq_false fun y => y.2 z)) (fun z => ?_)
      rw [if_pos (show pgB F p = true by unfold pgB; exact decide_eq_true ⟨c1, z⟩)] at q
      refine w_put (d := p) hJ (by omega) (by rw [a255 (by omega), Nat.mod_eq_of_lt (by omega)]) fun J1 hJ1 w1 hw1 => ?_
      rw [hw1]
      refine ⟨ivp (by omega) (by omega), ?_⟩
      show wp_X2_putPair J1 (g3_recs (g9_pages w) (fo F p)) _
      rw [hP.2.2.2.2.2.2.2.2.1 _ (by omega)]
      refine w_putPair hJ1 (by simp; omega) hb2 fun J3 hJ3 w3 hw3 y hy => ?_
      rw [hw3, hy, nI_1]
      have e1 : ds ++ [p] ++ [F (562 + 20 * fo F p) / 256, F (562 + 20 * fo F p) % 256] = ds ++ pgf F p := by simp [pgf]
      rw [e1] at hJ3
      refine ih (p + 1) _ J3 (by omega) hJ3 (by simp [pgf]; omega) fun J4 hJ4 => q J4 ?_
      rw [List.append_assoc] at hJ4
      exact hJ4
theorem x_ovt (h : isR n F G b e f) (hb : ∀ i, F i < 65536) {Q : Int32 → S11 → Prop} : ∀ N t ds, N + t = 10 → 1 ≤ t → e + ds.length + 4 * N < 8600 →
    (wp_X11_uncleanMany (mS m (layL n e (ds ++ cat (txf F) (selL (isB F) N t))) (nI (e + (ds ++ cat (txf F) (selL (isB F) N t)).length))) (fun r => wp_X11_lays (mS m (layL n e (ds ++ cat (txf F) (selL (isB F) N t))) (nI (e + (ds ++ cat (txf F) (selL (isB F) N t)).length))) r (fun v => ∃ n2, wp_X11_overs_114 Q n2 0 v))) → wp_X11_overs_51 Q (N + 1) (nI t) (mS m (layL n e ds) (nI (e + ds.length))) := by
  intro N
  induction N with
  | zero =>
    intro t ds ht h1 hl q
    have : cat (txf F) (selL (isB F) 0 t) = [] := rfl
    rw [this, List.append_nil] at q
    exact pk_lt 9 t (fun _ => q) (fun z => by omega)
  | succ N ih =>
    intro t ds ht h1 hl q
    have hb0 := hb (702 + 18 * t)
    have hb1 := hb (703 + 18 * t)
    unfold selL at q
    refine pk_lt 9 t (fun z => by omega) (fun _ => x_isOf (isR_lay h ds) h1 (by omega) (pk_eq (F (702 + 18 * t)) 0 (fun z => ?_) (fun z => ?_)))
    · rw [if_neg (by unfold isB; simp; omega)] at q
      intro y hy
      rw [hy, nI_1]
      exact ih (t + 1) ds (by omega) (by omega) (by omega) q
    · rw [if_pos (by unfold isB; simp; omega)] at q
      refine x_layL (d := t) (by omega) (x_isOf (isR_lay h _) h1 (by omega) (x_layL (by simp; omega) ?_))
      simp only [wp_X11_txAt]
      have e1 : (720 : Int32) + 18 * (nI t - 1) + 1 = nI (703 + 18 * t) := by rw [show (720 : Int32) + 18 * (nI t - 1) + 1 = nI (702 + 18 * t + 1) from txA t h1 1]; congr 1; omega
      rw [e1, nI_clamp (by omega), gmS, (isR_lay h _).2.1 _ (show nk (703 + 18 * t) by unfold nk; omega)]
      refine ⟨ivp (by omega) (by omega), ?_⟩
      unfold wp_X11_laysTwo
      rw [div256 (by omega), show nI (F (703 + 18 * t)) - nI (F (703 + 18 * t) / 256) * 256 = nI (F (703 + 18 * t) % 256) from by rw [← div256 (by omega)]; exact rem256 (by omega)]
      refine x_layL (by simp; omega) (x_layL (by simp; omega) ?_)
      intro y hy
      rw [hy, nI_1]
      have e2 : ds ++ [t] ++ [F (702 + 18 * t)] ++ [F (703 + 18 * t) / 256] ++ [F (703 + 18 * t) % 256] = ds ++ txf F t := by simp [txf]
      rw [e2]
      refine ih (t + 1) _ (by omega) (by omega) (by simp [txf]; omega) ?_
      rw [List.append_assoc]
      exact q
theorem x_ovp (h : isR n F G b e f) (hb : ∀ i, F i < 65536) (h8 : F 5 ≤ 8) {Q : Int32 → S11 → Prop} : ∀ N p ds, N + p = 16 → e + ds.length + 3 * N < 8600 →
    (wp_X11_closes (mS m (layL n e (ds ++ cat (pgf F) (selL (pgB F) N p))) (nI (e + (ds ++ cat (pgf F) (selL (pgB F) N p)).length))) 0 (fun r_2 v_3 => wp_X11_flushesThrough v_3 r_2 (fun v_4 => vp_in (4 : Int32) 10700 ∧ (vp_in (2 : Int32) 10700 ∧ ∀ u0_5 : S11, u0_5 = s11_now v_4 (upd (g11_now v_4) (2 : Int32).toNatClampNeg ((g11_now v_4) (4 : Int32).toNatClampNeg)) → (vp_in (4 : Int32) 10700 ∧ ∀ u0_6 : S11, u0_6 = s11_now u0_5 (upd (g11_now u0_5) (4 : Int32).toNatClampNeg 0) → (Q 1 u0_6)))))) → wp_X11_overs_114 Q (N + 1) (nI p) (mS m (layL n e ds) (nI (e + ds.length))) := by
  intro N
  induction N with
  | zero =>
    intro p ds hp hl q
    have : cat (pgf F) (selL (pgB F) 0 p) = [] := rfl
    rw [this, List.append_nil] at q
    exact pk_le 16 p (fun _ => q) (fun z => by omega)
  | succ N ih =>
    intro p ds hp hl q
    unfold selL at q
    have skip : pgB F p = false → wp_X11_overs_170 (fun x1 u0 => wp_X11_overs_114 Q (N + 1) x1 u0) Q (nI p) (mS m (layL n e ds) (nI (e + ds.length))) := fun z => by
      rw [if_neg (by rw [z]; simp)] at q
      intro y hy
      rw [hy, nI_1]
      exact ih (p + 1) ds (by omega) (by omega) q
    refine pk_le 16 p (fun z => by omega) (fun _ => x_frameOf (isR_lay h ds) h8 (by omega) hb ?_)
    rcases foI_cases F p h8 with ⟨e1, c1⟩ | ⟨e1, c1⟩
    · rw [e1]
      exact ⟨fun _ => skip (by unfold pgB; exact decide_eq_false fun z => c1 z.1), fun z => absurd rfl z⟩
    · rw [e1]
      have hb2 := hb (562 + 20 * fo F p)
      refine ⟨fun z => absurd z (nI_m1 (by omega)), fun _ => ?_⟩
      have e2 : (560 : Int32) + 20 * nI (fo F p) + 2 = nI (562 + 20 * fo F p) := by rw [frAt]; show nI _ + nI 2 = _; rw [nI_add]; congr 1; omega
      simp only [wp_X11_frameAt]
      rw [e2, nI_clamp (by omega), gmS, (isR_lay h ds).2.1 _ (show nk (562 + 20 * fo F p) by unfold nk; omega)]
      refine ⟨ivp (by omega) (by omega), pk_eq (F (562 + 20 * fo F p)) 0 (fun z => skip (by unfold pgB; exact decide_eq_false fun y => y.2 z)) (fun z => ?_)⟩
      rw [if_pos (show pgB F p = true by unfold pgB; exact decide_eq_true ⟨c1, z⟩)] at q
      refine x_layL (d := p) (by omega) ?_
      rw [gmS, (isR_lay h _).2.1 _ (show nk (562 + 20 * fo F p) by unfold nk; omega)]
      refine ⟨ivp (by omega) (by omega), ?_⟩
      unfold wp_X11_laysTwo
      rw [div256 (by omega), show nI (F (562 + 20 * fo F p)) - nI (F (562 + 20 * fo F p) / 256) * 256 = nI (F (562 + 20 * fo F p) % 256) from by rw [← div256 (by omega)]; exact rem256 (by omega)]
      refine x_layL (by simp; omega) (x_layL (by simp; omega) ?_)
      intro y hy
      rw [hy, nI_1]
      have e2 : ds ++ [p] ++ [F (562 + 20 * fo F p) / 256] ++ [F (562 + 20 * fo F p) % 256] = ds ++ pgf F p := by simp [pgf]
      rw [e2]
      refine ih (p + 1) _ (by omega) (by simp [pgf]; omega) ?_
      rw [List.append_assoc]
      exact q
end
