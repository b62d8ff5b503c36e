/-! ===== recovery: the end of the analysis ===== -/
section
variable {m : S11} {n : Nat → Int32} {pn : Int32} {F F2 : Nat → Nat} {G G2 : Nat → Int32} {b b2 : Nat → Nat} {e f k e2 f2 : Nat} {w : S9} {P : S3} {C : S0} {R : S5} {J : S2} {U : Nat → Nat}
def curF (F : Nat → Nat) : Nat → Nat := fun j => if 722 ≤ j ∧ j < 882 ∧ (j - 704) % 18 = 0 then F (j - 1) else F j
theorem curF_c {t : Nat} (h1 : 1 ≤ t) (h9 : t ≤ 9) : curF F (704 + 18 * t) = F (703 + 18 * t) := by
  unfold curF; rw [if_pos ⟨by omega, by omega, by omega⟩]; congr 1; omega
theorem curF_n {j : Nat} (h : ∀ t, 1 ≤ t → t ≤ 9 → j ≠ 704 + 18 * t) : curF F j = F j := by
  unfold curF
  rw [if_neg]
  rintro ⟨a, b, c⟩
  exact h ((j - 704) / 18) (by omega) (by omega) (by omega)
/-- the class with another roster -/
theorem CW_ro (hC : CW w F G b e f) {R2 : S5} (hR : RO R2 F2) (ho : ∀ j, (∀ t, 1 ≤ t → t ≤ 9 → j ≠ 704 + 18 * t) → F2 j = F j) : CW (s9_roster w R2) F2 G b e f := by
  have hx : txo F2 F := fun j hj => ho j fun t _ _ => by omega
  refine CW_mk hC hx (fun _ _ => rfl) hC.1 hR (RC_o hC.2.2.2.1 fun u j u1 u9 j1 j2 => ho _ fun t _ _ => by omega)
def anE (b : Nat → Nat) (k : Nat) (F : Nat → Nat) : Nat → Nat := updN F 11 (min (F 11) (wlk b k - 8))
def lsI (F : Nat → Nat) : Int32 := orL (fun t => isE F 1 t || isE F 2 t) 9 1 0
def an4 (r : S4) (F : Nat → Nat) : S4 := if g4_analysed r = 0 then s4_analysed (s4_losers r (lsI F)) 1 else r
theorem isJ_tr (h : isJ J b e f) {e' : Nat} (hle : e' ≤ e) : isJ (s2_flushedPlace (s2_endPlace J (nI e')) (nI e')) (trB b e') e' e' := by
  obtain ⟨a1, a2, a3, a4, a5, a6⟩ := h
  refine ⟨rfl, rfl, by omega, fun i hi => ?_, fun i => ?_, fun i hi => ?_⟩
  · unfold trB; rw [if_pos hi]; exact a4 i (by omega)
  · unfold trB
    split
    · exact a5 i
    · omega
  · unfold trB; rw [if_neg (by omega)]
theorem w_an_end (hC : CW w F G b e e) (hL : LogOK b e k) (hb : ∀ i, F i < 65536) {r : S4} {Q : S4 → S9 → Prop} (q : ∀ w2, CW w2 (curF (anE b k F)) G (trB b (wlk b k)) (wlk b k) (wlk b k) → g9_script w2 = g9_script w → Q (an4 r F) w2) : wp_X4_analyse_105 Q (nI (wlk b k)) r w := by
  obtain ⟨cJ, cP, cR, cC, cS, cu, cm, co, cr, cc⟩ := hC
  have hle := hL.1.1
  have hE := cJ.2.2.1
  have h8 := wlk_8 (b := b) k
  have h11 := hb 11
  intro J1 hJ1 J2 hJ2 w1 hw1 w2 hw2
  have hJ : isJ J2 (trB b (wlk b k)) (wlk b k) (wlk b k) := by rw [hJ2, hJ1]; exact isJ_tr cJ hle
  have eo : ∀ j, j ≠ 11 → anE b k F j = F j := fun j hj => by unfold anE; rw [uNn hj]
  have cS2 : RS (g9_standby w2) (anE b k F) := by
    obtain ⟨s1, s2, s3, s4⟩ := cS
    rw [hw2, hw1]
    refine ⟨fun a ha => by rw [eo _ (by omega)]; exact s1 a ha, fun p hp => by rw [eo _ (by omega)]; exact s2 p hp, ?_, by rw [eo _ (by omega)]; exact s4⟩
    show (if nI (wlk b k) < g7_received (g9_standby w) then nI (wlk b k) else g7_received (g9_standby w)) = _
    rw [s3]
    unfold anE
    rw [uNs]
    by_cases c : wlk b k < F 11 + 8
    · rw [if_pos (nI_lt c (by omega))]; congr 1; omega
    · rw [if_neg (fun z => c ((nI_ltI (by omega) (by omega)).mp z))]; congr 1; omega
  have hC2 : CW w2 (anE b k F) G (trB b (wlk b k)) (wlk b k) (wlk b k) := by
    refine ⟨by rw [hw2, hw1]; exact hJ, ?_, ?_, ?_, cS2, ?_, ?_, ?_, ?_, ?_⟩
    · rw [hw2, hw1]; exact RP_c cP (fun j hj => eo j (by omega)) (fun _ _ => rfl)
    · rw [hw2, hw1]; exact RO_c cR fun j j1 j2 => eo j (by omega)
    · rw [hw2, hw1]; exact RC_c cC (fun j j1 j2 => eo j (by omega)) (fun _ _ _ => rfl)
    · rw [eo 3 (by omega), hw2, hw1]; exact cu
    · rw [eo 2 (by omega), hw2, hw1]; exact cm
    · rw [eo 4 (by omega), hw2, hw1]; exact co
    · rw [hw2, hw1]; exact cr
    · rw [hw2, hw1]; exact cc
  have hR2 : RO (g9_roster w2) F := by rw [hw2, hw1]; exact cR
  refine ⟨by decide, fun R2 hR2' w3 hw3 => ?_⟩
  have hRc : RO R2 (curF (anE b k F)) := by
    intro t h1 h9
    obtain ⟨r1, r2, r3⟩ := hC2.2.2.1 t h1 h9
    rw [curF_c h1 h9, curF_n (j := 702 + 18 * t) (fun u _ _ => by omega), curF_n (j := 703 + 18 * t) (fun u _ _ => by omega), hR2']
    refine ⟨r1, r2, ?_⟩
    show (if 0 ≤ t ∧ t < 0 + 10 then g5_last (g9_roster w2) (0 + (t - 0)) else g5_cursor (g9_roster w2) t) = _
    rw [if_pos (by omega), Nat.zero_add, Nat.sub_zero]; exact r2
  have hC3 : CW w3 (curF (anE b k F)) G (trB b (wlk b k)) (wlk b k) (wlk b k) := by
    rw [hw3]
    exact CW_ro hC2 hRc fun j hj => curF_n hj
  have h9 : g9_script w3 = g9_script w := by rw [hw3, hw2, hw1]
  have fin := q w3 hC3 h9
  have hRF : RO (g9_roster w3) (curF F) := by
    rw [hw3]
    refine RO_c hRc fun j j1 j2 => ?_
    unfold curF
    split
    · exact (eo _ (by omega)).symm
    · exact (eo _ (by omega)).symm
  have hbc : ∀ i, curF F i < 65536 := fun i => by unfold curF; split; exact hb _; exact hb _
  have el : orL (isE (curF F) 1) 9 1 0 ||| orL (isE (curF F) 2) 9 1 0 = lsI F := by
    rw [orL_or]
    unfold lsI
    rw [show (0 : Int32) ||| 0 = 0 by decide]
    refine orL_c 9 1 0 fun i i1 i2 => ?_
    unfold isE
    rw [curF_n (j := 702 + 18 * i) (fun u _ _ => by omega)]
  unfold an4 at fin
  refine ⟨fun z => w_ata hRF hbc (s := 1) (by omega) (w_ata hRF hbc (s := 2) (by omega) fun r1 hr1 r2 hr2 => ?_), fun z => ?_⟩
  · rw [if_pos z] at fin
    rw [hr2, hr1, el]; exact fin
  · rw [if_neg z] at fin; exact fin
theorem x_an_end (hR : isR n F G b e e) (hL : LogOK b e k) (hb : ∀ i, F i < 65536) {Q : S11 → Prop} (q : ∀ n2, isR n2 (anE b k F) G (trB b (wlk b k)) (wlk b k) (wlk b k) → Q (mS (s11_losers m (lsI F)) n2 pn)) : wp_X11_analysis_42 Q 1 (nI (wlk b k)) (mS m n pn) := by
  have hle := hL.1.1
  have h8 := wlk_8 (b := b) k
  have hE := hR.1.2.2.2.2.1
  have h11 := hb 11
  refine x_wh (m := mS m n pn) hR.1 hL (Nat.le_refl _) ?_
  rw [if_neg (by omega)]
  have e1 : nI (wlk b k) - 8 = nI (wlk b k - 8) := pk_sub (b := 8) (by omega)
  refine ⟨fun _ => ⟨ivp (k := 0) (by omega) (by omega), fun v hv => ⟨ivp (k := 1) (by omega) (by omega), fun v2 hv2 => ⟨ivp (k := 11) (by omega) (by omega), ivp (k := 0) (by omega) (by omega), ?_⟩⟩⟩, fun z => absurd rfl z⟩
  rw [hv, e1] at hv2
  have r2 := isR_tr hR h8 hle
  have hv3 : v2 = mS m (upd (upd n 0 (nI (wlk b k - 8))) 1 (nI (wlk b k - 8))) pn := hv2
  rw [hv3]
  generalize upd (upd n 0 (nI (wlk b k - 8))) 1 (nI (wlk b k - 8)) = n2 at *
  have lop : ∀ L n3, isR n3 (anE b k F) G (trB b (wlk b k)) (wlk b k) (wlk b k) → ∃ N, wp_X11_analysis_109 Q N 1 (mS (s11_losers m 0) n3 pn) ∨ L = False := by
    intro L n3 h3
    have eo : ∀ j, j ≠ 11 → anE b k F j = F j := fun j hj => by unfold anE; rw [uNn hj]
    have go : ∀ N t a, N + t = 10 → 1 ≤ t → orL (fun t => isE F 1 t || isE F 2 t) N t a = lsI F → wp_X11_analysis_109 Q (N + 1) (nI t) (mS (s11_losers m a) n3 pn) := by
      intro N
      induction N with
      | zero =>
        intro t a ht _ hq
        refine pk_lt 9 t (fun _ => ?_) (fun z => by omega)
        have : a = lsI F := hq
        rw [this]; exact q n3 h3
      | succ N ih =>
        intro t a ht h1 hq
        have hbt := hb (702 + 18 * t)
        unfold orL at hq
        have hF : anE b k F (702 + 18 * t) = F (702 + 18 * t) := eo _ (by omega)
        have nx : ∀ a2, orL (fun t => isE F 1 t || isE F 2 t) N (t + 1) a2 = lsI F → wp_X11_analysis_141 (fun x2 u0 => wp_X11_analysis_109 Q (N + 1) x2 u0) Q (nI t) (mS (s11_losers m a2) n3 pn) := fun a2 ha2 y hy => by
          rw [hy, nI_1]; exact ih (t + 1) a2 (by omega) (by omega) ha2
        refine pk_lt 9 t (fun z => by omega) (fun _ => x_isOf h3 h1 (by omega) (x_isIn (lo := 1) (hi := 2) (by omega) (by omega) (by omega) ?_))
        rw [hF]
        by_cases c : 1 ≤ F (702 + 18 * t) ∧ F (702 + 18 * t) ≤ 2
        · rw [decide_eq_true c]
          refine ⟨fun z => absurd z (by decide), fun _ v hv => ?_⟩
          rw [if_pos (by unfold isE; simp; omega)] at hq
          rw [hv]
          exact nx _ hq
        · rw [decide_eq_false c]
          refine ⟨fun _ => nx a ?_, fun z => absurd rfl z⟩
          rw [if_neg (by unfold isE; simp; omega)] at hq
          exact hq
    exact ⟨10, Or.inl (go 9 1 0 (by omega) (by omega) rfl)⟩
  have fin : ∀ x : Int32, x = nI (min (F 11) (wlk b k - 8)) → vp_in (11 : Int32) 10700 ∧ ∀ u0_9 : S11, u0_9 = s11_now (mS m n2 pn) (upd (g11_now (mS m n2 pn)) (11 : Int32).toNatClampNeg x) → (∀ u0_10 : S11, u0_10 = s11_losers u0_9 0 → (∃ n_11, wp_X11_analysis_109 Q n_11 1 u0_10)) := by
    intro x hx
    refine ⟨ivp (k := 11) (by omega) (by omega), fun v4 hv4 v5 hv5 => ?_⟩
    rw [hv5, hv4, hx]
    have r3 : isR (upd n2 11 (nI (min (F 11) (wlk b k - 8)))) (anE b k F) G (trB b (wlk b k)) (wlk b k) (wlk b k) := isR_wr r2 (by unfold nk; omega)
    obtain ⟨N, hN⟩ := lop True _ r3
    exact ⟨N, hN.resolve_right (by simp)⟩
  have g0 : g11_now (mS m n2 pn) (0 : Int32).toNatClampNeg = nI (wlk b k - 8) := r2.1.1
  have g11 : g11_now (mS m n2 pn) (11 : Int32).toNatClampNeg = nI (F 11) := r2.2.1 11 (by unfold nk; omega)
  unfold wp_X11_lesser
  rw [g0, g11]
  exact pk_le (wlk b k - 8) (F 11) (fun c => fin _ (by congr 1; omega)) (fun c => fin _ (by congr 1; omega))
end
