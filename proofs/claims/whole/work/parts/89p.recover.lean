/-! ===== recovery: one attempt, put together ===== -/
section
variable {m : S11} {n : Nat → Int32} {pn : Int32} {F F2 : Nat → Nat} {G G2 : Nat → Int32} {b b2 : Nat → Nat} {e f k e2 f2 c cp en : Nat} {w : S9} {P : S3} {C : S0} {R : S5} {J : S2} {U : Nat → Nat} {r : S4} {x2 : Int32}
theorem DN_of (hI : IV F G b e f k) (h3 : F 3 ≠ 0) : DN F G e f := hI.2.elim (fun z => absurd z.1 h3) id
theorem CW_3 (hC : CW w F G b e f) : CW (s9_up w 1) (updN F 3 0) G b e f := by
  obtain ⟨cJ, cP, cR, cC, cS, cu, cm, co, cr, cc⟩ := hC
  exact ⟨cJ, RP_c cP (fun j hj => uNn (by omega)) (fun _ _ => rfl), RO_c cR fun j j1 j2 => uNn (by omega), RC_c cC (fun j j1 j2 => uNn (by omega)) (fun _ _ _ => rfl), RS_c cS fun j hj => uNn (by omega), by rw [uNs]; rfl, by rw [uNn (by omega)]; exact cm, by rw [uNn (by omega)]; exact co, cr, cc⟩
theorem UI_up (h : UI F b e k c) (hz : ∀ u, 1 ≤ u → u ≤ 9 → F (702 + 18 * u) = 0) : IV (updN F 3 0) G b e e k := by
  obtain ⟨i1, i2, i3, i4, i5⟩ := h
  have o : ∀ j, j ≠ 3 → updN F 3 0 j = F j := fun j hj => uNn hj
  refine ⟨IB_c i1 (o 2 (by omega)) (o 4 (by omega)) (o 11 (by omega)) (o 12 (by omega)) (updN_b i1.1 (by omega)) (byA_c' i1.2.1 fun j hj => o j (by omega)) (IFr_c i1.2.2.1 (o 5 (by omega)) (fun j j1 j2 => o j (by omega)) fun _ hs => hs) (Nat.le_refl _) (Nat.le_refl _), Or.inl ⟨uNs, i2, fun t t1 t9 => ?_⟩⟩
  obtain ⟨a1, a2, a3⟩ := i5 t t1 t9
  obtain ⟨b1, b2, b3⟩ := a2 (hz t t1 t9)
  have b4 := (rp_Sz (b := b) k t).2.1 b1
  have z5 := a3 3 (by omega) (by omega)
  have z6 := a3 4 (by omega) (by omega)
  rw [show 702 + 18 * t + 3 = 705 + 18 * t by omega] at z5
  rw [show 702 + 18 * t + 4 = 706 + 18 * t by omega] at z6
  unfold UT
  rw [o _ (by omega), o (703 + 18 * t) (by omega), o (704 + 18 * t) (by omega), o (705 + 18 * t) (by omega), o (706 + 18 * t) (by omega), hz t t1 t9, b1, b2, b4, z5, z6]
  exact ⟨rfl, rfl, by omega, by omega, by omega, fun _ => rfl, fun z => by omega, fun i hi => by omega, fun i j hi hj => by omega⟩
theorem sum9_le (hb : ∀ i, F i < 65536) : sum9 (mzF F) < 900000 := by
  have hh : ∀ t, mzF F t ≤ 65536 := fun t => by
    unfold mzF
    have := hb (704 + 18 * t)
    split <;> omega
  unfold sum9
  have := hh 1; have := hh 2; have := hh 3; have := hh 4; have := hh 5; have := hh 6; have := hh 7; have := hh 8; have := hh 9
  omega
theorem nl_mono {u : S11} {Q Q2 : Int32 → Prop} (h : ∀ r, Q r → Q2 r) (hq : wp_X11_nextLoser u Q) : wp_X11_nextLoser u Q2 := by
  have go : ∀ N a t, wp_X11_nextLoser_4 u Q N a t → wp_X11_nextLoser_4 u Q2 N a t := by
    intro N
    induction N with
    | zero => intro a t z; exact z
    | succ N ih =>
      intro a t z
      refine ⟨fun c => h _ (z.1 c), fun c => ?_⟩
      have z2 := z.2 c
      simp only [wp_X11_isOf, wp_X11_txAt] at z2 ⊢
      refine ⟨z2.1, fun c1 y hy => ih _ _ (z2.2.1 c1 y hy), fun c1 => ⟨fun c2 y hy => ih _ _ ((z2.2.2 c1).1 c2 y hy), fun c2 => ?_⟩⟩
      obtain ⟨a1, a2, a3, a4⟩ := (z2.2.2 c1).2 c2
      exact ⟨a1, a2, fun c3 y hy => ih _ _ (a3 c3 y hy), fun c3 y hy => ih _ _ (a4 c3 y hy)⟩
  intro x hx
  obtain ⟨N, hN⟩ := hq x hx
  exact ⟨N, go N _ _ hN⟩
theorem unA_8 : ∀ M F G b e cp en k, UI F b e k (cp + en) → (∀ i, b i < 256) → (unA x2 M F G b e cp en).2.2.1 8 = G 8 := by
  intro M
  induction M with
  | zero => intro F G b e cp en k _ _; rfl
  | succ M ih =>
    intro F G b e cp en k h h5
    unfold unA
    rcases un_cases h with ⟨z, zz⟩ | ⟨t1, t9, ti, hc⟩
    · rw [if_pos z]
    · rw [if_neg (by omega)]
      generalize nlA F 9 1 0 = t at *
      rcases hc with hc | ⟨j, hj, hc⟩
      · rw [if_pos hc]
        by_cases cs : x2 = nI (cp + en)
        · rw [if_pos cs]
        · rw [if_neg cs]
          have hb := h.1.1 (703 + 18 * t)
          exact ih _ G _ _ cp (en + 1) (k + 1) (UI_gone h t1 t9 ti) (fun i => by
            unfold appB
            split
            · exact h5 i
            · exact plainR_lt (by omega) (by omega) hb _)
      · have h8 := wlk_8 (b := b) j
        rw [if_neg (by omega), hc]
        by_cases cu : vun (rv b (wlk b j)) = 1
        · rw [if_pos cu]
          by_cases cs : x2 = nI (cp + en)
          · rw [if_pos cs]
          · rw [if_neg cs]
            obtain ⟨g1, g2⟩ := UI_cmp (G := G) h h5 t1 t9 ti hj hc cu
            have g2' : UI (updN (cmpA (F, G, b, e, e) t (wlk b j)).1 (704 + 18 * t) (vnx (rv b (wlk b j)))) (appB b e (sealR (cmpL F b t (wlk b j)))) (e + 11) (k + 1) (cp + 1 + en) := by rw [show cp + 1 + en = cp + en + 1 by omega]; exact g2
            rw [ih _ (fetG F G (b (wlk b j + 5) / 16)) _ _ (cp + 1) en (k + 1) g2' (b52 h.1 t9 h5 hj cu)]
            exact fetG_out h.1.2.2.1 (by omega) (by omega)
        · rw [if_neg cu]
          exact ih _ G b e cp en k (UI_cur h t1 t9 ti hj hc) h5
theorem s_attempt (h : SW w n) (hd : g9_up w = 0) (hx : x2 = -1 ∨ ∃ L, L ≤ 99 ∧ x2 = nI L) {Q : Int32 → S4 → S9 → Prop} (q : ∀ cp en rd ls r2 w2, g9_script w2 = g9_script w → cp + en < 100000 → r4 r2 r cp en rd ls → (∀ K : S11 → Prop, (∀ V n2 p2, SW w2 n2 → n2 7 = n 7 → n2 8 = rd → K (mS (mR m x2 (nI (cp + en)) (g11_compensated m + nI cp) (g11_ended m + nI en) ls V) n2 p2)) → wp_X11_recovers (mS m n pn) x2 K) → Q (nI (cp + en)) r2 w2) : wp_X4_attempt r w x2 Q := by
  obtain ⟨F, G, b, e, f, k, hC, hR, hI⟩ := h
  have h3 : F 3 ≠ 0 := fun z => by
    have := hC.2.2.2.2.2.1
    rw [if_pos z, hd] at this
    exact absurd this (by decide)
  obtain ⟨d3, rfl, dz, dG, d4⟩ := DN_of hI h3
  have hIB := hI.1
  have hE := hC.1.2.2.1
  have h5 := hC.1.2.2.2.2.1
  obtain ⟨ib, iy, iF, iL, i5, -⟩ := id hIB
  have hke := iL.1.1
  have hL0 : LimOK x2 (0 + 0) := ⟨by omega, hx.imp id fun ⟨L, l1, l2⟩ => ⟨L, l1, l2, by omega⟩⟩
  -- redone is 0
  have hC0 : CW (s9_redone w 0) F (upd G 8 0) b e e := CW_pg (x := 0) hC (RP_c hC.2.1 (fun _ _ => rfl) (fun j hj => pk_un (by omega))) hC.1 (fun _ _ => rfl) (fun j hj => pk_un (by omega)) pk_us.symm
  have hR0 : isR (upd n 8 0) F (upd G 8 0) b e e := isR_wg hR (by unfold gk; omega)
  -- lost pages
  obtain ⟨p1, p2, p3, p4⟩ := rsA_ok (k := k) h5 (by omega) 16 0 F (upd G 8 0) (by omega) ib iy
  intro r0 hr0 w0 hw0
  rw [hw0]
  refine ⟨17, w_rsA iL 16 0 _ F (upd G 8 0) (by omega) hC0 ib iy fun w1 hC1 s1 => ?_⟩
  have XR : ∀ {Q : S11 → Prop}, (∀ n1, isR n1 (rsA b k 16 0 F (upd G 8 0)).1 (rsA b k 16 0 F (upd G 8 0)).2 b e e → wp_X11_recovers_20 Q 1 (nI 16) (mS (s11_recovered (s11_mayWrite m x2) 0) n1 pn)) → wp_X11_recovers (mS m n pn) x2 Q := by
    intro Q hq v hv v2 hv2
    refine ⟨ivp (k := 8) (by omega) (by omega), fun v3 hv3 => ⟨17, ?_⟩⟩
    rw [hv3, hv2, hv]
    exact x_rsA (m := s11_recovered (s11_mayWrite m x2) 0) iL 16 0 (upd n 8 0) F (upd G 8 0) (by omega) hR0 ib iy hq
  have G1Z : GZ (rsA b k 16 0 F (upd G 8 0)).2 := fun j j1 j2 j3 => by rw [p4 j (by omega), pk_un (by omega)]; exact dG j j1 j2 j3
  generalize (rsA b k 16 0 F (upd G 8 0)).1 = F1 at *
  generalize (rsA b k 16 0 F (upd G 8 0)).2 = G1 at *
  have hI1 : IB F1 b e e k := IB_c hIB (p3 2 (by omega)) (p3 4 (by omega)) (p3 11 (by omega)) (p3 12 (by omega)) p1 p2 (IFr_c iF (p3 5 (by omega)) (fun j j1 j2 => p3 j (by omega)) fun _ hs => hs) (Nat.le_refl _) (Nat.le_refl _)
  have dz1 : ∀ j, 560 ≤ j → j < 882 → F1 j = 0 := fun j j1 j2 => by rw [p3 j (by omega)]; exact dz j j1 j2
  obtain ⟨jm, m1, m2, m3⟩ := an_start hI1
  refine pk_le 16 16 (fun _ => ?_) (fun z => by omega)
  refine w_analyse hC1 hI1 dz1 m1 m2 m3 fun w2 V2 hC2 hV2 s2 => ?_
  have XA : ∀ {Q : S11 → Prop}, (∀ n2 V, isR n2 (anE b k (anF b (k - jm) jm F1)) G1 (trB b (wlk b k)) (wlk b k) (wlk b k) → RU V (anU b (k - jm) jm (fun _ => 0)) → wp_X11_redoes (mS (mU (s11_losers (s11_recovered (s11_mayWrite m x2) 0) (lsI (anF b (k - jm) jm F1))) V) n2 pn) (fun v_18 => ∃ n_19, wp_X11_recovers_55 Q n_19 1 v_18)) → wp_X11_recovers (mS m n pn) x2 Q := by
    intro Q hq
    refine XR fun n1 hR1 => pk_le 16 16 (fun _ => ?_) (fun z => by omega)
    exact x_analysis hR1 hI1 dz1 G1Z m1 m2 m3 fun n2 V r2 v2 => hq n2 V r2 v2
  obtain ⟨g1, g2, g3, g4, g5, g6⟩ := an_IB hI1 hE h5 (by rw [p3 4 (by omega)]; exact d4) dz1 m1 m3 rfl rfl
  have h52 : ∀ i, trB b (wlk b k) i < 256 := hC2.1.2.2.2.2.1
  clear XR
  generalize anE b k (anF b (k - jm) jm F1) = F2 at *
  generalize hls : lsI (anF b (k - jm) jm F1) = ls at *
  generalize anU b (k - jm) jm (fun _ => 0) = U2 at *
  generalize hb2 : trB b (wlk b k) = b2 at *
  generalize he2 : wlk b k = e2 at *
  have hE2 : e2 ≤ 8600 := by omega
  have hU2 := AU_b g1.2.2.2.1 hE2 (Nat.le_refl _) g5
  obtain ⟨j, j1, j2⟩ := lsU_ok g5 16 0 e2 ⟨k, Nat.le_refl _, g2.symm⟩
  -- redo
  have hRo : RO (s5_cursor (g9_roster w2) (fun _ => 0)) F2 := by
    intro t t1 t9
    obtain ⟨a1, a2, a3⟩ := hC2.2.2.1 t t1 t9
    rw [curF_n (j := 702 + 18 * t) (fun u _ _ => by omega)] at a1
    rw [curF_n (j := 703 + 18 * t) (fun u _ _ => by omega)] at a2
    refine ⟨a1, a2, ?_⟩
    have := g4 t 2 t1 t9 (by omega) (by omega)
    rw [show 702 + 18 * t + 2 = 704 + 18 * t by omega] at this
    rw [this]; rfl
  have hCr : CW (s9_roster w2 (s5_cursor (g9_roster w2) (fun _ => 0))) F2 G1 b2 e2 e2 := CW_ro hC2 hRo fun i hi => (curF_n hi).symm
  have hVr : RU (g4_unclean (an4 (s4_unclean r0 V2) (anF b (k - jm) jm F1))) U2 := by
    unfold an4
    split
    · exact hV2
    · exact hV2
  refine w_redo hVr hU2 g2 j1 j2 hCr g1 fun w3 hC3 a3 s3 r5 hr5 => ?_
  have XD : ∀ {Q : S11 → Prop}, (∀ n3 V, isR n3 (rdA b2 U2 (k - j) j F2 G1).1 (rdA b2 U2 (k - j) j F2 G1).2 b2 e2 e2 → ∃ n_19, wp_X11_recovers_55 Q n_19 1 (mS (mU (s11_losers (s11_recovered (s11_mayWrite m x2) 0) ls) V) n3 pn)) → wp_X11_recovers (mS m n pn) x2 Q := by
    intro Q hq
    exact XA fun n2 V r2 v2 => x_redoes v2 hU2 g2 j1 j2 r2 g1 fun n3 r3 => hq n3 V r3
  clear XA
  obtain ⟨q1, q2, q3⟩ := rdA_ok (U := U2) h52 hE2 (k - j) j F2 G1 (by omega) g1
  generalize (rdA b2 U2 (k - j) j F2 G1).1 = F3 at *
  generalize (rdA b2 U2 (k - j) j F2 G1).2 = G3 at *
  have G3Z : GZ G3 := fun i i1 i2 i3 => by rw [q3 i (by omega)]; exact G1Z i i1 i2 i3
  have hC3' : CW w3 (curF F3) G3 b2 e2 e2 := by
    have hr : RO (g9_roster w3) (curF F3) := by
      rw [a3]
      refine RO_c hC2.2.2.1 fun i i1 i2 => ?_
      unfold curF
      split
      · exact q2 _ (by omega)
      · exact q2 _ (by omega)
    exact CW_ro hC3 hr fun i hi => curF_n hi
  have hEI : EI F3 b2 e2 k 0 := by
    refine ⟨q1, g2, fun t t1 t9 => ?_, fun t i t1 t9 i1 i2 => by rw [q2 _ (by omega)]; exact g4 t i t1 t9 i1 i2, ?_, by omega⟩
    · rw [q2 _ (by omega), q2 _ (by omega)]; exact g3 t t1 t9
    · rw [q2 3 (by omega), g6 3 (by omega) (by omega), p3 3 (by omega)]; exact d3
  have f7 : F3 7 = F 7 := by rw [q2 7 (by omega), g6 7 (by omega) (by omega), p3 7 (by omega)]
  -- the counters
  have hw5 : g4_written r5 = 0 := by
    rw [hr5, hr0]
    unfold an4
    split <;> rfl
  have hr3 : g9_redone w3 = G3 8 := hC3'.2.2.2.2.2.2.2.2.1
  have R5 : ∀ cp en, r4 (e4 r5 cp en) r cp en (G3 8) ls := by
    intro cp en
    have e1 : g4_compensated r5 = g4_compensated r ∧ g4_ended r5 = g4_ended r ∧ g4_redoneInAll r5 = g4_redoneInAll r + G3 8 ∧ g4_losers r5 = (if g4_analysed r = 0 then ls else g4_losers r) ∧ g4_analysed r5 = (if g4_analysed r = 0 then 1 else g4_analysed r) := by
      rw [hr5, hr3, hr0, ← hls]
      have ea : g4_analysed (s4_unclean (s4_written r 0) V2) = g4_analysed r := rfl
      unfold an4
      rw [ea]
      by_cases z : g4_analysed r = 0
      · rw [if_pos z, if_pos z, if_pos z]; exact ⟨rfl, rfl, rfl, rfl, rfl⟩
      · rw [if_neg z, if_neg z, if_neg z]; exact ⟨rfl, rfl, rfl, rfl, rfl⟩
    exact ⟨rfl, by rw [← e1.1]; rfl, by rw [← e1.2.1]; rfl, e1.2.2.1, e1.2.2.2.1, e1.2.2.2.2⟩
  rw [← e4_0 hw5]
  have XE : ∀ {Q : S11 → Prop}, (∀ V n3, isR n3 F3 G3 b2 e2 e2 → wp_X11_recovers_55 Q 10 (nI 1) (mS (eM (mU (s11_losers (s11_recovered (s11_mayWrite m x2) 0) ls) V) (0 + 0) 0 0) n3 pn)) → wp_X11_recovers (mS m n pn) x2 Q := by
    intro Q hq
    refine XD fun n3 V r3 => ⟨10, ?_⟩
    have := hq V n3 r3
    rw [eM_0 (m := mU (s11_losers (s11_recovered (s11_mayWrite m x2) 0) ls) V) rfl] at this
    exact this
  clear XD
  -- ends
  obtain ⟨k4, t1, t2, t3, t4, t5, t6⟩ := enA_ok (x2 := x2) 9 1 F3 b2 e2 0 k (by omega) (by omega) h52 hEI hL0 (fun u u1 u2 => by omega)
  have fin : ∀ cp en F6 G6 b6 e6 w6 k6, CW w6 F6 G6 b6 e6 e6 → IV F6 G6 b6 e6 e6 k6 → G6 8 = G3 8 → F6 7 = F 7 → g9_script w6 = g9_script w3 → cp + en < 100000 → (∀ K : S11 → Prop, (∀ V n6 p6, isR n6 F6 G6 b6 e6 e6 → K (mS (eM (mU (s11_losers (s11_recovered (s11_mayWrite m x2) 0) ls) V) (cp + en) cp en) n6 p6)) → wp_X11_recovers (mS m n pn) x2 K) → Q (nI (cp + en)) (e4 r5 cp en) w6 := by
    intro cp en F6 G6 b6 e6 w6 k6 c6 i6 g8 f77 s6 hc hX
    refine q cp en (G3 8) ls (e4 r5 cp en) w6 (s6.trans (s3.trans (s2.trans s1))) hc (R5 cp en) fun K hK => hX K fun V n6 p6 r6 => hK V n6 p6 ⟨F6, G6, b6, e6, e6, k6, c6, r6, i6⟩ (sw_7 hR r6 f77) ?_
    rw [r6.2.2.1 8 (by unfold gk; omega), g8]
  refine ⟨10, w_en G3Z 9 1 F3 b2 e2 0 k w3 (by omega) (by omega) hEI hL0 hC3' fun w4 hC4 s4 => ⟨fun st => ?_, fun st => ?_⟩⟩
  · -- stopped among the ends
    refine ⟨fun _ => ?_, fun z => absurd rfl z⟩
    refine w_fall hC4 (mm := 0) (by omega) (Nat.le_refl _) fun w5 hC5 s5 => ?_
    rw [Nat.add_zero, Nat.min_self, crF_cur] at hC5
    obtain ⟨k5, i5'⟩ := cr_IV (G := G3) (mm := 0) t1.1
    rw [Nat.add_zero, Nat.min_self] at i5'
    refine fin 0 _ _ _ _ _ w5 k5 hC5 i5' ?_ ?_ (s5.trans s4) t2.1 (fun K hK => XE fun V n3 r3 => x_en (x2 := x2) G3Z rfl 9 1 F3 b2 e2 0 k n3 pn (by omega) (by omega) hEI hL0 r3 fun n4 p4 => ⟨fun _ r4' => hK V n4 p4 r4', fun z => absurd (st.symm.trans z) (by decide)⟩)
    · unfold crG; rw [if_neg (by omega), if_neg (by omega), if_neg (by omega)]
    · unfold crF; rw [if_neg (by omega), if_neg (by omega), if_neg (by omega), t4 7 (by omega)]; exact f7
  · -- undo
    have hUI := UI_of t1 (t6 st)
    refine pk_lt 9 10 (fun _ => ?_) (fun z => by omega)
    have XU : ∀ {Q : S11 → Prop}, (∀ V n4 p4, isR n4 (curF (enA x2 9 1 F3 b2 e2 0).2.1) G3 (enA x2 9 1 F3 b2 e2 0).2.2.1 (enA x2 9 1 F3 b2 e2 0).2.2.2.1 (enA x2 9 1 F3 b2 e2 0).2.2.2.1 → wp_X11_nextLoser (mS (eM (mU (s11_losers (s11_recovered (s11_mayWrite m x2) 0) ls) V) (0 + (enA x2 9 1 F3 b2 e2 0).2.2.2.2) 0 (enA x2 9 1 F3 b2 e2 0).2.2.2.2) n4 p4) (fun r_5 => ∃ n_6, wp_X11_recovers_128 Q n_6 r_5 (mS (eM (mU (s11_losers (s11_recovered (s11_mayWrite m x2) 0) ls) V) (0 + (enA x2 9 1 F3 b2 e2 0).2.2.2.2) 0 (enA x2 9 1 F3 b2 e2 0).2.2.2.2) n4 p4))) → wp_X11_recovers (mS m n pn) x2 Q := by
      intro Q hq
      refine XE fun V n3 r3 => x_en (x2 := x2) G3Z rfl 9 1 F3 b2 e2 0 k n3 pn (by omega) (by omega) hEI hL0 r3 fun n4 p4 => ⟨fun z => absurd (st.symm.trans z) (by decide), fun _ r4' => pk_lt 9 10 (fun _ => ⟨10, ?_⟩) (fun z => by omega)⟩
      refine x_cur (F := (enA x2 9 1 F3 b2 e2 0).2.1) t1.1.1 9 1 n4 _ (by omega) (by omega) r4' (fun i => ?_) fun n5 r5' => pk_lt 9 10 (fun _ => hq V n5 p4 r5') (fun z => by omega)
      by_cases d : i < 704 + 18 * 1
      · rw [if_pos d, curF_n (fun u _ _ => by omega)]
      · rw [if_neg d]
    have s4' := s4
    clear XE
    generalize (enA x2 9 1 F3 b2 e2 0).2.1 = F4 at *
    generalize (enA x2 9 1 F3 b2 e2 0).2.2.1 = b4 at *
    generalize (enA x2 9 1 F3 b2 e2 0).2.2.2.1 = e4' at *
    generalize (enA x2 9 1 F3 b2 e2 0).2.2.2.2 = en4 at *
    have hUI' : UI (curF F4) b4 e4' k4 (0 + en4) := by rw [Nat.zero_add]; exact hUI
    have hM := sum9_le hUI.1.1
    obtain ⟨k5, v1, v2, v3, v4, v5, v6⟩ := unA_ok (x2 := x2) (sum9 (mzF (curF F4))) (curF F4) G3 b4 e4' 0 en4 k4 hUI' G3Z t3 t2 (Nat.le_refl _)
    have v8 : (unA x2 (sum9 (mzF (curF F4))) (curF F4) G3 b4 e4' 0 en4).2.2.1 8 = G3 8 := unA_8 _ _ _ _ _ _ _ _ hUI' t3
    have f7' : (unA x2 (sum9 (mzF (curF F4))) (curF F4) G3 b4 e4' 0 en4).2.1 7 = F 7 := by rw [v5 7 (by omega), curF_n (fun u _ _ => by omega), t4 7 (by omega)]; exact f7
    refine ⟨_, w_und (sum9 (mzF (curF F4))) 0 (curF F4) G3 b4 e4' 0 en4 k4 w4 hUI' G3Z t2 (Nat.le_refl _) (by omega) hC4 fun w5 hC5 s5 => ?_⟩
    have XU2 : ∀ {Q : S11 → Prop}, (∀ V n4 p4, isR n4 (curF F4) G3 b4 e4' e4' → wp_X11_nextLoser (mS (eM (mU (s11_losers (s11_recovered (s11_mayWrite m x2) 0) ls) V) (0 + en4) 0 en4) n4 p4) (fun r_5 => wp_X11_recovers_128 Q (sum9 (mzF (curF F4)) + 1) r_5 (mS (eM (mU (s11_losers (s11_recovered (s11_mayWrite m x2) 0) ls) V) (0 + en4) 0 en4) n4 p4))) → wp_X11_recovers (mS m n pn) x2 Q := by
      intro Q hq
      refine XU fun V n4 p4 r4' => ?_
      exact nl_mono (fun r hr => ⟨_, hr⟩) (hq V n4 p4 r4')
    clear XU
    cases st5 : (unA x2 (sum9 (mzF (curF F4))) (curF F4) G3 b4 e4' 0 en4).1 with
    | true =>
      rw [if_pos rfl]
      refine ⟨fun _ => ?_, fun z => absurd rfl z⟩
      refine w_fall hC5 (mm := 0) (by omega) (Nat.le_refl _) fun w6 hC6 s6 => ?_
      rw [Nat.add_zero, Nat.min_self] at hC6
      obtain ⟨k6, i6⟩ := cr_IV (G := (unA x2 (sum9 (mzF (curF F4))) (curF F4) G3 b4 e4' 0 en4).2.2.1) (mm := 0) v1.1
      rw [Nat.add_zero, Nat.min_self] at i6
      refine fin _ _ _ _ _ _ w6 k6 hC6 i6 ?_ ?_ (s6.trans (s5.trans s4)) v4.1 (fun K hK => XU2 fun V n4 p4 r4' => x_und (x2 := x2) rfl _ (curF F4) G3 b4 e4' 0 en4 k4 n4 p4 hUI' G3Z t2 (Nat.le_refl _) r4' fun n5 p5 => ⟨fun _ r5' => hK V n5 p5 r5', fun z => absurd (st5.symm.trans z) (by decide)⟩)
      · unfold crG; rw [if_neg (by omega), if_neg (by omega), if_neg (by omega)]; exact v8
      · unfold crF; rw [if_neg (by omega), if_neg (by omega), if_neg (by omega)]; exact f7'
    | false =>
      rw [if_neg (by decide)]
      refine ⟨fun z => absurd z (by decide), fun _ w6 hw6 => ?_⟩
      subst hw6
      refine fin _ _ _ _ _ _ _ k5 (CW_3 hC5) (UI_up v1 (v6 st5)) v8 (by rw [uNn (by omega)]; exact f7') (s5.trans s4) v4.1 (fun K hK => XU2 fun V n4 p4 r4' => x_und (x2 := x2) rfl _ (curF F4) G3 b4 e4' 0 en4 k4 n4 p4 hUI' G3Z t2 (Nat.le_refl _) r4' fun n5 p5 => ⟨fun z => absurd (st5.symm.trans z) (by decide), fun _ r5' => ⟨fun _ => ⟨ivp (k := 3) (by omega) (by omega), fun v hv => ?_⟩, fun z => absurd rfl z⟩⟩)
      rw [hv]
      exact hK V _ p5 (isR_wr (k := 3) (x := 0) r5' (by unfold nk; omega))
end
