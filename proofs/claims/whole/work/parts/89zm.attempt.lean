/-! ===== one attempt of recovery, with its measure: the whole records' end ===== -/
section
variable {m : S11} {n : Nat → Int32} {pn : Int32} {F F2 : Nat → Nat} {G G2 : Nat → Int32} {b b2 : Nat → Nat} {e f k e2 f2 c cp en : Nat} {w : S9} {P : S3} {C : S0} {R : S5} {J : S2} {U : Nat → Nat} {r : S4} {x2 : Int32}
def SWm (w : S9) (n : Nat → Int32) (mu : Nat) : Prop := ∃ F G b e f k, CW w F G b e f ∧ isR n F G b e f ∧ IV F G b e f k ∧ wlk b k = mu
theorem SWm_S {mu : Nat} (h : SWm w n mu) : SW w n := by
  obtain ⟨F, G, b, e, f, k, hC, hR, hI, -⟩ := h
  exact ⟨F, G, b, e, f, k, hC, hR, hI⟩
theorem SWm_of (h : SW w n) : ∃ mu, SWm w n mu := by
  obtain ⟨F, G, b, e, f, k, hC, hR, hI⟩ := h
  exact ⟨_, F, G, b, e, f, k, hC, hR, hI, rfl⟩
theorem SWm_le {mu : Nat} (h : SWm w n mu) : mu ≤ 8600 := by
  obtain ⟨F, G, b, e, f, k, hC, hR, hI, hm⟩ := h
  have := hI.1.2.2.2.1.1.1
  have := hC.1.2.2.1
  omega
theorem orL_m {x : Nat → Bool} : ∀ N t (a : Int32), N + t = 10 → 1 ≤ t → a &&& (-1023) = 0 → orL x N t a &&& (-1023) = 0 := by
  intro N
  induction N with
  | zero => intro t a _ _ h; exact h
  | succ N ih =>
    intro t a hN h1 h
    show orL x N (t + 1) (if x t = true then a ||| bitI t else a) &&& (-1023) = 0
    refine ih (t + 1) _ (by omega) (by omega) ?_
    by_cases c : x t = true
    · rw [if_pos c]; exact bit_and h1 (by omega) h
    · rw [if_neg c]; exact h
theorem lsI_n {F : Nat → Nat} : lsI F ≠ -1 := fun z => by
  have h : lsI F &&& (-1023) = 0 := orL_m 9 1 0 rfl (by omega) (by decide)
  rw [z] at h
  exact absurd h (by decide)
theorem trB_in {i : Nat} (h : i < e) : trB b e i = b i := by unfold trB; rw [if_pos h]
theorem k_end {k2 : Nat} (h : LogOK b e k) (he : wlk b k = e) (ha : ∀ i, i < e → b2 i = b i) (h2 : LogOK b2 e k2) : wlk b2 k2 = e := by
  rcases Nat.lt_or_ge k2 k with c | c
  · exfalso
    obtain ⟨h6, h68, h3, h4, hv⟩ := rec_rd h c
    have hw : wlk b2 k2 = wlk b k2 := wlk_agr (fun i hi => ha i (by have := wlk_mono (b := b) (show k2 ≤ k by omega); omega)) k2 (Nat.le_refl _)
    have e1 : b2 (wlk b k2 + 1) = b (wlk b k2 + 1) := ha _ (by omega)
    have := h2.1.2
    rw [hw, e1] at this
    omega
  · have hw : wlk b2 k = wlk b k := wlk_agr (fun i hi => ha i (by omega)) k (Nat.le_refl _)
    have := wlk_mono (b := b2) c
    have := h2.1.1
    omega
theorem enA_e {x2 : Int32} : ∀ N t (F : Nat → Nat) (b : Nat → Nat) (e en : Nat), (enA x2 N t F b e en).2.2.2.1 + 6 * en = e + 6 * (enA x2 N t F b e en).2.2.2.2 := by
  intro N
  induction N with
  | zero => intro t F b e en; rfl
  | succ N ih =>
    intro t F b e en
    unfold enA
    split
    · split
      · rfl
      · have := ih (t + 1) (goneF F t) (appB b e (plainR 7 t (F (703 + 18 * t)))) (e + 6) (en + 1)
        omega
    · exact ih (t + 1) F b e en
theorem unA_e {x2 : Int32} : ∀ M (F : Nat → Nat) (G : Nat → Int32) (b : Nat → Nat) (e cp en : Nat), e + 6 * ((unA x2 M F G b e cp en).2.2.2.2.2.1 + (unA x2 M F G b e cp en).2.2.2.2.2.2) ≤ (unA x2 M F G b e cp en).2.2.2.2.1 + 6 * (cp + en) := by
  intro M
  induction M with
  | zero => intro F G b e cp en; exact Nat.le_refl _
  | succ M ih =>
    intro F G b e cp en
    unfold unA
    split
    · exact Nat.le_refl _
    · split
      · split
        · exact Nat.le_refl _
        · have := ih (goneF F (nlA F 9 1 0)) G (appB b e (plainR 7 (nlA F 9 1 0) (F (703 + 18 * nlA F 9 1 0)))) (e + 6) cp (en + 1)
          omega
      · split
        · split
          · exact Nat.le_refl _
          · have := ih (updN (cmpA (F, G, b, e, e) (nlA F 9 1 0) (F (704 + 18 * nlA F 9 1 0))).1 (704 + 18 * nlA F 9 1 0) (vnx (rv b (F (704 + 18 * nlA F 9 1 0))))) (fetG F G (b (F (704 + 18 * nlA F 9 1 0) + 5) / 16)) (appB b e (sealR (cmpL F b (nlA F 9 1 0) (F (704 + 18 * nlA F 9 1 0))))) (e + 11) (cp + 1) en
            omega
        · exact ih _ _ _ _ _ _
theorem unA_t {x2 : Int32} : ∀ M (F : Nat → Nat) (G : Nat → Int32) (b : Nat → Nat) (e cp en : Nat), (unA x2 M F G b e cp en).1 = true → x2 = nI ((unA x2 M F G b e cp en).2.2.2.2.2.1 + (unA x2 M F G b e cp en).2.2.2.2.2.2) := by
  intro M
  induction M with
  | zero => intro F G b e cp en z; exact absurd (show false = true from z) (by decide)
  | succ M ih =>
    intro F G b e cp en
    unfold unA
    split
    · exact fun z => absurd (show false = true from z) (by decide)
    · split
      · split
        · intro _; assumption
        · exact ih _ _ _ _ _ _
      · split
        · split
          · intro _; assumption
          · exact ih _ _ _ _ _ _
        · exact ih _ _ _ _ _ _
theorem s_attempt2 {mu : Nat} (h : SWm w n mu) (hd : g9_up w = 0) (hx : x2 = -1 ∨ ∃ L, L ≤ 99 ∧ x2 = nI L) {Q : Int32 → S4 → S9 → Prop} (q : ∀ cp en rd ls r2 w2, g9_script w2 = g9_script w → cp + en < 100000 → ls ≠ -1 → ∀ mu2, (g9_up w2 ≠ 0 ∨ (g9_up w2 = 0 ∧ x2 = nI (cp + en) ∧ mu + 6 * (cp + en) ≤ mu2)) → r4 r2 r cp en rd ls → (∀ K : S11 → Prop, (∀ V n2 p2, SWm w2 n2 mu2 → n2 7 = n 7 → n2 8 = rd → K (mS (mR m x2 (nI (cp + en)) (g11_compensated m + nI cp) (g11_ended m + nI en) ls V) n2 p2)) → wp_X11_recovers (mS m n pn) x2 K) → Q (nI (cp + en)) r2 w2) : wp_X4_attempt r w x2 Q := by
  obtain ⟨F, G, b, e, f, k, hC, hR, hI, hmu⟩ := h
  have h3 : F 3 ≠ 0 := fun z => by
    have := hC.2.2.2.2.2.1
    rw [if_pos z, hd] at this
    exact absurd this (by decide)
  obtain ⟨d3, rfl, dz, dG, d4⟩ := DN_of hI h3
  have hIB := hI.1
  have hE := hC.1.2.2.1
  have h5 := hC.1.2.2.2.2.1
  obtain ⟨ib, iy, iF, iL, i5, -⟩ := id hIB
  have hke := iL.1.1
  have hL0 : LimOK x2 (0 + 0) := ⟨by omega, hx.imp id fun ⟨L, l1, l2⟩ => ⟨L, l1, l2, by omega⟩⟩
  -- redone is 0
  have hC0 : CW (s9_redone w 0) F (upd G 8 0) b e e := CW_pg (x := 0) hC (RP_c hC.2.1 (fun _ _ => rfl) (fun j hj => pk_un (by omega))) hC.1 (fun _ _ => rfl) (fun j hj => pk_un (by omega)) pk_us.symm
  have hR0 : isR (upd n 8 0) F (upd G 8 0) b e e := isR_wg hR (by unfold gk; omega)
  -- lost pages
  obtain ⟨p1, p2, p3, p4⟩ := rsA_ok (k := k) h5 (by omega) 16 0 F (upd G 8 0) (by omega) ib iy
  intro r0 hr0 w0 hw0
  rw [hw0]
  refine ⟨17, w_rsA iL 16 0 _ F (upd G 8 0) (by omega) hC0 ib iy fun w1 hC1 s1 => ?_⟩
  have XR : ∀ {Q : S11 → Prop}, (∀ n1, isR n1 (rsA b k 16 0 F (upd G 8 0)).1 (rsA b k 16 0 F (upd G 8 0)).2 b e e → wp_X11_recovers_20 Q 1 (nI 16) (mS (s11_recovered (s11_mayWrite m x2) 0) n1 pn)) → wp_X11_recovers (mS m n pn) x2 Q := by
    intro Q hq v hv v2 hv2
    refine ⟨ivp (k := 8) (by omega) (by omega), fun v3 hv3 => ⟨17, ?_⟩⟩
    rw [hv3, hv2, hv]
    exact x_rsA (m := s11_recovered (s11_mayWrite m x2) 0) iL 16 0 (upd n 8 0) F (upd G 8 0) (by omega) hR0 ib iy hq
  have G1Z : GZ (rsA b k 16 0 F (upd G 8 0)).2 := fun j j1 j2 j3 => by rw [p4 j (by omega), pk_un (by omega)]; exact dG j j1 j2 j3
  generalize (rsA b k 16 0 F (upd G 8 0)).1 = F1 at *
  generalize (rsA b k 16 0 F (upd G 8 0)).2 = G1 at *
  have hI1 : IB F1 b e e k := IB_c hIB (p3 2 (by omega)) (p3 4 (by omega)) (p3 11 (by omega)) (p3 12 (by omega)) p1 p2 (IFr_c iF (p3 5 (by omega)) (fun j j1 j2 => p3 j (by omega)) fun _ hs => hs) (Nat.le_refl _) (Nat.le_refl _)
  have dz1 : ∀ j, 560 ≤ j → j < 882 → F1 j = 0 := fun j j1 j2 => by rw [p3 j (by omega)]; exact dz j j1 j2
  obtain ⟨jm, m1, m2, m3⟩ := an_start hI1
  refine pk_le 16 16 (fun _ => ?_) (fun z => by omega)
  refine w_analyse hC1 hI1 dz1 m1 m2 m3 fun w2 V2 hC2 hV2 s2 => ?_
  have XA : ∀ {Q : S11 → Prop}, (∀ n2 V, isR n2 (anE b k (anF b (k - jm) jm F1)) G1 (trB b (wlk b k)) (wlk b k) (wlk b k) → RU V (anU b (k - jm) jm (fun _ => 0)) → wp_X11_redoes (mS (mU (s11_losers (s11_recovered (s11_mayWrite m x2) 0) (lsI (anF b (k - jm) jm F1))) V) n2 pn) (fun v_18 => ∃ n_19, wp_X11_recovers_55 Q n_19 1 v_18)) → wp_X11_recovers (mS m n pn) x2 Q := by
    intro Q hq
    refine XR fun n1 hR1 => pk_le 16 16 (fun _ => ?_) (fun z => by omega)
    exact x_analysis hR1 hI1 dz1 G1Z m1 m2 m3 fun n2 V r2 v2 => hq n2 V r2 v2
  obtain ⟨g1, g2, g3, g4, g5, g6⟩ := an_IB hI1 hE h5 (by rw [p3 4 (by omega)]; exact d4) dz1 m1 m3 rfl rfl
  have h52 : ∀ i, trB b (wlk b k) i < 256 := hC2.1.2.2.2.2.1
  clear XR
  generalize anE b k (anF b (k - jm) jm F1) = F2 at *
  generalize hls : lsI (anF b (k - jm) jm F1) = ls at *
  generalize anU b (k - jm) jm (fun _ => 0) = U2 at *
  generalize hb2 : trB b (wlk b k) = b2 at *
  generalize he2 : wlk b k = e2 at *
  have hE2 : e2 ≤ 8600 := by omega
  have hU2 := AU_b g1.2.2.2.1 hE2 (Nat.le_refl _) g5
  obtain ⟨j, j1, j2⟩ := lsU_ok g5 16 0 e2 ⟨k, Nat.le_refl _, g2.symm⟩
  -- redo
  have hRo : RO (s5_cursor (g9_roster w2) (fun _ => 0)) F2 := by
    intro t t1 t9
    obtain ⟨a1, a2, a3⟩ := hC2.2.2.1 t t1 t9
    rw [curF_n (j := 702 + 18 * t) (fun u _ _ => by omega)] at a1
    rw [curF_n (j := 703 + 18 * t) (fun u _ _ => by omega)] at a2
    refine ⟨a1, a2, ?_⟩
    have := g4 t 2 t1 t9 (by omega) (by omega)
    rw [show 702 + 18 * t + 2 = 704 + 18 * t by omega] at this
    rw [this]; rfl
  have hCr : CW (s9_roster w2 (s5_cursor (g9_roster w2) (fun _ => 0))) F2 G1 b2 e2 e2 := CW_ro hC2 hRo fun i hi => (curF_n hi).symm
  have hVr : RU (g4_unclean (an4 (s4_unclean r0 V2) (anF b (k - jm) jm F1))) U2 := by
    unfold an4
    split
    · exact hV2
    · exact hV2
  refine w_redo hVr hU2 g2 j1 j2 hCr g1 fun w3 hC3 a3 s3 r5 hr5 => ?_
  have XD : ∀ {Q : S11 → Prop}, (∀ n3 V, isR n3 (rdA b2 U2 (k - j) j F2 G1).1 (rdA b2 U2 (k - j) j F2 G1).2 b2 e2 e2 → ∃ n_19, wp_X11_recovers_55 Q n_19 1 (mS (mU (s11_losers (s11_recovered (s11_mayWrite m x2) 0) ls) V) n3 pn)) → wp_X11_recovers (mS m n pn) x2 Q := by
    intro Q hq
    exact XA fun n2 V r2 v2 => x_redoes v2 hU2 g2 j1 j2 r2 g1 fun n3 r3 => hq n3 V r3
  clear XA
  obtain ⟨q1, q2, q3⟩ := rdA_ok (U := U2) h52 hE2 (k - j) j F2 G1 (by omega) g1
  generalize (rdA b2 U2 (k - j) j F2 G1).1 = F3 at *
  generalize (rdA b2 U2 (k - j) j F2 G1).2 = G3 at *
  have G3Z : GZ G3 := fun i i1 i2 i3 => by rw [q3 i (by omega)]; exact G1Z i i1 i2 i3
  have hC3' : CW w3 (curF F3) G3 b2 e2 e2 := by
    have hr : RO (g9_roster w3) (curF F3) := by
      rw [a3]
      refine RO_c hC2.2.2.1 fun i i1 i2 => ?_
      unfold curF
      split
      · exact q2 _ (by omega)
      · exact q2 _ (by omega)
    exact CW_ro hC3 hr fun i hi => curF_n hi
  have hEI : EI F3 b2 e2 k 0 := by
    refine ⟨q1, g2, fun t t1 t9 => ?_, fun t i t1 t9 i1 i2 => by rw [q2 _ (by omega)]; exact g4 t i t1 t9 i1 i2, ?_, by omega⟩
    · rw [q2 _ (by omega), q2 _ (by omega)]; exact g3 t t1 t9
    · rw [q2 3 (by omega), g6 3 (by omega) (by omega), p3 3 (by omega)]; exact d3
  have f7 : F3 7 = F 7 := by rw [q2 7 (by omega), g6 7 (by omega) (by omega), p3 7 (by omega)]
  -- the counters
  have hw5 : g4_written r5 = 0 := by
    rw [hr5, hr0]
    unfold an4
    split <;> rfl
  have hr3 : g9_redone w3 = G3 8 := hC3'.2.2.2.2.2.2.2.2.1
  have R5 : ∀ cp en, r4 (e4 r5 cp en) r cp en (G3 8) ls := by
    intro cp en
    have e1 : g4_compensated r5 = g4_compensated r ∧ g4_ended r5 = g4_ended r ∧ g4_redoneInAll r5 = g4_redoneInAll r + G3 8 ∧ g4_losers r5 = (if g4_analysed r = 0 then ls else g4_losers r) ∧ g4_analysed r5 = (if g4_analysed r = 0 then 1 else g4_analysed r) := by
      rw [hr5, hr3, hr0, ← hls]
      have ea : g4_analysed (s4_unclean (s4_written r 0) V2) = g4_analysed r := rfl
      unfold an4
      rw [ea]
      by_cases z : g4_analysed r = 0
      · rw [if_pos z, if_pos z, if_pos z]; exact ⟨rfl, rfl, rfl, rfl, rfl⟩
      · rw [if_neg z, if_neg z, if_neg z]; exact ⟨rfl, rfl, rfl, rfl, rfl⟩
    exact ⟨rfl, by rw [← e1.1]; rfl, by rw [← e1.2.1]; rfl, e1.2.2.1, e1.2.2.2.1, e1.2.2.2.2⟩
  rw [← e4_0 hw5]
  have XE : ∀ {Q : S11 → Prop}, (∀ V n3, isR n3 F3 G3 b2 e2 e2 → wp_X11_recovers_55 Q 10 (nI 1) (mS (eM (mU (s11_losers (s11_recovered (s11_mayWrite m x2) 0) ls) V) (0 + 0) 0 0) n3 pn)) → wp_X11_recovers (mS m n pn) x2 Q := by
    intro Q hq
    refine XD fun n3 V r3 => ⟨10, ?_⟩
    have := hq V n3 r3
    rw [eM_0 (m := mU (s11_losers (s11_recovered (s11_mayWrite m x2) 0) ls) V) rfl] at this
    exact this
  clear XD
  -- ends
  obtain ⟨k4, t1, t2, t3, t4, t5, t6⟩ := enA_ok (x2 := x2) 9 1 F3 b2 e2 0 k (by omega) (by omega) h52 hEI hL0 (fun u u1 u2 => by omega)
  have fin : ∀ cp en F6 G6 b6 e6 w6 k6, CW w6 F6 G6 b6 e6 e6 → IV F6 G6 b6 e6 e6 k6 → (g9_up w6 ≠ 0 ∨ (g9_up w6 = 0 ∧ x2 = nI (cp + en) ∧ mu + 6 * (cp + en) ≤ wlk b6 k6)) → G6 8 = G3 8 → F6 7 = F 7 → g9_script w6 = g9_script w3 → cp + en < 100000 → (∀ K : S11 → Prop, (∀ V n6 p6, isR n6 F6 G6 b6 e6 e6 → K (mS (eM (mU (s11_losers (s11_recovered (s11_mayWrite m x2) 0) ls) V) (cp + en) cp en) n6 p6)) → wp_X11_recovers (mS m n pn) x2 K) → Q (nI (cp + en)) (e4 r5 cp en) w6 := by
    intro cp en F6 G6 b6 e6 w6 k6 c6 i6 hst g8 f77 s6 hc hX
    refine q cp en (G3 8) ls (e4 r5 cp en) w6 (s6.trans (s3.trans (s2.trans s1))) hc (by rw [← hls]; exact lsI_n) (wlk b6 k6) hst (R5 cp en) fun K hK => hX K fun V n6 p6 r6 => hK V n6 p6 ⟨F6, G6, b6, e6, e6, k6, c6, r6, i6, rfl⟩ (sw_7 hR r6 f77) ?_
    rw [r6.2.2.1 8 (by unfold gk; omega), g8]
  refine ⟨10, w_en G3Z 9 1 F3 b2 e2 0 k w3 (by omega) (by omega) hEI hL0 hC3' fun w4 hC4 s4 => ⟨fun st => ?_, fun st => ?_⟩⟩
  · -- stopped among the ends
    refine ⟨fun _ => ?_, fun z => absurd rfl z⟩
    refine w_fall hC4 (mm := 0) (by omega) (Nat.le_refl _) fun w5 hC5 s5 => ?_
    rw [Nat.add_zero, Nat.min_self, crF_cur] at hC5
    obtain ⟨k5, i5'⟩ := cr_IV (G := G3) (mm := 0) t1.1
    rw [Nat.add_zero, Nat.min_self] at i5'
    have ke := k_end t1.1.2.2.2.1 t1.2.1 (fun i hi => trB_in hi) i5'.1.2.2.2.1
    have ge := enA_e (x2 := x2) 9 1 F3 b2 e2 0
    have hup : g9_up w5 = 0 := by rw [hC5.2.2.2.2.2.1, if_neg (by unfold crF; rw [if_neg (by omega), if_neg (by omega), if_pos rfl]; omega)]
    refine fin 0 _ _ _ _ _ w5 k5 hC5 i5' (Or.inr ⟨hup, t5 st, by rw [ke]; omega⟩) ?_ ?_ (s5.trans s4) t2.1 (fun K hK => XE fun V n3 r3 => x_en (x2 := x2) G3Z rfl 9 1 F3 b2 e2 0 k n3 pn (by omega) (by omega) hEI hL0 r3 fun n4 p4 => ⟨fun _ r4' => hK V n4 p4 r4', fun z => absurd (st.symm.trans z) (by decide)⟩)
    · unfold crG; rw [if_neg (by omega), if_neg (by omega), if_neg (by omega)]
    · unfold crF; rw [if_neg (by omega), if_neg (by omega), if_neg (by omega), t4 7 (by omega)]; exact f7
  · -- undo
    have hUI := UI_of t1 (t6 st)
    refine pk_lt 9 10 (fun _ => ?_) (fun z => by omega)
    have XU : ∀ {Q : S11 → Prop}, (∀ V n4 p4, isR n4 (curF (enA x2 9 1 F3 b2 e2 0).2.1) G3 (enA x2 9 1 F3 b2 e2 0).2.2.1 (enA x2 9 1 F3 b2 e2 0).2.2.2.1 (enA x2 9 1 F3 b2 e2 0).2.2.2.1 → wp_X11_nextLoser (mS (eM (mU (s11_losers (s11_recovered (s11_mayWrite m x2) 0) ls) V) (0 + (enA x2 9 1 F3 b2 e2 0).2.2.2.2) 0 (enA x2 9 1 F3 b2 e2 0).2.2.2.2) n4 p4) (fun r_5 => ∃ n_6, wp_X11_recovers_128 Q n_6 r_5 (mS (eM (mU (s11_losers (s11_recovered (s11_mayWrite m x2) 0) ls) V) (0 + (enA x2 9 1 F3 b2 e2 0).2.2.2.2) 0 (enA x2 9 1 F3 b2 e2 0).2.2.2.2) n4 p4))) → wp_X11_recovers (mS m n pn) x2 Q := by
      intro Q hq
      refine XE fun V n3 r3 => x_en (x2 := x2) G3Z rfl 9 1 F3 b2 e2 0 k n3 pn (by omega) (by omega) hEI hL0 r3 fun n4 p4 => ⟨fun z => absurd (st.symm.trans z) (by decide), fun _ r4' => pk_lt 9 10 (fun _ => ⟨10, ?_⟩) (fun z => by omega)⟩
      refine x_cur (F := (enA x2 9 1 F3 b2 e2 0).2.1) t1.1.1 9 1 n4 _ (by omega) (by omega) r4' (fun i => ?_) fun n5 r5' => pk_lt 9 10 (fun _ => hq V n5 p4 r5') (fun z => by omega)
      by_cases d : i < 704 + 18 * 1
      · rw [if_pos d, curF_n (fun u _ _ => by omega)]
      · rw [if_neg d]
    have s4' := s4
    have ge := enA_e (x2 := x2) 9 1 F3 b2 e2 0
    clear XE
    generalize (enA x2 9 1 F3 b2 e2 0).2.1 = F4 at *
    generalize (enA x2 9 1 F3 b2 e2 0).2.2.1 = b4 at *
    generalize (enA x2 9 1 F3 b2 e2 0).2.2.2.1 = e4' at *
    generalize (enA x2 9 1 F3 b2 e2 0).2.2.2.2 = en4 at *
    have hUI' : UI (curF F4) b4 e4' k4 (0 + en4) := by rw [Nat.zero_add]; exact hUI
    have hM := sum9_le hUI.1.1
    obtain ⟨k5, v1, v2, v3, v4, v5, v6⟩ := unA_ok (x2 := x2) (sum9 (mzF (curF F4))) (curF F4) G3 b4 e4' 0 en4 k4 hUI' G3Z t3 t2 (Nat.le_refl _)
    have v8 : (unA x2 (sum9 (mzF (curF F4))) (curF F4) G3 b4 e4' 0 en4).2.2.1 8 = G3 8 := unA_8 _ _ _ _ _ _ _ _ hUI' t3
    have f7' : (unA x2 (sum9 (mzF (curF F4))) (curF F4) G3 b4 e4' 0 en4).2.1 7 = F 7 := by rw [v5 7 (by omega), curF_n (fun u _ _ => by omega), t4 7 (by omega)]; exact f7
    refine ⟨_, w_und (sum9 (mzF (curF F4))) 0 (curF F4) G3 b4 e4' 0 en4 k4 w4 hUI' G3Z t2 (Nat.le_refl _) (by omega) hC4 fun w5 hC5 s5 => ?_⟩
    have XU2 : ∀ {Q : S11 → Prop}, (∀ V n4 p4, isR n4 (curF F4) G3 b4 e4' e4' → wp_X11_nextLoser (mS (eM (mU (s11_losers (s11_recovered (s11_mayWrite m x2) 0) ls) V) (0 + en4) 0 en4) n4 p4) (fun r_5 => wp_X11_recovers_128 Q (sum9 (mzF (curF F4)) + 1) r_5 (mS (eM (mU (s11_losers (s11_recovered (s11_mayWrite m x2) 0) ls) V) (0 + en4) 0 en4) n4 p4))) → wp_X11_recovers (mS m n pn) x2 Q := by
      intro Q hq
      refine XU fun V n4 p4 r4' => ?_
      exact nl_mono (fun r hr => ⟨_, hr⟩) (hq V n4 p4 r4')
    clear XU
    cases st5 : (unA x2 (sum9 (mzF (curF F4))) (curF F4) G3 b4 e4' 0 en4).1 with
    | true =>
      rw [if_pos rfl]
      refine ⟨fun _ => ?_, fun z => absurd rfl z⟩
      refine w_fall hC5 (mm := 0) (by omega) (Nat.le_refl _) fun w6 hC6 s6 => ?_
      rw [Nat.add_zero, Nat.min_self] at hC6
      obtain ⟨k6, i6⟩ := cr_IV (G := (unA x2 (sum9 (mzF (curF F4))) (curF F4) G3 b4 e4' 0 en4).2.2.1) (mm := 0) v1.1
      rw [Nat.add_zero, Nat.min_self] at i6
      have ke := k_end v1.1.2.2.2.1 v1.2.1 (fun i hi => trB_in hi) i6.1.2.2.2.1
      have ge2 := unA_e (x2 := x2) (sum9 (mzF (curF F4))) (curF F4) G3 b4 e4' 0 en4
      have hup : g9_up w6 = 0 := by rw [hC6.2.2.2.2.2.1, if_neg (by unfold crF; rw [if_neg (by omega), if_neg (by omega), if_pos rfl]; omega)]
      refine fin _ _ _ _ _ _ w6 k6 hC6 i6 (Or.inr ⟨hup, unA_t _ _ _ _ _ _ _ st5, by rw [ke]; omega⟩) ?_ ?_ (s6.trans (s5.trans s4)) v4.1 (fun K hK => XU2 fun V n4 p4 r4' => x_und (x2 := x2) rfl _ (curF F4) G3 b4 e4' 0 en4 k4 n4 p4 hUI' G3Z t2 (Nat.le_refl _) r4' fun n5 p5 => ⟨fun _ r5' => hK V n5 p5 r5', fun z => absurd (st5.symm.trans z) (by decide)⟩)
      · unfold crG; rw [if_neg (by omega), if_neg (by omega), if_neg (by omega)]; exact v8
      · unfold crF; rw [if_neg (by omega), if_neg (by omega), if_neg (by omega)]; exact f7'
    | false =>
      rw [if_neg (by decide)]
      refine ⟨fun z => absurd z (by decide), fun _ w6 hw6 => ?_⟩
      subst hw6
      refine fin _ _ _ _ _ _ _ k5 (CW_3 hC5) (UI_up v1 (v6 st5)) (Or.inl (by show (1 : Int32) ≠ 0; decide)) v8 (by rw [uNn (by omega)]; exact f7') (s5.trans s4) v4.1 (fun K hK => XU2 fun V n4 p4 r4' => x_und (x2 := x2) rfl _ (curF F4) G3 b4 e4' 0 en4 k4 n4 p4 hUI' G3Z t2 (Nat.le_refl _) r4' fun n5 p5 => ⟨fun z => absurd (st5.symm.trans z) (by decide), fun _ r5' => ⟨fun _ => ⟨ivp (k := 3) (by omega) (by omega), fun v hv => ?_⟩, fun z => absurd rfl z⟩⟩)
      rw [hv]
      exact hK V _ p5 (isR_wr (k := 3) (x := 0) r5' (by unfold nk; omega))
end
