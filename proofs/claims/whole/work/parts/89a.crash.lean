/-! ===== a crash: both sides ===== -/
section
variable {m : S11} {n : Nat → Int32} {pn : Int32} {F F2 : Nat → Nat} {G G2 : Nat → Int32} {b b2 : Nat → Nat} {e f k e2 f2 : Nat} {w : S9} {P : S3} {C : S0} {R : S5} {J : S2}
def crF (F : Nat → Nat) : Nat → Nat := fun k => if 560 ≤ k ∧ k < 882 then 0 else if k = 4 then 0 else if k = 3 then 1 else F k
def crG (G : Nat → Int32) : Nat → Int32 := fun k => if 560 ≤ k ∧ k < 720 then 0 else if 882 ≤ k ∧ k < 1404 ∧ k ≠ 1394 then 0 else if k = 9 then G 9 + 1 else G k
theorem w_fill {u : Nat → Int32} {N : Nat} (hN : N < 2 ^ 31) {x : Int32} {Q : (Nat → Int32) → Prop} (q : ∀ v, (∀ i, i < N → v i = x) → (∀ i, N ≤ i → v i = u i) → Q v) : wp_J7_fill_53178 u N x Q := by
  have go : ∀ M i v, M + i = N → (∀ j, j < i → v j = x) → (∀ j, i ≤ j → v j = u j) → wp_J7_fill_53178_5 N Q (M + 1) x (nI i) (nI N) v := by
    intro M
    induction M with
    | zero =>
      intro i v hi h1 h2
      exact pk_le N i (fun _ => q v (fun j hj => h1 j (by omega)) (fun j hj => h2 j (by omega))) (fun z => by omega)
    | succ M ih =>
      intro i v hi h1 h2
      refine pk_le N i (fun z => by omega) (fun _ => ⟨ivp (by omega) hN, fun v2 hv2 y hy => ?_⟩)
      rw [nI_clamp (by omega)] at hv2
      rw [hy, nI_1, hv2]
      refine ih (i + 1) _ (by omega) (fun j hj => ?_) (fun j hj => ?_)
      · by_cases c : j = i
        · subst c; exact pk_us
        · rw [pk_un c]; exact h1 j (by omega)
      · rw [pk_un (by omega)]; exact h2 j (by omega)
  intro y hy
  exact ⟨N + 1, by rw [hy]; exact go N 0 u (by omega) (fun j hj => by omega) (fun _ _ => rfl)⟩
theorem w_fall (hC : CW w F G b e f) {mm : Nat} (hm : mm < 65536) (hf : f ≤ e) {Q : S9 → Prop} (q : ∀ w2, CW w2 (crF F) (crG G) (trB b (min e (f + mm))) (min e (f + mm)) (min e (f + mm)) → g9_script w2 = g9_script w → Q w2) : wp_X9_fall w (nI mm) Q := by
  obtain ⟨cJ, cP, cR, cC, cS, cu, cm, co, cr, cc⟩ := hC
  have hE := cJ.2.2.1
  intro J1 hJ1 J2 hJ2
  have emin : (if g2_flushedPlace (g9_journal w) + nI mm < g2_endPlace (g9_journal w) then g2_flushedPlace (g9_journal w) + nI mm else g2_endPlace (g9_journal w)) = nI (min e (f + mm)) := by
    rw [cJ.1, cJ.2.1, nI_add]
    by_cases c : f + mm < e
    · rw [if_pos (nI_lt c (by omega)), Nat.min_eq_right (by omega)]
    · rw [if_neg (fun z => c ((nI_ltI (by omega) (by omega)).mp z)), Nat.min_eq_left (by omega)]
  rw [emin] at hJ1 hJ2
  have hJ : isJ J2 (trB b (min e (f + mm))) (min e (f + mm)) (min e (f + mm)) := by
    rw [hJ2, hJ1]
    refine ⟨rfl, rfl, by omega, fun i hi => ?_, fun i => ?_, fun i hi => ?_⟩
    · show g2_row (g9_journal w) i = _
      unfold trB
      rw [if_pos hi]; exact cJ.2.2.2.1 i (by omega)
    · unfold trB
      split
      · exact cJ.2.2.2.2.1 i
      · omega
    · unfold trB
      rw [if_neg (by omega)]
  have oF : ∀ k, k < 560 ∨ 882 ≤ k → k ≠ 3 → k ≠ 4 → crF F k = F k := fun k hk h3 h4 => by unfold crF; rw [if_neg (by omega), if_neg h4, if_neg h3]
  have zF : ∀ k, 560 ≤ k → k < 882 → crF F k = 0 := fun k h1 h2 => by unfold crF; rw [if_pos ⟨h1, h2⟩]
  have oG : ∀ k, k < 560 → k ≠ 9 → crG G k = G k := fun k h1 h2 => by unfold crG; rw [if_neg (by omega), if_neg (by omega), if_neg h2]
  have zG : ∀ k, 882 ≤ k → k < 1404 → k ≠ 1394 → crG G k = 0 := fun k h1 h2 h3 => by unfold crG; rw [if_neg (by omega), if_pos ⟨h1, h2, h3⟩]
  intro w1 hw1
  refine w_fill (by omega) fun H hH1 hH2 P1 hP1 => w_fill (by omega) fun E hE1 hE2 P2 hP2 w2 hw2 => ?_
  refine w_fill (by omega) fun a1 ha1 _ R1 hR1 => w_fill (by omega) fun a2 ha2 _ R2 hR2 => w_fill (by omega) fun a3 ha3 _ R3 hR3 w3 hw3 => ?_
  refine w_fill (by omega) fun b1 hb1 _ C1 hC1 => w_fill (by omega) fun b2 hb2 _ C2 hC2 => w_fill (by omega) fun b3 hb3 _ C3 hC3 => w_fill (by omega) fun b4 hb4 _ C4 hC4 => w_fill (by omega) fun b5 hb5 _ C5 hC5 w4 hw4 w5 hw5 w6 hw6 w7 hw7 => ?_
  have h9 : g9_script w7 = g9_script w := by rw [hw7, hw6, hw5, hw4, hw3, hw2, hw1]
  have hcr : g9_crashes w7 = G 9 + 1 := by rw [hw7, hw6, hw5, hw4, hw3, hw2, hw1]; show g9_crashes w + 1 = _; rw [cc]
  refine q w7 ⟨?_, ?_, ?_, ?_, ?_, ?_, ?_, ?_, ?_, ?_⟩ h9
  · rw [hw7, hw6, hw5, hw4, hw3, hw2, hw1]; exact hJ
  · have ep : g9_pages w7 = P2 := by rw [hw7, hw6, hw5, hw4, hw3, hw2]
    rw [ep, hP2, hP1, hw1]
    obtain ⟨p1, p2, p3, p4, p5, p6, p7, p8, p9, p10⟩ := cP
    refine ⟨fun a ha => by rw [oF _ (by omega) (by omega) (by omega)]; exact p1 a ha, fun a ha => by rw [oF _ (by omega) (by omega) (by omega)]; exact p2 a ha, fun a ha => by rw [oF _ (by omega) (by omega) (by omega)]; exact p3 a ha, fun a ha => by rw [oF _ (by omega) (by omega) (by omega)]; exact p4 a ha, by rw [oG _ (by omega) (by omega)]; exact p5, by rw [oF _ (by omega) (by omega) (by omega)]; exact p6, by rw [oG _ (by omega) (by omega)]; exact p7, fun g hg => ?_, fun g hg => ?_, fun g hg hn => absurd (zF _ (by omega) (by omega)) hn⟩
    · rw [zF _ (by omega) (by omega)]
      show H g = _
      rw [hH1 g hg]; decide
    · rw [zF _ (by omega) (by omega)]
      exact hE1 g hg
  · have er : g9_roster w7 = R3 := by rw [hw7, hw6, hw5, hw4, hw3]
    rw [er, hR3, hR2, hR1]
    intro t h1 h9
    rw [zF _ (by omega) (by omega), zF _ (by omega) (by omega), zF _ (by omega) (by omega)]
    exact ⟨ha1 t (by omega), ha2 t (by omega), ha3 t (by omega)⟩
  · have ec : g9_claims w7 = C5 := by rw [hw7, hw6, hw5, hw4]
    rw [ec, hC5, hC4, hC3, hC2, hC1]
    refine ⟨fun a ha => by rw [zG _ (by omega) (by omega) (by omega)]; exact hb1 a ha, fun a ha => by rw [zG _ (by omega) (by omega) (by omega)]; exact hb2 a ha, fun t h1 h9 => ?_⟩
    rw [zG _ (by omega) (by omega) (by omega), zF _ (by omega) (by omega), zF _ (by omega) (by omega)]
    exact ⟨hb3 t (by omega), hb4 t (by omega), hb5 t (by omega), fun k hk => by omega, fun k hk => by omega⟩
  · have es : g9_standby w7 = g9_standby w := by rw [hw7, hw6, hw5, hw4, hw3, hw2, hw1]
    rw [es]
    exact RS_c cS fun j hj => oF j (by omega) (by omega) (by omega)
  · rw [hw7, hw6]
    have : crF F 3 = 1 := by unfold crF; rw [if_neg (by omega), if_neg (by omega), if_pos rfl]
    rw [this]; rfl
  · rw [hw7, hw6, hw5, hw4, hw3, hw2, hw1, oF _ (by omega) (by omega) (by omega)]; exact cm
  · rw [hw7, hw6, hw5]
    have : crF F 4 = 0 := by unfold crF; rw [if_neg (by omega), if_pos rfl]
    rw [this]; rfl
  · rw [hw7, hw6, hw5, hw4, hw3, hw2, hw1, oG _ (by omega) (by omega)]; exact cr
  · rw [hcr]
    unfold crG
    rw [if_neg (by omega), if_neg (by omega), if_pos rfl]
theorem isR_tr (h : isR n F G b e f) {e' : Nat} (h8 : 8 ≤ e') (hle : e' ≤ e) : isR (upd (upd n 0 (nI (e' - 8))) 1 (nI (e' - 8))) F G (trB b e') e' e' := by
  obtain ⟨⟨a0, a1, a2, a3, a4, a5, a6, a7, a8⟩, h2, h3, h4, h5⟩ := h
  refine ⟨⟨?_, pk_us, h8, h8, by omega, by omega, fun i hi => ?_, fun i => ?_, fun i hi => ?_⟩, fun j hj => ?_, fun j hj => ?_, ?_, h5⟩
  · rw [pk_un (by omega), pk_us]
  · unfold trB
    rw [pk_un (by omega), pk_un (by omega), if_pos hi]; exact a6 i (by omega)
  · unfold trB
    split
    · exact a7 i
    · omega
  · unfold trB; rw [if_neg (by omega)]
  · have := hj
    unfold nk at this
    rw [pk_un (by omega), pk_un (by omega)]; exact h2 j hj
  · have := hj
    unfold gk at this
    rw [pk_un (by omega), pk_un (by omega)]; exact h3 j hj
  · rw [pk_un (by omega), pk_un (by omega)]; exact h4
/-- all nine are gone -/
def goneGs (G : Nat → Int32) : Nat → Nat → Nat → Int32
  | 0, _ => G
  | N + 1, t => goneGs (goneG G t) N (t + 1)
theorem goneGs_9 (hz : ∀ k, 882 ≤ k → k < 1394 → G k &&& (-1023) = 0) {k : Nat} (hk : gk k) (hk2 : 882 ≤ k) (hn : k ≠ 1394) : goneGs G 9 1 k = 0 := by
  show goneG (goneG (goneG (goneG (goneG (goneG (goneG (goneG (goneG G 1) 2) 3) 4) 5) 6) 7) 8) 9 k = 0
  have hk3 : k < 1404 := by unfold gk at hk; omega
  by_cases c : k < 1394
  · have g : ∀ (G : Nat → Int32) t, 1 ≤ t → goneG G t k = G k &&& mskI t := fun G t ht => by unfold goneG; rw [if_neg (by omega), if_pos ⟨by omega, by omega, by omega⟩]
    rw [g _ 9 (by omega), g _ 8 (by omega), g _ 7 (by omega), g _ 6 (by omega), g _ 5 (by omega), g _ 4 (by omega), g _ 3 (by omega), g _ 2 (by omega), g _ 1 (by omega)]
    simp only [Int32.and_assoc]
    have e1 : (mskI 1 &&& (mskI 2 &&& (mskI 3 &&& (mskI 4 &&& (mskI 5 &&& (mskI 6 &&& (mskI 7 &&& (mskI 8 &&& mskI 9)))))))) = -1023 := by decide
    rw [e1]; exact hz k hk2 c
  · have g0 : ∀ (G : Nat → Int32) t, k = 1394 + t → goneG G t k = 0 := fun G t ht => by unfold goneG; rw [if_pos ht]
    have gz : ∀ (G : Nat → Int32) t, 1 ≤ t → G k = 0 → goneG G t k = 0 := fun G t ht hG => by
      unfold goneG
      by_cases d : k = 1394 + t
      · rw [if_pos d]
      · rw [if_neg d, if_pos ⟨by omega, by omega, by omega⟩, hG]; exact Int32.zero_and
    have : k = 1395 ∨ k = 1396 ∨ k = 1397 ∨ k = 1398 ∨ k = 1399 ∨ k = 1400 ∨ k = 1401 ∨ k = 1402 ∨ k = 1403 := by omega
    rcases this with z | z | z | z | z | z | z | z | z
    · exact gz _ 9 (by omega) (gz _ 8 (by omega) (gz _ 7 (by omega) (gz _ 6 (by omega) (gz _ 5 (by omega) (gz _ 4 (by omega) (gz _ 3 (by omega) (gz _ 2 (by omega) (g0 _ 1 (by omega)))))))))
    · exact gz _ 9 (by omega) (gz _ 8 (by omega) (gz _ 7 (by omega) (gz _ 6 (by omega) (gz _ 5 (by omega) (gz _ 4 (by omega) (gz _ 3 (by omega) (g0 _ 2 (by omega))))))))
    · exact gz _ 9 (by omega) (gz _ 8 (by omega) (gz _ 7 (by omega) (gz _ 6 (by omega) (gz _ 5 (by omega) (gz _ 4 (by omega) (g0 _ 3 (by omega)))))))
    · exact gz _ 9 (by omega) (gz _ 8 (by omega) (gz _ 7 (by omega) (gz _ 6 (by omega) (gz _ 5 (by omega) (g0 _ 4 (by omega))))))
    · exact gz _ 9 (by omega) (gz _ 8 (by omega) (gz _ 7 (by omega) (gz _ 6 (by omega) (g0 _ 5 (by omega)))))
    · exact gz _ 9 (by omega) (gz _ 8 (by omega) (gz _ 7 (by omega) (g0 _ 6 (by omega))))
    · exact gz _ 9 (by omega) (gz _ 8 (by omega) (g0 _ 7 (by omega)))
    · exact gz _ 9 (by omega) (g0 _ 8 (by omega))
    · exact g0 _ 9 (by omega)
theorem goneGs_lo : ∀ N t (G : Nat → Int32) k, 1 ≤ t → N + t ≤ 10 → k < 882 → goneGs G N t k = G k := by
  intro N
  induction N with
  | zero => intro t G k _ _ _; rfl
  | succ N ih =>
    intro t G k h1 h2 hk
    show goneGs (goneG G t) N (t + 1) k = _
    rw [ih (t + 1) _ k (by omega) (by omega) hk, goneG_o h1 (by omega) (by omega)]
theorem x_cr2 {Q : S11 → Prop} {F0 : Nat → Nat} (h9 : ∀ n2 F3 G3, isR n2 F3 G3 b e f → (∀ j, F3 j = if 720 ≤ j ∧ j < 882 then 0 else F0 j) → (∀ j, gk j → G3 j = goneGs G 9 1 j) → wp_X11_crashes_52 Q 1 (nI 10) (mS m n2 pn)) : ∀ N t n F2 G2, N + t = 10 → 1 ≤ t → isR n F2 G2 b e f → (∀ j, F2 j = if 720 ≤ j ∧ j < 702 + 18 * t then 0 else F0 j) → goneGs G2 N t = goneGs G 9 1 → wp_X11_crashes_52 Q (N + 1) (nI t) (mS m n pn) := by
  intro N
  induction N with
  | zero =>
    intro t n F2 G2 ht _ h hF hG
    obtain rfl : t = 10 := by omega
    exact h9 n F2 G2 h hF (fun j _ => by rw [← hG]; rfl)
  | succ N ih =>
    intro t n F2 G2 ht h1 h hF hG
    refine pk_lt 9 t (fun z => by omega) (fun _ => x_isGone h h1 (by omega) fun n2 r2 y hy => ?_)
    rw [hy, nI_1]
    refine ih (t + 1) n2 _ _ (by omega) (by omega) r2 (fun j => ?_) hG
    unfold goneF
    rw [hF j]
    by_cases c : 702 + 18 * t ≤ j ∧ j < 720 + 18 * t
    · rw [if_pos c, if_pos (by omega)]
    · rw [if_neg c]
      by_cases d : 720 ≤ j ∧ j < 702 + 18 * t
      · rw [if_pos d, if_pos (by omega)]
      · rw [if_neg d, if_neg (by omega)]
theorem x_crashes (h : isR n F G b e f) (hf : f ≤ e) {mm : Nat} (hm : mm < 65536) {Q : S11 → Prop} (q : ∀ n2, isR n2 (crF F) (crG G) (trB b (min e (f + mm))) (min e (f + mm)) (min e (f + mm)) → Q (mS m n2 pn)) : wp_X11_crashes (mS m n pn) (nI mm) Q := by
  have hE := h.1.2.2.2.2.1
  have h8 := h.1.2.2.2.1
  generalize hee : min e (f + mm) = e' at q
  have he8 : 8 ≤ e' ∧ e' ≤ e := by omega
  have hz := h.2.2.2.2
  refine x_end1 (m := mS m n pn) h.1 (x_flushed (m := mS m n pn) h.1 ?_)
  have fin : wp_X11_isEnd (mS m n pn) (nI e') (fun v => wp_X11_end1 v (fun r => wp_X11_isFlushed v r (fun v2 => ∃ N, wp_X11_crashes_30 Q N 560 v2))) := by
    refine ⟨ivp (k := 0) (by omega) (by omega), fun v hv => ?_⟩
    have e1 : nI e' - 8 = nI (e' - 8) := pk_sub (b := 8) (by omega)
    rw [e1] at hv
    refine ⟨ivp (k := 0) (by omega) (by omega), ⟨ivp (k := 1) (by omega) (by omega), fun v2 hv2 => ⟨161, ?_⟩⟩⟩
    have e2 : g11_now v (0 : Int32).toNatClampNeg + 8 - 8 = nI (e' - 8) := by
      rw [hv]
      show upd n 0 (nI (e' - 8)) 0 + 8 - 8 = _
      rw [pk_us, Int32.add_sub_cancel]
    rw [e2, hv] at hv2
    rw [hv2]
    have r0 := isR_tr h he8.1 he8.2
    -- frames
    have go : ∀ N i n2 F2 G2, N + i = 720 → 560 ≤ i → isR n2 F2 G2 (trB b e') e' e' → (∀ j, F2 j = if 560 ≤ j ∧ j < i then (if (j - 560) % 20 = 3 then F j else 0) else F j) → (∀ j, G2 j = if 560 ≤ j ∧ j < i ∧ (j - 560) % 20 = 3 then 0 else G j) → wp_X11_crashes_30 Q (N + 1) (nI i) (mS m n2 pn) := by
      intro N
      induction N with
      | zero =>
        intro i n2 F2 G2 hi h1 hR hF hG
        obtain rfl : i = 720 := by omega
        refine pk_le 720 720 (fun _ => ⟨10, ?_⟩) (fun z => by omega)
        refine x_cr2 (G := G2) (F0 := F2) (fun n3 F3 G3 r3 hF3 hG3 => ?_) 9 1 n2 F2 G2 (by omega) (by omega) hR (fun j => by rw [if_neg (by omega)]) rfl
        refine pk_lt 9 10 (fun _ => ⟨ivp (k := 4) (by omega) (by omega), fun v4 hv4 => ⟨ivp (k := 3) (by omega) (by omega), fun v5 hv5 => ⟨ivp (k := 9) (by omega) (by omega), ivp (k := 9) (by omega) (by omega), fun v6 hv6 => ?_⟩⟩⟩) (fun z => by omega)
        have q1 := isR_wr (k := 4) (x := 0) r3 (by unfold nk; omega)
        have q2 := isR_wr (k := 3) (x := 1) q1 (by unfold nk; omega)
        have g9 : g11_now v5 (9 : Int32).toNatClampNeg = G 9 := by
          rw [hv5, hv4, show (9 : Int32).toNatClampNeg = 9 by decide]
          show upd (upd n3 4 0) 3 1 9 = _
          rw [pk_un (by omega), pk_un (by omega), r3.2.2.1 9 (by unfold gk; omega), hG3 9 (by unfold gk; omega), goneGs_lo 9 1 G2 9 (by omega) (by omega) (by omega), hG, if_neg (by omega)]
        rw [g9] at hv6
        have q3 := isR_wg (k := 9) (x := G 9 + 1) q2 (by unfold gk; omega)
        rw [hv6, hv5, hv4]
        have q4 : isR (upd (upd (upd n3 4 (nI 0)) 3 (nI 1)) 9 (G 9 + 1)) (crF F) (crG G) (trB b e') e' e' := by
          refine ⟨q3.1, fun j hj => ?_, fun j hj => ?_, ?_, fun j j1 j2 => ?_⟩
          · rw [q3.2.1 j hj]
            congr 1
            unfold crF
            by_cases c3 : j = 3
            · rw [c3, uNs, if_neg (by omega), if_neg (by omega), if_pos rfl]
            · rw [uNn c3]
              by_cases c4 : j = 4
              · rw [c4, uNs, if_neg (by omega), if_pos rfl]
              · rw [uNn c4, hF3 j, hF j]
                have hj2 := hj
                unfold nk at hj2
                by_cases d1 : 720 ≤ j ∧ j < 882
                · rw [if_pos d1, if_pos (by omega)]
                · rw [if_neg d1]
                  by_cases d2 : 560 ≤ j ∧ j < 720
                  · rw [if_pos d2, if_neg (show ¬ (j - 560) % 20 = 3 by omega), if_pos (show 560 ≤ j ∧ j < 882 by omega)]
                  · rw [if_neg d2, if_neg (by omega), if_neg c4, if_neg c3]
          · rw [q3.2.2.1 j hj]
            unfold crG
            by_cases c9 : j = 9
            · rw [c9, pk_us, if_neg (by omega), if_neg (by omega), if_pos rfl]
            · rw [pk_un c9, hG3 j hj]
              have hj2 := hj
              unfold gk at hj2
              by_cases d1 : 882 ≤ j
              · by_cases d2 : j = 1394
                · have e5 : ∀ (H : Nat → Int32) t, 1 ≤ t → goneG H t 1394 = H 1394 := fun H t ht => by unfold goneG; rw [if_neg (by omega), if_neg (by omega)]
                  have e6 : goneGs G2 9 1 1394 = G2 1394 := by
                    show goneG (goneG (goneG (goneG (goneG (goneG (goneG (goneG (goneG G2 1) 2) 3) 4) 5) 6) 7) 8) 9 1394 = _
                    rw [e5 _ 9 (by omega), e5 _ 8 (by omega), e5 _ 7 (by omega), e5 _ 6 (by omega), e5 _ 5 (by omega), e5 _ 4 (by omega), e5 _ 3 (by omega), e5 _ 2 (by omega), e5 _ 1 (by omega)]
                  rw [d2, e6, hG, if_neg (by omega), if_neg (by omega), if_neg (by omega), if_neg (by omega)]
                · rw [if_neg (by omega), if_pos ⟨d1, by omega, d2⟩]
                  refine goneGs_9 (fun i i1 i2 => ?_) hj d1 d2
                  rw [hG, if_neg (by omega)]; exact hz i i1 i2
              · rw [goneGs_lo 9 1 G2 j (by omega) (by omega) (by omega), hG]
                by_cases d2 : 560 ≤ j ∧ j < 720
                · rw [if_pos (by omega), if_pos d2]
                · rw [if_neg (by omega), if_neg d2, if_neg (by omega), if_neg c9]
          · rw [q3.2.2.2.1]
            congr 2
            rw [uNn (by omega), uNn (by omega), hF3 5, if_neg (by omega), hF 5, if_neg (by omega)]
            unfold crF
            rw [if_neg (by omega), if_neg (by omega), if_neg (by omega)]
          · unfold crG
            rw [if_neg (by omega), if_pos (by omega)]; decide
        exact q _ q4
      | succ N ih =>
        intro i n2 F2 G2 hi h1 hR hF hG
        refine pk_le 720 i (fun z => by omega) (fun _ => ⟨ivp (by omega) (by omega), fun v3 hv3 y hy => ?_⟩)
        rw [nI_clamp (by omega)] at hv3
        rw [hy, nI_1, hv3]
        by_cases c : (i - 560) % 20 = 3
        · refine ih (i + 1) _ F2 (upd G2 i 0) (by omega) (by omega) (isR_wg hR (by unfold gk; omega)) (fun j => ?_) (fun j => ?_)
          · rw [hF j]
            by_cases d : 560 ≤ j ∧ j < i
            · rw [if_pos d, if_pos (show 560 ≤ j ∧ j < i + 1 by omega)]
            · rw [if_neg d]
              by_cases d2 : j = i
              · rw [d2, if_pos (show 560 ≤ i ∧ i < i + 1 by omega), if_pos c]
              · rw [if_neg (by omega)]
          · by_cases d : j = i
            · rw [d, pk_us, if_pos (by omega)]
            · rw [pk_un d, hG j]
              by_cases d2 : 560 ≤ j ∧ j < i ∧ (j - 560) % 20 = 3
              · rw [if_pos d2, if_pos (by omega)]
              · rw [if_neg d2, if_neg (by omega)]
        · refine ih (i + 1) _ (updN F2 i 0) G2 (by omega) (by omega) (isR_wr (x := 0) hR (by unfold nk; omega)) (fun j => ?_) (fun j => ?_)
          · by_cases d : j = i
            · rw [d, uNs, if_pos (show 560 ≤ i ∧ i < i + 1 by omega), if_neg c]
            · rw [uNn d, hF j]
              by_cases d2 : 560 ≤ j ∧ j < i
              · rw [if_pos d2, if_pos (show 560 ≤ j ∧ j < i + 1 by omega)]
              · rw [if_neg d2, if_neg (by omega)]
          · rw [hG j]
            by_cases d2 : 560 ≤ j ∧ j < i ∧ (j - 560) % 20 = 3
            · rw [if_pos d2, if_pos (by omega)]
            · rw [if_neg d2, if_neg (fun z => d2 ⟨z.1, by have := z.2.1; have := z.2.2; by_cases y : j = i; rw [y] at this; exact absurd this c; omega, z.2.2⟩)]
    exact go 160 560 _ F G (by omega) (by omega) r0 (fun j => by rw [if_neg (by omega)]) (fun j => by rw [if_neg (by omega)])
  rw [nI_add]
  refine pk_le (f + mm) e (fun c => ?_) (fun c => ?_)
  · rw [show e' = f + mm by omega] at fin; exact fin
  · rw [show e' = e by omega] at fin; exact fin
theorem cr_IV (hI : IB F b e f k) {mm : Nat} : ∃ k2, IV (crF F) (crG G) (trB b (min e (f + mm))) (min e (f + mm)) (min e (f + mm)) k2 := by
  obtain ⟨ib, iy, iF, iL, i5, i6, i7, i8, i9, i10⟩ := hI
  generalize hee : min e (f + mm) = e'
  have he8 : f ≤ e' ∧ e' ≤ e := by omega
  obtain ⟨k2, t1, t2, t3, t4⟩ := LogOK_tr iL (show 8 ≤ e' by omega) he8.2
  have ag : ∀ i, i < wlk b k2 → trB b e' i = b i := fun i hi => by unfold trB; rw [if_pos (by omega)]
  have oF : ∀ j, j < 560 ∨ 882 ≤ j → j ≠ 3 → j ≠ 4 → crF F j = F j := fun k hk h3 h4 => by unfold crF; rw [if_neg (by omega), if_neg h4, if_neg h3]
  have zF : ∀ j, 560 ≤ j → j < 882 → crF F j = 0 := fun k h1 h2 => by unfold crF; rw [if_pos ⟨h1, h2⟩]
  refine ⟨k2, ⟨fun i => ?_, ⟨fun j j1 j2 => by rw [oF _ (by omega) (by omega) (by omega)]; exact iy.1 j j1 j2, fun j j1 j2 => by rw [oF _ (by omega) (by omega) (by omega)]; exact iy.2.1 j j1 j2, fun g j j1 j2 => by rw [zF _ (by omega) (by omega)]; omega, fun j j1 j2 => by rw [oF _ (by omega) (by omega) (by omega)]; exact iy.2.2.2 j j1 j2⟩, ⟨by rw [oF 5 (by omega) (by omega) (by omega)]; exact iF.1, fun g hg => by rw [zF _ (by omega) (by omega)]; exact ⟨by omega, fun _ => rfl⟩, fun g hg hz => absurd (zF _ (by omega) (by omega)) hz, fun g h hg hh _ hn => absurd (zF _ (by omega) (by omega)) hn⟩, t2, ⟨by omega, Nat.le_refl _⟩, ?_, Or.inl ?_, ?_, ?_, ?_⟩, Or.inr ⟨?_, rfl, zF, fun j j1 j2 j3 => ?_, ?_⟩⟩
  · unfold crF
    split
    · omega
    · split
      · omega
      · split
        · omega
        · exact ib i
  · rw [oF 2 (by omega) (by omega) (by omega)]
    rcases i6 with z | ⟨jm, je, j1, j2, j3, j4, j5⟩
    · exact Or.inl z
    · have hje : je + 1 ≤ k2 := t4 (je + 1) (by omega) (by omega)
      refine Or.inr ⟨jm, je, j1, by omega, by rw [wlk_agr ag jm (by omega)]; exact j3, ?_, by rw [wlk_agr ag (je + 1) hje]; omega⟩
      rw [wlk_agr ag je (by omega), ag _ (wlk_lt (by omega))]; exact j4
  · unfold crF; rw [if_neg (by omega), if_pos rfl]
  · rw [oF 12 (by omega) (by omega) (by omega)]
    obtain ⟨j, j1, j2⟩ := i8
    have hj := t4 j j1 (by omega)
    exact ⟨j, hj, by rw [wlk_agr ag j hj]; exact j2⟩
  · rw [oF 12 (by omega) (by omega) (by omega), oF 11 (by omega) (by omega) (by omega)]; exact i9
  · rw [oF 11 (by omega) (by omega) (by omega)]; omega
  · unfold crF; rw [if_neg (by omega), if_neg (by omega), if_pos rfl]
  · unfold crG; rw [if_neg (by omega), if_pos ⟨j1, j2, j3⟩]
  · unfold crF; rw [if_neg (by omega), if_pos rfl]
end
