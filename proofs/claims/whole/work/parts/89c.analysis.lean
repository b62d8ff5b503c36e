/-! ===== analysis: what a record tells; one record on the reference's side ===== -/
section
variable {m : S11} {n : Nat → Int32} {pn : Int32} {F F2 : Nat → Nat} {G G2 : Nat → Int32} {b b2 : Nat → Nat} {e f k e2 f2 : Nat} {w : S9} {P : S3} {C : S0} {R : S5} {J : S2} {U : Nat → Nat}
theorem x_two' {i : Nat} {x : Int32} (h : isM (g11_now m) b e f) (hx : x = nI i) (hi : i + 1 < e) {Q : Int32 → Prop} (q : Q (nI (pr2 b i))) : wp_X11_two m x Q := by rw [hx]; exact x_two h hi q
theorem leg_b (hL : LogOK b e k) {j : Nat} (hj : j < k) : b (wlk b j + 2) ≤ 9 ∧ (b (wlk b j + 2) = 0 ↔ b (wlk b j) = 8 ∨ b (wlk b j) = 10) ∧ (b (wlk b j) = 1 → (rp b j (b (wlk b j + 2))).1 = 0) ∧ (b (wlk b j) ≠ 1 → b (wlk b j) ≠ 7 → b (wlk b j + 2) ≠ 0 → (rp b j (b (wlk b j + 2))).1 = 1 ∨ (rp b j (b (wlk b j + 2))).1 = 2) ∧
    (b (wlk b j) = 10 → b (wlk b j + 5) ≤ 9 ∧ b (wlk b j + 6 + 4 * b (wlk b j + 5)) ≤ 8 ∧ wlk b j + 8 + 4 * b (wlk b j + 5) + 3 * b (wlk b j + 6 + 4 * b (wlk b j + 5)) ≤ e ∧
      (∀ i, i < b (wlk b j + 5) → 1 ≤ b (wlk b j + 6 + 4 * i) ∧ b (wlk b j + 6 + 4 * i) ≤ 9 ∧ b (wlk b j + 7 + 4 * i) = (rp b j (b (wlk b j + 6 + 4 * i))).1 ∧ 1 ≤ b (wlk b j + 7 + 4 * i) ∧ b (wlk b j + 7 + 4 * i) ≤ 2 ∧ pr2 b (wlk b j + 8 + 4 * i) = (rp b j (b (wlk b j + 6 + 4 * i))).2) ∧
      (∀ t, 1 ≤ t → t ≤ 9 → (rp b j t).1 ≠ 0 → ∃ i, i < b (wlk b j + 5) ∧ b (wlk b j + 6 + 4 * i) = t) ∧
      ∀ i, i < b (wlk b j + 6 + 4 * b (wlk b j + 5)) → b (wlk b j + 6 + 4 * b (wlk b j + 5) + 1 + 3 * i) < 16 ∧ St b j (pr2 b (wlk b j + 6 + 4 * b (wlk b j + 5) + 2 + 3 * i))) := by
  obtain ⟨h6, h68, h3, h4, hv⟩ := rec_rd hL hj
  have hl := hL.2.1 j hj
  obtain ⟨k1, k2, k3⟩ := Leg_len hl
  obtain ⟨-, ⟨l1, l2, -⟩, l3, l4, -, l6, -, -, l10⟩ := hl
  generalize wlk b j = s at *
  have e0 : rv b s 0 = b s := hv 0 (by omega)
  have e1 : rv b s 1 = b (s + 1) := hv 1 (by omega)
  have e2 : rv b s 2 = b (s + 2) := hv 2 (by omega)
  have e5 : rv b s 5 = b (s + 5) := hv 5 (by omega)
  rw [e2] at l1
  rw [e0, e2] at l2 l3 l4 l6
  refine ⟨l1, l2, l3, fun z1 z7 z2 => ?_, fun z => ?_⟩
  · rw [e0] at k1
    have hn8 : b s ≠ 8 ∧ b s ≠ 10 := ⟨fun z => z2 (l2.mpr (Or.inl z)), fun z => z2 (l2.mpr (Or.inr z))⟩
    by_cases c4 : b s = 4
    · exact (l6 c4).1
    · exact Or.inl (l4 (by omega))
  · have kk := k3 (by rw [e0]; exact z)
    obtain ⟨⟨q1, q2⟩, q3, q4, q5⟩ := l10 (by rw [e0]; exact z)
    rw [e5] at kk q1 q2 q3 q4 q5
    rw [e1] at kk
    have e6 : rv b s (6 + 4 * b (s + 5)) = b (s + 6 + 4 * b (s + 5)) := by rw [hv _ (by omega)]; congr 1; omega
    rw [e6] at kk q2 q5
    refine ⟨q1, q2, by omega, fun i hi => ?_, fun t t1 t9 tn => ?_, fun i hi => ?_⟩
    · have := q3 i hi
      have r0 : rv b s (6 + 4 * i) = b (s + 6 + 4 * i) := by rw [hv _ (by omega)]; congr 1; omega
      have r1 : rv b s (7 + 4 * i) = b (s + 7 + 4 * i) := by rw [hv _ (by omega)]; congr 1; omega
      have r2 : pr2 (rv b s) (8 + 4 * i) = pr2 b (s + 8 + 4 * i) := by unfold pr2; rw [hv _ (by omega), hv _ (by omega)]; congr 2 <;> first | omega | (congr 1; omega)
      rw [r0, r1, r2] at this
      exact this
    · obtain ⟨i, i1, i2⟩ := q4 t t1 t9 tn
      refine ⟨i, i1, ?_⟩
      rw [← i2, hv _ (by omega)]; congr 1; omega
    · have := q5 i hi
      have r0 : rv b s (7 + 4 * b (s + 5) + 3 * i) = b (s + 6 + 4 * b (s + 5) + 1 + 3 * i) := by rw [hv _ (by omega)]; congr 1; omega
      have r2 : pr2 (rv b s) (8 + 4 * b (s + 5) + 3 * i) = pr2 b (s + 6 + 4 * b (s + 5) + 2 + 3 * i) := by unfold pr2; rw [hv _ (by omega), hv _ (by omega)]; congr 2 <;> first | omega | (congr 1; omega)
      rw [r0, r2] at this
      exact this
theorem u10_b {q : Nat} (h5 : ∀ i, b i < 256) : ∀ N i U, (∀ p, U p < 65536) → ∀ p, u10 b q N i U p < 65536 := by
  intro N
  induction N with
  | zero => intro i U h p; exact h p
  | succ N ih =>
    intro i U h p
    unfold u10
    refine ih (i + 1) _ (fun p => ?_) p
    split
    · exact updN_b h (pr2_lt h5 _) p
    · exact h p
theorem t10_b {s : Nat} (h5 : ∀ i, b i < 256) : ∀ N i F, (∀ p, F p < 65536) → ∀ p, t10 b s N i F p < 65536 := by
  intro N
  induction N with
  | zero => intro i F h p; exact h p
  | succ N ih =>
    intro i F h p
    unfold t10
    refine ih (i + 1) _ (fun p => ?_) p
    split
    · exact updN_b (updN_b h (by have := h5 (s + 7 + 4 * i); omega)) (pr2_lt h5 _) p
    · exact h p
theorem w_markTold (hJ : isJ J b e f) {q : Nat} (hq : q < 10000) (hp : ∀ i, i < b q → b (q + 1 + 3 * i) < 16) {r : S4} (h : RU (g4_unclean r) U) (hU : ∀ p, U p < 65536) {Q : S4 → Prop} (qq : ∀ V, RU V (u10 b q (b q) 0 U) → Q (s4_unclean r V)) : wp_X4_markTold r J (nI q) Q := by
  have h5 := hJ.2.2.2.2.1
  have bq := h5 q
  have go : ∀ N i U V, N + i = b q → RU V U → (∀ p, U p < 65536) → (∀ V, RU V (u10 b q N i U) → Q (s4_unclean r V)) → wp_X4_markTold_9 J Q (N + 1) (nI q) (nI (b q)) (nI i) (s4_unclean r V) := by
    intro N
    induction N with
    | zero =>
      intro i U V hi hR hU qq
      exact pk_le (b q) i (fun _ => qq V hR) (fun z => by omega)
    | succ N ih =>
      intro i U V hi hR hU qq
      have e1 : nI q + 1 + 3 * nI i = nI (q + 1 + 3 * i) := by rw [nI_1]; show _ + nI 3 * nI i = _; rw [pk_mul, nI_add]
      have e2 : nI q + 2 + 3 * nI i = nI (q + 2 + 3 * i) := by show nI q + nI 2 + nI 3 * nI i = _; rw [pk_mul, nI_add, nI_add]
      refine pk_le (b q) i (fun z => by omega) (fun _ => w_byteAt' hJ e1 (by omega) ?_)
      rw [e2]
      refine w_pairAt hJ (by omega) (w_markUnclean (r := s4_unclean r V) hR hU (hp i (by omega)) (pr2_lt h5 _) fun V2 hV2 y hy => ?_)
      rw [hy, nI_1]
      refine ih (i + 1) _ V2 (by omega) hV2 (fun p => ?_) qq
      split
      · exact updN_b hU (pr2_lt h5 _) p
      · exact hU p
  exact w_byteAt (i := q) hJ (by omega) ⟨b q + 1, go (b q) 0 U (g4_unclean r) (by omega) h hU qq⟩
/-- the reference's state with its row of unclean pages -/
abbrev mU (m : S11) (V : Nat → Int32) : S11 := s11_unclean m V
theorem x_u10 (h : isR n F G b e f) {q : Nat} (hq : q + 1 + 3 * b q ≤ e) (hp : ∀ i, i < b q → b (q + 1 + 3 * i) < 16) {Q : S11 → Prop} : ∀ N i U V, N + i = b q → RU V U → (∀ p, U p < 65536) → (∀ V, RU V (u10 b q N i U) → Q (mS (mU m V) n pn)) → wp_X11_analyses_259 Q (N + 1) (nI (q + 1 + 3 * i)) (nI (b q)) (nI i) (mS (mU m V) n pn) := by
  have h5 := h.1.2.2.2.2.2.2.2.1
  have hE := h.1.2.2.2.2.1
  have bq := h5 q
  intro N
  induction N with
  | zero =>
    intro i U V hi hR hU qq
    exact pk_le (b q) i (fun _ => qq V hR) (fun z => by omega)
  | succ N ih =>
    intro i U V hi hR hU qq
    have hpi := hp i (by omega)
    have hUp := hU (b (q + 1 + 3 * i))
    have hrc := pr2_lt h5 (q + 2 + 3 * i)
    unfold u10 at qq
    refine pk_le (b q) i (fun z => by omega) (fun _ => x_logByte (m := mS (mU m V) n pn) h.1 (by omega) ?_)
    refine x_two' (m := mS (mU m V) n pn) (i := q + 2 + 3 * i) h.1 (by rw [nI_1]; congr 1; omega) (by omega) ?_
    show vp_in (nI (b (q + 1 + 3 * i))) 16 ∧ ((V (nI (b (q + 1 + 3 * i))).toNatClampNeg = 0 → _) ∧ (¬ V (nI (b (q + 1 + 3 * i))).toNatClampNeg = 0 → vp_in (nI (b (q + 1 + 3 * i))) 16 ∧ ((V (nI (b (q + 1 + 3 * i))).toNatClampNeg ≤ nI (pr2 b (q + 2 + 3 * i)) → _) ∧ (¬ V (nI (b (q + 1 + 3 * i))).toNatClampNeg ≤ nI (pr2 b (q + 2 + 3 * i)) → _))))
    have nx : ∀ V2, RU V2 (if U (b (q + 1 + 3 * i)) = 0 ∨ pr2 b (q + 2 + 3 * i) < U (b (q + 1 + 3 * i)) then updN U (b (q + 1 + 3 * i)) (pr2 b (q + 2 + 3 * i)) else U) → wp_X11_analyses_315 (fun x4 x5 x6 u0 => wp_X11_analyses_259 Q (N + 1) x4 x5 x6 u0) Q (nI (q + 1 + 3 * i)) (nI (b q)) (nI i) (mS (mU m V2) n pn) := by
      intro V2 hV2 y hy y2 hy2
      rw [hy, hy2, nI_1, show nI (q + 1 + 3 * i) + 3 = nI (q + 1 + 3 * (i + 1)) by show _ + nI 3 = _; rw [nI_add]; rfl]
      refine ih (i + 1) _ V2 (by omega) hV2 (fun p => ?_) qq
      split
      · exact updN_b hU hrc p
      · exact hU p
    rw [nI_clamp (by omega), hR _ hpi]
    have st : (U (b (q + 1 + 3 * i)) = 0 ∨ pr2 b (q + 2 + 3 * i) < U (b (q + 1 + 3 * i))) → wp_X11_analyses_306 (fun x4 x5 x6 u0 => wp_X11_analyses_315 (fun x4 x5 x6 u0 => wp_X11_analyses_259 Q (N + 1) x4 x5 x6 u0) Q x4 x5 x6 u0) Q (nI (q + 1 + 3 * i)) (nI (b q)) (nI i) (nI (b (q + 1 + 3 * i))) (nI (pr2 b (q + 2 + 3 * i))) (mS (mU m V) n pn) := by
      intro hc
      refine ⟨ivp hpi (by omega), fun v hv => ?_⟩
      rw [nI_clamp (by omega)] at hv
      rw [hv]
      exact nx (upd V (b (q + 1 + 3 * i)) (nI (pr2 b (q + 2 + 3 * i)))) (by rw [if_pos hc]; exact RU_u hR)
    refine ⟨ivp hpi (by omega), pk_eq (U (b (q + 1 + 3 * i))) 0 (fun z => st (Or.inl z)) (fun z => ⟨ivp hpi (by omega), pk_le (U (b (q + 1 + 3 * i))) (pr2 b (q + 2 + 3 * i)) (fun c => nx V (by rw [if_neg (by omega)]; exact hR)) (fun c => st (Or.inr c))⟩)⟩
theorem x_t10 {s : Nat} (hs : s + 7 + 4 * b (s + 5) ≤ e) (hp : ∀ i, i < b (s + 5) → 1 ≤ b (s + 6 + 4 * i) ∧ b (s + 6 + 4 * i) ≤ 9) {V : Nat → Int32} {Q : S11 → Prop} : ∀ N i F n, N + i = b (s + 5) → (∀ j, F j < 65536) → isR n F G b e f → (∀ n2, isR n2 (t10 b s N i F) G b e f → wp_X11_logByte (mS (mU m V) n2 pn) (nI (s + 6 + 4 * b (s + 5))) (fun r_9 => ∀ x4_10 : Int32, x4_10 = nI (s + 6 + 4 * b (s + 5)) + 1 → (∃ n_11, wp_X11_analyses_259 Q n_11 x4_10 r_9 0 (mS (mU m V) n2 pn)))) → wp_X11_analyses_159 Q (N + 1) (nI s) (nI (s + 6 + 4 * i)) (nI i) (mS (mU m V) n pn) := by
  intro N
  induction N with
  | zero =>
    intro i F n hi hb h q
    have h5 := h.1.2.2.2.2.2.2.2.1 (s + 5)
    obtain rfl : i = b (s + 5) := by omega
    exact x_logByte' (i := s + 5) (m := mS (mU m V) n pn) h.1 (nI_add s 5) (by omega) (pk_le (b (s + 5)) (b (s + 5)) (fun _ => q n h) (fun z => by omega))
  | succ N ih =>
    intro i F n hi hb h q
    have h5 := h.1.2.2.2.2.2.2.2.1
    have hE := h.1.2.2.2.2.1
    have b5 := h5 (s + 5)
    have b7 := h5 (s + 7 + 4 * i)
    obtain ⟨t1, t9⟩ := hp i (by omega)
    have hbt := hb (702 + 18 * b (s + 6 + 4 * i))
    unfold t10 at q
    have nx : ∀ n2, isR n2 (if F (702 + 18 * b (s + 6 + 4 * i)) = 0 then setF F (b (s + 6 + 4 * i)) (b (s + 7 + 4 * i)) (pr2 b (s + 8 + 4 * i)) else F) G b e f → wp_X11_analyses_230 (fun x1 x4 x5 u0 => wp_X11_analyses_159 Q (N + 1) x1 x4 x5 u0) Q (nI s) (nI (s + 6 + 4 * i)) (nI i) (mS (mU m V) n2 pn) := by
      intro n2 h2 y hy y2 hy2
      rw [hy, hy2, nI_1, show nI (s + 6 + 4 * i) + 4 = nI (s + 6 + 4 * (i + 1)) by show _ + nI 4 = _; rw [nI_add]; rfl]
      refine ih (i + 1) _ n2 (by omega) (fun p => ?_) h2 q
      split
      · exact updN_b (updN_b hb (by omega)) (pr2_lt h5 _) p
      · exact hb p
    refine x_logByte' (i := s + 5) (m := mS (mU m V) n pn) h.1 (nI_add s 5) (by omega) (pk_le (b (s + 5)) i (fun z => by omega) (fun _ => x_logByte (m := mS (mU m V) n pn) h.1 (by omega) (x_isOf h t1 t9 (pk_eq (F (702 + 18 * b (s + 6 + 4 * i))) 0 (fun z => ?_) (fun z => nx n (by rw [if_neg z]; exact h))))))
    simp only [wp_X11_txAt]
    refine x_logByte' (i := s + 7 + 4 * i) (m := mS (mU m V) n pn) h.1 (by rw [nI_1]; congr 1; omega) (by omega) ?_
    refine x_wtx (j := 0) (v := b (s + 7 + 4 * i)) h t1 t9 (by omega) fun n2 r2 => ?_
    refine x_two' (m := mS (mU m V) n2 pn) (i := s + 8 + 4 * i) r2.1 (by show _ + nI 2 = _; rw [nI_add]; congr 1; omega) (by omega) ?_
    exact x_wtx (j := 1) (v := pr2 b (s + 8 + 4 * i)) r2 t1 t9 (by omega) fun n3 r3 => nx n3 (by rw [if_pos z]; unfold setF; rw [show 703 + 18 * b (s + 6 + 4 * i) = 702 + 18 * b (s + 6 + 4 * i) + 1 by omega]; exact r3)
theorem x_analyses (h : isR n F G b e f) (hG : ∀ j, 882 ≤ j → j < 1404 → j ≠ 1394 → G j = 0) (hb : ∀ j, F j < 65536) (hL : LogOK b e k) {j : Nat} (hj : j < k) {V : Nat → Int32} (hV : RU V U) (hU : ∀ p, U p < 65536) {Q : S11 → Prop} (q : ∀ n2 V2, isR n2 (an1F b (wlk b j) F) G b e f → RU V2 (an1U b (wlk b j) U) → Q (mS (mU m V2) n2 pn)) : wp_X11_analyses (mS (mU m V) n pn) (nI (wlk b j)) Q := by
  have h5 := h.1.2.2.2.2.2.2.2.1
  have hE := h.1.2.2.2.2.1
  obtain ⟨l9, l0, l1, l2, l10⟩ := leg_b hL hj
  obtain ⟨h6, h68, h3, h4, hv⟩ := rec_rd hL hj
  have h8 := wlk_8 (b := b) j
  have hin : wlk b j + 6 ≤ e := by omega
  have htc : tch b (wlk b j) = true → wlk b j + 8 ≤ e := fun z => (tch_in hL hj z).1
  generalize hs : wlk b j = s at *
  have b0 := h5 s
  have b2 := h5 (s + 2)
  have b5 := h5 (s + 5)
  -- behind the transactions
  have tail : ∀ n2, isR n2 (if b s = 10 then F else an1F b s F) G b e f → wp_X11_analyses_105 Q (nI s) (nI (b s)) (mS (mU m V) n2 pn) := by
    intro n2 h2
    have t143 : ∀ V2, RU V2 (if tch b s = true then (if U (b (s + 5) / 16) = 0 then updN U (b (s + 5) / 16) s else U) else U) → wp_X11_analyses_143 Q (nI s) (nI (b s)) (mS (mU m V2) n2 pn) := by
      intro V2 hV2
      refine pk_eq (b s) 10 (fun z => ?_) (fun z => ?_)
      · have ht : tch b s = false := by unfold tch; simp [z]
        rw [if_neg (by rw [ht]; simp)] at hV2
        rw [if_pos z] at h2
        obtain ⟨g1, g2, g3, g4, g5, g6⟩ := l10 z
        intro y hy
        rw [hy, show nI s + 6 = nI (s + 6 + 4 * 0) from nI_add s 6]
        refine ⟨b (s + 5) + 1, x_t10 (by omega) (fun i hi => ⟨(g4 i hi).1, (g4 i hi).2.1⟩) (b (s + 5)) 0 F n2 (by omega) hb h2 fun n3 h3' => ?_⟩
        refine x_logByte (m := mS (mU m V2) n3 pn) h3'.1 (by omega) fun y2 hy2 => ⟨b (s + 6 + 4 * b (s + 5)) + 1, ?_⟩
        rw [hy2, nI_1]
        refine x_u10 h3' (q := s + 6 + 4 * b (s + 5)) (by omega) (fun i hi => (g6 i hi).1) _ 0 U V2 (by omega) hV2 hU fun V3 hV3 => q n3 V3 ?_ ?_
        · unfold an1F; rw [if_pos z]; exact h3'
        · unfold an1U; rw [if_neg (by rw [ht]; simp), if_pos z]; exact hV3
      · rw [if_neg z] at h2
        refine q n2 V2 h2 ?_
        unfold an1U
        by_cases ht : tch b s = true
        · rw [if_pos ht] at hV2 ⊢; exact hV2
        · rw [if_neg ht] at hV2 ⊢
          rw [if_neg z]; exact hV2
    refine x_isChange (m := mS (mU m V) n2 pn) h2.1 (by omega) ?_
    cases ht : tch b s with
    | false => exact ⟨fun _ => t143 V (by rw [if_neg (by rw [ht]; simp)]; exact hV), fun z => absurd rfl z⟩
    | true =>
      have := htc ht
      refine ⟨fun z => absurd z (by decide), fun _ => x_logByte' (i := s + 5) (m := mS (mU m V) n2 pn) h2.1 (nI_add s 5) (by omega) ?_⟩
      show vp_in (nI (b (s + 5)) / 16) 16 ∧ ((V (nI (b (s + 5)) / 16).toNatClampNeg = 0 → _) ∧ (¬ V (nI (b (s + 5)) / 16).toNatClampNeg = 0 → _))
      have ed : nI (b (s + 5)) / 16 = nI (b (s + 5) / 16) := pk_div (d := 16) (by omega) (by decide) (by decide)
      have hUp := hU (b (s + 5) / 16)
      rw [ed, nI_clamp (by omega), hV _ (by omega)]
      refine ⟨ivp (by omega) (by omega), pk_eq (U (b (s + 5) / 16)) 0 (fun z => ?_) (fun z => t143 V (by rw [if_pos ht, if_neg z]; exact hV))⟩
      refine x_logByte' (i := s + 5) (m := mS (mU m V) n2 pn) h2.1 (nI_add s 5) (by omega) ?_
      show vp_in (nI (b (s + 5)) / 16) 16 ∧ _
      rw [ed]
      refine ⟨ivp (by omega) (by omega), fun v hv' => ?_⟩
      rw [nI_clamp (by omega)] at hv'
      rw [hv']
      exact t143 (upd V (b (s + 5) / 16) (nI s)) (by rw [if_pos ht, if_pos z]; exact RU_u hV)
  refine x_logByte' (i := s + 2) (m := mS (mU m V) n pn) h.1 (nI_add s 2) (by omega) (x_logByte (m := mS (mU m V) n pn) h.1 (by omega) (pk_le (b (s + 2)) 0 (fun z => tail n ?_) (fun z => pk_lt 9 (b (s + 2)) (fun y => by omega) (fun _ => ?_))))
  · by_cases c : b s = 10
    · rw [if_pos c]; exact h
    · rw [if_neg c]; unfold an1F; rw [if_neg c, if_neg (by omega)]; exact h
  · have hn10 : b s ≠ 10 := fun y => by have := l0.mpr (Or.inr y); omega
    have ea : an1F b s F = if b s = 7 then goneF F (b (s + 2)) else setF F (b (s + 2)) (if b s = 5 then 3 else if b s = 6 then 2 else if F (702 + 18 * b (s + 2)) = 0 then 1 else F (702 + 18 * b (s + 2))) s := by
      unfold an1F
      rw [if_neg hn10, if_pos ⟨by omega, l9⟩]
    rw [if_neg hn10, ea] at tail
    have hbt := hb (702 + 18 * b (s + 2))
    generalize htt : b (s + 2) = t at *
    have t1 : 1 ≤ t := by omega
    -- IS i0, then LAST and what the kind says
    have fin : ∀ i0 n2, i0 = (if F (702 + 18 * t) = 0 then 1 else F (702 + 18 * t)) → isR n2 (updN F (702 + 18 * t) i0) G b e f → wp_X11_analyses_53 (fun x1 x3 u0 => wp_X11_analyses_105 Q x1 x3 u0) Q (nI s) (nI t) (nI (b s)) ((720 : Int32) + 18 * (nI t - 1)) (mS (mU m V) n2 pn) := by
      intro i0 n2 hi0 h2
      refine x_wtx (j := 1) (v := s) h2 t1 l9 (by omega) fun n3 r3 => ?_
      have rS : ∀ i1 n4, isR n4 (updN (updN (updN F (702 + 18 * t) i0) (702 + 18 * t + 1) s) (702 + 18 * t + 0) i1) G b e f → isR n4 (setF F t i1 s) G b e f := fun i1 n4 r4 => isR_F r4 fun j => by
        unfold setF
        by_cases c1 : j = 702 + 18 * t
        · rw [c1, uNn (by omega), uNs]; exact uNs.symm
        · by_cases c2 : j = 703 + 18 * t
          · rw [c2, uNs, uNn (by omega), show 703 + 18 * t = 702 + 18 * t + 1 by omega, uNs]
          · rw [uNn c2, uNn c1, uNn (by omega), uNn (by omega), uNn c1]
      have g94 : ∀ i1 n4, isR n4 (setF F t i1 s) G b e f → i1 = (if b s = 5 then 3 else if b s = 6 then 2 else if F (702 + 18 * t) = 0 then 1 else F (702 + 18 * t)) → wp_X11_analyses_94 (fun x1 x3 u0 => wp_X11_analyses_105 Q x1 x3 u0) Q (nI s) (nI t) (nI (b s)) (mS (mU m V) n4 pn) := by
        intro i1 n4 h4' hi1
        refine pk_eq (b s) 7 (fun z7 => x_isGone h4' t1 l9 fun n5 r5 => tail n5 ?_) (fun z7 => tail n4 (by rw [if_neg z7, ← hi1]; exact h4'))
        rw [if_pos z7]
        have e1 : goneF (setF F t i1 s) t = goneF F t := funext fun j => by
          unfold goneF setF
          split
          · rfl
          · rw [uNn (by omega), uNn (by omega)]
        rw [e1] at r5
        refine isR_G r5 fun j hj' => ?_
        unfold goneG
        have hj2 := hj'
        unfold gk at hj2
        by_cases c1 : j = 1394 + t
        · rw [if_pos c1]; exact hG j (by omega) (by omega) (by omega)
        · rw [if_neg c1]
          by_cases c2 : 882 ≤ j ∧ j < 1404 ∧ j ≠ 1394
          · rw [if_pos c2, hG j c2.1 c2.2.1 c2.2.2]; exact Int32.zero_and.symm
          · rw [if_neg c2]
      have g78 : ∀ i1 n4, isR n4 (updN (updN F (702 + 18 * t) i0) (702 + 18 * t + 1) s) G b e f ∨ True → isR n4 (setF F t i1 s) G b e f → i1 = (if b s = 5 then 3 else if F (702 + 18 * t) = 0 then 1 else F (702 + 18 * t)) → wp_X11_analyses_78 (fun x1 x3 u0 => wp_X11_analyses_105 Q x1 x3 u0) Q (nI s) (nI t) (nI (b s)) ((720 : Int32) + 18 * (nI t - 1)) (mS (mU m V) n4 pn) := by
        intro i1 n4 _ h4' hi1
        refine pk_eq (b s) 6 (fun z6 => ?_) (fun z6 => g94 i1 n4 h4' (by rw [hi1]; by_cases c5 : b s = 5; rw [if_pos c5, if_pos c5]; rw [if_neg c5, if_neg c5, if_neg z6]))
        refine x_wtx (j := 0) (v := 2) h4' t1 l9 (by omega) fun n5 r5 => g94 2 n5 (isR_F r5 fun j => ?_) (by rw [if_neg (by omega), if_pos z6])
        unfold setF
        by_cases c1 : j = 702 + 18 * t
        · rw [c1, uNn (by omega), uNs]; exact uNs.symm
        · rw [uNn (j := j) (k := 702 + 18 * t + 0) (by omega)]
          by_cases c2 : j = 703 + 18 * t
          · rw [c2, uNs, uNs]
          · rw [uNn c2, uNn c1, uNn c2, uNn c1]
      refine pk_eq (b s) 5 (fun z5 => ?_) (fun z5 => ?_)
      · exact x_wtx (j := 0) (v := 3) r3 t1 l9 (by omega) fun n4 r4 => g78 3 n4 (Or.inr trivial) (rS 3 n4 r4) (by rw [if_pos z5])
      · refine g78 i0 n3 (Or.inr trivial) (isR_F r3 fun j => ?_) (by rw [if_neg z5]; exact hi0)
        unfold setF
        rw [show 703 + 18 * t = 702 + 18 * t + 1 by omega]
    simp only [wp_X11_txAt]
    have e0 : (720 : Int32) + 18 * (nI t - 1) + 0 = nI (702 + 18 * t) := txA t t1 0
    rw [e0, nI_clamp (by omega), gmS, h.2.1 _ (show nk (702 + 18 * t) by unfold nk; omega)]
    refine ⟨ivp (by omega) (by omega), pk_eq (F (702 + 18 * t)) 0 (fun z0 => ⟨ivp (by omega) (by omega), fun v hv' => ?_⟩) (fun z0 => fin (F (702 + 18 * t)) n (by rw [if_neg z0]) (isR_F h fun j => ?_))⟩
    · rw [hv']
      exact fin 1 _ (by rw [if_pos z0]) (isR_wr (x := 1) h (by unfold nk; omega))
    · by_cases c : j = 702 + 18 * t
      · rw [c, uNs]
      · rw [uNn c]
end
