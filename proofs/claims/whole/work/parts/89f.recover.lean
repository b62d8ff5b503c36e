/-! ===== recovery: analysis, both sides ===== -/
section
variable {m : S11} {n : Nat → Int32} {pn : Int32} {F F2 : Nat → Nat} {G G2 : Nat → Int32} {b b2 : Nat → Nat} {e f k e2 f2 : Nat} {w : S9} {P : S3} {C : S0} {R : S5} {J : S2} {U : Nat → Nat}
theorem u10_AU {q j : Nat} (hp : ∀ i, i < b q → b (q + 1 + 3 * i) < 16 ∧ St b j (pr2 b (q + 2 + 3 * i))) : ∀ N i U, N + i = b q → AU U b j → AU (u10 b q N i U) b j := by
  intro N
  induction N with
  | zero => intro i U _ h; exact h
  | succ N ih =>
    intro i U hi h
    unfold u10
    refine ih (i + 1) _ (by omega) fun p => ?_
    split
    · by_cases c : p = b (q + 1 + 3 * i)
      · rw [c, uNs]; exact Or.inr (hp i (by omega)).2
      · rw [uNn c]; exact h p
    · exact h p
theorem an1_AU (hL : LogOK b e k) {j : Nat} (hj : j < k) (hU : AU U b j) : AU (an1U b (wlk b j) U) b (j + 1) := by
  have hU2 : AU U b (j + 1) := fun p => (hU p).imp id (St_mono (by omega))
  unfold an1U
  split
  · split
    · intro p
      by_cases c : p = b (wlk b j + 5) / 16
      · rw [c, uNs]; exact Or.inr ⟨j, by omega, rfl⟩
      · rw [uNn c]; exact hU2 p
    · exact hU2
  · split
    · rename_i c10
      obtain ⟨l9, l0, l1, l2, l10⟩ := leg_b hL hj
      obtain ⟨g1, g2, g3, g4, g5, g6⟩ := l10 c10
      have := u10_AU (b := b) (j := j) (q := wlk b j + 6 + 4 * b (wlk b j + 5)) g6 (b (wlk b j + 6 + 4 * b (wlk b j + 5))) 0 U (by omega) hU
      exact fun p => (this p).imp id (St_mono (show j ≤ j + 1 by omega))
    · exact hU2
theorem AU_b (hL : LogOK b e k) (he : e ≤ 8600) {j : Nat} (hj : j ≤ k) (hU : AU U b j) (p : Nat) : U p < 65536 := by
  rcases hU p with z | ⟨i, i1, i2⟩
  · omega
  · have := wlk_lt (b := b) (show i < k by omega); have := hL.1.1; omega
theorem an1_b (hL : LogOK b e k) (he : e ≤ 8600) (h5 : ∀ i, b i < 256) {j : Nat} (hj : j < k) (hb : ∀ i, F i < 65536) : ∀ i, an1F b (wlk b j) F i < 65536 := by
  have := wlk_lt (b := b) hj
  have := hL.1.1
  intro i
  unfold an1F
  split
  · exact t10_b h5 _ _ _ hb i
  · split
    · split
      · exact goneF_b hb i
      · refine updN_b (updN_b hb ?_) (by omega) i
        repeat' split
        all_goals first | omega | exact hb _
    · exact hb i
theorem AZ_o (h : AZ F) (h2 : AZ F2) {u j : Nat} (h1 : 1 ≤ u) (h9 : u ≤ 9) (hj : 3 ≤ j) (hj2 : j < 18) : F2 (702 + 18 * u + j) = F (702 + 18 * u + j) := by rw [h u j h1 h9 (by omega) hj2, h2 u j h1 h9 (by omega) hj2]
/-- the class walks -/
theorem w_an (hL : LogOK b e k) {Q : S4 → S9 → Prop} : ∀ N j w F U r full, N + j = k → CW w F G b e e → (∀ i, F i < 65536) → AT F b j full → AZ F → RU (g4_unclean r) U → AU U b j → (∀ w2 V, CW w2 (anF b N j F) G b e e → RU V (anU b N j U) → g9_script w2 = g9_script w → wp_X4_analyse_105 Q (nI (wlk b k)) (s4_unclean r V) w2) → wp_X4_analyse_18 Q (N + 1) (nI (wlk b j)) r w := by
  intro N
  induction N with
  | zero =>
    intro j w F U r full hj hC hb hA hZ hV hU q
    obtain rfl : j = k := by omega
    have q1 : wp_X4_analyse_105 Q (nI (wlk b j)) r w := q w (g4_unclean r) hC hV rfl
    refine ⟨fun _ => q1, fun _ => w_wh hC.1 hL (Nat.le_refl _) ?_⟩
    rw [if_neg (by omega)]
    exact ⟨fun _ => q1, fun z => absurd rfl z⟩
  | succ N ih =>
    intro j w F U r full hj hC hb hA hZ hV hU q
    have hj2 : j < k := by omega
    have h5 := hC.1.2.2.2.2.1
    have hE := hC.1.2.2.1
    have hke := hL.1.1
    have hlt := wlk_lt (b := b) hj2
    obtain ⟨l9, l0, l1, l2, l10⟩ := leg_b hL hj2
    obtain ⟨a1, a2, a3⟩ := an1_ok hL hj2 hA hZ
    have ab := an1_b hL hE h5 hj2 hb
    have hU2 := an1_AU hL hj2 hU
    have hUb := AU_b hL hE (by omega) hU
    have e0 := hC.1.1
    have b0 := h5 (wlk b j)
    refine ⟨fun z => ?_, fun _ => w_wh hC.1 hL (by omega) ?_⟩
    · rw [e0] at z
      exact absurd ((nI_leI (by omega) (by omega)).mp z) (by omega)
    rw [if_pos hj2]
    refine ⟨fun z => absurd z (by decide), fun _ => w_learn hC.1 (by omega) hb (fun z i hi => ⟨((l10 z).2.2.2.1 i hi).1, ((l10 z).2.2.2.1 i hi).2.1⟩) hC.2.2.1 fun R2 hR2 w1 hw1 => ?_⟩
    have hC1 : CW w1 (an1F b (wlk b j) F) G b e e := by
      rw [hw1]
      exact CW_mk hC a3 (fun _ _ => rfl) hC.1 hR2 (RC_o hC.2.2.2.1 fun u i u1 u9 i1 i2 => AZ_o hZ a2 u1 u9 i1 i2)
    have hs1 : g9_script w1 = g9_script w := by rw [hw1]
    have nx : ∀ V, RU V (an1U b (wlk b j) U) → wp_X4_analyse_96 (fun x3 u0 u1 => wp_X4_analyse_18 Q (N + 1) x3 u0 u1) Q (nI (wlk b j)) (s4_unclean r V) w1 := by
      intro V hV2
      refine w_bhd hC1.1 hL hj2 ?_
      refine ih (j + 1) w1 _ _ (s4_unclean r V) _ (by omega) hC1 ab a1 a2 hV2 hU2 fun w2 V2 c1 c2 c3 => ?_
      exact q w2 V2 c1 c2 (c3.trans hs1)
    refine w_touches hC1.1 (by omega) ?_
    cases ht : tch b (wlk b j) with
    | true =>
      refine ⟨fun z => absurd z (by decide), fun _ => w_addressAt hC1.1 (by omega) ?_⟩
      have b5 := h5 (wlk b j + 5)
      have ed : nI (b (wlk b j + 5)) / 16 = nI (b (wlk b j + 5) / 16) := pk_div (d := 16) (by omega) (by decide) (by decide)
      rw [ed]
      refine w_markUnclean hV hUb (by omega) (by omega) fun V hV2 => nx V ?_
      unfold an1U
      rw [if_pos ht]
      have : (U (b (wlk b j + 5) / 16) = 0 ∨ wlk b j < U (b (wlk b j + 5) / 16)) ↔ U (b (wlk b j + 5) / 16) = 0 := by
        refine ⟨fun z => z.elim id fun y => ?_, Or.inl⟩
        rcases hU (b (wlk b j + 5) / 16) with x | ⟨i, i1, i2⟩
        · exact x
        · have := wlk_lt (b := b) i1; omega
      simp only [this] at hV2
      exact hV2
    | false =>
      refine ⟨fun _ => w_byteAt hC1.1 (by omega) (pk_eq (b (wlk b j)) 10 (fun z => ?_) (fun z => ?_)), fun z => absurd rfl z⟩
      · obtain ⟨g1, g2, g3, g4, g5, g6⟩ := l10 z
        refine w_byteAt' (i := wlk b j + 5) hC1.1 (nI_add _ 5) (by omega) ?_
        have e1 : nI (wlk b j) + 6 + 4 * nI (b (wlk b j + 5)) = nI (wlk b j + 6 + 4 * b (wlk b j + 5)) := by show nI _ + nI 6 + nI 4 * nI _ = _; rw [nI_add, pk_mul, nI_add]
        rw [e1]
        refine w_markTold hC1.1 (by omega) (fun i hi => (g6 i hi).1) hV hUb fun V hV2 => nx V ?_
        unfold an1U
        rw [if_neg (by rw [ht]; simp), if_pos z]; exact hV2
      · refine nx (g4_unclean r) ?_
        unfold an1U
        rw [if_neg (by rw [ht]; simp), if_neg z]; exact hV
/-- the reference walks -/
theorem x_an (hL : LogOK b e k) (hG : ∀ j, 882 ≤ j → j < 1404 → j ≠ 1394 → G j = 0) {Q : S11 → Prop} : ∀ N j n F U V full, N + j = k → isR n F G b e e → (∀ i, F i < 65536) → AT F b j full → AZ F → RU V U → AU U b j → (∀ n2 V2, isR n2 (anF b N j F) G b e e → RU V2 (anU b N j U) → wp_X11_analysis_42 Q 1 (nI (wlk b k)) (mS (mU m V2) n2 pn)) → wp_X11_analysis_42 Q (N + 1) (nI (wlk b j)) (mS (mU m V) n pn) := by
  intro N
  induction N with
  | zero =>
    intro j n F U V full hj hR hb hA hZ hV hU q
    obtain rfl : j = k := by omega
    exact q n V hR hV
  | succ N ih =>
    intro j n F U V full hj hR hb hA hZ hV hU q
    have hj2 : j < k := by omega
    have h5 := hR.1.2.2.2.2.2.2.2.1
    have hE := hR.1.2.2.2.2.1
    obtain ⟨a1, a2, a3⟩ := an1_ok hL hj2 hA hZ
    have ab := an1_b hL hE h5 hj2 hb
    have hU2 := an1_AU hL hj2 hU
    have hUb := AU_b hL hE (by omega) hU
    refine x_wh (m := mS (mU m V) n pn) hR.1 hL (by omega) ?_
    rw [if_pos hj2]
    refine ⟨fun z => absurd z (by decide), fun _ => x_analyses hR hG hb hL hj2 hV hUb fun n2 V2 r2 v2 => x_len (m := mS (mU m V2) n2 pn) r2.1 hL hj2 fun x hx y hy => ?_⟩
    rw [hy, hx]
    exact ih (j + 1) n2 _ _ V2 _ (by omega) r2 ab a1 a2 v2 hU2 q
theorem an_ok (hL : LogOK b e k) (he : e ≤ 8600) (h5 : ∀ i, b i < 256) : ∀ N j F U (full : Prop), N + j = k → (∀ i, F i < 65536) → AT F b j full → AZ F → AU U b j → (full ∨ ∃ je, j ≤ je ∧ je < k ∧ b (wlk b je) = 10) → (∀ i, anF b N j F i < 65536) ∧ AT (anF b N j F) b k True ∧ AZ (anF b N j F) ∧ AU (anU b N j U) b k ∧ txo (anF b N j F) F := by
  intro N
  induction N with
  | zero =>
    intro j F U full hj hb hA hZ hU hf
    obtain rfl : j = k := by omega
    refine ⟨hb, fun t t1 t9 => ⟨(hA t t1 t9).1, (hA t t1 t9).2.1, fun _ => (hA t t1 t9).2.2 (hf.elim id fun ⟨x, y, z, _⟩ => by omega)⟩, hZ, hU, fun _ _ => rfl⟩
  | succ N ih =>
    intro j F U full hj hb hA hZ hU hf
    have hj2 : j < k := by omega
    obtain ⟨a1, a2, a3⟩ := an1_ok hL hj2 hA hZ
    obtain ⟨q1, q2, q3, q4, q5⟩ := ih (j + 1) _ (an1U b (wlk b j) U) _ (by omega) (an1_b hL he h5 hj2 hb) a1 a2 (an1_AU hL hj2 hU) (by
      rcases hf with z | ⟨je, y1, y2, y3⟩
      · exact Or.inl (Or.inl z)
      · by_cases c : je = j
        · subst c; exact Or.inl (Or.inr y3)
        · exact Or.inr ⟨je, by omega, y2, y3⟩)
    exact ⟨q1, q2, q3, q4, fun i hi => (q5 i hi).trans (a3 i hi)⟩
end
