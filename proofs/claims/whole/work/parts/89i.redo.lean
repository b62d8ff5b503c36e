/-! ===== recovery: redo ===== -/
section
variable {m : S11} {n : Nat → Int32} {pn : Int32} {F F2 : Nat → Nat} {G G2 : Nat → Int32} {b b2 : Nat → Nat} {e f k e2 f2 : Nat} {w : S9} {P : S3} {C : S0} {R : S5} {J : S2} {U : Nat → Nat}
theorem CW_pg (hC : CW w F G b e f) {P2 : S3} {J2 : S2} {x : Int32} (hP : RP P2 F2 G2) (hJ : isJ J2 b e f2) (hF : ∀ j, j < 16 ∨ 720 ≤ j → F2 j = F j) (hG : ∀ j, j = 9 ∨ 882 ≤ j → G2 j = G j) (hx : x = G2 8) : CW (s9_redone (s9_journal (s9_pages w P2) J2) x) F2 G2 b e f2 := by
  obtain ⟨cJ, cP, cR, cC, cS, cu, cm, co, cr, cc⟩ := hC
  exact ⟨hJ, hP, RO_c cR fun j j1 j2 => hF j (by omega), RC_c cC (fun j j1 j2 => hF j (by omega)) (fun j j1 j2 => hG j (by omega)), RS_c cS fun j hj => hF j (by omega), by rw [hF 3 (by omega)]; exact cu, by rw [hF 2 (by omega)]; exact cm, by rw [hF 4 (by omega)]; exact co, hx, by rw [hG 9 (by omega)]; exact cc⟩
/-- one record redone -/
def rd1 (b U : Nat → Nat) (j : Nat) (F : Nat → Nat) (G : Nat → Int32) : (Nat → Nat) × (Nat → Int32) :=
  if tch b (wlk b j) = true ∧ U (b (wlk b j + 5) / 16) ≠ 0 ∧ U (b (wlk b j + 5) / 16) ≤ wlk b j then
    (if wlk b j ≤ fetF F G (b (wlk b j + 5) / 16) (561 + 20 * slot F G (b (wlk b j + 5) / 16)) then (fetF F G (b (wlk b j + 5) / 16), fetG F G (b (wlk b j + 5) / 16))
     else (becF (fetF F G (b (wlk b j + 5) / 16)) (slot F G (b (wlk b j + 5) / 16)) (b (wlk b j + 5)) (dnb b (wlk b j) (fetF F G (b (wlk b j + 5) / 16) (564 + 20 * slot F G (b (wlk b j + 5) / 16) + b (wlk b j + 5) % 16))) (wlk b j), upd (fetG F G (b (wlk b j + 5) / 16)) 8 (fetG F G (b (wlk b j + 5) / 16) 8 + 1)))
  else (F, G)
def rdA (b U : Nat → Nat) : Nat → Nat → (Nat → Nat) → (Nat → Int32) → (Nat → Nat) × (Nat → Int32)
  | 0, _, F, G => (F, G)
  | N + 1, j, F, G => rdA b U N (j + 1) (rd1 b U j F G).1 (rd1 b U j F G).2
theorem rd1_ok (h : IB F b e e k) (h5 : ∀ i, b i < 256) (he : e ≤ 8600) {j : Nat} (hj : j < k) : IB (rd1 b U j F G).1 b e e k ∧ (∀ i, i < 16 ∨ 720 ≤ i → (rd1 b U j F G).1 i = F i) ∧ ∀ i, i = 9 ∨ i = 10 ∨ 720 ≤ i → (rd1 b U j F G).2 i = G i := by
  obtain ⟨ib, iy, iF, iL, i5, -⟩ := id h
  have b5 := h5 (wlk b j + 5)
  have hp : b (wlk b j + 5) / 16 < 16 := by omega
  obtain ⟨fb, fy⟩ := fetF_b (G := G) iF ib iy hp
  have hsl := slot_lt (G := G) iF (b (wlk b j + 5) / 16)
  have h8 := iF.1.2
  have fI := fet_IFr (G := G) iF hp
  have hlt := wlk_lt (b := b) hj
  have hle := iL.1.1
  have o1 : ∀ i, i < 16 ∨ 720 ≤ i → fetF F G (b (wlk b j + 5) / 16) i = F i := fun i hi => fetF_out iF (by omega)
  have o2 : ∀ i, i = 9 ∨ i = 10 ∨ i = 8 ∨ 720 ≤ i → fetG F G (b (wlk b j + 5) / 16) i = G i := fun i hi => fetG_out iF (by omega) (by omega)
  unfold rd1
  split
  · split
    · exact ⟨IB_c h (o1 2 (by omega)) (o1 4 (by omega)) (o1 11 (by omega)) (o1 12 (by omega)) fb fy fI (Nat.le_refl _) (Nat.le_refl _), o1, fun i hi => o2 i (by omega)⟩
    · have hw := slot_b (G := G) (p := b (wlk b j + 5) / 16) (k := b (wlk b j + 5) % 16) iF fy (by omega)
      have hdn := dnb_lt h5 (wlk b j) hw
      have o3 : ∀ i, i < 16 ∨ 720 ≤ i → becF (fetF F G (b (wlk b j + 5) / 16)) (slot F G (b (wlk b j + 5) / 16)) (b (wlk b j + 5)) (dnb b (wlk b j) (fetF F G (b (wlk b j + 5) / 16) (564 + 20 * slot F G (b (wlk b j + 5) / 16) + b (wlk b j + 5) % 16))) (wlk b j) i = F i := fun i hi => by rw [becF_out (by omega) (by omega)]; exact o1 i hi
      have e0 : fetF F G (b (wlk b j + 5) / 16) (560 + 20 * slot F G (b (wlk b j + 5) / 16)) ≠ 0 := by rw [slot_held]; omega
      refine ⟨IB_c h (o3 2 (by omega)) (o3 4 (by omega)) (o3 11 (by omega)) (o3 12 (by omega)) (bec_b fb (Nat.lt_trans hdn (by omega)) (by omega)) (bec_y fy (by omega) hdn) (bec_IFr fI (by omega) e0 (fun _ hs => hs) ⟨j, hj, rfl⟩) (Nat.le_refl _) (Nat.le_refl _), o3, fun i hi => ?_⟩
      show upd _ 8 _ i = _
      rw [pk_un (by omega)]; exact o2 i (by omega)
  · exact ⟨h, fun _ _ => rfl, fun _ _ => rfl⟩
theorem rdA_ok (h5 : ∀ i, b i < 256) (he : e ≤ 8600) : ∀ N j F G, N + j = k → IB F b e e k → IB (rdA b U N j F G).1 b e e k ∧ (∀ i, i < 16 ∨ 720 ≤ i → (rdA b U N j F G).1 i = F i) ∧ ∀ i, i = 9 ∨ i = 10 ∨ 720 ≤ i → (rdA b U N j F G).2 i = G i := by
  intro N
  induction N with
  | zero => intro j F G _ h; exact ⟨h, fun _ _ => rfl, fun _ _ => rfl⟩
  | succ N ih =>
    intro j F G hj h
    obtain ⟨r1, r2, r3⟩ := rd1_ok (U := U) (G := G) h h5 he (show j < k by omega)
    obtain ⟨q1, q2, q3⟩ := ih (j + 1) _ (rd1 b U j F G).2 (by omega) r1
    exact ⟨q1, fun i hi => (q2 i hi).trans (r2 i hi), fun i hi => (q3 i hi).trans (r3 i hi)⟩
theorem w_rd {u0 : S4} (hV : RU (g4_unclean u0) U) (hU : ∀ p, U p < 65536) (he : wlk b k = e) {Q : S9 → Prop} : ∀ N j w R F G, N + j = k → CW (s9_roster w R) F G b e e → IB F b e e k → (∀ w2, CW (s9_roster w2 R) (rdA b U N j F G).1 (rdA b U N j F G).2 b e e → g9_roster w2 = g9_roster w → g9_script w2 = g9_script w → Q w2) → wp_X4_redo_51 u0 Q (N + 1) (nI (wlk b j)) w := by
  intro N
  induction N with
  | zero =>
    intro j w R F G hj hC hI q
    obtain rfl : j = k := by omega
    have e0 : g2_endPlace (g9_journal w) = nI e := hC.1.1
    refine ⟨fun _ => q w hC rfl rfl, fun z => absurd ?_ z⟩
    rw [e0, he]; exact Int32.le_refl _
  | succ N ih =>
    intro j w R F G hj hC hI q
    have hj2 : j < k := by omega
    have cJ : isJ (g9_journal w) b e e := hC.1
    have cP : RP (g9_pages w) F G := hC.2.1
    have h5 := cJ.2.2.2.2.1
    have hE := cJ.2.2.1
    have hlt := wlk_lt (b := b) hj2
    have e0 : g2_endPlace (g9_journal w) = nI e := cJ.1
    obtain ⟨ib, iy, iF, iL, i5, -⟩ := id hI
    obtain ⟨r1, r2, r3⟩ := rd1_ok (U := U) (G := G) hI h5 hE hj2
    have b5 := h5 (wlk b j + 5)
    have nx : ∀ w2, CW (s9_roster w2 R) (rd1 b U j F G).1 (rd1 b U j F G).2 b e e → g9_roster w2 = g9_roster w → g9_script w2 = g9_script w → wp_X4_redo_151 u0 (fun x4 u1 => wp_X4_redo_51 u0 Q (N + 1) x4 u1) Q (nI (wlk b j)) w2 := by
      intro w2 hC2 h1 h2
      have hJ2 : isJ (g9_journal w2) b e e := hC2.1
      refine w_bhd hJ2 iL hj2 ?_
      exact ih (j + 1) w2 R _ _ (by omega) hC2 r1 fun w3 c3 a3 s3 => q w3 c3 (a3.trans h1) (s3.trans h2)
    have same : ¬ (tch b (wlk b j) = true ∧ U (b (wlk b j + 5) / 16) ≠ 0 ∧ U (b (wlk b j + 5) / 16) ≤ wlk b j) → wp_X4_redo_151 u0 (fun x4 u1 => wp_X4_redo_51 u0 Q (N + 1) x4 u1) Q (nI (wlk b j)) w := by
      intro hn
      refine nx w ?_ rfl rfl
      unfold rd1
      rw [if_neg hn]; exact hC
    refine ⟨fun z => ?_, fun _ => w_addressAt cJ (by omega) fun x hx => w_touches cJ (by omega) ?_⟩
    · rw [e0] at z
      exact absurd ((nI_leI (by omega) (by omega)).mp z) (by omega)
    have ed : nI (b (wlk b j + 5)) / 16 = nI (b (wlk b j + 5) / 16) := pk_div (d := 16) (by omega) (by decide) (by decide)
    rw [ed] at hx
    rw [hx]
    have hp : b (wlk b j + 5) / 16 < 16 := by omega
    have hUp := hU (b (wlk b j + 5) / 16)
    cases ht : tch b (wlk b j) with
    | false => exact ⟨fun _ => same (by rw [ht]; simp), fun z => absurd rfl z⟩
    | true =>
      refine ⟨fun z => absurd z (by decide), fun _ => ⟨ivp hp (by omega), ?_⟩⟩
      rw [nI_clamp (by omega), hV _ hp]
      refine pk_eq (U (b (wlk b j + 5) / 16)) 0 (fun z => same (fun y => y.2.1 z)) (fun z0 => ⟨ivp hp (by omega), pk_lt (wlk b j) (U (b (wlk b j + 5) / 16)) (fun z => same (fun y => by omega)) (fun zl => ?_)⟩)
      have hfe := fetf_le (G := G) (f := e) (p := b (wlk b j + 5) / 16) iF (fun s hs => St_in iL hs) (Nat.le_refl _)
      refine w_fetch cP cJ (by omega) iF ib hp fun P2 J2 hP2 hJ2 w1 hw1 => ?_
      rw [show fetf F G b e (b (wlk b j + 5) / 16) = e by omega] at hJ2
      have hsl := slot_lt (G := G) iF (b (wlk b j + 5) / 16)
      have h8 := iF.1.2
      obtain ⟨fb, fy⟩ := fetF_b (G := G) iF ib iy hp
      have e1 : fetF F G (b (wlk b j + 5) / 16) (560 + 20 * slot F G (b (wlk b j + 5) / 16)) ≠ 0 := by rw [slot_held]; omega
      have hst := fb (561 + 20 * slot F G (b (wlk b j + 5) / 16))
      have g8 : fetG F G (b (wlk b j + 5) / 16) 8 = G 8 := fetG_out iF (by omega) (by omega)
      have hP1 : RP (g9_pages w1) (fetF F G (b (wlk b j + 5) / 16)) (fetG F G (b (wlk b j + 5) / 16)) := by rw [hw1]; exact hP2
      have hJ1 : isJ (g9_journal w1) b e e := by rw [hw1]; exact hJ2
      unfold rd1 at nx
      rw [if_pos ⟨ht, z0, by omega⟩] at nx
      refine ⟨ivp (by omega) (by omega), ?_⟩
      rw [nI_clamp (by omega), (hP1.2.2.2.2.2.2.2.2.2 _ (by omega) e1).1]
      refine pk_le (wlk b j) (fetF F G (b (wlk b j + 5) / 16) (561 + 20 * slot F G (b (wlk b j + 5) / 16))) (fun c => ?_) (fun c => ?_)
      · rw [if_pos c] at nx
        refine nx w1 ?_ (by rw [hw1]) (by rw [hw1])
        rw [hw1]
        exact CW_pg (x := g9_redone w) hC hP2 hJ2 (fun i hi => fetF_out iF (by omega)) (fun i hi => fetG_out iF (by omega) (by omega)) (by show _ = fetG F G (b (wlk b j + 5) / 16) 8; rw [g8]; exact hC.2.2.2.2.2.2.2.2.1)
      · rw [if_neg (by omega)] at nx
        refine w_doIn hP1 hJ1 (by omega) e1 (by omega) (fun k hk => slot_b iF fy hk) fb fun P3 hP3 w2 hw2 w3 hw3 => ?_
        refine nx w3 ?_ (by rw [hw3, hw2, hw1]) (by rw [hw3, hw2, hw1])
        rw [hw3, hw2, hw1]
        refine CW_pg (x := g9_redone w + 1) hC (RP_c hP3 (fun _ _ => rfl) (fun i hi => pk_un (by omega))) hJ2 (fun i hi => by show becF _ _ _ _ _ i = _; rw [becF_out (by omega) (by omega)]; exact fetF_out iF (by omega)) (fun i hi => by show upd _ 8 _ i = _; rw [pk_un (by omega)]; exact fetG_out iF (by omega) (by omega)) ?_
        show _ = upd (fetG F G (b (wlk b j + 5) / 16)) 8 (fetG F G (b (wlk b j + 5) / 16) 8 + 1) 8
        rw [pk_us, g8]
        have : g9_redone w = G 8 := hC.2.2.2.2.2.2.2.2.1
        rw [this]
theorem x_rd {V : Nat → Int32} (hV : RU V U) (hU : ∀ p, U p < 65536) (he : wlk b k = e) {Q : S11 → Prop} : ∀ N j n F G, N + j = k → isR n F G b e e → IB F b e e k → (∀ n2, isR n2 (rdA b U N j F G).1 (rdA b U N j F G).2 b e e → Q (mS (mU m V) n2 pn)) → wp_X11_redoes_42 Q (N + 1) (nI (wlk b j)) (mS (mU m V) n pn) := by
  intro N
  induction N with
  | zero =>
    intro j n F G hj hR hI q
    obtain rfl : j = k := by omega
    refine x_end1 (m := mS (mU m V) n pn) hR.1 ⟨fun _ => q n hR, fun z => absurd ?_ z⟩
    rw [he]; exact Int32.le_refl _
  | succ N ih =>
    intro j n F G hj hR hI q
    have hj2 : j < k := by omega
    have h5 := hR.1.2.2.2.2.2.2.2.1
    have hE := hR.1.2.2.2.2.1
    have hlt := wlk_lt (b := b) hj2
    obtain ⟨ib, iy, iF, iL, i5, -⟩ := id hI
    obtain ⟨r1, r2, r3⟩ := rd1_ok (U := U) (G := G) hI h5 hE hj2
    have b5 := h5 (wlk b j + 5)
    have nx : ∀ n2, isR n2 (rd1 b U j F G).1 (rd1 b U j F G).2 b e e → wp_X11_redoes_164 (fun x2 u0 => wp_X11_redoes_42 Q (N + 1) x2 u0) Q (nI (wlk b j)) (mS (mU m V) n2 pn) := by
      intro n2 h2
      refine x_len (m := mS (mU m V) n2 pn) h2.1 iL hj2 fun x hx y hy => ?_
      rw [hy, hx]
      exact ih (j + 1) n2 _ _ (by omega) h2 r1 q
    have same : ¬ (tch b (wlk b j) = true ∧ U (b (wlk b j + 5) / 16) ≠ 0 ∧ U (b (wlk b j + 5) / 16) ≤ wlk b j) → wp_X11_redoes_164 (fun x2 u0 => wp_X11_redoes_42 Q (N + 1) x2 u0) Q (nI (wlk b j)) (mS (mU m V) n pn) := by
      intro hn
      refine nx n ?_
      unfold rd1
      rw [if_neg hn]; exact hR
    refine x_end1 (m := mS (mU m V) n pn) hR.1 (pk_le e (wlk b j) (fun z => by omega) (fun _ => x_isChange (m := mS (mU m V) n pn) hR.1 (by omega) ?_))
    have ed : nI (b (wlk b j + 5)) / 16 = nI (b (wlk b j + 5) / 16) := pk_div (d := 16) (by omega) (by decide) (by decide)
    have hp : b (wlk b j + 5) / 16 < 16 := by omega
    have hUp := hU (b (wlk b j + 5) / 16)
    cases ht : tch b (wlk b j) with
    | false => exact ⟨fun _ => same (by rw [ht]; simp), fun z => absurd rfl z⟩
    | true =>
      have htc := tch_in iL hj2 ht
      refine ⟨fun z => absurd z (by decide), fun _ => x_logByte' (i := wlk b j + 5) (m := mS (mU m V) n pn) hR.1 (nI_add _ 5) (by omega) ?_⟩
      show vp_in (nI (b (wlk b j + 5)) / 16) 16 ∧ ((V (nI (b (wlk b j + 5)) / 16).toNatClampNeg = 0 → _) ∧ (¬ V (nI (b (wlk b j + 5)) / 16).toNatClampNeg = 0 → vp_in (nI (b (wlk b j + 5)) / 16) 16 ∧ ((V (nI (b (wlk b j + 5)) / 16).toNatClampNeg ≤ nI (wlk b j) → _) ∧ (¬ V (nI (b (wlk b j + 5)) / 16).toNatClampNeg ≤ nI (wlk b j) → _))))
      rw [ed, nI_clamp (by omega), hV _ hp]
      refine ⟨ivp hp (by omega), pk_eq (U (b (wlk b j + 5) / 16)) 0 (fun z => same (fun y => y.2.1 z)) (fun z0 => ⟨ivp hp (by omega), pk_le (U (b (wlk b j + 5) / 16)) (wlk b j) (fun zl => ?_) (fun z => same (fun y => by omega))⟩)⟩
      have hfe := fetf_le (G := G) (f := e) (p := b (wlk b j + 5) / 16) iF (fun s hs => St_in iL hs) (Nat.le_refl _)
      refine x_fetches hR iF (fun s hs => St_in iL hs) ib hp fun n2 h2 => ?_
      rw [show fetf F G b e (b (wlk b j + 5) / 16) = e by omega] at h2
      have hsl := slot_lt (G := G) iF (b (wlk b j + 5) / 16)
      have h8 := iF.1.2
      obtain ⟨fb, fy⟩ := fetF_b (G := G) iF ib iy hp
      have hst := fb (561 + 20 * slot F G (b (wlk b j + 5) / 16))
      unfold rd1 at nx
      rw [if_pos ⟨ht, z0, by omega⟩] at nx
      have a1 : nI (560 + 20 * slot F G (b (wlk b j + 5) / 16)) + 1 = nI (561 + 20 * slot F G (b (wlk b j + 5) / 16)) := by rw [nI_1]; congr 1; omega
      have hm16 : nI (b (wlk b j + 5)) - nI (b (wlk b j + 5) / 16) * 16 = nI (b (wlk b j + 5) % 16) := by
        show nI _ - nI _ * nI 16 = _
        rw [pk_mul, pk_sub (by omega)]; congr 1; omega
      have a4 : nI (560 + 20 * slot F G (b (wlk b j + 5) / 16)) + 4 + nI (b (wlk b j + 5) % 16) = nI (564 + 20 * slot F G (b (wlk b j + 5) / 16) + b (wlk b j + 5) % 16) := by show nI _ + nI 4 + _ = _; rw [nI_add, nI_add]; congr 1; omega
      rw [a1, nI_clamp (by omega), gmS, h2.2.1 _ (show nk (561 + 20 * slot F G (b (wlk b j + 5) / 16)) by unfold nk; omega)]
      refine ⟨ivp (by omega) (by omega), pk_lt (fetF F G (b (wlk b j + 5) / 16) (561 + 20 * slot F G (b (wlk b j + 5) / 16))) (wlk b j) (fun c => ?_) (fun c => ?_)⟩
      · rw [if_neg (by omega)] at nx
        have hw := slot_b (G := G) (p := b (wlk b j + 5) / 16) (k := b (wlk b j + 5) % 16) iF fy (by omega)
        rw [hm16, a4, nI_clamp (by omega), h2.2.1 _ (show nk (564 + 20 * slot F G (b (wlk b j + 5) / 16) + b (wlk b j + 5) % 16) by unfold nk; omega)]
        refine ⟨ivp (by omega) (by omega), x_doneBy (m := mS (mU m V) n2 pn) h2.1 hw htc.2 htc.1 (x_becomes h2 fb (by omega) b5 fun n3 h3 => ⟨ivp (k := 8) (by omega) (by omega), ivp (k := 8) (by omega) (by omega), fun v hv => ?_⟩)⟩
        have g8 : g11_now (mS (mU m V) n3 pn) (8 : Int32).toNatClampNeg = fetG F G (b (wlk b j + 5) / 16) 8 := h3.2.2.1 8 (by unfold gk; omega)
        rw [g8] at hv
        rw [hv]
        exact nx _ (isR_wg (k := 8) h3 (by unfold gk; omega))
      · rw [if_pos (by omega)] at nx
        exact nx n2 h2
/-- from where -/
def lsU (U : Nat → Nat) : Nat → Nat → Nat → Nat
  | 0, _, a => a
  | N + 1, p, a => lsU U N (p + 1) (if U p = 0 then a else min a (U p))
theorem lsU_ok (hU : AU U b k) : ∀ N p a, (∃ j, j ≤ k ∧ a = wlk b j) → ∃ j, j ≤ k ∧ lsU U N p a = wlk b j := by
  intro N
  induction N with
  | zero => intro p a h; exact h
  | succ N ih =>
    intro p a h
    unfold lsU
    refine ih (p + 1) _ ?_
    split
    · exact h
    · rename_i c
      rcases hU p with z | ⟨i, i1, i2⟩
      · exact absurd z c
      · rcases Nat.le_total a (U p) with y | y
        · rw [Nat.min_eq_left y]; exact h
        · rw [Nat.min_eq_right y]; exact ⟨i, by omega, i2.symm⟩
theorem w_redo {u0 : S4} (hV : RU (g4_unclean u0) U) (hU : ∀ p, U p < 65536) (he : wlk b k = e) {j : Nat} (hj : j ≤ k) (hl : lsU U 16 0 e = wlk b j) (hC : CW (s9_roster w R) F G b e e) (hI : IB F b e e k) {Q : S9 → Prop} (q : ∀ w2, CW (s9_roster w2 R) (rdA b U (k - j) j F G).1 (rdA b U (k - j) j F G).2 b e e → g9_roster w2 = g9_roster w → g9_script w2 = g9_script w → Q w2) : wp_X4_redo u0 w Q := by
  have cJ : isJ (g9_journal w) b e e := hC.1
  have hE := cJ.2.2.1
  have go : ∀ N p a, N + p = 16 → a < 65536 → lsU U N p a = wlk b j → wp_X4_redo_13 u0 Q (N + 1) (nI a) (nI p) w := by
    intro N
    induction N with
    | zero =>
      intro p a hp ha hq
      refine pk_le 16 p (fun _ => ⟨k - j + 1, ?_⟩) (fun z => by omega)
      have : a = wlk b j := hq
      rw [this]
      exact w_rd hV hU he (k - j) j w R F G (by omega) hC hI q
    | succ N ih =>
      intro p a hp ha hq
      unfold lsU at hq
      have hUp := hU p
      refine pk_le 16 p (fun z => by omega) (fun _ => ⟨ivp (by omega) (by omega), ?_⟩)
      rw [nI_clamp (by omega), hV p (by omega)]
      refine pk_eq (U p) 0 (fun z y hy => ?_) (fun z => ⟨ivp (by omega) (by omega), fun x hx y hy => ?_⟩)
      · rw [if_pos z] at hq
        rw [hy, nI_1]; exact ih (p + 1) a (by omega) ha hq
      · rw [if_neg z] at hq
        have ex : x = nI (min a (U p)) := by
          rw [hx]
          by_cases c : U p < a
          · rw [if_pos (nI_lt c (by omega))]; congr 1; omega
          · rw [if_neg (fun y => c ((nI_ltI (by omega) (by omega)).mp y))]; congr 1; omega
        rw [hy, nI_1, ex]; exact ih (p + 1) _ (by omega) (by omega) hq
  intro x hx
  have e0 : g2_endPlace (g9_journal w) = nI e := cJ.1
  rw [hx, e0]
  exact ⟨17, go 16 0 e (by omega) (by omega) hl⟩
theorem x_redoes {V : Nat → Int32} (hV : RU V U) (hU : ∀ p, U p < 65536) (he : wlk b k = e) {j : Nat} (hj : j ≤ k) (hl : lsU U 16 0 e = wlk b j) (hR : isR n F G b e e) (hI : IB F b e e k) {Q : S11 → Prop} (q : ∀ n2, isR n2 (rdA b U (k - j) j F G).1 (rdA b U (k - j) j F G).2 b e e → Q (mS (mU m V) n2 pn)) : wp_X11_redoes (mS (mU m V) n pn) Q := by
  have hE := hR.1.2.2.2.2.1
  have go : ∀ N p a, N + p = 16 → a < 65536 → lsU U N p a = wlk b j → wp_X11_redoes_7 Q (N + 1) (nI a) (nI p) (mS (mU m V) n pn) := by
    intro N
    induction N with
    | zero =>
      intro p a hp ha hq
      refine pk_le 16 p (fun _ => ⟨k - j + 1, ?_⟩) (fun z => by omega)
      have : a = wlk b j := hq
      rw [this]
      exact x_rd hV hU he (k - j) j n F G (by omega) hR hI q
    | succ N ih =>
      intro p a hp ha hq
      unfold lsU at hq
      have hUp := hU p
      refine pk_le 16 p (fun z => by omega) (fun _ => ?_)
      show vp_in (nI p) 16 ∧ ((V (nI p).toNatClampNeg ≤ 0 → _) ∧ (¬ V (nI p).toNatClampNeg ≤ 0 → vp_in (nI p) 16 ∧ ((V (nI p).toNatClampNeg ≤ nI a → _) ∧ (¬ V (nI p).toNatClampNeg ≤ nI a → _))))
      rw [nI_clamp (by omega), hV p (by omega)]
      refine ⟨ivp (by omega) (by omega), pk_le (U p) 0 (fun z y hy => ?_) (fun z => ⟨ivp (by omega) (by omega), pk_le (U p) a (fun c y hy => ?_) (fun c y hy => ?_)⟩)⟩
      · rw [if_pos (by omega)] at hq
        rw [hy, nI_1]; exact ih (p + 1) a (by omega) ha hq
      · rw [if_neg (by omega), Nat.min_eq_right c] at hq
        have hv : g11_unclean (mS (mU m V) n pn) p = nI (U p) := hV p (by omega)
        rw [hy, nI_1, hv]; exact ih (p + 1) _ (by omega) (by omega) hq
      · rw [if_neg (by omega), Nat.min_eq_left (by omega)] at hq
        rw [hy, nI_1]; exact ih (p + 1) _ (by omega) (by omega) hq
  exact x_end1 (m := mS (mU m V) n pn) hR.1 ⟨17, go 16 0 e (by omega) (by omega) hl⟩
end
