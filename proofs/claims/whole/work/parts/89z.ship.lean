/-! ===== calls of the store: ship ===== -/
section
variable {m : S11} {n : Nat → Int32} {pn : Int32} {F F2 : Nat → Nat} {G G2 : Nat → Int32} {b b2 : Nat → Nat} {e f k e2 f2 c cp en : Nat} {w : S9} {P : S3} {C : S0} {R : S5} {J : S2} {U : Nat → Nat} {r : S4} {x2 : Int32} {u : S10}
def sh1 (b : Nat → Nat) (s : Nat) (F : Nat → Nat) : Nat → Nat := if tch b s = true then updN (updN F (1404 + b (s + 5)) (dnb b s (F (1404 + b (s + 5))))) (1660 + b (s + 5) / 16) s else F
def shA (b : Nat → Nat) (rc : Nat) : Nat → Nat → (Nat → Nat) → (Nat → Nat) × Nat
  | 0, j, F => (F, j)
  | N + 1, j, F => if wlk b (j + 1) ≤ rc then shA b rc N (j + 1) (sh1 b (wlk b j) F) else (F, j)
theorem sh1_ok {s : Nat} (h5 : ∀ i, b i < 256) (hs : s < 65536) (hb : ∀ i, F i < 65536) (hy : byA F) : (∀ i, sh1 b s F i < 65536) ∧ byA (sh1 b s F) ∧ ∀ i, i < 1404 → sh1 b s F i = F i := by
  have b5 := h5 (s + 5)
  unfold sh1
  split
  · have hd := dnb_lt h5 s (hy.2.2.2 (1404 + b (s + 5)) (by omega) (by omega))
    have ho : ∀ i, i < 1404 → updN (updN F (1404 + b (s + 5)) (dnb b s (F (1404 + b (s + 5))))) (1660 + b (s + 5) / 16) s i = F i := fun i hi => by rw [uNn (by omega), uNn (by omega)]
    refine ⟨updN_b (updN_b hb (by omega)) hs, ⟨fun k k1 k2 => by rw [ho _ (by omega)]; exact hy.1 k k1 k2, fun k k1 k2 => by rw [ho _ (by omega)]; exact hy.2.1 k k1 k2, fun g k k1 k2 => by rw [ho _ (by omega)]; exact hy.2.2.1 g k k1 k2, fun k k1 k2 => ?_⟩, ho⟩
    rw [uNn (by omega)]
    by_cases d : k = 1404 + b (s + 5)
    · rw [d, uNs]; exact hd
    · rw [uNn d]; exact hy.2.2.2 k k1 k2
  · exact ⟨hb, hy, fun _ _ => rfl⟩
theorem shA_ok (hL : LogOK b e k) (he : e ≤ 8600) (h5 : ∀ i, b i < 256) {rc : Nat} : ∀ N j F, N + j = k → (∀ i, F i < 65536) → byA F → wlk b j ≤ rc → (∀ i, (shA b rc N j F).1 i < 65536) ∧ byA (shA b rc N j F).1 ∧ (∀ i, i < 1404 → (shA b rc N j F).1 i = F i) ∧ (shA b rc N j F).2 ≤ k ∧ wlk b (shA b rc N j F).2 ≤ rc := by
  intro N
  induction N with
  | zero => intro j F hj hb hy hr; exact ⟨hb, hy, fun _ _ => rfl, by show j ≤ k; omega, hr⟩
  | succ N ih =>
    intro j F hj hb hy hr
    unfold shA
    split
    · rename_i c
      have := wlk_lt (b := b) (show j < k by omega)
      have := hL.1.1
      obtain ⟨a1, a2, a3⟩ := sh1_ok (F := F) (s := wlk b j) h5 (by omega) hb hy
      obtain ⟨q1, q2, q3, q4, q5⟩ := ih (j + 1) _ (by omega) a1 a2 c
      exact ⟨q1, q2, fun i hi => (q3 i hi).trans (a3 i hi), q4, q5⟩
    · exact ⟨hb, hy, fun _ _ => rfl, by show j ≤ k; omega, hr⟩
def RSd (S : S7) (F : Nat → Nat) (rc d : Nat) : Prop := (∀ a, a < 256 → g7_row S a = nI (F (1404 + a))) ∧ (∀ p, p < 16 → g7_stamps S p = nI (F (1660 + p))) ∧ g7_received S = nI rc ∧ g7_done S = nI d
theorem w_sh (hJ : isJ J b e f) (hL : LogOK b e k) {rc : Nat} (hrc : rc ≤ 8600) {Q : S7 → Prop} : ∀ N j F S, N + j = k → (∀ i, F i < 65536) → byA F → RSd S F rc (wlk b j) → (∀ S2, RSd S2 (shA b rc N j F).1 rc (wlk b (shA b rc N j F).2) → Q S2) → wp_X7_take_17 J Q (N + 1) S := by
  have h5 := hJ.2.2.2.2.1
  have hE := hJ.2.2.1
  have hke := hL.1.1
  intro N
  induction N with
  | zero =>
    intro j F S hj hb hy hS q
    obtain rfl : j = k := by omega
    have qq := q S hS
    refine ⟨fun _ => qq, fun _ => ?_⟩
    rw [hS.2.2.2]
    refine w_wh hJ hL (Nat.le_refl _) ?_
    rw [if_neg (by omega)]
    exact ⟨fun _ => qq, fun z => absurd rfl z⟩
  | succ N ih =>
    intro j F S hj hb hy hS q
    have hj2 : j < k := by omega
    have hlt := wlk_lt (b := b) hj2
    have hS1 := wlk_S (b := b) j
    have hmk := wlk_mono (b := b) (show j + 1 ≤ k by omega)
    obtain ⟨s1, s2, s3, s4⟩ := id hS
    have b5 := h5 (wlk b j + 5)
    obtain ⟨a1, a2, a3⟩ := sh1_ok (F := F) (s := wlk b j) h5 (by omega) hb hy
    unfold shA at q
    unfold wp_X7_take_17
    rw [s3, s4]
    refine pk_le rc (wlk b j) (fun z => ?_) (fun z => w_wh hJ hL (by omega) ?_)
    · rw [if_neg (by omega)] at q; exact q S hS
    rw [if_pos hj2]
    refine ⟨fun y => absurd y (by decide), fun _ => w_bhd hJ hL hj2 (pk_lt rc (wlk b (j + 1)) (fun z => ?_) (fun z => w_touches hJ (by omega) ?_))⟩
    · rw [if_neg (by omega)] at q; exact q S hS
    rw [if_pos z] at q
    have nx : ∀ S2, RSd S2 (sh1 b (wlk b j) F) rc (wlk b j) → wp_X7_take_107 J (fun u0 => wp_X7_take_17 J Q (N + 1) u0) Q S2 := by
      intro S2 h2
      unfold wp_X7_take_107
      rw [h2.2.2.2]
      refine w_bhd hJ hL hj2 fun S3 hS3 => ?_
      refine ih (j + 1) _ S3 (by omega) a1 a2 ?_ q
      rw [hS3]; exact ⟨h2.1, h2.2.1, h2.2.2.1, rfl⟩
    cases ht : tch b (wlk b j) with
    | false =>
      refine ⟨fun _ => nx S ?_, fun y => absurd rfl y⟩
      unfold sh1; rw [if_neg (by rw [ht]; simp)]; exact hS
    | true =>
      refine ⟨fun y => absurd y (by decide), fun _ => w_addressAt hJ (by omega) ⟨ivp (by omega) (by omega), ?_⟩⟩
      rw [nI_clamp (by omega), s1 _ (by omega)]
      have hrow := hy.2.2.2 (1404 + b (wlk b j + 5)) (by omega) (by omega)
      refine w_done hJ (by omega) hrow ⟨ivp (by omega) (by omega), fun S2 hS2 => ?_⟩
      have ed : nI (b (wlk b j + 5)) / 16 = nI (b (wlk b j + 5) / 16) := pk_div (d := 16) (by omega) (by decide) (by decide)
      rw [ed]
      refine ⟨ivp (by omega) (by omega), fun S3 hS3 => nx S3 ?_⟩
      rw [nI_clamp (by omega), show g7_done S2 = nI (wlk b j) by rw [hS2]; exact s4] at hS3
      unfold sh1; rw [if_pos ht]
      refine ⟨fun a ha => ?_, fun p hp => ?_, by rw [hS3, hS2]; exact s3, by rw [hS3, hS2]; exact s4⟩
      · rw [uNn (by omega), hS3, hS2]
        show upd (g7_row S) (b (wlk b j + 5)) _ a = _
        by_cases d : a = b (wlk b j + 5)
        · rw [d, pk_us, uNs]
        · rw [pk_un d, uNn (by omega)]; exact s1 a ha
      · rw [hS3, hS2]
        show upd (g7_stamps S) (b (wlk b j + 5) / 16) _ p = _
        by_cases d : p = b (wlk b j + 5) / 16
        · rw [d, pk_us, uNs]
        · rw [pk_un d, uNn (by omega), uNn (by omega)]; exact s2 p hp
theorem x_sh (hL : LogOK b e k) {rc : Nat} (hrc : 8 ≤ rc) (hrc2 : rc ≤ 8600) {Q : Int32 → S11 → Prop} : ∀ N j F n, N + j = k → (∀ i, F i < 65536) → byA F → F 11 = rc - 8 → isR n F G b e f → (∀ n2, isR n2 (updN (shA b rc N j F).1 12 (wlk b (shA b rc N j F).2 - 8)) G b e f → Q (nI rc) (mS m n2 pn)) → wp_X11_ship_56 Q (N + 1) (nI (wlk b j)) (mS m n pn) := by
  have stop : ∀ j F n, j ≤ k → (∀ i, F i < 65536) → F 11 = rc - 8 → isR n F G b e f → (∀ n2, isR n2 (updN F 12 (wlk b j - 8)) G b e f → Q (nI rc) (mS m n2 pn)) → wp_X11_ship_152 Q (nI (wlk b j)) (mS m n pn) := by
    intro j F n hj hb h11 hR q
    have h8 := wlk_8 (b := b) j
    have := wlk_mono (b := b) hj
    have := hL.1.1
    have hE := hR.1.2.2.2.2.1
    refine ⟨ivp (k := 12) (by omega) (by omega), fun v hv => ⟨ivp (k := 11) (by omega) (by omega), ?_⟩⟩
    rw [show nI (wlk b j) - 8 = nI (wlk b j - 8) from pk_sub (b := 8) (by omega)] at hv
    have r2 : isR (upd n 12 (nI (wlk b j - 8))) (updN F 12 (wlk b j - 8)) G b e f := isR_wr hR (by unfold nk; omega)
    rw [hv]
    have g : g11_now (s11_now (mS m n pn) (upd (g11_now (mS m n pn)) (12 : Int32).toNatClampNeg (nI (wlk b j - 8)))) (11 : Int32).toNatClampNeg = nI (F 11) := by
      show upd n 12 (nI (wlk b j - 8)) 11 = _
      rw [pk_un (by omega)]; exact hR.2.1 11 (by unfold nk; omega)
    rw [g, h11, show nI (rc - 8) + 8 = nI rc by rw [show (8 : Int32) = nI 8 from rfl, nI_add]; congr 1; omega]
    exact q _ r2
  intro N
  induction N with
  | zero =>
    intro j F n hj hb hy h11 hR q
    obtain rfl : j = k := by omega
    refine x_wh (m := mS m n pn) hR.1 hL (Nat.le_refl _) ?_
    rw [if_neg (by omega)]
    exact ⟨fun _ => stop j F n (Nat.le_refl _) hb h11 hR q, fun z => absurd rfl z⟩
  | succ N ih =>
    intro j F n hj hb hy h11 hR q
    have hj2 : j < k := by omega
    have hke := hL.1.1
    have h5 := hR.1.2.2.2.2.2.2.2.1
    have hE := hR.1.2.2.2.2.1
    have hlt := wlk_lt (b := b) hj2
    have hmk := wlk_mono (b := b) (show j + 1 ≤ k by omega)
    have b5 := h5 (wlk b j + 5)
    obtain ⟨a1, a2, a3⟩ := sh1_ok (F := F) (s := wlk b j) h5 (by omega) hb hy
    unfold shA at q
    refine x_wh (m := mS m n pn) hR.1 hL (by omega) ?_
    rw [if_pos hj2]
    refine ⟨fun y => absurd y (by decide), fun _ => x_len (m := mS m n pn) hR.1 hL hj2 fun x hx => ⟨ivp (k := 11) (by omega) (by omega), ?_⟩⟩
    have g11 : g11_now (mS m n pn) (11 : Int32).toNatClampNeg + 8 = nI rc := by
      have : g11_now (mS m n pn) (11 : Int32).toNatClampNeg = nI (F 11) := hR.2.1 11 (by unfold nk; omega)
      rw [this, h11, show (8 : Int32) = nI 8 from rfl, nI_add]; congr 1; omega
    rw [g11, hx]
    have nx : ∀ n2, isR n2 (sh1 b (wlk b j) F) G b e f → wlk b (j + 1) ≤ rc → wp_X11_ship_139 (fun x2 u0 => wp_X11_ship_56 Q (N + 1) x2 u0) Q (nI (wlk b j)) (mS m n2 pn) := by
      intro n2 h2 hz
      rw [if_pos hz] at q
      refine x_len (m := mS m n2 pn) h2.1 hL hj2 fun x hx y hy => ?_
      rw [hy, hx]
      exact ih (j + 1) _ n2 (by omega) a1 a2 (by rw [a3 11 (by omega)]; exact h11) h2 q
    refine pk_lt rc (wlk b (j + 1)) (fun z => ?_) (fun z => x_isChange (m := mS m n pn) hR.1 (by omega) ?_)
    · rw [if_neg (by omega)] at q
      exact stop j F n (by omega) hb h11 hR q
    cases ht : tch b (wlk b j) with
    | false =>
      refine ⟨fun _ => nx n ?_ z, fun y => absurd rfl y⟩
      unfold sh1; rw [if_neg (by rw [ht]; simp)]; exact hR
    | true =>
      have htc := tch_in hL hj2 ht
      refine ⟨fun y => absurd y (by decide), fun _ => x_logByte' (i := wlk b j + 5) (m := mS m n pn) hR.1 (nI_add _ 5) (by omega) ?_⟩
      have hrow := hy.2.2.2 (1404 + b (wlk b j + 5)) (by omega) (by omega)
      show vp_in (1404 + nI (b (wlk b j + 5))) 10700 ∧ _
      rw [show (1404 : Int32) + nI (b (wlk b j + 5)) = nI (1404 + b (wlk b j + 5)) from nI_add 1404 _, nI_clamp (by omega), gmS, hR.2.1 (1404 + b (wlk b j + 5)) (by unfold nk; omega)]
      refine ⟨ivp (by omega) (by omega), x_doneBy (m := mS m n pn) hR.1 hrow htc.2 htc.1 ⟨ivp (by omega) (by omega), fun v hv => ?_⟩⟩
      have ed : nI (b (wlk b j + 5)) / 16 = nI (b (wlk b j + 5) / 16) := pk_div (d := 16) (by omega) (by decide) (by decide)
      rw [ed, show (1660 : Int32) + nI (b (wlk b j + 5) / 16) = nI (1660 + b (wlk b j + 5) / 16) from nI_add 1660 _, nI_clamp (by omega)]
      refine ⟨ivp (by omega) (by omega), fun v2 hv2 => ?_⟩
      rw [hv2, hv]
      have r1 := isR_wr (k := 1404 + b (wlk b j + 5)) (x := dnb b (wlk b j) (F (1404 + b (wlk b j + 5)))) hR (by unfold nk; omega)
      have r2 := isR_wr (k := 1660 + b (wlk b j + 5) / 16) (x := wlk b j) r1 (by unfold nk; omega)
      refine nx _ ?_ z
      unfold sh1; rw [if_pos ht]; exact r2
theorem o_ship (h : SW (g10_now u) n) (x : Int32) {K : Int32 → S10 → Int32 → S11 → Prop} (q : ∀ r w2 n2, SW w2 n2 → g9_script w2 = g9_script (g10_now u) → n2 7 = n 7 → K r (s10_now u w2) r (mS (s11_told m 0) n2 pn)) (ref : K (-1) u (-1) (mS (s11_told m 0) n pn)) : wp_X10_ship u x (fun r u2 => wp_X11_ship (mS m n pn) x (fun r2 v2 => K r u2 r2 v2)) := by
  obtain ⟨F, G, b, e, f, k, hC, hR, hI⟩ := h
  obtain ⟨ib, iy, iF, iL, i5, i6, i7, ⟨j, j1, j2⟩, i9, i10⟩ := id hI.1
  rcases rng x (lo := 1) (hi := 999) (by omega) (by omega) with z | z | ⟨a, a1, a2, a3, a4, a5⟩
  · refine ⟨fun _ v hv => ?_, fun y => absurd z y⟩
    rw [hv]; exact x_isIn0 (Or.inl z) ⟨fun _ => ref, fun y => absurd rfl y⟩
  · refine ⟨fun y => absurd y z.1, fun _ => ⟨fun y => absurd z.2 (Int32.not_lt.mpr y), fun _ v hv => ?_⟩⟩
    rw [hv]; exact x_isIn0 (Or.inr z.2) ⟨fun _ => ref, fun y => absurd rfl y⟩
  · subst a3
    obtain ⟨cJ, cP, cR, cC, cS, cu, cm, co, cr, cc⟩ := id hC
    have hE := cJ.2.2.1
    have h5 := cJ.2.2.2.2.1
    have b11 := ib 11
    have b12 := ib 12
    generalize hrc : min f (F 11 + 8 + a) = rc
    have hF1 : ∀ i, i ≠ 11 → updN F 11 (rc - 8) i = F i := fun i hi => uNn hi
    have hy1 : byA (updN F 11 (rc - 8)) := byA_c' iy fun i hi => hF1 i (by omega)
    have hb1 : ∀ i, updN F 11 (rc - 8) i < 65536 := updN_b ib (by omega)
    obtain ⟨t1, t2, t3, t4, t5⟩ := shA_ok (rc := rc) iL hE h5 (k - j) j (updN F 11 (rc - 8)) (by omega) hb1 hy1 (by omega)
    refine ⟨fun y => absurd y a4, fun _ => ⟨fun _ S1 hS1 => ⟨k - j + 1, ?_⟩, fun y => absurd (Int32.not_lt.mp a5) y⟩⟩
    have ercv : (if g2_flushedPlace (g9_journal (g10_now u)) < g7_received (g9_standby (g10_now u)) + nI a then g2_flushedPlace (g9_journal (g10_now u)) else g7_received (g9_standby (g10_now u)) + nI a) = nI rc := by
      rw [cJ.2.1, cS.2.2.1, nI_add]
      by_cases c : f < F 11 + 8 + a
      · rw [if_pos (nI_lt c (by omega))]; congr 1; omega
      · rw [if_neg (fun y => c ((nI_ltI (by omega) (by omega)).mp y))]; congr 1; omega
    rw [ercv] at hS1
    have hSd : RSd S1 (updN F 11 (rc - 8)) rc (wlk b j) := by
      rw [hS1]
      exact ⟨fun a ha => by rw [hF1 _ (by omega)]; exact cS.1 a ha, fun p hp => by rw [hF1 _ (by omega)]; exact cS.2.1 p hp, rfl, by rw [j2]; exact cS.2.2.2⟩
    refine w_sh cJ iL (by omega) (k - j) j _ S1 (by omega) hb1 hy1 hSd fun S2 hS2 u2 hu2 => ?_
    have er : g7_received (g9_standby (g10_now u2)) = nI rc := by rw [hu2]; exact hS2.2.2.1
    rw [er, hu2]
    intro v hv
    rw [hv]
    refine x_isIn1 (lo := 1) (hi := 999) rfl (by omega) (by omega) a1 a2 ⟨fun y => absurd y (by decide), fun _ => ⟨ivp (k := 11) (by omega) (by omega), ivp (k := 1) (by omega) (by omega), ?_⟩⟩
    have g11 : g11_now (mS (s11_told m 0) n pn) (11 : Int32).toNatClampNeg = nI (F 11) := hR.2.1 11 (by unfold nk; omega)
    have g1 : g11_now (mS (s11_told m 0) n pn) (1 : Int32).toNatClampNeg = nI (f - 8) := hR.1.2.1
    have h8k := wlk_8 (b := b) (shA b rc (k - j) j (updN F 11 (rc - 8))).2
    -- the end
    have fin : ∀ n2, isR n2 (updN (shA b rc (k - j) j (updN F 11 (rc - 8))).1 12 (wlk b (shA b rc (k - j) j (updN F 11 (rc - 8))).2 - 8)) G b e f → K (nI rc) (s10_now u (s9_standby (g10_now u) S2)) (nI rc) (mS (s11_told m 0) n2 pn) := by
      intro n2 h2
      generalize (shA b rc (k - j) j (updN F 11 (rc - 8))).1 = F3 at *
      generalize (shA b rc (k - j) j (updN F 11 (rc - 8))).2 = j3 at *
      have o3 : ∀ i, i < 1404 → i ≠ 11 → i ≠ 12 → updN F3 12 (wlk b j3 - 8) i = F i := fun i h1 h2 h3 => by rw [uNn h3, t3 i h1, hF1 i h2]
      have o11 : updN F3 12 (wlk b j3 - 8) 11 = rc - 8 := by rw [uNn (by omega), t3 11 (by omega), uNs]
      refine q (nI rc) (s9_standby (g10_now u) S2) n2 ⟨_, G, b, e, f, k, ?_, h2, ?_⟩ rfl (sw_7 hR h2 (o3 7 (by omega) (by omega) (by omega)))
      · refine ⟨cJ, RP_c cP (fun i hi => o3 i (by omega) (by omega) (by omega)) (fun _ _ => rfl), RO_c cR fun i i1 i2 => o3 i (by omega) (by omega) (by omega), RC_c cC (fun i i1 i2 => o3 i (by omega) (by omega) (by omega)) (fun _ _ _ => rfl), ?_, by rw [o3 3 (by omega) (by omega) (by omega)]; exact cu, by rw [o3 2 (by omega) (by omega) (by omega)]; exact cm, by rw [o3 4 (by omega) (by omega) (by omega)]; exact co, cr, cc⟩
        obtain ⟨s1, s2, s3, s4⟩ := hS2
        refine ⟨fun a ha => by rw [uNn (by omega)]; exact s1 a ha, fun p hp => by rw [uNn (by omega)]; exact s2 p hp, ?_, ?_⟩
        · rw [o11, show rc - 8 + 8 = rc by omega]; exact s3
        · rw [uNs, show wlk b j3 - 8 + 8 = wlk b j3 by omega]; exact s4
      · have hj3 := wlk_mono (b := b) t4
        have hke := iL.1.1
        refine ⟨⟨updN_b t1 (by omega), byA_c' t2 fun i hi => uNn (by omega), IFr_c iF (o3 5 (by omega) (by omega) (by omega)) (fun i i1 i2 => o3 i (by omega) (by omega) (by omega)) (fun _ hs => hs), iL, i5, by rw [o3 2 (by omega) (by omega) (by omega)]; exact i6, by rw [o3 4 (by omega) (by omega) (by omega)]; exact i7, ⟨j3, t4, by rw [uNs]; omega⟩, by rw [uNs, o11]; omega, by rw [o11]; omega⟩, ?_⟩
        rcases hI.2 with hU | hD
        · exact Or.inl ⟨by rw [o3 3 (by omega) (by omega) (by omega)]; exact hU.1, hU.2.1, fun t t1 t9 => UT_keep iL (fun _ _ => rfl) (Nat.le_refl _) rfl (fun i i1 i2 => o3 i (by omega) (by omega) (by omega)) (hU.2.2 t t1 t9)⟩
        · obtain ⟨d1, d2, d3, d4, d5⟩ := hD
          exact Or.inr ⟨by rw [o3 3 (by omega) (by omega) (by omega)]; exact d1, d2, fun i i1 i2 => by rw [o3 i (by omega) (by omega) (by omega)]; exact d3 i i1 i2, d4, by rw [o3 4 (by omega) (by omega) (by omega)]; exact d5⟩
    have go : ∀ y : Int32, y = nI (rc - 8) → vp_in (11 : Int32) 10700 ∧ ∀ u0_14 : S11, u0_14 = s11_now (mS (s11_told m 0) n pn) (upd (g11_now (mS (s11_told m 0) n pn)) (11 : Int32).toNatClampNeg y) → (vp_in (12 : Int32) 10700 ∧ (∀ x2_15 : Int32, x2_15 = ((g11_now u0_14) (12 : Int32).toNatClampNeg) + 8 → (∃ n_16, wp_X11_ship_56 (fun r2 v2 => K (nI rc) (s10_now u (s9_standby (g10_now u) S2)) r2 v2) n_16 x2_15 u0_14))) := by
      intro y hy
      refine ⟨ivp (k := 11) (by omega) (by omega), fun v2 hv2 => ⟨ivp (k := 12) (by omega) (by omega), fun x2 hx2 => ⟨k - j + 1, ?_⟩⟩⟩
      have r1 : isR (upd n 11 (nI (rc - 8))) (updN F 11 (rc - 8)) G b e f := isR_wr hR (by unfold nk; omega)
      have e12 : x2 = nI (wlk b j) := by
        rw [hx2, hv2]
        show upd n 11 y 12 + 8 = _
        rw [pk_un (by omega), hR.2.1 12 (by unfold nk; omega), show nI (F 12) + 8 = nI (F 12 + 8) from nI_add _ 8, j2]
      rw [e12, hv2, hy]
      exact x_sh (m := s11_told m 0) iL (by omega) (by omega) (k - j) j _ _ (by omega) hb1 hy1 uNs r1 fin
    unfold wp_X11_lesser
    rw [g11, g1, nI_add]
    exact pk_le (f - 8) (F 11 + a) (fun c => go _ (by congr 1; omega)) (fun c => go _ (by congr 1; omega))
end
