/-! ===== calls of the store: frames, record, count ===== -/
section
variable {m : S11} {n : Nat → Int32} {pn : Int32} {F F2 : Nat → Nat} {G G2 : Nat → Int32} {b b2 : Nat → Nat} {e f k e2 f2 c cp en : Nat} {w : S9} {P : S3} {C : S0} {R : S5} {J : S2} {U : Nat → Nat} {r : S4} {x2 : Int32} {u : S10}
theorem w_holds (hP : RP P F G) (hI : ∀ g, g < 8 → F (560 + 20 * g) ≤ 16) {Q : Int32 → Prop} (q0 : (∀ g, g < 8 → F (560 + 20 * g) = 0) → Q 0) (q1 : ∀ g, g < 8 → F (560 + 20 * g) ≠ 0 → Q 1) : wp_X3_holdsAny P Q := by
  have go : ∀ N i, N + i = 8 → (∀ g, g < i → F (560 + 20 * g) = 0) → wp_X3_holdsAny_2 P Q (N + 1) (nI i) := by
    intro N
    induction N with
    | zero => intro i hi hz; exact pk_le 8 i (fun _ => q0 fun g hg => hz g (by omega)) (fun z => by omega)
    | succ N ih =>
      intro i hi hz
      refine pk_le 8 i (fun z => by omega) (fun _ => ⟨ivp (by omega) (by omega), ?_⟩)
      have hle := hI i (by omega)
      rw [nI_clamp (by omega), hP.2.2.2.2.2.2.2.1 i (by omega)]
      by_cases c : F (560 + 20 * i) = 0
      · rw [c]
        refine ⟨fun _ y hy => ?_, fun z => absurd (by decide) z⟩
        rw [hy, nI_1]
        refine ih (i + 1) (by omega) fun g hg => ?_
        by_cases d : g = i
        · rw [d]; exact c
        · exact hz g (by omega)
      · refine ⟨fun z => ?_, fun _ => q1 i (by omega) c⟩
        rw [show nI (F (560 + 20 * i)) - 1 = nI (F (560 + 20 * i) - 1) from pk_sub (b := 1) (by omega)] at z
        exact absurd z.symm (Lim_0.resolve_right (by omega))
  exact ⟨9, go 8 0 (by omega) fun g hg => by omega⟩
theorem x_fr27 (h : isR n F G b e f) (h5 : F 5 ≤ 8) (hI : ∀ g, g < 8 → F (560 + 20 * g) ≤ 16 ∧ (F 5 ≤ g → F (560 + 20 * g) = 0)) {x1 : Int32} {Q : Int32 → S11 → Prop} (q1 : (∀ g, g < 8 → F (560 + 20 * g) = 0) → vp_in (5 : Int32) 10700 ∧ ∀ v : S11, v = s11_now (mS m n pn) (upd n (5 : Int32).toNatClampNeg (x1 - 4)) → Q 1 v) (q0 : ∀ g, g < 8 → F (560 + 20 * g) ≠ 0 → Q 0 (mS m n pn)) : ∃ N, wp_X11_frames_27 Q N x1 0 (mS m n pn) := by
  have go : ∀ N i, N + i = F 5 → (∀ g, g < i → F (560 + 20 * g) = 0) → wp_X11_frames_27 Q (N + 1) x1 (nI i) (mS m n pn) := by
    intro N
    induction N with
    | zero => intro i hi hz; exact x_frameMany h (pk_le (F 5) i (fun _ => q1 fun g hg => by
        by_cases d : g < i
        · exact hz g d
        · exact (hI g hg).2 (by omega)) (fun z => by omega))
    | succ N ih =>
      intro i hi hz
      refine x_frameMany h (pk_le (F 5) i (fun z => by omega) (fun _ => ?_))
      have hle := (hI i (by omega)).1
      simp only [wp_X11_frameAt]
      have ef : (560 : Int32) + 20 * nI i + 0 = nI (560 + 20 * i) := by
        rw [Int32.add_zero]
        show nI 560 + nI 20 * nI _ = _
        rw [pk_mul, nI_add]
      rw [ef, nI_clamp (by omega), gmS, h.2.1 _ (by unfold nk; omega)]
      refine ⟨ivp (by omega) (by omega), pk_le (F (560 + 20 * i)) 0 (fun c y hy => ?_) (fun c => q0 i (by omega) (by omega))⟩
      rw [hy, nI_1]
      refine ih (i + 1) (by omega) fun g hg => ?_
      by_cases d : g = i
      · rw [d]; omega
      · exact hz g (by omega)
  exact ⟨F 5 + 1, go (F 5) 0 (by omega) fun g hg => by omega⟩
theorem o_frames (h : SW (g10_now u) n) (x : Int32) {K : Int32 → S10 → Int32 → S11 → Prop} (q : ∀ r w2 n2, SW w2 n2 → g9_script w2 = g9_script (g10_now u) → n2 7 = n 7 → K r (s10_now u w2) r (mS (s11_told m 0) n2 pn)) : wp_X10_frames u x (fun r u2 => wp_X11_frames (mS m n pn) x (fun r2 v2 => K r u2 r2 v2)) := by
  have ref : K 0 u 0 (mS (s11_told m 0) n pn) := q 0 (g10_now u) n h rfl rfl
  obtain ⟨F, G, b, e, f, k, hC, hR, hI⟩ := h
  obtain ⟨ib, iy, iF, iL, i5, -⟩ := id hI.1
  have h8 := iF.1.2
  refine w_up hC.2.2.2.2.2.1 (fun z3 v hv => ?_) (fun z3 => ?_)
  · rw [hv]
    refine x_isUp (m := s11_told m 0) hR (ib 3) ?_
    rw [if_neg z3]
    exact ⟨fun _ => ref, fun z => absurd rfl z⟩
  · have xr : ∀ {K2 : Int32 → S11 → Prop}, (x < 1 ∨ 8 < x → K2 0 (mS (s11_told m 0) n pn)) → (∀ a, 1 ≤ a → a ≤ 8 → x = nI a → ∃ N, wp_X11_frames_27 K2 N x 0 (mS (s11_told m 0) n pn)) → wp_X11_frames (mS m n pn) x K2 := by
      intro K2 k0 k1 v hv
      rw [hv]
      refine x_isUp (m := s11_told m 0) hR (ib 3) ?_
      rw [if_pos z3]
      refine ⟨fun z => absurd z (by decide), fun _ => ?_⟩
      rcases rng x (lo := 1) (hi := 8) (by omega) (by omega) with z | z | ⟨a, a1, a2, a3, a4, a5⟩
      · exact x_isIn0 (Or.inl z) ⟨fun _ => k0 (Or.inl z), fun y => absurd rfl y⟩
      · exact x_isIn0 (Or.inr z.2) ⟨fun _ => k0 (Or.inr z.2), fun y => absurd rfl y⟩
      · exact x_isIn1 (lo := 1) (hi := 8) a3 (by omega) (by omega) a1 a2 ⟨fun y => absurd y (by decide), fun _ => k1 a a1 a2 a3⟩
    have no : ∀ a, 1 ≤ a → a ≤ 8 → ¬ (nI a < 1 ∨ 8 < nI a) := fun a b1 b2 hz => by
      rcases hz with y | y
      · have y : nI a < nI 1 := y
        have := (nI_ltI (by omega) (by omega)).mp y; omega
      · have y : nI 8 < nI a := y
        have := (nI_ltI (by omega) (by omega)).mp y; omega
    have oor : (x < 1 ∨ 8 < x) → wp_X11_frames (mS m n pn) x (fun r2 v2 => K 0 u r2 v2) := fun hz => xr (fun _ => ref) (fun a a1 a2 a3 => absurd (by rw [← a3]; exact hz) (no a a1 a2))
    rcases rng x (lo := 1) (hi := 8) (by omega) (by omega) with z | z | ⟨a, a1, a2, a3, a4, a5⟩
    · exact ⟨fun _ => oor (Or.inl z), fun y => absurd z y⟩
    · exact ⟨fun y => absurd y z.1, fun _ => ⟨fun _ => oor (Or.inr z.2), fun y => absurd z.2 y⟩⟩
    · refine ⟨fun y => absurd y a4, fun _ => ⟨fun y => absurd y a5, fun _ => w_holds hC.2.1 (fun g hg => (iF.2.1 g hg).1) (fun hz => ⟨fun _ u2 hu2 => ?_, fun y => absurd rfl y⟩) (fun g hg hn => ⟨fun y => absurd y (by decide), fun _ => ?_⟩)⟩⟩
      · rw [hu2]
        refine xr (fun y => absurd (by rw [← a3]; exact y) (no a a1 a2)) (fun a' b1 b2 b3 => x_fr27 (m := s11_told m 0) hR h8 iF.2.1 (fun _ => ⟨ivp (k := 5) (by omega) (by omega), fun v hv => ?_⟩) (fun g hg hn => absurd (hz g hg) hn))
        rw [hv, a3]
        have ho : ∀ j, j ≠ 5 → updN F 5 a j = F j := fun j hj => uNn hj
        have hR2 : isR (upd n 5 (nI a - 4)) (updN F 5 a) G b e f := by
          obtain ⟨⟨c0, c1, c2, c3, c4, c5, c6, c7, c8⟩, d2, d3, d4, d5⟩ := hR
          refine ⟨⟨by rw [pk_un (by omega)]; exact c0, by rw [pk_un (by omega)]; exact c1, c2, c3, c4, c5, fun i hi => by rw [pk_un (by omega)]; exact c6 i hi, c7, c8⟩, fun j hj => ?_, fun j hj => ?_, ?_, d5⟩
          · have := hj
            unfold nk at this
            rw [pk_un (by omega), ho j (by omega)]; exact d2 j hj
          · have := hj
            unfold gk at this
            rw [pk_un (by omega)]; exact d3 j hj
          · rw [pk_us, uNs]
        refine q 1 _ _ ⟨updN F 5 a, G, b, e, f, k, ?_, hR2, ?_⟩ rfl ?_
        · obtain ⟨cJ, cP, cR, cC, cS, cu, cm, co, cr, cc⟩ := hC
          refine ⟨cJ, ?_, RO_c cR fun j j1 j2 => ho j (by omega), RC_c cC (fun j j1 j2 => ho j (by omega)) (fun _ _ _ => rfl), RS_c cS fun j hj => ho j (by omega), by rw [ho 3 (by omega)]; exact cu, by rw [ho 2 (by omega)]; exact cm, by rw [ho 4 (by omega)]; exact co, cr, cc⟩
          obtain ⟨p1, p2, p3, p4, p5, p6, p7, p8, p9, p10⟩ := cP
          refine ⟨fun a ha => by rw [ho _ (by omega)]; exact p1 a ha, fun a ha => by rw [ho _ (by omega)]; exact p2 a ha, fun a ha => by rw [ho _ (by omega)]; exact p3 a ha, fun a ha => by rw [ho _ (by omega)]; exact p4 a ha, p5, by rw [uNs], p7, fun g hg => by rw [ho _ (by omega)]; exact p8 g hg, fun g hg => by rw [ho _ (by omega)]; exact p9 g hg, fun g hg hn => absurd (by rw [ho _ (by omega)]; exact hz g hg) hn⟩
        · have hIF : IFr (updN F 5 a) (St b k) := by
            refine ⟨by rw [uNs]; omega, fun g hg => ?_, fun g hg hn => ?_, fun g h hg hh he hn => absurd (by rw [ho _ (by omega)]; exact hz g hg) hn⟩
            · rw [ho _ (by omega), hz g hg]; exact ⟨by omega, fun _ => rfl⟩
            · rw [ho _ (by omega)] at hn
              exact absurd (hz g hg) (iF.2.2.1 g hg hn).1
          refine ⟨IB_c hI.1 (ho 2 (by omega)) (ho 4 (by omega)) (ho 11 (by omega)) (ho 12 (by omega)) (updN_b ib (by omega)) (byA_c' iy fun j hj => ho j (by omega)) hIF (Nat.le_refl _) i5.2, Or.inl ?_⟩
          obtain ⟨v1, v2, v3⟩ := UPl_of hI z3
          exact ⟨by rw [ho 3 (by omega)]; exact v1, v2, fun t t1 t9 => UT_keep iL (fun _ _ => rfl) (Nat.le_refl _) rfl (fun j j1 j2 => ho j (by omega)) (v3 t t1 t9)⟩
        · show upd n 5 (nI a - 4) 7 = n 7
          exact pk_un (by omega)
      · exact xr (fun _ => ref) (fun a' b1 b2 b3 => x_fr27 (m := s11_told m 0) hR h8 iF.2.1 (fun hz => absurd (hz g hg) hn) (fun _ _ _ => ref))
/-- how many records of a kind, 0: all -/
def tly (b : Nat → Nat) (x : Nat) : Nat → Nat → Nat
  | 0, _ => 0
  | N + 1, j => (if x = 0 ∨ b (wlk b j) = x then 1 else 0) + tly b x N (j + 1)
theorem w_tally (hJ : isJ J b e f) (hL : LogOK b e k) {x : Nat} (hx : x < 256) {Q : Int32 → Prop} (q : Q (nI (tly b x k 0))) : wp_X2_tally J (nI x) Q := by
  have h5 := hJ.2.2.2.2.1
  have hE := hJ.2.2.1
  have hke := hL.1.1
  have go : ∀ N j a, N + j = k → Q (nI (a + tly b x N j)) → wp_X2_tally_5 J Q (N + 1) (nI x) (nI a) (nI (wlk b j)) := by
    intro N
    induction N with
    | zero =>
      intro j a hj q2
      obtain rfl : j = k := by omega
      refine ⟨fun _ => q2, fun _ => w_wh hJ hL (Nat.le_refl _) ?_⟩
      rw [if_neg (by omega)]
      exact ⟨fun _ => q2, fun z => absurd rfl z⟩
    | succ N ih =>
      intro j a hj q2
      have hj2 : j < k := by omega
      have hlt := wlk_lt (b := b) hj2
      have b0 := h5 (wlk b j)
      unfold tly at q2
      have e0 := hJ.1
      have nx : ∀ a2, a2 = a + (if x = 0 ∨ b (wlk b j) = x then 1 else 0) → wp_X2_tally_37 J (fun x1 x2 x3 => wp_X2_tally_5 J Q (N + 1) x1 x2 x3) Q (nI x) (nI a2) (nI (wlk b j)) := fun a2 ha => w_bhd hJ hL hj2 (ih (j + 1) a2 (by omega) (by rw [ha, Nat.add_assoc]; exact q2))
      refine ⟨fun z => ?_, fun _ => w_wh hJ hL (by omega) ?_⟩
      · rw [e0] at z
        exact absurd ((nI_leI (by omega) (by omega)).mp z) (by omega)
      rw [if_pos hj2]
      refine ⟨fun z => absurd z (by decide), fun _ => pk_eq x 0 (fun z y hy => ?_) (fun z => w_byteAt hJ (by omega) (pk_eq (b (wlk b j)) x (fun c y hy => ?_) (fun c => nx a (by rw [if_neg (by omega)]; rfl))))⟩
      · rw [hy, nI_1]; exact nx (a + 1) (by rw [if_pos (Or.inl z)])
      · rw [hy, nI_1]; exact nx (a + 1) (by rw [if_pos (Or.inr c)])
  refine ⟨k + 1, ?_⟩
  have := go k 0 0 (by omega) (by rw [Nat.zero_add]; exact q)
  exact this
theorem x_count (hM : isM (g11_now m) b e f) (hL : LogOK b e k) {x : Nat} (hx : x < 256) (h1 : 1 ≤ x) {Q : Int32 → S11 → Prop} (q : Q (nI (tly b x k 0)) m) : ∃ N, wp_X11_count_23 Q N (nI x) 0 8 m := by
  have h5 := hM.2.2.2.2.2.2.2.1
  have hke := hL.1.1
  have go : ∀ N j a, N + j = k → Q (nI (a + tly b x N j)) m → wp_X11_count_23 Q (N + 1) (nI x) (nI a) (nI (wlk b j)) m := by
    intro N
    induction N with
    | zero =>
      intro j a hj q2
      obtain rfl : j = k := by omega
      refine x_wh hM hL (Nat.le_refl _) ?_
      rw [if_neg (by omega)]
      exact ⟨fun _ => q2, fun z => absurd rfl z⟩
    | succ N ih =>
      intro j a hj q2
      have hj2 : j < k := by omega
      have hlt := wlk_lt (b := b) hj2
      have b0 := h5 (wlk b j)
      unfold tly at q2
      have nx : ∀ a2, a2 = a + (if x = 0 ∨ b (wlk b j) = x then 1 else 0) → wp_X11_count_44 (fun x1 x2 x3 u0 => wp_X11_count_23 Q (N + 1) x1 x2 x3 u0) Q (nI x) (nI a2) (nI (wlk b j)) m := fun a2 ha => x_len hM hL hj2 fun y hy z hz => by
        rw [hz, hy]; exact ih (j + 1) a2 (by omega) (by rw [ha, Nat.add_assoc]; exact q2)
      refine x_wh hM hL (by omega) ?_
      rw [if_pos hj2]
      refine ⟨fun z => absurd z (by decide), fun _ => x_logByte hM (by omega) (pk_eq (b (wlk b j)) x (fun c y hy => ?_) (fun c => nx a (by rw [if_neg (by omega)]; rfl)))⟩
      rw [hy, nI_1]; exact nx (a + 1) (by rw [if_pos (Or.inr c)])
  exact ⟨k + 1, go k 0 0 (by omega) (by rw [Nat.zero_add]; exact q)⟩
theorem x_recordMany (hM : isM (g11_now m) b e f) (hL : LogOK b e k) {Q : Int32 → Prop} (q : Q (nI (tly b 0 k 0))) : wp_X11_recordMany m Q := by
  have go : ∀ N j a, N + j = k → Q (nI (a + tly b 0 N j)) → wp_X11_recordMany_5 m Q (N + 1) (nI a) (nI (wlk b j)) := by
    intro N
    induction N with
    | zero =>
      intro j a hj q2
      obtain rfl : j = k := by omega
      refine x_wh hM hL (Nat.le_refl _) ?_
      rw [if_neg (by omega)]
      exact ⟨fun _ => q2, fun z => absurd rfl z⟩
    | succ N ih =>
      intro j a hj q2
      have hj2 : j < k := by omega
      unfold tly at q2
      rw [if_pos (Or.inl rfl), ← Nat.add_assoc] at q2
      refine x_wh hM hL (by omega) ?_
      rw [if_pos hj2]
      refine ⟨fun z => absurd z (by decide), fun _ y hy => x_len hM hL hj2 fun z hz t ht => ?_⟩
      rw [ht, hz, hy, nI_1]; exact ih (j + 1) (a + 1) (by omega) q2
  exact ⟨k + 1, go k 0 0 (by omega) (by rw [Nat.zero_add]; exact q)⟩
theorem o_count (h : SW (g10_now u) n) (x1 : Int32) {K : Int32 → Int32 → S11 → Prop} (q : ∀ r, K r r (mS (s11_told m 0) n pn)) : wp_X10_count u x1 (fun r => wp_X11_count (mS m n pn) x1 (fun r2 v2 => K r r2 v2)) := by
  obtain ⟨F, G, b, e, f, k, hC, hR, hI⟩ := h
  have iL := hI.1.2.2.2.1
  rcases rng x1 (lo := 1) (hi := 10) (by omega) (by omega) with z | z | ⟨a, a1, a2, a3, a4, a5⟩
  · refine ⟨fun _ v hv => ?_, fun y => absurd z y⟩
    rw [hv]; exact x_isIn0 (Or.inl z) ⟨fun _ => q _, fun y => absurd rfl y⟩
  · refine ⟨fun y => absurd y z.1, fun _ => ⟨fun y => absurd z.2 (Int32.not_lt.mpr y), fun _ v hv => ?_⟩⟩
    rw [hv]; exact x_isIn0 (Or.inr z.2) ⟨fun _ => q _, fun y => absurd rfl y⟩
  · subst a3
    refine ⟨fun y => absurd y a4, fun _ => ⟨fun _ => w_tally hC.1 iL (by omega) fun v hv => ?_, fun y => absurd (Int32.not_lt.mp a5) y⟩⟩
    rw [hv]
    exact x_isIn1 (lo := 1) (hi := 10) rfl (by omega) (by omega) a1 a2 ⟨fun y => absurd y (by decide), fun _ => x_count (m := mS (s11_told m 0) n pn) hR.1 iL (by omega) a1 (q _)⟩
end
