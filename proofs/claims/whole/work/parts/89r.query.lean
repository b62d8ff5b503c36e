/-! ===== calls of the store: frames, at, page, log ===== -/
section
variable {m : S11} {n : Nat → Int32} {pn : Int32} {F F2 : Nat → Nat} {G G2 : Nat → Int32} {b b2 : Nat → Nat} {e f k e2 f2 c cp en : Nat} {w : S9} {P : S3} {C : S0} {R : S5} {J : S2} {U : Nat → Nat} {r : S4} {x2 : Int32} {u : S10}
theorem o_at (h : SW (g10_now u) n) (x1 x2 : Int32) {K : Int32 → Int32 → S11 → Prop} (q : ∀ r, K r r (mS (s11_told m 0) n pn)) : wp_X10_at u x1 x2 (fun r => wp_X11_at (mS m n pn) x1 x2 (fun r2 v2 => K r r2 v2)) := by
  obtain ⟨F, G, b, e, f, k, hC, hR, hI⟩ := h
  obtain ⟨ib, iy, iF, iL, -⟩ := hI.1
  have cP := hC.2.1
  have cC := hC.2.2.2.1
  rcases rng x1 (lo := 0) (hi := 255) (by omega) (by omega) with z | z | ⟨a, a1, a2, a3, a4, a5⟩
  · refine ⟨fun _ v hv => ?_, fun y => absurd z y⟩
    rw [hv]; exact x_isIn0 (Or.inl z) ⟨fun _ => q _, fun y => absurd rfl y⟩
  · have z2 : ¬ x1 < 256 := fun y => by
      have := Int32.lt_iff_toInt_lt.mp y
      have := Int32.lt_iff_toInt_lt.mp z.2
      have e1 : (256 : Int32).toInt = 256 := by decide
      have e2 : (nI 255).toInt = 255 := by decide
      omega
    refine ⟨fun y => absurd y z.1, fun _ => ⟨fun y => absurd y z2, fun _ v hv => ?_⟩⟩
    rw [hv]; exact x_isIn0 (Or.inr z.2) ⟨fun _ => q _, fun y => absurd rfl y⟩
  · subst a3
    have xx : ∀ {K2 : Int32 → S11 → Prop}, ((x2 = 0 → wp_X11_byteNow (mS (s11_told m 0) n pn) (nI a) (fun r_3 => K2 r_3 (mS (s11_told m 0) n pn))) ∧ (¬ x2 = 0 → (x2 = 1 → K2 (nI (F (16 + a))) (mS (s11_told m 0) n pn)) ∧ (¬ x2 = 1 → (x2 = 2 → K2 (G (882 + a)) (mS (s11_told m 0) n pn)) ∧ (¬ x2 = 2 → (x2 = 3 → K2 (G (1138 + a)) (mS (s11_told m 0) n pn)) ∧ (¬ x2 = 3 → K2 (-1) (mS (s11_told m 0) n pn)))))) → wp_X11_at (mS m n pn) (nI a) x2 K2 := by
      intro K2 hk v hv
      rw [hv]
      refine x_isIn1 (lo := 0) (hi := 255) rfl (by omega) (by omega) a1 a2 ⟨fun y => absurd y (by decide), fun _ => ⟨hk.1, fun y0 => ⟨fun y1 => ?_, fun y1 => ⟨fun y2 => ?_, fun y2 => ⟨fun y3 => ?_, fun y3 => (((hk.2 y0).2 y1).2 y2).2 y3⟩⟩⟩⟩⟩
      · rw [show (16 : Int32) + nI a = nI (16 + a) from nI_add 16 a, nI_clamp (by omega)]
        refine ⟨ivp (by omega) (by omega), ?_⟩
        show K2 (n (16 + a)) _
        rw [hR.2.1 _ (by unfold nk; omega)]; exact (hk.2 y0).1 y1
      · rw [show (882 : Int32) + nI a = nI (882 + a) from nI_add 882 a, nI_clamp (by omega)]
        refine ⟨ivp (by omega) (by omega), ?_⟩
        show K2 (n (882 + a)) _
        rw [hR.2.2.1 _ (by unfold gk; omega)]; exact ((hk.2 y0).2 y1).1 y2
      · rw [show (1138 : Int32) + nI a = nI (1138 + a) from nI_add 1138 a, nI_clamp (by omega)]
        refine ⟨ivp (by omega) (by omega), ?_⟩
        show K2 (n (1138 + a)) _
        rw [hR.2.2.1 _ (by unfold gk; omega)]; exact (((hk.2 y0).2 y1).2 y2).1 y3
    refine ⟨fun y => absurd y a4, fun _ => ⟨fun _ => ⟨fun y0 => ?_, fun y0 => ⟨fun y1 => ⟨ivp (by omega) (by omega), ?_⟩, fun y1 => ⟨fun y2 => ⟨ivp (by omega) (by omega), ?_⟩, fun y2 => ⟨fun y3 => ⟨ivp (by omega) (by omega), ?_⟩, fun y3 => ?_⟩⟩⟩⟩, fun y => absurd (nI_lt (b := 256) (by omega) (by omega)) y⟩⟩
    · refine w_byteNow cP iF.1.2 ib (by omega) (xx ⟨fun _ => x_byteNow (m := s11_told m 0) hR iF.1.2 ib (by omega) (q _), fun y => absurd y0 y⟩)
    · rw [nI_clamp (by omega), cP.1 a (by omega)]
      exact xx ⟨fun y => absurd y y0, fun _ => ⟨fun _ => q _, fun y => absurd y1 y⟩⟩
    · rw [nI_clamp (by omega), cC.1 a (by omega)]
      exact xx ⟨fun y => absurd y y0, fun _ => ⟨fun y => absurd y y1, fun _ => ⟨fun _ => q _, fun y => absurd y2 y⟩⟩⟩
    · rw [nI_clamp (by omega), cC.2.1 a (by omega)]
      exact xx ⟨fun y => absurd y y0, fun _ => ⟨fun y => absurd y y1, fun _ => ⟨fun y => absurd y y2, fun _ => ⟨fun _ => q _, fun y => absurd y3 y⟩⟩⟩⟩
    · exact xx ⟨fun y => absurd y y0, fun _ => ⟨fun y => absurd y y1, fun _ => ⟨fun y => absurd y y2, fun _ => ⟨fun y => absurd y y3, fun _ => q _⟩⟩⟩⟩
theorem o_page (h : SW (g10_now u) n) (x1 x2 : Int32) {K : Int32 → Int32 → S11 → Prop} (q : ∀ r, K r r (mS (s11_told m 0) n pn)) : wp_X10_page u x1 x2 (fun r => wp_X11_page (mS m n pn) x1 x2 (fun r2 v2 => K r r2 v2)) := by
  obtain ⟨F, G, b, e, f, k, hC, hR, hI⟩ := h
  obtain ⟨ib, iy, iF, iL, -⟩ := hI.1
  have cP := hC.2.1
  have h8 := iF.1.2
  rcases rng x1 (lo := 0) (hi := 15) (by omega) (by omega) with z | z | ⟨p, a1, a2, a3, a4, a5⟩
  · refine ⟨fun _ v hv => ?_, fun y => absurd z y⟩
    rw [hv]; exact x_isIn0 (Or.inl z) ⟨fun _ => q _, fun y => absurd rfl y⟩
  · have z2 : ¬ x1 < 16 := fun y => by
      have := Int32.lt_iff_toInt_lt.mp y
      have := Int32.lt_iff_toInt_lt.mp z.2
      have e1 : (16 : Int32).toInt = 16 := by decide
      have e2 : (nI 15).toInt = 15 := by decide
      omega
    refine ⟨fun y => absurd y z.1, fun _ => ⟨fun y => absurd y z2, fun _ v hv => ?_⟩⟩
    rw [hv]; exact x_isIn0 (Or.inr z.2) ⟨fun _ => q _, fun y => absurd rfl y⟩
  · subst a3
    -- what both answer
    have e272 : n (272 + p) = nI (F (272 + p)) := hR.2.1 _ (by unfold nk; omega)
    have e544 : n (544 + p) = nI (F (544 + p)) := hR.2.1 _ (by unfold nk; omega)
    have c272 : ((272 : Int32) + nI p).toNatClampNeg = 272 + p := by rw [show (272 : Int32) + nI p = nI (272 + p) from nI_add 272 p, nI_clamp (by omega)]
    have c544 : ((544 : Int32) + nI p).toNatClampNeg = 544 + p := by rw [show (544 : Int32) + nI p = nI (544 + p) from nI_add 544 p, nI_clamp (by omega)]
    have i272 : vp_in ((272 : Int32) + nI p) 10700 := by rw [show (272 : Int32) + nI p = nI (272 + p) from nI_add 272 p]; exact ivp (by omega) (by omega)
    have i544 : vp_in ((544 : Int32) + nI p) 10700 := by rw [show (544 : Int32) + nI p = nI (544 + p) from nI_add 544 p]; exact ivp (by omega) (by omega)
    have xx : ∀ {K2 : Int32 → S11 → Prop}, ((x2 = 0 → K2 (nI (if fo F p < F 5 then F (561 + 20 * fo F p) else F (272 + p))) (mS (s11_told m 0) n pn)) ∧ (¬ x2 = 0 → (x2 = 1 → K2 (nI (F (272 + p))) (mS (s11_told m 0) n pn)) ∧ (¬ x2 = 1 → (x2 = 2 → K2 (foI F p) (mS (s11_told m 0) n pn)) ∧ (¬ x2 = 2 → (x2 = 3 → K2 (nI (if fo F p < F 5 then F (562 + 20 * fo F p) else 0)) (mS (s11_told m 0) n pn)) ∧ (¬ x2 = 3 → (x2 = 4 → (lostP G p → K2 1 (mS (s11_told m 0) n pn)) ∧ (¬ lostP G p → K2 0 (mS (s11_told m 0) n pn))) ∧ (¬ x2 = 4 → (x2 = 5 → K2 (nI (F (544 + p))) (mS (s11_told m 0) n pn)) ∧ (¬ x2 = 5 → K2 (-1) (mS (s11_told m 0) n pn)))))))) → wp_X11_page (mS m n pn) (nI p) x2 K2 := by
      intro K2 hk v hv
      rw [hv]
      refine x_isIn1 (lo := 0) (hi := 15) rfl (by omega) (by omega) a1 a2 ⟨fun y => absurd y (by decide), fun _ => x_frameOf (m := s11_told m 0) hR h8 (by omega) ib ?_⟩
      have fr : ∀ (j : Nat), (j = 1 ∨ j = 2) → fo F p < F 5 → ∀ {K3 : Int32 → Prop}, K3 (nI (F (560 + j + 20 * fo F p))) → wp_X11_frameAt (mS (s11_told m 0) n pn) (nI (fo F p)) (fun r_6 => vp_in (r_6 + nI j) 10700 ∧ K3 ((g11_now (mS (s11_told m 0) n pn)) (r_6 + nI j).toNatClampNeg)) := by
        intro j hj hlt K3 k3
        simp only [wp_X11_frameAt]
        have ef : (560 : Int32) + 20 * nI (fo F p) + nI j = nI (560 + j + 20 * fo F p) := by
          show nI 560 + nI 20 * nI _ + nI j = _
          rw [pk_mul, nI_add, nI_add]; congr 1; omega
        rw [ef, nI_clamp (by omega)]
        refine ⟨ivp (by omega) (by omega), ?_⟩
        show K3 (n (560 + j + 20 * fo F p))
        rw [hR.2.1 _ (by unfold nk; omega)]; exact k3
      refine ⟨fun y0 => ?_, fun y0 => ⟨fun y1 => ⟨i272, ?_⟩, fun y1 => ⟨fun y2 => ((hk.2 y0).2 y1).1 y2, fun y2 => ⟨fun y3 => ?_, fun y3 => ⟨fun y4 => x_isLostPage (m := s11_told m 0) hR (fun hl => ⟨fun z => absurd z (by decide), fun _ => (((((hk.2 y0).2 y1).2 y2).2 y3).1 y4).1 hl⟩) (fun hl => ⟨fun _ => (((((hk.2 y0).2 y1).2 y2).2 y3).1 y4).2 hl, fun z => absurd rfl z⟩), fun y4 => ⟨fun y5 => ⟨i544, ?_⟩, fun y5 => (((((hk.2 y0).2 y1).2 y2).2 y3).2 y4).2 y5⟩⟩⟩⟩⟩⟩
      · have := hk.1 y0
        rcases foI_cases F p h8 with ⟨d1, d2⟩ | ⟨d1, d2⟩
        · rw [if_neg d2] at this
          rw [d1]
          refine ⟨fun _ => ⟨i272, ?_⟩, fun z => absurd rfl z⟩
          rw [c272]
          show K2 (n (272 + p)) _
          rw [e272]; exact this
        · rw [if_pos d2] at this
          rw [d1]
          exact ⟨fun z => absurd z.symm (Lim_0.resolve_right (by omega)), fun _ => fr 1 (Or.inl rfl) d2 (K3 := fun r => K2 r (mS (s11_told m 0) n pn)) this⟩
      · rw [c272]
        show K2 (n (272 + p)) _
        rw [e272]; exact (hk.2 y0).1 y1
      · have := (((hk.2 y0).2 y1).2 y2).1 y3
        rcases foI_cases F p h8 with ⟨d1, d2⟩ | ⟨d1, d2⟩
        · rw [if_neg d2] at this
          rw [d1]
          exact ⟨fun _ => this, fun z => absurd rfl z⟩
        · rw [if_pos d2] at this
          rw [d1]
          exact ⟨fun z => absurd z.symm (Lim_0.resolve_right (by omega)), fun _ => fr 2 (Or.inr rfl) d2 (K3 := fun r => K2 r (mS (s11_told m 0) n pn)) this⟩
      · rw [c544]
        show K2 (n (544 + p)) _
        rw [e544]; exact (((((hk.2 y0).2 y1).2 y2).2 y3).2 y4).1 y5
    refine ⟨fun y => absurd y a4, fun _ => ⟨fun _ => w_frameOf cP h8 (by omega) ib ?_, fun y => absurd (nI_lt (b := 16) (by omega) (by omega)) y⟩⟩
    have hne : fo F p < F 5 → F (560 + 20 * fo F p) ≠ 0 := fun d => by rw [fo_held d]; omega
    refine ⟨fun y0 => ?_, fun y0 => ⟨fun y1 => ⟨ivp (by omega) (by omega), ?_⟩, fun y1 => ⟨fun y2 => ?_, fun y2 => ⟨fun y3 => ?_, fun y3 => ⟨fun y4 => w_isLost cP (fun hl => ⟨fun z => absurd z (by decide), fun _ => ?_⟩) (fun hl => ⟨fun _ => ?_, fun z => absurd rfl z⟩), fun y4 => ⟨fun y5 => ⟨ivp (by omega) (by omega), ?_⟩, fun y5 => ?_⟩⟩⟩⟩⟩⟩
    · have go := fun (r : Int32) (hr : r = nI (if fo F p < F 5 then F (561 + 20 * fo F p) else F (272 + p))) => xx (K2 := fun r2 v2 => K r r2 v2) ⟨fun _ => by rw [← hr]; exact q r, fun y => absurd y0 y⟩
      rcases foI_cases F p h8 with ⟨d1, d2⟩ | ⟨d1, d2⟩
      · rw [d1]
        refine ⟨fun z => absurd z (by decide), fun _ => ⟨ivp (by omega) (by omega), go _ ?_⟩⟩
        rw [nI_clamp (by omega), if_neg d2]; exact cP.2.1 p (by omega)
      · rw [d1]
        refine ⟨fun _ => ⟨ivp (by omega) (by omega), go _ ?_⟩, fun z => absurd (nI_pos' (by omega)) z⟩
        rw [nI_clamp (by omega), if_pos d2]; exact (cP.2.2.2.2.2.2.2.2.2 _ (by omega) (hne d2)).1
    · rw [nI_clamp (by omega), cP.2.1 p (by omega)]
      exact xx ⟨fun y => absurd y y0, fun _ => ⟨fun _ => q _, fun y => absurd y1 y⟩⟩
    · exact xx ⟨fun y => absurd y y0, fun _ => ⟨fun y => absurd y y1, fun _ => ⟨fun _ => q _, fun y => absurd y2 y⟩⟩⟩
    · have go := fun (r : Int32) (hr : r = nI (if fo F p < F 5 then F (562 + 20 * fo F p) else 0)) => xx (K2 := fun r2 v2 => K r r2 v2) ⟨fun y => absurd y y0, fun _ => ⟨fun y => absurd y y1, fun _ => ⟨fun y => absurd y y2, fun _ => ⟨fun _ => by rw [← hr]; exact q r, fun y => absurd y3 y⟩⟩⟩⟩
      rcases foI_cases F p h8 with ⟨d1, d2⟩ | ⟨d1, d2⟩
      · rw [d1]
        exact ⟨fun z => absurd z (by decide), fun _ => go _ (by rw [if_neg d2]; rfl)⟩
      · rw [d1]
        refine ⟨fun _ => ⟨ivp (by omega) (by omega), go _ ?_⟩, fun z => absurd (nI_pos' (by omega)) z⟩
        rw [nI_clamp (by omega), if_pos d2]; exact cP.2.2.2.2.2.2.2.2.1 _ (by omega)
    · exact xx ⟨fun y => absurd y y0, fun _ => ⟨fun y => absurd y y1, fun _ => ⟨fun y => absurd y y2, fun _ => ⟨fun y => absurd y y3, fun _ => ⟨fun _ => ⟨fun _ => q _, fun z => absurd hl z⟩, fun y => absurd y4 y⟩⟩⟩⟩⟩
    · exact xx ⟨fun y => absurd y y0, fun _ => ⟨fun y => absurd y y1, fun _ => ⟨fun y => absurd y y2, fun _ => ⟨fun y => absurd y y3, fun _ => ⟨fun _ => ⟨fun z => absurd z hl, fun _ => q _⟩, fun y => absurd y4 y⟩⟩⟩⟩⟩
    · rw [nI_clamp (by omega), cP.2.2.2.1 p (by omega)]
      exact xx ⟨fun y => absurd y y0, fun _ => ⟨fun y => absurd y y1, fun _ => ⟨fun y => absurd y y2, fun _ => ⟨fun y => absurd y y3, fun _ => ⟨fun y => absurd y y4, fun _ => ⟨fun _ => q _, fun y => absurd y5 y⟩⟩⟩⟩⟩⟩
    · exact xx ⟨fun y => absurd y y0, fun _ => ⟨fun y => absurd y y1, fun _ => ⟨fun y => absurd y y2, fun _ => ⟨fun y => absurd y y3, fun _ => ⟨fun y => absurd y y4, fun _ => ⟨fun y => absurd y y5, fun _ => q _⟩⟩⟩⟩⟩⟩
theorem o_log (h : SW (g10_now u) n) (x1 : Int32) {K : Int32 → Int32 → S11 → Prop} (q : ∀ r, K r r (mS (s11_told m 0) n pn)) : wp_X10_log u x1 (fun r => wp_X11_log (mS m n pn) x1 (fun r2 v2 => K r r2 v2)) := by
  obtain ⟨F, G, b, e, f, k, hC, hR, hI⟩ := h
  have cJ := hC.1
  have hE := cJ.2.2.1
  have h8 := hR.1.2.2.1
  have e0 : g2_endPlace (g9_journal (g10_now u)) = nI e := cJ.1
  have xx : ∀ {K2 : Int32 → S11 → Prop}, (x1 < 8 ∨ nI (e - 1) < x1 → K2 (-1) (mS (s11_told m 0) n pn)) → (∀ a, 8 ≤ a → a < e → x1 = nI a → K2 (nI (b a)) (mS (s11_told m 0) n pn)) → wp_X11_log (mS m n pn) x1 K2 := by
    intro K2 k0 k1 v hv
    rw [hv]
    refine x_end1 (m := mS (s11_told m 0) n pn) hR.1 ?_
    rw [show nI e - 1 = nI (e - 1) from pk_sub (b := 1) (by omega)]
    rcases rng x1 (lo := 8) (hi := e - 1) (by omega) (by omega) with z | z | ⟨a, a1, a2, a3, a4, a5⟩
    · exact x_isIn0 (Or.inl z) ⟨fun _ => k0 (Or.inl z), fun y => absurd rfl y⟩
    · exact x_isIn0 (Or.inr z.2) ⟨fun _ => k0 (Or.inr z.2), fun y => absurd rfl y⟩
    · subst a3
      exact x_isIn1 (lo := 8) (hi := e - 1) rfl (by omega) (by omega) a1 a2 ⟨fun y => absurd y (by decide), fun _ => x_logByte (m := mS (s11_told m 0) n pn) hR.1 (by omega) (k1 a a1 (by omega) rfl)⟩
  unfold wp_X10_log
  rw [e0]
  rcases rng x1 (lo := 8) (hi := e - 1) (by omega) (by omega) with z | z | ⟨a, a1, a2, a3, a4, a5⟩
  · refine ⟨fun _ => xx (fun _ => q _) (fun a b1 b2 b3 => ?_), fun y => absurd z y⟩
    rw [b3] at z
    exact absurd z (fun y => by have := (nI_ltI (b := 8) (by omega) (by omega)).mp y; omega)
  · have z2 : ¬ x1 < nI e := fun y => by
      have y1 := Int32.lt_iff_toInt_lt.mp y
      have y2 := Int32.lt_iff_toInt_lt.mp z.2
      obtain ⟨j, hj, rfl⟩ := nI_of (x := x1) (fun t => z.1 (Int32.lt_trans t (by decide)))
      have := (nI_ltI (by omega) (by omega)).mp y
      have := (nI_ltI (by omega) hj).mp z.2
      omega
    refine ⟨fun y => absurd y z.1, fun _ => ⟨fun y => absurd y z2, fun _ => xx (fun _ => q _) (fun a b1 b2 b3 => ?_)⟩⟩
    exact absurd (by rw [b3]; exact nI_lt b2 (by omega)) z2
  · subst a3
    refine ⟨fun y => absurd y a4, fun _ => ⟨fun _ => w_byteAt cJ (by omega) (xx (fun z => z.elim (fun y => absurd y a4) (fun y => absurd y a5)) (fun a' b1 b2 b3 => ?_)), fun y => absurd (nI_lt (by omega) (by omega)) y⟩⟩
    have := (nI_eq (by omega) (by omega)).mp b3
    subst this
    exact q _
end
