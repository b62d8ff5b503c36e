/-! ===== one World copied into another ===== -/
section
variable {F : Nat → Nat} {G : Nat → Int32} {b : Nat → Nat} {e f k : Nat} {w w1 : S9}
theorem cpI {a d : Nat → Int32} {N : Int32} {i k : Nat} (hN : N.toNatClampNeg = k) (h : i < k) : va_cpy a d (0 : Int32).toNatClampNeg (0 : Int32).toNatClampNeg N.toNatClampNeg i = a i := by
  rw [hN]
  show (if 0 ≤ i ∧ i < 0 + k then a (0 + (i - 0)) else d i) = a i
  rw [if_pos (by omega), Nat.zero_add, Nat.sub_zero]
/-- scripts that tell the same -/
def SSc (a d : S6) : Prop := (∀ i, i < 96 → g6_parts a i = g6_parts d i) ∧ g6_size a = g6_size d ∧ g6_ran a = g6_ran d
theorem w_copy6 {a d : S6} {Q : S6 → Prop} (q : ∀ s, SSc s d → Q s) : wp_X6_copyFrom a d Q := by
  refine ⟨by decide, fun s1 h1 s2 h2 s3 h3 => q s3 ?_⟩
  rw [h3, h2, h1]
  exact ⟨fun i hi => cpI (k := 96) (by decide) hi, rfl, rfl⟩
theorem w_copyFrom (hC : CW w1 F G b e f) {Q : S9 → Prop} (q : ∀ w2, CW w2 F G b e f → SSc (g9_script w2) (g9_script w1) → Q w2) : wp_X9_copyFrom w w1 Q := by
  obtain ⟨cJ, cP, cR, cC, cS, cu, cm, co, cr, cc⟩ := hC
  have hE := cJ.2.2.1
  have eif : (if g2_endPlace (g9_journal w1) < 8600 then g2_endPlace (g9_journal w1) else 8600) = nI e := by
    rw [cJ.1]
    by_cases c : e < 8600
    · exact if_pos (show nI e < nI 8600 from nI_lt c (by omega))
    · have e2 : (8600 : Int32) = nI e := by
        show nI 8600 = nI e
        congr 1; omega
      exact (if_neg (fun y => c ((nI_ltI (b := 8600) (by omega) (by omega)).mp y))).trans e2
  have h8600 : (nI e).toNatClampNeg = e := nI_clamp (by omega)
  intro J1 hJ1 J2 hJ2
  have eif2 : (if g2_endPlace J2 < 8600 then g2_endPlace J2 else 8600) = nI e := by rw [hJ2, hJ1]; exact eif
  rw [eif2]
  refine ⟨⟨by decide, by decide, nI_pos (by omega), by rw [h8600]; show 0 + e ≤ 8600; omega, by rw [h8600]; show 0 + e ≤ 8600; omega⟩, fun J3 hJ3 w2 hw2 => ?_⟩
  have hJ : isJ J3 b e f := by
    rw [hJ3, hJ2, hJ1]
    exact ⟨cJ.1, cJ.2.1, hE, fun i hi => (cpI h8600 hi).trans (cJ.2.2.2.1 i hi), cJ.2.2.2.2.1, cJ.2.2.2.2.2⟩
  refine ⟨by decide, fun P1 h1 => ⟨by decide, fun P2 h2 => ⟨by decide, fun P3 h3 => ⟨by decide, fun P4 h4 P5 h5 P6 h6 => ⟨by decide, fun P7 h7 => ⟨by decide, fun P8 h8 => ⟨by decide, fun P9 h9 => ⟨by decide, fun P10 h10 => ⟨by decide, fun P11 h11 P12 h12 w3 hw3 => ?_⟩⟩⟩⟩⟩⟩⟩⟩⟩
  have hP : RP P12 F G := by
    obtain ⟨p1, p2, p3, p4, p5, p6, p7, p8, p9, p10⟩ := cP
    rw [h12, h11, h10, h9, h8, h7, h6, h5, h4, h3, h2, h1]
    refine ⟨fun a ha => (cpI (k := 256) (by decide) ha).trans (p1 a ha), fun a ha => (cpI (k := 16) (by decide) ha).trans (p2 a ha), fun a ha => (cpI (k := 256) (by decide) ha).trans (p3 a ha), fun a ha => (cpI (k := 16) (by decide) ha).trans (p4 a ha), p5, p6, p7, fun g hg => (cpI (k := 8) (by decide) hg).trans (p8 g hg), fun g hg => (cpI (k := 8) (by decide) hg).trans (p9 g hg), fun g hg hn => ⟨(cpI (k := 8) (by decide) hg).trans (p10 g hg hn).1, (cpI (k := 8) (by decide) hg).trans (p10 g hg hn).2.1, fun i hi => (cpI (k := 128) (by decide) (by omega)).trans ((p10 g hg hn).2.2 i hi)⟩⟩
  refine ⟨by decide, fun R1 r1 => ⟨by decide, fun R2 r2 => ⟨by decide, fun R3 r3 w4 hw4 => ?_⟩⟩⟩
  have hR : RO R3 F := by
    rw [r3, r2, r1]
    intro t t1 t9
    obtain ⟨a1, a2, a3⟩ := cR t t1 t9
    exact ⟨(cpI (k := 10) (by decide) (by omega)).trans a1, (cpI (k := 10) (by decide) (by omega)).trans a2, (cpI (k := 10) (by decide) (by omega)).trans a3⟩
  refine ⟨by decide, fun C1 c1 => ⟨by decide, fun C2 c2 => ⟨by decide, fun C3 c3 => ⟨by decide, fun C4 c4 => ⟨by decide, fun C5 c5 => ⟨by decide, fun C6 c6 => ⟨by decide, fun C7 c7 w5 hw5 => ?_⟩⟩⟩⟩⟩⟩⟩
  have hCl : RC C7 F G := by
    rw [c7, c6, c5, c4, c3, c2, c1]
    obtain ⟨a1, a2, a3⟩ := cC
    refine ⟨fun a ha => (cpI (k := 256) (by decide) ha).trans (a1 a ha), fun a ha => (cpI (k := 256) (by decide) ha).trans (a2 a ha), fun t t1 t9 => ?_⟩
    obtain ⟨d1, d2, d3, d4, d5⟩ := a3 t t1 t9
    exact ⟨(cpI (k := 10) (by decide) (by omega)).trans d1, (cpI (k := 10) (by decide) (by omega)).trans d2, (cpI (k := 10) (by decide) (by omega)).trans d3, fun i hi h8 => (cpI (k := 80) (by decide) (by omega)).trans (d4 i hi h8), fun i hi h4 => (cpI (k := 40) (by decide) (by omega)).trans (d5 i hi h4)⟩
  refine ⟨by decide, fun S1 s1 => ⟨by decide, fun S2 s2 S3 s3 S4 s4 w6 hw6 => ?_⟩⟩
  have hS : RS S4 F := by
    rw [s4, s3, s2, s1]
    obtain ⟨a1, a2, a3, a4⟩ := cS
    exact ⟨fun a ha => (cpI (k := 256) (by decide) ha).trans (a1 a ha), fun p hp => (cpI (k := 16) (by decide) hp).trans (a2 p hp), a3, a4⟩
  refine w_copy6 fun X hX w7 hw7 => ⟨?_, fun w8 hw8 w9 hw9 w10 hw10 w11 hw11 w12 hw12 => ?_⟩
  · rw [cu]
    by_cases c : F 3 = 0
    · rw [if_pos c]; exact Or.inr rfl
    · rw [if_neg c]; exact Or.inl rfl
  · have e12 : w12 = (J3, P12, R3, C7, S4, X, g9_up w1, g9_master w1, g9_openCheck w1, g9_redone w1, g9_crashes w1) := by
      rw [hw12, hw11, hw10, hw9, hw8, hw7, hw6, hw5, hw4, hw3, hw2]
    rw [e12]
    exact q _ ⟨hJ, hP, hR, hCl, hS, cu, cm, co, cr, cc⟩ hX
end
