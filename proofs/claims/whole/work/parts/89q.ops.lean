/-! ===== calls of the store: crash, frames, recover ===== -/
section
variable {m : S11} {n : Nat → Int32} {pn : Int32} {F F2 : Nat → Nat} {G G2 : Nat → Int32} {b b2 : Nat → Nat} {e f k e2 f2 c cp en : Nat} {w : S9} {P : S3} {C : S0} {R : S5} {J : S2} {U : Nat → Nat} {r : S4} {x2 : Int32} {u : S10}
theorem rng (x : Int32) {lo hi : Nat} (hl : lo < 2 ^ 31) (hh : hi < 2 ^ 31) : x < nI lo ∨ (¬ x < nI lo ∧ nI hi < x) ∨ ∃ a, lo ≤ a ∧ a ≤ hi ∧ x = nI a ∧ ¬ x < nI lo ∧ ¬ nI hi < x := by
  by_cases h1 : x < nI lo
  · exact Or.inl h1
  · by_cases h9 : nI hi < x
    · exact Or.inr (Or.inl ⟨h1, h9⟩)
    · have h0 : ¬ x < 0 := fun z => h1 (Int32.lt_of_lt_of_le z (nI_pos' hl))
      obtain ⟨j, hj, rfl⟩ := nI_of h0
      refine Or.inr (Or.inr ⟨j, ?_, ?_, rfl, h1, h9⟩)
      · exact Nat.not_lt.mp fun z => h1 (nI_lt z hl)
      · exact Nat.not_lt.mp fun z => h9 (nI_lt z hj)
theorem o_crash (h : SW (g10_now u) n) (x : Int32) {K : Int32 → S10 → Int32 → S11 → Prop} (q : ∀ r w2 n2, SW w2 n2 → g9_script w2 = g9_script (g10_now u) → n2 7 = n 7 → K r (s10_now u w2) r (mS (s11_told m 0) n2 pn)) : wp_X10_crash u x (fun r u2 => wp_X11_crash (mS m n pn) x (fun r2 v2 => K r u2 r2 v2)) := by
  have ref : K 0 u 0 (mS (s11_told m 0) n pn) := q 0 (g10_now u) n h rfl rfl
  obtain ⟨F, G, b, e, f, k, hC, hR, hI⟩ := h
  have ib := hI.1.1
  refine w_up hC.2.2.2.2.2.1 (fun z3 v hv => ?_) (fun z3 => ?_)
  · rw [hv]
    refine x_isUp (m := s11_told m 0) hR (ib 3) ?_
    rw [if_neg z3]
    exact ⟨fun _ => ref, fun z => absurd rfl z⟩
  · have xr : ∀ {K2 : Int32 → S11 → Prop}, (x < 0 ∨ 999 < x → K2 0 (mS (s11_told m 0) n pn)) → (∀ a, a ≤ 999 → x = nI a → wp_X11_crashes (mS (s11_told m 0) n pn) x (fun v => K2 1 v)) → wp_X11_crash (mS m n pn) x K2 := by
      intro K2 k0 k1 v hv
      rw [hv]
      refine x_isUp (m := s11_told m 0) hR (ib 3) ?_
      rw [if_pos z3]
      refine ⟨fun z => absurd z (by decide), fun _ => ?_⟩
      rcases rng x (lo := 0) (hi := 999) (by omega) (by omega) with z | z | ⟨a, a1, a2, a3, a4, a5⟩
      · exact x_isIn0 (Or.inl z) ⟨fun _ => k0 (Or.inl z), fun y => absurd rfl y⟩
      · exact x_isIn0 (Or.inr z.2) ⟨fun _ => k0 (Or.inr z.2), fun y => absurd rfl y⟩
      · exact x_isIn1 (lo := 0) (hi := 999) a3 (by omega) (by omega) a1 a2 ⟨fun y => absurd y (by decide), fun _ => k1 a a2 a3⟩
    have oor : (x < 0 ∨ 999 < x) → wp_X11_crash (mS m n pn) x (fun r2 v2 => K 0 u r2 v2) := fun hz => xr (fun _ => ref) (fun a a1 a2 => by
      exfalso
      rw [a2] at hz
      rcases hz with y | y
      · exact absurd y (nI_pos (by omega))
      · have y : nI 999 < nI a := y
        have := (nI_ltI (by omega) (by omega)).mp y; omega)
    rcases rng x (lo := 0) (hi := 999) (by omega) (by omega) with z | z | ⟨a, a1, a2, a3, a4, a5⟩
    · exact ⟨fun _ => oor (Or.inl z), fun y => absurd z y⟩
    · refine ⟨fun _ => oor (Or.inr z.2), fun _ => ⟨fun y => absurd y (Int32.not_le.mpr z.2), fun _ => oor (Or.inr z.2)⟩⟩
    · refine ⟨fun y => absurd y a4, fun _ => ⟨fun _ => ?_, fun y => absurd (Int32.not_lt.mp a5) y⟩⟩
      rw [a3]
      have i5 := hI.1.2.2.2.2.1.2
      refine w_fall hC (by omega) i5 fun w2 hC2 s2 u2 hu2 => ?_
      rw [hu2]
      rw [a3] at xr
      obtain ⟨k2, hI2⟩ := cr_IV (G := G) (mm := a) hI.1
      refine xr (fun z => ?_) (fun a' b1 b2 => x_crashes hR i5 (by omega) fun n2 r2 => q 1 w2 n2 ⟨_, _, _, _, _, k2, hC2, r2, hI2⟩ s2 (sw_7 hR r2 ?_))
      · exfalso
        rcases z with y | y
        · exact absurd y (nI_pos (by omega))
        · have y : nI 999 < nI a := y
          have := (nI_ltI (by omega) (by omega)).mp y; omega
      · unfold crF; rw [if_neg (by omega), if_neg (by omega), if_neg (by omega)]
theorem o_recover (h : SW (g10_now u) n) (x : Int32) {K : Int32 → S10 → Int32 → S11 → Prop} (q : ∀ r r4 w2 n2 p2 a b c d l V, SW w2 n2 → g9_script w2 = g9_script (g10_now u) → n2 7 = n 7 → K r (s10_now (s10_recovery u r4) w2) r (mS (mR (s11_told m 0) a b c d l V) n2 p2)) (ref : K (-1) u (-1) (mS (s11_told m 0) n pn)) : wp_X10_recover u x (fun r u2 => wp_X11_recover (mS m n pn) x (fun r2 v2 => K r u2 r2 v2)) := by
  obtain ⟨F, G, b, e, f, k, hC, hR, hI⟩ := id h
  have ib := hI.1.1
  refine w_up hC.2.2.2.2.2.1 (fun z3 => ?_) (fun z3 v hv => ?_)
  · have hd : g9_up (g10_now u) = 0 := by rw [hC.2.2.2.2.2.1, if_neg z3]
    have xr : ∀ {K2 : Int32 → S11 → Prop}, (x < -1 ∨ 99 < x → K2 (-1) (mS (s11_told m 0) n pn)) → (¬ x < -1 → ¬ 99 < x → wp_X11_recovers (mS (s11_told m 0) n pn) x (fun v => K2 (g11_recovered v) v)) → wp_X11_recover (mS m n pn) x K2 := by
      intro K2 k0 k1 v hv
      rw [hv]
      refine x_isUp (m := s11_told m 0) hR (ib 3) ?_
      rw [if_neg z3]
      refine ⟨fun _ => ?_, fun z => absurd rfl z⟩
      by_cases y1 : x < -1
      · exact x_isIn0 (Or.inl y1) ⟨fun _ => k0 (Or.inl y1), fun y => absurd rfl y⟩
      · by_cases y2 : 99 < x
        · exact x_isIn0 (Or.inr y2) ⟨fun _ => k0 (Or.inr y2), fun y => absurd rfl y⟩
        · exact ⟨fun y => absurd y y1, fun _ => ⟨fun y => absurd y y2, fun _ => ⟨fun y => absurd y (by decide), fun _ => k1 y1 y2⟩⟩⟩
    refine ⟨fun y => xr (fun _ => ref) (fun y1 _ => absurd y y1), fun y1 => ⟨fun y => ?_, fun y => xr (fun _ => ref) (fun _ y2 => absurd (Int32.not_lt.mp y2) y)⟩⟩
    have y2 : ¬ 99 < x := Int32.not_lt.mpr y
    have hx : x = -1 ∨ ∃ L, L ≤ 99 ∧ x = nI L := by
      by_cases z : x = -1
      · exact Or.inl z
      · rcases rng x (lo := 0) (hi := 99) (by omega) (by omega) with y | y | ⟨a, a1, a2, a3, a4, a5⟩
        · exfalso
          have b1 : ¬ x.toInt < (-1 : Int32).toInt := fun t => y1 (Int32.lt_iff_toInt_lt.mpr t)
          have b2 : x.toInt < (0 : Int32).toInt := Int32.lt_iff_toInt_lt.mp y
          have e1 : (-1 : Int32).toInt = -1 := by decide
          have e0 : (0 : Int32).toInt = 0 := by decide
          exact z (Int32.toInt_inj.mp (by omega))
        · exact absurd y.2 y2
        · exact Or.inr ⟨a, a2, a3⟩
    refine s_attempt (m := s11_told m 0) (n := n) (pn := pn) (r := g10_recovery u) h hd hx fun cp en rd ls r2 w2 s2 hc h4 hX u2 hu2 => ?_
    rw [hu2]
    exact xr (fun z => z.elim (fun y => absurd y y1) (fun y => absurd y y2)) (fun _ _ => hX _ fun V n2 p2 a1 a2 a3 => q (nI (cp + en)) r2 w2 n2 p2 x (nI (cp + en)) _ _ ls V a1 s2 a2)
  · rw [hv]
    refine x_isUp (m := s11_told m 0) hR (ib 3) ?_
    rw [if_pos z3]
    exact ⟨fun z => absurd z (by decide), fun _ => ref⟩
end
