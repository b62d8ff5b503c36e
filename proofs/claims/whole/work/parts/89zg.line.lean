/-! ===== a line of a plan read on both sides ===== -/
section
variable {m : S11} {t : S8} {sp fr tk va rf rp : Int32} {P : Nat → Int32} {z l : Nat}
def rdS (m : S11) (sp fr tk va rf rp : Int32) (P : Nat → Int32) : S11 := (m.1, m.2.1, m.2.2.1, m.2.2.2.1, m.2.2.2.2.1, m.2.2.2.2.2.1, m.2.2.2.2.2.2.1, m.2.2.2.2.2.2.2.1, m.2.2.2.2.2.2.2.2.1, m.2.2.2.2.2.2.2.2.2.1, m.2.2.2.2.2.2.2.2.2.2.1, m.2.2.2.2.2.2.2.2.2.2.2.1, m.2.2.2.2.2.2.2.2.2.2.2.2.1, m.2.2.2.2.2.2.2.2.2.2.2.2.2.1, m.2.2.2.2.2.2.2.2.2.2.2.2.2.2.1, sp, fr, tk, va, m.2.2.2.2.2.2.2.2.2.2.2.2.2.2.2.2.2.2.2.1, rf, rp, m.2.2.2.2.2.2.2.2.2.2.2.2.2.2.2.2.2.2.2.2.2.2.1, m.2.2.2.2.2.2.2.2.2.2.2.2.2.2.2.2.2.2.2.2.2.2.2.1, m.2.2.2.2.2.2.2.2.2.2.2.2.2.2.2.2.2.2.2.2.2.2.2.2.1, P, m.2.2.2.2.2.2.2.2.2.2.2.2.2.2.2.2.2.2.2.2.2.2.2.2.2.2.1, m.2.2.2.2.2.2.2.2.2.2.2.2.2.2.2.2.2.2.2.2.2.2.2.2.2.2.2)
section
variable {a b c d : Int32} {R : Nat → Int32}
theorem rS1 : s11_plans (rdS m sp fr tk va rf rp P) R = rdS m sp fr tk va rf rp R := rfl
theorem rS2 : s11_readPlace (s11_readFault (rdS m sp fr tk va rf rp P) a) b = rdS m sp fr tk va a b P := rfl
theorem rS3 : tkR (rdS m sp fr tk va rf rp P) a b c d = rdS m a c b d rf rp P := rfl
end
section
variable {a b c d : Int32}
theorem rG1 : g11_taped (rdS m sp fr tk va rf rp P) = g11_taped m := rfl
theorem rG2 : g11_tape (rdS m sp fr tk va rf rp P) = g11_tape m := rfl
theorem rG3 : g11_words (rdS m sp fr tk va rf rp P) = g11_words m := rfl
theorem rG4 : g11_spot (rdS m sp fr tk va rf rp P) = sp := rfl
theorem rG5 : g11_from (rdS m sp fr tk va rf rp P) = fr := rfl
theorem rG6 : g11_token (rdS m sp fr tk va rf rp P) = tk := rfl
theorem rG7 : g11_value (rdS m sp fr tk va rf rp P) = va := rfl
theorem rG8 : g11_plans (rdS m sp fr tk va rf rp P) = P := rfl
end
def LB (m : S11) (t : S8) (z : Nat) : Prop := g8_size t = nI z ∧ g11_taped m = nI z ∧ z ≤ 400 ∧ (∀ i, i < z → g8_bytes t i = g11_tape m i) ∧ (∀ i, i < 77 → g11_words m (i + 1) = st_WORDS i) ∧ g8_fault t = 0 ∧ g8_faultPlace t = -1
/-- line j of the two scripts -/
def Ln (S P : Nat → Int32) (o j : Nat) : Prop := ∃ op, op < 14 ∧ S (4 * j) = nI op ∧ P (o + 4 * j + 1) = nI op ∧ S (4 * j + 1) = P (o + 4 * j) ∧ S (4 * j + 2) = P (o + 4 * j + 2) ∧ ((op = 1 ∨ op = 2) → S (4 * j + 3) = P (o + 4 * j + 3)) ∧ (op = 9 → ∃ a, 1 ≤ a ∧ a ≤ 9 ∧ S (4 * j + 2) = nI a)
def RLn (m : S11) (t : S8) (sp fr tk va : Int32) (P : Nat → Int32) (z l : Nat) : Prop := (LB m t z ∧ ∃ p, g8_place t = nI p ∧ sp = nI p ∧ p ≤ z) ∧ TK (g8_token t) tk (g8_value t) va ∧ g8_tokenPlace t = fr ∧ g6_size (g8_draft t) = nI l ∧ l ≤ 24 ∧ g6_ran (g8_draft t) = 0 ∧ ∀ j, j < l → Ln (g6_parts (g8_draft t)) P 96 j
theorem RLn_P {R : Nat → Int32} (h : RLn m t sp fr tk va P z l) (hR : ∀ i, i < 96 + 4 * l → R i = P i) : RLn m t sp fr tk va R z l := by
  obtain ⟨a, b, c, d, e, f, g⟩ := h
  refine ⟨a, b, c, d, e, f, fun j hj => ?_⟩
  obtain ⟨op, g1, g2, g3, g4, g5, g6, g7⟩ := g j hj
  exact ⟨op, g1, g2, by rw [hR _ (by omega)]; exact g3, by rw [hR _ (by omega)]; exact g4, by rw [hR _ (by omega)]; exact g5, fun y => by rw [hR _ (by omega)]; exact g6 y, g7⟩
theorem nt (rf rp : Int32) (h : RLn m t sp fr tk va P z l) : ∃ t2 sp2 fr2 tk2 va2, RLn m t2 sp2 fr2 tk2 va2 P z l ∧ (∀ Q : S8 → Prop, Q t2 → wp_X8_nextToken t Q) ∧ ∀ Q : S11 → Prop, Q (rdS m sp2 fr2 tk2 va2 rf rp P) → wp_X11_reads (rdS m sp fr tk va rf rp P) Q := by
  obtain ⟨⟨a, p, a1, a2, a3⟩, b, c, d, e, f, g⟩ := h
  have a4 : LX t (rdS m sp fr tk va rf rp P) z p := by
    refine ⟨⟨a.1, ?_, a.2.2.1, ?_, ?_⟩, a1, ?_, a3⟩
    · rw [rG1]; exact a.2.1
    · rw [rG2]; exact a.2.2.2.1
    · rw [rG3]; exact a.2.2.2.2.1
    · rw [rG4]; exact a2
  obtain ⟨e2, p0, ct, rt, cv, rv, k1, k2, k3, k4⟩ := lex (z - p) p t _ (by omega) a4
  refine ⟨tkC t (nI e2) ct (nI p0) cv, nI e2, nI p0, rt, rv, ⟨⟨a, e2, rfl, rfl, k1⟩, k2, rfl, d, e, f, g⟩, k3, fun Q q => k4 Q ?_⟩
  rw [rS3]; exact q
def erC (t : S8) (k : Int32) : S8 := s8_faultPlace (s8_fault t k) (g8_tokenPlace t)
theorem w_wrong {k : Int32} {Q : Int32 → S8 → Prop} (q : Q 0 (erC t k)) : wp_X8_wrong t k Q := by
  intro a ha c hc
  rw [hc, ha]; exact q
theorem x_errs {k : Int32} {Q : Int32 → S11 → Prop} (q : Q (-1) (rdS m sp fr tk va k fr P)) : wp_X11_errs (rdS m sp fr tk va rf rp P) k Q := by
  intro a ha c hc
  have e1 : g11_from a = fr := by rw [ha]; rfl
  rw [e1, ha, rS2] at hc
  rw [hc]; exact q
theorem num (rf rp : Int32) {lo hi : Nat} (hl : lo < 2 ^ 31) (hh : hi < 2 ^ 31) (h : RLn m t sp fr tk va P z l) : (∃ a t2 sp2 fr2 tk2 va2, lo ≤ a ∧ a ≤ hi ∧ g8_value t = nI a ∧ RLn m t2 sp2 fr2 tk2 va2 P z l ∧ (∀ Q : Int32 → S8 → Prop, Q 1 t → wp_X8_numberWithin t (nI lo) (nI hi) Q) ∧ (∀ Q : S8 → Prop, Q t2 → wp_X8_nextToken t Q) ∧ ∀ Q : Int32 → S11 → Prop, Q (nI a) (rdS m sp2 fr2 tk2 va2 rf rp P) → wp_X11_readNumber (rdS m sp fr tk va rf rp P) (nI lo) (nI hi) Q) ∨ ∃ k, (∀ Q : Int32 → S8 → Prop, Q 0 (erC t k) → wp_X8_numberWithin t (nI lo) (nI hi) Q) ∧ ∀ Q : Int32 → S11 → Prop, Q (-1) (rdS m sp fr tk va k fr P) → wp_X11_readNumber (rdS m sp fr tk va rf rp P) (nI lo) (nI hi) Q := by
  have n1 : g8_token t ≠ 2 → tk ≠ 3 → ∃ k, (∀ Q : Int32 → S8 → Prop, Q 0 (erC t k) → wp_X8_numberWithin t (nI lo) (nI hi) Q) ∧ ∀ Q : Int32 → S11 → Prop, Q (-1) (rdS m sp fr tk va k fr P) → wp_X11_readNumber (rdS m sp fr tk va rf rp P) (nI lo) (nI hi) Q :=
    fun c1 c2 => ⟨1, fun Q q => ⟨fun y => absurd y c1, fun _ => w_wrong ⟨Or.inl rfl, q⟩⟩, fun Q q => ⟨fun y => absurd (rG6.symm.trans y) c2, fun _ => x_errs q⟩⟩
  rcases h.2.1 with ⟨c1, c2⟩ | ⟨w, w1, c1, c2, _⟩ | ⟨a, a1, c1, c2, a3, a4⟩ | ⟨c1, c2⟩ | ⟨c1, c2⟩
  · exact Or.inr (n1 (by rw [c1]; decide) (by rw [c2]; decide))
  · exact Or.inr (n1 (by rw [c1]; decide) (by rw [c2]; decide))
  · subst c2 a4
    by_cases ca : lo ≤ a ∧ a ≤ hi
    · obtain ⟨t2, sp2, fr2, tk2, va2, r1, r2, r3⟩ := nt rf rp h
      refine Or.inl ⟨a, t2, sp2, fr2, tk2, va2, ca.1, ca.2, a3, r1, fun Q q => ⟨fun _ => ?_, fun y => absurd c1 y⟩, r2, fun Q q => ⟨fun _ => x_isIn1 (lo := lo) (hi := hi) rfl (by omega) hh ca.1 ca.2 ⟨fun y => absurd y (by decide), fun _ x hx => ?_⟩, fun y => absurd rfl y⟩⟩
      · rw [a3]
        exact pk_lt a lo (fun y => by omega) (fun _ => pk_le a hi (fun _ => q) (fun y => by omega))
      · refine r3 _ ?_
        rw [hx]; exact q
    · refine Or.inr ⟨2, fun Q q => ⟨fun _ => ?_, fun y => absurd c1 y⟩, fun Q q => ⟨fun _ => x_isIn0 ?_ ⟨fun _ => x_errs q, fun y => absurd rfl y⟩, fun y => absurd rfl y⟩⟩
      · rw [a3]
        have er : wp_X8_numberWithin_30 Q t := w_wrong ⟨fun _ => q, fun y => absurd rfl y⟩
        exact pk_lt a lo (fun _ => er) (fun _ => pk_le a hi (fun y => by omega) (fun _ => er))
      · rcases Nat.lt_or_ge a lo with y | y
        · exact Or.inl (nI_lt y (by omega))
        · exact Or.inr (nI_lt (by omega) (by omega))
  · exact Or.inr (n1 (by rw [c1]; decide) (by rw [c2]; decide))
  · exact Or.inr (n1 (by rw [c1]; decide) (by rw [c2]; decide))
end
