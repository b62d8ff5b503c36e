/-! ===== one token ===== -/
section
variable {v : S11} {t : S8} {z p : Nat}
theorem lex0 (h : LX t v z p) (hb : p < z → g11_tape v p ≠ 32 ∧ g11_tape v p ≠ 10) : ∃ e : Nat, ∃ ct rt cv rv, e ≤ z ∧ TK ct rt cv rv ∧ (∀ Q : S8 → Prop, Q (tkC t (nI e) ct (nI p) cv) → wp_X8_nextToken_42 Q t) ∧ ∀ Q : S11 → Prop, Q (tkR v (nI e) rt (nI p) rv) → ∃ n, wp_X11_reads_0 Q n v := by
  have hz := h.1.2.2.1
  have hp := h.2.2.2
  have et : ∀ u, u = s8_tokenPlace t (g8_place t) → u = tkC t (nI p) (g8_token t) (nI p) (g8_value t) := by
    intro u hu
    rw [hu]; exact tC6 h.2.1
  have ev : ∀ u, u = s11_from v (g11_spot v) → ∀ u2, u2 = s11_token u 1 → u2 = tkR v (nI p) 1 (nI p) (g11_value v) := by
    intro u hu u2 hu2
    rw [hu2, hu]; exact tR6 h.2.2.1
  have hX := LX_tk h (p2 := p) hp (a := g8_token t) (b := nI p) (c := g8_value t) (d := 1) (e := nI p) (f := g11_value v)
  have hn : (if p < z then g11_tape v p else -1) ≠ 32 ∧ (if p < z then g11_tape v p else -1) ≠ 10 := by
    by_cases c : p < z
    · rw [if_pos c]; exact hb c
    · rw [if_neg c]; exact ⟨by decide, by decide⟩
  -- the reference's way up to the first byte
  have gx : ∀ (Q : S11 → Prop) (n : Nat), ((if p < z then g11_tape v p else -1) = -1 → Q (tkR v (nI p) 0 (nI p) (g11_value v))) → (¬ (if p < z then g11_tape v p else -1) = -1 → wp_X11_isLetter (tkR v (nI (p + 1)) 1 (nI p) (if p < z then g11_tape v p else -1)) (if p < z then g11_tape v p else -1) (fun r_21 => (r_21 = 0 → wp_X11_isDigit (tkR v (nI (p + 1)) 1 (nI p) (if p < z then g11_tape v p else -1)) (if p < z then g11_tape v p else -1) (fun r_22 => (r_22 = 0 → ((if p < z then g11_tape v p else -1) = 59 → ∀ u0_23 : S11, u0_23 = s11_token (tkR v (nI (p + 1)) 1 (nI p) (if p < z then g11_tape v p else -1)) 4 → (Q u0_23)) ∧ (¬ (if p < z then g11_tape v p else -1) = 59 → Q (tkR v (nI (p + 1)) 1 (nI p) (if p < z then g11_tape v p else -1)))) ∧ (¬ r_22 = 0 → ∀ u0_24 : S11, u0_24 = s11_value (tkR v (nI (p + 1)) 1 (nI p) (if p < z then g11_tape v p else -1)) ((if p < z then g11_tape v p else -1) - 48) → (∃ n_25, wp_X11_reads_171 Q n_25 u0_24)))) ∧ (¬ r_21 = 0 → ∃ n_26, wp_X11_reads_95 Q n_26 (tkR v (nI (p + 1)) 1 (nI p) (if p < z then g11_tape v p else -1))))) → wp_X11_reads_0 Q (n + 1) v := by
    intro Q n q1 q2
    refine x_raw h ⟨fun y => absurd y hn.1, fun _ => x_raw h ⟨fun y => absurd y hn.2, fun _ u hu u2 hu2 => ?_⟩⟩
    rw [ev u hu u2 hu2]
    refine x_raw hX ⟨fun c u3 hu3 => ?_, fun c u3 hu3 u4 hu4 => ?_⟩
    · rw [hu3, tR1]; exact q1 c
    · rw [hu4, hu3, gR1, nI_1, tR3, tR2]; exact q2 c
  by_cases c1 : (if p < z then g11_tape v p else -1) = -1
  · refine ⟨p, 0, 0, g8_value t, g11_value v, hp, Or.inl ⟨rfl, rfl⟩, fun Q q u hu => ?_, fun Q q => ⟨1, gx Q 0 (fun _ => q) (fun y => absurd c1 y)⟩⟩
    rw [et u hu]
    exact w_here hX ⟨fun _ u2 hu2 => by rw [hu2, tC1]; exact q, fun y => absurd c1 y⟩
  have hpz : p < z := by
    rcases Nat.lt_or_ge p z with y | y
    · exact y
    · rw [if_neg (by omega)] at c1; exact absurd rfl c1
  rw [if_pos hpz] at c1
  have eb : (if p < z then g11_tape v p else -1) = g11_tape v p := if_pos hpz
  rw [eb] at gx
  by_cases cl : Lt (g11_tape v p)
  · have hX2 := LX_tk h (p2 := p + 1) (by omega) (a := g8_token t) (b := nI p) (c := g8_value t) (d := 1) (e := nI p) (f := g11_tape v p)
    obtain ⟨e, r, ct, rt, cv, rv, k1, k2, k3, k4⟩ := lex_word (p0 := p) hX2 (g8_token t) (g8_value t) (g11_tape v p) (by omega) (fun j a c => by
      obtain rfl : j = p := by omega
      exact cl)
    refine ⟨e, ct, rt, cv, rv, k1, k2, fun Q q u hu => ?_, fun Q q => ⟨1, gx Q 0 (fun y => absurd y c1) (fun _ => x_letter (fun _ => ⟨fun y => absurd y (by decide), fun _ => by have k := k4 Q q; rw [tR4] at k; exact k⟩) (fun y => absurd cl y))⟩⟩
    rw [et u hu]
    refine w_here hX ?_
    rw [if_pos hpz]
    refine ⟨fun y => absurd y c1, fun _ => w_letter (fun _ => ⟨fun y => absurd y (by decide), fun _ => ?_⟩) (fun y => absurd cl y)⟩
    obtain ⟨n, hn⟩ := k3 Q q
    refine ⟨n + 1, fun y => absurd y ?_, fun _ => w_here hX ?_⟩
    · rw [hX.1.1, hX.2.1]; exact Int32.not_le.mpr (nI_lt (by omega) (by omega))
    · rw [if_pos hpz]
      refine w_letter (fun _ => ⟨fun y => absurd y (by decide), fun _ u3 hu3 => ?_⟩) (fun y => absurd cl y)
      rw [hu3, gC1, nI_1, tC3]; rw [tC4] at hn; exact hn
  by_cases cd : Dg (g11_tape v p)
  · obtain ⟨x, x1, x2, x3⟩ := dg_n cd
    have hX2 := LX_tk h (p2 := p + 1) (by omega) (a := g8_token t) (b := nI p) (c := g8_value t) (d := 1) (e := nI p) (f := g11_tape v p)
    have e48 : (g11_tape v p - 48 : Int32) = nI (x - 48) := by rw [x3]; exact pk_sub (b := 48) x1
    obtain ⟨e, ct, rt, cv, rv, k1, k2, k3, k4⟩ := lex_num (p0 := p) hX2 (g8_token t) (by omega) (z - (p + 1)) (p + 1) (by omega) (by omega) (nI (x - 48)) (nI (x - 48)) (Or.inl ⟨by omega, x - 48, by rw [show p + 1 - p = 1 by omega]; omega, rfl, rfl⟩)
    refine ⟨e, ct, rt, cv, rv, k1, k2, fun Q q u hu => ?_, fun Q q => ⟨1, gx Q 0 (fun y => absurd y c1) (fun _ => x_letter (fun y => absurd y cl) (fun _ => ⟨fun _ => x_digit (fun _ => ⟨fun y => absurd y (by decide), fun _ u hu => ?_⟩) (fun y => absurd cd y), fun y => absurd rfl y⟩))⟩⟩
    · rw [et u hu]
      refine w_here hX ?_
      rw [if_pos hpz]
      refine ⟨fun y => absurd y c1, fun _ => w_letter (fun y => absurd y cl) (fun _ => ⟨fun _ => w_digit (fun _ => ⟨fun y => absurd y (by decide), fun _ u2 hu2 => ?_⟩) (fun y => absurd cd y), fun y => absurd rfl y⟩)⟩
      rw [hu2, tC2]
      obtain ⟨n, hn⟩ := k3 Q q
      rw [tC4] at hn
      have hX3 := LX_tk h (p2 := p) hp (a := g8_token t) (b := nI p) (c := 0) (d := 1) (e := nI p) (f := g11_value v)
      show ∃ n, wp_X8_takeNumber_5 Q n (tkC t (nI p) (g8_token t) (nI p) 0)
      refine ⟨n + 1, fun y => absurd y ?_, fun _ => w_here hX3 ?_⟩
      · rw [hX3.1.1, hX3.2.1]; exact Int32.not_le.mpr (nI_lt (by omega) (by omega))
      · rw [if_pos hpz]
        refine w_digit (fun _ => ⟨fun y => absurd y (by decide), fun _ => w_here hX3 ?_⟩) (fun y => absurd cd y)
        rw [if_pos hpz]
        intro u3 hu3 u4 hu4
        have e1 : g8_value (tkC t (nI p) (g8_token t) (nI p) 0) * 10 + g11_tape (tkR v (nI p) 1 (nI p) (g11_value v)) p - 48 = nI (x - 48) := by
          show (0 * 10 + g11_tape v p - 48 : Int32) = _
          rw [show (0 * 10 + g11_tape v p : Int32) = g11_tape v p by rw [x3]; exact (nI_add 0 x).trans (by rw [Nat.zero_add]), e48]
        rw [hu4, hu3, e1, tC2, gC1, nI_1, tC3]
        exact hn
    · rw [hu, e48, tR2]; have k := k4 Q q; rw [tR4] at k; exact k
  by_cases c9 : g11_tape v p = 59
  · refine ⟨p + 1, 3, 4, g8_value t, g11_tape v p, by omega, Or.inr (Or.inr (Or.inr (Or.inl ⟨rfl, rfl⟩))), fun Q q u hu => ?_, fun Q q => ⟨1, gx Q 0 (fun y => absurd y c1) (fun _ => x_letter (fun y => absurd y cl) (fun _ => ⟨fun _ => x_digit (fun y => absurd y cd) (fun _ => ⟨fun _ => ⟨fun _ u hu => by rw [hu, tR1]; exact q, fun y => absurd c9 y⟩, fun y => absurd rfl y⟩), fun y => absurd rfl y⟩))⟩⟩
    rw [et u hu]
    refine w_here hX ?_
    rw [if_pos hpz]
    refine ⟨fun y => absurd y c1, fun _ => w_letter (fun y => absurd y cl) (fun _ => ⟨fun _ => w_digit (fun y => absurd y cd) (fun _ => ⟨fun _ => ⟨fun _ u2 hu2 u3 hu3 => ?_, fun y => absurd c9 y⟩, fun y => absurd rfl y⟩), fun y => absurd rfl y⟩)⟩
    rw [hu3, hu2, tC1, gC1, nI_1, tC3]; exact q
  · refine ⟨p + 1, 4, 1, g8_value t, g11_tape v p, by omega, Or.inr (Or.inr (Or.inr (Or.inr ⟨rfl, rfl⟩))), fun Q q u hu => ?_, fun Q q => ⟨1, gx Q 0 (fun y => absurd y c1) (fun _ => x_letter (fun y => absurd y cl) (fun _ => ⟨fun _ => x_digit (fun y => absurd y cd) (fun _ => ⟨fun _ => ⟨fun y => absurd y c9, fun _ => q⟩, fun y => absurd rfl y⟩), fun y => absurd rfl y⟩))⟩⟩
    rw [et u hu]
    refine w_here hX ?_
    rw [if_pos hpz]
    refine ⟨fun y => absurd y c1, fun _ => w_letter (fun y => absurd y cl) (fun _ => ⟨fun _ => w_digit (fun y => absurd y cd) (fun _ => ⟨fun _ => ⟨fun y => absurd y c9, fun _ u2 hu2 u3 hu3 => ?_⟩, fun y => absurd rfl y⟩), fun y => absurd rfl y⟩)⟩
    rw [hu3, hu2, tC1, gC1, nI_1, tC3]; exact q
theorem lex : ∀ d p (t : S8) (v : S11), p + d = z → LX t v z p → ∃ e p0 : Nat, ∃ ct rt cv rv, e ≤ z ∧ TK ct rt cv rv ∧ (∀ Q : S8 → Prop, Q (tkC t (nI e) ct (nI p0) cv) → wp_X8_nextToken t Q) ∧ ∀ Q : S11 → Prop, Q (tkR v (nI e) rt (nI p0) rv) → wp_X11_reads v Q := by
  intro d
  induction d with
  | zero =>
    intro p t v hd h
    have hz := h.1.2.2.1
    obtain ⟨e, ct, rt, cv, rv, k1, k2, k3, k4⟩ := lex0 h (fun y => by omega)
    refine ⟨e, p, ct, rt, cv, rv, k1, k2, fun Q q => ⟨1, fun _ => k3 Q q, fun y => absurd ?_ y⟩, fun Q q => k4 Q q⟩
    rw [h.1.1, h.2.1]; exact nI_le (by omega) (by omega)
  | succ d ih =>
    intro p t v hd h
    have hz := h.1.2.2.1
    have nle : ¬ g8_size t ≤ g8_place t := by rw [h.1.1, h.2.1]; exact Int32.not_le.mpr (nI_lt (by omega) (by omega))
    by_cases c : g11_tape v p = 32 ∨ g11_tape v p = 10
    · obtain ⟨e, p0, ct, rt, cv, rv, k1, k2, k3, k4⟩ := ih (p + 1) (s8_place t (nI (p + 1))) (s11_spot v (nI (p + 1))) (by omega) ⟨h.1, rfl, rfl, by omega⟩
      refine ⟨e, p0, ct, rt, cv, rv, k1, k2, fun Q q => ?_, fun Q q => ?_⟩
      · obtain ⟨n, hn⟩ := k3 Q q
        have nx : wp_X8_nextToken_29 (fun u0 => wp_X8_nextToken_0 Q n u0) Q t := by
          intro u hu
          rw [hu, h.2.1, nI_1]; exact hn
        refine ⟨n + 1, fun y => absurd y nle, fun _ => w_here h ?_⟩
        rw [if_pos (by omega)]
        refine ⟨fun _ => nx, fun c1 => w_here h ?_⟩
        rw [if_pos (by omega)]
        exact ⟨fun _ => nx, fun c2 => by rcases c with c | c; exact absurd c c1; exact absurd c c2⟩
      · obtain ⟨n, hn⟩ := k4 Q q
        have nx : wp_X11_reads_26 (fun u0 => wp_X11_reads_0 Q n u0) Q v := by
          intro u hu
          rw [hu, h.2.2.1, nI_1]; exact hn
        refine ⟨n + 1, x_raw h ?_⟩
        rw [if_pos (by omega)]
        refine ⟨fun _ => nx, fun c1 => x_raw h ?_⟩
        rw [if_pos (by omega)]
        exact ⟨fun _ => nx, fun c2 => by rcases c with c | c; exact absurd c c1; exact absurd c c2⟩
    · obtain ⟨e, ct, rt, cv, rv, k1, k2, k3, k4⟩ := lex0 h (fun _ => ⟨fun y => c (Or.inl y), fun y => c (Or.inr y)⟩)
      refine ⟨e, p, ct, rt, cv, rv, k1, k2, fun Q q => ⟨1, fun y => absurd y nle, fun _ => w_here h ?_⟩, fun Q q => k4 Q q⟩
      rw [if_pos (by omega)]
      refine ⟨fun y => absurd (Or.inl y) c, fun _ => w_here h ?_⟩
      rw [if_pos (by omega)]
      exact ⟨fun y => absurd (Or.inr y) c, fun _ => k3 Q q⟩
end
