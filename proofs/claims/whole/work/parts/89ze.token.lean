/-! ===== the reader's tokens: nextToken of the tape, reads of the reference ===== -/
section
variable {v : S11} {t : S8} {z p p0 : Nat} {x : Int32}
def Lt (x : Int32) : Prop := (¬ x < 97 ∧ x ≤ 122) ∨ (¬ x < 65 ∧ ¬ 90 < x)
def Dg (x : Int32) : Prop := ¬ x < 48 ∧ ¬ 57 < x
theorem w_letter {Q : Int32 → Prop} (q1 : Lt x → Q 1) (q0 : ¬ Lt x → Q 0) : wp_X8_isLetter x Q := by
  have s : ¬ (¬ x < 97 ∧ x ≤ 122) → wp_X8_isLetter_12 Q x := fun z => ⟨fun a => q0 (by rintro (y | y); exact z y; exact y.1 a), fun a => ⟨fun c => q0 (by rintro (y | y); exact z y; exact y.2 c), fun c => q1 (Or.inr ⟨a, c⟩)⟩⟩
  exact ⟨fun a => s (fun y => y.1 a), fun a => ⟨fun c => q1 (Or.inl ⟨a, c⟩), fun c => s (fun y => c y.2)⟩⟩
theorem x_letter {Q : Int32 → Prop} (q1 : Lt x → Q 1) (q0 : ¬ Lt x → Q 0) : wp_X11_isLetter v x Q := by
  have s : ¬ (¬ x < 97 ∧ x ≤ 122) → ((0 : Int32) = 0 → wp_X11_isIn v x 65 90 (fun r_2 => (r_2 = 0 → Q 0) ∧ (¬ r_2 = 0 → Q 1))) ∧ (¬ (0 : Int32) = 0 → Q 1) := fun z => ⟨fun _ => ⟨fun a => ⟨fun _ => q0 (by rintro (y | y); exact z y; exact y.1 a), fun y => absurd rfl y⟩, fun a => ⟨fun c => ⟨fun _ => q0 (by rintro (y | y); exact z y; exact y.2 c), fun y => absurd rfl y⟩, fun c => ⟨fun y => absurd y (by decide), fun _ => q1 (Or.inr ⟨a, c⟩)⟩⟩⟩, fun y => absurd rfl y⟩
  exact ⟨fun a => s (fun y => y.1 a), fun a => ⟨fun c => s (fun y => absurd c (Int32.not_lt.mpr y.2)), fun c => ⟨fun y => absurd y (by decide), fun _ => q1 (Or.inl ⟨a, Int32.not_lt.mp c⟩)⟩⟩⟩
theorem w_digit {Q : Int32 → Prop} (q1 : Dg x → Q 1) (q0 : ¬ Dg x → Q 0) : wp_X8_isDigit x Q :=
  ⟨fun a => q0 (fun y => y.1 a), fun a => ⟨fun c => q0 (fun y => y.2 c), fun c => q1 ⟨a, c⟩⟩⟩
theorem x_digit {Q : Int32 → Prop} (q1 : Dg x → Q 1) (q0 : ¬ Dg x → Q 0) : wp_X11_isDigit v x Q :=
  ⟨fun a => ⟨Or.inl rfl, q0 (fun y => y.1 a)⟩, fun a => ⟨fun c => ⟨Or.inl rfl, q0 (fun y => y.2 c)⟩, fun c => ⟨Or.inr rfl, q1 ⟨a, c⟩⟩⟩⟩
theorem dg_n (h : Dg x) : ∃ d, 48 ≤ d ∧ d ≤ 57 ∧ x = nI d := by
  rcases rng x (lo := 48) (hi := 57) (by omega) (by omega) with y | y | ⟨a, a1, a2, a3, _⟩
  · exact absurd y h.1
  · exact absurd y.2 h.2
  · exact ⟨a, a1, a2, a3⟩
/-- the tape on both sides while it is read at p -/
def LX (t : S8) (v : S11) (z p : Nat) : Prop := (g8_size t = nI z ∧ g11_taped v = nI z ∧ z ≤ 400 ∧ (∀ i, i < z → g8_bytes t i = g11_tape v i) ∧ ∀ i, i < 77 → g11_words v (i + 1) = st_WORDS i) ∧ g8_place t = nI p ∧ g11_spot v = nI p ∧ p ≤ z
theorem w_here (h : LX t v z p) {Q : Int32 → Prop} (q : Q (if p < z then g11_tape v p else -1)) : wp_X8_byteHere t Q := by
  obtain ⟨⟨h1, h2, h3, h4, _⟩, h5, h6, h7⟩ := h
  unfold wp_X8_byteHere
  rw [h5, h1]
  refine ⟨fun y => absurd y (nI_pos (by omega)), fun _ => pk_le z p (fun c => ?_) (fun c => pk_le 400 p (fun y => by omega) (fun _ => ⟨ivp (by omega) (by omega), ?_⟩))⟩
  · rw [if_neg (by omega)] at q; exact q
  · rw [nI_clamp (by omega), h4 p (by omega)]; rw [if_pos (by omega)] at q; exact q
theorem x_raw (h : LX t v z p) {Q : Int32 → Prop} (q : Q (if p < z then g11_tape v p else -1)) : wp_X11_raw v (g11_spot v) Q := by
  obtain ⟨⟨h1, h2, h3, h4, _⟩, h5, h6, h7⟩ := h
  unfold wp_X11_raw
  rw [h6, h2]
  refine pk_le z p (fun c => ?_) (fun c => ⟨ivp (by omega) (by omega), ?_⟩)
  · rw [if_neg (by omega)] at q; exact q
  · rw [nI_clamp (by omega)]; rw [if_pos (by omega)] at q; exact q
def tkC (t : S8) (p tok p0 val : Int32) : S8 := (t.1, t.2.1, t.2.2.1, t.2.2.2.1, t.2.2.2.2.1, p, tok, p0, val)
def tkR (v : S11) (p tok p0 val : Int32) : S11 := (v.1, v.2.1, v.2.2.1, v.2.2.2.1, v.2.2.2.2.1, v.2.2.2.2.2.1, v.2.2.2.2.2.2.1, v.2.2.2.2.2.2.2.1, v.2.2.2.2.2.2.2.2.1, v.2.2.2.2.2.2.2.2.2.1, v.2.2.2.2.2.2.2.2.2.2.1, v.2.2.2.2.2.2.2.2.2.2.2.1, v.2.2.2.2.2.2.2.2.2.2.2.2.1, v.2.2.2.2.2.2.2.2.2.2.2.2.2.1, v.2.2.2.2.2.2.2.2.2.2.2.2.2.2.1, p, p0, tok, val, v.2.2.2.2.2.2.2.2.2.2.2.2.2.2.2.2.2.2.2)
section
variable {a b c d e f g h : Int32}
theorem tC1 : s8_token (tkC t a b c d) e = tkC t a e c d := rfl
theorem tC2 : s8_value (tkC t a b c d) e = tkC t a b c e := rfl
theorem tC3 : s8_place (tkC t a b c d) e = tkC t e b c d := rfl
theorem tC4 : tkC (tkC t a b c d) e f g h = tkC t e f g h := rfl
theorem tC5 : tkC (s8_place t e) a b c d = tkC t a b c d := rfl
theorem tC6 (hp : g8_place t = a) : s8_tokenPlace t (g8_place t) = tkC t a (g8_token t) a (g8_value t) := by subst hp; rfl
theorem tR1 : s11_token (tkR v a b c d) e = tkR v a e c d := rfl
theorem tR2 : s11_value (tkR v a b c d) e = tkR v a b c e := rfl
theorem tR3 : s11_spot (tkR v a b c d) e = tkR v e b c d := rfl
theorem tR4 : tkR (tkR v a b c d) e f g h = tkR v e f g h := rfl
theorem tR5 : tkR (s11_spot v e) a b c d = tkR v a b c d := rfl
theorem tR6 (hp : g11_spot v = a) : s11_token (s11_from v (g11_spot v)) e = tkR v a e a (g11_value v) := by subst hp; rfl
theorem gC1 : g8_place (tkC t a b c d) = a := rfl
theorem gR1 : g11_spot (tkR v a b c d) = a := rfl
end
theorem LX_tk (h : LX t v z p) {p2 : Nat} (h2 : p2 ≤ z) {a b c d e f : Int32} : LX (tkC t (nI p2) a b c) (tkR v (nI p2) d e f) z p2 := ⟨h.1, rfl, rfl, h2⟩
def TK (ct rt cv rv : Int32) : Prop := (ct = 0 ∧ rt = 0) ∨ (∃ w, w < 14 ∧ ct = 1 ∧ rt = 2 ∧ cv = nI w ∧ rv = nI w) ∨ (∃ a, a < 10000 ∧ ct = 2 ∧ rt = 3 ∧ cv = nI a ∧ rv = nI a) ∨ (ct = 3 ∧ rt = 4) ∨ (ct = 4 ∧ rt = 1)
theorem lt_n (h : Lt x) : x ≠ 32 := by
  rintro rfl
  rcases h with h | h
  · exact h.1 (by decide)
  · exact h.1 (by decide)
theorem m1_n : ¬ Lt (-1) ∧ ¬ Dg (-1) := by
  refine ⟨?_, fun h => h.1 (by decide)⟩
  rintro (h | h)
  · exact h.1 (by decide)
  · exact h.1 (by decide)
theorem lex_word (h : LX t v z p) (c0 c1 c2 : Int32) (hp : p0 ≤ p) (hB : ∀ j, p0 ≤ j → j < p → Lt (g11_tape v j)) : ∃ e r : Nat, ∃ ct rt cv rv, e ≤ z ∧ TK ct rt cv rv ∧ (∀ Q : S8 → Prop, Q (tkC t (nI e) ct (nI p0) cv) → ∃ n, wp_X8_takeWord_0 Q n (tkC t (nI p) c0 (nI p0) c1)) ∧ ∀ Q : S11 → Prop, Q (tkR v (nI e) rt (nI p0) rv) → ∃ n, wp_X11_reads_95 Q n (tkR v (nI p) 1 (nI p0) c2) := by
  have key : ∀ d p, p + d = z → p0 ≤ p → (∀ j, p0 ≤ j → j < p → Lt (g11_tape v j)) → ∃ e r : Nat, ∃ ct rt cv rv, e ≤ z ∧ TK ct rt cv rv ∧ (∀ Q : S8 → Prop, Q (tkC t (nI e) ct (nI p0) cv) → ∃ n, wp_X8_takeWord_0 Q n (tkC t (nI p) c0 (nI p0) c1)) ∧ ∀ Q : S11 → Prop, Q (tkR v (nI e) rt (nI p0) rv) → ∃ n, wp_X11_reads_95 Q n (tkR v (nI p) 1 (nI p0) c2) := by
    intro d
    induction d with
    | zero =>
      intro p hd hp hB
      have hd : p = z := hd
      subst hd
      have hz := h.1.2.2.1
      have hX := LX_tk h (p2 := p) (by omega) (a := c0) (b := nI p0) (c := c1) (d := 1) (e := nI p0) (f := c2)
      obtain ⟨r, r1, r2, r3⟩ := word_n (t := tkC t (nI p) c0 (nI p0) c1) (v := tkR v (nI p) 1 (nI p0) c2) (p0 := p0) (p1 := p) hX.1.2.2.2.2 rfl rfl (by omega) hp (fun j a c => lt_n (hB j a c)) (fun j hj => hX.1.2.2.2.1 j hj)
      refine ⟨p, 0, (if r = -1 then 4 else 1), (if r = -1 then 1 else 2), r, r, by omega, ?_, fun Q q => ⟨1, ?_⟩, fun Q q => ⟨1, x_raw hX ?_⟩⟩
      · rcases r1 with r1 | ⟨w, w1, w2⟩
        · rw [if_pos r1, if_pos r1]; exact Or.inr (Or.inr (Or.inr (Or.inr ⟨rfl, rfl⟩)))
        · rw [if_neg (by rw [w2]; exact nI_m1 (by omega)), if_neg (by rw [w2]; exact nI_m1 (by omega))]
          exact Or.inr (Or.inl ⟨w, w1, rfl, rfl, w2, w2⟩)
      · refine ⟨fun _ => r2 _ fun u hu => ?_, fun y => absurd (by rw [hX.1.1, hX.2.1]; exact nI_le (by omega) (by omega)) y⟩
        rw [hu]
        refine ⟨fun c u2 hu2 => ?_, fun c u2 hu2 => ?_⟩
        · rw [hu2, tC2, tC1]; rw [if_pos c] at q; exact q
        · rw [hu2, tC2, tC1]; rw [if_neg c] at q; exact q
      · rw [if_neg (by omega)]
        refine x_letter (fun y => absurd y m1_n.1) (fun _ => ⟨fun _ => r3 _ fun u hu => ?_, fun y => absurd rfl y⟩)
        rw [hu]
        refine ⟨fun c => ?_, fun c u2 hu2 => ?_⟩
        · rw [tR2]; rw [if_pos c] at q; exact q
        · rw [hu2, tR2, tR1]; rw [if_neg c] at q; exact q
    | succ d ih =>
      intro p hd hp hB
      have hz := h.1.2.2.1
      have hX := LX_tk h (p2 := p) (by omega) (a := c0) (b := nI p0) (c := c1) (d := 1) (e := nI p0) (f := c2)
      by_cases hl : Lt (g11_tape v p)
      · obtain ⟨e, r, ct, rt, cv, rv, e1, e2, e3, e4⟩ := ih (p + 1) (by omega) (by omega) (fun j a c => by
          by_cases y : j = p
          · rw [y]; exact hl
          · exact hB j a (by omega))
        refine ⟨e, r, ct, rt, cv, rv, e1, e2, fun Q q => ?_, fun Q q => ?_⟩
        · obtain ⟨n, hn⟩ := e3 Q q
          refine ⟨n + 1, fun y => absurd y ?_, fun _ => w_here hX ?_⟩
          · rw [hX.1.1, hX.2.1]; exact Int32.not_le.mpr (nI_lt (by omega) (by omega))
          · rw [if_pos (by omega)]
            refine w_letter (fun _ => ⟨fun y => absurd y (by decide), fun _ u hu => ?_⟩) (fun y => absurd hl y)
            rw [hu, gC1, nI_1, tC3]; exact hn
        · obtain ⟨n, hn⟩ := e4 Q q
          refine ⟨n + 1, x_raw hX ?_⟩
          rw [if_pos (by omega)]
          refine x_letter (fun _ => ⟨fun y => absurd y (by decide), fun _ u hu => ?_⟩) (fun y => absurd hl y)
          rw [hu, gR1, nI_1, tR3]; exact hn
      · obtain ⟨r, r1, r2, r3⟩ := word_n (t := tkC t (nI p) c0 (nI p0) c1) (v := tkR v (nI p) 1 (nI p0) c2) (p0 := p0) (p1 := p) hX.1.2.2.2.2 rfl rfl (by omega) hp (fun j a c => lt_n (hB j a c)) (fun j hj => hX.1.2.2.2.1 j (by omega))
        refine ⟨p, 0, (if r = -1 then 4 else 1), (if r = -1 then 1 else 2), r, r, by omega, ?_, fun Q q => ⟨1, ?_⟩, fun Q q => ⟨1, x_raw hX ?_⟩⟩
        · rcases r1 with r1 | ⟨w, w1, w2⟩
          · rw [if_pos r1, if_pos r1]; exact Or.inr (Or.inr (Or.inr (Or.inr ⟨rfl, rfl⟩)))
          · rw [if_neg (by rw [w2]; exact nI_m1 (by omega)), if_neg (by rw [w2]; exact nI_m1 (by omega))]
            exact Or.inr (Or.inl ⟨w, w1, rfl, rfl, w2, w2⟩)
        · refine ⟨fun y => absurd y ?_, fun _ => w_here hX ?_⟩
          · rw [hX.1.1, hX.2.1]; exact Int32.not_le.mpr (nI_lt (by omega) (by omega))
          · rw [if_pos (by omega)]
            refine w_letter (fun y => absurd y hl) (fun _ => ⟨fun _ => r2 _ fun u hu => ?_, fun y => absurd rfl y⟩)
            rw [hu]
            refine ⟨fun c u2 hu2 => ?_, fun c u2 hu2 => ?_⟩
            · rw [hu2, tC2, tC1]; rw [if_pos c] at q; exact q
            · rw [hu2, tC2, tC1]; rw [if_neg c] at q; exact q
        · rw [if_pos (by omega)]
          refine x_letter (fun y => absurd y hl) (fun _ => ⟨fun _ => r3 _ fun u hu => ?_, fun y => absurd rfl y⟩)
          rw [hu]
          refine ⟨fun c => ?_, fun c u2 hu2 => ?_⟩
          · rw [tR2]; rw [if_pos c] at q; exact q
          · rw [hu2, tR2, tR1]; rw [if_neg c] at q; exact q
  exact key (z - p) p (by have := h.2.2.2; omega) hp hB
def NI (p0 p : Nat) (cv rv : Int32) : Prop := (p ≤ p0 + 4 ∧ ∃ a, a < 10 ^ (p - p0) ∧ cv = nI a ∧ rv = nI a) ∨ p0 + 4 < p
theorem NI_TK {cv rv : Int32} (h : NI p0 p cv rv) (hp : p0 ≤ p) (h5 : p ≤ 400) : ∃ ct rt, TK ct rt cv rv ∧ (if (nI p - nI p0 : Int32) ≤ 4 then (2 : Int32) else 4) = ct ∧ (if 5 ≤ (nI p - nI p0 : Int32) then (1 : Int32) else 3) = rt := by
  rw [pk_sub hp]
  rcases h with ⟨h1, a, a1, a2, a3⟩ | h1
  · refine ⟨2, 3, Or.inr (Or.inr (Or.inl ⟨a, ?_, rfl, rfl, a2, a3⟩)), if_pos (show nI _ ≤ nI 4 from nI_le (by omega) (by omega)), if_neg (show ¬ nI 5 ≤ nI _ from Int32.not_le.mpr (nI_lt (by omega) (by omega)))⟩
    exact Nat.lt_of_lt_of_le a1 (Nat.pow_le_pow_right (n := 10) (by omega) (show p - p0 ≤ 4 by omega))
  · exact ⟨4, 1, Or.inr (Or.inr (Or.inr (Or.inr ⟨rfl, rfl⟩))), if_neg (show ¬ nI _ ≤ nI 4 from Int32.not_le.mpr (nI_lt (by omega) (by omega))), if_pos (show nI 5 ≤ nI _ from nI_le (by omega) (by omega))⟩
theorem NI_S {cv rv : Int32} {d : Nat} (h : NI p0 p cv rv) (hp : p0 ≤ p) (d1 : 48 ≤ d) (d2 : d ≤ 57) : NI p0 (p + 1) (cv * 10 + nI d - 48) (if 10000 ≤ rv then rv else 10 * rv + nI d - 48) := by
  by_cases c : p0 + 4 < p + 1
  · exact Or.inr c
  · rcases h with ⟨h1, a, a1, a2, a3⟩ | h1
    · have e10 : 10 ^ (p + 1 - p0) = 10 ^ (p - p0) * 10 := by rw [show p + 1 - p0 = (p - p0) + 1 by omega, Nat.pow_succ]
      have h4 : 10 ^ (p - p0) ≤ 10 ^ 3 := Nat.pow_le_pow_right (n := 10) (by omega) (show p - p0 ≤ 3 by omega)
      refine Or.inl ⟨by omega, a * 10 + d - 48, by rw [e10]; omega, ?_, ?_⟩
      · rw [a2, show (nI a * 10 : Int32) = nI (a * 10) from pk_mul a 10, nI_add]
        exact pk_sub (b := 48) (by omega)
      · rw [if_neg (by rw [a3]; show ¬ nI 10000 ≤ nI a; exact Int32.not_le.mpr (nI_lt (by omega) (by omega))), a3, show (10 * nI a : Int32) = nI (10 * a) from pk_mul 10 a, nI_add, Nat.mul_comm a 10]
        exact pk_sub (b := 48) (by omega)
    · omega
theorem lex_num (h : LX t v z p) (c0 : Int32) (hp : p0 ≤ p) : ∀ d p, p + d = z → p0 ≤ p → ∀ cv rv, NI p0 p cv rv → ∃ e : Nat, ∃ ct rt cv2 rv2, e ≤ z ∧ TK ct rt cv2 rv2 ∧ (∀ Q : S8 → Prop, Q (tkC t (nI e) ct (nI p0) cv2) → ∃ n, wp_X8_takeNumber_5 Q n (tkC t (nI p) c0 (nI p0) cv)) ∧ ∀ Q : S11 → Prop, Q (tkR v (nI e) rt (nI p0) rv2) → ∃ n, wp_X11_reads_171 Q n (tkR v (nI p) 1 (nI p0) rv) := by
  have hz := h.1.2.2.1
  -- at the end of the digits
  have fin : ∀ p, p ≤ z → p0 ≤ p → ∀ cv rv, NI p0 p cv rv → ∃ ct rt, TK ct rt cv rv ∧ (∀ Q : S8 → Prop, Q (tkC t (nI p) ct (nI p0) cv) → wp_X8_takeNumber_58 Q (tkC t (nI p) c0 (nI p0) cv)) ∧ ∀ Q : S11 → Prop, Q (tkR v (nI p) rt (nI p0) rv) → ((5 ≤ (nI p - nI p0 : Int32) → Q (tkR v (nI p) 1 (nI p0) rv)) ∧ (¬ 5 ≤ (nI p - nI p0 : Int32) → ∀ u0_6 : S11, u0_6 = s11_token (tkR v (nI p) 1 (nI p0) rv) 3 → Q u0_6)) := by
    intro p h1 h2 cv rv hN
    obtain ⟨ct, rt, k1, k2, k3⟩ := NI_TK hN h2 (by omega)
    refine ⟨ct, rt, k1, fun Q q => ⟨fun c u hu => ?_, fun c u hu => ?_⟩, fun Q q => ⟨fun c => ?_, fun c u hu => ?_⟩⟩
    · have c : (nI p - nI p0 : Int32) ≤ 4 := c
      rw [if_pos c] at k2; rw [hu, tC1]; subst k2; exact q
    · have c : ¬ (nI p - nI p0 : Int32) ≤ 4 := c
      rw [if_neg c] at k2; rw [hu, tC1]; subst k2; exact q
    · rw [if_pos c] at k3; subst k3; exact q
    · rw [if_neg c] at k3; rw [hu, tR1]; subst k3; exact q
  intro d
  induction d with
  | zero =>
    intro p hd hp cv rv hN
    have hd : p = z := hd
    subst hd
    have hX := LX_tk h (p2 := p) (by omega) (a := c0) (b := nI p0) (c := cv) (d := 1) (e := nI p0) (f := rv)
    obtain ⟨ct, rt, k1, k2, k3⟩ := fin p (by omega) hp cv rv hN
    refine ⟨p, ct, rt, cv, rv, by omega, k1, fun Q q => ⟨1, fun _ => k2 Q q, fun y => absurd (by rw [hX.1.1, hX.2.1]; exact nI_le (by omega) (by omega)) y⟩, fun Q q => ⟨1, x_raw hX ?_⟩⟩
    rw [if_neg (by omega)]
    exact x_digit (fun y => absurd y m1_n.2) (fun _ => ⟨fun _ => k3 Q q, fun y => absurd rfl y⟩)
  | succ d ih =>
    intro p hd hp cv rv hN
    have hX := LX_tk h (p2 := p) (by omega) (a := c0) (b := nI p0) (c := cv) (d := 1) (e := nI p0) (f := rv)
    have nle : ¬ g8_size (tkC t (nI p) c0 (nI p0) cv) ≤ g8_place (tkC t (nI p) c0 (nI p0) cv) := by
      rw [hX.1.1, hX.2.1]; exact Int32.not_le.mpr (nI_lt (by omega) (by omega))
    by_cases hl : Dg (g11_tape v p)
    · obtain ⟨x, x1, x2, x3⟩ := dg_n hl
      obtain ⟨e, ct, rt, cv2, rv2, e1, e2, e3, e4⟩ := ih (p + 1) (by omega) (by omega) _ _ (NI_S hN hp x1 x2)
      refine ⟨e, ct, rt, cv2, rv2, e1, e2, fun Q q => ?_, fun Q q => ?_⟩
      · obtain ⟨n, hn⟩ := e3 Q q
        refine ⟨n + 1, fun y => absurd y nle, fun _ => w_here hX ?_⟩
        rw [if_pos (by omega)]
        refine w_digit (fun _ => ⟨fun y => absurd y (by decide), fun _ => w_here hX ?_⟩) (fun y => absurd hl y)
        rw [if_pos (by omega)]
        intro u hu u2 hu2
        have ex : g11_tape (tkR v (nI p) 1 (nI p0) rv) p = nI x := x3
        rw [hu2, hu, tC2, gC1, nI_1, tC3, ex]; exact hn
      · obtain ⟨n, hn⟩ := e4 Q q
        refine ⟨n + 1, x_raw hX ?_⟩
        rw [if_pos (by omega)]
        have ex : g11_tape (tkR v (nI p) 1 (nI p0) rv) p = nI x := x3
        refine x_digit (fun _ => ⟨fun y => absurd y (by decide), fun _ => ⟨fun c => ?_, fun c => x_raw hX ?_⟩⟩) (fun y => absurd hl y)
        · have c : (10000 : Int32) ≤ rv := c
          rw [if_pos c] at hn
          intro u hu u2 hu2
          rw [hu2, hu, tR2, gR1, nI_1, tR3]; exact hn
        · have c : ¬ (10000 : Int32) ≤ rv := c
          rw [if_neg c] at hn
          rw [if_pos (by omega)]
          intro u hu u2 hu2
          rw [hu2, hu, tR2, gR1, nI_1, tR3, ex]; exact hn
    · obtain ⟨ct, rt, k1, k2, k3⟩ := fin p (by omega) hp cv rv hN
      refine ⟨p, ct, rt, cv, rv, by omega, k1, fun Q q => ⟨1, fun y => absurd y nle, fun _ => w_here hX ?_⟩, fun Q q => ⟨1, x_raw hX ?_⟩⟩
      · rw [if_pos (by omega)]
        exact w_digit (fun y => absurd y hl) (fun _ => ⟨fun _ => k2 Q q, fun y => absurd rfl y⟩)
      · rw [if_pos (by omega)]
        exact x_digit (fun y => absurd y hl) (fun _ => ⟨fun _ => k3 Q q, fun y => absurd rfl y⟩)
end
