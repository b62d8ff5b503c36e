/-! ===== plans ===== -/
section
variable {m v : S11} {t : S8} {u : S10} {w : S9} {n n2 : Nat → Int32} {sp fr tk va rf rp : Int32} {P : Nat → Int32} {z l : Nat}
theorem SW_n (h : SW w n) (hn : ∀ k, k < 10700 → n2 k = n k) : SW w n2 := by
  obtain ⟨F, G, b, e, f, k, hC, hR, hI⟩ := h
  obtain ⟨⟨m1, m2, m3, m4, m5, m6, m7, m8, m9⟩, r2, r3, r4, r5⟩ := hR
  refine ⟨F, G, b, e, f, k, hC, ⟨⟨?_, ?_, m3, m4, m5, m6, fun i hi => ?_, m8, m9⟩, fun k hk => ?_, fun k hk => ?_, ?_, r5⟩, hI⟩
  · rw [hn 0 (by omega)]; exact m1
  · rw [hn 1 (by omega)]; exact m2
  · rw [hn _ (by omega)]; exact m7 i hi
  · rw [hn k (by unfold nk at hk; omega)]; exact r2 k hk
  · rw [hn k (by unfold gk at hk; omega)]; exact r3 k hk
  · rw [hn 5 (by omega)]; exact r4
theorem SW_7 (h : SW w n) {q : Nat} (hq : q < 65536) : SW w (upd n 7 (nI q)) := by
  obtain ⟨F, G, b, e, f, k, ⟨c1, c2, c3, c4, c5, c6, c7, c8, c9, c10⟩, hR, hB, hU⟩ := h
  have hF : ∀ j, j ≠ 7 → updN F 7 q j = F j := fun j hj => uNn hj
  refine ⟨updN F 7 q, G, b, e, f, k, ⟨c1, RP_c c2 (fun k hk => hF k (by omega)) (fun _ _ => rfl), RO_c c3 (fun k _ _ => hF k (by omega)), RC_c c4 (fun k _ _ => hF k (by omega)) (fun _ _ _ => rfl), RS_c c5 (fun k hk => hF k (by omega)), by rw [hF 3 (by omega)]; exact c6, by rw [hF 2 (by omega)]; exact c7, by rw [hF 4 (by omega)]; exact c8, c9, c10⟩, isR_wr hR (by unfold nk; omega), IB_c hB (hF 2 (by omega)) (hF 4 (by omega)) (hF 11 (by omega)) (hF 12 (by omega)) (fun i => ?_) ?_ (IFr_c hB.2.2.1 (hF 5 (by omega)) (fun k _ _ => hF k (by omega)) (fun _ y => y)) (Nat.le_refl _) hB.2.2.2.2.1.2, ?_⟩
  · by_cases c : i = 7
    · rw [c, uNs]; exact hq
    · rw [hF i c]; exact hB.1 i
  · have a := hB.2.1
    exact ⟨fun k k1 k2 => by rw [hF k (by omega)]; exact a.1 k k1 k2, fun k k1 k2 => by rw [hF k (by omega)]; exact a.2.1 k k1 k2, fun g k k1 k2 => by rw [hF _ (by omega)]; exact a.2.2.1 g k k1 k2, fun k k1 k2 => by rw [hF k (by omega)]; exact a.2.2.2 k k1 k2⟩
  · rcases hU with ⟨a1, a2, a3⟩ | ⟨a1, a2, a3, a4, a5⟩
    · exact Or.inl ⟨by rw [hF 3 (by omega)]; exact a1, a2, fun t t1 t9 => UT_keep hB.2.2.2.1 (fun _ _ => rfl) (Nat.le_refl _) rfl (fun j _ _ => hF j (by omega)) (a3 t t1 t9)⟩
    · exact Or.inr ⟨by rw [hF 3 (by omega)]; exact a1, a2, fun k k1 k2 => by rw [hF k (by omega)]; exact a3 k k1 k2, a4, by rw [hF 4 (by omega)]; exact a5⟩
/-- the script against the reference's plans -/
def PS (s : S6) (P : Nat → Int32) (many c7 : Int32) (o : Nat) : Prop := ∃ z q, z ≤ 24 ∧ q ≤ z ∧ g6_size s = nI z ∧ many = nI z ∧ g6_ran s = nI q ∧ c7 = nI q ∧ ∀ j, j < z → Ln (g6_parts s) P o j
theorem rd_lines : ∀ d l (t : S8) (sp fr tk va : Int32) (P : Nat → Int32), l + d = 25 → RLn m t sp fr tk va P z l → ∃ r t2 r2 sp2 fr2 tk2 va2 rf2 rp2 P2, (∀ i, i < 96 → P2 i = P i) ∧ ((r = 1 ∧ ∃ l2, l2 ≤ 24 ∧ r2 = nI l2 ∧ RLn m t2 sp2 fr2 tk2 va2 P2 z l2) ∨ (r = 0 ∧ r2 = -1 ∧ g8_fault t2 = rf2 ∧ g8_faultPlace t2 = rp2)) ∧ (∀ Q : Int32 → S8 → Prop, Q r (s8_size t2 0) → ∃ n, wp_X8_readPlan_30 Q n 1 (nI l) t) ∧ ∀ Q : Int32 → S11 → Prop, Q r2 (rdS m sp2 fr2 tk2 va2 rf2 rp2 P2) → ∃ n, wp_X11_readPlan_11 Q n (nI l) (rdS m sp fr tk va rf rp P) := by
  intro d
  induction d with
  | zero => intro l t sp fr tk va P hd h; have := h.2.2.2.2.1; omega
  | succ d ih =>
    intro l t sp fr tk va P hd h
    have l24 := h.2.2.2.2.1
    by_cases c : tk = 0
    · have c1 : g8_token t = 0 := by
        rcases h.2.1 with ⟨c1, _⟩ | ⟨w, _, _, c2, _⟩ | ⟨a, _, _, c2, _⟩ | ⟨_, c2⟩ | ⟨_, c2⟩
        · exact c1
        · rw [c2] at c; exact absurd c (by decide)
        · rw [c2] at c; exact absurd c (by decide)
        · rw [c2] at c; exact absurd c (by decide)
        · rw [c2] at c; exact absurd c (by decide)
      refine ⟨1, t, nI l, sp, fr, tk, va, rf, rp, P, fun _ _ => rfl, Or.inl ⟨rfl, l, l24, rfl, h⟩, fun Q q => ⟨1, pk_lt 24 l (fun y => by omega) (fun _ => ⟨fun y => absurd y (by decide), fun _ => ⟨fun _ a ha => ⟨Or.inr rfl, by rw [ha]; exact q⟩, fun y => absurd c1 y⟩⟩)⟩, fun Q q => ⟨1, fun _ => q, fun y => absurd (rG6.trans c) y⟩⟩
    · have c1 : ¬ g8_token t = 0 := by
        intro y
        rcases h.2.1 with ⟨_, c2⟩ | ⟨w, _, c2, _⟩ | ⟨a, _, c2, _⟩ | ⟨c2, _⟩ | ⟨c2, _⟩
        · exact c c2
        · rw [c2] at y; exact absurd y (by decide)
        · rw [c2] at y; exact absurd y (by decide)
        · rw [c2] at y; exact absurd y (by decide)
        · rw [c2] at y; exact absurd y (by decide)
      obtain ⟨r, t2, r2, sp2, fr2, tk2, va2, rf2, rp2, P2, j1, j0, j2, j3⟩ := rd_line rf rp h c
      rcases j1.2 with ⟨e1, e2, e3, e4, e5⟩ | ⟨e1, e2, e3, e4⟩
      · subst e1 e2 e4 e5
        obtain ⟨r3, t3, r4, sp3, fr3, tk3, va3, rf3, rp3, P3, i1, i2, i3, i4⟩ := ih (l + 1) t2 sp2 fr2 tk2 va2 P2 (by omega) e3
        refine ⟨r3, t3, r4, sp3, fr3, tk3, va3, rf3, rp3, P3, fun i hi => (i1 i hi).trans (j1.1 i (by omega)), i2, fun Q q => ?_, fun Q q => ?_⟩
        · obtain ⟨n, hn⟩ := i3 Q q
          exact ⟨n + 1, pk_lt 24 l (fun y => by omega) (fun _ => ⟨fun y => absurd y (by decide), fun _ => ⟨fun y => absurd y c1, fun _ => j2 _ (fun x hx => by rw [hx, nI_1]; exact hn)⟩⟩)⟩
        · obtain ⟨n, hn⟩ := i4 Q q
          exact ⟨n + 1, fun y => absurd (rG6.symm.trans y) c, fun _ => j3 _ ⟨fun y => absurd y (by decide), fun _ x hx => by rw [hx, nI_1]; exact hn⟩⟩
      · subst e1 e2
        refine ⟨0, t2, -1, sp2, fr2, tk2, va2, rf2, rp2, P2, fun i hi => j1.1 i (by omega), Or.inr ⟨rfl, rfl, e3, e4⟩, fun Q q => ⟨2, pk_lt 24 l (fun y => by omega) (fun _ => ⟨fun y => absurd y (by decide), fun _ => ⟨fun y => absurd y c1, fun _ => j2 _ (fun x hx => ?_)⟩⟩)⟩, fun Q q => ⟨1, fun y => absurd (rG6.symm.trans y) c, fun _ => j3 _ ⟨fun _ => q, fun y => absurd rfl y⟩⟩⟩
        have en : wp_X8_readPlan_58 Q 0 t2 := fun a ha => ⟨Or.inl rfl, by rw [ha]; exact q⟩
        exact ⟨fun _ => en, fun _ => ⟨fun _ => en, fun y => absurd rfl y⟩⟩
theorem rd_plan (hT : ∃ z : Nat, z ≤ 400 ∧ g8_size t = nI z ∧ g11_taped m = nI z ∧ ∀ i, i < z → g8_bytes t i = g11_tape m i) (hW : ∀ i, i < 77 → g11_words m (i + 1) = st_WORDS i) : ∃ r t2 r2 sp2 fr2 tk2 va2 rf2 rp2 P2, (∀ i, i < 96 → P2 i = g11_plans m i) ∧ ((r = 1 ∧ ∃ l2 z, l2 ≤ 24 ∧ r2 = nI l2 ∧ RLn m t2 sp2 fr2 tk2 va2 P2 z l2) ∨ (r = 0 ∧ r2 = -1 ∧ g8_fault t2 = rf2 ∧ g8_faultPlace t2 = rp2)) ∧ (∀ Q : Int32 → S8 → Prop, Q r (s8_size t2 0) → wp_X8_readPlan t Q) ∧ ∀ Q : Int32 → S11 → Prop, Q r2 (rdS m sp2 fr2 tk2 va2 rf2 rp2 P2) → wp_X11_readPlan m Q := by
  obtain ⟨z, z4, z1, z2, z3⟩ := hT
  have lx : LX (s8_draft (s8_place (s8_faultPlace (s8_fault t 0) (-1)) 0) (g6_parts (g8_draft t), 0, 0)) (s11_spot m 0) z 0 := ⟨⟨z1, z2, z4, z3, hW⟩, rfl, rfl, by omega⟩
  obtain ⟨e2, p0, ct, rt, cv, rv, k1, k2, k3, k4⟩ := lex z 0 _ _ (by omega) lx
  have hRL : RLn m (tkC (s8_draft (s8_place (s8_faultPlace (s8_fault t 0) (-1)) 0) (g6_parts (g8_draft t), 0, 0)) (nI e2) ct (nI p0) cv) (nI e2) (nI p0) rt rv (g11_plans m) z 0 := ⟨⟨⟨z1, z2, z4, z3, hW, rfl, rfl⟩, e2, rfl, rfl, k1⟩, k2, rfl, rfl, by omega, rfl, fun j hj => by omega⟩
  obtain ⟨r, t2, r2, sp2, fr2, tk2, va2, rf2, rp2, P2, i1, i2, i3, i4⟩ := rd_lines (rf := g11_readFault m) (rp := g11_readPlace m) 25 0 _ _ _ _ _ _ rfl hRL
  refine ⟨r, t2, r2, sp2, fr2, tk2, va2, rf2, rp2, P2, i1, ?_, fun Q q u1 hu1 u2 hu2 u3 hu3 d1 hd1 d2 hd2 u4 hu4 => ?_, fun Q q u1 hu1 => ?_⟩
  · rcases i2 with ⟨a, l2, b, c, d⟩ | y
    · exact Or.inl ⟨a, l2, z, b, c, d⟩
    · exact Or.inr y
  · have e4 : u4 = s8_draft (s8_place (s8_faultPlace (s8_fault t 0) (-1)) 0) (g6_parts (g8_draft t), 0, 0) := by
      rw [hu4, hd2, hd1, hu3, hu2, hu1]
    rw [e4]
    exact k3 _ (i3 Q q)
  · rw [hu1]
    refine k4 _ ?_
    have e5 : tkR (s11_spot m 0) (nI e2) rt (nI p0) rv = rdS m (nI e2) (nI p0) rt rv (g11_readFault m) (g11_readPlace m) (g11_plans m) := rfl
    rw [e5]
    exact i4 Q q
def Fld (v2 v : S11) : Prop := g11_words v2 = g11_words v ∧ g11_hasImage v2 = g11_hasImage v ∧ g11_images v2 = g11_images v
theorem s11_pp {A B : Nat → Int32} : s11_plans (s11_plans v A) B = s11_plans v B := rfl
theorem x_55 {Q : Int32 → S11 → Prop} (hl : l ≤ 24) (q : ∀ R : Nat → Int32, (∀ i, i < 4 * l → R i = g11_plans v (96 + i)) → Q (nI l) (s11_now (s11_planMany (s11_plans v R) (nI l)) (upd (g11_now v) 7 (nI 0)))) : ∀ d x (R : Nat → Int32), x + d = 4 * l → (∀ i, i < x → R i = g11_plans v (96 + i)) → (∀ i, 96 ≤ i → R i = g11_plans v i) → ∃ n, wp_X11_plan_55 Q n (nI l) (nI x) (s11_plans v R) := by
  have e4 : (4 * nI l : Int32) = nI (4 * l) := pk_mul 4 l
  intro d
  induction d with
  | zero =>
    intro x R hd h1 h2
    have hd : x = 4 * l := hd
    subst hd
    refine ⟨1, fun _ u1 hu1 => ⟨ivp (k := 7) (by omega) (by omega), fun u2 hu2 => ?_⟩, fun y => absurd (by rw [e4]; exact nI_le (by omega) (by omega)) y⟩
    have e7 : g11_now u1 = g11_now v := by rw [hu1]
    rw [e7, hu1] at hu2
    rw [hu2]
    exact q R h1
  | succ d ih =>
    intro x R hd h1 h2
    have e9 : (96 + nI x : Int32) = nI (96 + x) := nI_add 96 x
    obtain ⟨n, hn⟩ := ih (x + 1) (upd R x (g11_plans v (96 + x))) (by omega) (fun i hi => by
      by_cases c : i = x
      · rw [c, pk_us]
      · rw [pk_un c]; exact h1 i (by omega)) (fun i hi => by rw [pk_un (by omega)]; exact h2 i hi)
    refine ⟨n + 1, fun y => ?_, fun _ => ?_⟩
    · rw [e4] at y; have := (nI_leI (by omega) (by omega)).mp y; omega
    · rw [e9]
      refine ⟨ivp (by omega) (by omega), ivp (by omega) (by omega), fun u1 hu1 x2 hx2 => ?_⟩
      have e1 : g11_plans (s11_plans v R) (96 + x) = g11_plans v (96 + x) := h2 _ (by omega)
      rw [nI_clamp (by omega), nI_clamp (by omega), e1, s11_pp] at hu1
      rw [hx2, nI_1, hu1]; exact hn
theorem f_fin {R N : Nat → Int32} {a : Int32} : g11_plans (s11_now (s11_planMany (s11_plans v R) a) N) = R ∧ g11_planMany (s11_now (s11_planMany (s11_plans v R) a) N) = a ∧ g11_now (s11_now (s11_planMany (s11_plans v R) a) N) = N ∧ Fld (s11_now (s11_planMany (s11_plans v R) a) N) v ∧ g11_taped (s11_now (s11_planMany (s11_plans v R) a) N) = g11_taped v ∧ g11_faultKind (s11_now (s11_planMany (s11_plans v R) a) N) = g11_faultKind v ∧ g11_faultPlace (s11_now (s11_planMany (s11_plans v R) a) N) = g11_faultPlace v := ⟨rfl, rfl, rfl, ⟨rfl, rfl, rfl⟩, rfl, rfl, rfl⟩
theorem f_tap {a : Int32} : g11_plans (s11_taped v a) = g11_plans v ∧ g11_planMany (s11_taped v a) = g11_planMany v ∧ g11_now (s11_taped v a) = g11_now v ∧ Fld (s11_taped v a) v ∧ g11_taped (s11_taped v a) = a ∧ g11_faultKind (s11_taped v a) = g11_faultKind v ∧ g11_faultPlace (s11_taped v a) = g11_faultPlace v := ⟨rfl, rfl, rfl, ⟨rfl, rfl, rfl⟩, rfl, rfl, rfl⟩
theorem f_flt {a b : Int32} : g11_plans (s11_faultPlace (s11_faultKind v a) b) = g11_plans v ∧ g11_planMany (s11_faultPlace (s11_faultKind v a) b) = g11_planMany v ∧ g11_now (s11_faultPlace (s11_faultKind v a) b) = g11_now v ∧ Fld (s11_faultPlace (s11_faultKind v a) b) v ∧ g11_faultKind (s11_faultPlace (s11_faultKind v a) b) = a ∧ g11_faultPlace (s11_faultPlace (s11_faultKind v a) b) = b ∧ g11_taped (s11_faultPlace (s11_faultKind v a) b) = g11_taped v ∧ g11_tape (s11_faultPlace (s11_faultKind v a) b) = g11_tape v := ⟨rfl, rfl, rfl, ⟨rfl, rfl, rfl⟩, rfl, rfl, rfl, rfl⟩
theorem f_tld {a : Int32} : g11_plans (s11_told v a) = g11_plans v ∧ g11_planMany (s11_told v a) = g11_planMany v ∧ g11_now (s11_told v a) = g11_now v ∧ Fld (s11_told v a) v ∧ g11_faultKind (s11_told v a) = g11_faultKind v ∧ g11_faultPlace (s11_told v a) = g11_faultPlace v ∧ g11_taped (s11_told v a) = g11_taped v ∧ g11_tape (s11_told v a) = g11_tape v := ⟨rfl, rfl, rfl, ⟨rfl, rfl, rfl⟩, rfl, rfl, rfl, rfl⟩
theorem f_rd : g11_plans (rdS m sp fr tk va rf rp P) = P ∧ g11_planMany (rdS m sp fr tk va rf rp P) = g11_planMany m ∧ g11_now (rdS m sp fr tk va rf rp P) = g11_now m ∧ Fld (rdS m sp fr tk va rf rp P) m ∧ g11_faultKind (rdS m sp fr tk va rf rp P) = g11_faultKind m ∧ g11_faultPlace (rdS m sp fr tk va rf rp P) = g11_faultPlace m ∧ g11_readFault (rdS m sp fr tk va rf rp P) = rf ∧ g11_readPlace (rdS m sp fr tk va rf rp P) = rp := ⟨rfl, rfl, rfl, ⟨rfl, rfl, rfl⟩, rfl, rfl, rfl, rfl⟩
theorem Fld_t {a b c : S11} (h : Fld a b) (h2 : Fld b c) : Fld a c := ⟨h.1.trans h2.1, h.2.1.trans h2.2.1, h.2.2.trans h2.2.2⟩
theorem f_k {a : Int32} : g11_readPlace (s11_faultKind v a) = g11_readPlace v := rfl
theorem s10_id : s10_now (s10_tape u t) (s9_script (g10_now u) (g9_script (g10_now u))) = s10_tape u t := rfl
theorem s11_id : s11_plans v (g11_plans v) = v := rfl
theorem o_plan (hT : TR (g10_tape u) m) (hP : PS (g9_script (g10_now u)) (g11_plans m) (g11_planMany m) (g11_now m 7) 0) (hW : ∀ i, i < 77 → g11_words m (i + 1) = st_WORDS i) {K : Int32 → S10 → Int32 → S11 → Prop} (q : ∀ r t2 S v2, TR t2 v2 → PS S (g11_plans v2) (g11_planMany v2) (g11_now v2 7) 0 → (g11_now v2 = g11_now m ∨ g11_now v2 = upd (g11_now m) 7 (nI 0)) → Fld v2 m → K r (s10_now (s10_tape u t2) (s9_script (g10_now u) S)) r v2) : wp_X10_plan u (fun r u2 => wp_X11_plan m (fun r2 v2 => K r u2 r2 v2)) := by
  generalize hm2 : s11_told m 0 = m2
  have k2 := f_tld (v := m) (a := 0)
  rw [hm2] at k2
  generalize hm0 : s11_faultPlace (s11_faultKind m2 0) (-1) = m0
  have k0 := f_flt (v := m2) (a := 0) (b := -1)
  rw [hm0] at k0
  obtain ⟨a1, a2, a3, a4, a5, a6, a7, a8⟩ := k0
  obtain ⟨b1, b2, b3, b4, b5, b6, b7, b8⟩ := k2
  have hT2 : ∃ z : Nat, z ≤ 400 ∧ g8_size (g10_tape u) = nI z ∧ g11_taped m0 = nI z ∧ ∀ i, i < z → g8_bytes (g10_tape u) i = g11_tape m0 i := by
    obtain ⟨⟨z, z4, z1, z2, z3⟩, h1, h2⟩ := hT
    exact ⟨z, z4, z1, by rw [a7, b7]; exact z2, by rw [a8, b8]; exact z3⟩
  have hW0 : ∀ i, i < 77 → g11_words m0 (i + 1) = st_WORDS i := by rw [a4.1, b4.1]; exact hW
  obtain ⟨r, t2, r2, sp2, fr2, tk2, va2, rf2, rp2, P2, i1, i2, i3, i4⟩ := rd_plan hT2 hW0
  refine i3 _ fun u3 hu3 => ?_
  rw [hu3]
  obtain ⟨e1, e2, e3, e4, e5, e6, e7, e8⟩ := f_rd (m := m0) (sp := sp2) (fr := fr2) (tk := tk2) (va := va2) (rf := rf2) (rp := rp2) (P := P2)
  have go : ∀ K2 : Int32 → S11 → Prop, ((r2 = (-1) → ∀ u0_12 : S11, u0_12 = s11_faultKind (rdS m0 sp2 fr2 tk2 va2 rf2 rp2 P2) (g11_readFault (rdS m0 sp2 fr2 tk2 va2 rf2 rp2 P2)) → (∀ u0_13 : S11, u0_13 = s11_faultPlace u0_12 (g11_readPlace u0_12) → (wp_X11_plan_41 K2 r2 u0_13))) ∧ (¬ r2 = (-1) → wp_X11_plan_41 K2 r2 (rdS m0 sp2 fr2 tk2 va2 rf2 rp2 P2))) → wp_X11_plan m K2 := by
    intro K2 k u1 hu1 u2 hu2 u3 hu3
    rw [hu1, hm2] at hu2
    rw [hu2, hm0] at hu3
    rw [hu3]
    exact i4 _ k
  generalize rdS m0 sp2 fr2 tk2 va2 rf2 rp2 P2 = v1 at e1 e2 e3 e4 e5 e6 e7 e8 go
  obtain ⟨z, qq, z1, z2, z3, z4, z5, z6, z7⟩ := hP
  rcases i2 with ⟨c1, l2, zz, c2, c3, c4⟩ | ⟨c1, c2, c3, c4⟩
  · subst c1 c3
    refine ⟨fun y => absurd y (by decide), fun _ => w_copy6 fun S hS u4 hu4 => go _ ⟨fun y => absurd y (nI_m1 (by omega)), fun _ u5 hu5 => ⟨fun y => absurd y (nI_m1 (by omega)), fun _ => ?_⟩⟩⟩
    obtain ⟨t1, t3, t4, t5, t6, t7, t8⟩ := f_tap (v := v1) (a := 0)
    rw [hu5]
    generalize s11_taped v1 0 = v3 at t1 t3 t4 t5 t6 t7 t8
    obtain ⟨d1, d2, d3, d4, d5, d6, d7⟩ := c4
    have ef : g6_size (g9_script (g10_now u4)) = nI l2 := by rw [hu4]; exact hS.2.1.trans d4
    have eu : u4 = s10_now (s10_tape u (s8_size t2 0)) (s9_script (g10_now u) S) := hu4
    rw [ef, eu]
    have x := x_55 (v := v3) (l := l2) (Q := fun r2 v2 => K (nI l2) (s10_now (s10_tape u (s8_size t2 0)) (s9_script (g10_now u) S)) r2 v2) c2 (fun R hR => ?_) (4 * l2) 0 (g11_plans v3) (by omega) (fun i hi => by omega) (fun i _ => rfl)
    · rw [s11_id] at x; exact x
    · obtain ⟨g1, g2, g3, g4, g5, g6, g7⟩ := f_fin (v := v3) (R := R) (N := upd (g11_now v3) 7 (nI 0)) (a := nI l2)
      refine q (nI l2) (s8_size t2 0) S _ ⟨⟨0, by omega, rfl, by rw [g5, t6]; rfl, fun i hi => by omega⟩, ?_, ?_⟩ ⟨l2, 0, c2, by omega, hS.2.1.trans d4, by rw [g2], hS.2.2.trans d6, by rw [g3, pk_us], fun j hj => ?_⟩ ?_ (Fld_t g4 (Fld_t t5 (Fld_t e4 (Fld_t a4 b4))))
      · rw [g6, t7, e5, a5]; exact d1.1.2.2.2.2.2.1
      · rw [g7, t8, e6, a6]; exact d1.1.2.2.2.2.2.2
      · obtain ⟨op, k1, k2, k3, k4, k5, k6, k7⟩ := d7 j hj
        rw [g1]
        have hr : ∀ i, i < 4 * l2 → R i = P2 (96 + i) := fun i hi => by rw [hR i hi, t1, e1]
        have h0 := hr (4 * j) (by omega)
        have h1 := hr (4 * j + 1) (by omega)
        have h2 := hr (4 * j + 2) (by omega)
        have h3 := hr (4 * j + 3) (by omega)
        have s0 := hS.1 (4 * j) (by omega)
        have s1 := hS.1 (4 * j + 1) (by omega)
        have s2 := hS.1 (4 * j + 2) (by omega)
        have s3 := hS.1 (4 * j + 3) (by omega)
        refine ⟨op, k1, s0.trans k2, ?_, ?_, ?_, fun y => ?_, fun y => ?_⟩
        · rw [show 0 + 4 * j + 1 = 4 * j + 1 by omega, h1]; exact k3
        · rw [show 0 + 4 * j = 4 * j by omega, h0, s1]; exact k4
        · rw [show 0 + 4 * j + 2 = 4 * j + 2 by omega, h2, s2]; exact k5
        · rw [show 0 + 4 * j + 3 = 4 * j + 3 by omega, h3, s3]; exact k6 y
        · rw [s2]; exact k7 y
      · right; rw [g3, t4, e3, a3, b3]
  · subst c1 c2
    refine ⟨fun _ => go _ ⟨fun _ u4 hu4 u5 hu5 u6 hu6 => ⟨fun _ => ?_, fun y => absurd rfl y⟩, fun y => absurd rfl y⟩, fun y => absurd rfl y⟩
    have e9 : g11_readPlace u4 = g11_readPlace v1 := (congrArg (fun x : S11 => g11_readPlace x) hu4).trans f_k
    rw [e9, hu4] at hu5
    obtain ⟨f1, f2, f3, f4, f5, f6, f7, f8⟩ := f_flt (v := v1) (a := g11_readFault v1) (b := g11_readPlace v1)
    rw [← hu5] at f1 f2 f3 f4 f5 f6 f7 f8
    obtain ⟨t1, t3, t4, t5, t6, t7, t8⟩ := f_tap (v := u5) (a := 0)
    rw [← hu6] at t1 t3 t4 t5 t6 t7 t8
    rw [← s10_id]
    refine q (-1) (s8_size t2 0) (g9_script (g10_now u)) u6 ⟨⟨0, by omega, rfl, t6, fun i hi => by omega⟩, ?_, ?_⟩ ⟨z, qq, z1, z2, z3, ?_, z5, ?_, fun j hj => ?_⟩ (Or.inl (by rw [t4, f3, e3, a3, b3])) (Fld_t t5 (Fld_t f4 (Fld_t e4 (Fld_t a4 b4))))
    · rw [t7, f5, e7]; exact c3
    · rw [t8, f6, e8]; exact c4
    · rw [t3, f2, e2, a2, b2]; exact z4
    · rw [t4, f3, e3, a3, b3]; exact z6
    · obtain ⟨op, k1, k2, k3, k4, k5, k6, k7⟩ := z7 j hj
      have hp : ∀ i, i < 96 → g11_plans u6 i = g11_plans m i := fun i hi => by rw [t1, f1, e1, i1 i hi, a1, b1]
      have h1 := hp (0 + 4 * j) (by omega)
      have h2 := hp (0 + 4 * j + 1) (by omega)
      have h3 := hp (0 + 4 * j + 2) (by omega)
      have h4 := hp (0 + 4 * j + 3) (by omega)
      exact ⟨op, k1, k2, h2.trans k3, k4.trans h1.symm, k5.trans h3.symm, fun y => (k6 y).trans h4.symm, k7⟩
end
