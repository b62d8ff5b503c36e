/-! ===== a line of a plan: its operands, its end ===== -/
section
variable {m : S11} {t : S8} {sp fr tk va rf rp : Int32} {P : Nat → Int32} {z l op : Nat} {x1 : Int32}
/-- what came of a line: class r t2, reference r2 and its parts -/
def OC (m : S11) (z l : Nat) (P : Nat → Int32) (rf rp r : Int32) (t2 : S8) (r2 sp2 fr2 tk2 va2 rf2 rp2 : Int32) (P2 : Nat → Int32) : Prop := (∀ i, i < 96 + 4 * l → P2 i = P i) ∧ ((r = 1 ∧ r2 = 0 ∧ RLn m t2 sp2 fr2 tk2 va2 P2 z (l + 1) ∧ rf2 = rf ∧ rp2 = rp) ∨ (r = 0 ∧ r2 = -1 ∧ g8_fault t2 = rf2 ∧ g8_faultPlace t2 = rp2))
theorem OC_er {R : Nat → Int32} {k : Int32} (h : RLn m t sp fr tk va R z l) (hR : ∀ i, i < 96 + 4 * l → R i = P i) : OC m z l P rf rp 0 (erC t k) (-1) sp fr tk va k fr R := ⟨hR, Or.inr ⟨rfl, rfl, rfl, h.2.2.1⟩⟩
theorem x_102 (hl : l < 24) {x3 x4 : Int32} {Q : Int32 → S11 → Prop} (q : Q (if x3 = -1 ∨ x4 = -1 then -1 else 0) (rdS m sp fr tk va rf rp (upd (upd P (96 + 4 * l + 2) x3) (96 + 4 * l + 3) x4))) : wp_X11_readNumbers_102 Q (nI (96 + 4 * l)) x3 x4 (rdS m sp fr tk va rf rp P) := by
  have e2 : nI (96 + 4 * l) + 2 = nI (96 + 4 * l + 2) := nI_add _ 2
  have e3 : nI (96 + 4 * l) + 3 = nI (96 + 4 * l + 3) := nI_add _ 3
  unfold wp_X11_readNumbers_102
  rw [e2, e3]
  refine ⟨ivp (by omega) (by omega), fun u hu => ⟨ivp (by omega) (by omega), fun u2 hu2 => ?_⟩⟩
  rw [nI_clamp (by omega), rG8, rS1] at hu
  rw [hu, nI_clamp (by omega), rG8, rS1] at hu2
  rw [hu2]
  refine ⟨fun c => ?_, fun c => ⟨fun c2 => ?_, fun c2 => ?_⟩⟩
  · rw [if_pos (Or.inl c)] at q; exact q
  · rw [if_pos (Or.inr c2)] at q; exact q
  · rw [if_neg (by rintro (y | y); exact c y; exact c2 y)] at q; exact q
theorem ln_fin (rf rp : Int32) (hl : l < 24) (ho : op < 14) (h : RLn m t sp fr tk va P z l) {x3 x4 y3 : Int32} (p0 : P (96 + 4 * l) = x1) (p1 : P (96 + 4 * l + 1) = nI op) (p2 : y3 = P (96 + 4 * l + 2)) (p3 : (op = 1 ∨ op = 2) → x4 = P (96 + 4 * l + 3)) (p9 : op = 9 → ∃ a, 1 ≤ a ∧ a ≤ 9 ∧ y3 = nI a) (hy : (if st_OPERANDS op = 2 then x3 else x4) = y3) : ∃ r t2 r2 sp2 fr2 tk2 va2 rf2 rp2, OC m z l P rf rp r t2 r2 sp2 fr2 tk2 va2 rf2 rp2 P ∧ (∀ Q : Int32 → S8 → Prop, Q r t2 → wp_X8_readRest_96 Q x1 (nI op) x3 x4 t) ∧ ∀ Q : Int32 → S11 → Prop, Q r2 (rdS m sp2 fr2 tk2 va2 rf2 rp2 P) → ((tk = 4 → wp_X11_reads (rdS m sp fr tk va rf rp P) (fun v => Q 0 v)) ∧ (¬ tk = 4 → wp_X11_errs (rdS m sp fr tk va rf rp P) 1 (fun r v => Q r v))) := by
  by_cases c : tk = 4
  · obtain ⟨t2, sp2, fr2, tk2, va2, k1, k2, k3⟩ := nt rf rp h
    have c3 : g8_token t = 3 := by
      rcases h.2.1 with ⟨_, c2⟩ | ⟨w, _, _, c2, _⟩ | ⟨a, _, _, c2, _⟩ | ⟨c1, _⟩ | ⟨_, c2⟩
      · rw [c2] at c; exact absurd c (by decide)
      · rw [c2] at c; exact absurd c (by decide)
      · rw [c2] at c; exact absurd c (by decide)
      · exact c1
      · rw [c2] at c; exact absurd c (by decide)
    obtain ⟨d1, d2, d3, d4, d5, d6, d7⟩ := k1
    refine ⟨1, s8_draft t2 (upd (upd (upd (upd (g6_parts (g8_draft t2)) (4 * l) (nI op)) (4 * l + 1) x1) (4 * l + 2) y3) (4 * l + 3) x4, nI (l + 1), 0), 0, sp2, fr2, tk2, va2, rf, rp, ⟨fun i _ => rfl, Or.inl ⟨rfl, rfl, ⟨d1, d2, d3, rfl, by omega, rfl, ?_⟩, rfl, rfl⟩⟩, fun Q q => ⟨fun _ => k2 _ ⟨ivp (by omega) (by omega), ?_⟩, fun y => absurd c3 y⟩, fun Q q => ⟨fun _ => k3 _ q, fun y => absurd c y⟩⟩
    · intro j hj
      show Ln (upd (upd (upd (upd (g6_parts (g8_draft t2)) (4 * l) (nI op)) (4 * l + 1) x1) (4 * l + 2) y3) (4 * l + 3) x4) P 96 j
      by_cases cj : j = l
      · subst cj
        refine ⟨op, ho, ?_, p1, ?_, ?_, fun y => ?_, fun y => ?_⟩
        · rw [pk_un (by omega), pk_un (by omega), pk_un (by omega), pk_us]
        · rw [pk_un (by omega), pk_un (by omega), pk_us, p0]
        · rw [pk_un (by omega), pk_us, p2]
        · rw [pk_us, p3 y]
        · rw [pk_un (by omega), pk_us]; exact p9 y
      · obtain ⟨o2, g1, g2, g3, g4, g5, g6, g7⟩ := d7 j (by omega)
        have e : ∀ i, i < 4 * l → upd (upd (upd (upd (g6_parts (g8_draft t2)) (4 * l) (nI op)) (4 * l + 1) x1) (4 * l + 2) y3) (4 * l + 3) x4 i = g6_parts (g8_draft t2) i := fun i hi => by
          rw [pk_un (by omega), pk_un (by omega), pk_un (by omega), pk_un (by omega)]
        have e2 := e (4 * j + 2) (by omega)
        have e3 := e (4 * j + 3) (by omega)
        exact ⟨o2, g1, by rw [e _ (by omega)]; exact g2, g3, by rw [e _ (by omega)]; exact g4, by rw [e2]; exact g5, fun y => by rw [e3]; exact g6 y, fun y => by rw [e2]; exact g7 y⟩
    · have ap : wp_X8_readRest_135 Q x4 (nI op) x1 y3 t2 := by
        show (_ → _) ∧ _
        rw [d4]
        have e4 : nI l * 4 = nI (4 * l) := by rw [Nat.mul_comm]; exact pk_mul l 4
        refine ⟨fun y => absurd y (nI_pos (by omega)), fun _ => pk_lt l 24 (fun _ i hi => ?_) (fun y => by omega)⟩
        rw [hi, e4]
        have e1 : nI (4 * l) + 1 = nI (4 * l + 1) := nI_1 _
        have e2 : nI (4 * l) + 2 = nI (4 * l + 2) := nI_add _ 2
        have e3 : nI (4 * l) + 3 = nI (4 * l + 3) := nI_add _ 3
        rw [e1, e2, e3]
        refine ⟨ivp (by omega) (by omega), fun u1 h1 => ⟨ivp (by omega) (by omega), fun u2 h2 => ⟨ivp (by omega) (by omega), fun u3 h3 => ⟨ivp (by omega) (by omega), fun u4 h4 u5 h5 u6 h6 => ?_⟩⟩⟩⟩
        have e6 : u5 = (upd (upd (upd (upd (g6_parts (g8_draft t2)) (4 * l) (nI op)) (4 * l + 1) x1) (4 * l + 2) y3) (4 * l + 3) x4, nI (l + 1), 0) := by
          rw [h5, h4, h3, h2, h1]
          show (_, g6_size (g8_draft t2) + 1, g6_ran (g8_draft t2)) = _
          rw [nI_clamp (by omega), nI_clamp (by omega), nI_clamp (by omega), nI_clamp (by omega), d4, d6, nI_1]
        rw [h6, e6]; exact q
      rw [nI_clamp (by omega)]
      refine ⟨fun y => ?_, fun y => ?_⟩
      · rw [if_pos y] at hy; rw [hy]; exact ap
      · rw [if_neg y] at hy; rw [← hy] at ap; exact ap
  · refine ⟨0, erC t 1, -1, sp, fr, tk, va, 1, fr, OC_er h (fun _ _ => rfl), fun Q q => ⟨fun y => ?_, fun _ => w_wrong ⟨Or.inl rfl, q⟩⟩, fun Q q => ⟨fun y => absurd y c, fun _ => x_errs q⟩⟩
    exfalso
    rcases h.2.1 with ⟨c1, _⟩ | ⟨w, _, c1, _⟩ | ⟨a, _, c1, _⟩ | ⟨_, c2⟩ | ⟨c1, _⟩
    · rw [c1] at y; exact absurd y (by decide)
    · rw [c1] at y; exact absurd y (by decide)
    · rw [c1] at y; exact absurd y (by decide)
    · exact c c2
    · rw [c1] at y; exact absurd y (by decide)
/-- the operands and the end of a line: from behind the word -/
def opC (t : S8) (x1 : Int32) (op : Nat) (Q : Int32 → S8 → Prop) : Prop := (st_OPERANDS op = 2 → wp_X8_numberWithin t 0 255 (fun r_13 v_14 => (r_13 = 0 → Q 0 v_14) ∧ (¬ r_13 = 0 → ∀ x3_15 : Int32, x3_15 = (g8_value v_14) → (wp_X8_nextToken v_14 (fun v_16 => wp_X8_readRest_58 Q x1 (nI op) x3_15 0 v_16))))) ∧ (¬ st_OPERANDS op = 2 → wp_X8_readRest_58 Q x1 (nI op) 0 0 t)
def opX (v : S11) (O op : Nat) (Q : Int32 → S11 → Prop) : Prop := wp_X11_readNumbers v (nI O) (nI op) (fun r_4 v_5 => (r_4 = (-1) → Q (-1) v_5) ∧ (¬ r_4 = (-1) → ((g11_token v_5) = 4 → wp_X11_reads v_5 (fun v_6 => Q 0 v_6)) ∧ (¬ (g11_token v_5) = 4 → wp_X11_errs v_5 1 (fun r_7 v_8 => Q r_7 v_8))))
def opOK (m : S11) (t : S8) (sp fr tk va rf rp : Int32) (P : Nat → Int32) (z l op : Nat) (x1 : Int32) : Prop := ∃ r t2 r2 sp2 fr2 tk2 va2 rf2 rp2 P2, OC m z l P rf rp r t2 r2 sp2 fr2 tk2 va2 rf2 rp2 P2 ∧ (∀ Q : Int32 → S8 → Prop, Q r t2 → opC t x1 op Q) ∧ ∀ Q : Int32 → S11 → Prop, Q r2 (rdS m sp2 fr2 tk2 va2 rf2 rp2 P2) → opX (rdS m sp fr tk va rf rp P) (96 + 4 * l) op Q
theorem OC_P {R S : Nat → Int32} {r r2 sp2 fr2 tk2 va2 rf2 rp2 : Int32} {t2 : S8} (h : OC m z l R rf rp r t2 r2 sp2 fr2 tk2 va2 rf2 rp2 S) (hR : ∀ i, i < 96 + 4 * l → R i = P i) : OC m z l P rf rp r t2 r2 sp2 fr2 tk2 va2 rf2 rp2 S := ⟨fun i hi => (h.1 i hi).trans (hR i hi), h.2⟩
theorem up2 {x3 x4 : Int32} : ∀ i, i < 96 + 4 * l + 2 → upd (upd P (96 + 4 * l + 2) x3) (96 + 4 * l + 3) x4 i = P i := fun i hi => by rw [pk_un (by omega), pk_un (by omega)]
theorem op_0 (rf rp : Int32) (hl : l < 24) (ho : op < 14) (h : RLn m t sp fr tk va P z l) (p0 : P (96 + 4 * l) = x1) (p1 : P (96 + 4 * l + 1) = nI op) (o1 : st_OPERANDS op = 0) (o2 : op ≠ 1 ∧ op ≠ 2 ∧ op ≠ 4 ∧ op ≠ 9 ∧ op ≠ 11) : opOK m t sp fr tk va rf rp P z l op x1 := by
  have hR := up2 (P := P) (l := l) (x3 := 0) (x4 := 0)
  obtain ⟨r, t2, r2, sp2, fr2, tk2, va2, rf2, rp2, k1, k2, k3⟩ := ln_fin (x1 := x1) (op := op) (x3 := 0) (x4 := 0) (y3 := 0) rf rp hl ho (RLn_P h (fun i hi => hR i (by omega))) (by rw [hR _ (by omega)]; exact p0) (by rw [hR _ (by omega)]; exact p1) (by rw [pk_un (by omega), pk_us]) (fun y => by omega) (fun y => by omega) (by rw [o1, if_neg (by decide)])
  refine ⟨r, t2, r2, sp2, fr2, tk2, va2, rf2, rp2, _, OC_P k1 (fun i hi => hR i (by omega)), fun Q q => ⟨fun y => by rw [o1] at y; exact absurd y (by decide), fun _ => ⟨ivp (by omega) (by omega), fun _ => k2 Q q, fun y => ?_⟩⟩, fun Q q => ?_⟩
  · rw [nI_clamp (by omega), o1] at y; exact absurd (by decide) y
  · refine pk_eq op 1 (fun y => by omega) (fun _ => pk_eq op 2 (fun y => by omega) (fun _ => pk_eq op 4 (fun y => by omega) (fun _ => pk_eq op 9 (fun y => by omega) (fun _ => pk_eq op 11 (fun y => by omega) (fun _ => x_102 hl ?_)))))
    rw [if_neg (by decide)]
    exact ⟨fun y => absurd y (by decide), fun _ => k3 Q q⟩
theorem op_1 (rf rp : Int32) (hl : l < 24) (ho : op < 14) (h : RLn m t sp fr tk va P z l) (p0 : P (96 + 4 * l) = x1) (p1 : P (96 + 4 * l + 1) = nI op) (o1 : st_OPERANDS op = 1) {lo hi : Nat} (o3 : st_LEAST op = nI lo) (o4 : st_MOST op = nI hi) (hh : hi ≤ 255) (o9 : op = 9 → 1 ≤ lo ∧ hi ≤ 9) (o5 : op ≠ 1 ∧ op ≠ 2) (hR : ∀ (v : S11) (Q : Int32 → S11 → Prop), wp_X11_readNumber v (nI lo) (nI hi) (fun r v2 => wp_X11_readNumbers_102 Q (nI (96 + 4 * l)) r 0 v2) → wp_X11_readNumbers v (nI (96 + 4 * l)) (nI op) Q) (hlo : lo < 2 ^ 31) : opOK m t sp fr tk va rf rp P z l op x1 := by
  have cl : nI op = nI op → (nI op).toNatClampNeg = op := fun _ => nI_clamp (by omega)
  rcases num rf rp (lo := lo) (hi := hi) hlo (by omega) h with ⟨a, t1, sp1, fr1, tk1, va1, a1, a2, a3, a4, a5, a6, a7⟩ | ⟨k, a5, a7⟩
  · have hU := up2 (P := P) (l := l) (x3 := nI a) (x4 := 0)
    obtain ⟨r, t2, r2, sp2, fr2, tk2, va2, rf2, rp2, k1, k2, k3⟩ := ln_fin (x1 := x1) (op := op) (x3 := 0) (x4 := nI a) (y3 := nI a) rf rp hl ho (RLn_P a4 (fun i hi => hU i (by omega))) (by rw [hU _ (by omega)]; exact p0) (by rw [hU _ (by omega)]; exact p1) (by rw [pk_un (by omega), pk_us]) (fun y => by omega) (fun y => ⟨a, by have := o9 y; omega, by have := o9 y; omega, rfl⟩) (by rw [o1, if_neg (by decide)])
    refine ⟨r, t2, r2, sp2, fr2, tk2, va2, rf2, rp2, _, OC_P k1 (fun i hi => hU i (by omega)), fun Q q => ⟨fun y => by rw [o1] at y; exact absurd y (by decide), fun _ => ⟨ivp (by omega) (by omega), ?_⟩⟩, fun Q q => hR _ _ (a7 _ (x_102 hl ?_))⟩
    · rw [nI_clamp (by omega), o1, o3, o4]
      refine ⟨fun y => absurd y (by decide), fun _ => ⟨ivp (by omega) (by omega), ivp (by omega) (by omega), a5 _ ⟨fun y => absurd y (by decide), fun _ x4 h4 => a6 _ ?_⟩⟩⟩
      rw [h4, a3]; exact k2 Q q
    · rw [if_neg (by rintro (y | y); exact nI_m1 (by omega) y; exact absurd y (by decide))]
      exact ⟨fun y => absurd y (by decide), fun _ => k3 Q q⟩
  · have hU := up2 (P := P) (l := l) (x3 := -1) (x4 := 0)
    refine ⟨0, erC t k, -1, sp, fr, tk, va, k, fr, _, OC_er (RLn_P h (fun i hi => hU i (by omega))) (fun i hi => hU i (by omega)), fun Q q => ⟨fun y => by rw [o1] at y; exact absurd y (by decide), fun _ => ⟨ivp (by omega) (by omega), ?_⟩⟩, fun Q q => hR _ _ (a7 _ (x_102 hl ?_))⟩
    · rw [nI_clamp (by omega), o1, o3, o4]
      exact ⟨fun y => absurd y (by decide), fun _ => ⟨ivp (by omega) (by omega), ivp (by omega) (by omega), a5 _ ⟨fun _ => q, fun y => absurd rfl y⟩⟩⟩
    · rw [if_pos (Or.inl rfl)]
      exact ⟨fun _ => q, fun y => absurd rfl y⟩
theorem op_2 (rf rp : Int32) (hl : l < 24) (ho : op < 14) (h : RLn m t sp fr tk va P z l) (p0 : P (96 + 4 * l) = x1) (p1 : P (96 + 4 * l + 1) = nI op) (o1 : st_OPERANDS op = 2) {lo : Nat} (o3 : st_LEAST op = nI lo) (o4 : st_MOST op = nI 255) (o5 : op ≠ 9) (hR : ∀ (v : S11) (Q : Int32 → S11 → Prop), wp_X11_readNumbers_15 (fun x1 x3 x4 u0 => wp_X11_readNumbers_102 Q x1 x3 x4 u0) Q (nI (96 + 4 * l)) (nI op) v → wp_X11_readNumbers v (nI (96 + 4 * l)) (nI op) Q) (h4 : ∀ (v : S11) (R : Int32 → S11 → Prop), wp_X11_readNumber v (nI lo) (nI 255) R → (nI op = 2 → wp_X11_readNumber v 1 255 R) ∧ (¬ nI op = 2 → wp_X11_readNumber v 0 255 R)) (hlo : lo < 2 ^ 31) : opOK m t sp fr tk va rf rp P z l op x1 := by
  rcases num rf rp (lo := 0) (hi := 255) (by omega) (by omega) h with ⟨a, t1, sp1, fr1, tk1, va1, a1, a2, a3, a4, a5, a6, a7⟩ | ⟨k, a5, a7⟩
  · rcases num rf rp (lo := lo) (hi := 255) hlo (by omega) a4 with ⟨b, t3, sp3, fr3, tk3, va3, b1, b2, b3, b4, b5, b6, b7⟩ | ⟨k, b5, b7⟩
    · have hU := up2 (P := P) (l := l) (x3 := nI a) (x4 := nI b)
      obtain ⟨r, t2, r2, sp2, fr2, tk2, va2, rf2, rp2, k1, k2, k3⟩ := ln_fin (x1 := x1) (op := op) (x3 := nI a) (x4 := nI b) (y3 := nI a) rf rp hl ho (RLn_P b4 (fun i hi => hU i (by omega))) (by rw [hU _ (by omega)]; exact p0) (by rw [hU _ (by omega)]; exact p1) (by rw [pk_un (by omega), pk_us]) (fun y => by rw [pk_us]) (fun y => absurd y o5) (by rw [o1, if_pos rfl])
      refine ⟨r, t2, r2, sp2, fr2, tk2, va2, rf2, rp2, _, OC_P k1 (fun i hi => hU i (by omega)), fun Q q => ⟨fun _ => a5 _ ⟨fun y => absurd y (by decide), fun _ x3 h3 => a6 _ ⟨ivp (by omega) (by omega), ?_⟩⟩, fun y => absurd o1 y⟩, fun Q q => hR _ _ (a7 _ ⟨fun y => absurd y (nI_m1 (by omega)), fun _ => h4 _ _ (b7 _ ?_)⟩)⟩
      · rw [nI_clamp (by omega), o1, o3, o4]
        refine ⟨fun y => absurd y (by decide), fun _ => ⟨ivp (by omega) (by omega), ivp (by omega) (by omega), b5 _ ⟨fun y => absurd y (by decide), fun _ x4 hx4 => b6 _ ?_⟩⟩⟩
        rw [hx4, b3, h3, a3]; exact k2 Q q
      · unfold wp_X11_readNumbers_50
        refine x_102 hl ?_
        rw [if_neg (by rintro (y | y); exact nI_m1 (by omega) y; exact nI_m1 (by omega) y)]
        exact ⟨fun y => absurd y (by decide), fun _ => k3 Q q⟩
    · have hU := up2 (P := P) (l := l) (x3 := nI a) (x4 := -1)
      refine ⟨0, erC t1 k, -1, sp1, fr1, tk1, va1, k, fr1, _, OC_er (RLn_P a4 (fun i hi => hU i (by omega))) (fun i hi => hU i (by omega)), fun Q q => ⟨fun _ => a5 _ ⟨fun y => absurd y (by decide), fun _ x3 h3 => a6 _ ⟨ivp (by omega) (by omega), ?_⟩⟩, fun y => absurd o1 y⟩, fun Q q => hR _ _ (a7 _ ⟨fun y => absurd y (nI_m1 (by omega)), fun _ => h4 _ _ (b7 _ ?_)⟩)⟩
      · rw [nI_clamp (by omega), o1, o3, o4]
        exact ⟨fun y => absurd y (by decide), fun _ => ⟨ivp (by omega) (by omega), ivp (by omega) (by omega), b5 _ ⟨fun _ => q, fun y => absurd rfl y⟩⟩⟩
      · unfold wp_X11_readNumbers_50
        refine x_102 hl ?_
        rw [if_pos (Or.inr rfl)]
        exact ⟨fun _ => q, fun y => absurd rfl y⟩
  · have hU := up2 (P := P) (l := l) (x3 := -1) (x4 := -1)
    refine ⟨0, erC t k, -1, sp, fr, tk, va, k, fr, _, OC_er (RLn_P h (fun i hi => hU i (by omega))) (fun i hi => hU i (by omega)), fun Q q => ⟨fun _ => a5 _ ⟨fun _ => q, fun y => absurd rfl y⟩, fun y => absurd o1 y⟩, fun Q q => hR _ _ (a7 _ ⟨fun _ => ?_, fun y => absurd rfl y⟩)⟩
    unfold wp_X11_readNumbers_50
    refine x_102 hl ?_
    rw [if_pos (Or.inl rfl)]
    exact ⟨fun _ => q, fun y => absurd rfl y⟩
theorem op_all (rf rp : Int32) (hl : l < 24) (ho : op < 14) (h : RLn m t sp fr tk va P z l) (p0 : P (96 + 4 * l) = x1) (p1 : P (96 + 4 * l + 1) = nI op) : opOK m t sp fr tk va rf rp P z l op x1 := by
  by_cases c1 : op = 1
  · subst c1
    exact op_2 (lo := 0) rf rp hl ho h p0 p1 (by decide) (by decide) (by decide) (by decide) (fun v Q q => ⟨fun _ => q, fun y => absurd rfl y⟩) (fun v R q => ⟨fun y => absurd y (by decide), fun _ => q⟩) (by decide)
  by_cases c2 : op = 2
  · subst c2
    exact op_2 (lo := 1) rf rp hl ho h p0 p1 (by decide) (by decide) (by decide) (by decide) (fun v Q q => ⟨fun y => absurd y (by decide), fun _ => ⟨fun _ => q, fun y => absurd rfl y⟩⟩) (fun v R q => ⟨fun _ => q, fun y => absurd rfl y⟩) (by decide)
  by_cases c4 : op = 4
  · subst c4
    exact op_1 (lo := 0) (hi := 7) rf rp hl ho h p0 p1 (by decide) (by decide) (by decide) (by decide) (fun y => by omega) (by decide) (fun v Q q => ⟨fun y => absurd y (by decide), fun _ => ⟨fun y => absurd y (by decide), fun _ => ⟨fun _ => q, fun y => absurd rfl y⟩⟩⟩) (by decide)
  by_cases c9 : op = 9
  · subst c9
    exact op_1 (lo := 1) (hi := 9) rf rp hl ho h p0 p1 (by decide) (by decide) (by decide) (by decide) (fun y => by omega) (by decide) (fun v Q q => ⟨fun y => absurd y (by decide), fun _ => ⟨fun y => absurd y (by decide), fun _ => ⟨fun y => absurd y (by decide), fun _ => ⟨fun _ => q, fun y => absurd rfl y⟩⟩⟩⟩) (by decide)
  by_cases c11 : op = 11
  · subst c11
    exact op_1 (lo := 0) (hi := 15) rf rp hl ho h p0 p1 (by decide) (by decide) (by decide) (by decide) (fun y => by omega) (by decide) (fun v Q q => ⟨fun y => absurd y (by decide), fun _ => ⟨fun y => absurd y (by decide), fun _ => ⟨fun y => absurd y (by decide), fun _ => ⟨fun y => absurd y (by decide), fun _ => ⟨fun _ => q, fun y => absurd rfl y⟩⟩⟩⟩⟩) (by decide)
  · have k : ∀ o, o < 14 → (o = 1 ∨ o = 2 ∨ o = 4 ∨ o = 9 ∨ o = 11) ∨ st_OPERANDS o = 0 := by decide
    exact op_0 rf rp hl ho h p0 p1 ((k op ho).resolve_left (by omega)) ⟨c1, c2, c4, c9, c11⟩
/-- a whole line -/
theorem rd_line (rf rp : Int32) (h : RLn m t sp fr tk va P z l) (h0 : tk ≠ 0) : ∃ r t2 r2 sp2 fr2 tk2 va2 rf2 rp2 P2, OC m z l P rf rp r t2 r2 sp2 fr2 tk2 va2 rf2 rp2 P2 ∧ (r = 1 → l < 24) ∧ (∀ Q : Int32 → S8 → Prop, Q r t2 → wp_X8_readLine t Q) ∧ ∀ Q : Int32 → S11 → Prop, Q r2 (rdS m sp2 fr2 tk2 va2 rf2 rp2 P2) → wp_X11_readLine (rdS m sp fr tk va rf rp P) (nI l) Q := by
  have eO : (96 : Int32) + 4 * nI l = nI (96 + 4 * l) := by
    rw [show (4 * nI l : Int32) = nI (4 * l) from pk_mul 4 l]; exact nI_add 96 (4 * l)
  have l24 : g6_size (g8_draft t) = nI l := h.2.2.2.1
  have hl := h.2.2.2.2.1
  -- from the word on: tx, with the reference's row R
  have rest : ∀ (t : S8) (sp fr va tx : Int32) (R : Nat → Int32) (op : Nat), l < 24 → op < 14 → va = nI op → RLn m t sp fr 2 va R z l → g8_value t = nI op → R (96 + 4 * l) = tx → ∃ r t2 r2 sp2 fr2 tk2 va2 rf2 rp2 P2, OC m z l R rf rp r t2 r2 sp2 fr2 tk2 va2 rf2 rp2 P2 ∧ (∀ Q : Int32 → S8 → Prop, Q r t2 → wp_X8_readLine_102 Q tx t) ∧ ∀ Q : Int32 → S11 → Prop, Q r2 (rdS m sp2 fr2 tk2 va2 rf2 rp2 P2) → wp_X11_readLine_133 Q (nI (96 + 4 * l)) (rdS m sp fr 2 va rf rp R) := by
    intro t sp fr va tx R op hl ho hva hR hv hx
    subst hva
    have hU : ∀ i, i < 96 + 4 * l + 1 → upd R (96 + 4 * l + 1) (nI op) i = R i := fun i hi => pk_un (by omega)
    obtain ⟨t1, sp1, fr1, tk1, va1, k1, k2, k3⟩ := nt rf rp (RLn_P hR (fun i hi => hU i (by omega)))
    obtain ⟨r, t2, r2, sp2, fr2, tk2, va2, rf2, rp2, P2, j1, j2, j3⟩ := op_all (x1 := tx) rf rp hl ho k1 (by rw [hU _ (by omega)]; exact hx) pk_us
    refine ⟨r, t2, r2, sp2, fr2, tk2, va2, rf2, rp2, P2, OC_P j1 (fun i hi => hU i (by omega)), fun Q q => ?_, fun Q q x4 h4 => ?_⟩
    · have zr : zb r := by
        rcases j1.2 with y | y
        · exact Or.inr y.1
        · exact Or.inl y.1
      unfold wp_X8_readLine_102
      rw [hv]
      refine ⟨fun y => absurd y (nI_pos (by omega)), fun _ => pk_lt op 14 (fun _ => k2 _ ⟨ivp (by omega) (by omega), ?_⟩) (fun y => by omega)⟩
      rw [nI_clamp (by omega)]
      exact j2 (fun r v => zb r ∧ Q r v) ⟨zr, q⟩
    · rw [rG7] at h4
      have e1 : nI (96 + 4 * l) + 1 = nI (96 + 4 * l + 1) := nI_1 _
      rw [e1]
      refine ⟨ivp (by omega) (by omega), fun u hu => ?_⟩
      rw [nI_clamp (by omega), rG8, rS1, h4] at hu
      rw [hu, h4]
      exact k3 _ (j3 Q q)
  have er1 : (∀ Q : Int32 → S8 → Prop, wp_X8_wrong t 1 (fun r v => zb r ∧ Q r v) → wp_X8_readLine t Q) → (∀ Q : Int32 → S11 → Prop, wp_X11_errs (rdS m sp fr tk va rf rp P) 1 (fun r v => Q r v) → wp_X11_readLine (rdS m sp fr tk va rf rp P) (nI l) Q) → ∃ r t2 r2 sp2 fr2 tk2 va2 rf2 rp2 P2, OC m z l P rf rp r t2 r2 sp2 fr2 tk2 va2 rf2 rp2 P2 ∧ (r = 1 → l < 24) ∧ (∀ Q : Int32 → S8 → Prop, Q r t2 → wp_X8_readLine t Q) ∧ ∀ Q : Int32 → S11 → Prop, Q r2 (rdS m sp2 fr2 tk2 va2 rf2 rp2 P2) → wp_X11_readLine (rdS m sp fr tk va rf rp P) (nI l) Q := by
    intro y1 y2
    exact ⟨0, erC t 1, -1, sp, fr, tk, va, 1, fr, P, OC_er h (fun _ _ => rfl), fun y => absurd y (by decide), fun Q q => y1 Q (w_wrong ⟨Or.inl rfl, q⟩), fun Q q => y2 Q (x_errs q)⟩
  -- the reference's head, the three ways
  have s53 : ∀ tx : Nat, tx ≤ 9 → (tx = 0 → tk = 2) → (tx ≠ 0 → va = nI tx) → ∃ r t2 r2 sp2 fr2 tk2 va2 rf2 rp2 P2, OC m z l P rf rp r t2 r2 sp2 fr2 tk2 va2 rf2 rp2 P2 ∧ (r = 1 → l < 24) ∧ (∀ Q : Int32 → S8 → Prop, Q r t2 → wp_X8_readLine_53 Q (nI tx) t) ∧ ∀ Q : Int32 → S11 → Prop, Q r2 (rdS m sp2 fr2 tk2 va2 rf2 rp2 P2) → ∀ y0 : Int32, (y0 = 0 ↔ tx = 0) → wp_X11_readLine_72 Q (nI l) (nI (96 + 4 * l)) y0 (rdS m sp fr tk va rf rp P) := by
    intro tx htx hw hv
    by_cases cl : l = 24
    · refine ⟨0, erC t 3, -1, sp, fr, tk, va, 3, fr, P, OC_er h (fun _ _ => rfl), fun y => absurd y (by decide), fun Q q => ⟨fun y => ?_, fun _ => w_wrong ⟨Or.inl rfl, q⟩⟩, fun Q q y0 _ => ⟨fun _ => x_errs q, fun y => absurd (by rw [cl]; rfl) y⟩⟩
      rw [l24, cl] at y; exact absurd y (by decide)
    have hl2 : l < 24 := by omega
    have hU : ∀ i, i < 96 + 4 * l → upd P (96 + 4 * l) (nI tx) i = P i := fun i hi => pk_un (by omega)
    have hR := RLn_P h (R := upd P (96 + 4 * l) (nI tx)) hU
    -- the reference up to the row's first cell
    have g72 : ∀ (Q : Int32 → S11 → Prop) (y0 : Int32), (y0 = 0 ↔ tx = 0) → ((tx = 0 → wp_X11_readLine_133 Q (nI (96 + 4 * l)) (rdS m sp fr tk va rf rp (upd P (96 + 4 * l) (nI tx)))) ∧ (tx ≠ 0 → wp_X11_reads (rdS m sp fr tk va rf rp (upd P (96 + 4 * l) (nI tx))) (fun v_12 => ((g11_token v_12) = 2 → ((g11_value v_12) < 10 → wp_X11_readLine_133 Q (nI (96 + 4 * l)) v_12) ∧ (¬ (g11_value v_12) < 10 → wp_X11_readLine_127 Q v_12)) ∧ (¬ (g11_token v_12) = 2 → wp_X11_readLine_127 Q v_12)))) → wp_X11_readLine_72 Q (nI l) (nI (96 + 4 * l)) y0 (rdS m sp fr tk va rf rp P) := by
      intro Q y0 hy q
      refine ⟨fun y => absurd ((nI_eq (b := 24) (by omega) (by omega)).mp y) cl, fun _ => ⟨fun c => ⟨ivp (by omega) (by omega), fun u hu => ?_⟩, fun c => ⟨ivp (by omega) (by omega), fun u hu => ?_⟩⟩⟩
      · rw [nI_clamp (by omega), rG8, rS1] at hu
        have e : tx = 0 := hy.mp c
        rw [hu]
        refine ⟨fun _ => ?_, fun y => absurd c y⟩
        have q1 := q.1 e
        rw [e] at q1; exact q1
      · rw [nI_clamp (by omega), rG8, rG7, rS1] at hu
        have e : tx ≠ 0 := fun y => c (hy.mpr y)
        rw [hu]
        refine ⟨fun y => absurd y c, fun _ => ?_⟩
        have q1 := q.2 e
        rw [← hv e] at q1; exact q1
    by_cases ct : tx = 0
    · have ctk := hw ct
      rcases h.2.1 with ⟨_, c2⟩ | ⟨w, w1, c1, c2, c3, c4⟩ | ⟨a, _, _, c2, _⟩ | ⟨_, c2⟩ | ⟨_, c2⟩
      · rw [c2] at ctk; exact absurd ctk (by decide)
      · subst ctk
        obtain ⟨r, t2, r2, sp2, fr2, tk2, va2, rf2, rp2, P2, j1, j2, j3⟩ := rest t sp fr va (nI tx) _ w hl2 w1 c4 hR c3 pk_us
        refine ⟨r, t2, r2, sp2, fr2, tk2, va2, rf2, rp2, P2, OC_P j1 hU, fun _ => hl2, fun Q q => ?_, fun Q q y0 hy => g72 Q y0 hy ⟨fun _ => j3 Q q, fun y => absurd ct y⟩⟩
        unfold wp_X8_readLine_53
        rw [l24]
        exact pk_lt l 24 (fun _ => ⟨fun _ => j2 Q q, fun y => absurd (by rw [ct]; rfl) y⟩) (fun y => by omega)
      · rw [c2] at ctk; exact absurd ctk (by decide)
      · rw [c2] at ctk; exact absurd ctk (by decide)
      · rw [c2] at ctk; exact absurd ctk (by decide)
    · have ctn : ¬ nI tx = 0 := fun y => ct ((nI_eq (b := 0) (by omega) (by omega)).mp y)
      obtain ⟨t1, sp1, fr1, tk1, va1, k1, k2, k3⟩ := nt rf rp hR
      have er2 : (g8_token t1 = 1 → ¬ g8_value t1 < 10) → (tk1 = 2 → ¬ va1 < 10) → ∃ r t2 r2 sp2 fr2 tk2 va2 rf2 rp2 P2, OC m z l P rf rp r t2 r2 sp2 fr2 tk2 va2 rf2 rp2 P2 ∧ (r = 1 → l < 24) ∧ (∀ Q : Int32 → S8 → Prop, Q r t2 → wp_X8_readLine_53 Q (nI tx) t) ∧ ∀ Q : Int32 → S11 → Prop, Q r2 (rdS m sp2 fr2 tk2 va2 rf2 rp2 P2) → ∀ y0 : Int32, (y0 = 0 ↔ tx = 0) → wp_X11_readLine_72 Q (nI l) (nI (96 + 4 * l)) y0 (rdS m sp fr tk va rf rp P) := by
        intro n1 n2
        refine ⟨0, erC t1 1, -1, sp1, fr1, tk1, va1, 1, fr1, _, OC_er k1 hU, fun y => absurd y (by decide), fun Q q => ?_, fun Q q y0 hy => g72 Q y0 hy ⟨fun y => absurd y ct, fun _ => k3 _ ⟨fun c => ⟨fun y => absurd y (n2 c), fun _ => x_errs q⟩, fun _ => x_errs q⟩⟩⟩
        unfold wp_X8_readLine_53
        rw [l24]
        exact pk_lt l 24 (fun _ => ⟨fun y => absurd y ctn, fun _ => k2 _ ⟨fun c => ⟨fun y => absurd y (n1 c), fun _ => w_wrong ⟨Or.inl rfl, q⟩⟩, fun _ => w_wrong ⟨Or.inl rfl, q⟩⟩⟩) (fun y => by omega)
      rcases k1.2.1 with ⟨c1, c2⟩ | ⟨w, w1, c1, c2, c3, c4⟩ | ⟨a, _, c1, c2, _⟩ | ⟨c1, c2⟩ | ⟨c1, c2⟩
      · exact er2 (fun y => by rw [c1] at y; exact absurd y (by decide)) (fun y => by rw [c2] at y; exact absurd y (by decide))
      · by_cases cw : w < 10
        · subst c2
          obtain ⟨r, t2, r2, sp2, fr2, tk2, va2, rf2, rp2, P2, j1, j2, j3⟩ := rest t1 sp1 fr1 va1 (nI tx) _ w hl2 w1 c4 k1 c3 pk_us
          refine ⟨r, t2, r2, sp2, fr2, tk2, va2, rf2, rp2, P2, OC_P j1 hU, fun _ => hl2, fun Q q => ?_, fun Q q y0 hy => g72 Q y0 hy ⟨fun y => absurd y ct, fun _ => k3 _ ⟨fun _ => ⟨fun _ => j3 Q q, fun y => absurd ?_ y⟩, fun y => absurd rG6 y⟩⟩⟩
          · unfold wp_X8_readLine_53
            rw [l24]
            refine pk_lt l 24 (fun _ => ⟨fun y => absurd y ctn, fun _ => k2 _ ⟨fun _ => ⟨fun _ => j2 Q q, fun y => absurd ?_ y⟩, fun y => absurd c1 y⟩⟩) (fun y => by omega)
            rw [c3]; exact nI_lt (b := 10) cw (by omega)
          · rw [rG7, c4]; exact nI_lt (b := 10) cw (by omega)
        · exact er2 (fun _ y => by rw [c3] at y; exact cw ((nI_ltI (b := 10) (by omega) (by omega)).mp y)) (fun _ y => by rw [c4] at y; exact cw ((nI_ltI (b := 10) (by omega) (by omega)).mp y))
      · exact er2 (fun y => by rw [c1] at y; exact absurd y (by decide)) (fun y => by rw [c2] at y; exact absurd y (by decide))
      · exact er2 (fun y => by rw [c1] at y; exact absurd y (by decide)) (fun y => by rw [c2] at y; exact absurd y (by decide))
      · exact er2 (fun y => by rw [c1] at y; exact absurd y (by decide)) (fun y => by rw [c2] at y; exact absurd y (by decide))
  have xl : ∀ Q : Int32 → S11 → Prop, ((tk = 3 → wp_X11_readLine_20 Q (nI l) (nI (96 + 4 * l)) 1 (rdS m sp fr tk va rf rp P)) ∧ (¬ tk = 3 → wp_X11_readLine_20 Q (nI l) (nI (96 + 4 * l)) 0 (rdS m sp fr tk va rf rp P))) → wp_X11_readLine (rdS m sp fr tk va rf rp P) (nI l) Q := by
    intro Q q x2 h2
    rw [h2, eO]; exact q
  rcases h.2.1 with ⟨c1, c2⟩ | ⟨w, w1, c1, c2, c3, c4⟩ | ⟨a, a0, c1, c2, c3, c4⟩ | ⟨c1, c2⟩ | ⟨c1, c2⟩
  · exact absurd c2 h0
  · by_cases cw : 10 ≤ w
    · obtain ⟨r, t2, r2, sp2, fr2, tk2, va2, rf2, rp2, P2, j1, j0, j2, j3⟩ := s53 0 (by omega) (fun _ => c2) (fun y => absurd rfl y)
      refine ⟨r, t2, r2, sp2, fr2, tk2, va2, rf2, rp2, P2, j1, j0, fun Q q => ?_, fun Q q => xl Q ⟨fun y => by rw [c2] at y; exact absurd y (by decide), fun _ => ⟨fun _ => ⟨fun _ => ⟨fun _ => ⟨fun _ => j3 Q q 0 (by decide), fun y => absurd rfl y⟩, fun y => absurd ?_ y⟩, fun y => absurd c2 y⟩, fun y => absurd rfl y⟩⟩⟩
      · refine ⟨fun y => by rw [c1] at y; exact absurd y (by decide), fun _ => ⟨fun _ => ⟨fun _ => j2 Q q, fun y => absurd ?_ y⟩, fun y => absurd c1 y⟩⟩
        rw [c3]; exact nI_le (a := 10) cw (by omega)
      · rw [rG7, c4]; exact nI_le (a := 10) cw (by omega)
    · refine er1 (fun Q q => ⟨fun y => by rw [c1] at y; exact absurd y (by decide), fun _ => ⟨fun _ => ⟨fun y => ?_, fun _ => q⟩, fun y => absurd c1 y⟩⟩) (fun Q q => xl Q ⟨fun y => by rw [c2] at y; exact absurd y (by decide), fun _ => ⟨fun _ => ⟨fun _ => ⟨fun y => ?_, fun _ => q⟩, fun y => absurd c2 y⟩, fun y => absurd rfl y⟩⟩)
      · rw [c3] at y; exact absurd ((nI_leI (a := 10) (by omega) (by omega)).mp y) cw
      · rw [rG7, c4] at y; exact absurd ((nI_leI (a := 10) (by omega) (by omega)).mp y) cw
  · rcases num rf rp (lo := 1) (hi := 9) (by omega) (by omega) h with ⟨a2, _, _, _, _, _, a3, a4, a5, _, a6, _, _⟩ | ⟨k, a6, _⟩
    · have ea : a2 = a := (nI_eq (by omega) (by omega)).mp (a5.symm.trans c3)
      subst ea
      obtain ⟨r, t2, r2, sp2, fr2, tk2, va2, rf2, rp2, P2, j1, j0, j2, j3⟩ := s53 a2 (by omega) (fun y => by omega) (fun _ => c4)
      refine ⟨r, t2, r2, sp2, fr2, tk2, va2, rf2, rp2, P2, j1, j0, fun Q q => ⟨fun _ => a6 _ ⟨fun y => absurd y (by decide), fun _ x hx => ?_⟩, fun y => absurd c1 y⟩, fun Q q => xl Q ⟨fun _ => ⟨fun y => absurd y (by decide), fun _ => ⟨fun y => absurd y (by decide), fun _ => x_isIn1 (lo := 1) (hi := 9) (a := a2) (rG7.trans c4) (by omega) (by omega) a3 a4 ⟨fun y => absurd y (by decide), fun _ => j3 Q q 1 ⟨fun y => absurd y (by decide), fun y => by omega⟩⟩⟩⟩, fun y => absurd c2 y⟩⟩
      rw [hx, a5]; exact j2 Q q
    · by_cases ca : 1 ≤ a ∧ a ≤ 9
      · exfalso
        have w1 := a6 (fun r _ => r = 0) rfl
        have w2 := w1.1 c1
        rw [c3] at w2
        have w3 := (w2.2 (fun y => by have := (nI_ltI (b := 1) (by omega) (by omega)).mp y; omega)).1 (nI_le (b := 9) ca.2 (by omega))
        exact absurd (show (1 : Int32) = 0 from w3) (by decide)
      · refine ⟨0, erC t 2, -1, sp, fr, tk, va, 2, fr, P, OC_er h (fun _ _ => rfl), fun y => absurd y (by decide), fun Q q => ⟨fun _ => ⟨fun _ => ?_, fun y => absurd c1 y⟩, fun y => absurd c1 y⟩, fun Q q => xl Q ⟨fun _ => ⟨fun y => absurd y (by decide), fun _ => ⟨fun y => absurd y (by decide), fun _ => x_isIn0 ?_ ⟨fun _ => x_errs q, fun y => absurd rfl y⟩⟩⟩, fun y => absurd c2 y⟩⟩
        · rw [c3]
          have er : wp_X8_numberWithin_30 (fun r_10 v_11 => (r_10 = 0 → Q 0 v_11) ∧ (¬ r_10 = 0 → ∀ x1_12 : Int32, x1_12 = (g8_value v_11) → (wp_X8_readLine_53 Q x1_12 v_11))) t := w_wrong ⟨fun _ => ⟨fun _ => q, fun y => absurd rfl y⟩, fun y => absurd rfl y⟩
          exact pk_lt a 1 (fun _ => er) (fun _ => pk_le a 9 (fun y => by omega) (fun _ => er))
        · rw [rG7, c4]
          rcases Nat.lt_or_ge a 1 with y | y
          · exact Or.inl (nI_lt (b := 1) y (by omega))
          · exact Or.inr (nI_lt (a := 9) (by omega) (by omega))
  · exact er1 (fun Q q => ⟨fun y => by rw [c1] at y; exact absurd y (by decide), fun _ => ⟨fun y => by rw [c1] at y; exact absurd y (by decide), fun _ => q⟩⟩) (fun Q q => xl Q ⟨fun y => by rw [c2] at y; exact absurd y (by decide), fun _ => ⟨fun _ => ⟨fun y => by rw [rG6, c2] at y; exact absurd y (by decide), fun _ => q⟩, fun y => absurd rfl y⟩⟩)
  · exact er1 (fun Q q => ⟨fun y => by rw [c1] at y; exact absurd y (by decide), fun _ => ⟨fun y => by rw [c1] at y; exact absurd y (by decide), fun _ => q⟩⟩) (fun Q q => xl Q ⟨fun y => by rw [c2] at y; exact absurd y (by decide), fun _ => ⟨fun _ => ⟨fun y => by rw [rG6, c2] at y; exact absurd y (by decide), fun _ => q⟩, fun y => absurd rfl y⟩⟩)
end
