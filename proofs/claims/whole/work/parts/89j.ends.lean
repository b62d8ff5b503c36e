/-! ===== recovery: counters, leave to write, one end ===== -/
section
variable {m : S11} {n : Nat → Int32} {pn : Int32} {F F2 : Nat → Nat} {G G2 : Nat → Int32} {b b2 : Nat → Nat} {e f k e2 f2 c cp en : Nat} {w : S9} {P : S3} {C : S0} {R : S5} {J : S2} {U : Nat → Nat} {r : S4} {x2 : Int32}
def e4 (r : S4) (cp en : Nat) : S4 := s4_ended (s4_compensated (s4_written r (nI (cp + en))) (g4_compensated r + nI cp)) (g4_ended r + nI en)
def eM (m : S11) (c cp en : Nat) : S11 := s11_ended (s11_compensated (s11_recovered m (nI c)) (g11_compensated m + nI cp)) (g11_ended m + nI en)
theorem e4_end : s4_ended (s4_written (e4 r cp en) (g4_written (e4 r cp en) + 1)) (g4_ended (e4 r cp en) + 1) = e4 r cp (en + 1) := by
  have a1 : nI (cp + en) + 1 = nI (cp + (en + 1)) := nI_1 _
  have a2 : g4_ended r + nI en + 1 = g4_ended r + nI (en + 1) := by rw [Int32.add_assoc, nI_1]
  unfold e4
  rw [← a1, ← a2]
theorem e4_cmp : s4_compensated (s4_written (e4 r cp en) (g4_written (e4 r cp en) + 1)) (g4_compensated (e4 r cp en) + 1) = e4 r (cp + 1) en := by
  have a1 : nI (cp + en) + 1 = nI (cp + 1 + en) := by rw [nI_1]; congr 1; omega
  have a2 : g4_compensated r + nI cp + 1 = g4_compensated r + nI (cp + 1) := by rw [Int32.add_assoc, nI_1]
  unfold e4
  rw [← a1, ← a2]
theorem eM_end : s11_ended (mS (eM m c cp en) n pn) (g11_ended (eM m c cp en) + 1) = mS (eM m c cp (en + 1)) n pn := by
  have a2 : g11_ended m + nI en + 1 = g11_ended m + nI (en + 1) := by rw [Int32.add_assoc, nI_1]
  unfold eM
  rw [← a2]
theorem eM_cmp : s11_compensated (mS (eM m c cp en) n pn) (g11_compensated (eM m c cp en) + 1) = mS (eM m c (cp + 1) en) n pn := by
  have a2 : g11_compensated m + nI cp + 1 = g11_compensated m + nI (cp + 1) := by rw [Int32.add_assoc, nI_1]
  unfold eM
  rw [← a2]
/-- how many may be written -/
def LimOK (x2 : Int32) (c : Nat) : Prop := c < 100000 ∧ (x2 = -1 ∨ ∃ L, L ≤ 99 ∧ x2 = nI L ∧ c ≤ L)
theorem Lim_0 : (-1 : Int32) ≠ nI c ∨ 2 ^ 31 ≤ c := by
  by_cases h : 2 ^ 31 ≤ c
  · exact Or.inr h
  · refine Or.inl fun z => ?_
    have : (0 : Int32) ≤ nI c := nI_pos' (by omega)
    rw [← z] at this
    exact absurd this (by decide)
theorem Lim_S (h : LimOK x2 c) (hn : x2 ≠ nI c) (hc : c + 1 < 100000) : LimOK x2 (c + 1) := by
  refine ⟨hc, ?_⟩
  rcases h.2 with z | ⟨L, h1, h2, h3⟩
  · exact Or.inl z
  · refine Or.inr ⟨L, h1, h2, ?_⟩
    by_cases d : c = L
    · subst d; exact absurd h2 hn
    · omega
theorem x_can (hm : g11_mayWrite m = x2) (hl : LimOK x2 c) {Q : Int32 → S11 → Prop} (q0 : x2 = nI c → wp_X11_crashes (mS (eM m c cp en) n pn) 0 (fun v => Q 0 v)) (q1 : x2 ≠ nI c → Q 1 (mS (eM m (c + 1) cp en) n pn)) : wp_X11_canWrite (mS (eM m c cp en) n pn) Q := by
  have g : x2 ≠ nI c → wp_X11_canWrite_19 Q (mS (eM m c cp en) n pn) := fun hn v hv => by
    have e1 : v = mS (eM m (c + 1) cp en) n pn := by
      have a1 : nI c + 1 = nI (c + 1) := nI_1 _
      rw [hv]
      unfold eM
      rw [← a1]
    rw [e1]; exact q1 hn
  have e1 : g11_mayWrite (mS (eM m c cp en) n pn) = x2 := hm
  have e2 : g11_recovered (mS (eM m c cp en) n pn) = nI c := rfl
  have hc := hl.1
  unfold wp_X11_canWrite
  rw [e1, e2]
  rcases hl.2 with z | ⟨L, h1, h2, h3⟩
  · refine ⟨fun _ => g ?_, fun y => absurd z y⟩
    rw [z]; exact Lim_0.resolve_right (by omega)
  · refine ⟨fun y => ?_, fun _ => ?_⟩
    · rw [h2] at y
      exact absurd y.symm (Lim_0.resolve_right (by omega))
    · rw [h2]
      refine pk_le L c (fun y => q0 ?_) (fun y => g ?_)
      · rw [h2]; congr 1; omega
      · rw [h2]; intro y2; have := (nI_eq (by omega) (by omega)).mp y2; omega
theorem goneG_0 (hG : ∀ j, 882 ≤ j → j < 1404 → j ≠ 1394 → G j = 0) {t : Nat} (h1 : 1 ≤ t) (h9 : t ≤ 9) : goneG G t = G := by
  funext j
  unfold goneG
  by_cases c1 : j = 1394 + t
  · rw [if_pos c1]; exact (hG j (by omega) (by omega) (by omega)).symm
  · rw [if_neg c1]
    by_cases c2 : 882 ≤ j ∧ j < 1404 ∧ j ≠ 1394
    · rw [if_pos c2, hG j c2.1 c2.2.1 c2.2.2]; exact Int32.zero_and
    · rw [if_neg c2]
theorem w_endOne (hC : CW w F G b e e) (hb : ∀ i, F i < 65536) (he : e + 6 ≤ 8600) (hG : ∀ j, 882 ≤ j → j < 1404 → j ≠ 1394 → G j = 0) {t : Nat} (h1 : 1 ≤ t) (h9 : t ≤ 9) {Q : S4 → S9 → Prop} (q : ∀ w2, CW w2 (goneF F t) G (appB b e (plainR 7 t (F (703 + 18 * t)))) (e + 6) (e + 6) → g9_script w2 = g9_script w → Q (e4 r cp (en + 1)) w2) : wp_X4_endOne (e4 r cp en) w (nI t) Q := by
  refine w_endOf hC.1 hC.2.2.1 hC.2.2.2.1 hb he h1 h9 fun J2 R2 C2 hJ2 hR2 hC2 => w_flushAll hJ2 fun J3 hJ3 w3 hw3 r1 hr1 r2 hr2 => ?_
  rw [goneG_0 hG h1 h9] at hC2
  have hr : r2 = e4 r cp (en + 1) := by rw [hr2, hr1]; exact e4_end
  rw [hr]
  refine q w3 ?_ (by rw [hw3])
  rw [hw3]
  exact CW_mk hC (goneF_txo h1 h9) (fun _ _ => rfl) hJ3 hR2 hC2
theorem x_ends (hR : isR n F G b e e) (hm : g11_mayWrite m = x2) (hl : LimOK x2 (cp + en)) (hb : ∀ i, F i < 65536) (he : e + 6 ≤ 8600) (hG : ∀ j, 882 ≤ j → j < 1404 → j ≠ 1394 → G j = 0) {t : Nat} (h1 : 1 ≤ t) (h9 : t ≤ 9) {Q : Int32 → S11 → Prop} (q0 : ∀ n2, x2 = nI (cp + en) → isR n2 (crF F) (crG G) (trB b e) e e → Q 0 (mS (eM m (cp + en) cp en) n2 pn)) (q1 : ∀ n2 p2, x2 ≠ nI (cp + en) → isR n2 (goneF F t) G (appB b e (plainR 7 t (F (703 + 18 * t)))) (e + 6) (e + 6) → Q 1 (mS (eM m (cp + (en + 1)) cp (en + 1)) n2 p2)) : wp_X11_ends (mS (eM m (cp + en) cp en) n pn) (nI t) Q := by
  refine x_can hm hl (fun hz => ?_) (fun hn => ⟨fun z => absurd z (by decide), fun _ => ?_⟩)
  · refine x_crashes hR (Nat.le_refl _) (mm := 0) (by omega) fun n2 r2 => ⟨fun _ => q0 n2 hz ?_, fun z => absurd rfl z⟩
    rw [Nat.add_zero, Nat.min_self] at r2; exact r2
  · refine x_laysPlain (kd := 7) hR hb he (by omega) h9 fun n2 p2 r2 => x_flushesAll r2 (by omega) fun n3 r3 => x_isGone r3 h1 h9 fun n4 r4 v hv => ?_
    rw [prv_t h1, gone_last h1, goneG_0 hG h1 h9] at r4
    have e1 : v = mS (eM m (cp + en + 1) cp (en + 1)) n4 p2 := by rw [hv]; exact eM_end
    rw [e1]
    exact q1 n4 p2 hn r4
end
