/-! ===== recovery: the lost pages ===== -/
section
variable {m : S11} {n : Nat → Int32} {pn : Int32} {F F2 : Nat → Nat} {G G2 : Nat → Int32} {b b2 : Nat → Nat} {e f k e2 f2 : Nat} {w : S9} {P : S3} {C : S0} {R : S5} {J : S2} {U : Nat → Nat}
def rsA (b : Nat → Nat) (k : Nat) : Nat → Nat → (Nat → Nat) → (Nat → Int32) → (Nat → Nat) × (Nat → Int32)
  | 0, _, F, G => (F, G)
  | N + 1, p, F, G => if ((G 10 >>> (nI p &&& 31)) &&& 1) = 1 then rsA b k N (p + 1) (resF b k p F) (resG G p) else rsA b k N (p + 1) F G
theorem resG_o {p j : Nat} (h : j ≠ 10) : resG G p j = G j := by unfold resG; exact pk_un h
theorem rsA_ok (h5 : ∀ i, b i < 256) (hk : wlk b k < 65536) : ∀ N p F G, N + p = 16 → (∀ i, F i < 65536) → byA F → (∀ i, (rsA b k N p F G).1 i < 65536) ∧ byA (rsA b k N p F G).1 ∧ (∀ i, i < 16 ∨ 288 ≤ i → (rsA b k N p F G).1 i = F i) ∧ ∀ i, i ≠ 10 → (rsA b k N p F G).2 i = G i := by
  intro N
  induction N with
  | zero => intro p F G _ hb hy; exact ⟨hb, hy, fun _ _ => rfl, fun _ _ => rfl⟩
  | succ N ih =>
    intro p F G hp hb hy
    unfold rsA
    split
    · obtain ⟨r1, r2, r3⟩ := resF_ok (p := p) (by omega) h5 hk hb hy
      obtain ⟨q1, q2, q3, q4⟩ := ih (p + 1) (resF b k p F) (resG G p) (by omega) r1 r2
      exact ⟨q1, q2, fun i hi => by rw [q3 i hi, r3 i hi], fun i hi => by rw [q4 i hi, resG_o hi]⟩
    · exact ih (p + 1) F G (by omega) hb hy
theorem w_rsA (hL : LogOK b e k) {x2 : Int32} {u0 : S4} {Q : Int32 → S4 → S9 → Prop} : ∀ N p w F G, N + p = 16 → CW w F G b e e → (∀ i, F i < 65536) → byA F → (∀ w2, CW w2 (rsA b k N p F G).1 (rsA b k N p F G).2 b e e → g9_script w2 = g9_script w → wp_X4_attempt_12 Q 1 x2 (nI 16) u0 w2) → wp_X4_attempt_12 Q (N + 1) x2 (nI p) u0 w := by
  intro N
  induction N with
  | zero =>
    intro p w F G hp hC _ _ q
    obtain rfl : p = 16 := by omega
    exact q w hC rfl
  | succ N ih =>
    intro p w F G hp hC hb hy q
    have h5 := hC.1.2.2.2.2.1
    have hE := hC.1.2.2.1
    have hk : wlk b k < 65536 := by have := hL.1.1; omega
    unfold rsA at q
    refine pk_le 16 p (fun z => by omega) (fun _ => w_isLost hC.2.1 (fun hl => ⟨fun z => absurd z (by decide), fun _ => ?_⟩) (fun hl => ⟨fun _ => ?_, fun z => absurd rfl z⟩))
    · unfold lostP at hl
      rw [if_pos hl] at q
      obtain ⟨r1, r2, r3⟩ := resF_ok (p := p) (by omega) h5 hk hb hy
      refine w_restore hC.1 hL hb hy (by omega) hC.2.1 fun P2 J2 hP2 hJ2 w1 hw1 y hy' => ?_
      rw [hy', nI_1, hw1]
      exact ih (p + 1) _ _ _ (by omega) (CW_disk hC (fun j hj => r3 j (by omega)) (fun j hj => resG_o hj) hP2 hJ2) r1 r2 q
    · unfold lostP at hl
      rw [if_neg hl] at q
      intro y hy'
      rw [hy', nI_1]
      exact ih (p + 1) w F G (by omega) hC hb hy q
theorem x_rsA (hL : LogOK b e k) {Q : S11 → Prop} : ∀ N p n F G, N + p = 16 → isR n F G b e e → (∀ i, F i < 65536) → byA F → (∀ n2, isR n2 (rsA b k N p F G).1 (rsA b k N p F G).2 b e e → wp_X11_recovers_20 Q 1 (nI 16) (mS m n2 pn)) → wp_X11_recovers_20 Q (N + 1) (nI p) (mS m n pn) := by
  intro N
  induction N with
  | zero =>
    intro p n F G hp hR _ _ q
    obtain rfl : p = 16 := by omega
    exact q n hR
  | succ N ih =>
    intro p n F G hp hR hb hy q
    have h5 := hR.1.2.2.2.2.2.2.2.1
    have hE := hR.1.2.2.2.2.1
    have hk : wlk b k < 65536 := by have := hL.1.1; omega
    unfold rsA at q
    refine pk_le 16 p (fun z => by omega) (fun _ => x_isLostPage hR (fun hl => ⟨fun z => absurd z (by decide), fun _ => ?_⟩) (fun hl => ⟨fun _ => ?_, fun z => absurd rfl z⟩))
    · unfold lostP at hl
      rw [if_pos hl] at q
      obtain ⟨r1, r2, r3⟩ := resF_ok (p := p) (by omega) h5 hk hb hy
      refine x_restores hR hL (Nat.le_refl _) hb hy (by omega) fun n2 r2' y hy' => ?_
      rw [hy', nI_1]
      exact ih (p + 1) _ _ _ (by omega) r2' r1 r2 q
    · unfold lostP at hl
      rw [if_neg hl] at q
      intro y hy'
      rw [hy', nI_1]
      exact ih (p + 1) n F G (by omega) hR hb hy q
end
