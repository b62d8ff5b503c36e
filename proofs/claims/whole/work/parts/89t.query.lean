/-! ===== calls of the store: record, costs ===== -/
section
variable {m : S11} {n : Nat → Int32} {pn : Int32} {F F2 : Nat → Nat} {G G2 : Nat → Int32} {b b2 : Nat → Nat} {e f k e2 f2 c cp en : Nat} {w : S9} {P : S3} {C : S0} {R : S5} {J : S2} {U : Nat → Nat} {r : S4} {x2 : Int32} {u : S10}
theorem o_record (h : SW (g10_now u) n) (x1 x2 : Int32) {K : Int32 → Int32 → S11 → Prop} (q : ∀ r, K r r (mS (s11_told m 0) n pn)) : wp_X10_record u x1 x2 (fun r => wp_X11_record (mS m n pn) x1 x2 (fun r2 v2 => K r r2 v2)) := by
  obtain ⟨F, G, b, e, f, k, hC, hR, hI⟩ := h
  have iL := hI.1.2.2.2.1
  have cJ := hC.1
  have h5 := cJ.2.2.2.2.1
  have hE := cJ.2.2.1
  have hM : isM (g11_now (mS (s11_told m 0) n pn)) b e f := hR.1
  have hfe := hI.1.2.2.2.2.1.2
  -- not one of 0 .. 6
  have xo : (x2 < nI 0 ∨ nI 6 < x2) → wp_X11_record (mS m n pn) x1 x2 (fun r2 v2 => K (-1) r2 v2) := fun hz v hv => by
    rw [hv]; exact x_isIn0 (hz) ⟨fun _ => q _, fun y => absurd rfl y⟩
  have xi : ∀ a, a ≤ 6 → x2 = nI a → ∀ {K2 : Int32 → S11 → Prop}, wp_X11_isRecord (mS (s11_told m 0) n pn) x1 (fun r_4 => (r_4 = 0 → K2 (-1) (mS (s11_told m 0) n pn)) ∧ (¬ r_4 = 0 → (3 ≤ x2 → (x2 = 3 → wp_X11_two (mS (s11_told m 0) n pn) (x1 + 3) (fun r_11 => K2 r_11 (mS (s11_told m 0) n pn))) ∧ (¬ x2 = 3 → (x2 = 4 → wp_X11_logByte (mS (s11_told m 0) n pn) x1 (fun r_9 => (r_9 = 4 → wp_X11_record_76 K2 x1 (mS (s11_told m 0) n pn)) ∧ (¬ r_9 = 4 → wp_X11_logByte (mS (s11_told m 0) n pn) x1 (fun r_10 => (r_10 = 9 → wp_X11_record_76 K2 x1 (mS (s11_told m 0) n pn)) ∧ (¬ r_10 = 9 → K2 (-1) (mS (s11_told m 0) n pn)))))) ∧ (¬ x2 = 4 → (x2 = 5 → wp_X11_isChange (mS (s11_told m 0) n pn) x1 (fun r_7 => (r_7 = 0 → K2 (-1) (mS (s11_told m 0) n pn)) ∧ (¬ r_7 = 0 → wp_X11_addressIn (mS (s11_told m 0) n pn) x1 (fun r_8 => K2 r_8 (mS (s11_told m 0) n pn))))) ∧ (¬ x2 = 5 → wp_X11_logByte (mS (s11_told m 0) n pn) (x1 + 1) (fun r_5 => wp_X11_flushed (mS (s11_told m 0) n pn) (fun r_6 => (r_6 < (x1 + r_5) → K2 0 (mS (s11_told m 0) n pn)) ∧ (¬ r_6 < (x1 + r_5) → K2 1 (mS (s11_told m 0) n pn)))))))) ∧ (¬ 3 ≤ x2 → wp_X11_logByte (mS (s11_told m 0) n pn) (x1 + x2) (fun r_12 => K2 r_12 (mS (s11_told m 0) n pn))))) → wp_X11_record (mS m n pn) x1 x2 K2 := fun a a1 a2 K2 hk v hv => by
    rw [hv]; exact x_isIn1 (lo := 0) (hi := 6) a2 (by omega) (by omega) (Nat.zero_le _) a1 ⟨fun y => absurd y (by decide), fun _ => hk⟩
  refine w_beginsAt cJ iL (fun j hj hx => ⟨fun y => absurd y (by decide), fun _ => ?_⟩) (fun hn => ⟨fun _ => ?_, fun y => absurd rfl y⟩)
  · subst hx
    obtain ⟨h6, h68, h3, h4, hv⟩ := rec_rd iL hj
    have hlt := wlk_lt (b := b) hj
    have hke := iL.1.1
    have b0 := h5 (wlk b j)
    have xr : ∀ a, a ≤ 6 → x2 = nI a → ∀ {K2 : Int32 → S11 → Prop}, ((a = 0 → K2 (nI (b (wlk b j))) (mS (s11_told m 0) n pn)) ∧ (a = 1 → K2 (nI (b (wlk b j + 1))) (mS (s11_told m 0) n pn)) ∧ (a = 2 → K2 (nI (b (wlk b j + 2))) (mS (s11_told m 0) n pn)) ∧ (a = 3 → K2 (nI (pr2 b (wlk b j + 3))) (mS (s11_told m 0) n pn)) ∧ (a = 4 → K2 (if b (wlk b j) = 4 ∨ b (wlk b j) = 9 then nI (vnx (rv b (wlk b j))) else -1) (mS (s11_told m 0) n pn)) ∧ (a = 5 → K2 (if tch b (wlk b j) = true then nI (b (wlk b j + 5)) else -1) (mS (s11_told m 0) n pn)) ∧ (a = 6 → K2 (if f < wlk b (j + 1) then 0 else 1) (mS (s11_told m 0) n pn))) → wp_X11_record (mS m n pn) (nI (wlk b j)) x2 K2 := by
      intro a a1 a2 K2 hk
      obtain ⟨k0, k1, k2, k3, k4, k5, k6⟩ := hk
      refine xi a a1 a2 (x_isRecord hM iL (fun _ _ _ => ⟨fun y => absurd y (by decide), fun _ => ?_⟩) (fun hn => absurd rfl (hn j hj)))
      have : a = 0 ∨ a = 1 ∨ a = 2 ∨ a = 3 ∨ a = 4 ∨ a = 5 ∨ a = 6 := by omega
      rcases this with rfl | rfl | rfl | rfl | rfl | rfl | rfl
      · subst a2
        exact ⟨fun y => absurd y (by decide), fun _ => x_logByte' (i := wlk b j) hM (nI_add _ 0) (by omega) (k0 rfl)⟩
      · subst a2
        exact ⟨fun y => absurd y (by decide), fun _ => x_logByte' (i := wlk b j + 1) hM (nI_add _ 1) (by omega) (k1 rfl)⟩
      · subst a2
        exact ⟨fun y => absurd y (by decide), fun _ => x_logByte' (i := wlk b j + 2) hM (nI_add _ 2) (by omega) (k2 rfl)⟩
      · subst a2
        exact ⟨fun _ => ⟨fun _ => x_two' (i := wlk b j + 3) hM (nI_add _ 3) (by omega) (k3 rfl), fun y => absurd rfl y⟩, fun y => absurd (by decide) y⟩
      · subst a2
        have k4 := k4 rfl
        refine ⟨fun _ => ⟨fun y => absurd y (by decide), fun _ => ⟨fun _ => x_logByte hM (by omega) (pk_eq (b (wlk b j)) 4 (fun z => x_bh hM iL hj ?_) (fun z => x_logByte hM (by omega) (pk_eq (b (wlk b j)) 9 (fun z9 => x_bh hM iL hj ?_) (fun z9 => ?_)))), fun y => absurd rfl y⟩⟩, fun y => absurd (by decide) y⟩
        · rw [if_pos (Or.inl z)] at k4; exact k4
        · rw [if_pos (Or.inr z9)] at k4; exact k4
        · rw [if_neg (by omega)] at k4; exact k4
      · subst a2
        have k5 := k5 rfl
        refine ⟨fun _ => ⟨fun y => absurd y (by decide), fun _ => ⟨fun y => absurd y (by decide), fun _ => ⟨fun _ => x_isChange hM (by omega) ?_, fun y => absurd rfl y⟩⟩⟩, fun y => absurd (by decide) y⟩
        cases ht : tch b (wlk b j) with
        | true =>
          rw [if_pos ht] at k5
          exact ⟨fun y => absurd y (by decide), fun _ => x_logByte' (i := wlk b j + 5) hM (nI_add _ 5) (by omega) k5⟩
        | false =>
          rw [if_neg (by rw [ht]; simp)] at k5
          exact ⟨fun _ => k5, fun y => absurd rfl y⟩
      · subst a2
        have k6 := k6 rfl
        refine ⟨fun _ => ⟨fun y => absurd y (by decide), fun _ => ⟨fun y => absurd y (by decide), fun _ => ⟨fun y => absurd y (by decide), fun _ => x_len hM iL hj fun x hx => x_flushed hM ?_⟩⟩⟩, fun y => absurd (by decide) y⟩
        rw [hx]
        refine pk_lt f (wlk b (j + 1)) (fun z => ?_) (fun z => ?_)
        · rw [if_pos z] at k6; exact k6
        · rw [if_neg (by omega)] at k6; exact k6
    refine w_byteAt cJ (by omega) ?_
    rcases rng x2 (lo := 0) (hi := 6) (by omega) (by omega) with z | z | ⟨a, a1, a2, a3, a4, a5⟩
    · have g : ∀ i, x2 = nI i → i < 7 → False := fun i hi h7 => by rw [hi] at z; have := (nI_ltI (by omega) (by omega)).mp z; omega
      exact ⟨fun y => (g 0 y (by omega)).elim, fun _ => ⟨fun y => (g 1 y (by omega)).elim, fun _ => ⟨fun y => (g 2 y (by omega)).elim, fun _ => ⟨fun y => (g 3 y (by omega)).elim, fun _ => ⟨fun y => (g 4 y (by omega)).elim, fun _ => ⟨fun y => (g 5 y (by omega)).elim, fun _ => ⟨fun y => (g 6 y (by omega)).elim, fun _ => xo (Or.inl z)⟩⟩⟩⟩⟩⟩⟩
    · have g : ∀ i, x2 = nI i → i < 7 → False := fun i hi h7 => by rw [hi] at z; have := (nI_ltI (by omega) (by omega)).mp z.2; omega
      exact ⟨fun y => (g 0 y (by omega)).elim, fun _ => ⟨fun y => (g 1 y (by omega)).elim, fun _ => ⟨fun y => (g 2 y (by omega)).elim, fun _ => ⟨fun y => (g 3 y (by omega)).elim, fun _ => ⟨fun y => (g 4 y (by omega)).elim, fun _ => ⟨fun y => (g 5 y (by omega)).elim, fun _ => ⟨fun y => (g 6 y (by omega)).elim, fun _ => xo (Or.inr z.2)⟩⟩⟩⟩⟩⟩⟩
    · have xr := @xr a a2 a3
      have : a = 0 ∨ a = 1 ∨ a = 2 ∨ a = 3 ∨ a = 4 ∨ a = 5 ∨ a = 6 := by omega
      rcases this with rfl | rfl | rfl | rfl | rfl | rfl | rfl
      · subst a3
        exact ⟨fun _ => xr ⟨fun _ => q _, fun z => absurd z (by omega), fun z => absurd z (by omega), fun z => absurd z (by omega), fun z => absurd z (by omega), fun z => absurd z (by omega), fun z => absurd z (by omega)⟩, fun y => absurd rfl y⟩
      · subst a3
        exact ⟨fun y => absurd y (by decide), fun _ => ⟨fun _ => w_byteAt' (i := wlk b j + 1) cJ (nI_add _ 1) (by omega) (xr ⟨fun z => absurd z (by omega), fun _ => q _, fun z => absurd z (by omega), fun z => absurd z (by omega), fun z => absurd z (by omega), fun z => absurd z (by omega), fun z => absurd z (by omega)⟩), fun y => absurd rfl y⟩⟩
      · subst a3
        exact ⟨fun y => absurd y (by decide), fun _ => ⟨fun y => absurd y (by decide), fun _ => ⟨fun _ => w_byteAt' (i := wlk b j + 2) cJ (nI_add _ 2) (by omega) (xr ⟨fun z => absurd z (by omega), fun z => absurd z (by omega), fun _ => q _, fun z => absurd z (by omega), fun z => absurd z (by omega), fun z => absurd z (by omega), fun z => absurd z (by omega)⟩), fun y => absurd rfl y⟩⟩⟩
      · subst a3
        refine ⟨fun y => absurd y (by decide), fun _ => ⟨fun y => absurd y (by decide), fun _ => ⟨fun y => absurd y (by decide), fun _ => ⟨fun _ => ?_, fun y => absurd rfl y⟩⟩⟩⟩
        rw [show nI (wlk b j) + 3 = nI (wlk b j + 3) from nI_add _ 3]
        exact w_pairAt cJ (by omega) (xr ⟨fun z => absurd z (by omega), fun z => absurd z (by omega), fun z => absurd z (by omega), fun _ => q _, fun z => absurd z (by omega), fun z => absurd z (by omega), fun z => absurd z (by omega)⟩)
      · subst a3
        have go := fun (r : Int32) (hr : r = (if b (wlk b j) = 4 ∨ b (wlk b j) = 9 then nI (vnx (rv b (wlk b j))) else -1)) => @xr (fun r2 v2 => K r r2 v2) ⟨fun z => absurd z (by omega), fun z => absurd z (by omega), fun z => absurd z (by omega), fun z => absurd z (by omega), fun _ => by rw [← hr]; exact q r, fun z => absurd z (by omega), fun z => absurd z (by omega)⟩
        refine ⟨fun y => absurd y (by decide), fun _ => ⟨fun y => absurd y (by decide), fun _ => ⟨fun y => absurd y (by decide), fun _ => ⟨fun y => absurd y (by decide), fun _ => ⟨fun _ => pk_eq (b (wlk b j)) 4 (fun z => w_ow cJ iL hj (go _ (by rw [if_pos (Or.inl z)]))) (fun z => pk_eq (b (wlk b j)) 9 (fun z9 => w_ow cJ iL hj (go _ (by rw [if_pos (Or.inr z9)]))) (fun z9 => go _ (by rw [if_neg (by omega)]))), fun y => absurd rfl y⟩⟩⟩⟩⟩
      · subst a3
        have go := fun (r : Int32) (hr : r = (if tch b (wlk b j) = true then nI (b (wlk b j + 5)) else -1)) => @xr (fun r2 v2 => K r r2 v2) ⟨fun z => absurd z (by omega), fun z => absurd z (by omega), fun z => absurd z (by omega), fun z => absurd z (by omega), fun z => absurd z (by omega), fun _ => by rw [← hr]; exact q r, fun z => absurd z (by omega)⟩
        refine ⟨fun y => absurd y (by decide), fun _ => ⟨fun y => absurd y (by decide), fun _ => ⟨fun y => absurd y (by decide), fun _ => ⟨fun y => absurd y (by decide), fun _ => ⟨fun y => absurd y (by decide), fun _ => ⟨fun _ => w_touches cJ (by omega) ?_, fun y => absurd rfl y⟩⟩⟩⟩⟩⟩
        cases ht : tch b (wlk b j) with
        | true => exact ⟨fun y => absurd y (by decide), fun _ => w_addressAt cJ (by omega) (go _ (by rw [if_pos ht]))⟩
        | false => exact ⟨fun _ => go _ (by rw [if_neg (by rw [ht]; simp)]), fun y => absurd rfl y⟩
      · subst a3
        have go := fun (r : Int32) (hr : r = (if f < wlk b (j + 1) then 0 else 1)) => @xr (fun r2 v2 => K r r2 v2) ⟨fun z => absurd z (by omega), fun z => absurd z (by omega), fun z => absurd z (by omega), fun z => absurd z (by omega), fun z => absurd z (by omega), fun z => absurd z (by omega), fun _ => by rw [← hr]; exact q r⟩
        refine ⟨fun y => absurd y (by decide), fun _ => ⟨fun y => absurd y (by decide), fun _ => ⟨fun y => absurd y (by decide), fun _ => ⟨fun y => absurd y (by decide), fun _ => ⟨fun y => absurd y (by decide), fun _ => ⟨fun y => absurd y (by decide), fun _ => ⟨fun _ => w_bhd cJ iL hj ?_, fun y => absurd rfl y⟩⟩⟩⟩⟩⟩⟩
        have ef : g2_flushedPlace (g9_journal (g10_now u)) = nI f := cJ.2.1
        rw [ef]
        exact pk_lt f (wlk b (j + 1)) (fun z => go _ (by rw [if_pos z])) (fun z => go _ (by rw [if_neg (by omega)]))
  · rcases rng x2 (lo := 0) (hi := 6) (by omega) (by omega) with z | z | ⟨a, a1, a2, a3, a4, a5⟩
    · exact xo (Or.inl z)
    · exact xo (Or.inr z.2)
    · exact xi a a2 a3 (x_isRecord hM iL (fun j hj hz => absurd hz (hn j hj)) (fun _ => ⟨fun _ => q _, fun y => absurd rfl y⟩))
/-- what undoing one costs -/
def cst (F b : Nat → Nat) (t : Nat) : Nat := if F (702 + 18 * t) = 1 then ch b (F (703 + 18 * t)) else if F (702 + 18 * t) = 2 then ch b (F (704 + 18 * t)) else 0
theorem tx_ok (hI : IV F G b e f k) {t : Nat} (h1 : 1 ≤ t) (h9 : t ≤ 9) : F (702 + 18 * t) ≤ 2 ∧ (F (702 + 18 * t) ≠ 0 → Sz b k (F (703 + 18 * t)) ∧ St b k (F (703 + 18 * t))) ∧ (F (702 + 18 * t) = 2 → Sz b k (F (704 + 18 * t))) := by
  rcases hI.2 with hU | hD
  · obtain ⟨u1, u2, u3, u4, u5, u6, u7, u8, u9⟩ := hU.2.2 t h1 h9
    refine ⟨u3, fun z => ?_, fun z => (u7 z).1⟩
    rw [u2]
    exact ⟨(rp_Sz k t).1, ((rp_Sz k t).2.2.2 (by rw [← u1]; exact z)).1⟩
  · have := hD.2.2.1 (702 + 18 * t) (by omega) (by omega)
    exact ⟨by omega, fun z => absurd this z, fun z => by omega⟩
theorem w_cost (hC : CW w F G b e f) (hI : IV F G b e f k) {t : Nat} (h1 : 1 ≤ t) (h9 : t ≤ 9) {Q : Int32 → Prop} (q : Q (nI (cst F b t))) : wp_X9_cost w (nI t) Q := by
  obtain ⟨a1, a2, a3⟩ := tx_ok hI h1 h9
  have iL := hI.1.2.2.2.1
  obtain ⟨r1, r2, r3⟩ := hC.2.2.1 t h1 h9
  unfold cst at q
  refine ⟨ivp (by omega) (by omega), ?_⟩
  rw [nI_clamp (by omega), r1, r2, r3]
  refine pk_eq (F (702 + 18 * t)) 1 (fun z => ⟨ivp (by omega) (by omega), w_undoCount hC.1 iL (a2 (by omega)).1 ?_⟩) (fun z => pk_eq (F (702 + 18 * t)) 2 (fun z2 => ⟨ivp (by omega) (by omega), w_undoCount hC.1 iL (a3 z2) ?_⟩) (fun z2 => ?_))
  · rw [if_pos z] at q; exact q
  · rw [if_neg z, if_pos z2] at q; exact q
  · rw [if_neg z, if_neg z2] at q; exact q
theorem x_cost (hR : isR n F G b e f) (hI : IV F G b e f k) {t : Nat} (h1 : 1 ≤ t) (h9 : t ≤ 9) {Q : Int32 → Prop} (q : Q (nI (cst F b t))) : wp_X11_costOf (mS m n pn) (nI t) Q := by
  obtain ⟨a1, a2, a3⟩ := tx_ok hI h1 h9
  have iL := hI.1.2.2.2.1
  unfold cst at q
  refine x_isOf hR h1 h9 (pk_eq (F (702 + 18 * t)) 0 (fun z => ?_) (fun z => x_isOf hR h1 h9 (pk_eq (F (702 + 18 * t)) 2 (fun z2 => ?_) (fun z2 => ?_))))
  · rw [if_neg (by omega), if_neg (by omega)] at q; exact q
  · rw [if_neg (by omega), if_pos z2] at q
    simp only [wp_X11_txAt]
    have e2 : (720 : Int32) + 18 * (nI t - 1) + 2 = nI (704 + 18 * t) := by rw [show (720 : Int32) + 18 * (nI t - 1) + 2 = nI (702 + 18 * t + 2) from txA t h1 2]; congr 1; omega
    rw [e2, nI_clamp (by omega), gmS, hR.2.1 _ (show nk (704 + 18 * t) by unfold nk; omega)]
    exact ⟨ivp (by omega) (by omega), x_uc (m := mS m n pn) hR.1 iL (a3 z2) q⟩
  · rw [if_pos (by omega)] at q
    simp only [wp_X11_txAt]
    have e1 : (720 : Int32) + 18 * (nI t - 1) + 1 = nI (703 + 18 * t) := by rw [show (720 : Int32) + 18 * (nI t - 1) + 1 = nI (702 + 18 * t + 1) from txA t h1 1]; congr 1; omega
    rw [e1, nI_clamp (by omega), gmS, hR.2.1 _ (show nk (703 + 18 * t) by unfold nk; omega)]
    exact ⟨ivp (by omega) (by omega), x_uc (m := mS m n pn) hR.1 iL (a2 z).1 q⟩
end
