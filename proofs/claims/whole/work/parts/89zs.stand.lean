/-! ===== stand, asOf ===== -/
section
variable {m : S11} {F c tau : Nat → Nat} {G : Nat → Int32} {R : S5} {T I L n : Nat → Int32} {b : Nat → Nat} {e f k : Nat} {J : S2} {S : S7} {u : S10}
theorem w_takes (hJ : isJ J b e f) (hL : LogOK b e k) {a j0 : Nat} (hj0 : j0 ≤ k) (hd0 : g7_done S = nI (wlk b j0)) {Q : Int32 → S1 → Prop} (q : ∀ R2, HT R2 b j0 → vp_in (nI a) 256 ∧ wp_X1_rolledBack R2 J (nI a) ((g7_row S) (nI a).toNatClampNeg) (fun r_1 v_2 => Q r_1 v_2)) : ∀ d j (R : S5), j + d = j0 → HT R b j → wp_X1_takenOver_11 J S Q (d + 1) (nI a) (nI (wlk b j)) R := by
  have hke := hL.1.1
  have hE := hJ.2.2.1
  have hlk := wlk_mono (b := b) hj0
  intro d
  induction d with
  | zero =>
    intro j R hd h
    have hd : j = j0 := hd
    subst hd
    refine ⟨fun _ => q R h, fun y => absurd ?_ y⟩
    rw [hd0]; exact nI_le (Nat.le_refl _) (by omega)
  | succ d ih =>
    intro j R hd h
    have hlt := wlk_lt (b := b) (show j < j0 by omega)
    refine ⟨fun y => ?_, fun _ => HT_S hJ hL (by omega) h fun R2 h2 u hu => w_bhd hJ hL (by omega) ?_⟩
    · rw [hd0] at y
      have := (nI_leI (by omega) (by omega)).mp y
      omega
    · rw [hu]; exact ih (j + 1) R2 (by omega) h2
theorem x_65 {Q : Int32 → S11 → Prop} {a : Nat} (hn : ∀ i, i < 256 → g11_now m (1404 + i) = nI (tau i)) (q : ∀ T : Nat → Int32, (∀ i, i < 256 → T i = nI (tau i)) → wp_X11_rollsThought (thR m T I L) (g11_now m 12 + 8) (fun v_1 => vp_in (nI a) 256 ∧ (Q ((g11_thoughtRow v_1) (nI a).toNatClampNeg) v_1))) : ∀ d x (T : Nat → Int32), x + d = 256 → (∀ i, i < x → T i = nI (tau i)) → ∃ N, wp_X11_stand_65 Q N (nI a) (nI x) (thR m T I L) := by
  intro d
  induction d with
  | zero =>
    intro x T hd h
    have hd : x = 256 := hd
    subst hd
    refine ⟨1, fun _ => ⟨ivp (k := 12) (by omega) (by omega), ?_⟩, fun y => absurd (by decide) y⟩
    rw [tH1.2.2.2]
    exact q T h
  | succ d ih =>
    intro x T hd h
    have e1 : (1404 + nI x : Int32) = nI (1404 + x) := nI_add 1404 x
    obtain ⟨N, hN⟩ := ih (x + 1) (upd T x (nI (tau x))) (by omega) (fun i hi => by
      by_cases c : i = x
      · rw [c, pk_us]
      · rw [pk_un c]; exact h i (by omega))
    refine ⟨N + 1, pk_le 256 x (fun y => by omega) (fun _ => ?_)⟩
    rw [e1, tH1.1, tH1.2.2.2, tH2, nI_clamp (by omega), nI_clamp (by omega), hn x (by omega)]
    refine ⟨ivp (by omega) (by omega), ivp (by omega) (by omega), fun u1 hu1 x2 hx2 => ?_⟩
    rw [hu1, hx2, nI_1]; exact hN
theorem o_stand (h : SW (g10_now u) (g11_now m)) (x1 x2 : Int32) {K : Int32 → S10 → Int32 → S11 → Prop} (q : ∀ r R2 v2, Fl2 v2 m → g11_now v2 = g11_now m → K r (s10_hindsight u R2) r v2) : wp_X10_stand u x1 x2 (fun r u2 => wp_X11_stand m x1 x2 (fun r2 v2 => K r u2 r2 v2)) := by
  have fT := Fl2_told (m := m)
  have hn := told_n (m := m)
  have hd : ∀ K2 : Int32 → S11 → Prop, (wp_X11_isIn (s11_told m 0) x1 0 255 (fun r_5 => (r_5 = 0 → K2 (-1) (s11_told m 0)) ∧ (¬ r_5 = 0 → wp_X11_isIn (s11_told m 0) x2 0 2 (fun r_6 => (r_6 = 0 → K2 (-1) (s11_told m 0)) ∧ (¬ r_6 = 0 → (x2 = 0 → vp_in (1404 + x1) 10700 ∧ (K2 ((g11_now (s11_told m 0)) (1404 + x1).toNatClampNeg) (s11_told m 0))) ∧ (¬ x2 = 0 → (x2 = 2 → vp_in (1660 + (x1 / 16)) 10700 ∧ (K2 ((g11_now (s11_told m 0)) (1660 + (x1 / 16)).toNatClampNeg) (s11_told m 0))) ∧ (¬ x2 = 2 → ∃ n_7, wp_X11_stand_65 K2 n_7 x1 0 (s11_told m 0)))))))) → wp_X11_stand m x1 x2 K2 := by
    intro K2 kk v hv
    rw [hv]; exact kk
  generalize s11_told m 0 = m0 at fT hn hd
  rw [hn] at hd
  have ref : ∀ r, K r u r m0 := fun r => q r (g10_hindsight u) m0 fT hn
  obtain ⟨F, G, b, e, f, k, hC, hR, hI⟩ := h
  obtain ⟨ib, iy, iF, iL, i5, i6, i7, ⟨j0, hj0, hw0⟩, i9, i10⟩ := hI.1
  have cS := hC.2.2.2.2.1
  rcases rng x1 (lo := 0) (hi := 255) (by omega) (by omega) with z | z | ⟨a, a1, a2, a3, a4, a5⟩
  · exact ⟨fun _ => hd _ (x_isIn0 (Or.inl z) ⟨fun _ => ref _, fun y => absurd rfl y⟩), fun y => absurd z y⟩
  · have z2 : ¬ x1 < 256 := fun y => by
      have := Int32.lt_iff_toInt_lt.mp y
      have := Int32.lt_iff_toInt_lt.mp z.2
      have e1 : (256 : Int32).toInt = 256 := by decide
      have e2 : (nI 255).toInt = 255 := by decide
      omega
    exact ⟨fun y => absurd y z.1, fun _ => ⟨fun y => absurd y z2, fun _ => hd _ (x_isIn0 (Or.inr z.2) ⟨fun _ => ref _, fun y => absurd rfl y⟩)⟩⟩
  · subst a3
    have hin : ∀ {Q : Int32 → Prop}, Q 1 → wp_X11_isIn m0 (nI a) 0 255 Q := fun {Q} q => x_isIn1 (lo := 0) (hi := 255) rfl (by omega) (by omega) a1 a2 q
    refine ⟨fun y => absurd y a4, fun _ => pk_lt a 256 (fun _ => ?_) (fun y => by omega)⟩
    by_cases c0 : x2 = nI 0
    · subst c0
      refine ⟨fun _ => ⟨ivp (by omega) (by omega), hd _ (hin ⟨fun y => absurd y (by decide), fun _ => x_isIn1 (lo := 0) (hi := 2) (a := 0) rfl (by omega) (by omega) (by omega) (by omega) ⟨fun y => absurd y (by decide), fun _ => ⟨fun _ => ?_, fun y => absurd rfl y⟩⟩⟩)⟩, fun y => absurd rfl y⟩
      have e1 : (1404 + nI a : Int32) = nI (1404 + a) := nI_add 1404 a
      rw [e1]
      refine ⟨ivp (by omega) (by omega), ?_⟩
      rw [nI_clamp (by omega), nI_clamp (by omega), cS.1 a (by omega), hR.2.1 (1404 + a) (by unfold nk; omega)]
      exact ref _
    by_cases c1 : x2 = nI 1
    · subst c1
      have tb : ∀ x, (fun x => if x < 256 then F (1404 + x) else 0) x < 256 := fun x => by
        show (if x < 256 then F (1404 + x) else 0) < 256
        split
        · exact iy.2.2.2 (1404 + x) (by omega) (by omega)
        · omega
      have ea : (fun x => if x < 256 then F (1404 + x) else 0) a = F (1404 + a) := if_pos (by omega)
      have hM : isM (g11_now m0) b e f := by rw [hn]; exact hR.1
      refine ⟨fun y => absurd y (by decide), fun _ => ⟨fun _ => HT_0 (b := b) fun R1 hR1 u1 hu1 => ⟨j0 + 1, w_takes (a := a) hC.1 iL hj0 (cS.2.2.2.trans (by rw [hw0])) (fun R2 hR2 => ⟨ivp (by omega) (by omega), ?_⟩) j0 0 u1 (by omega) (by rw [hu1]; exact hR1)⟩, fun y => absurd rfl y⟩⟩
      obtain ⟨z, z1, z2⟩ := hind (m := m0) (a := a) (tau := fun x => if x < 256 then F (1404 + x) else 0) hC.1 hM iL (by omega) hj0 hR2 tb
      rw [nI_clamp (by omega), cS.1 a (by omega), ← ea]
      refine z1 _ fun R3 u3 hu3 => hd _ (hin ⟨fun y => absurd y (by decide), fun _ => x_isIn1 (lo := 0) (hi := 2) (a := 1) rfl (by omega) (by omega) (by omega) (by omega) ⟨fun y => absurd y (by decide), fun _ => ⟨fun y => absurd y (by decide), fun _ => ⟨fun y => absurd y (by decide), fun _ => ?_⟩⟩⟩⟩)
      rw [hu3]
      have x := x_65 (m := m0) (tau := fun x => if x < 256 then F (1404 + x) else 0) (I := g11_isThere m0) (L := g11_latest m0) (a := a) (Q := fun r2 v2 => K (nI z) (s10_hindsight u R3) r2 v2) (fun i hi => by
        rw [hn, hR.2.1 (1404 + i) (by unfold nk; omega)]
        show nI (F (1404 + i)) = nI (if i < 256 then F (1404 + i) else 0)
        rw [if_pos hi]) (fun T hT => ?_) 256 0 (g11_thoughtRow m0) (by omega) (fun i hi => by omega)
      · rw [← tH6] at x; exact x
      · have e8 : g11_now m0 12 + 8 = nI (wlk b j0) := by
          rw [hn, hR.2.1 12 (by unfold nk; omega), hw0]; exact nI_add (F 12) 8
        rw [e8]
        refine z2 T _ _ hT _ fun T2 I2 L2 h2 => ⟨ivp (by omega) (by omega), ?_⟩
        rw [tH1.1, nI_clamp (by omega), h2]
        exact q _ R3 _ (Fl2_t tH5 fT) (by rw [tH1.2.2.2]; exact hn)
    by_cases c2 : x2 = nI 2
    · subst c2
      refine ⟨fun y => absurd y (by decide), fun _ => ⟨fun y => absurd y (by decide), fun _ => ⟨fun _ => ?_, fun y => absurd rfl y⟩⟩⟩
      have e16 : (nI a / 16 : Int32) = nI (a / 16) := pk_div (d := 16) (by omega) (by decide) (by decide)
      rw [e16]
      refine ⟨ivp (by omega) (by omega), hd _ (hin ⟨fun y => absurd y (by decide), fun _ => x_isIn1 (lo := 0) (hi := 2) (a := 2) rfl (by omega) (by omega) (by omega) (by omega) ⟨fun y => absurd y (by decide), fun _ => ⟨fun y => absurd y (by decide), fun _ => ⟨fun _ => ?_, fun y => absurd rfl y⟩⟩⟩⟩)⟩
      rw [e16]
      have e1 : (1660 + nI (a / 16) : Int32) = nI (1660 + a / 16) := nI_add 1660 (a / 16)
      rw [e1]
      refine ⟨ivp (by omega) (by omega), ?_⟩
      rw [nI_clamp (by omega), nI_clamp (by omega), cS.2.1 (a / 16) (by omega), hR.2.1 (1660 + a / 16) (by unfold nk; omega)]
      exact ref _
    · refine ⟨fun y => absurd y c0, fun _ => ⟨fun y => absurd y c1, fun _ => ⟨fun y => absurd y c2, fun _ => hd _ (hin ⟨fun y => absurd y (by decide), fun _ => x_isIn0 ?_ ⟨fun _ => ref _, fun y => absurd rfl y⟩⟩)⟩⟩⟩
      rcases rng x2 (lo := 0) (hi := 2) (by omega) (by omega) with z | z | ⟨a', b1, b2, b3, b4, b5⟩
      · exact Or.inl z
      · exact Or.inr z.2
      · exfalso
        have : a' = 0 ∨ a' = 1 ∨ a' = 2 := by omega
        rcases this with rfl | rfl | rfl
        · exact c0 b3
        · exact c1 b3
        · exact c2 b3
end
