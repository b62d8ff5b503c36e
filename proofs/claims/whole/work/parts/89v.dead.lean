/-! ===== who comes to whom: the class; tx, victim ===== -/
section
variable {m : S11} {n : Nat → Int32} {pn : Int32} {F F2 : Nat → Nat} {G G2 : Nat → Int32} {b b2 : Nat → Nat} {e f k e2 f2 c cp en : Nat} {w : S9} {P : S3} {C : S0} {R : S5} {J : S2} {U : Nat → Nat} {r : S4} {x2 : Int32} {u : S10} {W : Nat → Int32} {S S2 T X : Int32}
/-- one turn of the class: in place -/
def cI (W : Nat → Int32) : Nat → Nat → Int32 → Int32
  | 0, _, S => S
  | N + 1, i, S => cI W N (i + 1) (if bt S i then S ||| W i else S)
def cR (W : Nat → Int32) : Nat → Int32 → Int32
  | 0, S => S
  | N + 1, S => cR W N (cI W 9 1 S)
theorem cI_ok : ∀ N i S, (∀ j, bt S j → bt (cI W N i S) j) ∧ (∀ l j, i ≤ l → l < i + N → bt S l → bt (W l) j → bt (cI W N i S) j) ∧ ∀ T : Nat → Prop, (∀ j, bt S j → T j) → (∀ i j, 1 ≤ i → i ≤ 9 → T i → bt (W i) j → T j) → 1 ≤ i → i + N ≤ 10 → ∀ j, bt (cI W N i S) j → T j := by
  intro N
  induction N with
  | zero => intro i S; exact ⟨fun j h => h, fun l j h1 h2 => by omega, fun T h _ _ _ => h⟩
  | succ N ih =>
    intro i S
    obtain ⟨q1, q2, q3⟩ := ih (i + 1) (if bt S i then S ||| W i else S)
    show (∀ j, bt S j → bt (cI W N (i + 1) (if bt S i then S ||| W i else S)) j) ∧ (∀ l j, i ≤ l → l < i + (N + 1) → bt S l → bt (W l) j → bt (cI W N (i + 1) (if bt S i then S ||| W i else S)) j) ∧ ∀ T : Nat → Prop, (∀ j, bt S j → T j) → (∀ i j, 1 ≤ i → i ≤ 9 → T i → bt (W i) j → T j) → 1 ≤ i → i + (N + 1) ≤ 10 → ∀ j, bt (cI W N (i + 1) (if bt S i then S ||| W i else S)) j → T j
    have up : ∀ j, bt S j → bt (if bt S i then S ||| W i else S) j := fun j h => by
      split
      · exact bt_or.mpr (Or.inl h)
      · exact h
    refine ⟨fun j h => q1 j (up j h), fun l j h1 h2 hl hw => ?_, fun T h hT h1 h10 => q3 T (fun j hj => ?_) hT (by omega) (by omega)⟩
    · by_cases d : l = i
      · subst d
        refine q1 j ?_
        rw [if_pos hl]; exact bt_or.mpr (Or.inr hw)
      · exact q2 l j (by omega) (by omega) (up l hl) hw
    · split at hj
      · rename_i c
        rcases bt_or.mp hj with z | z
        · exact h j z
        · exact hT i j h1 (by omega) (h i c) z
      · exact h j hj
theorem cR_ok {S0 : Int32} : ∀ N S, (∀ j, bt S0 j → bt S j) → (∀ j, bt S j → Rch W S0 j) → Cls W S ∨ 10 ≤ N + cN S → ∀ j, bt (cR W N S) j ↔ Rch W S0 j := by
  intro N
  induction N with
  | zero =>
    intro S h0 hs hc
    have hle : cN S ≤ 9 := cnt_le _ _ _
    exact Rch_iff h0 (hc.resolve_right (by omega)) hs
  | succ N ih =>
    intro S h0 hs hc
    obtain ⟨q1, q2, q3⟩ := cI_ok (W := W) 9 1 S
    refine ih (cI W 9 1 S) (fun j hj => q1 j (h0 j hj)) (fun j hj => q3 (Rch W S0) hs (fun i j i1 i9 a d => Rch_s i1 i9 a d) (by omega) (by omega) j hj) ?_
    by_cases y : ∀ i, 1 ≤ i → i ≤ 9 → bt (cI W 9 1 S) i → bt S i
    · exact Or.inl fun i j i1 i9 hi hw => q2 i j i1 (by omega) (y i i1 i9 hi) hw
    · rcases hc with hc | hc
      · exfalso
        exact y fun i i1 i9 hi => q3 (fun j => bt S j) (fun _ h => h) hc (by omega) (by omega) i hi
      · have := cN_lt q1 y
        exact Or.inr (by omega)
theorem w_dead (hC : RC C F G) {t : Nat} (h1 : 1 ≤ t) (h9 : t ≤ 9) {Q : Int32 → Prop} (q1 : Rch (fun i => G (1394 + i)) (G (1394 + t)) t → Q 1) (q0 : ¬ Rch (fun i => G (1394 + i)) (G (1394 + t)) t → Q 0) : wp_X0_deadlocked C (nI t) Q := by
  have hW : ∀ i, 1 ≤ i → i ≤ 9 → g0_waits C i = G (1394 + i) := fun i i1 i9 => (hC.2.2 i i1 i9).1
  have in18 : ∀ {k9 : Int32 → Int32 → Int32 → Prop} (x3 : Int32) N i S, N + i = 10 → 1 ≤ i → k9 (nI t) (cI (fun i => G (1394 + i)) N i S) (x3 + 1) → wp_X0_deadlocked_18 C k9 Q (N + 1) (nI t) S x3 (nI i) := by
    intro k9 x3 N
    induction N with
    | zero =>
      intro i S hi _ q
      refine pk_lt 9 i (fun _ y hy => ?_) (fun z => by omega)
      rw [hy]; exact q
    | succ N ih =>
      intro i S hi i1 q
      have q : k9 (nI t) (cI (fun i => G (1394 + i)) N (i + 1) (if bt S i then S ||| G (1394 + i) else S)) (x3 + 1) := q
      refine pk_lt 9 i (fun z => by omega) (fun _ => ?_)
      by_cases c : bt S i
      · rw [if_pos c] at q
        refine ⟨fun _ => ⟨ivp (by omega) (by omega), fun S2 hS2 y hy => ?_⟩, fun z => absurd c z⟩
        rw [nI_clamp (by omega), hW i i1 (by omega)] at hS2
        rw [hy, nI_1, hS2]; exact ih (i + 1) _ (by omega) (by omega) q
      · rw [if_neg c] at q
        refine ⟨fun z => absurd z c, fun _ y hy => ?_⟩
        rw [hy, nI_1]; exact ih (i + 1) _ (by omega) (by omega) q
  have out : ∀ N d S, N + d = 9 → (∀ T, T = cR (fun i => G (1394 + i)) N S → (bt T t → Q 1) ∧ (¬ bt T t → Q 0)) → wp_X0_deadlocked_9 C Q (N + 1) (nI t) S (nI d) := by
    intro N
    induction N with
    | zero => intro d S hd q; exact pk_le 9 d (fun _ => q S rfl) (fun z => by omega)
    | succ N ih =>
      intro d S hd q
      refine pk_le 9 d (fun z => by omega) (fun _ => ⟨10, in18 (nI d) 9 1 S (by omega) (by omega) ?_⟩)
      rw [nI_1]
      exact ih (d + 1) _ (by omega) q
  refine ⟨ivp (by omega) (by omega), fun S hS => ⟨10, ?_⟩⟩
  rw [nI_clamp (by omega), hW t h1 h9] at hS
  rw [hS]
  refine out 9 0 _ (by omega) fun T hT => ?_
  have hc : Cls (fun i => G (1394 + i)) (G (1394 + t)) ∨ 10 ≤ 9 + cN (G (1394 + t)) := by
    by_cases y : ∃ i, 1 ≤ i ∧ i ≤ 9 ∧ bt (G (1394 + t)) i
    · obtain ⟨i, i1, i9, hi⟩ := y
      have : cN 0 < cN (G (1394 + t)) := cN_lt (fun j hj => absurd hj bt_0) (fun z => bt_0 (z i i1 i9 hi))
      exact Or.inr (by omega)
    · exact Or.inl fun i j i1 i9 hi _ => absurd ⟨i, i1, i9, hi⟩ y
  have hb := cR_ok (W := fun i => G (1394 + i)) (S0 := G (1394 + t)) 9 (G (1394 + t)) (fun _ h => h) (fun _ h => Rch_0 h) hc t
  rw [hT]
  exact ⟨fun z => q1 (hb.mp z), fun z => q0 (fun y => z (hb.mpr y))⟩
theorem x_dead (hR : isR n F G b e f) {t : Nat} (h1 : 1 ≤ t) (h9 : t ≤ 9) {Q : Int32 → Prop} (q1 : Rch (fun i => G (1394 + i)) (G (1394 + t)) t → Q 1) (q0 : ¬ Rch (fun i => G (1394 + i)) (G (1394 + t)) t → Q 0) : wp_X11_comesTo (mS m n pn) (nI t) (fun r5 => wp_X11_has (mS m n pn) r5 (nI t) Q) :=
  x_comesTo hR h1 h9 fun T hT => ⟨fun z => q1 ((hT t).mp z), fun z => q0 (fun y => z ((hT t).mpr y))⟩
theorem o_tx (h : SW (g10_now u) n) (x1 x2 : Int32) {K : Int32 → Int32 → S11 → Prop} (q : ∀ r, K r r (mS (s11_told m 0) n pn)) : wp_X10_tx u x1 x2 (fun r => wp_X11_tx (mS m n pn) x1 x2 (fun r2 v2 => K r r2 v2)) := by
  obtain ⟨F, G, b, e, f, k, hC, hR, hI⟩ := h
  rcases party x1 with hp | ⟨t, h1, h9, rfl⟩
  · refine w_party0 hp ⟨fun _ v hv => ?_, fun z => absurd rfl z⟩
    rw [hv]
    exact x_isIn0 (hp.elim Or.inl fun z => Or.inr z.2) ⟨fun _ => q _, fun y => absurd rfl y⟩
  · refine w_party1 h1 h9 ⟨fun z => absurd z (by decide), fun _ => ?_⟩
    obtain ⟨r1, r2, r3⟩ := hC.2.2.1 t h1 h9
    obtain ⟨b1, b2, b3, b4, b5⟩ := hC.2.2.2.1.2.2 t h1 h9
    have xt : ∀ {K2 : Int32 → S11 → Prop}, wp_X11_isIn (mS (s11_told m 0) n pn) x2 0 7 (fun r_3 => (r_3 = 0 → K2 (-1) (mS (s11_told m 0) n pn)) ∧ (¬ r_3 = 0 → (x2 = 5 → vp_in (1394 + nI t) 10700 ∧ (K2 ((g11_now (mS (s11_told m 0) n pn)) (1394 + nI t).toNatClampNeg) (mS (s11_told m 0) n pn))) ∧ (¬ x2 = 5 → (x2 = 6 → wp_X11_costOf (mS (s11_told m 0) n pn) (nI t) (fun r_7 => K2 r_7 (mS (s11_told m 0) n pn))) ∧ (¬ x2 = 6 → (x2 = 7 → wp_X11_comesTo (mS (s11_told m 0) n pn) (nI t) (fun r_5 => wp_X11_has (mS (s11_told m 0) n pn) r_5 (nI t) (fun r_6 => (r_6 = 0 → K2 0 (mS (s11_told m 0) n pn)) ∧ (¬ r_6 = 0 → K2 1 (mS (s11_told m 0) n pn))))) ∧ (¬ x2 = 7 → wp_X11_txAt (mS (s11_told m 0) n pn) (nI t) (fun r_4 => vp_in (r_4 + x2) 10700 ∧ (K2 ((g11_now (mS (s11_told m 0) n pn)) (r_4 + x2).toNatClampNeg) (mS (s11_told m 0) n pn)))))))) → wp_X11_tx (mS m n pn) (nI t) x2 K2 := fun hk v hv => by
      rw [hv]; exact x_isIn1 (lo := 1) (hi := 9) rfl (by omega) (by omega) h1 h9 ⟨fun y => absurd y (by decide), fun _ => hk⟩
    rcases rng x2 (lo := 0) (hi := 7) (by omega) (by omega) with z | z | ⟨a, a1, a2, a3, a4, a5⟩
    · have g : ∀ i, x2 = nI i → i < 8 → False := fun i hi h7 => by rw [hi] at z; have := (nI_ltI (by omega) (by omega)).mp z; omega
      exact ⟨fun y => (g 0 y (by omega)).elim, fun _ => ⟨fun y => (g 1 y (by omega)).elim, fun _ => ⟨fun y => (g 2 y (by omega)).elim, fun _ => ⟨fun y => (g 3 y (by omega)).elim, fun _ => ⟨fun y => (g 4 y (by omega)).elim, fun _ => ⟨fun y => (g 5 y (by omega)).elim, fun _ => ⟨fun y => (g 6 y (by omega)).elim, fun _ => ⟨fun y => (g 7 y (by omega)).elim, fun _ => xt (x_isIn0 (Or.inl z) ⟨fun _ => q _, fun y => absurd rfl y⟩)⟩⟩⟩⟩⟩⟩⟩⟩
    · have g : ∀ i, x2 = nI i → i < 8 → False := fun i hi h7 => by rw [hi] at z; have := (nI_ltI (by omega) (by omega)).mp z.2; omega
      exact ⟨fun y => (g 0 y (by omega)).elim, fun _ => ⟨fun y => (g 1 y (by omega)).elim, fun _ => ⟨fun y => (g 2 y (by omega)).elim, fun _ => ⟨fun y => (g 3 y (by omega)).elim, fun _ => ⟨fun y => (g 4 y (by omega)).elim, fun _ => ⟨fun y => (g 5 y (by omega)).elim, fun _ => ⟨fun y => (g 6 y (by omega)).elim, fun _ => ⟨fun y => (g 7 y (by omega)).elim, fun _ => xt (x_isIn0 (Or.inr z.2) ⟨fun _ => q _, fun y => absurd rfl y⟩)⟩⟩⟩⟩⟩⟩⟩⟩
    · have xs : ∀ (r : Int32), (a < 5) → r = nI (F (702 + 18 * t + a)) → wp_X11_tx (mS m n pn) (nI t) x2 (fun r2 v2 => K r r2 v2) := by
        intro r ha hr
        refine xt (x_isIn1 (lo := 0) (hi := 7) a3 (by omega) (by omega) a1 a2 ⟨fun y => absurd y (by decide), fun _ => ⟨fun y => ?_, fun _ => ⟨fun y => ?_, fun _ => ⟨fun y => ?_, fun _ => ?_⟩⟩⟩⟩)
        · rw [a3] at y; have := (nI_eq (b := 5) (by omega) (by omega)).mp y; omega
        · rw [a3] at y; have := (nI_eq (b := 6) (by omega) (by omega)).mp y; omega
        · rw [a3] at y; have := (nI_eq (b := 7) (by omega) (by omega)).mp y; omega
        · simp only [wp_X11_txAt]
          rw [a3, show (720 : Int32) + 18 * (nI t - 1) + nI a = nI (702 + 18 * t + a) from txA t h1 a, nI_clamp (by omega), gmS, hR.2.1 _ (show nk (702 + 18 * t + a) by unfold nk; omega)]
          refine ⟨ivp (by omega) (by omega), ?_⟩
          rw [← hr]; exact q r
      have : a = 0 ∨ a = 1 ∨ a = 2 ∨ a = 3 ∨ a = 4 ∨ a = 5 ∨ a = 6 ∨ a = 7 := by omega
      have ct : (nI t).toNatClampNeg = t := nI_clamp (by omega)
      have it : vp_in (nI t) 10 := ivp (by omega) (by omega)
      rcases this with rfl | rfl | rfl | rfl | rfl | rfl | rfl | rfl
      · refine ⟨fun _ => ⟨it, xs _ (by omega) (by rw [ct]; exact r1)⟩, fun y => absurd a3 y⟩
      · subst a3
        refine ⟨fun y => absurd y (by decide), fun _ => ⟨fun _ => ⟨it, xs _ (by omega) ?_⟩, fun y => absurd rfl y⟩⟩
        rw [ct, r2]; congr 2; omega
      · subst a3
        refine ⟨fun y => absurd y (by decide), fun _ => ⟨fun y => absurd y (by decide), fun _ => ⟨fun _ => ⟨it, xs _ (by omega) ?_⟩, fun y => absurd rfl y⟩⟩⟩
        rw [ct, r3]; congr 2; omega
      · subst a3
        refine ⟨fun y => absurd y (by decide), fun _ => ⟨fun y => absurd y (by decide), fun _ => ⟨fun y => absurd y (by decide), fun _ => ⟨fun _ => ⟨it, xs _ (by omega) ?_⟩, fun y => absurd rfl y⟩⟩⟩⟩
        rw [ct, b2]; congr 2; omega
      · subst a3
        refine ⟨fun y => absurd y (by decide), fun _ => ⟨fun y => absurd y (by decide), fun _ => ⟨fun y => absurd y (by decide), fun _ => ⟨fun y => absurd y (by decide), fun _ => ⟨fun _ => ⟨it, xs _ (by omega) ?_⟩, fun y => absurd rfl y⟩⟩⟩⟩⟩
        rw [ct, b3]; congr 2; omega
      · subst a3
        refine ⟨fun y => absurd y (by decide), fun _ => ⟨fun y => absurd y (by decide), fun _ => ⟨fun y => absurd y (by decide), fun _ => ⟨fun y => absurd y (by decide), fun _ => ⟨fun y => absurd y (by decide), fun _ => ⟨fun _ => ⟨it, ?_⟩, fun y => absurd rfl y⟩⟩⟩⟩⟩⟩
        rw [ct, b1]
        refine xt (x_isIn1 (lo := 0) (hi := 7) rfl (by omega) (by omega) a1 a2 ⟨fun y => absurd y (by decide), fun _ => ⟨fun _ => ?_, fun y => absurd rfl y⟩⟩)
        rw [show (1394 : Int32) + nI t = nI (1394 + t) from nI_add 1394 t, nI_clamp (by omega), gmS, hR.2.2.1 (1394 + t) (by unfold gk; omega)]
        exact ⟨ivp (by omega) (by omega), q _⟩
      · subst a3
        refine ⟨fun y => absurd y (by decide), fun _ => ⟨fun y => absurd y (by decide), fun _ => ⟨fun y => absurd y (by decide), fun _ => ⟨fun y => absurd y (by decide), fun _ => ⟨fun y => absurd y (by decide), fun _ => ⟨fun y => absurd y (by decide), fun _ => ⟨fun _ => w_cost hC hI h1 h9 ?_, fun y => absurd rfl y⟩⟩⟩⟩⟩⟩⟩
        exact xt (x_isIn1 (lo := 0) (hi := 7) rfl (by omega) (by omega) a1 a2 ⟨fun y => absurd y (by decide), fun _ => ⟨fun y => absurd y (by decide), fun _ => ⟨fun _ => x_cost (m := s11_told m 0) hR hI h1 h9 (q _), fun y => absurd rfl y⟩⟩⟩)
      · subst a3
        have xd : ∀ r : Int32, (Rch (fun i => G (1394 + i)) (G (1394 + t)) t → r = 1) → (¬ Rch (fun i => G (1394 + i)) (G (1394 + t)) t → r = 0) → wp_X11_tx (mS m n pn) (nI t) (nI 7) (fun r2 v2 => K r r2 v2) := fun r y1 y0 => by
          refine xt (x_isIn1 (lo := 0) (hi := 7) rfl (by omega) (by omega) a1 a2 ⟨fun y => absurd y (by decide), fun _ => ⟨fun y => absurd y (by decide), fun _ => ⟨fun y => absurd y (by decide), fun _ => ⟨fun _ => x_dead (m := s11_told m 0) hR h1 h9 (fun z => ⟨fun y => absurd y (by decide), fun _ => ?_⟩) (fun z => ⟨fun _ => ?_, fun y => absurd rfl y⟩), fun y => absurd rfl y⟩⟩⟩⟩)
          · rw [y1 z]; exact q 1
          · rw [y0 z]; exact q 0
        refine ⟨fun y => absurd y (by decide), fun _ => ⟨fun y => absurd y (by decide), fun _ => ⟨fun y => absurd y (by decide), fun _ => ⟨fun y => absurd y (by decide), fun _ => ⟨fun y => absurd y (by decide), fun _ => ⟨fun y => absurd y (by decide), fun _ => ⟨fun y => absurd y (by decide), fun _ => ⟨fun _ => w_dead hC.2.2.2.1 h1 h9 (fun z => ⟨fun y => absurd y (by decide), fun _ => xd 1 (fun _ => rfl) (fun y => absurd z y)⟩) (fun z => ⟨fun _ => xd 0 (fun y => absurd y z) (fun _ => rfl), fun y => absurd rfl y⟩), fun y => absurd rfl y⟩⟩⟩⟩⟩⟩⟩⟩
end
