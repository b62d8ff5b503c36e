/-! ===== asOf ===== -/
section
variable {m : S11} {F c tau : Nat → Nat} {G : Nat → Int32} {R : S5} {T I L n : Nat → Int32} {b : Nat → Nat} {e f k : Nat} {J : S2} {S : S7} {u : S10}
/-- the bytes behind a record -/
def td1 (b : Nat → Nat) (s : Nat) (tau : Nat → Nat) : Nat → Nat := if tch b s = true then updN tau (b (s + 5)) (dnb b s (tau (b (s + 5)))) else tau
def tdo (b : Nat → Nat) : Nat → Nat → (Nat → Nat) → Nat → Nat
  | 0, _, tau => tau
  | N + 1, j, tau => tdo b N (j + 1) (td1 b (wlk b j) tau)
theorem dnb_lt2 (h5 : ∀ i, b i < 256) {s w : Nat} (hw : w < 256) : dnb b s w < 256 := by
  unfold dnb
  split
  · exact h5 _
  · split
    · omega
    · split
      · split
        · exact h5 _
        · omega
      · exact hw
theorem td1_lt (h5 : ∀ i, b i < 256) {s : Nat} (ht : ∀ x, tau x < 256) : ∀ x, td1 b s tau x < 256 := fun x => by
  unfold td1
  split
  · unfold updN
    split
    · exact dnb_lt2 h5 (ht _)
    · exact ht x
  · exact ht x
theorem tdo_lt (h5 : ∀ i, b i < 256) : ∀ N j (tau : Nat → Nat), (∀ x, tau x < 256) → ∀ x, tdo b N j tau x < 256 := by
  intro N
  induction N with
  | zero => intro j tau h; exact h
  | succ N ih => intro j tau h; exact ih (j + 1) _ (td1_lt h5 h)
theorem w_14 (hJ : isJ J b e f) (hL : LogOK b e k) {a jl : Nat} (ha : a < 256) (hjl : jl < k) {Q : Int32 → S1 → Prop} : ∀ d j (R : S5) (tau : Nat → Nat), j + d = jl + 1 → HT R b j → (∀ x, tau x < 256) → (∀ R2, HT R2 b (jl + 1) → wp_X1_rolledBack R2 J (nI a) (nI (tdo b d j tau a)) (fun r_2 v_3 => Q r_2 v_3)) → wp_X1_byteAsOf_14 J Q (d + 1) (nI a) (nI (wlk b jl)) (nI (tau a)) (nI (wlk b j)) R := by
  have hke := hL.1.1
  have hE := hJ.2.2.1
  have h5 := hJ.2.2.2.2.1
  have hlk := wlk_mono (b := b) (show jl + 1 ≤ k by omega)
  intro d
  induction d with
  | zero =>
    intro j R tau hd h ht q
    have hd : j = jl + 1 := hd
    subst hd
    have hlt := wlk_lt (b := b) (show jl < jl + 1 by omega)
    exact pk_lt (wlk b jl) (wlk b (jl + 1)) (fun _ => q R h) (fun y => by omega)
  | succ d ih =>
    intro j R tau hd h ht q
    have hj : j < k := by omega
    have hle := wlk_mono (b := b) (show j ≤ jl by omega)
    have hjk := wlk_mono (b := b) (show jl ≤ jl + 1 by omega)
    have b5 := h5 (wlk b j + 5)
    refine pk_lt (wlk b jl) (wlk b j) (fun y => by omega) (fun _ => HT_S hJ hL hj h fun R2 h2 u hu => w_touches hJ (by omega) ?_)
    have nx : ∀ w, w = td1 b (wlk b j) tau a → wp_X1_byteAsOf_59 J (fun x2 x3 x4 x5 u0 => wp_X1_byteAsOf_14 J Q (d + 1) x2 x3 x4 x5 u0) Q (nI a) (nI (wlk b jl)) (nI w) (nI (wlk b j)) u := by
      intro w hw
      refine w_bhd hJ hL hj ?_
      rw [hw, hu]
      exact ih (j + 1) R2 (td1 b (wlk b j) tau) (by omega) h2 (td1_lt h5 ht) q
    cases ct : tch b (wlk b j) with
    | false => exact ⟨fun _ => nx _ (by unfold td1; rw [ct, if_neg (by decide)]), fun y => absurd rfl y⟩
    | true =>
      refine ⟨fun y => absurd y (by decide), fun _ => w_addressAt hJ (by omega) (pk_eq (b (wlk b j + 5)) a (fun y => w_done hJ (by omega) (ht a) (nx _ ?_)) (fun y => nx _ ?_))⟩
      · unfold td1; rw [ct, if_pos rfl, y, uNs]
      · unfold td1; rw [ct, if_pos rfl, uNn (fun z => y z.symm)]
theorem x_52 (hM : isM (g11_now m) b e f) (hL : LogOK b e k) {a jl : Nat} (hjl : jl < k) {Q : Int32 → S11 → Prop} : ∀ d j (T : Nat → Int32) (tau : Nat → Nat), j + d = jl + 1 → (∀ x, x < 256 → T x = nI (tau x)) → (∀ x, tau x < 256) → (∀ T2 : Nat → Int32, (∀ x, x < 256 → T2 x = nI (tdo b d j tau x)) → wp_X11_rollsThought (thR m T2 I L) (nI (wlk b (jl + 1))) (fun v_4 => vp_in (nI a) 256 ∧ (Q ((g11_thoughtRow v_4) (nI a).toNatClampNeg) v_4))) → wp_X11_asOf_52 Q (d + 1) (nI a) (nI (wlk b jl)) (nI (wlk b j)) (thR m T I L) := by
  have hke := hL.1.1
  have hE := hM.2.2.2.2.1
  have h5 := hM.2.2.2.2.2.2.2.1
  have hlk := wlk_mono (b := b) (show jl + 1 ≤ k by omega)
  intro d
  induction d with
  | zero =>
    intro j T tau hd hT ht q
    have hd : j = jl + 1 := hd
    subst hd
    have hlt := wlk_lt (b := b) (show jl < jl + 1 by omega)
    refine pk_lt (wlk b jl) (wlk b (jl + 1)) (fun _ => x_len (m := thR m T I L) (by rw [tH1.2.2.2]; exact hM) hL hjl fun x hx => ?_) (fun y => by omega)
    rw [hx]; exact q T hT
  | succ d ih =>
    intro j T tau hd hT ht q
    have hj : j < k := by omega
    have hle := wlk_mono (b := b) (show j ≤ jl by omega)
    have hjk := wlk_lt (b := b) (show jl < jl + 1 by omega)
    have b5 := h5 (wlk b j + 5)
    obtain ⟨h6, h68, h3, h4, hv⟩ := rec_rd hL hj
    have hM2 : isM (g11_now (thR m T I L)) b e f := by rw [tH1.2.2.2]; exact hM
    refine pk_lt (wlk b jl) (wlk b j) (fun y => by omega) (fun _ => x_isChange hM2 (by omega) ?_)
    have nx : ∀ T2 : Nat → Int32, (∀ x, x < 256 → T2 x = nI (td1 b (wlk b j) tau x)) → wp_X11_asOf_90 (fun x1 x2 x3 u0 => wp_X11_asOf_52 Q (d + 1) x1 x2 x3 u0) Q (nI a) (nI (wlk b jl)) (nI (wlk b j)) (thR m T2 I L) := by
      intro T2 h2
      refine x_len (m := thR m T2 I L) (by rw [tH1.2.2.2]; exact hM) hL hj fun x hx y hy => ?_
      rw [hy, hx]
      exact ih (j + 1) T2 _ (by omega) h2 (td1_lt h5 ht) q
    cases ct : tch b (wlk b j) with
    | false => exact ⟨fun _ => nx T (fun x hx => by unfold td1; rw [ct, if_neg (by decide)]; exact hT x hx), fun y => absurd rfl y⟩
    | true =>
      have hk : b (wlk b j) = 2 ∨ b (wlk b j) = 3 ∨ b (wlk b j) = 4 := by
        unfold tch at ct
        simp only [Bool.or_eq_true, beq_iff_eq] at ct
        omega
      obtain ⟨r1, r2, r3, r4, r5, r6⟩ := rec_onw hL hj
      have hs : wlk b j + 8 ≤ e := by
        rcases hk with y | y | y
        · have := r5 y; omega
        · exact r6 y
        · have := r3 y; omega
      refine ⟨fun y => absurd y (by decide), fun _ => ?_⟩
      unfold wp_X11_addressIn
      refine x_logByte' hM2 (nI_add (wlk b j) 5) (by omega) (x_logByte' hM2 (nI_add (wlk b j) 5) (by omega) ⟨ivp (by omega) (by omega), ?_⟩)
      rw [tH1.1, nI_clamp (by omega), hT _ b5]
      refine x_doneBy hM2 (ht _) hk hs ⟨ivp (by omega) (by omega), fun u hu => ?_⟩
      rw [tH2] at hu
      rw [hu]
      refine nx _ fun x hx => ?_
      unfold td1
      rw [ct, if_pos rfl]
      by_cases d : x = b (wlk b j + 5)
      · rw [d, pk_us, uNs]
      · rw [pk_un d, uNn d]; exact hT x hx
theorem x_29 {Q : Int32 → S11 → Prop} {x1 x2 : Int32} (q : ∀ T : Nat → Int32, (∀ i, i < 256 → T i = nI 0) → ∃ N, wp_X11_asOf_52 Q N x1 x2 (nI 8) (thR m T I L)) : ∀ d x (T : Nat → Int32), x + d = 256 → (∀ i, i < x → T i = nI 0) → ∃ N, wp_X11_asOf_29 Q N x1 x2 (nI x) (thR m T I L) := by
  intro d
  induction d with
  | zero =>
    intro x T hd h
    have hd : x = 256 := hd
    subst hd
    exact ⟨1, fun _ => q T h, fun y => absurd (by decide) y⟩
  | succ d ih =>
    intro x T hd h
    obtain ⟨N, hN⟩ := ih (x + 1) (upd T x (nI 0)) (by omega) (fun i hi => by
      by_cases c : i = x
      · rw [c, pk_us]
      · rw [pk_un c]; exact h i (by omega))
    refine ⟨N + 1, pk_le 256 x (fun y => by omega) (fun _ => ?_)⟩
    rw [tH1.1, tH2, nI_clamp (by omega)]
    refine ⟨ivp (by omega) (by omega), fun u1 hu1 x2 hx2 => ?_⟩
    rw [hu1, hx2, nI_1]; exact hN
theorem o_asOf (h : SW (g10_now u) (g11_now m)) (x1 x2 : Int32) {K : Int32 → S10 → Int32 → S11 → Prop} (q : ∀ r R2 v2, Fl2 v2 m → g11_now v2 = g11_now m → K r (s10_hindsight u R2) r v2) : wp_X10_asOf u x1 x2 (fun r u2 => wp_X11_asOf m x1 x2 (fun r2 v2 => K r u2 r2 v2)) := by
  have fT := Fl2_told (m := m)
  have hn := told_n (m := m)
  have hd : ∀ K2 : Int32 → S11 → Prop, (wp_X11_isIn (s11_told m 0) x1 0 255 (fun r_14 => (r_14 = 0 → K2 (-1) (s11_told m 0)) ∧ (¬ r_14 = 0 → wp_X11_isRecord (s11_told m 0) x2 (fun r_15 => (r_15 = 0 → K2 (-1) (s11_told m 0)) ∧ (¬ r_15 = 0 → ∃ n_16, wp_X11_asOf_29 K2 n_16 x1 x2 0 (s11_told m 0)))))) → wp_X11_asOf m x1 x2 K2 := by
    intro K2 kk v hv
    rw [hv]; exact kk
  generalize s11_told m 0 = m0 at fT hn hd
  have ref : ∀ r, K r u r m0 := fun r => q r (g10_hindsight u) m0 fT hn
  obtain ⟨F, G, b, e, f, k, hC, hR, hI⟩ := h
  have iL := hI.1.2.2.2.1
  have hM : isM (g11_now m0) b e f := by rw [hn]; exact hR.1
  rcases rng x1 (lo := 0) (hi := 255) (by omega) (by omega) with z | z | ⟨a, a1, a2, a3, a4, a5⟩
  · exact ⟨fun _ => hd _ (x_isIn0 (Or.inl z) ⟨fun _ => ref _, fun y => absurd rfl y⟩), fun y => absurd z y⟩
  · have z2 : 256 ≤ x1 := by
      refine Int32.le_iff_toInt_le.mpr ?_
      have := Int32.lt_iff_toInt_lt.mp z.2
      have e1 : (256 : Int32).toInt = 256 := by decide
      have e2 : (nI 255).toInt = 255 := by decide
      omega
    exact ⟨fun y => absurd y z.1, fun _ => ⟨fun _ => hd _ (x_isIn0 (Or.inr z.2) ⟨fun _ => ref _, fun y => absurd rfl y⟩), fun y => absurd z2 y⟩⟩
  · subst a3
    have hin : ∀ {Q : Int32 → Prop}, Q 1 → wp_X11_isIn m0 (nI a) 0 255 Q := fun {Q} q => x_isIn1 (lo := 0) (hi := 255) rfl (by omega) (by omega) a1 a2 q
    refine ⟨fun y => absurd y a4, fun _ => pk_le 256 a (fun y => by omega) (fun _ => w_beginsAt hC.1 iL (fun jl hjl hx => ?_) (fun hno => ?_))⟩
    · subst hx
      refine ⟨fun y => absurd y (by decide), fun _ => HT_0 (b := b) fun R1 hR1 u1 hu1 => ⟨jl + 1 + 1, ?_⟩⟩
      refine w_14 (a := a) hC.1 iL (by omega) hjl (jl + 1) 0 u1 (fun _ => 0) (by omega) (by rw [hu1]; exact hR1) (fun _ => (by decide : (0 : Nat) < 256)) fun R2 hR2 => ?_
      have tl := tdo_lt hM.2.2.2.2.2.2.2.1 (jl + 1) 0 (fun _ => 0) (fun _ => (by decide : (0 : Nat) < 256))
      obtain ⟨z, z1, z2⟩ := hind (m := m0) (a := a) (tau := tdo b (jl + 1) 0 (fun _ => 0)) hC.1 hM iL (by omega) (show jl + 1 ≤ k by omega) hR2 tl
      refine z1 _ fun R3 u3 hu3 => hd _ (hin ⟨fun y => absurd y (by decide), fun _ => x_isRecord hM iL (fun j2 hj2 hx2 => ⟨fun y => absurd y (by decide), fun _ => ?_⟩) (fun hno => absurd rfl (hno jl hjl))⟩)
      rw [hu3]
      have x := x_29 (m := m0) (I := g11_isThere m0) (L := g11_latest m0) (x1 := nI a) (x2 := nI (wlk b jl)) (Q := fun r2 v2 => K (nI z) (s10_hindsight u R3) r2 v2) (fun T hT => ⟨jl + 1 + 1, x_52 (a := a) hM iL hjl (jl + 1) 0 T (fun _ => 0) (by omega) hT (fun _ => (by decide : (0 : Nat) < 256)) fun T2 hT2 => ?_⟩) 256 0 (g11_thoughtRow m0) (by omega) (fun i hi => by omega)
      · rw [← tH6] at x; exact x
      · refine z2 T2 _ _ hT2 _ fun T3 I2 L2 h2 => ⟨ivp (by omega) (by omega), ?_⟩
        rw [tH1.1, nI_clamp (by omega), h2]
        exact q _ R3 _ (Fl2_t tH5 fT) (by rw [tH1.2.2.2]; exact hn)
    · exact ⟨fun _ => hd _ (hin ⟨fun y => absurd y (by decide), fun _ => x_isRecord hM iL (fun j hj hx => absurd hx (hno j hj)) (fun _ => ⟨fun _ => ref _, fun y => absurd rfl y⟩)⟩), fun y => absurd rfl y⟩
end
