/-! ===== in hindsight: rolled back on both sides ===== -/
section
variable {m : S11} {F c tau : Nat → Nat} {R : S5} {T I L : Nat → Int32} {p : Nat → Bool} {b : Nat → Nat} {e f k : Nat} {J : S2}
theorem x_undT (hM : isM (g11_now m) b e f) (hL : LogOK b e k) {j : Nat} (hj : j < k) (hu : vun (rv b (wlk b j)) = 1) (hT : ∀ x, x < 256 → T x = nI (tau x)) (ht : ∀ x, tau x < 256) {Q : S11 → Prop} (q : Q (thR m (upd T (b (wlk b j + 5)) (nI (unb b (wlk b j) (tau (b (wlk b j + 5)))))) I L)) : wp_X11_undoesThought (thR m T I L) (nI (wlk b j)) Q := by
  have h5 := hM.2.2.2.2.2.2.2.1
  have hE := hM.2.2.2.2.1
  have hM2 : isM (g11_now (thR m T I L)) b e f := by rw [tH1.2.2.2]; exact hM
  obtain ⟨r1, r2, r3, r4, r5, r6⟩ := rec_onw hL hj
  have hk : b (wlk b j) = 2 ∨ b (wlk b j) = 3 := by
    have e1 : und b (wlk b j) = true := by rw [r2]; exact decide_eq_true hu
    unfold und at e1
    simpa using e1
  have hs : wlk b j + 8 ≤ e := by
    rcases hk with y | y
    · have := r5 y; omega
    · exact r6 y
  generalize wlk b j = s at *
  have b5 := h5 (s + 5)
  have b6 := h5 (s + 6)
  have bs := h5 s
  have tb := ht (b (s + 5))
  unfold wp_X11_undoesThought wp_X11_addressIn
  refine x_logByte' hM2 (nI_add s 5) (by omega) (x_logByte hM2 (by omega) (pk_eq (b s) 2 (fun c2 => ?_) (fun c2 => ?_)))
  · refine x_logByte' hM2 (nI_add s 6) (by omega) ⟨ivp (by omega) (by omega), fun u hu => ?_⟩
    rw [tH1.1, nI_clamp (by omega), tH2] at hu
    unfold unb at q
    rw [if_pos c2] at q
    rw [hu]; exact q
  · refine ⟨ivp (by omega) (by omega), x_logByte' hM2 (nI_add s 6) (by omega) ?_⟩
    rw [tH1.1, nI_clamp (by omega), hT _ b5]
    have e1 : (nI (tau (b (s + 5))) + 256 : Int32) = nI (tau (b (s + 5)) + 256) := nI_add _ 256
    rw [e1, pk_sub (by omega), rem256 (by omega)]
    refine ⟨ivp (by omega) (by omega), fun u hu => ?_⟩
    rw [tH1.1, nI_clamp (by omega), tH2] at hu
    unfold unb at q
    rw [if_neg c2] at q
    rw [hu]; exact q
theorem unb_lt (h5 : ∀ i, b i < 256) (s w : Nat) : unb b s w < 256 := by
  unfold unb
  split
  · exact h5 _
  · omega
def mzA (F : Nat → Nat) (t : Nat) : Nat := if F (702 + 18 * t) = 1 ∨ F (702 + 18 * t) = 2 then F (704 + 18 * t) + 1 else 0
theorem roll (hJ : isJ J b e f) (hM : isM (g11_now m) b e f) (hL : LogOK b e k) {a : Nat} (ha : a < 256) : ∀ M i (F : Nat → Nat) (R : S5) (c tau : Nat → Nat), RO R F → (∀ j, F j < 65536) → lnk F p c → (∀ t, Sz b k (c t)) → sum9 (mzA F) ≤ M → i + M < 1000000 → (∀ x, tau x < 256) → ∃ z, (∀ Q : Int32 → S1 → Prop, (∀ R2, Q (nI z) R2) → wp_X1_rolledBack_13 J Q (M + 1) (nI a) (nI (tau a)) (nI i) R) ∧ ∀ (T I L : Nat → Int32), RIh I L p c → (∀ x, x < 256 → T x = nI (tau x)) → ∀ Q : S11 → Prop, (∀ T2 I2 L2, T2 a = nI z → Q (thR m T2 I2 L2)) → ∃ N, wp_X11_rollsThought_10 Q N (if fr p c 9 1 0 = 0 then -1 else nI (fr p c 9 1 0)) (thR m T I L) := by
  have h5 := hM.2.2.2.2.2.2.2.1
  have hE := hM.2.2.2.2.1
  intro M
  induction M with
  | zero =>
    intro i F R c tau hR hb hl hc hs hi ht
    have fo := (fm_ok (F := F) 9 1 0 rfl (by omega) (fun _ u u1 u2 => by omega) (fun z => absurd rfl z))
    have f0 : fm F 9 1 0 = 0 := by
      rcases Nat.eq_zero_or_pos (fm F 9 1 0) with y | y
      · exact y
      · exfalso
        obtain ⟨y1, y2⟩ := fo.2 (by omega)
        have e1 := sum9_pt (f := mzA F) (g := fun t => if t = fm F 9 1 0 then 0 else mzA F t) (t := fm F 9 1 0) (by omega) y1 (fun u hu => if_neg hu)
        rw [if_pos rfl] at e1
        have e2 : mzA F (fm F 9 1 0) = F (704 + 18 * fm F 9 1 0) + 1 := by unfold mzA; exact if_pos y2
        omega
    have r0 : fr p c 9 1 0 = 0 := by
      have ff := fm_fr hl 9 1 0 0 rfl (by omega) (by omega) (by omega) (fun z => absurd rfl z) (fun z => absurd rfl z) (fun _ => ⟨Or.inl rfl, fun u u1 u2 => by omega⟩)
      rcases Nat.eq_zero_or_pos (fr p c 9 1 0) with y | y
      · exact y
      · have := (ff.1 (by omega)).1; omega
    refine ⟨tau a, fun Q q => pk_le 1000000 i (fun y => by omega) (fun _ => w_fm hR hb ?_), fun T I L hI hT Q q => ⟨1, ?_⟩⟩
    · rw [f0]; exact ⟨fun _ => q _, fun y => absurd rfl y⟩
    · rw [r0, if_pos rfl]
      exact ⟨fun _ => q T I L (hT a ha), fun y => absurd rfl y⟩
  | succ M ih =>
    intro i F R c tau hR hb hl hc hs hi ht
    have c6 : ∀ t, c t < 65536 := fun t => by
      have := Sz_lt (hc t)
      have := hL.1.1
      omega
    have fo := (fm_ok (F := F) 9 1 0 rfl (by omega) (fun _ u u1 u2 => by omega) (fun z => absurd rfl z))
    have ff := fm_fr hl 9 1 0 0 rfl (by omega) (by omega) (by omega) (fun z => absurd rfl z) (fun z => absurd rfl z) (fun _ => ⟨Or.inl rfl, fun u u1 u2 => by omega⟩)
    generalize hx : fm F 9 1 0 = x at *
    rcases Nat.eq_zero_or_pos x with y | hx1
    · have r0 : fr p c 9 1 0 = 0 := by
        rcases Nat.eq_zero_or_pos (fr p c 9 1 0) with z | z
        · exact z
        · have := (ff.1 (by omega)).1; omega
      refine ⟨tau a, fun Q q => pk_le 1000000 i (fun y => by omega) (fun _ => w_fm hR hb ?_), fun T I L hI hT Q q => ⟨1, ?_⟩⟩
      · rw [hx, y]; exact ⟨fun _ => q _, fun y => absurd rfl y⟩
      · rw [r0, if_pos rfl]
        exact ⟨fun _ => q T I L (hT a ha), fun y => absurd rfl y⟩
    · obtain ⟨hx9, hac⟩ := fo.2 (by omega)
      obtain ⟨hR1, hR2, hR3⟩ := hR x (by omega) hx9
      obtain ⟨lp, lc⟩ := (hl x (by omega) hx9).1 hac
      have hm : mzA F x = F (704 + 18 * x) + 1 := by unfold mzA; exact if_pos hac
      -- the class's head
      have wh : ∀ (Q : Int32 → S1 → Prop), ((F (704 + 18 * x) = 0 → wp_X5_remove R (nI x) (fun v_9 => ∀ u0_10 : S1, u0_10 = v_9 → (wp_X1_rolledBack_111 J (fun x2 x4 x5 u0 => wp_X1_rolledBack_13 J Q (M + 1) x2 x4 x5 u0) Q (nI a) (nI (tau a)) (nI i) u0_10))) ∧ (F (704 + 18 * x) ≠ 0 → wp_X2_undoable J (nI (F (704 + 18 * x))) (fun r_6 => (r_6 = 0 → wp_X1_rolledBack_95 J (fun x2 x4 x5 u0 => wp_X1_rolledBack_111 J (fun x2 x4 x5 u0 => wp_X1_rolledBack_13 J Q (M + 1) x2 x4 x5 u0) Q x2 x4 x5 u0) Q (nI a) (nI (tau a)) (nI i) (nI x) (nI (F (704 + 18 * x))) R) ∧ (¬ r_6 = 0 → wp_X2_addressAt J (nI (F (704 + 18 * x))) (fun r_7 => (r_7 = nI a → wp_X2_undone J (nI (F (704 + 18 * x))) (nI (tau a)) (fun r_8 => wp_X1_rolledBack_95 J (fun x2 x4 x5 u0 => wp_X1_rolledBack_111 J (fun x2 x4 x5 u0 => wp_X1_rolledBack_13 J Q (M + 1) x2 x4 x5 u0) Q x2 x4 x5 u0) Q (nI a) r_8 (nI i) (nI x) (nI (F (704 + 18 * x))) R)) ∧ (¬ r_7 = nI a → wp_X1_rolledBack_95 J (fun x2 x4 x5 u0 => wp_X1_rolledBack_111 J (fun x2 x4 x5 u0 => wp_X1_rolledBack_13 J Q (M + 1) x2 x4 x5 u0) Q x2 x4 x5 u0) Q (nI a) (nI (tau a)) (nI i) (nI x) (nI (F (704 + 18 * x))) R)))))) → wp_X1_rolledBack_13 J Q (M + 1 + 1) (nI a) (nI (tau a)) (nI i) R := by
        intro Q kk
        refine pk_le 1000000 i (fun y => by omega) (fun _ => w_fm hR hb ?_)
        rw [hx]
        refine ⟨fun y => absurd ((nI_eq (b := 0) (by omega) (by omega)).mp y) (by omega), fun _ => ⟨ivp (by omega) (by omega), fun x7 h7 => ?_⟩⟩
        rw [nI_clamp (by omega)] at h7
        have h7 : x7 = nI (F (704 + 18 * x)) := h7.trans hR3
        rw [h7]
        exact ⟨fun y => kk.1 ((nI_eq (b := 0) (by have := hb (704 + 18 * x); omega) (by omega)).mp y), fun y => kk.2 (fun z => y (by rw [z]; rfl))⟩
      by_cases c0 : F (704 + 18 * x) = 0
      · -- nothing left of it
        have hl2 : lnk (goneF F x) p c := by
          intro t t1 t9
          by_cases d : t = x
          · subst d
            refine ⟨fun y => ?_, fun _ _ => by rw [lc]; exact c0⟩
            exfalso
            unfold ac goneF at y
            rw [if_pos (by omega)] at y; omega
          · have e1 : goneF F x (702 + 18 * t) = F (702 + 18 * t) := by unfold goneF; rw [if_neg (by omega)]
            have e2 : goneF F x (704 + 18 * t) = F (704 + 18 * t) := by unfold goneF; rw [if_neg (by omega)]
            unfold ac
            rw [e1, e2]; exact hl t t1 t9
        have hs2 : sum9 (mzA (goneF F x)) ≤ M := by
          have e1 := sum9_pt (f := mzA F) (g := mzA (goneF F x)) (t := x) (by omega) hx9 (fun u hu => by
            unfold mzA
            rcases Nat.lt_or_ge u 1 with y | y
            · obtain rfl : u = 0 := by omega
              have e1 : goneF F x (702 + 18 * 0) = F (702 + 18 * 0) := by unfold goneF; rw [if_neg (by omega)]
              have e2 : goneF F x (704 + 18 * 0) = F (704 + 18 * 0) := by unfold goneF; rw [if_neg (by omega)]
              rw [e1, e2]
            · have e1 : goneF F x (702 + 18 * u) = F (702 + 18 * u) := by unfold goneF; rw [if_neg (by omega)]
              have e2 : goneF F x (704 + 18 * u) = F (704 + 18 * u) := by unfold goneF; rw [if_neg (by omega)]
              rw [e1, e2])
          have e3 : goneF F x (702 + 18 * x) = 0 := by unfold goneF; exact if_pos ⟨by omega, by omega⟩
          have e2 : mzA (goneF F x) x = 0 := by unfold mzA; rw [e3]; exact if_neg (by decide)
          omega
        obtain ⟨z, z1, z2⟩ := ih (i + 1) (goneF F x) _ c tau (RO_gone hR (t := x)) (goneF_b hb) hl2 hc hs2 (by omega) ht
        refine ⟨z, fun Q q => wh Q ⟨fun _ => w_remove hx9 fun u hu x5 hx5 => ?_, fun y => absurd c0 y⟩, z2⟩
        rw [hx5, nI_1, hu]; exact z1 Q q
      · -- one step of it
        have hfr : fr p c 9 1 0 = x := by
          rcases Nat.eq_zero_or_pos (fr p c 9 1 0) with y | y
          · have := ff.2 y x (by omega) hx9 lp; omega
          · exact ((ff.1 (by omega)).1).symm
        obtain ⟨j, hj, hw⟩ : ∃ j, j < k ∧ wlk b j = F (704 + 18 * x) := by
          rcases hc x with y | ⟨j, j1, j2⟩
          · omega
          · exact ⟨j, j1, by rw [← lc]; exact j2⟩
        have nS := nx_Sz hL hj
        have nlt := Sz_lt nS
        generalize hnx : vnx (rv b (wlk b j)) = nx at *
        have hl2 : lnk (updN F (704 + 18 * x) nx) p (updN c x nx) := by
          intro t t1 t9
          have e1 : updN F (704 + 18 * x) nx (702 + 18 * t) = F (702 + 18 * t) := uNn (by omega)
          unfold ac
          rw [e1]
          by_cases d : t = x
          · subst d
            refine ⟨fun y => ⟨lp, by rw [uNs, uNs]⟩, fun _ y => absurd hac y⟩
          · rw [uNn (show t ≠ x from d), uNn (show 704 + 18 * t ≠ 704 + 18 * x by omega)]
            exact hl t t1 t9
        have hs2 : sum9 (mzA (updN F (704 + 18 * x) nx)) ≤ M := by
          have e1 := sum9_pt (f := mzA F) (g := mzA (updN F (704 + 18 * x) nx)) (t := x) (by omega) hx9 (fun u hu => by
            unfold mzA
            rw [uNn (show 702 + 18 * u ≠ 704 + 18 * x by omega), uNn (show 704 + 18 * u ≠ 704 + 18 * x by omega)])
          have e2 : mzA (updN F (704 + 18 * x) nx) x = nx + 1 := by
            unfold mzA
            rw [uNn (show 702 + 18 * x ≠ 704 + 18 * x by omega), uNs]; exact if_pos hac
          omega
        have hb2 : ∀ j, updN F (704 + 18 * x) nx j < 65536 := fun q => by
          unfold updN
          split
          · have := hL.1.1
            have := wlk_mono (b := b) (show j ≤ k by omega)
            omega
          · exact hb q
        have hc2 : ∀ t, Sz b k (updN c x nx t) := fun t => by
          by_cases d : t = x
          · rw [d, uNs]; exact Sz_mono (by omega) nS
          · rw [uNn d]; exact hc t
        have hI2 : ∀ I L : Nat → Int32, RIh I L p c → RIh I (upd L x (nI nx)) p (updN c x nx) := by
          intro I L hI t t1 t9
          refine ⟨(hI t t1 t9).1, fun y => ?_⟩
          by_cases d : t = x
          · rw [d, pk_us, uNs]
          · rw [pk_un d, uNn d]; exact (hI t t1 t9).2 y
        have hLx : ∀ I L : Nat → Int32, RIh I L p c → L x = nI (wlk b j) := fun I L hI => by rw [(hI x (by omega) hx9).2 lp, lc, hw]
        -- the class from its new cursor on
        have w95 : ∀ (Q : Int32 → S1 → Prop) (w2 : Nat), wp_X1_rolledBack_13 J Q (M + 1) (nI a) (nI w2) (nI (i + 1)) (s5_cursor R (upd (g5_cursor R) x (nI nx))) → wp_X1_rolledBack_95 J (fun x2 x4 x5 u0 => wp_X1_rolledBack_111 J (fun x2 x4 x5 u0 => wp_X1_rolledBack_13 J Q (M + 1) x2 x4 x5 u0) Q x2 x4 x5 u0) Q (nI a) (nI w2) (nI i) (nI x) (nI (wlk b j)) R := by
          intro Q w2 hq
          refine w_ow hJ hL hj ?_
          rw [hnx]
          refine ⟨ivp (by omega) (by omega), fun u hu x5 hx5 => ?_⟩
          rw [nI_clamp (by omega)] at hu
          rw [hx5, nI_1, hu]; exact hq
        -- the reference from its new latest on
        have x38 : ∀ (I L : Nat → Int32), RIh I L p c → ∀ (Q : S11 → Prop) (T2 : Nat → Int32), (∃ N, wp_X11_rollsThought_10 Q N (if fr p (updN c x nx) 9 1 0 = 0 then -1 else nI (fr p (updN c x nx) 9 1 0)) (thR m T2 I (upd L x (nI nx)))) → ∃ N, wp_X11_rollsThought_38 (fun x2 u0 => wp_X11_rollsThought_10 Q N x2 u0) Q (nI x) (thR m T2 I L) := by
          intro I L hI Q T2 hq
          obtain ⟨N, hN⟩ := hq
          refine ⟨N, ivp (by omega) (by omega), ?_⟩
          rw [nI_clamp (by omega), tH1.2.2.1, hLx I L hI]
          refine x_bh (m := thR m T2 I L) (by rw [tH1.2.2.2]; exact hM) hL hj ?_
          rw [hnx]
          refine ⟨ivp (by omega) (by omega), fun u hu => ?_⟩
          rw [tH4] at hu
          rw [hu]
          refine x_fr (hI2 I L hI) (fun t => ?_) hN
          have := Sz_lt (hc2 t)
          have := hL.1.1
          omega
        have xh : ∀ (T I L : Nat → Int32), RIh I L p c → ∀ (Q : S11 → Prop) (N : Nat), (vun (rv b (wlk b j)) = 0 → wp_X11_rollsThought_38 (fun x2 u0 => wp_X11_rollsThought_10 Q N x2 u0) Q (nI x) (thR m T I L)) → (vun (rv b (wlk b j)) = 1 → wp_X11_undoesThought (thR m T I L) (nI (wlk b j)) (fun v_5 => wp_X11_rollsThought_38 (fun x2 u0 => wp_X11_rollsThought_10 Q N x2 u0) Q (nI x) v_5)) → wp_X11_rollsThought_10 Q (N + 1) (if fr p c 9 1 0 = 0 then -1 else nI (fr p c 9 1 0)) (thR m T I L) := by
          intro T I L hI Q N q0 q1
          rw [hfr, if_neg (by omega)]
          refine ⟨fun y => absurd y (nI_m1 (by omega)), fun _ => ⟨ivp (by omega) (by omega), ?_⟩⟩
          rw [nI_clamp (by omega), tH1.2.2.1, hLx I L hI]
          refine x_un (m := thR m T I L) (by rw [tH1.2.2.2]; exact hM) hL hj ?_
          rcases vun_01 (rv b (wlk b j)) with y | y
          · rw [y]; exact ⟨fun _ => q0 y, fun z => absurd rfl z⟩
          · rw [y]; exact ⟨fun z => absurd z (by decide), fun _ => ⟨ivp (by omega) (by omega), q1 y⟩⟩
        have hwk := wlk_mono (b := b) (show j ≤ k by omega)
        have hke := hL.1.1
        rcases vun_01 (rv b (wlk b j)) with y | y
        · obtain ⟨z, z1, z2⟩ := ih (i + 1) (updN F (704 + 18 * x) nx) _ (updN c x nx) tau (RO_cur hR (t := x) (x := nx)) hb2 hl2 hc2 hs2 (by omega) ht
          refine ⟨z, fun Q q => wh Q ⟨fun y => absurd y c0, fun _ => ?_⟩, fun T I L hI hT Q q => ?_⟩
          · rw [← hw]
            refine w_un hJ hL hj ?_
            rw [y]
            exact ⟨fun _ => w95 Q _ (z1 Q q), fun z => absurd rfl z⟩
          · obtain ⟨N, hN⟩ := x38 I L hI Q T (z2 T I _ (hI2 I L hI) hT Q q)
            exact ⟨N + 1, xh T I L hI Q N (fun _ => hN) (fun z => by omega)⟩
        · have hb5 := h5 (wlk b j + 5)
          have hT2 : ∀ T : Nat → Int32, (∀ x, x < 256 → T x = nI (tau x)) → ∀ q, q < 256 → upd T (b (wlk b j + 5)) (nI (unb b (wlk b j) (tau (b (wlk b j + 5))))) q = nI (updN tau (b (wlk b j + 5)) (unb b (wlk b j) (tau (b (wlk b j + 5)))) q) := fun T hT q hq => by
            by_cases d : q = b (wlk b j + 5)
            · rw [d, pk_us, uNs]
            · rw [pk_un d, uNn d]; exact hT q hq
          have ht2 : ∀ q, updN tau (b (wlk b j + 5)) (unb b (wlk b j) (tau (b (wlk b j + 5)))) q < 256 := fun q => by
            unfold updN
            split
            · exact unb_lt h5 _ _
            · exact ht q
          obtain ⟨z, z1, z2⟩ := ih (i + 1) (updN F (704 + 18 * x) nx) _ (updN c x nx) _ (RO_cur hR (t := x) (x := nx)) hb2 hl2 hc2 hs2 (by omega) ht2
          refine ⟨z, fun Q q => wh Q ⟨fun y => absurd y c0, fun _ => ?_⟩, fun T I L hI hT Q q => ?_⟩
          · rw [← hw]
            refine w_un hJ hL hj ?_
            rw [y]
            refine ⟨fun z => absurd z (by decide), fun _ => w_addressAt hJ (by omega) ?_⟩
            have k1 := z1 Q q
            by_cases d : b (wlk b j + 5) = a
            · rw [d, uNs] at k1
              rw [d]
              exact ⟨fun _ => w_undone hJ (by omega) (ht a) (w95 Q _ k1), fun z => absurd rfl z⟩
            · rw [uNn (show a ≠ b (wlk b j + 5) from fun y => d y.symm)] at k1
              exact ⟨fun z => absurd ((nI_eq (by omega) (by omega)).mp z) d, fun _ => w95 Q _ k1⟩
          · obtain ⟨N, hN⟩ := x38 I L hI Q _ (z2 _ I _ (hI2 I L hI) (hT2 T hT) Q q)
            exact ⟨N + 1, xh T I L hI Q N (fun z => by omega) (fun _ => x_undT hM hL hj y hT ht hN)⟩
end
