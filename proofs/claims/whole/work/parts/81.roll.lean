/-! ===== rolling back step by step ===== -/
section
variable {m : S11} {n : Nat → Int32} {pn : Int32} {F F2 : Nat → Nat} {G G2 : Nat → Int32} {b b2 : Nat → Nat} {e f k e2 f2 : Nat} {w : S9}
def endA (A : AS) (t : Nat) : AS := (goneF A.1 t, goneG A.2.1 t, appB A.2.2.1 A.2.2.2.1 (plainR 7 t (A.1 (703 + 18 * t))), A.2.2.2.1 + 6, A.2.2.2.2)
def curA (A : AS) (t x : Nat) : AS := (updN A.1 (704 + 18 * t) x, A.2)
def rlA (t : Nat) : Nat → AS → Nat → AS × Nat
  | 0, A, u => (A, u)
  | N + 1, A, u => if nun A.2.2.1 (A.1 (704 + 18 * t)) (A.1 (704 + 18 * t)) = 0 then (endA A t, u + 1) else rlA t N (curA (cmpA A t (nun A.2.2.1 (A.1 (704 + 18 * t)) (A.1 (704 + 18 * t)))) t (pr2 A.2.2.1 (nun A.2.2.1 (A.1 (704 + 18 * t)) (A.1 (704 + 18 * t)) + 3))) (u + 1)
def RI (F : Nat → Nat) (b : Nat → Nat) (e f k t : Nat) : Prop := IB F b e f k ∧ UPl F b e k (fun _ => 65536) ∧ F (702 + 18 * t) = 2
theorem b52 {t j : Nat} (h : IB F b e f k) (h9 : t ≤ 9) (h5 : ∀ i, b i < 256) (hj : j < k) (hu : vun (rv b (wlk b j)) = 1) : ∀ i, appB b e (sealR (cmpL F b t (wlk b j))) i < 256 := fun i => by
  unfold appB
  split
  · exact h5 i
  · unfold sealR
    rw [getD_app]
    split
    · rw [getD_set1 (by simp [cmpL])]
      split
      · simp [cmpL]
      · exact cmpL_lt h.1 h5 h9 (und_rd h.2.2.2.1 hj hu).2.2.1 _
    · split <;> omega
theorem RI_1 {t j : Nat} (h5 : ∀ i, b i < 256) (h1 : 1 ≤ t) (h9 : t ≤ 9) (h : RI F b e f k t) (hj : j < k) (hu : vun (rv b (wlk b j)) = 1) (hc : ch b (wlk b j) ≤ ch b (F (703 + 18 * t))) : e + 11 ≤ 8600 ∧ RI (updN (cmpA (F, G, b, e, f) t (wlk b j)).1 (704 + 18 * t) (pr2 b (wlk b j + 3))) (appB b e (sealR (cmpL F b t (wlk b j)))) (e + 11) (fetf F G b f (b (wlk b j + 5) / 16)) (k + 1) t := by
  obtain ⟨g1, g2, g3⟩ := h
  obtain ⟨ib, iy, iF, iL, i5, -⟩ := id g1
  obtain ⟨u1, u2, u3, u4, u5, u6, u7, u8, u9⟩ := g2.2.2 t h1 h9
  have hfe := fetf_le (G := G) (p := b (wlk b j + 5) / 16) iF (fun s hs => St_in iL hs) i5.2
  obtain ⟨q1, q2, q3, q4, q5, q6⟩ := cmp_IB (G := G) (f2 := fetf F G b f (b (wlk b j + 5) / 16)) g1 g2.2.1 h1 h9 h5 u2 (Or.inr (by omega)) hj hu hc (Nat.le_refl _) (by omega)
  obtain ⟨d1, d2, d3, d4, d5⟩ := und_rd iL hj hu
  have ag := appB_agr (r := sealR (cmpL F b t (wlk b j))) g2.2.1
  have hn := nx_Sz iL hj
  have hnk := Sz_mono (show j ≤ k by omega) hn
  rw [d4] at hnk q5
  have hpr := pr2_lt h5 (wlk b j + 3)
  have tx : ∀ i, i < 16 ∨ 720 ≤ i → i ≠ 704 + 18 * t → i ≠ 703 + 18 * t → updN (cmpA (F, G, b, e, f) t (wlk b j)).1 (704 + 18 * t) (pr2 b (wlk b j + 3)) i = F i := fun i hi h2 h3 => by rw [uNn h2, cmp_tx iF h1 h9 hi, if_neg h3]
  have el : updN (cmpA (F, G, b, e, f) t (wlk b j)).1 (704 + 18 * t) (pr2 b (wlk b j + 3)) (703 + 18 * t) = e := by rw [uNn (by omega), cmp_tx iF h1 h9 (by omega), if_pos rfl]
  refine ⟨q1, IB_tx q2 (updN_txo (by omega) (by omega)) (updN_b q2.1 hpr), ?_, by rw [tx _ (by omega) (by omega) (by omega)]; exact g3⟩
  refine UP_step (t := t) g2 iL ag (by omega) q3 (tx 3 (by omega) (by omega) (by omega)) (fun u hu => by rw [q4]; exact if_neg hu) (fun i i1 i2 i3 => tx i (by omega) (by omega) (by omega)) (fun _ _ => ?_)
  have e4 : rp (appB b e (sealR (cmpL F b t (wlk b j)))) (k + 1) t = ((rp b k t).1, e) := by rw [q4]; exact if_pos rfl
  unfold UT
  rw [e4, el, uNs, tx _ (by omega) (by omega) (by omega), tx (705 + 18 * t) (by omega) (by omega) (by omega), tx (706 + 18 * t) (by omega) (by omega) (by omega)]
  refine ⟨u1, rfl, u3, u4, u5, u6, fun _ => ⟨Sz_mono (show k ≤ k + 1 by omega) (hnk.imp id (St_agr ag (Nat.le_refl _)).mpr), ?_⟩, fun i hi => ?_, fun i i2 hi hi2 => ?_⟩
  · rw [ch_agr iL ag hnk, q5]; exact Nat.le_refl _
  · have := u6 (by omega); omega
  · have := u6 (by omega); omega
theorem RI_e {t : Nat} (h1 : 1 ≤ t) (h9 : t ≤ 9) (h : RI F b e f k t) : e + 6 ≤ 8600 ∧ IB (goneF F t) (appB b e (plainR 7 t (F (703 + 18 * t)))) (e + 6) f (k + 1) ∧ UPl (goneF F t) (appB b e (plainR 7 t (F (703 + 18 * t)))) (e + 6) (k + 1) (fun _ => 65536) := by
  obtain ⟨g1, g2, g3⟩ := h
  have iL := g1.2.2.2.1
  obtain ⟨u1, u2, u3, u4, u5, u6, u7, u8, u9⟩ := g2.2.2 t h1 h9
  obtain ⟨q1, q2, q3⟩ := gone_step g1 g2.2.1 h1 h9 u2 (by omega)
  have hr := log_room iL g2.2.1
  refine ⟨by omega, q1, UP_step (t := t) g2 iL (appB_agr g2.2.1) (by omega) q2 (goneF_txo h1 h9 _ (by omega)) (fun u hu => by rw [q3]; exact if_neg hu) (fun j j1 j2 j3 => by unfold goneF; rw [if_neg (by omega)]) (fun _ _ => UT_gone h1 ?_)⟩
  rw [q3]; exact if_pos rfl
/-- THE CURSOR's next record 2, 3 -/
theorem RI_c {t : Nat} (h1 : 1 ≤ t) (h9 : t ≤ 9) (h : RI F b e f k t) : Sz b k (F (704 + 18 * t)) ∧ (nun b (F (704 + 18 * t)) (F (704 + 18 * t)) = 0 ∨ ∃ j, j < k ∧ nun b (F (704 + 18 * t)) (F (704 + 18 * t)) = wlk b j ∧ vun (rv b (wlk b j)) = 1 ∧ ch b (wlk b j) ≤ ch b (F (703 + 18 * t))) := by
  obtain ⟨g1, g2, g3⟩ := h
  obtain ⟨u1, u2, u3, u4, u5, u6, u7, u8, u9⟩ := g2.2.2 t h1 h9
  obtain ⟨c1, c2⟩ := u7 g3
  obtain ⟨n1, n2, n3, n4⟩ := nun_ok g1.2.2.2.1 _ _ (Nat.le_refl _) c1
  refine ⟨c1, ?_⟩
  rcases n1 with z | ⟨j, hj, hz⟩
  · exact Or.inl z
  · refine Or.inr ⟨j, hj, hz.symm, ?_, ?_⟩
    · rw [hz]
      have h8 := wlk_8 (b := b) j
      exact n4 (by omega)
    · rw [hz, n3]; exact c2
theorem rlA_ok {t : Nat} (h1 : 1 ≤ t) (h9 : t ≤ 9) : ∀ N F G b e f k u, (∀ i, b i < 256) → RI F b e f k t → ∃ k2, IB (rlA t N (F, G, b, e, f) u).1.1 (rlA t N (F, G, b, e, f) u).1.2.2.1 (rlA t N (F, G, b, e, f) u).1.2.2.2.1 (rlA t N (F, G, b, e, f) u).1.2.2.2.2 k2 ∧ UPl (rlA t N (F, G, b, e, f) u).1.1 (rlA t N (F, G, b, e, f) u).1.2.2.1 (rlA t N (F, G, b, e, f) u).1.2.2.2.1 k2 (fun _ => 65536) ∧ (∀ j, j < 16 ∨ 882 ≤ j → (rlA t N (F, G, b, e, f) u).1.1 j = F j) ∧ (∀ j, j ≠ 6 → j < 560 → (rlA t N (F, G, b, e, f) u).1.2.1 j = G j) := by
  intro N
  induction N with
  | zero => intro F G b e f k u h5 h; exact ⟨k, h.1, h.2.1, fun _ _ => rfl, fun _ _ _ => rfl⟩
  | succ N ih =>
    intro F G b e f k u h5 h
    obtain ⟨c1, c2⟩ := RI_c h1 h9 h
    unfold rlA
    rcases c2 with z | ⟨j, hj, hz, hu, hc⟩
    · have ez : nun (F, G, b, e, f).2.2.1 ((F, G, b, e, f).1 (704 + 18 * t)) ((F, G, b, e, f).1 (704 + 18 * t)) = 0 := z
      rw [if_pos ez]
      obtain ⟨r1, r2, r3⟩ := RI_e h1 h9 h
      exact ⟨k + 1, r2, r3, fun j hj => goneF_txo h1 h9 j (by omega), fun j j1 j2 => goneG_o h1 h9 (by omega)⟩
    · have ez : nun (F, G, b, e, f).2.2.1 ((F, G, b, e, f).1 (704 + 18 * t)) ((F, G, b, e, f).1 (704 + 18 * t)) = wlk b j := hz
      have h8 := wlk_8 (b := b) j
      rw [ez, if_neg (by omega)]
      have iF := h.1.2.2.1
      obtain ⟨r1, r2⟩ := RI_1 (G := G) h5 h1 h9 h hj hu hc
      obtain ⟨k2, s1, s2, s3, s4⟩ := ih (updN (cmpA (F, G, b, e, f) t (wlk b j)).1 (704 + 18 * t) (pr2 b (wlk b j + 3))) (fetG F G (b (wlk b j + 5) / 16)) (appB b e (sealR (cmpL F b t (wlk b j)))) (e + 11) (fetf F G b f (b (wlk b j + 5) / 16)) (k + 1) (u + 1) (b52 h.1 h9 h5 hj hu) r2
      refine ⟨k2, s1, s2, fun i hi => ?_, fun i i1 i2 => ?_⟩
      · exact (s3 i hi).trans (by rw [uNn (by omega), cmp_tx iF h1 h9 (by omega), if_neg (by omega)])
      · exact (s4 i i1 i2).trans (fetG_out iF i1 (by omega))
theorem RO_cur {R : S5} (h : RO R F) {t x : Nat} : RO (s5_cursor R (upd (g5_cursor R) t (nI x))) (updN F (704 + 18 * t) x) := by
  intro u h1 h9
  obtain ⟨c1, c2, c3⟩ := h u h1 h9
  rw [uNn (j := 702 + 18 * u) (by omega), uNn (j := 703 + 18 * u) (by omega)]
  refine ⟨c1, c2, ?_⟩
  show upd (g5_cursor R) t (nI x) u = _
  by_cases c : u = t
  · subst c; rw [pk_us, uNs]
  · rw [pk_un c, uNn (by omega)]; exact c3
theorem RC_cmp {C : S0} {Sp : Nat → Prop} {t s x : Nat} (h : RC C F G) (hI : IFr F Sp) (h1 : 1 ≤ t) (h9 : t ≤ 9) : RC C (updN (cmpA (F, G, b, e, f) t s).1 (704 + 18 * t) x) (fetG F G (b (s + 5) / 16)) := by
  refine RC_c (RC_o (F2 := updN (cmpA (F, G, b, e, f) t s).1 (704 + 18 * t) x) h fun u j hu1 hu9 h3 h18 => ?_) (fun _ _ _ => rfl) (fun j j1 j2 => fetG_out hI (by omega) (by omega))
  rw [uNn (by omega), cmp_tx hI h1 h9 (by omega), if_neg (by omega)]
theorem w_rl {t : Nat} (h1 : 1 ≤ t) (h9 : t ≤ 9) {M : Nat} (hM : M ≤ 20) {Q : Int32 → S9 → Prop} : ∀ N F G b e f k u (w : S9), N + u = M → RI F b e f k t → isJ (g9_journal w) b e f → RP (g9_pages w) F G → RO (g9_roster w) F → RC (g9_claims w) F G →
    (∀ J2 P2 R2 C2, isJ J2 (rlA t N (F, G, b, e, f) u).1.2.2.1 (rlA t N (F, G, b, e, f) u).1.2.2.2.1 (rlA t N (F, G, b, e, f) u).1.2.2.2.2 → RP P2 (rlA t N (F, G, b, e, f) u).1.1 (rlA t N (F, G, b, e, f) u).1.2.1 → RO R2 (rlA t N (F, G, b, e, f) u).1.1 → RC C2 (rlA t N (F, G, b, e, f) u).1.1 (rlA t N (F, G, b, e, f) u).1.2.1 → Q (nI (rlA t N (F, G, b, e, f) u).2) (s9_journal (s9_pages (s9_roster (s9_claims w C2) R2) P2) J2)) → wp_X9_rollBack_27 Q (N + 2) (nI t) (nI M) (nI u) (nI u) w := by
  intro N
  induction N with
  | zero =>
    intro F G b e f k u w hN h hJ hP hR hC q
    refine pk_le M u (fun _ => ?_) (fun z => by omega)
    exact q (g9_journal w) (g9_pages w) (g9_roster w) (g9_claims w) hJ hP hR hC
  | succ N ih =>
    intro F G b e f k u w hN h hJ hP hR hC q
    have iL := h.1.2.2.2.1
    have iF := h.1.2.2.1
    obtain ⟨c1, c2⟩ := RI_c h1 h9 h
    unfold rlA at q
    refine pk_le M u (fun z => by omega) (fun _ => ⟨ivp (by omega) (by omega), ?_⟩)
    rw [nI_clamp (by omega), (hR t h1 h9).1, (hR t h1 h9).2.2, h.2.2]
    refine ⟨fun _ => ⟨ivp (by omega) (by omega), w_nextUndoable hJ iL c1 ?_⟩, fun z => absurd rfl z⟩
    rcases c2 with z | ⟨j, hj, hz, hu, hc⟩
    · have ez : nun (F, G, b, e, f).2.2.1 ((F, G, b, e, f).1 (704 + 18 * t)) ((F, G, b, e, f).1 (704 + 18 * t)) = 0 := z
      rw [if_pos ez] at q
      rw [z]
      obtain ⟨r1, r2, r3⟩ := RI_e h1 h9 h
      refine ⟨fun _ => w_endOf hJ hR hC h.1.1 r1 h1 h9 fun J2 R2 C2 hJ2 hR2 hC2 y hy y2 hy2 => ?_, fun z => absurd rfl z⟩
      rw [hy, hy2, nI_1]
      have qq := q J2 (g9_pages w) R2 C2 hJ2 (RP_c hP (fun i hi => goneF_txo h1 h9 i (by omega)) (fun i hi => goneG_o h1 h9 (by omega))) hR2 hC2
      refine ⟨fun _ => qq, fun _ => ⟨ivp (by omega) (by omega), ?_⟩⟩
      have e0 : g5_is R2 t = 0 := by
        rw [(hR2 t h1 h9).1]
        unfold goneF
        rw [if_pos (by omega)]; rfl
      rw [nI_clamp (by omega)]
      show (g5_is R2 t = 2 → _) ∧ _
      rw [e0]
      exact ⟨fun z => absurd z (by decide), fun _ => qq⟩
    · have ez : nun (F, G, b, e, f).2.2.1 ((F, G, b, e, f).1 (704 + 18 * t)) ((F, G, b, e, f).1 (704 + 18 * t)) = wlk b j := hz
      have h8 := wlk_8 (b := b) j
      rw [ez, if_neg (by omega)] at q
      rw [hz]
      obtain ⟨r1, r2⟩ := RI_1 (G := G) hJ.2.2.2.2.1 h1 h9 h hj hu hc
      obtain ⟨d1, d2, d3, d4, d5⟩ := und_rd iL hj hu
      have he := hJ.2.2.1
      refine pk_eq (wlk b j) 0 (fun z => by omega) (fun _ => ?_)
      refine w_compensate hJ hP hR iF (fun s hs => St_in iL hs) h.1.1 h.1.2.1 h.1.2.2.2.2.1.2 h1 h9 d2 d1 d3 r1 fun J2 P2 R2 hJ2 hP2 hR2 => ?_
      have ag := appB_agr (r := sealR (cmpL F b t (wlk b j))) h.2.1.2.1
      have ew : wlk (appB b e (sealR (cmpL F b t (wlk b j)))) j = wlk b j := wlk_agr ag j (by omega)
      have := w_ow (J := J2) hJ2 r2.1.2.2.2.1 (show j < k + 1 by omega) (Q := fun r_5 => vp_in (nI t) 10 ∧ ∀ u0_6 : S9, u0_6 = s9_roster (s9_journal (s9_pages (s9_roster w R2) P2) J2) (s5_cursor R2 (upd (g5_cursor R2) (nI t).toNatClampNeg r_5)) → wp_X9_rollBack_102 (fun x1 x2 x3 x4 u0 => wp_X9_rollBack_27 Q (N + 2) x1 x2 x3 x4 u0) Q (nI t) (nI M) (nI u) (nI u) u0_6) ?_
      · rw [ew] at this
        rw [nI_clamp (by omega)] at this
        exact this
      · refine ⟨ivp (by omega) (by omega), fun w4 hw4 y hy y2 hy2 => ?_⟩
        rw [nI_clamp (by omega), ew, rvw_agr ag hj, d4] at hw4
        rw [hw4, hy, hy2, nI_1]
        refine ih _ (fetG F G (b (wlk b j + 5) / 16)) _ _ _ (k + 1) (u + 1) (s9_roster (s9_journal (s9_pages (s9_roster w R2) P2) J2) (s5_cursor R2 (upd (g5_cursor R2) t (nI (pr2 b (wlk b j + 3)))))) (by omega) r2 hJ2 ?_ (RO_cur hR2) (RC_cmp hC iF h1 h9) q
        exact RP_c hP2 (fun i hi => uNn (by omega)) (fun _ _ => rfl)
theorem x_nu {k_29 : Int32 → Int32 → Int32 → S11 → Prop} {Q : Int32 → S11 → Prop} {x1 x2 x3 : Int32} (h : isM (g11_now m) b e f) (hL : LogOK b e k) : ∀ N c, c ≤ N → Sz b k c → wp_X11_roll_73 k_29 Q x1 x2 x3 (nI (nun b N c)) m → wp_X11_roll_48 k_29 Q (N + 1) x1 x2 x3 (nI c) m := by
  have he := h.2.2.2.2.1
  have h1 := hL.1.1
  intro N
  induction N with
  | zero =>
    intro c hN hc q
    obtain rfl : c = 0 := by omega
    exact pk_le 0 0 (fun _ => q) (fun z => by omega)
  | succ N ih =>
    intro c hN hc q
    have hlt := Sz_lt hc
    unfold nun at q
    refine pk_le c 0 (fun z => ?_) (fun z => ?_)
    · rw [if_pos (by omega)] at q
      obtain rfl : c = 0 := by omega
      exact q
    · rw [if_neg (by omega)] at q
      rcases hc with z2 | ⟨j, hj, rfl⟩
      · omega
      · have hn := nx_Sz hL hj
        have hl := Sz_lt hn
        refine x_un h hL hj ?_
        rcases vun_01 (rv b (wlk b j)) with u | u
        · rw [u] at q ⊢
          refine ⟨fun _ => x_bh h hL hj ?_, fun z => absurd rfl z⟩
          exact ih _ (by omega) (Sz_mono (by omega) hn) q
        · rw [u] at q ⊢
          exact ⟨fun z => absurd z (by decide), fun _ => q⟩
theorem x_rl {t : Nat} (h1 : 1 ≤ t) (h9 : t ≤ 9) {M : Nat} (hM : M ≤ 20) {Q : Int32 → S11 → Prop} : ∀ N F G b e f k u n pn, N + u = M → RI F b e f k t → isR n F G b e f → (∀ n2 p2, isR n2 (rlA t N (F, G, b, e, f) u).1.1 (rlA t N (F, G, b, e, f) u).1.2.1 (rlA t N (F, G, b, e, f) u).1.2.2.1 (rlA t N (F, G, b, e, f) u).1.2.2.2.1 (rlA t N (F, G, b, e, f) u).1.2.2.2.2 → Q (nI (rlA t N (F, G, b, e, f) u).2) (mS m n2 p2)) → wp_X11_roll_29 Q (N + 1) (nI t) (nI M) (nI u) (mS m n pn) := by
  intro N
  have ea : (720 : Int32) + 18 * (nI t - 1) + 2 = nI (704 + 18 * t) := by rw [show (720 : Int32) + 18 * (nI t - 1) + 2 = nI (702 + 18 * t + 2) from txA t h1 2]; congr 1; omega
  induction N with
  | zero =>
    intro F G b e f k u n pn hN h hR q
    exact pk_le M u (fun _ => q n pn hR) (fun z => by omega)
  | succ N ih =>
    intro F G b e f k u n pn hN h hR q
    have iL := h.1.2.2.2.1
    have iF := h.1.2.2.1
    obtain ⟨c1, c2⟩ := RI_c h1 h9 h
    unfold rlA at q
    refine pk_le M u (fun z => by omega) (fun _ => ?_)
    simp only [wp_X11_txAt]
    rw [ea, nI_clamp (by omega), gmS, hR.2.1 _ (show nk (704 + 18 * t) by unfold nk; omega)]
    refine ⟨ivp (by omega) (by omega), fun y hy => ⟨F (704 + 18 * t) + 1, ?_⟩⟩
    rw [hy]
    refine x_nu (m := mS m n pn) hR.1 iL _ _ (Nat.le_refl _) c1 ?_
    intro y2 hy2
    rw [hy2, nI_1]
    rcases c2 with z | ⟨j, hj, hz, hu, hc⟩
    · have ez : nun (F, G, b, e, f).2.2.1 ((F, G, b, e, f).1 (704 + 18 * t)) ((F, G, b, e, f).1 (704 + 18 * t)) = 0 := z
      rw [if_pos ez] at q
      rw [z]
      obtain ⟨r1, r2, r3⟩ := RI_e h1 h9 h
      exact ⟨fun _ => x_endOf hR h.1.1 r1 h1 h9 fun n2 p2 r => q n2 p2 r, fun z => absurd rfl z⟩
    · have ez : nun (F, G, b, e, f).2.2.1 ((F, G, b, e, f).1 (704 + 18 * t)) ((F, G, b, e, f).1 (704 + 18 * t)) = wlk b j := hz
      have h8 := wlk_8 (b := b) j
      rw [ez, if_neg (by omega)] at q
      rw [hz]
      obtain ⟨r1, r2⟩ := RI_1 (G := G) hR.1.2.2.2.2.2.2.2.1 h1 h9 h hj hu hc
      obtain ⟨d1, d2, d3, d4, d5⟩ := und_rd iL hj hu
      have he := hR.1.2.2.2.2.1
      refine pk_eq (wlk b j) 0 (fun z => by omega) (fun _ => ?_)
      refine x_stepsBack (o := false) hR iF (fun s hs => St_in iL hs) h.1.1 h.1.2.1 h.1.2.2.2.2.1.2 h1 h9 d2 d1 d3 r1 fun n2 p2 s2 => ?_
      simp only [wp_X11_txAt]
      have ep : pr2 (appB b e (sealR (cmpL F b t (wlk b j)))) (wlk b j + 3) = pr2 b (wlk b j + 3) := by
        unfold pr2 appB
        rw [if_pos (by omega), if_pos (by omega)]
      rw [show nI (wlk b j) + 3 = nI (wlk b j + 3) from nI_add _ 3]
      refine x_two (m := mS m n2 p2) s2.1 (by omega) ?_
      rw [ep, ea]
      refine ⟨ivp (by omega) (by omega), fun v hv => ?_⟩
      rw [nI_clamp (by omega)] at hv
      rw [hv]
      exact ih _ (fetG F G (b (wlk b j + 5) / 16)) _ _ _ (k + 1) (u + 1) _ p2 (by omega) r2 (isR_wr s2 (by unfold nk; omega)) q
theorem s_roll (h : SW w n) (x : Int32) {M : Nat} (hM1 : 1 ≤ M) (hM : M ≤ 20) : OpR (fun _ => True) w (s11_told m 0) n (wp_X9_rollBack w x (nI M)) (wp_X11_roll (mS m n pn) x (nI M)) := by
  obtain ⟨F, G, b, e, f, k, hC, hR, hI⟩ := h
  intro K q Q g
  have ref : K (-1) w (-1) (mS (s11_told m 0) n pn) := q (-1) w n pn trivial ⟨F, G, b, e, f, k, hC, hR, hI⟩ rfl rfl
  have hC0 := hC
  obtain ⟨cJ, cP, cR, cC, cS, cu, cm, co, cr, cc⟩ := hC
  obtain ⟨ib, iy, iF, iL, -⟩ := hI.1
  have xr : ∀ {K2 : Int32 → S11 → Prop}, (F 3 ≠ 0 ∨ ∀ t, 1 ≤ t → t ≤ 9 → x = nI t → F (702 + 18 * t) ≠ 2) → K2 (-1) (mS (s11_told m 0) n pn) → wp_X11_roll (mS m n pn) x (nI M) K2 := by
    intro K2 hz k0 v1 hv1
    have hv1 : v1 = mS (s11_told m 0) n pn := hv1
    rw [hv1]
    exact x_isIn1 (lo := 1) (hi := 20) rfl (by omega) (by omega) hM1 hM ⟨fun z => absurd z (by decide), fun _ => x_go0 (i := 2) hR ib (by omega) hz ⟨fun _ => k0, fun z => absurd rfl z⟩⟩
  rcases party x with hp | ⟨t, h1, h9, rfl⟩
  · refine w_party0 hp ⟨fun _ => g _ _ trivial (xr (Or.inr fun t h1 h9 hx => ?_) ref), fun z => absurd rfl z⟩
    rw [hx] at hp
    exfalso
    rcases hp with z | z
    · have z : nI t < nI 1 := z
      have := (nI_ltI (by omega) (by omega)).mp z
      omega
    · have z : nI 9 < nI t := z.2
      have := (nI_ltI (by omega) (by omega)).mp z
      omega
  · have ibt := ib (702 + 18 * t)
    refine w_party1 h1 h9 ⟨fun z => absurd z (by decide), fun _ => ⟨ivp (by omega) (by omega), ?_⟩⟩
    rw [nI_clamp (by omega), (cR t h1 h9).1]
    refine pk_eq (F (702 + 18 * t)) 2 (fun c2 => ⟨M + 2, ?_⟩) (fun c2 => g _ _ trivial (xr (Or.inr fun u hu1 hu9 hx => ?_) ref))
    · have c3 := no_run hI h1 h9 (by omega)
      have hU := UPl_of hI c3
      have hRI : RI F b e f k t := ⟨hI.1, hU, c2⟩
      obtain ⟨k2, s1, s2, s3, s4⟩ := rlA_ok h1 h9 M F G b e f k 0 cJ.2.2.2.2.1 hRI
      refine w_rl h1 h9 hM M F G b e f k 0 w (by omega) hRI cJ cP cR cC fun J2 P2 R2 C2 hJ2 hP2 hR2 hC2 => ?_
      refine g _ _ trivial ?_
      intro v1 hv1
      have hv1 : v1 = mS (s11_told m 0) n pn := hv1
      rw [hv1]
      refine x_isIn1 (lo := 1) (hi := 20) rfl (by omega) (by omega) hM1 hM ⟨fun z => absurd z (by decide), fun _ => x_go1 hR h1 h9 c3 c2 (by omega) ⟨fun z => absurd z (by decide), fun _ => ⟨M + 1, ?_⟩⟩⟩
      refine x_rl h1 h9 hM M F G b e f k 0 n pn (by omega) hRI hR fun n2 p2 r2 => ?_
      refine q _ _ n2 p2 trivial ⟨_, _, _, _, _, k2, ?_, r2, s1, Or.inl s2⟩ rfl (sw_7 hR r2 (s3 7 (by omega)))
      refine ⟨hJ2, hP2, hR2, hC2, RS_c cS (fun j hj => s3 j (by omega)), by rw [s3 3 (by omega)]; exact cu, by rw [s3 2 (by omega)]; exact cm, by rw [s3 4 (by omega)]; exact co, by rw [s4 8 (by omega) (by omega)]; exact cr, by rw [s4 9 (by omega) (by omega)]; exact cc⟩
    · have := (nI_eq (by omega) (by omega)).mp hx
      subst this
      exact c2
end
