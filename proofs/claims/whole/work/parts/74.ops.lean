/-! ===== calls on the world: abort, tops, savepoints ===== -/
section
variable {m : S11} {n : Nat → Int32} {pn : Int32} {F F2 : Nat → Nat} {G G2 : Nat → Int32} {b b2 : Nat → Nat} {e f k e2 f2 : Nat} {w : S9}
theorem CW_mk (hC : CW w F G b e f) (ho : txo F2 F) (hG : ∀ k, k < 882 ∨ 1404 ≤ k → G2 k = G k) {J2 : S2} {R2 : S5} {C2 : S0} (hJ : isJ J2 b2 e2 f2) (hR : RO R2 F2) (hCl : RC C2 F2 G2) : CW (s9_journal (s9_roster (s9_claims w C2) R2) J2) F2 G2 b2 e2 f2 := by
  obtain ⟨cJ, cP, cR, cC, cS, cu, cm, co, cr, cc⟩ := hC
  exact ⟨hJ, RP_c cP (fun k hk => ho k (by omega)) (fun k hk => hG k (by omega)), hR, hCl, RS_c cS (fun k hk => ho k (by omega)), by rw [ho 3 (by omega)]; exact cu, by rw [ho 2 (by omega)]; exact cm, by rw [ho 4 (by omega)]; exact co, by rw [hG 8 (by omega)]; exact cr, by rw [hG 9 (by omega)]; exact cc⟩
theorem run_cases (hI : IV F G b e f k) (x : Int32) : (∃ t : Nat, 1 ≤ t ∧ t ≤ 9 ∧ x = nI t ∧ F (702 + 18 * t) = 1 ∧ F 3 = 0) ∨ ∀ t, 1 ≤ t → t ≤ 9 → x = nI t → F (702 + 18 * t) ≠ 1 := by
  rcases party x with hp | ⟨t, h1, h9, rfl⟩
  · refine Or.inr fun t h1 h9 hx => ?_
    rw [hx] at hp
    exfalso
    rcases hp with z | z
    · have z : nI t < nI 1 := z
      have := (nI_ltI (by omega) (by omega)).mp z
      omega
    · have z : nI 9 < nI t := z.2
      have := (nI_ltI (by omega) (by omega)).mp z
      omega
  · by_cases c : F (702 + 18 * t) = 1
    · exact Or.inl ⟨t, h1, h9, rfl, c, no_run hI h1 h9 (by omega)⟩
    · refine Or.inr fun u hu1 hu9 hx => ?_
      have := (nI_eq (by omega) (by omega)).mp hx
      subst this; exact c
theorem x_wtx (h : isR n F G b e f) {t j v : Nat} (h1 : 1 ≤ t) (h9 : t ≤ 9) (hj : j < 18) {K : S11 → Prop} (q : ∀ n2, isR n2 (updN F (702 + 18 * t + j) v) G b e f → K (mS m n2 pn)) : vp_in ((720 : Int32) + 18 * (nI t - 1) + nI j) 10700 ∧ ∀ u2 : S11, u2 = s11_now (mS m n pn) (upd (g11_now (mS m n pn)) ((720 : Int32) + 18 * (nI t - 1) + nI j).toNatClampNeg (nI v)) → K u2 := by
  rw [txA t h1 j]
  refine ⟨ivp (by omega) (by omega), fun u2 hu2 => ?_⟩
  rw [nI_clamp (by omega)] at hu2
  rw [hu2]
  exact q _ (isR_wr h (by unfold nk; omega))
theorem x_wwt (h : isR n F G b e f) {t : Nat} {x : Int32} (h1 : 1 ≤ t) (h9 : t ≤ 9) {K : S11 → Prop} (q : ∀ n2, isR n2 F (upd G (1394 + t) x) b e f → K (mS m n2 pn)) : vp_in ((1394 : Int32) + nI t) 10700 ∧ ∀ u2 : S11, u2 = s11_now (mS m n pn) (upd (g11_now (mS m n pn)) ((1394 : Int32) + nI t).toNatClampNeg x) → K u2 := by
  rw [show (1394 : Int32) + nI t = nI (1394 + t) from nI_add 1394 t]
  refine ⟨ivp (by omega) (by omega), fun u2 hu2 => ?_⟩
  rw [nI_clamp (by omega)] at hu2
  rw [hu2]
  exact q _ (isR_wg h (by unfold gk; omega))
theorem vtx {t : Nat} (h1 : 1 ≤ t) (h9 : t ≤ 9) {j : Nat} (hj : j < 18) : vp_in ((720 : Int32) + 18 * (nI t - 1) + nI j) 10700 ∧ ((720 : Int32) + 18 * (nI t - 1) + nI j).toNatClampNeg = 702 + 18 * t + j := by
  rw [txA t h1 j]
  exact ⟨ivp (by omega) (by omega), nI_clamp (by omega)⟩
theorem sw_7 {n2 : Nat → Int32} {F2 : Nat → Nat} {G2 : Nat → Int32} {b2 : Nat → Nat} {e2 f2 : Nat} (hR : isR n F G b e f) (h2 : isR n2 F2 G2 b2 e2 f2) (h7 : F2 7 = F 7) : n2 7 = n 7 := by rw [h2.2.1 7 (by unfold nk; omega), hR.2.1 7 (by unfold nk; omega), h7]
theorem s_abort (h : SW w n) (x : Int32) : OpR zb w m n (wp_X9_abort w x) (wp_X11_aborts (mS m n pn) x) := by
  obtain ⟨F, G, b, e, f, k, hC, hR, hI⟩ := h
  intro K q Q g
  have ref : K 0 w 0 (mS m n pn) := q 0 w n pn (Or.inl rfl) ⟨F, G, b, e, f, k, hC, hR, hI⟩ rfl rfl
  have hC0 := hC
  obtain ⟨cJ, cP, cR, cC, cS, cu, cm, co, cr, cc⟩ := hC
  obtain ⟨ib, iy, iF, iL, -⟩ := hI.1
  rcases run_cases hI x with ⟨t, h1, h9, rfl, hrun, c3⟩ | hno
  · refine w_run1 cR h1 h9 hrun ⟨fun z => absurd z (by decide), fun _ => ?_⟩
    have hU := UPl_of hI c3
    have hroom := log_room iL hU.2.1
    obtain ⟨u1, u2, u3, u4, u5, u6, u7, u8, u9⟩ := hU.2.2 t h1 h9
    refine w_note (kd := 6) cJ cR ib (by omega) (by omega) h1 h9 fun J2 R2 hJ2 hR2 => ⟨ivp (by omega) (by omega), fun w3 hw3 => ⟨ivp (by omega) (by omega), fun w4 hw4 => ⟨ivp (by omega) (by omega), fun C5 hC5 => ⟨ivp (by omega) (by omega), fun C6 hC6 w7 hw7 => ⟨ivp (by omega) (by omega), fun w8 hw8 => ?_⟩⟩⟩⟩⟩
    rw [nI_clamp (by omega)] at hw3 hw4 hC5 hC6 hw8
    refine g _ _ (Or.inr rfl) ?_
    refine x_go1 hR h1 h9 c3 hrun (by omega) ⟨fun z => absurd z (by decide), fun _ => ?_⟩
    refine x_laysPlain (kd := 6) hR ib (by omega) (by omega) h9 fun n2 p2 r2 => ?_
    rw [prv_t h1] at hJ2 r2
    refine x_wwt r2 h1 h9 fun n3 r3 => x_wtx (j := 0) (v := 2) r3 h1 h9 (by omega) fun n4 r4 => x_wtx (j := 2) (v := e) r4 h1 h9 (by omega) fun n5 r5 => x_wtx (j := 3) (v := 0) r5 h1 h9 (by omega) fun n6 r6 => x_wtx (j := 4) (v := 0) r6 h1 h9 (by omega) fun n7 r7 => ?_
    generalize hFd : updN (updN (updN (updN (lastF F t e) (702 + 18 * t + 0) 2) (702 + 18 * t + 2) e) (702 + 18 * t + 3) 0) (702 + 18 * t + 4) 0 = F7 at r7
    have v0 : F7 (702 + 18 * t) = 2 := by rw [← hFd, uNn (by omega), uNn (by omega), uNn (by omega)]; exact uNs
    have v1 : F7 (703 + 18 * t) = e := by rw [← hFd, uNn (by omega), uNn (by omega), uNn (by omega), uNn (by omega)]; unfold lastF; rw [if_neg (by omega), uNs]
    have v2 : F7 (704 + 18 * t) = e := by rw [← hFd, uNn (by omega), uNn (by omega), show 704 + 18 * t = 702 + 18 * t + 2 by omega, uNs]
    have v3 : F7 (705 + 18 * t) = 0 := by rw [← hFd, uNn (by omega), show 705 + 18 * t = 702 + 18 * t + 3 by omega, uNs]
    have v4 : F7 (706 + 18 * t) = 0 := by rw [← hFd, show 706 + 18 * t = 702 + 18 * t + 4 by omega, uNs]
    have vo : ∀ j, j < 702 + 18 * t ∨ 706 + 18 * t < j → F7 j = F j := fun j hj => by
      rw [← hFd, uNn (by omega), uNn (by omega), uNn (by omega), uNn (by omega)]; unfold lastF; rw [if_neg (by omega), uNn (by omega)]
    have ho : txo F7 F := fun j hj => vo j (by omega)
    have hb7 : ∀ i, F7 i < 65536 := by rw [← hFd]; exact updN_b (updN_b (updN_b (updN_b (lastF_b ib (by omega)) (by omega)) (by omega)) (by omega)) (by omega)
    have hL : Leg (rp b k) (St b k) (ch b) (fun i => (plainR 6 t (F (703 + 18 * t))).getD i 0) := leg_plain (Or.inr (Or.inr (Or.inl rfl))) h1 h9 u2 (fun z => by omega) (fun _ => by omega) (fun z => by omega)
    have hl6 : (plainR 6 t (F (703 + 18 * t))).length = 6 := rfl
    have g0 : (plainR 6 t (F (703 + 18 * t))).getD 0 0 = 6 := sg0 (by simp)
    have hA := LogOK_app iL hU.2.1 (r := plainR 6 t (F (703 + 18 * t))) (seal_1 (by simp)) (by omega) hL (Or.inr (Or.inr (Or.inl g0)))
    have hIB := IB_atx hI.1 hU.2.1 (r := plainR 6 t (F (703 + 18 * t))) (seal_1 (by simp)) (by omega) hL (Or.inr (Or.inr (Or.inl g0))) ho hb7 (Nat.le_refl _) (by have := hI.1.2.2.2.2.1.2; omega)
    rw [hl6] at hIB hA
    have hUP : UPl F7 (appB b e (plainR 6 t (F (703 + 18 * t)))) (e + 6) (k + 1) (fun _ => 65536) := by
      refine UP_step (t := t) hU iL (appB_agr hU.2.1) (by omega) hA.2.1 (ho _ (by omega)) (fun u hu => by rw [hA.2.2.1]; exact plain_ne hu) (fun j j1 j2 j3 => vo j (by omega)) (fun _ _ => ?_)
      have e1 : rp (appB b e (plainR 6 t (F (703 + 18 * t)))) (k + 1) t = (2, e) := by
        rw [hA.2.2.1, lrn_plain h1 h9, if_neg (by omega), if_neg (by omega), if_pos rfl]
      unfold UT
      rw [e1, v0, v1, v2, v3, v4]
      exact ⟨rfl, rfl, by omega, by omega, by omega, fun _ => rfl, fun _ => ⟨Or.inr (St_new hU.2.1), Nat.le_refl _⟩, fun i hi => by omega, fun i j hi hj => by omega⟩
    refine q 1 w8 n7 p2 (Or.inr rfl) ⟨F7, upd G (1394 + t) 0, _, e + 6, f, k + 1, ?_, r7, hIB, Or.inl hUP⟩ (by rw [hw8, hw7, hw4, hw3]) (sw_7 hR r7 (ho 7 (by omega)))
    rw [hw8, hw7, hC6, hC5, hw4, hw3]
    refine CW_mk (G2 := upd G (1394 + t) 0) hC0 ho (fun k hk => pk_un (by omega)) hJ2 ?_ ?_
    · intro u hu1 hu9
      obtain ⟨d1, d2, d3⟩ := hR2 u hu1 hu9
      show upd (g5_is R2) t 2 u = _ ∧ g5_last R2 u = _ ∧ upd (g5_cursor R2) t (nI e) u = _
      by_cases c : u = t
      · subst c
        rw [pk_us, pk_us, v0, v1, v2]
        refine ⟨rfl, ?_, rfl⟩
        rw [d2]; unfold lastF; rw [if_neg (by omega), uNs]
      · rw [pk_un c, pk_un c, vo _ (by omega), vo _ (by omega), vo _ (by omega)]
        exact cR u hu1 hu9 |> fun z => ⟨by rw [d1]; unfold lastF; rw [if_neg (by omega), uNn (by omega)], by rw [d2]; unfold lastF; rw [if_neg (by omega), uNn (by omega)], by rw [d3]; unfold lastF; rw [if_neg (by omega), uNn (by omega)]⟩
    · obtain ⟨a1, a2, a3⟩ := cC
      refine ⟨fun a ha => by rw [pk_un (by omega)]; exact a1 a ha, fun a ha => by rw [pk_un (by omega)]; exact a2 a ha, fun u hu1 hu9 => ?_⟩
      obtain ⟨b1, b2, b3, b4, b5⟩ := a3 u hu1 hu9
      show upd (g0_waits (g9_claims w)) t 0 u = _ ∧ upd (g0_saveCount (g9_claims w)) t 0 u = _ ∧ upd (g0_topCount (g9_claims w)) t 0 u = _ ∧ _
      by_cases c : u = t
      · subst c
        rw [pk_us, pk_us, pk_us, pk_us, v3, v4]
        exact ⟨rfl, rfl, rfl, fun k hk => by omega, fun k hk => by omega⟩
      · rw [pk_un c, pk_un c, pk_un c, pk_un (by omega), vo _ (by omega), vo _ (by omega)]
        exact ⟨b1, b2, b3, fun k hk h8 => by rw [vo _ (by omega)]; exact b4 k hk h8, fun k hk h4 => by rw [vo _ (by omega)]; exact b5 k hk h4⟩
  · exact w_run0 cR ib hno ⟨fun _ => g _ _ (Or.inl rfl) (x_go0 (i := 1) hR ib (by omega) (Or.inr hno) ⟨fun _ => ref, fun z => absurd rfl z⟩), fun z => absurd rfl z⟩
end
