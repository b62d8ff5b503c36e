/-! ===== calls on the world: tops, savepoints, commit ===== -/
section
variable {m : S11} {n : Nat → Int32} {pn : Int32} {F F2 : Nat → Nat} {G G2 : Nat → Int32} {b b2 : Nat → Nat} {e f k e2 f2 : Nat} {w : S9}
theorem CW_cl (hC : CW w F G b e f) (ho : txo F2 F) (hG : ∀ k, k < 882 ∨ 1404 ≤ k → G2 k = G k) {C2 : S0} (hR : RO (g9_roster w) F2) (hCl : RC C2 F2 G2) : CW (s9_claims w C2) F2 G2 b e f := CW_mk hC ho hG hC.1 hR hCl
theorem RO_o {R : S5} (h : RO R F) (hF : ∀ u j, 1 ≤ u → u ≤ 9 → j < 3 → F2 (702 + 18 * u + j) = F (702 + 18 * u + j)) : RO R F2 := fun u h1 h9 => by
  have e0 := hF u 0 h1 h9 (by omega)
  have e1 := hF u 1 h1 h9 (by omega)
  have e2 := hF u 2 h1 h9 (by omega)
  rw [show 702 + 18 * u + 0 = 702 + 18 * u by omega] at e0
  rw [show 702 + 18 * u + 1 = 703 + 18 * u by omega] at e1
  rw [show 702 + 18 * u + 2 = 704 + 18 * u by omega] at e2
  rw [e0, e1, e2]; exact h u h1 h9
theorem s_openTop (h : SW w n) (x : Int32) : OpR zb w m n (wp_X9_openTop w x) (wp_X11_opensTop (mS m n pn) x) := by
  obtain ⟨F, G, b, e, f, k, hC, hR, hI⟩ := h
  intro K q Q g
  have ref : K 0 w 0 (mS m n pn) := q 0 w n pn (Or.inl rfl) ⟨F, G, b, e, f, k, hC, hR, hI⟩ rfl rfl
  have hC0 := hC
  obtain ⟨cJ, cP, cR, cC, cS, cu, cm, co, cr, cc⟩ := hC
  obtain ⟨ib, iy, iF, iL, -⟩ := hI.1
  rcases run_cases hI x with ⟨t, h1, h9, rfl, hrun, c3⟩ | hno
  · have hU := UPl_of hI c3
    obtain ⟨u1, u2, u3, u4, u5, u6, u7, u8, u9⟩ := hU.2.2 t h1 h9
    obtain ⟨a1, a2, a3⟩ := cC
    obtain ⟨b1, b2, b3, b4, b5⟩ := a3 t h1 h9
    have m4 : ((720 : Int32) + 18 * (nI t - 1) + 4).toNatClampNeg = 706 + 18 * t := by rw [(vtx h1 h9 (j := 4) (by omega)).2 |> fun z => show ((720 : Int32) + 18 * (nI t - 1) + 4).toNatClampNeg = 702 + 18 * t + 4 from z]; omega
    have m1 : ((720 : Int32) + 18 * (nI t - 1) + 1).toNatClampNeg = 703 + 18 * t := by rw [(vtx h1 h9 (j := 1) (by omega)).2 |> fun z => show ((720 : Int32) + 18 * (nI t - 1) + 1).toNatClampNeg = 702 + 18 * t + 1 from z]; omega
    have x4 : n (706 + 18 * t) = nI (F (706 + 18 * t)) := hR.2.1 _ (by unfold nk; omega)
    have x1 : n (703 + 18 * t) = nI (F (703 + 18 * t)) := hR.2.1 _ (by unfold nk; omega)
    refine w_run1 cR h1 h9 hrun ⟨fun z => absurd z (by decide), fun _ => ⟨ivp (by omega) (by omega), ivp (by omega) (by omega), ?_⟩⟩
    rw [nI_clamp (by omega), (cR t h1 h9).2.1, b3]
    have xgo : ∀ {K2 : Int32 → S11 → Prop}, (F (706 + 18 * t) = 4 → K2 0 (mS m n pn)) → (F (706 + 18 * t) ≠ 4 → ∀ n2, isR n2 (updN (updN F (715 + 18 * t + F (706 + 18 * t)) (F (703 + 18 * t))) (706 + 18 * t) (F (706 + 18 * t) + 1)) G b e f → K2 1 (mS m n2 pn)) → wp_X11_opensTop (mS m n pn) (nI t) K2 := by
      intro K2 k0 k1
      refine x_go1 hR h1 h9 c3 hrun (by omega) ⟨fun z => absurd z (by decide), fun _ => ?_⟩
      simp only [wp_X11_txAt]
      rw [m4, m1, gmS, x4, x1]
      refine ⟨(vtx h1 h9 (j := 4) (by omega)).1, pk_eq (F (706 + 18 * t)) 4 (fun z => k0 z) (fun z => ⟨(vtx h1 h9 (j := 4) (by omega)).1, (vtx h1 h9 (j := 1) (by omega)).1, ?_⟩)⟩
      have e13 : (720 : Int32) + 18 * (nI t - 1) + 13 + nI (F (706 + 18 * t)) = nI (715 + 18 * t + F (706 + 18 * t)) := by
        rw [show (720 : Int32) + 18 * (nI t - 1) + 13 = nI (702 + 18 * t + 13) from txA t h1 13, nI_add]; congr 1; omega
      rw [e13]
      refine ⟨ivp (by omega) (by omega), fun v2 hv2 => ?_⟩
      rw [nI_clamp (by omega)] at hv2
      rw [hv2]
      have r1 := isR_wr (k := 715 + 18 * t + F (706 + 18 * t)) (x := F (703 + 18 * t)) hR (by unfold nk; omega)
      refine ⟨(vtx h1 h9 (j := 4) (by omega)).1, (vtx h1 h9 (j := 4) (by omega)).1, fun v3 hv3 => ?_⟩
      have e5 : v3 = mS m (upd (upd n (715 + 18 * t + F (706 + 18 * t)) (nI (F (703 + 18 * t)))) (706 + 18 * t) (nI (F (706 + 18 * t) + 1))) pn := by
        rw [hv3]
        show mS m (upd (upd n (715 + 18 * t + F (706 + 18 * t)) (nI (F (703 + 18 * t)))) (706 + 18 * t) ((upd n (715 + 18 * t + F (706 + 18 * t)) (nI (F (703 + 18 * t)))) (706 + 18 * t) + 1)) pn = _
        rw [pk_un (j := 706 + 18 * t) (by omega), x4, nI_1]
      rw [e5]
      exact k1 z _ (isR_wr r1 (by unfold nk; omega))
    refine pk_lt (F (706 + 18 * t)) 4 (fun z => ⟨ivp (by omega) (by omega), ?_⟩) (fun z => fun w2 hw2 => ?_)
    · have e4 : nI t * 4 + nI (F (706 + 18 * t)) = nI (4 * t + F (706 + 18 * t)) := by
        show nI t * nI 4 + _ = _
        rw [pk_mul, nI_add, Nat.mul_comm]
      rw [e4]
      refine ⟨ivp (by omega) (by omega), fun C1 hC1 => ⟨ivp (by omega) (by omega), ivp (by omega) (by omega), fun C2 hC2 w2 hw2 => ⟨fun y => absurd y (by decide), fun _ => ?_⟩⟩⟩
      rw [nI_clamp (by omega)] at hC1 
      refine g _ _ (Or.inr rfl) (xgo (fun y => by omega) fun _ n2 r2 => ?_)
      generalize hFd : updN (updN F (715 + 18 * t + F (706 + 18 * t)) (F (703 + 18 * t))) (706 + 18 * t) (F (706 + 18 * t) + 1) = F7 at r2
      have v4 : F7 (706 + 18 * t) = F (706 + 18 * t) + 1 := by rw [← hFd, uNs]
      have vn : F7 (715 + 18 * t + F (706 + 18 * t)) = F (703 + 18 * t) := by rw [← hFd, uNn (by omega), uNs]
      have vo : ∀ j, j ≠ 706 + 18 * t → j ≠ 715 + 18 * t + F (706 + 18 * t) → F7 j = F j := fun j j1 j2 => by rw [← hFd, uNn j1, uNn j2]
      have ho : txo F7 F := fun j hj => vo j (by omega) (by omega)
      have hb7 : ∀ i, F7 i < 65536 := by rw [← hFd]; exact updN_b (updN_b ib (ib _)) (by omega)
      have hUP : UPl F7 b e k (fun _ => 65536) := by
        refine UP_step (t := t) hU iL (fun _ _ => rfl) (Nat.le_refl _) hU.2.1 (ho _ (by omega)) (fun u hu => rfl) (fun j j1 j2 j3 => vo j (by omega) (by omega)) (fun _ _ => ?_)
        unfold UT
        rw [v4, vo _ (by omega) (by omega), vo (703 + 18 * t) (by omega) (by omega), vo (704 + 18 * t) (by omega) (by omega), vo (705 + 18 * t) (by omega) (by omega)]
        refine ⟨u1, u2, u3, u4, by omega, fun y => absurd hrun y, u7, fun i hi hm => ?_, fun i j hij hj => ?_⟩
        · by_cases d : i = F (706 + 18 * t)
          · subst d; rw [vn]; exact onC_r _
          · rw [vo _ (by omega) (by omega)] at hm ⊢
            exact u8 i (by omega) hm
        · by_cases d : j = F (706 + 18 * t)
          · subst d
            rw [vn]
            by_cases d2 : i = F (706 + 18 * t)
            · subst d2; rw [vn]; exact Nat.le_refl _
            · rw [vo _ (by omega) (by omega)]
              have := onC_le iL (by rw [u2]; exact (rp_Sz k t).1) (u8 i (by omega) (by have := ib (715 + 18 * t + i); show _ ≤ 65536; omega))
              exact this.2.1
          · rw [vo _ (by omega) (by omega), vo _ (by omega) (by omega)]
            exact u9 i j hij (by omega)
      refine q 1 w2 n2 pn (Or.inr rfl) ⟨F7, G, b, e, f, k, ?_, r2, IB_tx hI.1 ho hb7, Or.inl hUP⟩ (by rw [hw2]) (sw_7 hR r2 (ho 7 (by omega)))
      rw [hw2, hC2, hC1]
      refine CW_cl (G2 := G) hC0 ho (fun _ _ => rfl) (RO_o cR fun u j hu1 hu9 hj => vo _ (by omega) (by omega)) ?_
      refine ⟨a1, a2, fun u hu1 hu9 => ?_⟩
      obtain ⟨d1, d2, d3, d4, d5⟩ := a3 u hu1 hu9
      show g0_waits (g9_claims w) u = _ ∧ g0_saveCount (g9_claims w) u = _ ∧ upd (g0_topCount (g9_claims w)) t (g0_topCount (g9_claims w) t + 1) u = _ ∧ (∀ k, _ → _ → g0_saves (g9_claims w) (8 * u + k) = _) ∧ ∀ k, _ → _ → upd (g0_tops (g9_claims w)) (4 * t + F (706 + 18 * t)) (nI (F (703 + 18 * t))) (4 * u + k) = _
      by_cases c : u = t
      · subst c
        rw [pk_us, b3, nI_1, v4, vo _ (by omega) (by omega)]
        refine ⟨d1, d2, rfl, fun k hk h8 => by rw [vo _ (by omega) (by omega)]; exact d4 k hk h8, fun k hk h4 => ?_⟩
        by_cases d : k = F (706 + 18 * u)
        · subst d; rw [pk_us, vn]
        · rw [pk_un (by omega), vo _ (by omega) (by omega)]; exact d5 k (by omega) h4
      · rw [pk_un c, vo _ (by omega) (by omega), vo _ (by omega) (by omega)]
        exact ⟨d1, d2, d3, fun k hk h8 => by rw [vo _ (by omega) (by omega)]; exact d4 k hk h8, fun k hk h4 => by rw [pk_un (by omega), vo _ (by omega) (by omega)]; exact d5 k hk h4⟩
    · have ew : w2 = w := hw2
      rw [ew]
      exact ⟨fun _ => g _ _ (Or.inl rfl) (xgo (fun _ => ref) fun y => by omega), fun y => absurd rfl y⟩
  · exact w_run0 cR ib hno ⟨fun _ => g _ _ (Or.inl rfl) (x_go0 (i := 1) hR ib (by omega) (Or.inr hno) ⟨fun _ => ref, fun z => absurd rfl z⟩), fun z => absurd rfl z⟩
theorem s_save (h : SW w n) (x : Int32) : OpR (fun _ => True) w (s11_told m 0) n (wp_X9_putSave w x) (wp_X11_save (mS m n pn) x) := by
  obtain ⟨F, G, b, e, f, k, hC, hR, hI⟩ := h
  intro K q Q g
  have ref : K (-1) w (-1) (mS (s11_told m 0) n pn) := q (-1) w n pn trivial ⟨F, G, b, e, f, k, hC, hR, hI⟩ rfl rfl
  have hC0 := hC
  obtain ⟨cJ, cP, cR, cC, cS, cu, cm, co, cr, cc⟩ := hC
  obtain ⟨ib, iy, iF, iL, -⟩ := hI.1
  rcases run_cases hI x with ⟨t, h1, h9, rfl, hrun, c3⟩ | hno
  · have hU := UPl_of hI c3
    obtain ⟨u1, u2, u3, u4, u5, u6, u7, u8, u9⟩ := hU.2.2 t h1 h9
    obtain ⟨a1, a2, a3⟩ := cC
    obtain ⟨b1, b2, b3, b4, b5⟩ := a3 t h1 h9
    have m3 : ((720 : Int32) + 18 * (nI t - 1) + 3).toNatClampNeg = 705 + 18 * t := by rw [(vtx h1 h9 (j := 3) (by omega)).2 |> fun z => show ((720 : Int32) + 18 * (nI t - 1) + 3).toNatClampNeg = 702 + 18 * t + 3 from z]; omega
    have m1 : ((720 : Int32) + 18 * (nI t - 1) + 1).toNatClampNeg = 703 + 18 * t := by rw [(vtx h1 h9 (j := 1) (by omega)).2 |> fun z => show ((720 : Int32) + 18 * (nI t - 1) + 1).toNatClampNeg = 702 + 18 * t + 1 from z]; omega
    have x3 : n (705 + 18 * t) = nI (F (705 + 18 * t)) := hR.2.1 _ (by unfold nk; omega)
    have x1 : n (703 + 18 * t) = nI (F (703 + 18 * t)) := hR.2.1 _ (by unfold nk; omega)
    refine w_run1 cR h1 h9 hrun ⟨fun z => absurd z (by decide), fun _ => ⟨ivp (by omega) (by omega), ivp (by omega) (by omega), ?_⟩⟩
    rw [nI_clamp (by omega), (cR t h1 h9).2.1, b2]
    have xgo : ∀ {K2 : Int32 → S11 → Prop}, (F (705 + 18 * t) = 8 → K2 (-1) (mS (s11_told m 0) n pn)) → (F (705 + 18 * t) ≠ 8 → ∀ n2, isR n2 (updN (updN F (707 + 18 * t + F (705 + 18 * t)) (F (703 + 18 * t))) (705 + 18 * t) (F (705 + 18 * t) + 1)) G b e f → K2 (nI (F (705 + 18 * t))) (mS (s11_told m 0) n2 pn)) → wp_X11_save (mS m n pn) (nI t) K2 := by
      intro K2 k0 k1 v1 hv1
      have hv1 : v1 = mS (s11_told m 0) n pn := hv1
      rw [hv1]
      refine x_go1 hR h1 h9 c3 hrun (by omega) ⟨fun z => absurd z (by decide), fun _ => ?_⟩
      simp only [wp_X11_txAt]
      rw [m3, gmS, x3]
      refine ⟨(vtx h1 h9 (j := 3) (by omega)).1, pk_eq (F (705 + 18 * t)) 8 (fun z => k0 z) (fun z => ⟨(vtx h1 h9 (j := 3) (by omega)).1, fun y hy => ?_⟩)⟩
      rw [hy]
      have e13 : (720 : Int32) + 18 * (nI t - 1) + 5 + nI (F (705 + 18 * t)) = nI (707 + 18 * t + F (705 + 18 * t)) := by
        rw [show (720 : Int32) + 18 * (nI t - 1) + 5 = nI (702 + 18 * t + 5) from txA t h1 5, nI_add]; congr 1; omega
      rw [e13, m1]
      refine ⟨(vtx h1 h9 (j := 1) (by omega)).1, ivp (by omega) (by omega), fun v2 hv2 => ?_⟩
      rw [nI_clamp (by omega), x1] at hv2
      rw [hv2]
      have r1 := isR_wr (k := 707 + 18 * t + F (705 + 18 * t)) (x := F (703 + 18 * t)) hR (by unfold nk; omega)
      refine ⟨(vtx h1 h9 (j := 3) (by omega)).1, fun v3 hv3 => ?_⟩
      rw [nI_1] at hv3
      rw [hv3]
      exact k1 z _ (isR_wr r1 (by unfold nk; omega))
    refine pk_lt (F (705 + 18 * t)) 8 (fun z => ⟨ivp (by omega) (by omega), ?_⟩) (fun z => fun w2 hw2 => ?_)
    · have e4 : nI t * 8 + nI (F (705 + 18 * t)) = nI (8 * t + F (705 + 18 * t)) := by
        show nI t * nI 8 + _ = _
        rw [pk_mul, nI_add, Nat.mul_comm]
      rw [e4]
      refine ⟨ivp (by omega) (by omega), fun C1 hC1 => ⟨ivp (by omega) (by omega), ivp (by omega) (by omega), fun C2 hC2 w2 hw2 => ⟨fun y => absurd y (by decide), fun _ => ⟨ivp (by omega) (by omega), ?_⟩⟩⟩⟩
      rw [nI_clamp (by omega)] at hC1
      generalize hFd : updN (updN F (707 + 18 * t + F (705 + 18 * t)) (F (703 + 18 * t))) (705 + 18 * t) (F (705 + 18 * t) + 1) = F7 at xgo
      have v4 : F7 (705 + 18 * t) = F (705 + 18 * t) + 1 := by rw [← hFd, uNs]
      have vn : F7 (707 + 18 * t + F (705 + 18 * t)) = F (703 + 18 * t) := by rw [← hFd, uNn (by omega), uNs]
      have vo : ∀ j, j ≠ 705 + 18 * t → j ≠ 707 + 18 * t + F (705 + 18 * t) → F7 j = F j := fun j j1 j2 => by rw [← hFd, uNn j1, uNn j2]
      have ho : txo F7 F := fun j hj => vo j (by omega) (by omega)
      have hb7 : ∀ i, F7 i < 65536 := by rw [← hFd]; exact updN_b (updN_b ib (ib _)) (by omega)
      have ea : g0_saveCount (g9_claims w2) t - 1 = nI (F (705 + 18 * t)) := by
        rw [hw2, hC2, hC1]
        show upd (g0_saveCount (g9_claims w)) t (g0_saveCount (g9_claims w) t + 1) t - 1 = _
        rw [pk_us, b2, nI_1, nI_pred]
      rw [ea]
      refine g _ _ trivial (xgo (fun y => by omega) fun _ n2 r2 => ?_)
      have hUP : UPl F7 b e k (fun _ => 65536) := by
        refine UP_step (t := t) hU iL (fun _ _ => rfl) (Nat.le_refl _) hU.2.1 (ho _ (by omega)) (fun u hu => rfl) (fun j j1 j2 j3 => vo j (by omega) (by omega)) (fun _ _ => ?_)
        unfold UT
        rw [v4, vo _ (by omega) (by omega), vo (703 + 18 * t) (by omega) (by omega), vo (704 + 18 * t) (by omega) (by omega), vo (706 + 18 * t) (by omega) (by omega)]
        refine ⟨u1, u2, u3, by omega, u5, u6, u7, fun i hi hm => ?_, fun i j hij hj => ?_⟩
        · rw [vo _ (by omega) (by omega)] at hm ⊢
          exact u8 i (by omega) hm
        · rw [vo _ (by omega) (by omega), vo _ (by omega) (by omega)]
          exact u9 i j hij (by omega)
      refine q _ w2 n2 pn trivial ⟨F7, G, b, e, f, k, ?_, r2, IB_tx hI.1 ho hb7, Or.inl hUP⟩ (by rw [hw2]) (sw_7 hR r2 (ho 7 (by omega)))
      rw [hw2, hC2, hC1]
      refine CW_cl (G2 := G) hC0 ho (fun _ _ => rfl) (RO_o cR fun u j hu1 hu9 hj => vo _ (by omega) (by omega)) ?_
      refine ⟨a1, a2, fun u hu1 hu9 => ?_⟩
      obtain ⟨d1, d2, d3, d4, d5⟩ := a3 u hu1 hu9
      show g0_waits (g9_claims w) u = _ ∧ upd (g0_saveCount (g9_claims w)) t (g0_saveCount (g9_claims w) t + 1) u = _ ∧ g0_topCount (g9_claims w) u = _ ∧ (∀ k, _ → _ → upd (g0_saves (g9_claims w)) (8 * t + F (705 + 18 * t)) (nI (F (703 + 18 * t))) (8 * u + k) = _) ∧ ∀ k, _ → _ → g0_tops (g9_claims w) (4 * u + k) = _
      by_cases c : u = t
      · subst c
        rw [pk_us, b2, nI_1, v4, vo _ (by omega) (by omega)]
        refine ⟨d1, rfl, d3, fun k hk h8 => ?_, fun k hk h4 => by rw [vo _ (by omega) (by omega)]; exact d5 k hk h4⟩
        by_cases d : k = F (705 + 18 * u)
        · subst d; rw [pk_us, vn]
        · rw [pk_un (by omega), vo _ (by omega) (by omega)]; exact d4 k (by omega) h8
      · rw [pk_un c, vo _ (by omega) (by omega), vo _ (by omega) (by omega)]
        exact ⟨d1, d2, d3, fun k hk h8 => by rw [pk_un (by omega), vo _ (by omega) (by omega)]; exact d4 k hk h8, fun k hk h4 => by rw [vo _ (by omega) (by omega)]; exact d5 k hk h4⟩
    · have ew : w2 = w := hw2
      rw [ew]
      exact ⟨fun _ => g _ _ trivial (xgo (fun _ => ref) fun y => by omega), fun y => absurd rfl y⟩
  · refine w_run0 cR ib hno ⟨fun _ => g _ _ trivial fun v1 hv1 => ?_, fun z => absurd rfl z⟩
    have hv1 : v1 = mS (s11_told m 0) n pn := hv1
    rw [hv1]
    exact x_go0 (i := 1) hR ib (by omega) (Or.inr hno) ⟨fun _ => ref, fun z => absurd rfl z⟩
end
