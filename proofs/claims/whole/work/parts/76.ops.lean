/-! ===== calls on the world: a top closed, commit ===== -/
section
variable {m : S11} {n : Nat → Int32} {pn : Int32} {F F2 : Nat → Nat} {G G2 : Nat → Int32} {b b2 : Nat → Nat} {e f k e2 f2 : Nat} {w : S9} {T : Nat → Nat × Nat} {Sp : Nat → Prop} {c : Nat → Nat}
theorem lrn_v {v : Nat → Nat} {t s : Nat} (hv : v 2 = t) (h1 : 1 ≤ t) (h9 : t ≤ 9) : lrn T s v t = if v 0 = 7 then (0, 0) else (if v 0 = 5 then 3 else if v 0 = 6 then 2 else if (T t).1 = 0 then 1 else (T t).1, s) := by
  unfold lrn
  rw [if_neg (by omega)]
theorem lastF_t {t s : Nat} (h1 : 1 ≤ t) : lastF F t s (703 + 18 * t) = s := by unfold lastF; rw [if_neg (by omega), uNs]
theorem lastF_o {t s j : Nat} (hj : j ≠ 703 + 18 * t) : lastF F t s j = F j := by
  unfold lastF
  split
  · rfl
  · exact uNn hj
theorem gone_last {t s : Nat} (h1 : 1 ≤ t) : goneF (lastF F t s) t = goneF F t := by
  funext j
  unfold goneF
  split
  · rfl
  · exact lastF_o (by omega)
theorem goneF_txo {t : Nat} (h1 : 1 ≤ t) (h9 : t ≤ 9) : txo (goneF F t) F := fun j hj => by unfold goneF; rw [if_neg (by omega)]
theorem goneF_b {t : Nat} (hb : ∀ i, F i < 65536) : ∀ i, goneF F t i < 65536 := fun i => by
  unfold goneF
  split
  · omega
  · exact hb i
theorem goneG_o {t j : Nat} (h1 : 1 ≤ t) (h9 : t ≤ 9) (hj : j < 882 ∨ 1404 ≤ j) : goneG G t j = G j := by unfold goneG; rw [if_neg (by omega), if_neg (by omega)]
theorem UT_gone {t lim : Nat} (h1 : 1 ≤ t) (hrp : rp b k t = (0, 0)) : UT (goneF F t) b k lim t := by
  have g : ∀ j, 702 + 18 * t ≤ j → j < 720 + 18 * t → goneF F t j = 0 := fun j j1 j2 => by unfold goneF; rw [if_pos ⟨j1, j2⟩]
  unfold UT
  rw [hrp, g _ (by omega) (by omega), g (703 + 18 * t) (by omega) (by omega), g (704 + 18 * t) (by omega) (by omega), g (705 + 18 * t) (by omega) (by omega), g (706 + 18 * t) (by omega) (by omega)]
  exact ⟨rfl, rfl, by omega, by omega, by omega, fun _ => rfl, fun z => by omega, fun i hi => by omega, fun i j hi hj => by omega⟩
theorem w_endOf (hJ : isJ (g9_journal w) b e f) (hR : RO (g9_roster w) F) (hC : RC (g9_claims w) F G) (hb : ∀ k, F k < 65536) (he : e + 6 ≤ 8600) {t : Nat} (h1 : 1 ≤ t) (h9 : t ≤ 9) {Q : S9 → Prop} (q : ∀ J2 R2 C2, isJ J2 (appB b e (plainR 7 t (F (703 + 18 * t)))) (e + 6) f → RO R2 (goneF F t) → RC C2 (goneF F t) (goneG G t) → Q (s9_journal (s9_roster (s9_claims w C2) R2) J2)) : wp_X9_endOf w (nI t) Q := by
  refine w_note (kd := 7) hJ hR hb he (by omega) h1 h9 fun J2 R2 hJ2 hR2 => w_remove h9 fun w3 hw3 => w_forget h9 fun w4 hw4 => ?_
  rw [prv_t h1] at hJ2
  rw [hw4, hw3]
  have r := RO_gone hR2 (t := t)
  rw [gone_last h1] at r
  exact q J2 _ _ hJ2 r (RC_gone hC h1 h9)
theorem x_endOf (h : isR n F G b e f) (hb : ∀ k, F k < 65536) (he : e + 6 ≤ 8600) {t : Nat} (h1 : 1 ≤ t) (h9 : t ≤ 9) {Q : S11 → Prop} (q : ∀ n2 p2, isR n2 (goneF F t) (goneG G t) (appB b e (plainR 7 t (F (703 + 18 * t)))) (e + 6) f → Q (mS m n2 p2)) : wp_X11_laysPlain (mS m n pn) 7 (nI t) (fun _ v => wp_X11_isGone v (nI t) Q) := by
  refine x_laysPlain (kd := 7) h hb he (by omega) h9 fun n2 p2 r2 => x_isGone r2 h1 h9 fun n3 r3 => q n3 p2 ?_
  rw [prv_t h1, gone_last h1] at r3
  exact r3
def topL (t pv T : Nat) : List Nat := [9, 0, t, pv / 256, pv % 256, T / 256, T % 256]
theorem leg_top {t pv N : Nat} (h1 : 1 ≤ t) (h9 : t ≤ 9) (hp : pv = (T t).2) (hi : (T t).1 = 1) (hn : N = 0 ∨ Sp N) (hc : c N ≤ c (T t).2) : Leg T Sp c (fun i => (sealR (topL t pv N)).getD i 0) := by
  have g : ∀ i, i < 7 → i ≠ 1 → (sealR (topL t pv N)).getD i 0 = (topL t pv N).getD i 0 := fun i hi h1 => sealR_g hi h1 (by simp [topL])
  have g0 : (sealR (topL t pv N)).getD 0 0 = 9 := g 0 (by omega) (by omega)
  have g1 : (sealR (topL t pv N)).getD 1 0 = 8 := seal_1 (by simp [topL])
  have g2 : (sealR (topL t pv N)).getD 2 0 = t := g 2 (by omega) (by omega)
  have g3 : pr2 (fun i => (sealR (topL t pv N)).getD i 0) 3 = pv := pr2_ab (g 3 (by omega) (by omega)) (g 4 (by omega) (by omega))
  have g5 : pr2 (fun i => (sealR (topL t pv N)).getD i 0) 5 = N := pr2_ab (g 5 (by omega) (by omega)) (g 6 (by omega) (by omega))
  unfold Leg
  simp only [g0, g1, g2, g3, g5]
  refine ⟨⟨by omega, by omega, ?_, ?_⟩, ⟨h9, by omega, by rw [if_neg (by omega)]; exact hp⟩, fun z => by omega, fun _ => hi, fun z => by omega, fun z => by omega, fun _ => ⟨hn, hc⟩, fun z => by omega, fun z => by omega⟩
  · unfold due
    simp only [g0]
    rfl
  · have := seal_chk (ds := topL t pv N) (by simp [topL])
    rw [g1] at this
    exact this
theorem s_closeTop (h : SW w n) (x : Int32) : OpR zb w m n (wp_X9_closeTop w x) (wp_X11_closesTop (mS m n pn) x) := by
  obtain ⟨F, G, b, e, f, k, hC, hR, hI⟩ := h
  intro K q Q g
  have ref : K 0 w 0 (mS m n pn) := q 0 w n pn (Or.inl rfl) ⟨F, G, b, e, f, k, hC, hR, hI⟩ rfl rfl
  have hC0 := hC
  obtain ⟨cJ, cP, cR, cC, cS, cu, cm, co, cr, cc⟩ := hC
  obtain ⟨ib, iy, iF, iL, -⟩ := hI.1
  rcases run_cases hI x with ⟨t, h1, h9, rfl, hrun, c3⟩ | hno
  · have hU := UPl_of hI c3
    obtain ⟨u1, u2, u3, u4, u5, u6, u7, u8, u9⟩ := hU.2.2 t h1 h9
    obtain ⟨a1, a2, a3⟩ := cC
    obtain ⟨b1, b2, b3, b4, b5⟩ := a3 t h1 h9
    have m4 : ((720 : Int32) + 18 * (nI t - 1) + 4).toNatClampNeg = 706 + 18 * t := by rw [(vtx h1 h9 (j := 4) (by omega)).2 |> fun z => show ((720 : Int32) + 18 * (nI t - 1) + 4).toNatClampNeg = 702 + 18 * t + 4 from z]; omega
    have x4 : n (706 + 18 * t) = nI (F (706 + 18 * t)) := hR.2.1 _ (by unfold nk; omega)
    have xref : ∀ {K2 : Int32 → S11 → Prop}, (F (706 + 18 * t) = 0 ∨ ¬ e ≤ 3500) → K2 0 (mS m n pn) → wp_X11_closesTop (mS m n pn) (nI t) K2 := by
      intro K2 hz k0
      refine x_go1 hR h1 h9 c3 hrun (by omega) ⟨fun z => absurd z (by decide), fun _ => x_isFull hR ?_⟩
      by_cases cf : e ≤ 3500
      · rw [if_pos cf]
        refine ⟨fun _ => ?_, fun z => absurd rfl z⟩
        simp only [wp_X11_txAt]
        rw [m4, gmS, x4]
        exact ⟨(vtx h1 h9 (j := 4) (by omega)).1, pk_eq (F (706 + 18 * t)) 0 (fun _ => k0) (fun z => by omega)⟩
      · rw [if_neg cf]
        exact ⟨fun z => absurd z (by decide), fun _ => k0⟩
    refine w_run1 cR h1 h9 hrun ⟨fun z => absurd z (by decide), fun _ => ⟨ivp (by omega) (by omega), ?_⟩⟩
    rw [nI_clamp (by omega), b3]
    refine pk_lt (F (706 + 18 * t)) 1 (fun z => g _ _ (Or.inl rfl) (xref (Or.inl (by omega)) ref)) (fun hz => w_isFull cJ ?_)
    by_cases cf : e ≤ 3500
    · rw [if_pos cf]
      refine ⟨fun _ => ⟨ivp (by omega) (by omega), ?_⟩, fun z => absurd rfl z⟩
      rw [(cR t h1 h9).2.1]
      have hTb := ib (715 + 18 * t + (F (706 + 18 * t) - 1))
      have hpb := ib (703 + 18 * t)
      obtain ⟨N, hN⟩ : ∃ N, F (715 + 18 * t + (F (706 + 18 * t) - 1)) = N := ⟨_, rfl⟩
      rw [hN] at hTb
      refine w_start (kd := 9) cJ (by omega) (by omega) (by omega) hpb fun J1 hJ1 w1 hw1 => ?_
      rw [hw1]
      refine ⟨ivp (by omega) (by omega), ?_⟩
      rw [nI_clamp (by omega)]
      show (1 ≤ g0_topCount (g9_claims w) t → _) ∧ _
      rw [b3]
      refine pk_le 1 (F (706 + 18 * t)) (fun _ => ⟨ivp (by omega) (by omega), ivp (by omega) (by omega), fun C2 hC2 => ⟨ivp (by omega) (by omega), ?_⟩⟩) (fun z => by omega)
      have et : g0_topCount C2 t = nI (F (706 + 18 * t) - 1) := by
        rw [hC2]
        show upd (g0_topCount (g9_claims w)) t (nI (F (706 + 18 * t)) - 1) t = _
        rw [pk_us]; exact pk_sub (b := 1) (by omega)
      have e4 : nI t * 4 + g0_topCount C2 t = nI (4 * t + (F (706 + 18 * t) - 1)) := by
        rw [et]
        show nI t * nI 4 + _ = _
        rw [pk_mul, nI_add, Nat.mul_comm]
      rw [e4, nI_clamp (by omega)]
      have e5 : g0_tops C2 (4 * t + (F (706 + 18 * t) - 1)) = nI N := by
        rw [hC2, ← hN]
        exact b5 _ (by omega) (by omega)
      rw [e5]
      refine ⟨ivp (by omega) (by omega), fun w2 hw2 => ?_⟩
      rw [hw2]
      refine w_putPair hJ1 (by simp; omega) hTb fun J3 hJ3 w3 hw3 => ?_
      rw [hw3]
      have hJ3 : isPn J3 b e f (topL t (F (703 + 18 * t)) N) := hJ3
      have hlt : ∀ k, (topL t (F (703 + 18 * t)) N).getD k 0 < 256 := fun k => by
        match k with
        | 0 => show 9 < 256; omega
        | 1 => show 0 < 256; omega
        | 2 => show t < 256; omega
        | 3 => show F (703 + 18 * t) / 256 < 256; omega
        | 4 => show F (703 + 18 * t) % 256 < 256; omega
        | 5 => show N / 256 < 256; omega
        | 6 => show N % 256 < 256; omega
        | k + 7 => show (0 : Nat) < 256; omega
      have hl7 : (topL t (F (703 + 18 * t)) N).length = 7 := rfl
      refine w_finish (w := s9_journal (s9_claims w C2) J3) hJ3 (by omega) (by omega) (by omega) hlt h9 fun J4 hJ4 => ?_
      refine g _ _ (Or.inr rfl) ?_
      refine x_go1 hR h1 h9 c3 hrun (by omega) ⟨fun z => absurd z (by decide), fun _ => x_isFull hR ?_⟩
      rw [if_pos cf]
      refine ⟨fun _ => ?_, fun z => absurd rfl z⟩
      simp only [wp_X11_txAt]
      rw [m4, gmS, x4]
      refine ⟨(vtx h1 h9 (j := 4) (by omega)).1, pk_eq (F (706 + 18 * t)) 0 (fun z => by omega) (fun _ => ⟨(vtx h1 h9 (j := 4) (by omega)).1, fun y hy => ?_⟩)⟩
      have hy : y = nI (F (706 + 18 * t) - 1) := by rw [hy]; exact pk_sub (b := 1) (by omega)
      rw [hy]
      refine x_opensF (kd := 9) (lg := 8) hR ib h9 ?_
      rw [prv_t h1]
      have e13 : (720 : Int32) + 18 * (nI t - 1) + 13 + nI (F (706 + 18 * t) - 1) = nI (715 + 18 * t + (F (706 + 18 * t) - 1)) := by
        rw [show (720 : Int32) + 18 * (nI t - 1) + 13 = nI (702 + 18 * t + 13) from txA t h1 13, nI_add]; congr 1; omega
      rw [e13]
      refine ⟨ivp (by omega) (by omega), ?_⟩
      rw [nI_clamp (by omega), gmS, layL_lt (by omega), hR.2.1 _ (by unfold nk; omega), hN]
      unfold wp_X11_laysTwo
      rw [div256 (by omega), show nI N - nI (N / 256) * 256 = nI (N % 256) from by rw [← div256 (by omega)]; exact rem256 (by omega)]
      refine x_layL (by simp; omega) (x_layL (by simp; omega) ?_)
      refine x_closes (ds := topL t (F (703 + 18 * t)) N) hR rfl ?_ (by omega) h9 fun n2 p2 r2 => ?_
      · intro i
        rw [getD_set1 (by omega)]
        split
        · omega
        · exact hlt i
      · rw [hl7] at hJ4 r2
        refine ⟨(vtx h1 h9 (j := 4) (by omega)).1, fun v3 hv3 => ?_⟩
        rw [hv3]
        have r3 := isR_wr (k := 706 + 18 * t) (x := F (706 + 18 * t) - 1) r2 (by unfold nk; omega)
        generalize hFd : updN (lastF F t e) (706 + 18 * t) (F (706 + 18 * t) - 1) = F7 at r3
        have v4 : F7 (706 + 18 * t) = F (706 + 18 * t) - 1 := by rw [← hFd, uNs]
        have v1 : F7 (703 + 18 * t) = e := by rw [← hFd, uNn (by omega)]; exact lastF_t h1
        have vo : ∀ j, j ≠ 706 + 18 * t → j ≠ 703 + 18 * t → F7 j = F j := fun j j1 j2 => by rw [← hFd, uNn (by omega)]; exact lastF_o j2
        have ho : txo F7 F := fun j hj => vo j (by omega) (by omega)
        have hb7 : ∀ i, F7 i < 65536 := by rw [← hFd]; exact updN_b (lastF_b ib (by omega)) (by omega)
        have hlast : Sz b k (F (703 + 18 * t)) := by rw [u2]; exact (rp_Sz k t).1
        have oc := u8 (F (706 + 18 * t) - 1) (by omega) (by show _ ≤ 65536; omega)
        rw [hN] at oc
        obtain ⟨o1, o2, o3⟩ := onC_le iL hlast oc
        have hL : Leg (rp b k) (St b k) (ch b) (fun i => (sealR (topL t (F (703 + 18 * t)) N)).getD i 0) := leg_top h1 h9 u2 (by omega) o1 (by rw [← u2]; exact o3)
        have hl8 : (sealR (topL t (F (703 + 18 * t)) N)).length = 8 := rfl
        have hA := LogOK_app iL hU.2.1 (r := sealR (topL t (F (703 + 18 * t)) N)) (seal_1 (by omega)) (by omega) hL (Or.inl cf)
        have hIB := IB_atx hI.1 hU.2.1 (r := sealR (topL t (F (703 + 18 * t)) N)) (seal_1 (by omega)) (by omega) hL (Or.inl cf) ho hb7 (Nat.le_refl _) (by have := hI.1.2.2.2.2.1.2; omega)
        rw [hl8] at hIB hA
        have s2 : (sealR (topL t (F (703 + 18 * t)) N)).getD 2 0 = t := sealR_g (by omega) (by omega) (by omega)
        have s0 : (sealR (topL t (F (703 + 18 * t)) N)).getD 0 0 = 9 := sealR_g (by omega) (by omega) (by omega)
        have ag := appB_agr (r := sealR (topL t (F (703 + 18 * t)) N)) hU.2.1
        have hUP : UPl F7 (appB b e (sealR (topL t (F (703 + 18 * t)) N))) (e + 8) (k + 1) (fun _ => 65536) := by
          refine UP_step (t := t) hU iL ag (by omega) hA.2.1 (ho _ (by omega)) (fun u hu => by rw [hA.2.2.1]; exact lrn_ne (v := fun i => (sealR (topL t (F (703 + 18 * t)) N)).getD i 0) (by simp only [s2]; exact hu)) (fun j j1 j2 j3 => vo j (by omega) (by omega)) (fun _ _ => ?_)
          have e1 : rp (appB b e (sealR (topL t (F (703 + 18 * t)) N))) (k + 1) t = (1, e) := by
            rw [hA.2.2.1, lrn_v (v := fun i => (sealR (topL t (F (703 + 18 * t)) N)).getD i 0) s2 h1 h9]
            simp only [s0]
            rw [if_neg (by omega), if_neg (by omega), if_neg (by omega), if_neg (by omega), ← u1, hrun]
          have hnx : vnx (rv (appB b e (sealR (topL t (F (703 + 18 * t)) N))) e) = N := by
            rw [(rv_app (b := b) (e := e) (r := sealR (topL t (F (703 + 18 * t)) N)) (seal_1 (by omega)) (by omega)).1]
            unfold vnx
            simp only [s0]
            rw [if_neg (by omega), if_pos trivial]
            exact pr2_ab (sealR_g (by omega) (by omega) (by omega)) (sealR_g (by omega) (by omega) (by omega))
          unfold UT
          rw [e1, v4, v1, vo _ (by omega) (by omega), vo (704 + 18 * t) (by omega) (by omega), vo (705 + 18 * t) (by omega) (by omega), hrun]
          refine ⟨rfl, rfl, by omega, u4, by omega, fun z => absurd rfl z, fun z => by omega, fun i hi hm => ?_, fun i j hij hj => ?_⟩
          · rw [vo _ (by omega) (by omega)] at hm ⊢
            refine onC_s (by have := wlk_8 (b := b) k; have := hU.2.1; omega) ?_
            rw [hnx]
            refine onC_agr iL ag o1 (onC_two iL _ _ _ _ (Nat.le_refl _) hlast (u8 i (by omega) hm) oc ?_)
            rw [← hN]
            exact u9 i _ (by omega) (by omega)
          · rw [vo _ (by omega) (by omega), vo _ (by omega) (by omega)]
            exact u9 i j hij (by omega)
        refine q 1 _ _ p2 (Or.inr rfl) ⟨F7, G, _, e + 8, f, k + 1, ?_, r3, hIB, Or.inl hUP⟩ rfl (sw_7 hR r3 (ho 7 (by omega)))
        have hRO : RO (s5_last (g9_roster w) (upd (g5_last (g9_roster w)) t (nI e))) F7 := RO_o (RO_last (s := e) cR h1 h9) fun u j hu1 hu9 hj => by
          by_cases d : 702 + 18 * u + j = 703 + 18 * t
          · rw [d, v1, lastF_t h1]
          · rw [vo _ (by omega) d, lastF_o d]
        refine CW_mk (G2 := G) hC0 ho (fun _ _ => rfl) hJ4 hRO ?_
        rw [hC2]
        refine ⟨a1, a2, fun u hu1 hu9 => ?_⟩
        obtain ⟨d1, d2, d3, d4, d5⟩ := a3 u hu1 hu9
        show g0_waits (g9_claims w) u = _ ∧ g0_saveCount (g9_claims w) u = _ ∧ upd (g0_topCount (g9_claims w)) t (nI (F (706 + 18 * t)) - 1) u = _ ∧ (∀ k, _ → _ → g0_saves (g9_claims w) (8 * u + k) = _) ∧ ∀ k, _ → _ → g0_tops (g9_claims w) (4 * u + k) = _
        by_cases c : u = t
        · subst c
          rw [pk_us, v4, vo _ (by omega) (by omega)]
          exact ⟨d1, d2, pk_sub (b := 1) (by omega), fun k hk h8 => by rw [vo _ (by omega) (by omega)]; exact d4 k hk h8, fun k hk h4 => by rw [vo _ (by omega) (by omega)]; exact d5 k (by omega) h4⟩
        · rw [pk_un c, vo _ (by omega) (by omega), vo _ (by omega) (by omega)]
          exact ⟨d1, d2, d3, fun k hk h8 => by rw [vo _ (by omega) (by omega)]; exact d4 k hk h8, fun k hk h4 => by rw [vo _ (by omega) (by omega)]; exact d5 k hk h4⟩
    · rw [if_neg cf]
      exact ⟨fun z => absurd z (by decide), fun _ => g _ _ (Or.inl rfl) (xref (Or.inr cf) ref)⟩
  · exact w_run0 cR ib hno ⟨fun _ => g _ _ (Or.inl rfl) (x_go0 (i := 1) hR ib (by omega) (Or.inr hno) ⟨fun _ => ref, fun z => absurd rfl z⟩), fun z => absurd rfl z⟩
end
