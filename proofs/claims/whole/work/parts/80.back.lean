/-! ===== back to a savepoint ===== -/
section
variable {m : S11} {n : Nat → Int32} {pn : Int32} {F F2 : Nat → Nat} {G G2 : Nat → Int32} {b b2 : Nat → Nat} {e f k e2 f2 : Nat} {w : S9}
/-- how many TOPS stay -/
def cutN (F : Nat → Nat) (t to : Nat) : Nat → Nat
  | 0 => 0
  | i + 1 => if to < F (715 + 18 * t + i) then cutN F t to i else i + 1
theorem cutN_ok {t to : Nat} : ∀ N, (∀ i j, i ≤ j → j < N → F (715 + 18 * t + i) ≤ F (715 + 18 * t + j)) → cutN F t to N ≤ N ∧ ∀ i, i < cutN F t to N → F (715 + 18 * t + i) ≤ to := by
  intro N
  induction N with
  | zero => intro _; exact ⟨Nat.le_refl _, fun i hi => by unfold cutN at hi; omega⟩
  | succ N ih =>
    intro hs
    unfold cutN
    split
    · obtain ⟨h1, h2⟩ := ih fun i j hi hj => hs i j hi (by omega)
      exact ⟨by omega, h2⟩
    · rename_i c
      exact ⟨Nat.le_refl _, fun i hi => by have := hs i N (by omega) (by omega); omega⟩
theorem w_cut {t to : Nat} (h1 : 1 ≤ t) (h9 : t ≤ 9) (hto : to < 65536) (hb : ∀ i, F i < 65536) {Q : S0 → Prop} : ∀ N i (C : S0), N + i ≤ 4 → g0_topCount C t = nI N → (∀ j, j < N → g0_tops C (4 * t + j) = nI (F (715 + 18 * t + j))) → Q (s0_topCount C (upd (g0_topCount C) t (nI (cutN F t to N)))) → wp_X0_cutBack_19 Q (N + 1) (nI t) (nI to) (nI i) C := by
  intro N
  induction N with
  | zero =>
    intro i C hi hc ht q
    have e0 : s0_topCount C (upd (g0_topCount C) t (nI (cutN F t to 0))) = C := by
      have : upd (g0_topCount C) t (nI (cutN F t to 0)) = g0_topCount C := by
        funext u
        by_cases c : u = t
        · subst c; rw [pk_us, hc]; rfl
        · rw [pk_un c]
      rw [this]
    rw [e0] at q
    refine pk_le 4 i (fun _ => q) (fun _ => ⟨ivp (by omega) (by omega), ?_⟩)
    rw [nI_clamp (by omega), hc]
    exact pk_le 0 0 (fun _ => q) (fun z => by omega)
  | succ N ih =>
    intro i C hi hc ht q
    have hb2 := hb (715 + 18 * t + N)
    refine pk_le 4 i (fun _ => by omega) (fun _ => ⟨ivp (by omega) (by omega), ?_⟩)
    rw [nI_clamp (by omega), hc]
    have e4 : nI t * 4 + nI (N + 1) - 1 = nI (4 * t + N) := by
      show nI t * nI 4 + nI (N + 1) - 1 = _
      rw [pk_mul, nI_add, show t * 4 + (N + 1) = (4 * t + N) + 1 by omega, nI_pred]
    rw [e4, nI_clamp (by omega), ht N (by omega)]
    refine pk_le (N + 1) 0 (fun z => by omega) (fun _ => ⟨ivp (by omega) (by omega), ivp (by omega) (by omega), pk_lt to (F (715 + 18 * t + N)) (fun c => ⟨ivp (by omega) (by omega), ivp (by omega) (by omega), fun C2 hC2 y hy => ?_⟩) (fun c => ?_)⟩)
    · rw [hy, nI_1]
      have e5 : nI (N + 1) - 1 = nI N := nI_pred N
      rw [e5] at hC2
      refine ih (i + 1) C2 (by omega) (by rw [hC2]; exact pk_us) (fun j hj => by rw [hC2]; exact ht j (by omega)) ?_
      rw [hC2]
      unfold cutN at q
      rw [if_pos c] at q
      have e6 : upd (upd (g0_topCount C) t (nI N)) t (nI (cutN F t to N)) = upd (g0_topCount C) t (nI (cutN F t to N)) := by
        funext u
        by_cases c : u = t
        · subst c; rw [pk_us, pk_us]
        · rw [pk_un c, pk_un c, pk_un c]
      show Q (s0_topCount C (upd (upd (g0_topCount C) t (nI N)) t (nI (cutN F t to N))))
      rw [e6]; exact q
    · unfold cutN at q
      rw [if_neg (by omega)] at q
      have e0 : s0_topCount C (upd (g0_topCount C) t (nI (N + 1))) = C := by
        have : upd (g0_topCount C) t (nI (N + 1)) = g0_topCount C := by
          funext u
          by_cases c : u = t
          · subst c; rw [pk_us, hc]
          · rw [pk_un c]
        rw [this]
      rw [e0] at q
      exact q
theorem x_cut {t to : Nat} (h1 : 1 ≤ t) (h9 : t ≤ 9) (hto : to < 65536) {r : Int32} {Q : Int32 → S11 → Prop} : ∀ N F n, N ≤ 4 → (∀ i, F i < 65536) → F (706 + 18 * t) = N → isR n F G b e f → (∀ n2, isR n2 (updN F (706 + 18 * t) (cutN F t to N)) G b e f → Q r (mS m n2 pn)) → wp_X11_back_133 Q (N + 1) (nI (702 + 18 * t)) (nI to) r (mS m n pn) := by
  intro N
  have ea : nI (702 + 18 * t) + 4 = nI (706 + 18 * t) := by show _ + nI 4 = _; rw [nI_add]; congr 1; omega
  have e13 : nI (702 + 18 * t) + 13 = nI (715 + 18 * t) := by show _ + nI 13 = _; rw [nI_add]; congr 1; omega
  induction N with
  | zero =>
    intro F n hN hb h0 h q
    unfold wp_X11_back_133
    rw [ea, nI_clamp (by omega), gmS, h.2.1 _ (show nk (706 + 18 * t) by unfold nk; omega), h0]
    refine ⟨ivp (by omega) (by omega), pk_le 0 0 (fun _ => q n (isR_F h fun j => ?_)) (fun z => by omega)⟩
    by_cases c : j = 706 + 18 * t
    · subst c; rw [uNs, h0]; rfl
    · rw [uNn c]
  | succ N ih =>
    intro F n hN hb h0 h q
    have hb2 := hb (715 + 18 * t + N)
    unfold wp_X11_back_133
    rw [ea, e13, nI_clamp (by omega), gmS, h.2.1 _ (show nk (706 + 18 * t) by unfold nk; omega), h0]
    have e5 : nI (715 + 18 * t) + nI (N + 1) - 1 = nI (715 + 18 * t + N) := by rw [nI_add, show 715 + 18 * t + (N + 1) = (715 + 18 * t + N) + 1 by omega, nI_pred]
    rw [e5, nI_clamp (by omega), h.2.1 _ (show nk (715 + 18 * t + N) by unfold nk; omega)]
    unfold cutN at q
    refine ⟨ivp (by omega) (by omega), pk_le (N + 1) 0 (fun z => by omega) (fun _ => ⟨ivp (by omega) (by omega), ivp (by omega) (by omega), pk_le (F (715 + 18 * t + N)) to (fun c => ?_) (fun c => ⟨ivp (by omega) (by omega), ivp (by omega) (by omega), fun v hv => ?_⟩)⟩)⟩
    · rw [if_neg (by omega)] at q
      refine q n (isR_F h fun j => ?_)
      by_cases c : j = 706 + 18 * t
      · subst c; rw [uNs, h0]
      · rw [uNn c]
    · rw [if_pos c] at q
      rw [nI_pred] at hv
      rw [hv]
      have r1 := isR_wr (k := 706 + 18 * t) (x := N) h (by unfold nk; omega)
      refine ih (updN F (706 + 18 * t) N) _ (by omega) (updN_b hb (by omega)) uNs r1 fun n2 h2 => q n2 (isR_F h2 fun j => ?_)
      have ec : ∀ M, M ≤ N → cutN (updN F (706 + 18 * t) N) t to M = cutN F t to M := by
        intro M
        induction M with
        | zero => intro _; rfl
        | succ M ihM =>
          intro hM
          unfold cutN
          rw [uNn (by omega), ihM (by omega)]
      rw [ec N (Nat.le_refl _)]
      by_cases c : j = 706 + 18 * t
      · subst c; rw [uNs, uNs]
      · rw [uNn c, uNn c, uNn c]
theorem s_back (h : SW w n) (x y : Int32) : OpR (fun _ => True) w (s11_told m 0) n (wp_X9_goBack w x y) (wp_X11_back (mS m n pn) x y) := by
  obtain ⟨F, G, b, e, f, k, hC, hR, hI⟩ := h
  intro K q Q g
  have ref : K (-1) w (-1) (mS (s11_told m 0) n pn) := q (-1) w n pn trivial ⟨F, G, b, e, f, k, hC, hR, hI⟩ rfl rfl
  have hC0 := hC
  obtain ⟨cJ, cP, cR, cC, cS, cu, cm, co, cr, cc⟩ := hC
  obtain ⟨ib, iy, iF, iL, -⟩ := hI.1
  rcases run_cases hI x with ⟨t, h1, h9, rfl, hrun, c3⟩ | hno
  · have hU := UPl_of hI c3
    obtain ⟨u1, u2, u3, u4, u5, u6, u7, u8, u9⟩ := hU.2.2 t h1 h9
    obtain ⟨a1, a2, a3⟩ := id cC
    obtain ⟨b1, b2, b3, b4, b5⟩ := a3 t h1 h9
    have m3 : ((720 : Int32) + 18 * (nI t - 1) + 3).toNatClampNeg = 705 + 18 * t := by rw [(vtx h1 h9 (j := 3) (by omega)).2 |> fun z => show ((720 : Int32) + 18 * (nI t - 1) + 3).toNatClampNeg = 702 + 18 * t + 3 from z]; omega
    have x3 : n (705 + 18 * t) = nI (F (705 + 18 * t)) := hR.2.1 _ (by unfold nk; omega)
    have xref : ∀ {K2 : Int32 → S11 → Prop}, (y < 0 ∨ nI (F (705 + 18 * t)) - 1 < y) → K2 (-1) (mS (s11_told m 0) n pn) → wp_X11_back (mS m n pn) (nI t) y K2 := by
      intro K2 hz k0 v1 hv1
      have hv1 : v1 = mS (s11_told m 0) n pn := hv1
      rw [hv1]
      refine x_go1 hR h1 h9 c3 hrun (by omega) ⟨fun z => absurd z (by decide), fun _ => ?_⟩
      simp only [wp_X11_txAt]
      rw [m3, gmS, x3]
      exact ⟨(vtx h1 h9 (j := 3) (by omega)).1, x_isIn0 hz ⟨fun _ => k0, fun z => absurd rfl z⟩⟩
    refine w_run1 cR h1 h9 hrun ⟨fun z => absurd z (by decide), fun _ => ⟨fun z => g _ _ trivial (xref (Or.inl z) ref), fun hy0 => ⟨ivp (by omega) (by omega), ?_⟩⟩⟩
    obtain ⟨s, hs31, rfl⟩ := nI_of hy0
    rw [nI_clamp (by omega), b2, (cR t h1 h9).2.1]
    refine pk_lt s (F (705 + 18 * t)) (fun hs => ?_) (fun hs => g _ _ trivial (xref (Or.inr ?_) ref))
    · -- the savepoint is there
      obtain ⟨to, hto⟩ : ∃ to, F (707 + 18 * t + s) = to := ⟨_, rfl⟩
      have hto2 : to < 65536 := by rw [← hto]; exact ib _
      have e8 : nI t * 8 + nI s = nI (8 * t + s) := by
        show nI t * nI 8 + _ = _
        rw [pk_mul, nI_add, Nat.mul_comm]
      have es : g0_saves (g9_claims w) (8 * t + s) = nI to := by rw [b4 s hs (by omega), hto]
      unfold wp_X0_saved
      rw [e8, nI_clamp (by omega), es]
      refine ⟨ivp (by omega) (by omega), ivp (by omega) (by omega), fun c0 hc0 => ⟨F (703 + 18 * t) + 1, ?_⟩⟩
      rw [hc0]
      have hlast : Sz b k (F (703 + 18 * t)) := by rw [u2]; exact (rp_Sz k t).1
      have hll := Sz_lt hlast
      have hr := log_room iL hU.2.1
      have hUe := hU.2.1
      have hGI : GI F b e f k t to (F (703 + 18 * t)) := ⟨hI.1, c3, hU.2.1, fun u hu1 hu9 _ => hU.2.2 u hu1 hu9, ⟨hrun, u1, u2, u4, u5, u9⟩, hlast, Nat.le_refl _, onC_r _, fun i hi _ => u8 i hi (by have := ib (715 + 18 * t + i); show _ ≤ 65536; omega)⟩
      -- with WAITS 0 from the first
      have hG1 : ∀ j, j ≠ 1394 + t → upd G (1394 + t) 0 j = G j := fun j hj => pk_un hj
      have cP1 : RP (g9_pages w) F (upd G (1394 + t) 0) := RP_c cP (fun _ _ => rfl) fun j hj => hG1 j (by omega)
      obtain ⟨k2, c2, g1, g2, g3, g4⟩ := gbA_GI (to := to) h1 h9 (F (703 + 18 * t)) F (upd G (1394 + t) 0) b e f k (F (703 + 18 * t)) 0 (Nat.le_refl _) cJ.2.2.2.2.1 hGI
      refine w_gb h1 h9 hto2 (F (703 + 18 * t)) F (upd G (1394 + t) 0) b e f k (F (703 + 18 * t)) 0 0 w (Nat.le_refl _) hGI cJ cP1 cR (by omega) fun J2 P2 R2 hJ2 hP2 hR2 => ?_
      generalize hAg : gbA t to (F (703 + 18 * t)) (F, upd G (1394 + t) 0, b, e, f) (F (703 + 18 * t)) 0 = AU at g2 g3 g4 hJ2 hP2 hR2
      obtain ⟨⟨F3, G3, b3', e3, f3⟩, un⟩ := AU
      have hsv : F3 (705 + 18 * t) = F (705 + 18 * t) := g3 _ (by omega) (by omega)
      have htp : F3 (706 + 18 * t) = F (706 + 18 * t) := g3 _ (by omega) (by omega)
      have hcl : ∀ j, 707 + 18 * t ≤ j → j < 720 + 18 * t → F3 j = F j := fun j j1 j2 => g3 _ (by omega) (by omega)
      -- the class's end
      unfold wp_X9_goBack_106 wp_X0_cutBack wp_X0_saved
      show vp_in (nI t * 8 + nI s) 80 ∧ _
      rw [e8, nI_clamp (by omega)]
      refine ⟨ivp (by omega) (by omega), ivp (by omega) (by omega), fun C4 hC4 => ⟨F (706 + 18 * t) + 1, ?_⟩⟩
      rw [nI_1] at hC4
      show wp_X0_cutBack_19 _ (F (706 + 18 * t) + 1) (nI t) (g0_saves (g9_claims w) (nI (8 * t + s)).toNatClampNeg) 0 C4
      rw [nI_clamp (by omega), es]
      refine w_cut (F := F) h1 h9 hto2 ib (F (706 + 18 * t)) 0 C4 (by omega) (by rw [hC4]; exact b3) (fun j hj => by rw [hC4]; exact b5 j hj (by omega)) fun w5 hw5 => ⟨ivp (by omega) (by omega), fun w6 hw6 => ?_⟩
      -- the reference
      refine g _ _ trivial ?_
      intro v1 hv1
      have hv1 : v1 = mS (s11_told m 0) n pn := hv1
      rw [hv1]
      refine x_go1 hR h1 h9 c3 hrun (by omega) ⟨fun z => absurd z (by decide), fun _ => ?_⟩
      simp only [wp_X11_txAt]
      rw [m3, gmS, x3, txA0 t h1]
      refine ⟨(vtx h1 h9 (j := 3) (by omega)).1 |> fun z => by rw [txA t h1 3] at z; rw [show nI (702 + 18 * t) + 3 = nI (702 + 18 * t + 3) from nI_add _ 3]; exact z, ?_⟩
      rw [show nI (F (705 + 18 * t)) - 1 = nI (F (705 + 18 * t) - 1) from pk_sub (b := 1) (by omega)]
      refine x_isIn1 (lo := 0) rfl hs31 (by omega) (by omega) (by omega) ⟨fun z => absurd z (by decide), fun _ => x_wwt hR h1 h9 fun n2 r2 => ?_⟩
      have ei : nI (702 + 18 * t) + 5 + nI s = nI (707 + 18 * t + s) := by show _ + nI 5 + _ = _; rw [nI_add, nI_add]; congr 1; omega
      have e1 : nI (702 + 18 * t) + 1 = nI (703 + 18 * t) := by rw [nI_1]; congr 1; omega
      rw [ei, e1, nI_clamp (by omega), nI_clamp (by omega), gmS, r2.2.1 _ (show nk (707 + 18 * t + s) by unfold nk; omega), r2.2.1 _ (show nk (703 + 18 * t) by unfold nk; omega), hto]
      refine ⟨ivp (by omega) (by omega), fun z1 hz1 => ⟨ivp (by omega) (by omega), fun z2 hz2 => ⟨F (703 + 18 * t) + 1, ?_⟩⟩⟩
      rw [hz1, hz2]
      refine x_gb h1 h9 hto2 (F (703 + 18 * t)) F (upd G (1394 + t) 0) b e f k (F (703 + 18 * t)) 0 n2 pn (Nat.le_refl _) hGI r2 fun n3 pp r3 => ?_
      rw [hAg] at r3
      have r3 : isR n3 F3 G3 b3' e3 f3 := r3
      have e3' : nI (702 + 18 * t) + 3 = nI (705 + 18 * t) := by show _ + nI 3 = _; rw [nI_add]; congr 1; omega
      rw [e3', nI_clamp (by omega), nI_1, hAg]
      refine ⟨ivp (by omega) (by omega), fun v4 hv4 => ⟨F (706 + 18 * t) + 1, ?_⟩⟩
      rw [hv4]
      have r4 := isR_wr (k := 705 + 18 * t) (x := s + 1) r3 (by unfold nk; omega)
      have hF3b : ∀ i, F3 i < 65536 := g2.1.1
      refine x_cut h1 h9 hto2 (F (706 + 18 * t)) (updN F3 (705 + 18 * t) (s + 1)) _ u5 (updN_b hF3b (by omega)) (by rw [uNn (by omega)]; exact htp) r4 fun n5 r5 => ?_
      have ecut : ∀ M, M ≤ 4 → cutN (updN F3 (705 + 18 * t) (s + 1)) t to M = cutN F t to M := by
        intro M
        induction M with
        | zero => intro _; rfl
        | succ M ihM =>
          intro hM
          unfold cutN
          rw [uNn (by omega), hcl _ (by omega) (by omega), ihM (by omega)]
      rw [ecut _ u5] at r5
      obtain ⟨ck1, ck2⟩ := cutN_ok (t := t) (to := to) (F (706 + 18 * t)) u9
      generalize hFd : updN (updN F3 (705 + 18 * t) (s + 1)) (706 + 18 * t) (cutN F t to (F (706 + 18 * t))) = F7 at r5
      have v5 : F7 (705 + 18 * t) = s + 1 := by rw [← hFd, uNn (by omega), uNs]
      have v6 : F7 (706 + 18 * t) = cutN F t to (F (706 + 18 * t)) := by rw [← hFd, uNs]
      have vo : ∀ j, j ≠ 705 + 18 * t → j ≠ 706 + 18 * t → F7 j = F3 j := fun j j1 j2 => by rw [← hFd, uNn j2, uNn j1]
      have ho : txo F7 F3 := fun j hj => vo j (by omega) (by omega)
      have hb7 : ∀ i, F7 i < 65536 := by rw [← hFd]; exact updN_b (updN_b hF3b (by omega)) (by omega)
      obtain ⟨q1, q2, q3, q4, ⟨p1, p2, p3, p4, p5, p6⟩, q6, q7, q8, q9⟩ := g2
      have q1 : IB F3 b3' e3 f3 k2 := q1
      have q9 : ∀ i, i < F3 (706 + 18 * t) → F3 (715 + 18 * t + i) ≤ to → onC b3' c2 (F3 (715 + 18 * t + i)) := q9
      have q8 : onC b3' (F3 (703 + 18 * t)) c2 := q8
      have p1 : F3 (702 + 18 * t) = 1 := p1
      have hUP : UPl F7 b3' e3 k2 (fun _ => 65536) := by
        refine ⟨by rw [ho 3 (by omega)]; exact q2, q3, fun u hu1 hu9 => ?_⟩
        by_cases c : u = t
        · subst c
          unfold UT
          rw [v5, v6, vo _ (by omega) (by omega), vo (703 + 18 * u) (by omega) (by omega), vo (704 + 18 * u) (by omega) (by omega)]
          refine ⟨p2, p3, by omega, by omega, by omega, fun z => absurd p1 z, fun z => by omega, fun i hi hm => ?_, fun i j hij hj => ?_⟩
          · rw [vo _ (by omega) (by omega)]
            refine onC_t q8 (q9 i (by omega) ?_)
            rw [hcl _ (by omega) (by omega)]
            exact ck2 i hi
          · rw [vo _ (by omega) (by omega), vo _ (by omega) (by omega)]
            exact p6 i j hij (by show j < F3 (706 + 18 * u); omega)
        · exact UT_keep q1.2.2.2.1 (fun _ _ => rfl) (Nat.le_refl _) rfl (fun j j1 j2 => vo j (by omega) (by omega)) (q4 u hu1 hu9 c)
      refine q _ w6 n5 pp trivial ⟨F7, G3, b3', e3, f3, k2, ?_, r5, IB_tx q1 ho hb7, Or.inl hUP⟩ (by rw [hw6, hw5]) (sw_7 hR r5 (by rw [ho 7 (by omega)]; exact g3 7 (by omega) (by omega)))
      rw [hw6, hw5, hC4]
      have gw : ∀ j, 720 ≤ j → G3 j = upd G (1394 + t) 0 j := fun j hj => g4 j (by omega) (by omega)
      have go3 : ∀ j, j ≠ 6 → j < 560 → G3 j = G j := fun j j1 j2 => (g4 j j1 (by omega)).trans (pk_un (by omega))
      have fo3 : ∀ j, j < 16 → F7 j = F j := fun j hj => (ho j (by omega)).trans (g3 j (by omega) (by omega))
      refine ⟨hJ2, RP_c hP2 (fun j hj => ho j (by omega)) (fun _ _ => rfl), RO_o hR2 (fun u j hu1 hu9 hj => vo _ (by omega) (by omega)), ?_, RS_c cS (fun j hj => ?_), by rw [fo3 3 (by omega)]; exact cu, by rw [fo3 2 (by omega)]; exact cm, by rw [fo3 4 (by omega)]; exact co, by rw [go3 8 (by omega) (by omega)]; exact cr, by rw [go3 9 (by omega) (by omega)]; exact cc⟩
      · refine ⟨fun a ha => ?_, fun a ha => ?_, fun u hu1 hu9 => ?_⟩
        · rw [gw _ (by omega), pk_un (by omega)]; exact a1 a ha
        · rw [gw _ (by omega), pk_un (by omega)]; exact a2 a ha
        · obtain ⟨d1, d2, d3, d4, d5⟩ := a3 u hu1 hu9
          show upd (g0_waits (g9_claims w)) t 0 u = _ ∧ upd (g0_saveCount (g9_claims w)) t (nI (s + 1)) u = _ ∧ upd (g0_topCount (g9_claims w)) t (nI (cutN F t to (F (706 + 18 * t)))) u = _ ∧ (∀ k, _ → _ → g0_saves (g9_claims w) (8 * u + k) = _) ∧ ∀ k, _ → _ → g0_tops (g9_claims w) (4 * u + k) = _
          rw [gw _ (by omega)]
          by_cases c : u = t
          · subst c
            rw [pk_us, pk_us, pk_us, pk_us, v5, v6]
            exact ⟨rfl, rfl, rfl, fun k hk h8 => by rw [vo _ (by omega) (by omega), hcl _ (by omega) (by omega)]; exact d4 k (by omega) h8, fun k hk h4 => by rw [vo _ (by omega) (by omega), hcl _ (by omega) (by omega)]; exact d5 k (by omega) h4⟩
          · have gu : ∀ j, 705 + 18 * u ≤ j → j < 720 + 18 * u → F7 j = F j := fun j j1 j2 => (vo j (by omega) (by omega)).trans (g3 j (by omega) (by omega))
            rw [pk_un c, pk_un c, pk_un c, pk_un (by omega), gu _ (by omega) (by omega), gu _ (by omega) (by omega)]
            exact ⟨d1, d2, d3, fun k hk h8 => by rw [gu _ (by omega) (by omega)]; exact d4 k hk h8, fun k hk h4 => by rw [gu _ (by omega) (by omega)]; exact d5 k hk h4⟩
      · exact (ho j (by omega)).trans (g3 j (by omega) (by omega))
    · by_cases z : F (705 + 18 * t) = 0
      · rw [z]
        exact Int32.lt_of_lt_of_le (by decide) (nI_pos' hs31)
      · rw [show nI (F (705 + 18 * t)) - 1 = nI (F (705 + 18 * t) - 1) from pk_sub (b := 1) (by omega)]
        exact nI_lt (by omega) hs31
  · refine w_run0 cR ib hno ⟨fun _ => g _ _ trivial fun v1 hv1 => ?_, fun z => absurd rfl z⟩
    have hv1 : v1 = mS (s11_told m 0) n pn := hv1
    rw [hv1]
    exact x_go0 (i := 1) hR ib (by omega) (Or.inr hno) ⟨fun _ => ref, fun z => absurd rfl z⟩
end
