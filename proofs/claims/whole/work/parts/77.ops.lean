/-! ===== commit ===== -/
section
variable {m : S11} {n : Nat → Int32} {pn : Int32} {F F2 : Nat → Nat} {G G2 : Nat → Int32} {b b2 : Nat → Nat} {e f k e2 f2 : Nat} {w : S9}
theorem RC_o {C : S0} (h : RC C F G) (hF : ∀ u j, 1 ≤ u → u ≤ 9 → 3 ≤ j → j < 18 → F2 (702 + 18 * u + j) = F (702 + 18 * u + j)) : RC C F2 G := by
  obtain ⟨a1, a2, a3⟩ := h
  refine ⟨a1, a2, fun t h1 h9 => ?_⟩
  obtain ⟨b1, b2, b3, b4, b5⟩ := a3 t h1 h9
  have g : ∀ j, 705 + 18 * t ≤ j → j < 720 + 18 * t → F2 j = F j := fun j j1 j2 => by
    have := hF t (j - (702 + 18 * t)) h1 h9 (by omega) (by omega)
    rwa [show 702 + 18 * t + (j - (702 + 18 * t)) = j by omega] at this
  rw [g _ (by omega) (by omega), g (706 + 18 * t) (by omega) (by omega)]
  exact ⟨b1, b2, b3, fun k hk h8 => by rw [g _ (by omega) (by omega)]; exact b4 k hk h8, fun k hk h4 => by rw [g _ (by omega) (by omega)]; exact b5 k hk h4⟩
theorem CW_jr (hC : CW w F G b e f) (ho : txo F2 F) {J2 : S2} {R2 : S5} (hJ : isJ J2 b2 e2 f2) (hR : RO R2 F2) (hCl : RC (g9_claims w) F2 G) : CW (s9_roster (s9_journal w J2) R2) F2 G b2 e2 f2 := CW_mk hC ho (fun _ _ => rfl) hJ hR hCl
/-- one more record 7 of t, which is gone then -/
theorem gone_step {t : Nat} (hIB : IB F b e f k) (he : wlk b k = e) (h1 : 1 ≤ t) (h9 : t ≤ 9) (hp : F (703 + 18 * t) = (rp b k t).2) (hi : (rp b k t).1 ≠ 0) : IB (goneF F t) (appB b e (plainR 7 t (F (703 + 18 * t)))) (e + 6) f (k + 1) ∧ wlk (appB b e (plainR 7 t (F (703 + 18 * t)))) (k + 1) = e + 6 ∧ rp (appB b e (plainR 7 t (F (703 + 18 * t)))) (k + 1) = fun u => if u = t then (0, 0) else rp b k u := by
  have hL : Leg (rp b k) (St b k) (ch b) (fun i => (plainR 7 t (F (703 + 18 * t))).getD i 0) := leg_plain (Or.inr (Or.inr (Or.inr rfl))) h1 h9 hp (fun z => by omega) (fun z => by omega) (fun _ => hi)
  have hl6 : (plainR 7 t (F (703 + 18 * t))).length = 6 := rfl
  have g0 : (plainR 7 t (F (703 + 18 * t))).getD 0 0 = 7 := sg0 (by simp)
  have hA := LogOK_app hIB.2.2.2.1 he (r := plainR 7 t (F (703 + 18 * t))) (seal_1 (by simp)) (by omega) hL (Or.inr (Or.inr (Or.inr g0)))
  have hIB2 := IB_atx hIB he (r := plainR 7 t (F (703 + 18 * t))) (seal_1 (by simp)) (by omega) hL (Or.inr (Or.inr (Or.inr g0))) (goneF_txo h1 h9) (goneF_b (t := t) hIB.1) (Nat.le_refl _) (by have := hIB.2.2.2.2.1.2; omega)
  rw [hl6] at hIB2 hA
  refine ⟨hIB2, hA.2.1, ?_⟩
  rw [hA.2.2.1]
  funext u
  by_cases c : u = t
  · subst c; rw [lrn_plain h1 h9, if_pos rfl, if_pos rfl]
  · rw [plain_ne c, if_neg c]
theorem s_commit (h : SW w n) (x : Int32) : OpR zb w m n (wp_X9_commit w x) (wp_X11_commits (mS m n pn) x) := by
  obtain ⟨F, G, b, e, f, k, hC, hR, hI⟩ := h
  intro K q Q g
  have ref : K 0 w 0 (mS m n pn) := q 0 w n pn (Or.inl rfl) ⟨F, G, b, e, f, k, hC, hR, hI⟩ rfl rfl
  have hC0 := hC
  obtain ⟨cJ, cP, cR, cC, cS, cu, cm, co, cr, cc⟩ := hC
  obtain ⟨ib, iy, iF, iL, i5, -⟩ := hI.1
  rcases run_cases hI x with ⟨t, h1, h9, rfl, hrun, c3⟩ | hno
  · have hU := UPl_of hI c3
    obtain ⟨u1, u2, u3, u4, u5, u6, u7, u8, u9⟩ := hU.2.2 t h1 h9
    obtain ⟨b1, b2, b3, b4, b5⟩ := cC.2.2 t h1 h9
    have m4 : ((720 : Int32) + 18 * (nI t - 1) + 4).toNatClampNeg = 706 + 18 * t := by rw [(vtx h1 h9 (j := 4) (by omega)).2 |> fun z => show ((720 : Int32) + 18 * (nI t - 1) + 4).toNatClampNeg = 702 + 18 * t + 4 from z]; omega
    have x4 : n (706 + 18 * t) = nI (F (706 + 18 * t)) := hR.2.1 _ (by unfold nk; omega)
    have xref : ∀ {K2 : Int32 → S11 → Prop}, (F (706 + 18 * t) ≠ 0 ∨ ¬ e ≤ 3500) → K2 0 (mS m n pn) → wp_X11_commits (mS m n pn) (nI t) K2 := by
      intro K2 hz k0
      refine x_go1 hR h1 h9 c3 hrun (by omega) ⟨fun z => absurd z (by decide), fun _ => x_isFull hR ?_⟩
      by_cases cf : e ≤ 3500
      · rw [if_pos cf]
        refine ⟨fun _ => ?_, fun z => absurd rfl z⟩
        simp only [wp_X11_txAt]
        rw [m4, gmS, x4]
        exact ⟨(vtx h1 h9 (j := 4) (by omega)).1, pk_le (F (706 + 18 * t)) 0 (fun z => by omega) (fun _ => k0)⟩
      · rw [if_neg cf]
        exact ⟨fun z => absurd z (by decide), fun _ => k0⟩
    refine w_run1 cR h1 h9 hrun ⟨fun z => absurd z (by decide), fun _ => ⟨ivp (by omega) (by omega), ?_⟩⟩
    rw [nI_clamp (by omega), b3]
    refine pk_lt 0 (F (706 + 18 * t)) (fun z => g _ _ (Or.inl rfl) (xref (Or.inl (by omega)) ref)) (fun hz => w_isFull cJ ?_)
    by_cases cf : e ≤ 3500
    · rw [if_pos cf]
      refine ⟨fun _ => ?_, fun z => absurd rfl z⟩
      have hL : Leg (rp b k) (St b k) (ch b) (fun i => (plainR 5 t (F (703 + 18 * t))).getD i 0) := leg_plain (Or.inr (Or.inl rfl)) h1 h9 u2 (fun z => by omega) (fun _ => by omega) (fun z => by omega)
      have hl6 : (plainR 5 t (F (703 + 18 * t))).length = 6 := rfl
      have hA := LogOK_app iL hU.2.1 (r := plainR 5 t (F (703 + 18 * t))) (seal_1 (by simp)) (by omega) hL (Or.inl cf)
      have ho1 : txo (lastF F t e) F := lastF_txo h1 h9
      have hb1 : ∀ i, lastF F t e i < 65536 := lastF_b ib (by omega)
      have hIB := IB_atx hI.1 hU.2.1 (r := plainR 5 t (F (703 + 18 * t))) (seal_1 (by simp)) (by omega) hL (Or.inl cf) ho1 hb1 (Nat.le_refl _) (by omega)
      rw [hl6] at hIB hA
      have eb1 : appB b e (plainR 5 t (F (703 + 18 * t))) (e + 1) = 6 := by rw [appB_e]; exact seal_1 (by simp)
      have efl : flT (appB b e (plainR 5 t (F (703 + 18 * t)))) f e = e + 6 := by unfold flT; rw [eb1]; omega
      have hIB1 : IB (lastF F t e) (appB b e (plainR 5 t (F (703 + 18 * t)))) (e + 6) (e + 6) (k + 1) := IB_c hIB rfl rfl rfl rfl hb1 hIB.2.1 hIB.2.2.1 (by omega) (Nat.le_refl _)
      have e3 : rp (appB b e (plainR 5 t (F (703 + 18 * t)))) (k + 1) t = (3, e) := by rw [hA.2.2.1, lrn_plain h1 h9, if_neg (by omega), if_pos rfl]
      obtain ⟨g1, g2, g3⟩ := gone_step hIB1 hA.2.1 h1 h9 (by rw [e3, lastF_t h1]) (by rw [e3]; show 3 ≠ 0; omega)
      rw [lastF_t h1, gone_last h1] at g1
      rw [lastF_t h1] at g2 g3
      refine w_note (kd := 5) cJ cR ib (by omega) (by omega) h1 h9 fun J2 R2 hJ2 hR2 => ?_
      rw [prv_t h1] at hJ2
      refine w_flushThrough hJ2 (by omega) (by omega) fun J3 hJ3 w3 hw3 => ?_
      rw [efl] at hJ3
      rw [hw3]
      refine w_endOf (w := s9_journal (s9_roster (s9_journal w J2) R2) J3) (G := G) hJ3 hR2 ?_ hb1 (by omega) h1 h9 fun J4 R4 C4 hJ4 hR4 hC4 => ?_
      · exact RC_o cC fun u j hu1 hu9 h3 h18 => lastF_o (by omega)
      rw [lastF_t h1] at hJ4
      rw [gone_last h1] at hR4 hC4
      refine g _ _ (Or.inr rfl) ?_
      refine x_go1 hR h1 h9 c3 hrun (by omega) ⟨fun z => absurd z (by decide), fun _ => x_isFull hR ?_⟩
      rw [if_pos cf]
      refine ⟨fun _ => ?_, fun z => absurd rfl z⟩
      simp only [wp_X11_txAt]
      rw [m4, gmS, x4]
      refine ⟨(vtx h1 h9 (j := 4) (by omega)).1, pk_le (F (706 + 18 * t)) 0 (fun _ => ?_) (fun z => by omega)⟩
      refine x_laysPlain (kd := 5) hR ib (by omega) (by omega) h9 fun n2 p2 r2 => ?_
      rw [prv_t h1] at r2
      refine x_flushesThrough r2 (by have := wlk_8 (b := b) k; have := hU.2.1; omega) (by omega) (by rw [eb1]; omega) fun n3 r3 => ?_
      rw [efl] at r3
      refine x_endOf r3 hb1 (by omega) h1 h9 fun n4 p4 r4 => ?_
      rw [lastF_t h1, gone_last h1] at r4
      have hUP : UPl (goneF F t) (appB (appB b e (plainR 5 t (F (703 + 18 * t)))) (e + 6) (plainR 7 t e)) (e + 6 + 6) (k + 1 + 1) (fun _ => 65536) := by
        refine UP_step (t := t) hU iL (fun i hi => ?_) (by omega) g2 (goneF_txo h1 h9 _ (by omega)) (fun u hu => ?_) (fun j j1 j2 j3 => by unfold goneF; rw [if_neg (by omega)]) (fun _ _ => UT_gone h1 ?_)
        · have := hU.2.1
          unfold appB
          rw [if_pos (by omega), if_pos (by omega)]
        · rw [g3]
          show (if u = t then _ else _) = _
          rw [if_neg hu, hA.2.2.1]; exact plain_ne hu
        · rw [g3]; exact if_pos rfl
      refine q 1 _ n4 p4 (Or.inr rfl) ⟨goneF F t, goneG G t, _, e + 6 + 6, e + 6, k + 1 + 1, ?_, r4, g1, Or.inl hUP⟩ rfl (sw_7 hR r4 (goneF_txo h1 h9 7 (by omega)))
      exact CW_mk hC0 (goneF_txo h1 h9) (fun k hk => goneG_o h1 h9 hk) hJ4 hR4 hC4
    · rw [if_neg cf]
      exact ⟨fun z => absurd z (by decide), fun _ => g _ _ (Or.inl rfl) (xref (Or.inr cf) ref)⟩
  · exact w_run0 cR ib hno ⟨fun _ => g _ _ (Or.inl rfl) (x_go0 (i := 1) hR ib (by omega) (Or.inr hno) ⟨fun _ => ref, fun z => absurd rfl z⟩), fun z => absurd rfl z⟩
end
