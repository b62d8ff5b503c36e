/-! ===== calls on the world: begin, abort, commit, tops, savepoints ===== -/
section
variable {m : S11} {n : Nat → Int32} {pn : Int32} {F F2 : Nat → Nat} {G : Nat → Int32} {b b2 : Nat → Nat} {e f k : Nat} {w : S9}
def SW (w : S9) (n : Nat → Int32) : Prop := ∃ F G b e f k, CW w F G b e f ∧ isR n F G b e f ∧ IV F G b e f k
/-- both sides of a call on the world: the same answer, and all that holds goes on -/
def OpR (Z : Int32 → Prop) (w : S9) (m : S11) (n : Nat → Int32) (W : (Int32 → S9 → Prop) → Prop) (X : (Int32 → S11 → Prop) → Prop) : Prop := ∀ K : Int32 → S9 → Int32 → S11 → Prop, (∀ r w2 n2 p2, Z r → SW w2 n2 → g9_script w2 = g9_script w → n2 7 = n 7 → K r w2 r (mS m n2 p2)) → ∀ Q : Int32 → S9 → Prop, (∀ r w2, Z r → X (fun r2 v2 => K r w2 r2 v2) → Q r w2) → W Q
def txo (F2 F : Nat → Nat) : Prop := ∀ j, j < 720 ∨ 882 ≤ j → F2 j = F j
theorem byA_c (h : byA F) (hF : ∀ j, j < 720 ∨ 882 ≤ j → F2 j = F j) : byA F2 := ⟨fun k k1 k2 => by rw [hF _ (by omega)]; exact h.1 k k1 k2, fun k k1 k2 => by rw [hF _ (by omega)]; exact h.2.1 k k1 k2, fun g k k1 k2 => by rw [hF _ (by omega)]; exact h.2.2.1 g k k1 k2, fun k k1 k2 => by rw [hF _ (by omega)]; exact h.2.2.2 k k1 k2⟩
theorem IB_atx {f2 : Nat} (h : IB F b e f k) (he : wlk b k = e) {r : List Nat} (hl : r.getD 1 0 = r.length) (h6 : 6 ≤ r.length) (hr : Leg (rp b k) (St b k) (ch b) (fun i => r.getD i 0)) (hfull : e ≤ 3500 ∨ r.getD 0 0 = 4 ∨ r.getD 0 0 = 6 ∨ r.getD 0 0 = 7) (hF : txo F2 F) (hb : ∀ i, F2 i < 65536) (hf : f ≤ f2) (hf2 : f2 ≤ e + r.length) : IB F2 (appB b e r) (e + r.length) f2 (k + 1) :=
  IB_app h he hl h6 hr hfull (hF _ (by omega)) (hF _ (by omega)) (hF _ (by omega)) (hF _ (by omega)) hb (byA_c h.2.1 hF) (IFr_c h.2.2.1 (hF _ (by omega)) (fun k _ _ => hF _ (by omega)) fun s hs => St_app he hs) hf hf2
theorem IB_tx (h : IB F b e f k) (hF : txo F2 F) (hb : ∀ i, F2 i < 65536) : IB F2 b e f k := IB_c h (hF _ (by omega)) (hF _ (by omega)) (hF _ (by omega)) (hF _ (by omega)) hb (byA_c h.2.1 hF) (IFr_c h.2.2.1 (hF _ (by omega)) (fun k _ _ => hF _ (by omega)) fun _ hs => hs) (Nat.le_refl _) h.2.2.2.2.1.2
/-- UP goes on for all but t -/
theorem UP_step {lim : Nat → Nat} {t k2 e2 : Nat} (hU : UPl F b e k lim) (hL : LogOK b e k) (ha : ∀ i, i < wlk b k → b2 i = b i) (hk : k ≤ k2) (hw : wlk b2 k2 = e2) (h3 : F2 3 = F 3) (hrp : ∀ u, u ≠ t → rp b2 k2 u = rp b k u) (hF : ∀ j, 720 ≤ j → j < 882 → j < 702 + 18 * t ∨ 720 + 18 * t ≤ j → F2 j = F j) (ht : 1 ≤ t → t ≤ 9 → UT F2 b2 k2 (lim t) t) : UPl F2 b2 e2 k2 lim := by
  refine ⟨by rw [h3]; exact hU.1, hw, fun u h1 h9 => ?_⟩
  by_cases c : u = t
  · subst c; exact ht h1 h9
  · exact UT_keep hL ha hk (hrp u c) (fun j j1 j2 => hF j (by omega) (by omega) (by omega)) (hU.2.2 u h1 h9)
theorem UPl_of (h : IV F G b e f k) (h3 : F 3 = 0) : UPl F b e k (fun _ => 65536) := by
  rcases h.2 with z | z
  · exact z
  · have := z.1; omega
theorem no_run (h : IV F G b e f k) {t : Nat} (h1 : 1 ≤ t) (h9 : t ≤ 9) (hi : F (702 + 18 * t) ≠ 0) : F 3 = 0 := by
  rcases h.2 with z | z
  · exact z.1
  · exact absurd (z.2.2.1 _ (by omega) (by omega)) hi
theorem lastF_txo {t s : Nat} (h1 : 1 ≤ t) (h9 : t ≤ 9) : txo (lastF F t s) F := fun j hj => by
  unfold lastF
  rw [if_neg (by omega), uNn (by omega)]
theorem txo_trans {F3 : Nat → Nat} (h : txo F3 F2) (h2 : txo F2 F) : txo F3 F := fun j hj => by rw [h j hj, h2 j hj]
theorem updN_txo {j x : Nat} (h1 : 720 ≤ j) (h2 : j < 882) : txo (updN F j x) F := fun i hi => uNn (by omega)
theorem updN_b {j x : Nat} (hb : ∀ i, F i < 65536) (hx : x < 65536) : ∀ i, updN F j x i < 65536 := fun i => by
  unfold updN
  split
  · exact hx
  · exact hb i
theorem lastF_b {t s : Nat} (hb : ∀ i, F i < 65536) (hx : s < 65536) : ∀ i, lastF F t s i < 65536 := fun i => by
  unfold lastF
  split
  · exact hb i
  · exact updN_b hb hx i
theorem prv_t {t : Nat} (h1 : 1 ≤ t) : prvF F t = F (703 + 18 * t) := by unfold prvF; rw [if_neg (by omega)]
theorem s_begin (h : SW w n) (x : Int32) : OpR zb w m n (wp_X9_begin w x) (wp_X11_begins (mS m n pn) x) := by
  obtain ⟨F, G, b, e, f, k, hC, hR, hI⟩ := h
  intro K q Q g
  have ref : K 0 w 0 (mS m n pn) := q 0 w n pn (Or.inl rfl) ⟨F, G, b, e, f, k, hC, hR, hI⟩ rfl rfl
  obtain ⟨cJ, cP, cR, cC, cS, cu, cm, co, cr, cc⟩ := hC
  obtain ⟨ib, iy, iF, iL, -⟩ := hI.1
  unfold wp_X9_begin
  rw [cu]
  by_cases c3 : F 3 = 0
  · rw [if_pos c3]
    refine ⟨fun z => absurd z (by decide), fun _ => ?_⟩
    rcases party x with hp | ⟨t, h1, h9, rfl⟩
    · refine w_party0 hp ⟨fun _ => g _ _ (Or.inl rfl) (x_go0 (i := 0) hR ib (by omega) (Or.inr fun t h1 h9 hx => ?_) ⟨fun _ => ref, fun z => absurd rfl z⟩), fun z => absurd rfl z⟩
      rw [hx] at hp
      exfalso
      rcases hp with z | z
      · have z : nI t < nI 1 := z
        have := (nI_ltI (by omega) (by omega)).mp z
        omega
      · have z : nI 9 < nI t := z.2
        have := (nI_ltI (by omega) (by omega)).mp z
        omega
    · refine w_party1 h1 h9 ⟨fun z => absurd z (by decide), fun _ => ⟨ivp (by omega) (by omega), ?_⟩⟩
      have ibt := ib (702 + 18 * t)
      rw [nI_clamp (by omega), (cR t h1 h9).1]
      refine pk_eq (F (702 + 18 * t)) 0 (fun c0 => ?_) (fun c0 => ?_)
      · refine w_isFull cJ ?_
        by_cases cf : e ≤ 3500
        · rw [if_pos cf]
          refine ⟨fun _ => ?_, fun z => absurd rfl z⟩
          have hU := UPl_of hI c3
          obtain ⟨u1, u2, u3, u4, u5, u6, u7, u8, u9⟩ := hU.2.2 t h1 h9
          refine w_note (kd := 1) cJ cR ib (by omega) (by omega) h1 h9 fun J2 R2 hJ2 hR2 => ⟨ivp (by omega) (by omega), fun w2 hw2 => ?_⟩
          refine g _ _ (Or.inr rfl) (x_go1 hR h1 h9 c3 c0 (by omega) ⟨fun z => absurd z (by decide), fun _ => x_isFull hR ?_⟩)
          rw [if_pos cf]
          refine ⟨fun _ => ?_, fun z => absurd rfl z⟩
          show vp_in ((720 : Int32) + 18 * (nI t - 1) + nI 0) 10700 ∧ _
          rw [show (720 : Int32) + 18 * (nI t - 1) + 0 = (720 : Int32) + 18 * (nI t - 1) + nI 0 from rfl, txA t h1 0]
          refine ⟨ivp (by omega) (by omega), fun v2 hv2 => ?_⟩
          rw [nI_clamp (by omega)] at hv2
          rw [hv2]
          have r1 := isR_wr (k := 702 + 18 * t + 0) (x := 1) hR (by unfold nk; omega)
          refine x_laysPlain (kd := 1) r1 (updN_b ib (by omega)) (by omega) (by omega) h9 fun n2 p2 r2 => ?_
          have pv1 : prvF (updN F (702 + 18 * t + 0) 1) t = F (703 + 18 * t) := by rw [prv_t h1, uNn (by omega)]
          rw [pv1] at r2
          rw [prv_t h1] at hJ2
          have hF : ∀ j, lastF (updN F (702 + 18 * t + 0) 1) t e j = updN (lastF F t e) (702 + 18 * t) 1 j := fun j => by
            unfold lastF
            rw [if_neg (by omega), if_neg (by omega)]
            by_cases d1 : j = 702 + 18 * t
            · subst d1; rw [uNs, uNn (by omega)]; exact uNs
            · by_cases d2 : j = 703 + 18 * t
              · subst d2; rw [uNs, uNn (by omega), uNs]
              · rw [uNn d2, uNn (by omega), uNn d1, uNn d2]
          have r3 := isR_F r2 (fun j => (hF j).symm)
          have hL : Leg (rp b k) (St b k) (ch b) (fun i => (plainR 1 t (F (703 + 18 * t))).getD i 0) := leg_plain (Or.inl rfl) h1 h9 u2 (fun _ => by omega) (fun z => by omega) (fun z => by omega)
          have hl6 : (plainR 1 t (F (703 + 18 * t))).length = 6 := rfl
          have hA := LogOK_app iL hU.2.1 (r := plainR 1 t (F (703 + 18 * t))) (seal_1 (by simp)) (by omega) hL (Or.inl cf)
          have hb2 : ∀ i, updN (lastF F t e) (702 + 18 * t) 1 i < 65536 := updN_b (lastF_b ib (by omega)) (by omega)
          have ho : txo (updN (lastF F t e) (702 + 18 * t) 1) F := txo_trans (updN_txo (by omega) (by omega)) (lastF_txo h1 h9)
          have hIB := IB_atx hI.1 hU.2.1 (r := plainR 1 t (F (703 + 18 * t))) (seal_1 (by simp)) (by omega) hL (Or.inl cf) ho hb2 (Nat.le_refl _) (by have := hI.1.2.2.2.2.1.2; omega)
          rw [hl6] at hIB hA
          have hUP : UPl (updN (lastF F t e) (702 + 18 * t) 1) (appB b e (plainR 1 t (F (703 + 18 * t)))) (e + 6) (k + 1) (fun _ => 65536) := by
            refine UP_step (t := t) hU iL (appB_agr hU.2.1) (by omega) hA.2.1 (ho _ (by omega)) (fun u hu => by rw [hA.2.2.1]; exact plain_ne hu) (fun j j1 j2 j3 => ?_) (fun _ _ => ?_)
            · rw [uNn (by omega)]; unfold lastF; rw [if_neg (by omega), uNn (by omega)]
            · have e1 : rp (appB b e (plainR 1 t (F (703 + 18 * t)))) (k + 1) t = (1, e) := by
                rw [hA.2.2.1, lrn_plain h1 h9, if_neg (by omega), if_neg (by omega), if_neg (by omega), if_pos (by omega)]
              have g : ∀ j, j ≠ 702 + 18 * t → j ≠ 703 + 18 * t → updN (lastF F t e) (702 + 18 * t) 1 j = F j := fun j j1 j2 => by
                rw [uNn j1]; unfold lastF; rw [if_neg (by omega), uNn j2]
              have g3 : updN (lastF F t e) (702 + 18 * t) 1 (703 + 18 * t) = e := by rw [uNn (by omega)]; unfold lastF; rw [if_neg (by omega), uNs]
              have z6 : F (706 + 18 * t) = 0 := u6 (by omega)
              unfold UT
              rw [e1, uNs, g3, g _ (by omega) (by omega), g _ (by omega) (by omega), g _ (by omega) (by omega), z6]
              exact ⟨rfl, rfl, by omega, u4, by omega, fun z => absurd rfl z, fun z => by omega, fun i hi => by omega, fun i j hi hj => by omega⟩
          refine q 1 w2 n2 p2 (Or.inr rfl) ⟨_, G, _, e + 6, f, k + 1, ?_, r3, hIB, Or.inl hUP⟩ (by rw [hw2]) ?_
          · rw [hw2]
            refine ⟨hJ2, RP_c cP (fun k hk => ho k (by omega)) (fun _ _ => rfl), ?_, ?_, RS_c cS (fun k hk => ho k (by omega)), by rw [ho 3 (by omega)]; exact cu, by rw [ho 2 (by omega)]; exact cm, by rw [ho 4 (by omega)]; exact co, cr, cc⟩
            · intro u hu1 hu9
              obtain ⟨d1, d2, d3⟩ := hR2 u hu1 hu9
              rw [uNn (j := 703 + 18 * u) (by omega), uNn (j := 704 + 18 * u) (by omega)]
              refine ⟨?_, d2, d3⟩
              show upd (g5_is R2) t 1 u = _
              by_cases c : u = t
              · subst c; rw [pk_us, uNs]; rfl
              · rw [pk_un c, uNn (by omega)]; exact d1
            · obtain ⟨a1, a2, a3⟩ := cC
              refine ⟨a1, a2, fun u hu1 hu9 => ?_⟩
              obtain ⟨b1, b2, b3, b4, b5⟩ := a3 u hu1 hu9
              have g : ∀ j, 705 + 18 * u ≤ j → j < 720 + 18 * u → updN (lastF F t e) (702 + 18 * t) 1 j = F j := fun j j1 j2 => by
                rw [uNn (by omega)]; unfold lastF; rw [if_neg (by omega), uNn (by omega)]
              rw [g _ (by omega) (by omega), g _ (by omega) (by omega)]
              exact ⟨b1, b2, b3, fun k hk h8 => by rw [g _ (by omega) (by omega)]; exact b4 k hk h8, fun k hk h4 => by rw [g _ (by omega) (by omega)]; exact b5 k hk h4⟩
          · rw [r3.2.1 7 (by unfold nk; omega), hR.2.1 7 (by unfold nk; omega), ho 7 (by omega)]
        · rw [if_neg cf]
          refine ⟨fun z => absurd z (by decide), fun _ => g _ _ (Or.inl rfl) (x_go1 hR h1 h9 c3 c0 (by omega) ⟨fun z => absurd z (by decide), fun _ => x_isFull hR ?_⟩)⟩
          rw [if_neg cf]
          exact ⟨fun z => absurd z (by decide), fun _ => ref⟩
      · refine g _ _ (Or.inl rfl) (x_go0 (i := 0) hR ib (by omega) (Or.inr fun u hu1 hu9 hx => ?_) ⟨fun _ => ref, fun z => absurd rfl z⟩)
        have := (nI_eq (by omega) (by omega)).mp hx
        subst this
        exact c0
  · rw [if_neg c3]
    exact ⟨fun _ => g _ _ (Or.inl rfl) (x_go0 (i := 0) hR ib (by omega) (Or.inl c3) ⟨fun _ => ref, fun z => absurd rfl z⟩), fun z => absurd rfl z⟩
end
