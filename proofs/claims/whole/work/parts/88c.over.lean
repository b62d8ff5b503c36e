/-! ===== a checkpoint ended ===== -/
section
variable {m : S11} {n : Nat → Int32} {pn : Int32} {F F2 : Nat → Nat} {G G2 : Nat → Int32} {b b2 : Nat → Nat} {e f k e2 f2 : Nat} {w : S9} {Sp : Nat → Prop} {T : Nat → Nat × Nat} {c : Nat → Nat}
def tsL (F : Nat → Nat) : List Nat := selL (isB F) 9 1
def psL (F : Nat → Nat) : List Nat := selL (pgB F) 16 0
def ovL (F : Nat → Nat) : List Nat := [10, 0, 0, 0, 0] ++ [cnt (isB F) 9 1] ++ cat (txf F) (tsL F) ++ [cnt (unB F) 8 0] ++ cat (pgf F) (psL F)
theorem ov_ln (hI : IFr F Sp) : (tsL F).length = cnt (isB F) 9 1 ∧ (psL F).length = cnt (unB F) 8 0 ∧ (cat (txf F) (tsL F)).length = 4 * cnt (isB F) 9 1 ∧ (cat (pgf F) (psL F)).length = 3 * cnt (unB F) 8 0 ∧ cnt (isB F) 9 1 ≤ 9 ∧ cnt (unB F) 8 0 ≤ 8 ∧ (ovL F).length = 7 + 4 * cnt (isB F) 9 1 + 3 * cnt (unB F) 8 0 := by
  have h1 : (tsL F).length = cnt (isB F) 9 1 := sel_len _ _ _
  have h2 : (psL F).length = cnt (unB F) 8 0 := by rw [un_pg hI]; exact sel_len _ _ _
  have h3 : (cat (txf F) (tsL F)).length = 4 * cnt (isB F) 9 1 := by rw [cat_len (wd := 4) (fun _ => rfl), h1]
  have h4 : (cat (pgf F) (psL F)).length = 3 * cnt (unB F) 8 0 := by rw [cat_len (wd := 3) (fun _ => rfl), h2]
  refine ⟨h1, h2, h3, h4, cnt_le _ _ _, cnt_le _ _ _, ?_⟩
  unfold ovL
  simp only [List.length_append, h3, h4, List.length_cons, List.length_nil]
  omega
theorem ov_tx (hI : IFr F Sp) {i j : Nat} (hi : i < cnt (isB F) 9 1) (hj : j < 4) : (ovL F).getD (6 + 4 * i + j) 0 = (txf F ((tsL F).getD i 0)).getD j 0 := by
  obtain ⟨l1, l2, l3, l4, -⟩ := ov_ln hI
  have := cat_get (f := txf F) (wd := 4) (fun _ => rfl) (tsL F) i j (by omega) hj
  rw [← this]
  unfold ovL
  rw [getD_l (by simp only [List.length_append, l3, List.length_cons, List.length_nil]; omega), getD_l (by simp only [List.length_append, l3, List.length_cons, List.length_nil]; omega)]
  have e1 : ([10, 0, 0, 0, 0] ++ [cnt (isB F) 9 1]).length = 6 := rfl
  rw [show 6 + 4 * i + j = ([10, 0, 0, 0, 0] ++ [cnt (isB F) 9 1]).length + (4 * i + j) by rw [e1]; omega, getD_r]
theorem ov_u (hI : IFr F Sp) : (ovL F).getD (6 + 4 * cnt (isB F) 9 1) 0 = cnt (unB F) 8 0 := by
  obtain ⟨l1, l2, l3, l4, -⟩ := ov_ln hI
  unfold ovL
  rw [getD_l (by simp only [List.length_append, l3, List.length_cons, List.length_nil]; omega)]
  have e1 : ([10, 0, 0, 0, 0] ++ [cnt (isB F) 9 1] ++ cat (txf F) (tsL F)).length = 6 + 4 * cnt (isB F) 9 1 := by simp only [List.length_append, l3, List.length_cons, List.length_nil]
  rw [show 6 + 4 * cnt (isB F) 9 1 = ([10, 0, 0, 0, 0] ++ [cnt (isB F) 9 1] ++ cat (txf F) (tsL F)).length + 0 by rw [e1, Nat.add_zero], getD_r]
  rfl
theorem ov_pg (hI : IFr F Sp) {i j : Nat} (hi : i < cnt (unB F) 8 0) (hj : j < 3) : (ovL F).getD (7 + 4 * cnt (isB F) 9 1 + 3 * i + j) 0 = (pgf F ((psL F).getD i 0)).getD j 0 := by
  obtain ⟨l1, l2, l3, l4, -⟩ := ov_ln hI
  have := cat_get (f := pgf F) (wd := 3) (fun _ => rfl) (psL F) i j (by omega) hj
  rw [← this]
  unfold ovL
  have e1 : ([10, 0, 0, 0, 0] ++ [cnt (isB F) 9 1] ++ cat (txf F) (tsL F) ++ [cnt (unB F) 8 0]).length = 7 + 4 * cnt (isB F) 9 1 := by simp only [List.length_append, l3, List.length_cons, List.length_nil]; omega
  rw [show 7 + 4 * cnt (isB F) 9 1 + 3 * i + j = ([10, 0, 0, 0, 0] ++ [cnt (isB F) 9 1] ++ cat (txf F) (tsL F) ++ [cnt (unB F) 8 0]).length + (3 * i + j) by rw [e1]; omega, getD_r]
theorem ov_lo {i : Nat} (h : i < 6) : (ovL F).getD i 0 = [10, 0, 0, 0, 0, cnt (isB F) 9 1].getD i 0 := by
  have e1 : ([10, 0, 0, 0, 0] ++ [cnt (isB F) 9 1]).length = 6 := rfl
  unfold ovL
  rw [getD_l (by simp only [List.length_append, List.length_cons, List.length_nil]; omega), getD_l (by simp only [List.length_append, List.length_cons, List.length_nil]; omega), getD_l (by rw [e1]; exact h)]
  rfl
theorem cat_lt {g : Nat → List Nat} {N : Nat} (hg : ∀ t j, (g t).getD j 0 < N) : ∀ ts j, 0 < N → (cat g ts).getD j 0 < N := by
  intro ts
  induction ts with
  | nil => intro j hN; show ([] : List Nat).getD j 0 < N; simp; exact hN
  | cons t ts ih =>
    intro j hN
    show (g t ++ cat g ts).getD j 0 < N
    by_cases c : j < (g t).length
    · rw [getD_l c]; exact hg t j
    · obtain ⟨i, rfl⟩ : ∃ i, j = (g t).length + i := ⟨j - (g t).length, by omega⟩
      rw [getD_r]; exact ih i hN
theorem ov_lt (hI : IFr F Sp) (hb : ∀ i, F i < 65536) (h2 : ∀ t, 1 ≤ t → t ≤ 9 → F (702 + 18 * t) ≤ 2) : ∀ j, (ovL F).getD j 0 < 256 := by
  obtain ⟨l1, l2, l3, l4, l5, l6, l7⟩ := ov_ln hI
  intro j
  by_cases c0 : j < 6
  · rw [ov_lo c0]
    have : j = 0 ∨ j = 1 ∨ j = 2 ∨ j = 3 ∨ j = 4 ∨ j = 5 := by omega
    rcases this with rfl | rfl | rfl | rfl | rfl | rfl
    · show 10 < 256; omega
    · show 0 < 256; omega
    · show 0 < 256; omega
    · show 0 < 256; omega
    · show 0 < 256; omega
    · show cnt (isB F) 9 1 < 256; omega
  · by_cases c1 : j < 6 + 4 * cnt (isB F) 9 1
    · have e1 : j = 6 + 4 * ((j - 6) / 4) + (j - 6) % 4 := by omega
      rw [e1, ov_tx hI (by omega) (by omega)]
      obtain ⟨s1, s2, s3⟩ := sel_mem (isB F) 9 1 ((j - 6) / 4) (by rw [sel_len]; omega)
      have ht : 1 ≤ (tsL F).getD ((j - 6) / 4) 0 ∧ (tsL F).getD ((j - 6) / 4) 0 ≤ 9 := ⟨s1, by show (selL (isB F) 9 1).getD _ 0 ≤ 9; omega⟩
      have hi := h2 _ ht.1 ht.2
      have hl := hb (703 + 18 * (tsL F).getD ((j - 6) / 4) 0)
      have : (j - 6) % 4 = 0 ∨ (j - 6) % 4 = 1 ∨ (j - 6) % 4 = 2 ∨ (j - 6) % 4 = 3 := by omega
      rcases this with z | z | z | z <;> rw [z]
      · show (tsL F).getD ((j - 6) / 4) 0 < 256; omega
      · show F (702 + 18 * (tsL F).getD ((j - 6) / 4) 0) < 256; omega
      · show F (703 + 18 * (tsL F).getD ((j - 6) / 4) 0) / 256 < 256; omega
      · show F (703 + 18 * (tsL F).getD ((j - 6) / 4) 0) % 256 < 256; omega
    · by_cases c2 : j = 6 + 4 * cnt (isB F) 9 1
      · rw [c2, ov_u hI]; omega
      · by_cases c3 : j < 7 + 4 * cnt (isB F) 9 1 + 3 * cnt (unB F) 8 0
        · have e1 : j = 7 + 4 * cnt (isB F) 9 1 + 3 * ((j - (7 + 4 * cnt (isB F) 9 1)) / 3) + (j - (7 + 4 * cnt (isB F) 9 1)) % 3 := by omega
          rw [e1, ov_pg hI (by omega) (by omega)]
          generalize (j - (7 + 4 * cnt (isB F) 9 1)) / 3 = i at *
          obtain ⟨s1, s2, s3⟩ := sel_mem (pgB F) 16 0 i (by have := l2; unfold psL at this; omega)
          have hp : (psL F).getD i 0 < 16 := by show (selL (pgB F) 16 0).getD i 0 < 16; omega
          have hl := hb (562 + 20 * fo F ((psL F).getD i 0))
          have : (j - (7 + 4 * cnt (isB F) 9 1)) % 3 = 0 ∨ (j - (7 + 4 * cnt (isB F) 9 1)) % 3 = 1 ∨ (j - (7 + 4 * cnt (isB F) 9 1)) % 3 = 2 := by omega
          rcases this with z | z | z <;> rw [z]
          · show (psL F).getD i 0 < 256; omega
          · show F (562 + 20 * fo F ((psL F).getD i 0)) / 256 < 256; omega
          · show F (562 + 20 * fo F ((psL F).getD i 0)) % 256 < 256; omega
        · have : (ovL F).getD j 0 = 0 := by simp [List.getD, List.getElem?_eq_none (show (ovL F).length ≤ j by omega)]
          rw [this]; omega
theorem leg_10 (hI : IFr F Sp) (hT : ∀ t, 1 ≤ t → t ≤ 9 → F (702 + 18 * t) = (T t).1 ∧ F (703 + 18 * t) = (T t).2 ∧ F (702 + 18 * t) ≤ 2) : Leg T Sp c (fun i => (sealR (ovL F)).getD i 0) := by
  obtain ⟨l1, l2, l3, l4, l5, l6, l7⟩ := ov_ln hI
  have g : ∀ i, i < 7 + 4 * cnt (isB F) 9 1 + 3 * cnt (unB F) 8 0 → i ≠ 1 → (sealR (ovL F)).getD i 0 = (ovL F).getD i 0 := fun i hi h1 => sealR_g (by omega) h1 (by omega)
  have g0 : (sealR (ovL F)).getD 0 0 = 10 := by rw [g 0 (by omega) (by omega), ov_lo (by omega)]; rfl
  have g1 : (sealR (ovL F)).getD 1 0 = 8 + 4 * cnt (isB F) 9 1 + 3 * cnt (unB F) 8 0 := by rw [seal_1 (by omega), seal_len]; omega
  have g2 : (sealR (ovL F)).getD 2 0 = 0 := by rw [g 2 (by omega) (by omega), ov_lo (by omega)]; rfl
  have g3 : pr2 (fun i => (sealR (ovL F)).getD i 0) 3 = 0 := pr2_ab (by show (sealR (ovL F)).getD 3 0 = 0; rw [g 3 (by omega) (by omega), ov_lo (by omega)]; rfl) (by show (sealR (ovL F)).getD 4 0 = 0; rw [g 4 (by omega) (by omega), ov_lo (by omega)]; rfl)
  have g5 : (sealR (ovL F)).getD 5 0 = cnt (isB F) 9 1 := by rw [g 5 (by omega) (by omega), ov_lo (by omega)]; rfl
  have gu : (sealR (ovL F)).getD (6 + 4 * cnt (isB F) 9 1) 0 = cnt (unB F) 8 0 := by rw [g _ (by omega) (by omega), ov_u hI]
  have gt : ∀ i j, i < cnt (isB F) 9 1 → j < 4 → (sealR (ovL F)).getD (6 + 4 * i + j) 0 = (txf F ((tsL F).getD i 0)).getD j 0 := fun i j hi hj => by rw [g _ (by omega) (by omega), ov_tx hI hi hj]
  have gp : ∀ i j, i < cnt (unB F) 8 0 → j < 3 → (sealR (ovL F)).getD (7 + 4 * cnt (isB F) 9 1 + 3 * i + j) 0 = (pgf F ((psL F).getD i 0)).getD j 0 := fun i j hi hj => by rw [g _ (by omega) (by omega), ov_pg hI hi hj]
  unfold Leg
  simp only [g0, g1, g2, g3, g5, gu]
  refine ⟨⟨by omega, by omega, ?_, ?_⟩, ⟨by omega, by simp, by simp⟩, fun z => by omega, fun z => by omega, fun z => by omega, fun z => by omega, fun z => by omega, fun z => by omega, fun _ => ⟨⟨l5, l6⟩, fun i hi => ?_, fun t h1 h9 ht => ?_, fun i hi => ?_⟩⟩
  · unfold due
    simp only [Nat.zero_add, g0, g5, gu]
    rfl
  · have := seal_chk (ds := ovL F) (by omega)
    rw [g1] at this
    exact this
  · obtain ⟨s1, s2, s3⟩ := sel_mem (isB F) 9 1 i (by rw [sel_len]; exact hi)
    have t0 : (sealR (ovL F)).getD (6 + 4 * i) 0 = (tsL F).getD i 0 := gt i 0 hi (by omega)
    have t1 : (sealR (ovL F)).getD (7 + 4 * i) 0 = F (702 + 18 * (tsL F).getD i 0) := by have := gt i 1 hi (by omega); rw [show 6 + 4 * i + 1 = 7 + 4 * i by omega] at this; exact this
    have t2 : pr2 (fun i => (sealR (ovL F)).getD i 0) (8 + 4 * i) = F (703 + 18 * (tsL F).getD i 0) := pr2_ab (by have := gt i 2 hi (by omega); rw [show 6 + 4 * i + 2 = 8 + 4 * i by omega] at this; exact this) (by have := gt i 3 hi (by omega); rw [show 6 + 4 * i + 3 = 8 + 4 * i + 1 by omega] at this; exact this)
    rw [t0, t1, t2]
    have ht1 : 1 ≤ (tsL F).getD i 0 := s1
    have ht9 : (tsL F).getD i 0 ≤ 9 := by show (selL (isB F) 9 1).getD i 0 ≤ 9; omega
    obtain ⟨q1, q2, q3⟩ := hT _ ht1 ht9
    have s3 : isB F ((tsL F).getD i 0) = true := s3
    have hn : F (702 + 18 * (tsL F).getD i 0) ≠ 0 := by unfold isB at s3; exact of_decide_eq_true s3
    exact ⟨ht1, ht9, q1, by omega, q3, q2⟩
  · obtain ⟨q1, q2, q3⟩ := hT t h1 h9
    obtain ⟨i, i1, i2⟩ := sel_all (isB F) 9 1 t h1 (by omega) (by unfold isB; exact decide_eq_true (by omega))
    rw [sel_len] at i1
    refine ⟨i, i1, ?_⟩
    have t0 : (sealR (ovL F)).getD (6 + 4 * i) 0 = (tsL F).getD i 0 := gt i 0 i1 (by omega)
    rw [t0]; exact i2
  · obtain ⟨s1, s2, s3⟩ := sel_mem (pgB F) 16 0 i (by have := l2; unfold psL at this; omega)
    have p0 : (sealR (ovL F)).getD (7 + 4 * cnt (isB F) 9 1 + 3 * i) 0 = (psL F).getD i 0 := gp i 0 hi (by omega)
    have p2 : pr2 (fun i => (sealR (ovL F)).getD i 0) (8 + 4 * cnt (isB F) 9 1 + 3 * i) = F (562 + 20 * fo F ((psL F).getD i 0)) := pr2_ab (by have := gp i 1 hi (by omega); rw [show 7 + 4 * cnt (isB F) 9 1 + 3 * i + 1 = 8 + 4 * cnt (isB F) 9 1 + 3 * i by omega] at this; exact this) (by have := gp i 2 hi (by omega); rw [show 7 + 4 * cnt (isB F) 9 1 + 3 * i + 2 = 8 + 4 * cnt (isB F) 9 1 + 3 * i + 1 by omega] at this; exact this)
    rw [p0, p2]
    have s3 : pgB F ((psL F).getD i 0) = true := s3
    have hz : fo F ((psL F).getD i 0) < F 5 ∧ F (562 + 20 * fo F ((psL F).getD i 0)) ≠ 0 := by unfold pgB at s3; exact of_decide_eq_true s3
    have h8 := hI.1.2
    exact ⟨by show (selL (pgB F) 16 0).getD i 0 < 16; omega, (hI.2.2.1 _ (by omega) hz.2).2.1⟩
theorem s_keep3 (h : SW w n) (x : Int32) : OpR zb w (s11_told m 0) n (wp_X9_checkEnds w) (wp_X11_keep (mS m n pn) 3 x) := by
  obtain ⟨F, G, b, e, f, k, hC, hR, hI⟩ := h
  intro K q Q g
  have ref : K 0 w 0 (mS (s11_told m 0) n pn) := q 0 w n pn (Or.inl rfl) ⟨F, G, b, e, f, k, hC, hR, hI⟩ rfl rfl
  obtain ⟨cJ, cP, cR, cC, cS, cu, cm, co, cr, cc⟩ := hC
  obtain ⟨ib, iy, iF, iL, i5, i6, i7, i8, i9, i10⟩ := id hI.1
  have h8 := iF.1.2
  have ib4 := ib 4
  refine w_up cu (fun c3 => g _ _ (by first | exact Or.inl rfl | exact Or.inr rfl) <| x_keep0 hR ib (Or.inl c3) ref) (fun c3 => ?_)
  have xk : ∀ {K2 : Int32 → S11 → Prop}, wp_X11_overs (mS (s11_told m 0) n pn) (fun r v2 => zb r ∧ K2 r v2) → wp_X11_keep (mS m n pn) 3 x K2 := fun {K2} qq => x_keepU (j := 3) hR c3 (by omega) (by unfold wpK; rw [if_neg (by omega), if_pos rfl]; exact qq)
  have xr : ∀ {K2 : Int32 → S11 → Prop}, (F 4 = 0 ∨ ¬ e ≤ 3500) → K2 0 (mS (s11_told m 0) n pn) → wp_X11_overs (mS (s11_told m 0) n pn) (fun r v2 => zb r ∧ K2 r v2) := by
    intro K2 hz k0
    refine x_isFull hR ?_
    by_cases cf : e ≤ 3500
    · rw [if_pos cf]
      refine ⟨fun _ => ?_, fun z => absurd rfl z⟩
      rw [show (4 : Int32).toNatClampNeg = 4 by decide, gmS, hR.2.1 4 (by unfold nk; omega)]
      exact ⟨ivp (k := 4) (by omega) (by omega), pk_eq (F 4) 0 (fun z => ⟨Or.inl rfl, k0⟩) (fun z => by omega)⟩
    · rw [if_neg cf]
      exact ⟨fun z => absurd z (by decide), fun _ => ⟨Or.inl rfl, k0⟩⟩
  rw [co]
  refine pk_eq (F 4) 0 (fun z4 => g _ _ (by first | exact Or.inl rfl | exact Or.inr rfl) <| xk (xr (Or.inl z4) ref)) (fun z4 => w_isFull cJ ?_)
  by_cases cf : e ≤ 3500
  · rw [if_pos cf]
    refine ⟨fun _ => ?_, fun z => absurd rfl z⟩
    have hU := UPl_of hI c3
    have hT : ∀ t, 1 ≤ t → t ≤ 9 → F (702 + 18 * t) = (rp b k t).1 ∧ F (703 + 18 * t) = (rp b k t).2 ∧ F (702 + 18 * t) ≤ 2 := fun t h1 h9 => ⟨(hU.2.2 t h1 h9).1, (hU.2.2 t h1 h9).2.1, (hU.2.2 t h1 h9).2.2.1⟩
    have h2 : ∀ t, 1 ≤ t → t ≤ 9 → F (702 + 18 * t) ≤ 2 := fun t h1 h9 => (hT t h1 h9).2.2
    obtain ⟨l1, l2, l3, l4, l5, l6, l7⟩ := ov_ln iF
    have hlt := ov_lt iF ib h2
    have hL : Leg (rp b k) (St b k) (ch b) (fun i => (sealR (ovL F)).getD i 0) := leg_10 iF hT
    have hln : (sealR (ovL F)).length = 8 + 4 * cnt (isB F) 9 1 + 3 * cnt (unB F) 8 0 := by rw [seal_len]; omega
    have s1 : (sealR (ovL F)).getD 1 0 = (sealR (ovL F)).length := seal_1 (by omega)
    have g0 : (sealR (ovL F)).getD 0 0 = 10 := by rw [sealR_g (by omega) (by omega) (by omega), ov_lo (by omega)]; rfl
    have g2 : (sealR (ovL F)).getD 2 0 = 0 := by rw [sealR_g (by omega) (by omega) (by omega), ov_lo (by omega)]; rfl
    have hA := LogOK_app iL hU.2.1 (r := sealR (ovL F)) s1 (by omega) hL (Or.inl cf)
    have ag := appB_agr (r := sealR (ovL F)) hU.2.1
    have eb1 : appB b e (sealR (ovL F)) (e + 1) = (sealR (ovL F)).length := by rw [appB_e]; exact s1
    have efl : flT (appB b e (sealR (ovL F))) f e = e + (sealR (ovL F)).length := by unfold flT; rw [eb1]; omega
    have els : e + (ovL F).length + 1 = e + (sealR (ovL F)).length := by rw [seal_len]; omega
    refine w_start (kd := 10) (wh := 0) (pv := 0) cJ (by omega) (by omega) (by omega) (by omega) fun J1 hJ1 w1 hw1 => ?_
    rw [hw1]
    refine w_ata (s := 1) cR ib (by omega) (w_ata (s := 2) cR ib (by omega) fun y hy => ?_)
    have ey : y = orL (isB F) 9 1 0 := by
      rw [hy, orL_or, show (0 : Int32) ||| 0 = 0 by decide]
      refine orL_c 9 1 0 fun i h1 h9 => ?_
      have := h2 i h1 (by omega)
      unfold isE isB
      by_cases d1 : F (702 + 18 * i) = 1
      · simp [d1]
      · by_cases d2 : F (702 + 18 * i) = 2
        · simp [d2]
        · have d0 : F (702 + 18 * i) = 0 := by omega
          simp [d0]
    rw [ey]
    refine w_bitCount ?_
    rw [bc_or]
    refine w_put (d := cnt (isB F) 9 1) hJ1 (by simp; omega) (by rw [a255 (by omega), Nat.mod_eq_of_lt (by omega)]) fun J2 hJ2 w2 hw2 => ⟨10, ?_⟩
    rw [hw2]
    refine w_ovt (w := w) (J := J2) cR ib h2 9 1 _ (by omega) (by omega) hJ2 (by simp; omega) fun J3 hJ3 => w_uncleanCount cP ib ?_
    have l3' : (cat (txf F) (selL (isB F) 9 1)).length = 4 * cnt (isB F) 9 1 := l3
    refine w_put (d := cnt (unB F) 8 0) hJ3 (by simp; omega) (by rw [a255 (by omega), Nat.mod_eq_of_lt (by omega)]) fun J4 hJ4 w4 hw4 => ⟨17, ?_⟩
    rw [hw4]
    refine w_ovp (w := w) cP ib h8 16 0 _ J4 (by omega) hJ4 (by simp; omega) fun J5 hJ5 => ?_
    have hJ5 : isPn J5 b e f (ovL F) := hJ5
    refine w_seal hJ5 (by omega) (by omega) (by omega) hlt fun J6 hJ6 w6 hw6 => ?_
    rw [els] at hJ6
    rw [hw6]
    refine w_flushThrough (J := J6) hJ6 (by omega) (by omega) fun J7 hJ7 w7 hw7 w8 hw8 w9 hw9 => ?_
    rw [efl] at hJ7
    -- the reference
    refine g _ _ (by first | exact Or.inl rfl | exact Or.inr rfl) <| xk (x_isFull hR ?_)
    rw [if_pos cf]
    refine ⟨fun _ => ?_, fun z => absurd rfl z⟩
    rw [show (4 : Int32).toNatClampNeg = 4 by decide, gmS, hR.2.1 4 (by unfold nk; omega)]
    refine ⟨ivp (k := 4) (by omega) (by omega), pk_eq (F 4) 0 (fun z => absurd z z4) (fun _ => ?_)⟩
    refine x_txMany hR ib (x_uncleanMany hR iF ib ?_)
    have e8 : (8 : Int32) + 4 * nI (cnt (isB F) 9 1) + 3 * nI (cnt (unB F) 8 0) = nI (8 + 4 * cnt (isB F) 9 1 + 3 * cnt (unB F) 8 0) := by
      show nI 8 + nI 4 * _ + nI 3 * _ = _
      rw [pk_mul, pk_mul, nI_add, nI_add]
    rw [e8]
    refine x_opensF (kd := 10) (wh := 0) hR ib (by omega) ?_
    have ep : prvF F 0 = 0 := if_pos rfl
    rw [ep]
    refine x_txMany (isR_lay hR _) ib (x_layL (by simp; omega) ⟨10, ?_⟩)
    refine x_ovt hR ib 9 1 _ (by omega) (by omega) (by simp; omega) ?_
    refine x_uncleanMany (isR_lay hR _) iF ib (x_layL (by simp; omega) ⟨17, ?_⟩)
    refine x_ovp hR ib h8 16 0 _ (by omega) (by simp; omega) ?_
    refine x_closes (wh := 0) (ds := ovL F) hR ?_ ?_ (by omega) (by omega) fun n2 p2 r2 => ?_
    · rw [show (ovL F).length + 1 = 8 + 4 * cnt (isB F) 9 1 + 3 * cnt (unB F) 8 0 by omega]
      rfl
    · intro i
      have e9 : [10, 8 + 4 * cnt (isB F) 9 1 + 3 * cnt (unB F) 8 0, 0, 0 / 256, 0 % 256] ++ [cnt (isB F) 9 1] ++ cat (txf F) (selL (isB F) 9 1) ++ [cnt (unB F) 8 0] ++ cat (pgf F) (selL (pgB F) 16 0) = (ovL F).set 1 (8 + 4 * cnt (isB F) 9 1 + 3 * cnt (unB F) 8 0) := rfl
      rw [e9, getD_set1 (by omega)]
      split
      · omega
      · exact hlt i
    · rw [els] at r2
      have r2 : isR n2 F G (appB b e (sealR (ovL F))) (e + (sealR (ovL F)).length) f := r2
      refine x_flushesThrough r2 (by have := wlk_8 (b := b) k; have := hU.2.1; omega) (by omega) (by rw [eb1]; omega) fun n3 r3 => ⟨ivp (k := 4) (by omega) (by omega), ivp (k := 2) (by omega) (by omega), fun v5 hv5 => ⟨ivp (k := 4) (by omega) (by omega), fun v6 hv6 => ⟨Or.inr rfl, ?_⟩⟩⟩
      rw [efl] at r3
      rw [show (2 : Int32).toNatClampNeg = 2 by decide, show (4 : Int32).toNatClampNeg = 4 by decide, gmS, r3.2.1 4 (by unfold nk; omega)] at hv5
      rw [show (4 : Int32).toNatClampNeg = 4 by decide] at hv6
      have r4 := isR_wr (k := 2) (x := F 4) r3 (by unfold nk; omega)
      have r5 := isR_wr (k := 4) (x := 0) r4 (by unfold nk; omega)
      have o : ∀ j, j ≠ 2 → j ≠ 4 → updN (updN F 2 (F 4)) 4 0 j = F j := fun j j2 j4 => by rw [uNn j4, uNn j2]
      have hrp : rp (appB b e (sealR (ovL F))) (k + 1) = rp b k := by rw [hA.2.2.1]; exact lrn_0 g2
      have hUP : UPl (updN (updN F 2 (F 4)) 4 0) (appB b e (sealR (ovL F))) (e + (sealR (ovL F)).length) (k + 1) (fun _ => 65536) := ⟨by rw [o 3 (by omega) (by omega)]; exact c3, hA.2.1, fun u h1 h9 => UT_keep iL ag (by omega) (by rw [hrp]) (fun j j1 j2 => o j (by omega) (by omega)) (hU.2.2 u h1 h9)⟩
      have hIB : IB (updN (updN F 2 (F 4)) 4 0) (appB b e (sealR (ovL F))) (e + (sealR (ovL F)).length) (e + (sealR (ovL F)).length) (k + 1) := by
        refine ⟨updN_b (updN_b ib ib4) (by omega), byA_c' iy fun j hj => o j (by omega) (by omega), IFr_c iF (o 5 (by omega) (by omega)) (fun j j1 j2 => o j (by omega) (by omega)) fun s hs => St_app hU.2.1 hs, hA.1, ⟨by omega, Nat.le_refl _⟩, Or.inr ?_, Or.inl uNs, ?_, ?_, ?_⟩
        · rcases i7 with z | ⟨jm, hjm, hz⟩
          · exact absurd z z4
          · refine ⟨jm, k, hjm, by omega, ?_, ?_, by rw [hA.2.1]; exact Nat.le_refl _⟩
            · rw [wlk_agr ag jm (by omega), hz, uNn (by omega), uNs]
            · rw [wlk_agr ag k (Nat.le_refl _), hU.2.1]
              have := appB_e (b := b) (e := e) (r := sealR (ovL F)) 0
              rw [Nat.add_zero] at this
              rw [this]; exact g0
        · rw [o 12 (by omega) (by omega)]
          obtain ⟨j, j1, j2⟩ := i8
          exact ⟨j, by omega, by rw [wlk_agr ag j j1]; exact j2⟩
        · rw [o 12 (by omega) (by omega), o 11 (by omega) (by omega)]; exact i9
        · rw [o 11 (by omega) (by omega)]; omega
      rw [hv6, hv5]
      refine q 1 w9 (upd (upd n3 2 (nI (F 4))) 4 (nI 0)) p2 (Or.inr rfl) ⟨_, G, _, _, _, k + 1, ?_, r5, hIB, Or.inl hUP⟩ (by rw [hw9, hw8, hw7]) (sw_7 hR r5 (o 7 (by omega) (by omega)))
      rw [hw9, hw8, hw7]
      refine ⟨hJ7, RP_c cP (fun j hj => o j (by omega) (by omega)) (fun _ _ => rfl), RO_c cR (fun j j1 j2 => o j (by omega) (by omega)), RC_c cC (fun j j1 j2 => o j (by omega) (by omega)) (fun _ _ _ => rfl), RS_c cS (fun j hj => o j (by omega) (by omega)), by rw [o 3 (by omega) (by omega)]; exact cu, ?_, by rw [uNs]; rfl, cr, cc⟩
      rw [uNn (by omega), uNs]; exact co
  · rw [if_neg cf]
    exact ⟨fun z => absurd z (by decide), fun _ => g _ _ (by first | exact Or.inl rfl | exact Or.inr rfl) <| xk (xr (Or.inr cf) ref)⟩
end
