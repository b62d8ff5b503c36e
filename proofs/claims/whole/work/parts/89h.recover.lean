/-! ===== recovery: the whole analysis ===== -/
section
variable {m : S11} {n : Nat → Int32} {pn : Int32} {F F2 : Nat → Nat} {G G2 : Nat → Int32} {b b2 : Nat → Nat} {e f k e2 f2 : Nat} {w : S9} {P : S3} {C : S0} {R : S5} {J : S2} {U : Nat → Nat}
theorem an_start (h : IB F b e e k) : ∃ jm, jm ≤ k ∧ (if F 2 = 0 then 8 else F 2) = wlk b jm ∧ (jm = 0 ∨ ∃ je, jm ≤ je ∧ je < k ∧ b (wlk b je) = 10) := by
  rcases h.2.2.2.2.2.1 with z | ⟨jm, je, j1, j2, j3, j4, j5⟩
  · exact ⟨0, by omega, by rw [if_pos z]; rfl, Or.inl rfl⟩
  · have := wlk_8 (b := b) jm
    exact ⟨jm, by omega, by rw [if_neg (by omega), j3], Or.inr ⟨je, by omega, j2, j4⟩⟩
theorem AT_0 {jm : Nat} (hz : ∀ j, 560 ≤ j → j < 882 → F j = 0) : AT F b jm (jm = 0) ∧ AZ F := by
  refine ⟨fun t t1 t9 => ⟨fun z => absurd (hz _ (by omega) (by omega)) z, fun _ => hz _ (by omega) (by omega), fun z _ => by rw [z]; rfl⟩, fun t j t1 t9 j1 j2 => hz _ (by omega) (by omega)⟩
theorem w_analyse (hC : CW w F G b e e) (h : IB F b e e k) (hz : ∀ j, 560 ≤ j → j < 882 → F j = 0) {jm : Nat} (hj : jm ≤ k) (hm : (if F 2 = 0 then 8 else F 2) = wlk b jm) (hf : jm = 0 ∨ ∃ je, jm ≤ je ∧ je < k ∧ b (wlk b je) = 10) {r : S4} {Q : S4 → S9 → Prop} (q : ∀ w2 V, CW w2 (curF (anE b k (anF b (k - jm) jm F))) G (trB b (wlk b k)) (wlk b k) (wlk b k) → RU V (anU b (k - jm) jm (fun _ => 0)) → g9_script w2 = g9_script w → Q (an4 (s4_unclean r V) (anF b (k - jm) jm F)) w2) : wp_X4_analyse r w Q := by
  obtain ⟨ib, iy, iF, iL, i5, i6, i7, i8, i9, i10⟩ := id h
  obtain ⟨hA, hZ⟩ := AT_0 (b := b) (jm := jm) hz
  have hE := hC.1.2.2.1
  have h5 := hC.1.2.2.2.2.1
  refine w_fill (by omega) fun V hV _ r1 hr1 => ?_
  have hRU : RU (g4_unclean r1) (fun _ => 0) := fun p hp => by rw [hr1]; exact hV p hp
  have hAU : AU (fun _ => 0) b jm := fun p => Or.inl rfl
  have go : wp_X4_analyse_18 Q (k - jm + 1) (nI (wlk b jm)) r1 w := by
    refine w_an iL (k - jm) jm w F (fun _ => 0) r1 (jm = 0) (by omega) hC ib hA hZ hRU hAU fun w2 V2 c2 v2 s2 => ?_
    have ao := an_ok iL hE h5 (k - jm) jm F (fun _ => 0) (jm = 0) (by omega) ib hA hZ hAU hf
    refine w_an_end c2 iL ao.1 fun w3 c3 s3 => ?_
    have := q w3 V2 c3 v2 (s3.trans s2)
    rw [hr1]; exact this
  have e2 : g9_master w = nI (F 2) := hC.2.2.2.2.2.2.1
  have hb2 := ib 2
  unfold wp_X9_firstFrom
  rw [e2]
  refine pk_eq (F 2) 0 (fun z => ⟨k - jm + 1, ?_⟩) (fun z => ⟨k - jm + 1, ?_⟩)
  · rw [if_pos z] at hm; rw [← hm] at go; exact go
  · rw [if_neg z] at hm; rw [← hm] at go; exact go
theorem x_analysis (hR : isR n F G b e e) (h : IB F b e e k) (hz : ∀ j, 560 ≤ j → j < 882 → F j = 0) (hG : ∀ j, 882 ≤ j → j < 1404 → j ≠ 1394 → G j = 0) {jm : Nat} (hj : jm ≤ k) (hm : (if F 2 = 0 then 8 else F 2) = wlk b jm) (hf : jm = 0 ∨ ∃ je, jm ≤ je ∧ je < k ∧ b (wlk b je) = 10) {Q : S11 → Prop} (q : ∀ n2 V, isR n2 (anE b k (anF b (k - jm) jm F)) G (trB b (wlk b k)) (wlk b k) (wlk b k) → RU V (anU b (k - jm) jm (fun _ => 0)) → Q (mS (s11_losers (mU m V) (lsI (anF b (k - jm) jm F))) n2 pn)) : wp_X11_analysis (mS m n pn) Q := by
  obtain ⟨ib, iy, iF, iL, i5, i6, i7, i8, i9, i10⟩ := id h
  obtain ⟨hA, hZ⟩ := AT_0 (b := b) (jm := jm) hz
  have hE := hR.1.2.2.2.2.1
  have h5 := hR.1.2.2.2.2.2.2.2.1
  have hAU : AU (fun _ => 0) b jm := fun p => Or.inl rfl
  have go : ∀ V, RU V (fun _ => 0) → wp_X11_analysis_42 Q (k - jm + 1) (nI (wlk b jm)) (mS (mU m V) n pn) := by
    intro V hV
    refine x_an iL hG (k - jm) jm n F (fun _ => 0) V (jm = 0) (by omega) hR ib hA hZ hV hAU fun n2 V2 r2 v2 => ?_
    have ao := an_ok iL hE h5 (k - jm) jm F (fun _ => 0) (jm = 0) (by omega) ib hA hZ hAU hf
    exact x_an_end r2 iL ao.1 fun n3 r3 => q n3 V2 r3 v2
  have hb2 := ib 2
  have lp : ∀ N i V, N + i = 16 → (∀ p, p < i → V p = 0) → wp_X11_analysis_2 Q (N + 1) (nI i) (mS (mU m V) n pn) := by
    intro N
    induction N with
    | zero =>
      intro i V hi hV
      obtain rfl : i = 16 := by omega
      refine pk_le 16 16 (fun _ => ⟨ivp (k := 2) (by omega) (by omega), ?_⟩) (fun z => by omega)
      have g2 : g11_now (mS (mU m V) n pn) (2 : Int32).toNatClampNeg = nI (F 2) := hR.2.1 2 (by unfold nk; omega)
      rw [g2]
      have := go V (fun p hp => hV p hp)
      refine pk_eq (F 2) 0 (fun z => ⟨k - jm + 1, ?_⟩) (fun z => ⟨ivp (k := 2) (by omega) (by omega), k - jm + 1, ?_⟩)
      · rw [if_pos z] at hm; rw [← hm] at this; exact this
      · rw [if_neg z] at hm; rw [← hm] at this; exact this
    | succ N ih =>
      intro i V hi hV
      refine pk_le 16 i (fun z => by omega) (fun _ => ⟨ivp (by omega) (by omega), fun v hv y hy => ?_⟩)
      rw [nI_clamp (by omega)] at hv
      rw [hy, nI_1, hv]
      refine ih (i + 1) (upd V i 0) (by omega) fun p hp => ?_
      by_cases c : p = i
      · subst c; exact pk_us
      · rw [pk_un c]; exact hV p (by omega)
  exact ⟨17, lp 16 0 (g11_unclean m) (by omega) (fun p hp => by omega)⟩
/-- what it leaves -/
theorem an_IB (h : IB F b e e k) (he : e ≤ 8600) (h5 : ∀ i, b i < 256) (h4 : F 4 = 0) (hz : ∀ j, 560 ≤ j → j < 882 → F j = 0) {jm : Nat} (hj : jm ≤ k) (hf : jm = 0 ∨ ∃ je, jm ≤ je ∧ je < k ∧ b (wlk b je) = 10) {F2 U2 : Nat → Nat} (hF2 : F2 = anE b k (anF b (k - jm) jm F)) (hU2 : U2 = anU b (k - jm) jm (fun _ => 0)) : IB F2 (trB b (wlk b k)) (wlk b k) (wlk b k) k ∧ wlk (trB b (wlk b k)) k = wlk b k ∧ AT F2 (trB b (wlk b k)) k True ∧ AZ F2 ∧ AU U2 (trB b (wlk b k)) k ∧ (∀ j, j < 720 ∨ 882 ≤ j → j ≠ 11 → F2 j = F j) := by
  obtain ⟨ib, iy, iF, iL, i5, i6, i7, i8, i9, i10⟩ := id h
  obtain ⟨hA, hZ⟩ := AT_0 (b := b) (jm := jm) hz
  obtain ⟨o1, o2, o3, o4, o5⟩ := an_ok iL he h5 (k - jm) jm F (fun _ => 0) (jm = 0) (by omega) ib hA hZ (fun p => Or.inl rfl) hf
  generalize anF b (k - jm) jm F = F1 at *
  rw [← hU2] at o4
  have eo : ∀ j, j ≠ 11 → F2 j = F1 j := fun j hj => by rw [hF2]; unfold anE; rw [uNn hj]
  have e11 : F2 11 = min (F1 11) (wlk b k - 8) := by rw [hF2]; unfold anE; rw [uNs]
  have oo : ∀ j, j < 720 ∨ 882 ≤ j → j ≠ 11 → F2 j = F j := fun j hj hn => by rw [eo j hn, o5 j hj]
  have ag : ∀ i, i < wlk b k → trB b (wlk b k) i = b i := fun i hi => by unfold trB; rw [if_pos hi]
  have hw := wlk_agr ag
  have h8 := wlk_8 (b := b) k
  have hle := iL.1.1
  have hrp := rp_agr ag k (Nat.le_refl _)
  have f11 : F1 11 = F 11 := o5 11 (by omega)
  have hSt : ∀ s, St b k s → St (trB b (wlk b k)) k s := fun s hs => (St_agr ag (Nat.le_refl _)).mpr hs
  have hL2 : LogOK (trB b (wlk b k)) (wlk b k) k := LogOK_cut iL (Nat.le_refl _) ag ⟨Nat.le_refl _, Or.inl (by unfold trB; rw [if_neg (by omega)])⟩
  refine ⟨⟨fun i => ?_, ?_, IFr_c iF (oo 5 (by omega) (by omega)) (fun j j1 j2 => oo j (by omega) (by omega)) hSt, hL2, ⟨by omega, Nat.le_refl _⟩, ?_, Or.inl (by rw [oo 4 (by omega) (by omega)]; exact h4), ?_, ?_, ?_⟩, hw k (Nat.le_refl _), fun t t1 t9 => ?_, fun t j t1 t9 j1 j2 => by rw [eo _ (by omega)]; exact o3 t j t1 t9 j1 j2, fun p => (o4 p).imp id (hSt _), oo⟩
  · by_cases c : i = 11
    · rw [c, e11]; have := o1 11; omega
    · rw [eo i c]; exact o1 i
  · obtain ⟨y1, y2, y3, y4⟩ := iy
    refine ⟨fun j j1 j2 => by rw [oo _ (by omega) (by omega)]; exact y1 j j1 j2, fun j j1 j2 => by rw [oo _ (by omega) (by omega)]; exact y2 j j1 j2, fun g j j1 j2 => by rw [oo _ (by omega) (by omega)]; exact y3 g j j1 j2, fun j j1 j2 => by rw [oo _ (by omega) (by omega)]; exact y4 j j1 j2⟩
  · rw [oo 2 (by omega) (by omega)]
    rcases i6 with z | ⟨a, c, j1, j2, j3, j4, j5⟩
    · exact Or.inl z
    · refine Or.inr ⟨a, c, j1, j2, by rw [hw a (by omega)]; exact j3, ?_, by rw [hw (c + 1) (by omega)]; exact wlk_mono (by omega)⟩
      rw [hw c (by omega), ag _ (wlk_lt j2)]; exact j4
  · obtain ⟨j, j1, j2⟩ := i8
    exact ⟨j, j1, by rw [hw j j1, oo 12 (by omega) (by omega)]; exact j2⟩
  · obtain ⟨j, j1, j2⟩ := i8
    have := wlk_mono (b := b) j1
    rw [oo 12 (by omega) (by omega), e11, f11]; omega
  · rw [e11]; omega
  · rw [eo _ (by omega), eo _ (by omega), hrp]; exact o2 t t1 t9
end
