/-! ===== keep: the log flushed, a page written, a checkpoint begun ===== -/
section
variable {m : S11} {n : Nat → Int32} {pn : Int32} {F F2 : Nat → Nat} {G G2 : Nat → Int32} {b b2 : Nat → Nat} {e f k e2 f2 : Nat} {w : S9} {T : Nat → Nat × Nat} {Sp : Nat → Prop} {c : Nat → Nat}
theorem UP_same {lim : Nat → Nat} (hU : UPl F b e k lim) (hL : LogOK b e k) (h3 : F2 3 = F 3) (hF : ∀ j, 720 ≤ j → j < 882 → F2 j = F j) : UPl F2 b e k lim := ⟨by rw [h3]; exact hU.1, hU.2.1, fun u h1 h9 => UT_keep hL (fun _ _ => rfl) (Nat.le_refl _) rfl (fun j j1 j2 => hF j (by omega) (by omega)) (hU.2.2 u h1 h9)⟩
theorem x_keep0 (hR : isR n F G b e f) (hb : ∀ k, F k < 65536) {x1 x2 : Int32} (h : F 3 ≠ 0 ∨ x1 < 0 ∨ 6 < x1) {Q : Int32 → S11 → Prop} (q : Q 0 (mS (s11_told m 0) n pn)) : wp_X11_keep (mS m n pn) x1 x2 Q := by
  intro v1 hv1
  have hv1 : v1 = mS (s11_told m 0) n pn := hv1
  rw [hv1]
  refine x_isUp hR (hb 3) ?_
  by_cases c : F 3 = 0
  · rw [if_pos c]
    refine ⟨fun _ => q, fun _ => x_isIn0 ?_ ⟨fun _ => q, fun z => absurd rfl z⟩⟩
    rcases h with h | h
    · exact absurd c h
    · exact h
  · rw [if_neg c]
    exact ⟨fun _ => q, fun z => absurd rfl z⟩
/-- what the reference does of keep j, UP -/
def wpK (j : Nat) (v : S11) (x2 : Int32) (Q : Int32 → S11 → Prop) : Prop := if j = 2 then wp_X11_checks v (fun r v2 => zb r ∧ Q r v2) else if j = 3 then wp_X11_overs v (fun r v2 => zb r ∧ Q r v2) else if j = 0 then ((x2 = 0 → wp_X11_keep_70 Q x2 v) ∧ (¬ x2 = 0 → wp_X11_isRecord v x2 (fun r => (r = 0 → Q 0 v) ∧ (¬ r = 0 → wp_X11_keep_70 Q x2 v)))) else wp_X11_keepsPage v (nI j) x2 (fun r v2 => zb r ∧ Q r v2)
theorem x_keepU (hR : isR n F G b e f) (h3 : F 3 = 0) {j : Nat} (hj : j ≤ 6) {x2 : Int32} {Q : Int32 → S11 → Prop} (q : wpK j (mS (s11_told m 0) n pn) x2 Q) : wp_X11_keep (mS m n pn) (nI j) x2 Q := by
  intro v1 hv1
  have hv1 : v1 = mS (s11_told m 0) n pn := hv1
  rw [hv1]
  refine x_isUp hR (by omega) ?_
  rw [if_pos h3]
  refine ⟨fun z => absurd z (by decide), fun _ => x_isIn1 (lo := 0) (hi := 6) rfl (by omega) (by omega) (by omega) hj ⟨fun z => absurd z (by decide), fun _ => ?_⟩⟩
  unfold wpK at q
  refine pk_eq j 2 (fun c2 => ?_) (fun c2 => pk_eq j 3 (fun c3 => ?_) (fun c3 => pk_le j 0 (fun c0 => ?_) (fun c0 => ?_)))
  · rw [if_pos c2] at q; exact q
  · rw [if_neg c2, if_pos c3] at q; exact q
  · rw [if_neg c2, if_neg c3, if_pos (by omega)] at q; exact q
  · rw [if_neg c2, if_neg c3, if_neg (by omega)] at q; exact q
theorem w_up (cu : g9_up w = if F 3 = 0 then 1 else 0) {A B : Prop} (a : F 3 ≠ 0 → A) (bb : F 3 = 0 → B) : (g9_up w = 0 → A) ∧ (¬ g9_up w = 0 → B) := by
  rw [cu]
  by_cases c : F 3 = 0
  · rw [if_pos c]; exact ⟨fun z => absurd z (by decide), fun _ => bb c⟩
  · rw [if_neg c]; exact ⟨fun _ => a c, fun z => absurd rfl z⟩
theorem IV_f (hI : IV F G b e f k) (h3 : F 3 = 0) {f2 : Nat} (h1 : f ≤ f2) (h2 : f2 ≤ e) : IV F G b e f2 k := ⟨IB_c hI.1 rfl rfl rfl rfl hI.1.1 hI.1.2.1 hI.1.2.2.1 h1 h2, Or.inl (UPl_of hI h3)⟩
theorem CW_j (hC : CW w F G b e f) {J2 : S2} {f2 : Nat} (hJ : isJ J2 b e f2) : CW (s9_journal w J2) F G b e f2 := ⟨hJ, hC.2⟩
theorem s_keep0 (h : SW w n) (x : Int32) : OpR zb w (s11_told m 0) n (wp_X9_flush w x) (wp_X11_keep (mS m n pn) 0 x) := by
  obtain ⟨F, G, b, e, f, k, hC, hR, hI⟩ := h
  intro K q Q g
  have ref : K 0 w 0 (mS (s11_told m 0) n pn) := q 0 w n pn (Or.inl rfl) ⟨F, G, b, e, f, k, hC, hR, hI⟩ rfl rfl
  have hC0 := hC
  obtain ⟨cJ, cP, cR, cC, cS, cu, cm, co, cr, cc⟩ := hC
  obtain ⟨ib, iy, iF, iL, i5, -⟩ := id hI.1
  refine w_up cu (fun c3 => g _ _ (by first | exact Or.inl rfl | exact Or.inr rfl) <| x_keep0 hR ib (Or.inl c3) ref) (fun c3 => ?_)
  have xk : ∀ {K2 : Int32 → S11 → Prop}, ((x = 0 → wp_X11_keep_70 K2 x (mS (s11_told m 0) n pn)) ∧ (¬ x = 0 → wp_X11_isRecord (mS (s11_told m 0) n pn) x (fun r => (r = 0 → K2 0 (mS (s11_told m 0) n pn)) ∧ (¬ r = 0 → wp_X11_keep_70 K2 x (mS (s11_told m 0) n pn))))) → wp_X11_keep (mS m n pn) 0 x K2 := fun {K2} qq => x_keepU (j := 0) hR c3 (by omega) (by unfold wpK; rw [if_neg (by omega), if_neg (by omega), if_pos rfl]; exact qq)
  refine ⟨fun z => ?_, fun z => w_beginsAt cJ iL (fun j hj hx => ⟨fun y => absurd y (by decide), fun _ => ⟨fun y => absurd y z, fun _ => ?_⟩⟩) (fun hno => ⟨fun _ => g _ _ (by first | exact Or.inl rfl | exact Or.inr rfl) <| xk ⟨fun y => absurd y z, fun _ => x_isRecord (m := mS (s11_told m 0) n pn) hR.1 iL (fun j hj hx => absurd hx (hno j hj)) (fun _ => ⟨fun _ => ref, fun y => absurd rfl y⟩)⟩, fun y => absurd rfl y⟩)⟩
  · subst z
    refine ⟨fun _ => w_flushAll cJ fun J2 hJ2 w2 hw2 => g _ _ (by first | exact Or.inl rfl | exact Or.inr rfl) <| xk ⟨fun _ => ?_, fun y => absurd rfl y⟩, fun y => absurd rfl y⟩
    refine x_flushesAll hR i5.2 fun n2 r2 => ?_
    rw [hw2]
    exact q 1 _ n2 pn (Or.inr rfl) ⟨F, G, b, e, e, k, CW_j hC0 hJ2, r2, IV_f hI c3 i5.2 (Nat.le_refl _)⟩ rfl (sw_7 hR r2 rfl)
  · have hin := St_in iL ⟨j, hj, rfl⟩
    have hE := cJ.2.2.1
    rw [hx]
    refine w_flushThrough cJ (by omega) (by omega) fun J2 hJ2 w2 hw2 => ?_
    refine g _ _ (by first | exact Or.inl rfl | exact Or.inr rfl) <| xk ⟨fun y => absurd y z, fun _ => x_isRecord (m := mS (s11_told m 0) n pn) hR.1 iL (fun j2 hj2 hx2 => ⟨fun y => absurd y (by decide), fun _ => ?_⟩) (fun hno => absurd hx (hno j hj))⟩
    unfold wp_X11_keep_70
    rw [hx]
    refine x_flushesThrough hR (by omega) hin.2.1 hin.2.2 fun n2 r2 => ?_
    rw [hw2]
    exact q 1 _ n2 pn (Or.inr rfl) ⟨F, G, b, e, _, k, CW_j hC0 hJ2, r2, IV_f hI c3 (by unfold flT; omega) (by unfold flT; have := i5.2; omega)⟩ rfl (sw_7 hR r2 rfl)
theorem w_page {x : Int32} {Q : Int32 → Prop} (q1 : ∀ p, p < 16 → x = nI p → Q 1) (q0 : x < 0 ∨ 15 < x → Q 0) : wp_X10_isPage x Q := by
  rcases pk_ix x (n := 16) (by omega) with z | z | ⟨p, hp, rfl⟩
  · exact ⟨fun _ => q0 (Or.inl z), fun y => absurd z y⟩
  · have z2 : (15 : Int32) < x := Int32.lt_of_lt_of_le (show (15 : Int32) < nI 16 by decide) z
    exact ⟨fun _ => q0 (Or.inr z2), fun _ => ⟨fun _ => q0 (Or.inr z2), fun y => absurd z y⟩⟩
  · exact ⟨fun y => absurd y (nI_pos (by omega)), fun _ => ⟨fun y => absurd y (nI_ge (a := p) (b := 16) hp (by omega)), fun _ => q1 p hp rfl⟩⟩
theorem wr_b {fr : Nat} (hI : IFr F Sp) (hb : ∀ k, F k < 65536) (hy : byA F) (hf : fr < 8) (hn : F (562 + 20 * fr) ≠ 0) : (∀ k, wrF F fr k < 65536) ∧ byA (wrF F fr) ∧ IFr (wrF F fr) Sp ∧ (∀ k, k < 16 ∨ 720 ≤ k → wrF F fr k = F k) := by
  have hu := (hI.2.1 fr hf).1
  have hh := (hI.2.2.1 fr hf hn).1
  have ho : ∀ k, k < 16 ∨ (288 ≤ k ∧ k < 560) ∨ (560 ≤ k ∧ k ≠ 562 + 20 * fr) → wrF F fr k = F k := fun k hk => by
    unfold wrF
    rw [if_neg (by omega), if_neg (by omega), if_neg (by omega)]
  refine ⟨fun k => ?_, ⟨fun k k1 k2 => ?_, fun k k1 k2 => ?_, fun g k k1 k2 => ?_, fun k k1 k2 => ?_⟩, ⟨by rw [ho 5 (by omega)]; exact hI.1, fun g hg => ?_, fun g hg hz => ?_, fun g h hg hh => ?_⟩, fun k hk => ho k (by omega)⟩
  · unfold wrF
    split
    · omega
    · split
      · exact hb _
      · split
        · exact hb _
        · exact hb _
  · unfold wrF
    rw [if_neg (by omega), if_neg (by omega)]
    split
    · exact hy.2.2.1 _ _ hf (by omega)
    · exact hy.1 k k1 k2
  · rw [ho _ (by omega)]; exact hy.2.1 k k1 k2
  · rw [ho _ (by omega)]; exact hy.2.2.1 g k k1 k2
  · rw [ho _ (by omega)]; exact hy.2.2.2 k k1 k2
  · rw [ho 5 (by omega), ho _ (by omega)]; exact hI.2.1 g hg
  · by_cases d : g = fr
    · subst d
      exact absurd (by unfold wrF; rw [if_pos rfl]) hz
    · rw [ho _ (by omega)] at hz
      rw [ho _ (by omega), ho (562 + 20 * g) (by omega), ho (561 + 20 * g) (by omega)]
      exact hI.2.2.1 g hg hz
  · rw [ho _ (by omega), ho _ (by omega)]; exact hI.2.2.2 g h hg hh
theorem foI_cases (F : Nat → Nat) (p : Nat) (h8 : F 5 ≤ 8) : (foI F p = -1 ∧ ¬ fo F p < F 5) ∨ (foI F p = nI (fo F p) ∧ fo F p < F 5) := by
  unfold foI
  by_cases c : fo F p < F 5
  · rw [if_pos c]; exact Or.inr ⟨rfl, c⟩
  · rw [if_neg c]; exact Or.inl ⟨rfl, c⟩
theorem nI_m1 {a : Nat} (h : a < 2 ^ 31) : nI a ≠ -1 := fun z => absurd (by rw [z]; decide) (nI_pos h)
theorem s_keep1 (h : SW w n) (x : Int32) : OpR zb w (s11_told m 0) n (wp_X9_writePage w x) (wp_X11_keep (mS m n pn) 1 x) := by
  obtain ⟨F, G, b, e, f, k, hC, hR, hI⟩ := h
  intro K q Q g
  have ref : K 0 w 0 (mS (s11_told m 0) n pn) := q 0 w n pn (Or.inl rfl) ⟨F, G, b, e, f, k, hC, hR, hI⟩ rfl rfl
  obtain ⟨cJ, cP, cR, cC, cS, cu, cm, co, cr, cc⟩ := hC
  obtain ⟨ib, iy, iF, iL, i5, -⟩ := id hI.1
  have h8 := iF.1.2
  refine w_up cu (fun c3 => ⟨fun _ => g _ _ (by first | exact Or.inl rfl | exact Or.inr rfl) <| x_keep0 hR ib (Or.inl c3) ref, fun z => absurd (show (-1 : Int32) < 0 by decide) z⟩) (fun c3 => ?_)
  have xk : ∀ {K2 : Int32 → S11 → Prop}, wp_X11_keepsPage (mS (s11_told m 0) n pn) (nI 1) x (fun r v2 => zb r ∧ K2 r v2) → wp_X11_keep (mS m n pn) 1 x K2 := fun {K2} qq => x_keepU (j := 1) hR c3 (by omega) (by unfold wpK; rw [if_neg (by omega), if_neg (by omega), if_neg (by omega)]; exact qq)
  refine w_page (fun p hp hx => ⟨fun z => absurd z (by decide), fun _ => ?_⟩) (fun hz => ⟨fun _ => ⟨fun _ => g _ _ (by first | exact Or.inl rfl | exact Or.inr rfl) <| xk (x_isIn0 hz ⟨fun _ => ⟨Or.inl rfl, ref⟩, fun y => absurd rfl y⟩), fun z => absurd (show (-1 : Int32) < 0 by decide) z⟩, fun z => absurd rfl z⟩)
  subst hx
  refine w_frameOf cP h8 hp ib ?_
  have xp : ∀ {K2 : Int32 → S11 → Prop}, ((foI F p = -1 → K2 0 (mS (s11_told m 0) n pn)) ∧ (¬ foI F p = -1 → wp_X11_frameAt (mS (s11_told m 0) n pn) (foI F p) (fun r => vp_in (r + 2) 10700 ∧ (((g11_now (mS (s11_told m 0) n pn)) (r + 2).toNatClampNeg = 0 → K2 0 (mS (s11_told m 0) n pn)) ∧ (¬ (g11_now (mS (s11_told m 0) n pn)) (r + 2).toNatClampNeg = 0 → wp_X11_isWritten (mS (s11_told m 0) n pn) (foI F p) (fun v => K2 1 v)))))) → wp_X11_keepsPage (mS (s11_told m 0) n pn) (nI 1) (nI p) K2 := fun {K2} qq => x_isIn1 (lo := 0) (hi := 15) rfl (by omega) (by omega) (by omega) (by omega) ⟨fun z => absurd z (by decide), fun _ => x_frameOf hR h8 hp ib ⟨fun _ => qq, fun z => absurd rfl z⟩⟩
  rcases foI_cases F p h8 with ⟨e1, c1⟩ | ⟨e1, c1⟩
  · rw [e1] at xp ⊢
    exact ⟨fun _ => g _ _ (by first | exact Or.inl rfl | exact Or.inr rfl) <| xk (xp ⟨fun _ => ⟨Or.inl rfl, ref⟩, fun z => absurd rfl z⟩), fun z => absurd (show (-1 : Int32) < 0 by decide) z⟩
  · rw [e1] at xp ⊢
    refine ⟨fun z => absurd z (nI_pos (by omega)), fun _ => ⟨ivp (by omega) (by omega), ?_⟩⟩
    have hb2 := ib (562 + 20 * fo F p)
    rw [nI_clamp (by omega), cP.2.2.2.2.2.2.2.2.1 _ (by omega)]
    have e2 : (560 : Int32) + 20 * nI (fo F p) + 2 = nI (562 + 20 * fo F p) := by rw [frAt]; show nI _ + nI 2 = _; rw [nI_add]; congr 1; omega
    have xq : ∀ {K2 : Int32 → S11 → Prop}, ((nI (F (562 + 20 * fo F p)) = 0 → K2 0 (mS (s11_told m 0) n pn)) ∧ (¬ nI (F (562 + 20 * fo F p)) = 0 → wp_X11_isWritten (mS (s11_told m 0) n pn) (nI (fo F p)) (fun v => K2 1 v))) → wp_X11_keepsPage (mS (s11_told m 0) n pn) (nI 1) (nI p) K2 := by
      intro K2 qq
      refine xp ⟨fun z => absurd z (nI_m1 (by omega)), fun _ => ?_⟩
      simp only [wp_X11_frameAt]
      rw [e2, nI_clamp (by omega), gmS, hR.2.1 _ (show nk (562 + 20 * fo F p) by unfold nk; omega)]
      exact ⟨ivp (by omega) (by omega), qq⟩
    refine pk_eq (F (562 + 20 * fo F p)) 0 (fun z => g _ _ (by first | exact Or.inl rfl | exact Or.inr rfl) <| xk (xq ⟨fun _ => ⟨Or.inl rfl, ref⟩, fun y => absurd (by rw [z]; rfl) y⟩)) (fun z => ?_)
    obtain ⟨i1, i2, i3⟩ := iF.2.2.1 (fo F p) (by omega) z
    have hin := St_in iL i3
    have hE := cJ.2.2.1
    have hu := (iF.2.1 (fo F p) (by omega)).1
    obtain ⟨w1, w2, w3, w4⟩ := wr_b iF ib iy (show fo F p < 8 by omega) z
    refine w_writeOut cP cJ (by omega) rfl hu (by omega) (by omega) rfl (ib _) fun P2 J2 hP2 hJ2 w5 hw5 => ?_
    refine g _ _ (by first | exact Or.inl rfl | exact Or.inr rfl) <| xk (xq ⟨fun y => absurd y (nI_ne0 (by omega) (by omega)), fun _ => x_isWritten hR rfl hu (by omega) (by omega) rfl (by omega) hin.2.1 hin.2.2 fun n2 r2 => ⟨Or.inr rfl, ?_⟩⟩)
    rw [hw5]
    refine q 1 _ n2 pn (Or.inr rfl) ⟨wrF F (fo F p), G, b, e, _, k, ?_, r2, IB_c hI.1 (w4 _ (by omega)) (w4 _ (by omega)) (w4 _ (by omega)) (w4 _ (by omega)) w1 w2 w3 (by unfold flT; omega) (by unfold flT; omega), Or.inl (UP_same (UPl_of hI c3) iL (w4 _ (by omega)) fun j j1 j2 => w4 j (by omega))⟩ rfl (sw_7 hR r2 (w4 7 (by omega)))
    exact ⟨hJ2, hP2, RO_c cR (fun j j1 j2 => w4 j (by omega)), RC_c cC (fun j j1 j2 => w4 j (by omega)) (fun _ _ _ => rfl), RS_c cS (fun j hj => w4 j (by omega)), by rw [w4 3 (by omega)]; exact cu, by rw [w4 2 (by omega)]; exact cm, by rw [w4 4 (by omega)]; exact co, cr, cc⟩
theorem leg_8 : Leg T Sp c (fun i => (plainR 8 0 0).getD i 0) := by
  unfold Leg
  refine ⟨by decide, ⟨by decide, by decide, by rw [if_pos (by decide)]; decide⟩, fun z => absurd z (by decide), fun z => absurd z (by decide), fun z => absurd z (by decide), fun z => absurd z (by decide), fun z => absurd z (by decide), fun z => absurd z (by decide), fun z => absurd z (by decide)⟩
theorem lrn_0 {v : Nat → Nat} {s : Nat} (h : v 2 = 0) : lrn T s v = T := by
  funext t
  unfold lrn
  rw [if_pos (Or.inr (Or.inl h))]
theorem byA_c' (h : byA F) (hF : ∀ j, 16 ≤ j → F2 j = F j) : byA F2 := ⟨fun k k1 k2 => by rw [hF _ (by omega)]; exact h.1 k k1 k2, fun k k1 k2 => by rw [hF _ (by omega)]; exact h.2.1 k k1 k2, fun g k k1 k2 => by rw [hF _ (by omega)]; exact h.2.2.1 g k k1 k2, fun k k1 k2 => by rw [hF _ (by omega)]; exact h.2.2.2 k k1 k2⟩
theorem IB_4 (h : IB F b e f k) {x : Nat} (hx : x = 0 ∨ St b k x) (hb : x < 65536) : IB (updN F 4 x) b e f k := by
  obtain ⟨a1, a2, a3, a4, a5, a6, a7, a8, a9, a10⟩ := h
  refine ⟨updN_b a1 hb, byA_c' a2 fun j hj => uNn (by omega), IFr_c a3 (uNn (by omega)) (fun j j1 j2 => uNn (by omega)) fun _ hs => hs, a4, a5, by rw [uNn (by omega)]; exact a6, by rw [uNs]; exact hx, by rw [uNn (by omega)]; exact a8, by rw [uNn (by omega), uNn (by omega)]; exact a9, by rw [uNn (by omega)]; exact a10⟩
end
