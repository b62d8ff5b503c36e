/-! ===== a page restored: both sides ===== -/
section
variable {m : S11} {n : Nat → Int32} {pn : Int32} {F F2 : Nat → Nat} {G G2 : Nat → Int32} {b b2 : Nat → Nat} {e f k e2 f2 : Nat} {w : S9} {P : S3} {C : S0} {J : S2}
theorem x_isChange (h : isM (g11_now m) b e f) {s : Nat} (hs : s < e) {Q : Int32 → Prop} (q : Q (bI (tch b s))) : wp_X11_isChange m (nI s) Q := by
  have hb := h.2.2.2.2.2.2.2.1 s
  refine x_logByte h hs ?_
  refine x_isIn (m := m) (a := b s) (lo := 2) (hi := 4) (by omega) (by omega) (by omega) ?_
  have e1 : decide (2 ≤ b s ∧ b s ≤ 4) = tch b s := by
    unfold tch
    by_cases c2 : b s = 2
    · simp [c2]
    · by_cases c3 : b s = 3
      · simp [c3]
      · by_cases c4 : b s = 4
        · simp [c4]
        · have hn : ¬ (2 ≤ b s ∧ b s ≤ 4) := by omega
          simp [c2, c3, c4, hn]
  rw [e1]
  refine ⟨?_, q⟩
  cases tch b s
  · exact Or.inl rfl
  · exact Or.inr rfl
/-- a record that changes a byte ends behind its eighth -/
theorem tch_in (hL : LogOK b e k) {j : Nat} (hj : j < k) (ht : tch b (wlk b j) = true) : wlk b j + 8 ≤ e ∧ (b (wlk b j) = 2 ∨ b (wlk b j) = 3 ∨ b (wlk b j) = 4) := by
  obtain ⟨o1, o2, o3, o4, o5, o6⟩ := rec_onw hL hj
  have hk : b (wlk b j) = 2 ∨ b (wlk b j) = 3 ∨ b (wlk b j) = 4 := by
    unfold tch at ht
    simp at ht
    omega
  refine ⟨?_, hk⟩
  rcases hk with z | z | z
  · have := o5 z; omega
  · have := o6 z; omega
  · have := o3 z; omega
theorem x_rs {p : Nat} (hp : p < 16) (hL : LogOK b e k) {Q : S11 → Prop} : ∀ N j F n, N + j = k → (∀ i, F i < 65536) → byA F → isR n F G b e f → (∀ n2, isR n2 (rsL b p N j F) (resG G p) b e f → Q (mS m n2 pn)) → wp_X11_restores_71 Q (N + 1) (nI p) (nI (wlk b j)) (mS m n pn) := by
  intro N
  induction N with
  | zero =>
    intro j F n hj hb hy hR q
    obtain rfl : j = k := by omega
    refine x_wh (m := mS m n pn) hR.1 hL (Nat.le_refl _) ?_
    rw [if_neg (by omega)]
    refine ⟨fun _ => ⟨ivp (k := 10) (by omega) (by omega), ivp (k := 10) (by omega) (by omega), fun v hv => ?_⟩, fun z => absurd rfl z⟩
    rw [show (10 : Int32).toNatClampNeg = 10 by decide, gmS, hR.2.2.1 10 (by unfold gk; omega)] at hv
    rw [hv]
    exact q _ (isR_wg hR (by unfold gk; omega))
  | succ N ih =>
    intro j F n hj hb hy hR q
    have hjk : j < k := by omega
    have he := hR.1.2.2.2.2.1
    have h5 := hR.1.2.2.2.2.2.2.2.1
    have hin := (rec_rd hL hjk).2.2.2.1
    have h6 := (rec_rd hL hjk).1
    have b5 := h5 (wlk b j + 5)
    obtain ⟨r1, r2, r3⟩ := rs1_ok (s := wlk b j) hp (by omega) h5 hb hy
    have nx : ∀ n2, isR n2 (rs1 b p (wlk b j) F) G b e f → wp_X11_restores_158 (fun x1 x2 u0 => wp_X11_restores_71 Q (N + 1) x1 x2 u0) Q (nI p) (nI (wlk b j)) (mS m n2 pn) := fun n2 hR2 => x_len (m := mS m n2 pn) hR2.1 hL hjk fun x hx y hy => by
      rw [hy, hx]
      exact ih (j + 1) _ n2 (by omega) r1 r2 hR2 q
    refine x_wh (m := mS m n pn) hR.1 hL (by omega) ?_
    rw [if_pos hjk]
    refine ⟨fun z => absurd z (by decide), fun _ => x_isChange (m := mS m n pn) hR.1 (by omega) ?_⟩
    have e5 : nI (wlk b j) + 5 = nI (wlk b j + 5) := nI_add _ 5
    cases ht : tch b (wlk b j) with
    | false => exact ⟨fun _ => nx n (by unfold rs1; rw [if_neg (by rw [ht]; simp)]; exact hR), fun z => absurd rfl z⟩
    | true =>
      obtain ⟨t8, tk⟩ := tch_in hL hjk ht
      refine ⟨fun z => absurd z (by decide), fun _ => x_logByte' (m := mS m n pn) hR.1 e5 (by omega) ?_⟩
      show (nI (b (wlk b j + 5)) / 16 = nI p → _) ∧ (¬ nI (b (wlk b j + 5)) / 16 = nI p → _)
      rw [show nI (b (wlk b j + 5)) / 16 = nI (b (wlk b j + 5) / 16) from pk_div (d := 16) (by omega) (by decide) (by decide)]
      refine pk_eq (b (wlk b j + 5) / 16) p (fun ca => ?_) (fun ca => nx n (by unfold rs1; rw [if_neg (fun z => ca z.2.1)]; exact hR))
      have hbs := hb (272 + p)
      rw [show (272 : Int32) + nI p = nI (272 + p) from nI_add 272 p, nI_clamp (by omega), gmS, hR.2.1 _ (show nk (272 + p) by unfold nk; omega)]
      refine ⟨ivp (by omega) (by omega), pk_lt (F (272 + p)) (wlk b j) (fun cs => ?_) (fun cs => nx n (by unfold rs1; rw [if_neg (fun z => by omega)]; exact hR))⟩
      refine x_logByte' (m := mS m n pn) hR.1 e5 (by omega) (x_logByte' (m := mS m n pn) hR.1 e5 (by omega) ?_)
      show vp_in (16 + nI (b (wlk b j + 5))) 10700 ∧ wp_X11_doneBy (mS m n pn) (nI (wlk b j)) (n (16 + nI (b (wlk b j + 5))).toNatClampNeg) _
      rw [show (16 : Int32) + nI (b (wlk b j + 5)) = nI (16 + b (wlk b j + 5)) from nI_add 16 _, nI_clamp (by omega), hR.2.1 _ (show nk (16 + b (wlk b j + 5)) by unfold nk; omega)]
      refine ⟨ivp (by omega) (by omega), x_doneBy (m := mS m n pn) hR.1 (hy.1 _ (by omega) (by omega)) tk t8 ⟨ivp (by omega) (by omega), fun v hv => ⟨ivp (by omega) (by omega), fun v2 hv2 => ?_⟩⟩⟩
      rw [hv2, hv]
      have q1 := isR_wr (k := 16 + b (wlk b j + 5)) (x := dnb b (wlk b j) (F (16 + b (wlk b j + 5)))) hR (by unfold nk; omega)
      have q2 := isR_wr (k := 272 + p) (x := wlk b j) q1 (by unfold nk; omega)
      refine nx _ ?_
      unfold rs1
      rw [if_pos ⟨ht, ca, cs⟩]
      exact q2
theorem x_restores (h : isR n F G b e f) (hL : LogOK b e k) (hfe : f ≤ e) (hb : ∀ i, F i < 65536) (hy : byA F) {p : Nat} (hp : p < 16) {Q : S11 → Prop} (q : ∀ n2, isR n2 (resF b k p F) (resG G p) b e e → Q (mS m n2 pn)) : wp_X11_restores (mS m n pn) (nI p) Q := by
  have b0 : (∀ i, rs0 F p i < 65536) ∧ byA (rs0 F p) := by
    have o : ∀ i, i < 16 ∨ 288 ≤ i → rs0 F p i = F i := fun i hi => by unfold rs0; rw [if_neg (by omega), if_neg (by omega)]
    refine ⟨fun i => ?_, fun j j1 j2 => ?_, fun j j1 j2 => by rw [o _ (by omega)]; exact hy.2.1 j j1 j2, fun g j j1 j2 => by rw [o _ (by omega)]; exact hy.2.2.1 g j j1 j2, fun j j1 j2 => by rw [o _ (by omega)]; exact hy.2.2.2 j j1 j2⟩
    · unfold rs0
      split
      · exact hb _
      · split
        · exact hb _
        · exact hb _
    · unfold rs0
      rw [if_neg (by omega)]
      split
      · exact hy.2.1 _ (by omega) (by omega)
      · exact hy.1 j j1 j2
  have go : ∀ N i n, N + i = 16 → isR n (fun k => if 16 + 16 * p ≤ k ∧ k < 16 + 16 * p + i then F (288 + 16 * p + (k - (16 + 16 * p))) else F k) G b e e → wp_X11_restores_7 Q (N + 1) (nI p) (nI i) (mS m n pn) := by
    intro N
    induction N with
    | zero =>
      intro i n hi h
      obtain rfl : i = 16 := by omega
      refine pk_le 16 16 (fun _ => ?_) (fun z => by omega)
      rw [show (272 : Int32) + nI p = nI (272 + p) from nI_add 272 p, show (544 : Int32) + nI p = nI (544 + p) from nI_add 544 p, nI_clamp (by omega), nI_clamp (by omega)]
      refine ⟨ivp (by omega) (by omega), ivp (by omega) (by omega), fun v hv => ⟨k + 1, ?_⟩⟩
      have g1 : n (544 + p) = nI (F (544 + p)) := by rw [h.2.1 _ (by unfold nk; omega)]; congr 1; exact if_neg (by omega)
      rw [gmS, g1] at hv
      rw [hv]
      refine x_rs hp hL k 0 (rs0 F p) _ (by omega) b0.1 b0.2 (isR_F (isR_wr (k := 272 + p) (x := F (544 + p)) h (by unfold nk; omega)) fun j => ?_) q
      unfold rs0 updN
      by_cases c : j = 272 + p
      · rw [if_pos c, if_pos c]
      · rw [if_neg c, if_neg c, show 16 + 16 * p + 16 = 32 + 16 * p by omega]
    | succ N ih =>
      intro i n hi h
      refine pk_le 16 i (fun z => by omega) (fun _ => ?_)
      rw [show (16 : Int32) + 16 * nI p + nI i = nI (16 + 16 * p + i) by show nI 16 + nI 16 * nI p + nI i = _; rw [pk_mul, nI_add, nI_add], show (288 : Int32) + 16 * nI p + nI i = nI (288 + 16 * p + i) by show nI 288 + nI 16 * nI p + nI i = _; rw [pk_mul, nI_add, nI_add], nI_clamp (by omega), nI_clamp (by omega)]
      refine ⟨ivp (by omega) (by omega), ivp (by omega) (by omega), fun v hv y hy => ?_⟩
      have g1 : n (288 + 16 * p + i) = nI (F (288 + 16 * p + i)) := by rw [h.2.1 _ (by unfold nk; omega)]; congr 1; exact if_neg (by omega)
      rw [gmS, g1] at hv
      rw [hy, nI_1, hv]
      refine ih (i + 1) _ (by omega) (isR_F (isR_wr (k := 16 + 16 * p + i) (x := F (288 + 16 * p + i)) h (by unfold nk; omega)) fun j => ?_)
      unfold updN
      by_cases c : j = 16 + 16 * p + i
      · subst c; rw [if_pos (by omega), if_pos rfl]; congr 1; omega
      · rw [if_neg c]
        show (if 16 + 16 * p ≤ j ∧ j < 16 + 16 * p + (i + 1) then _ else _) = (if 16 + 16 * p ≤ j ∧ j < 16 + 16 * p + i then _ else _)
        by_cases d : 16 + 16 * p ≤ j ∧ j < 16 + 16 * p + i
        · rw [if_pos d, if_pos (by omega)]
        · rw [if_neg d, if_neg (by omega)]
  exact x_flushesAll h hfe fun n2 r2 => ⟨17, go 16 0 n2 (by omega) (isR_F r2 fun j => by rw [if_neg (by omega)])⟩
theorem w_rs {p : Nat} (hp : p < 16) (hL : LogOK b e k) (hJ : isJ J b e f) {Q : S3 → S2 → Prop} : ∀ N j F P, N + j = k → (∀ i, F i < 65536) → byA F → RP P F G → (∀ P2, RP P2 (rsL b p N j F) (resG G p) → Q P2 J) → wp_X3_restore_40 Q (N + 1) (nI p) (nI (wlk b j)) P J := by
  have he := hJ.2.2.1
  have hw := hL.1.1
  intro N
  induction N with
  | zero =>
    intro j F P hj hb hy hR q
    obtain rfl : j = k := by omega
    have fin : wp_X3_restore_125 Q (nI p) P J := fun P2 h2 => q P2 (by
      rw [h2]
      obtain ⟨a1, a2, a3, a4, a5, a6, a7, a8, a9, a10⟩ := hR
      unfold resG
      refine ⟨a1, a2, a3, a4, ?_, a6, by rw [pk_un (by omega)]; exact a7, a8, a9, fun g hg hn => ⟨(a10 g hg hn).1, by rw [pk_un (by omega)]; exact (a10 g hg hn).2.1, (a10 g hg hn).2.2⟩⟩
      rw [pk_us, ← a5]; rfl)
    refine ⟨fun _ => fin, fun _ => w_wh hJ hL (Nat.le_refl _) ?_⟩
    rw [if_neg (by omega)]
    exact ⟨fun _ => fin, fun z => absurd rfl z⟩
  | succ N ih =>
    intro j F P hj hb hy hR q
    have hjk : j < k := by omega
    have h5 := hJ.2.2.2.2.1
    have hin := (rec_rd hL hjk).2.2.2.1
    have h6 := (rec_rd hL hjk).1
    have b5 := h5 (wlk b j + 5)
    obtain ⟨r1, r2, r3⟩ := rs1_ok (s := wlk b j) hp (by omega) h5 hb hy
    have nx : ∀ P2, RP P2 (rs1 b p (wlk b j) F) G → wp_X3_restore_116 (fun x1 x3 u0 u1 => wp_X3_restore_40 Q (N + 1) x1 x3 u0 u1) Q (nI p) (nI (wlk b j)) P2 J := fun P2 hR2 => w_bhd hJ hL hjk (ih (j + 1) _ P2 (by omega) r1 r2 hR2 q)
    refine pk_le e (wlk b j) (fun z => by omega) (fun _ => w_wh hJ hL (by omega) ?_) hJ.1
    rw [if_pos hjk]
    refine ⟨fun z => absurd z (by decide), fun _ => w_addressAt hJ (by omega) (w_touches hJ (by omega) ?_)⟩
    cases ht : tch b (wlk b j) with
    | false => exact ⟨fun _ => nx P (by unfold rs1; rw [if_neg (by rw [ht]; simp)]; exact hR), fun z => absurd rfl z⟩
    | true =>
      refine ⟨fun z => absurd z (by decide), fun _ => ?_⟩
      rw [show nI (b (wlk b j + 5)) / 16 = nI (b (wlk b j + 5) / 16) from pk_div (d := 16) (by omega) (by decide) (by decide)]
      refine pk_eq (b (wlk b j + 5) / 16) p (fun ca => ⟨ivp hp (by omega), ?_⟩) (fun ca => nx P (by unfold rs1; rw [if_neg (fun z => ca z.2.1)]; exact hR))
      have hbs := hb (272 + p)
      rw [nI_clamp (by omega), hR.2.1 p hp]
      refine pk_le (wlk b j) (F (272 + p)) (fun cs => nx P (by unfold rs1; rw [if_neg (fun z => by omega)]; exact hR)) (fun cs => ⟨ivp (by omega) (by omega), ?_⟩)
      rw [nI_clamp (by omega), hR.1 _ b5]
      refine w_done hJ (by omega) (hy.1 _ (by omega) (by omega)) ⟨ivp (by omega) (by omega), fun P1 h1 => ⟨ivp hp (by omega), fun P2 h2 => nx P2 ?_⟩⟩
      unfold rs1
      rw [if_pos ⟨ht, ca, cs⟩, h2, h1]
      obtain ⟨a1, a2, a3, a4, a5, a6, a7, a8, a9, a10⟩ := hR
      have o : ∀ i, i < 16 ∨ 288 ≤ i → updN (updN F (16 + b (wlk b j + 5)) (dnb b (wlk b j) (F (16 + b (wlk b j + 5))))) (272 + p) (wlk b j) i = F i := fun i hi => by rw [uNn (by omega), uNn (by omega)]
      refine ⟨fun a ha => ?_, fun a ha => ?_, fun a ha => by rw [o _ (by omega)]; exact a3 a ha, fun a ha => by rw [o _ (by omega)]; exact a4 a ha, a5, by rw [o _ (by omega)]; exact a6, a7, fun g hg => by rw [o _ (by omega)]; exact a8 g hg, fun g hg => by rw [o _ (by omega)]; exact a9 g hg, fun g hg hn => ?_⟩
      · show upd (g3_disk P) (b (wlk b j + 5)) _ a = _
        rw [uNn (by omega)]
        by_cases c : a = b (wlk b j + 5)
        · rw [c, pk_us, uNs]
        · rw [pk_un c, uNn (by omega)]; exact a1 a ha
      · show upd (g3_diskStamps P) p (nI (wlk b j)) a = _
        by_cases c : a = p
        · subst c; rw [pk_us, uNs]
        · rw [pk_un c, uNn (by omega), uNn (by omega)]; exact a2 a ha
      · rw [o _ (by omega)] at hn
        exact ⟨by rw [o _ (by omega)]; exact (a10 g hg hn).1, (a10 g hg hn).2.1, fun i hi => by rw [o _ (by omega)]; exact (a10 g hg hn).2.2 i hi⟩
theorem w_restore (hJ : isJ J b e f) (hL : LogOK b e k) (hb : ∀ i, F i < 65536) (hy : byA F) {p : Nat} (hp : p < 16) (h : RP P F G) {Q : S3 → S2 → Prop} (q : ∀ P2 J2, RP P2 (resF b k p F) (resG G p) → isJ J2 b e e → Q P2 J2) : wp_X3_restore P J (nI p) Q := by
  refine w_flushAll hJ fun J2 hJ2 => ?_
  have e2 : nI p * 16 = nI (p * 16) := pk_mul p 16
  have e16 : (16 : Int32).toNatClampNeg = 16 := by decide
  rw [e2, nI_clamp (by omega), nI_clamp (by omega), e16]
  refine ⟨⟨nI_pos (by omega), nI_pos (by omega), by decide, by omega, by omega⟩, fun P1 h1 => ⟨ivp hp (by omega), ivp hp (by omega), fun P2 h2 => ⟨k + 1, ?_⟩⟩⟩
  have o : ∀ i, i < 16 ∨ 288 ≤ i → rs0 F p i = F i := fun i hi => by unfold rs0; rw [if_neg (by omega), if_neg (by omega)]
  have b0 : (∀ i, rs0 F p i < 65536) ∧ byA (rs0 F p) := by
    refine ⟨fun i => ?_, fun j j1 j2 => ?_, fun j j1 j2 => by rw [o _ (by omega)]; exact hy.2.1 j j1 j2, fun g j j1 j2 => by rw [o _ (by omega)]; exact hy.2.2.1 g j j1 j2, fun j j1 j2 => by rw [o _ (by omega)]; exact hy.2.2.2 j j1 j2⟩
    · unfold rs0
      split
      · exact hb _
      · split
        · exact hb _
        · exact hb _
    · unfold rs0
      rw [if_neg (by omega)]
      split
      · exact hy.2.1 _ (by omega) (by omega)
      · exact hy.1 j j1 j2
  refine w_rs hp hL hJ2 k 0 (rs0 F p) P2 (by omega) b0.1 b0.2 ?_ fun P3 hP3 => q P3 J2 hP3 hJ2
  obtain ⟨a1, a2, a3, a4, a5, a6, a7, a8, a9, a10⟩ := h
  rw [h2, h1]
  refine ⟨fun a ha => ?_, fun a ha => ?_, fun a ha => by rw [o _ (by omega)]; exact a3 a ha, fun a ha => by rw [o _ (by omega)]; exact a4 a ha, a5, by rw [o _ (by omega)]; exact a6, a7, fun g hg => by rw [o _ (by omega)]; exact a8 g hg, fun g hg => by rw [o _ (by omega)]; exact a9 g hg, fun g hg hn => ?_⟩
  · show va_cpy (g3_archive P) (g3_disk P) (p * 16) (p * 16) 16 a = _
    unfold rs0
    rw [if_neg (by omega)]
    by_cases c : 16 + 16 * p ≤ 16 + a ∧ 16 + a < 32 + 16 * p
    · rw [if_pos c, pk_cpy_in (by omega) (by omega), a3 _ (by omega)]; congr 2; omega
    · rw [if_neg c, pk_cpy_out (by omega)]; exact a1 a ha
  · show upd (g3_diskStamps P) p (g3_archiveStamps P p) a = _
    unfold rs0
    by_cases c : a = p
    · subst c; rw [pk_us, if_pos rfl]; exact a4 a ha
    · rw [pk_un c, if_neg (by omega), if_neg (by omega)]; exact a2 a ha
  · rw [o _ (by omega)] at hn
    exact ⟨by rw [o _ (by omega)]; exact (a10 g hg hn).1, (a10 g hg hn).2.1, fun i hi => by rw [o _ (by omega)]; exact (a10 g hg hn).2.2 i hi⟩
theorem s_keep6 (h : SW w n) (x : Int32) : OpR zb w (s11_told m 0) n (wp_X9_restorePage w x) (wp_X11_keep (mS m n pn) 6 x) := by
  obtain ⟨F, G, b, e, f, k, hC, hR, hI⟩ := h
  intro K q Q g
  have ref : K 0 w 0 (mS (s11_told m 0) n pn) := q 0 w n pn (Or.inl rfl) ⟨F, G, b, e, f, k, hC, hR, hI⟩ rfl rfl
  have hC0 := hC
  obtain ⟨cJ, cP, cR, cC, cS, cu, cm, co, cr, cc⟩ := hC
  obtain ⟨ib, iy, iF, iL, i5, -⟩ := id hI.1
  have h8 := iF.1.2
  refine w_up cu (fun c3 => g _ _ (by first | exact Or.inl rfl | exact Or.inr rfl) <| x_keep0 hR ib (Or.inl c3) ref) (fun c3 => ?_)
  have xk : ∀ {K2 : Int32 → S11 → Prop}, wp_X11_keepsPage (mS (s11_told m 0) n pn) (nI 6) x (fun r v2 => zb r ∧ K2 r v2) → wp_X11_keep (mS m n pn) 6 x K2 := fun {K2} qq => x_keepU (j := 6) hR c3 (by omega) (by unfold wpK; rw [if_neg (by omega), if_neg (by omega), if_neg (by omega)]; exact qq)
  refine w_page (fun p hp hx => ⟨fun z => absurd z (by decide), fun _ => ?_⟩) (fun hz => ⟨fun _ => g _ _ (by first | exact Or.inl rfl | exact Or.inr rfl) <| xk (x_isIn0 hz ⟨fun _ => ⟨Or.inl rfl, ref⟩, fun y => absurd rfl y⟩), fun z => absurd rfl z⟩)
  subst hx
  refine w_isLost cP (fun cl => ⟨fun z => absurd z (by decide), fun _ => ?_⟩) (fun cl => ⟨fun _ => ?_, fun z => absurd rfl z⟩)
  · have hwk : wlk b k < 65536 := by have := log_room iL (UPl_of hI c3).2.1; have := (UPl_of hI c3).2.1; omega
    obtain ⟨s1, s2, s3⟩ := resF_ok (k := k) hp cJ.2.2.2.2.1 hwk ib iy
    refine w_restore cJ iL ib iy hp cP fun P2 J2 hP2 hJ2 w2 hw2 => g _ _ (by first | exact Or.inl rfl | exact Or.inr rfl) <| xk (x_kp hR h8 ib hp (Or.inr (Or.inr rfl)) ⟨fun z => by omega, fun z => by omega, fun _ => x_isLostPage hR (fun _ => ⟨fun z => absurd z (by decide), fun _ => ⟨fun z => absurd z (by decide), fun _ => ⟨fun z => absurd z (by decide), fun _ => ⟨fun _ => x_restores hR iL i5.2 ib iy hp fun n2 r2 => ⟨Or.inr rfl, ?_⟩, fun z => absurd rfl z⟩⟩⟩⟩) (fun z => absurd cl z)⟩)
    rw [hw2]
    exact q 1 _ n2 pn (Or.inr rfl) ⟨resF b k p F, resG G p, b, e, e, k, CW_disk hC0 (fun j hj => s3 j (by omega)) (fun j hj => pk_un hj) hP2 hJ2, r2, IV_disk hI c3 (fun j hj => s3 j (by omega)) s1 (fun j j1 j2 => s2.1 j j1 j2) (fun j j1 j2 => s2.2.1 j j1 j2) i5.2 (Nat.le_refl _)⟩ rfl (sw_7 hR r2 (s3 7 (by omega)))
  · exact g _ _ (by first | exact Or.inl rfl | exact Or.inr rfl) <| xk (x_kp hR h8 ib hp (Or.inr (Or.inr rfl)) ⟨fun z => by omega, fun z => by omega, fun _ => x_isLostPage hR (fun z => absurd z cl) (fun _ => ⟨fun _ => ⟨Or.inl rfl, ref⟩, fun z => absurd rfl z⟩)⟩)
end
