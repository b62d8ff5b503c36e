/-! ===== a page fetched, a record done in its frame ===== -/
section
variable {m : S11} {n : Nat → Int32} {pn : Int32} {F : Nat → Nat} {G : Nat → Int32} {b : Nat → Nat} {e f : Nat} {P : S3} {J : S2} {Sp : Nat → Prop}
/-- frames: how many, which pages, what is unclean -/
def IFr (F : Nat → Nat) (Sp : Nat → Prop) : Prop := (1 ≤ F 5 ∧ F 5 ≤ 8) ∧ (∀ g, g < 8 → F (560 + 20 * g) ≤ 16 ∧ (F 5 ≤ g → F (560 + 20 * g) = 0)) ∧ (∀ g, g < 8 → F (562 + 20 * g) ≠ 0 → F (560 + 20 * g) ≠ 0 ∧ Sp (F (562 + 20 * g)) ∧ Sp (F (561 + 20 * g))) ∧ ∀ g h, g < 8 → h < 8 → F (560 + 20 * g) = F (560 + 20 * h) → F (560 + 20 * g) ≠ 0 → g = h
def slot (F : Nat → Nat) (G : Nat → Int32) (p : Nat) : Nat := if fo F p < F 5 then fo F p else lu F G
def outF (F : Nat → Nat) (fr : Nat) : Nat → Nat := if F (562 + 20 * fr) = 0 then F else wrF F fr
def takeF (F : Nat → Nat) (fr p : Nat) : Nat → Nat := fun k => if k = 560 + 20 * fr then p + 1 else if k = 561 + 20 * fr then F (272 + p) else if k = 562 + 20 * fr then 0 else if 564 + 20 * fr ≤ k ∧ k < 580 + 20 * fr then F (16 + 16 * p + (k - (564 + 20 * fr))) else F k
def fetF (F : Nat → Nat) (G : Nat → Int32) (p : Nat) : Nat → Nat := if fo F p < F 5 then F else takeF (outF F (lu F G)) (lu F G) p
def fetG (F : Nat → Nat) (G : Nat → Int32) (p : Nat) : Nat → Int32 := upd (upd G 6 (G 6 + 1)) (563 + 20 * slot F G p) (G 6 + 1)
def fetf (F : Nat → Nat) (G : Nat → Int32) (b : Nat → Nat) (f p : Nat) : Nat := if fo F p < F 5 then f else if F (562 + 20 * lu F G) = 0 then f else flT b f (F (561 + 20 * lu F G))
theorem slot_lt (h : IFr F Sp) (p : Nat) : slot F G p < F 5 := by
  unfold slot
  split
  · assumption
  · exact lu_lt F G h.1.1
theorem fo_held {p : Nat} (c : fo F p < F 5) : F (560 + 20 * fo F p) = p + 1 := by
  have := fnd_true (fun f => F (560 + 20 * f) == p + 1) (F 5) 0 (by rw [Nat.zero_add]; exact c)
  unfold fo; simpa using this
theorem fo_not {p g : Nat} (c : ¬ fo F p < F 5) (hg : g < F 5) : F (560 + 20 * g) ≠ p + 1 := by
  have := fnd_not (fun f => F (560 + 20 * f) == p + 1) (F 5) 0 g (by omega) (by unfold fo at c; omega)
  simpa using this
theorem slot_held {p : Nat} : fetF F G p (560 + 20 * slot F G p) = p + 1 := by
  unfold fetF slot
  by_cases c : fo F p < F 5
  · rw [if_pos c, if_pos c]; exact fo_held c
  · rw [if_neg c, if_neg c]; unfold takeF; rw [if_pos rfl]
/-- what is used now -/
theorem x_use (h : isR n F G b e f) {fr : Nat} (hf : fr < 8) {Q : Int32 → S11 → Prop} (q : ∀ n2, isR n2 F (upd (upd G 6 (G 6 + 1)) (563 + 20 * fr) (G 6 + 1)) b e f → Q (nI (560 + 20 * fr)) (mS m n2 pn)) : wp_X11_fetches_129 Q (nI fr) (mS m n pn) := by
  have e6 : (6 : Int32).toNatClampNeg = 6 := by decide
  have e1 : (560 : Int32) + 20 * nI fr + 3 = nI (563 + 20 * fr) := by rw [frAt]; show nI _ + nI 3 = _; rw [nI_add]; congr 1; omega
  refine ⟨ivp (k := 6) (by omega) (by omega), ivp (k := 6) (by omega) (by omega), fun u1 h1 => ⟨ivp (k := 6) (by omega) (by omega), ?_⟩⟩
  rw [e6] at h1 ⊢
  rw [e1]
  refine ⟨ivp (by omega) (by omega), fun u2 h2 => ?_⟩
  rw [nI_clamp (by omega)] at h2
  have r1 := isR_wg (k := 6) (x := G 6 + 1) h (by unfold gk; omega)
  have r2 := isR_wg (k := 563 + 20 * fr) (x := G 6 + 1) r1 (gk_fr hf)
  show Q ((560 : Int32) + 20 * nI fr) u2
  rw [frAt]
  have e2 : u2 = mS m (upd (upd n 6 (G 6 + 1)) (563 + 20 * fr) (G 6 + 1)) pn := by
    rw [h2, h1, gmS, h.2.2.1 6 (by unfold gk; omega)]
    show mS m (upd (upd n 6 (G 6 + 1)) (563 + 20 * fr) (upd n 6 (G 6 + 1) 6)) pn = _
    rw [pk_us]
  rw [e2]
  exact q _ r2
def tkI (F : Nat → Nat) (fr p i : Nat) : Nat → Nat := fun k => if k = 560 + 20 * fr then p + 1 else if k = 561 + 20 * fr then F (272 + p) else if k = 562 + 20 * fr then 0 else if 564 + 20 * fr ≤ k ∧ k < 564 + 20 * fr + i then F (16 + 16 * p + (k - (564 + 20 * fr))) else F k
theorem x_take_go {fr p : Nat} (hp : p < 16) (hf : fr < 8) {K : Int32 → S11 → Prop} {Q : Int32 → S11 → Prop} (q : ∀ n2, isR n2 (takeF F fr p) G b e f → K (nI fr) (mS m n2 pn)) : ∀ k i n, k + i = 16 → isR n (tkI F fr p i) G b e f → wp_X11_fetches_90 K Q (k + 1) (nI p) (nI fr) (nI (560 + 20 * fr)) (nI i) (mS m n pn) := by
  intro k
  induction k with
  | zero =>
    intro i n hi h
    obtain rfl : i = 16 := by omega
    refine pk_le 16 16 (fun _ => q n (isR_F h fun k => ?_)) (fun c => by omega)
    unfold takeF tkI
    rw [show 564 + 20 * fr + 16 = 580 + 20 * fr by omega]
  | succ k ih =>
    intro i n hi h
    refine pk_le 16 i (fun _ => by omega) (fun _ => ?_)
    have e1 : (16 : Int32) + 16 * nI p + nI i = nI (16 + 16 * p + i) := by
      show nI 16 + nI 16 * nI p + nI i = _
      rw [pk_mul, nI_add, nI_add]
    have e2 : nI (560 + 20 * fr) + 4 + nI i = nI (564 + 20 * fr + i) := by
      show _ + nI 4 + _ = _
      rw [nI_add, nI_add]; congr 1; omega
    rw [e1, e2, nI_clamp (by omega), nI_clamp (by omega)]
    refine ⟨ivp (by omega) (by omega), ivp (by omega) (by omega), fun u1 h1 y hy => ?_⟩
    rw [hy, h1, nI_1]
    refine ih (i + 1) _ (by omega) ?_
    have e5 : n (16 + 16 * p + i) = nI (F (16 + 16 * p + i)) := by
      rw [h.2.1 _ (by unfold nk; omega)]
      unfold tkI
      rw [if_neg (by omega), if_neg (by omega), if_neg (by omega), if_neg (by omega)]
    rw [gmS, e5]
    have e3 := isR_wr (k := 564 + 20 * fr + i) (x := F (16 + 16 * p + i)) h (by unfold nk; omega)
    refine isR_F e3 fun k => ?_
    unfold updN tkI
    by_cases c : k = 564 + 20 * fr + i
    · subst c
      rw [if_pos rfl, if_neg (by omega), if_neg (by omega), if_neg (by omega), if_pos (by omega), show 564 + 20 * fr + i - (564 + 20 * fr) = i by omega]
    · rw [if_neg c]
      by_cases d : 564 + 20 * fr ≤ k ∧ k < 564 + 20 * fr + i
      · rw [if_pos (show 564 + 20 * fr ≤ k ∧ k < 564 + 20 * fr + (i + 1) by omega), if_pos d]
      · rw [if_neg (show ¬ (564 + 20 * fr ≤ k ∧ k < 564 + 20 * fr + (i + 1)) by omega), if_neg d]
theorem x_take (h : isR n F G b e f) {fr p : Nat} (hp : p < 16) (hf : fr < 8) {K : Int32 → S11 → Prop} {Q : Int32 → S11 → Prop} (q : ∀ n2, isR n2 (takeF F fr p) G b e f → K (nI fr) (mS m n2 pn)) : wp_X11_fetches_49 K Q (nI p) (nI fr) (nI (560 + 20 * fr)) (mS m n pn) := by
  have e0 : nI (560 + 20 * fr) + 0 = nI (560 + 20 * fr) := nI_add _ 0
  have e1 : nI (560 + 20 * fr) + 1 = nI (561 + 20 * fr) := by rw [nI_1]; congr 1; omega
  have e2 : nI (560 + 20 * fr) + 2 = nI (562 + 20 * fr) := by show _ + nI 2 = _; rw [nI_add]; congr 1; omega
  have e3 : (272 : Int32) + nI p = nI (272 + p) := nI_add 272 p
  unfold wp_X11_fetches_49
  rw [e0, e1, e2, e3, nI_1, nI_clamp (by omega), nI_clamp (by omega), nI_clamp (by omega), nI_clamp (by omega)]
  refine ⟨ivp (by omega) (by omega), fun u1 h1 => ⟨ivp (by omega) (by omega), ivp (by omega) (by omega), fun u2 h2 => ⟨ivp (by omega) (by omega), fun u3 h3 => ⟨17, ?_⟩⟩⟩⟩
  have r1 := isR_wr (k := 560 + 20 * fr) (x := p + 1) h (by unfold nk; omega)
  have r2 := isR_wr (k := 561 + 20 * fr) (x := F (272 + p)) r1 (by unfold nk; omega)
  have r3 := isR_wr (k := 562 + 20 * fr) (x := 0) r2 (by unfold nk; omega)
  have e4 : u3 = mS m (upd (upd (upd n (560 + 20 * fr) (nI (p + 1))) (561 + 20 * fr) (nI (F (272 + p)))) (562 + 20 * fr) (nI 0)) pn := by
    rw [h3, h2, h1]
    show mS m (upd (upd (upd n (560 + 20 * fr) (nI (p + 1))) (561 + 20 * fr) (upd n (560 + 20 * fr) (nI (p + 1)) (272 + p))) (562 + 20 * fr) 0) pn = _
    rw [pk_un (by omega), h.2.1 (272 + p) (by unfold nk; omega)]
    rfl
  rw [e4]
  refine x_take_go hp hf q 16 0 _ (by omega) (isR_F r3 fun k => ?_)
  unfold tkI updN
  by_cases c0 : k = 562 + 20 * fr
  · rw [if_neg (by omega), if_neg (by omega), if_pos c0, if_pos c0]
  · rw [if_neg (show ¬ (564 + 20 * fr ≤ k ∧ k < 564 + 20 * fr + 0) by omega)]
    simp only [if_neg c0]
    by_cases c1 : k = 561 + 20 * fr
    · rw [if_neg (by omega), if_pos c1, if_pos c1]
    · simp only [if_neg c1]
theorem x_fetches (h : isR n F G b e f) (hI : IFr F Sp) (hS : ∀ s, Sp s → 0 < s ∧ s + 1 < e ∧ s + b (s + 1) ≤ e) (hb : ∀ k, F k < 65536) {p : Nat} (hp : p < 16) {Q : Int32 → S11 → Prop} (q : ∀ n2, isR n2 (fetF F G p) (fetG F G p) b e (fetf F G b f p) → Q (nI (560 + 20 * slot F G p)) (mS m n2 pn)) : wp_X11_fetches (mS m n pn) (nI p) Q := by
  refine x_frameOf h hI.1.2 hp hb ?_
  unfold foI
  have hl := lu_lt F G hI.1.1
  have h8 := hI.1.2
  unfold fetF fetG fetf slot at q
  by_cases c : fo F p < F 5
  · rw [if_pos c]
    simp only [if_pos c] at q
    refine ⟨fun z => ?_, fun _ => ?_⟩
    · exact absurd (by rw [z]; decide) (nI_pos (n := fo F p) (by omega))
    · exact x_use h (by omega) q
  · rw [if_neg c]
    simp only [if_neg c] at q
    refine ⟨fun _ => x_leastUsed h h8 hb ?_, fun z => absurd rfl z⟩
    have e2 : (560 : Int32) + 20 * nI (lu F G) + 2 = nI (562 + 20 * lu F G) := by rw [frAt]; show nI _ + nI 2 = _; rw [nI_add]; congr 1; omega
    show vp_in (560 + 20 * nI (lu F G) + 0) 10700 ∧ _
    rw [frAt0, e2, frAt]
    refine ⟨ivp (by omega) (by omega), ?_⟩
    rw [nI_clamp (by omega), nI_clamp (by omega), gmS, h.2.1 _ (show nk (560 + 20 * lu F G) by unfold nk; omega), h.2.1 _ (show nk (562 + 20 * lu F G) by unfold nk; omega)]
    have hb0 := hb (560 + 20 * lu F G)
    have hb2 := hb (562 + 20 * lu F G)
    have fin : ∀ n2 F2 f2, isR n2 F2 G b e f2 → F2 = outF F (lu F G) → f2 = (if F (562 + 20 * lu F G) = 0 then f else flT b f (F (561 + 20 * lu F G))) → wp_X11_fetches_49 (fun x2 u0 => wp_X11_fetches_129 Q x2 u0) Q (nI p) (nI (lu F G)) (nI (560 + 20 * lu F G)) (mS m n2 pn) := by
      intro n2 F2 f2 h2 eF ef
      subst eF ef
      exact x_take h2 hp (by omega) fun n3 h3 => x_use h3 (by omega) q
    have rz : F (562 + 20 * lu F G) = 0 → wp_X11_fetches_49 (fun x2 u0 => wp_X11_fetches_129 Q x2 u0) Q (nI p) (nI (lu F G)) (nI (560 + 20 * lu F G)) (mS m n pn) := fun z => fin n F f h (by unfold outF; rw [if_pos z]) (by rw [if_pos z])
    refine pk_le (F (560 + 20 * lu F G)) 0 (fun z => ?_) (fun z => ⟨ivp (by omega) (by omega), pk_le (F (562 + 20 * lu F G)) 0 (fun z2 => rz (by omega)) (fun z2 => ?_)⟩)
    · refine rz ?_
      by_cases y : F (562 + 20 * lu F G) = 0
      · exact y
      · exact absurd (by omega) (hI.2.2.1 _ (by omega) y).1
    · obtain ⟨i1, i2, i3⟩ := hI.2.2.1 (lu F G) (by omega) (by omega)
      obtain ⟨j1, j2, j3⟩ := hS _ i3
      exact x_isWritten h rfl (hI.2.1 _ (by omega)).1 (by omega) (by omega) rfl (by omega) j2 j3 fun n2 h2 => fin n2 _ _ h2 (by unfold outF; rw [if_neg (by omega)]) (by rw [if_neg (by omega)])
theorem w_use (h : RP P F G) {fr : Nat} (hf : fr < 8) {Q : Int32 → S3 → S2 → Prop} (q : ∀ P2, RP P2 F (upd (upd G 6 (G 6 + 1)) (563 + 20 * fr) (G 6 + 1)) → Q (nI fr) P2 J) : wp_X3_fetch_70 Q (nI fr) P J := by
  obtain ⟨a1, a2, a3, a4, a5, a6, a7, a8, a9, a10⟩ := h
  intro P1 h1
  refine ⟨ivp hf (by omega), fun P2 h2 => q P2 ?_⟩
  rw [nI_clamp (by omega)] at h2
  rw [h2, h1]
  have g10 : upd (upd G 6 (G 6 + 1)) (563 + 20 * fr) (G 6 + 1) 10 = G 10 := by rw [pk_un (by omega), pk_un (by omega)]
  have g6 : upd (upd G 6 (G 6 + 1)) (563 + 20 * fr) (G 6 + 1) 6 = G 6 + 1 := by rw [pk_un (by omega), pk_us]
  refine ⟨a1, a2, a3, a4, by rw [g10]; exact a5, a6, ?_, a8, a9, fun g hg hn => ⟨(a10 g hg hn).1, ?_, (a10 g hg hn).2.2⟩⟩
  · show g3_clock P + 1 = _
    rw [g6, a7]
  · show upd (g3_uses P) fr (g3_clock P + 1) g = _
    by_cases c : g = fr
    · subst c; rw [pk_us, pk_us, a7]
    · rw [pk_un c, pk_un (by omega), pk_un (by omega)]; exact (a10 g hg hn).2.1
theorem w_take (h : RP P F G) {fr p : Nat} (hp : p < 16) (hf : fr < 8) (h0 : F (562 + 20 * fr) = 0) {K : Int32 → S3 → S2 → Prop} {Q : Int32 → S3 → S2 → Prop} (q : ∀ P2, RP P2 (takeF F fr p) (upd G (563 + 20 * fr) (g3_uses P fr)) → K (nI fr) P2 J) : wp_X3_fetch_30 K Q (nI p) (nI fr) P J := by
  obtain ⟨a1, a2, a3, a4, a5, a6, a7, a8, a9, a10⟩ := h
  have e1 : nI fr * 16 = nI (fr * 16) := pk_mul fr 16
  have e2 : nI p * 16 = nI (p * 16) := pk_mul p 16
  have e16 : (16 : Int32).toNatClampNeg = 16 := by decide
  unfold wp_X3_fetch_30
  rw [e1, e2, nI_clamp (by omega), nI_clamp (by omega), nI_clamp (by omega), nI_clamp (by omega), e16]
  refine ⟨⟨nI_pos (by omega), nI_pos (by omega), by decide, by omega, by omega⟩, fun P1 h1 => ⟨ivp hf (by omega), fun P2 h2 => ⟨ivp hp (by omega), ivp hf (by omega), fun P3 h3 => q P3 ?_⟩⟩⟩
  rw [h3, h2, h1]
  have ot : ∀ k, k < 560 ∨ 720 ≤ k → takeF F fr p k = F k := fun k hk => by
    unfold takeF
    rw [if_neg (by omega), if_neg (by omega), if_neg (by omega), if_neg (by omega)]
  have of : ∀ g j, g < 8 → j < 20 → g ≠ fr → takeF F fr p (560 + 20 * g + j) = F (560 + 20 * g + j) := fun g j hg hj hne => by
    unfold takeF
    rw [if_neg (by omega), if_neg (by omega), if_neg (by omega), if_neg (by omega)]
  refine ⟨fun a ha => ?_, fun a ha => ?_, fun a ha => ?_, fun a ha => ?_, by rw [pk_un (by omega)]; exact a5, ?_, by rw [pk_un (by omega)]; exact a7, fun g hg => ?_, fun g hg => ?_, fun g hg hn => ?_⟩
  · rw [ot _ (by omega)]; exact a1 a ha
  · rw [ot _ (by omega)]; exact a2 a ha
  · rw [ot _ (by omega)]; exact a3 a ha
  · rw [ot _ (by omega)]; exact a4 a ha
  · rw [ot _ (by omega)]; exact a6
  · show upd (g3_held P) fr (nI p) g = _
    by_cases c : g = fr
    · subst c
      rw [pk_us]
      unfold takeF
      rw [if_pos rfl, nI_pred]
    · rw [pk_un c, show 560 + 20 * g = 560 + 20 * g + 0 from rfl, of g 0 hg (by omega) c]; exact a8 g hg
  · show g3_recs P g = _
    by_cases c : g = fr
    · subst c
      rw [a9 g hg, h0]
      unfold takeF
      rw [if_neg (by omega), if_neg (by omega), if_pos rfl]
    · rw [show 562 + 20 * g = 560 + 20 * g + 2 by omega, of g 2 hg (by omega) c, show 560 + 20 * g + 2 = 562 + 20 * g by omega]; exact a9 g hg
  · by_cases c : g = fr
    · subst c
      refine ⟨?_, by rw [pk_us], fun k hk => ?_⟩
      · show upd (g3_stamps P) g (g3_diskStamps P p) g = _
        rw [pk_us, a2 p hp]
        unfold takeF
        rw [if_neg (by omega), if_pos rfl]
      · show va_cpy (g3_disk P) (g3_copies P) (p * 16) (g * 16) 16 (16 * g + k) = _
        rw [pk_cpy_in (by omega) (by omega), a1 _ (by omega)]
        unfold takeF
        rw [if_neg (by omega), if_neg (by omega), if_neg (by omega), if_pos (by omega)]
        congr 2; omega
    · have hn2 : F (560 + 20 * g) ≠ 0 := by have := of g 0 hg (by omega) c; rw [Nat.add_zero] at this; rwa [this] at hn
      obtain ⟨c1, c2, c3⟩ := a10 g hg hn2
      refine ⟨?_, by rw [pk_un (by omega)]; exact c2, fun k hk => ?_⟩
      · show upd (g3_stamps P) fr _ g = _
        rw [pk_un c, show 561 + 20 * g = 560 + 20 * g + 1 by omega, of g 1 hg (by omega) c, show 560 + 20 * g + 1 = 561 + 20 * g by omega]; exact c1
      · show va_cpy (g3_disk P) (g3_copies P) (p * 16) (fr * 16) 16 (16 * g + k) = _
        rw [pk_cpy_out (by omega), show 564 + 20 * g + k = 560 + 20 * g + (4 + k) by omega, of g (4 + k) hg (by omega) c, show 560 + 20 * g + (4 + k) = 564 + 20 * g + k by omega]; exact c3 k hk
theorem w_fetch (h : RP P F G) (hJ : isJ J b e f) (hfl : f ≤ 8600) (hI : IFr F Sp) (hb : ∀ k, F k < 65536) {p : Nat} (hp : p < 16) {Q : Int32 → S3 → S2 → Prop} (q : ∀ P2 J2, RP P2 (fetF F G p) (fetG F G p) → isJ J2 b e (fetf F G b f p) → Q (nI (slot F G p)) P2 J2) : wp_X3_fetch P J (nI p) Q := by
  refine w_frameOf h hI.1.2 hp hb ?_
  unfold foI
  have hl := lu_lt F G hI.1.1
  have h8 := hI.1.2
  unfold fetF fetG fetf slot at q
  by_cases c : fo F p < F 5
  · rw [if_pos c]
    simp only [if_pos c] at q
    refine ⟨fun _ => ?_, fun z => absurd (nI_pos' (by omega)) z⟩
    exact w_use h (by omega) fun P2 h2 => q P2 J h2 hJ
  · rw [if_neg c]
    simp only [if_neg c] at q
    refine ⟨fun z => absurd z (by decide), fun _ => w_frameToTake h h8 hb ⟨ivp (by omega) (by omega), ?_⟩⟩
    rw [nI_clamp (by omega), h.2.2.2.2.2.2.2.2.1 _ (by omega)]
    have hb2 := hb (562 + 20 * lu F G)
    have fin : ∀ P2 J2 F2 f2, RP P2 F2 G → isJ J2 b e f2 → F2 = outF F (lu F G) → F2 (562 + 20 * lu F G) = 0 → f2 = (if F (562 + 20 * lu F G) = 0 then f else flT b f (F (561 + 20 * lu F G))) → wp_X3_fetch_30 (fun x3 u0 u1 => wp_X3_fetch_70 Q x3 u0 u1) Q (nI p) (nI (lu F G)) P2 J2 := by
      intro P2 J2 F2 f2 h2 hJ2 eF ez ef
      subst eF ef
      refine w_take h2 hp (by omega) ez fun P3 h3 => w_use h3 (by omega) fun P4 h4 => q P4 J2 ?_ hJ2
      refine RP_c h4 (fun _ _ => rfl) fun k hk => ?_
      by_cases c1 : k = 563 + 20 * lu F G
      · subst c1; rw [pk_us, pk_us, pk_un (by omega)]
      · rw [pk_un c1, pk_un c1]
        by_cases c2 : k = 6
        · subst c2; rw [pk_us, pk_us, pk_un (by omega)]
        · rw [pk_un c2, pk_un c2, pk_un c1]
    refine pk_eq (F (562 + 20 * lu F G)) 0 (fun z => ?_) (fun z => ?_)
    · exact fin P J F f h hJ (by unfold outF; rw [if_pos z]) z (by rw [if_pos z])
    · obtain ⟨i1, i2, i3⟩ := hI.2.2.1 (lu F G) (by omega) (by omega)
      refine w_writeOut h hJ hfl rfl (hI.2.1 _ (by omega)).1 (by omega) (by omega) rfl (hb _) fun P2 J2 h2 hJ2 => fin P2 J2 _ _ h2 hJ2 (by unfold outF; rw [if_neg z]) ?_ (by rw [if_neg z])
      unfold wrF
      rw [if_pos rfl]
end
