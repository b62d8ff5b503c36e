/-! ===== keep: a page lost, a page restored ===== -/
section
variable {m : S11} {n : Nat → Int32} {pn : Int32} {F F2 : Nat → Nat} {G G2 : Nat → Int32} {b b2 : Nat → Nat} {e f k e2 f2 : Nat} {w : S9} {P : S3} {C : S0} {J : S2}
theorem x_anyIn {p : Nat} (hp : p < 16) (h : isR n F G b e f) {Q : Int32 → Prop} (q0 : (∃ a, 16 * p ≤ a ∧ a < 16 * p + 16 ∧ (G (882 + a) ||| G (1138 + a)) ≠ 0) → Q 0) (q1 : (∀ a, 16 * p ≤ a → a < 16 * p + 16 → (G (882 + a) ||| G (1138 + a)) = 0) → Q 1) : ∀ N a, N + a = 16 * p + 16 → 16 * p ≤ a → (∀ a', 16 * p ≤ a' → a' < a → (G (882 + a') ||| G (1138 + a')) = 0) → wp_X11_canLose_24 (mS m n pn) Q (N + 1) (nI p) (nI a) := by
  have e0 : (16 : Int32) * nI p + 16 = nI (16 * p + 16) := by show nI 16 * nI p + nI 16 = _; rw [pk_mul, nI_add]
  intro N
  induction N with
  | zero =>
    intro a ha h1 hz
    exact pk_le (16 * p + 16) a (fun _ => q1 fun a' h1 h2 => hz a' h1 (by omega)) (fun z => by omega) e0
  | succ N ih =>
    intro a ha h1 hz
    refine pk_le (16 * p + 16) a (fun z => by omega) (fun _ => ?_) e0
    rw [show (882 : Int32) + nI a = nI (882 + a) from nI_add 882 a, show (1138 : Int32) + nI a = nI (1138 + a) from nI_add 1138 a, nI_clamp (by omega), nI_clamp (by omega), gmS, h.2.2.1 _ (show gk (882 + a) by unfold gk; omega), h.2.2.1 _ (show gk (1138 + a) by unfold gk; omega)]
    refine ⟨ivp (by omega) (by omega), ivp (by omega) (by omega), fun z y hy => ?_, fun z => q0 ⟨a, h1, by omega, z⟩⟩
    rw [hy, nI_1]
    refine ih (a + 1) (by omega) (by omega) fun a' h1 h2 => ?_
    by_cases c : a' = a
    · rw [c]; exact z
    · exact hz a' h1 (by omega)
theorem w_anyIn {p : Nat} (hp : p < 16) (h : RC C F G) {Q : Int32 → Prop} (q1 : (∃ a, 16 * p ≤ a ∧ a < 16 * p + 16 ∧ (G (882 + a) ||| G (1138 + a)) ≠ 0) → Q 1) (q0 : (∀ a, 16 * p ≤ a → a < 16 * p + 16 → (G (882 + a) ||| G (1138 + a)) = 0) → Q 0) : wp_X0_anyIn C (nI p) Q := by
  have go : ∀ N a, N + a = 16 * p + 16 → 16 * p ≤ a → (∀ a', 16 * p ≤ a' → a' < a → (G (882 + a') ||| G (1138 + a')) = 0) → wp_X0_anyIn_5 C Q (N + 1) (nI p) (nI a) := by
    have e0 : (nI p + 1) * 16 = nI (16 * p + 16) := by rw [nI_1]; show nI (p + 1) * nI 16 = _; rw [pk_mul]; congr 1; omega
    intro N
    induction N with
    | zero =>
      intro a ha h1 hz
      exact pk_le (16 * p + 16) a (fun _ => q0 fun a' h1 h2 => hz a' h1 (by omega)) (fun z => by omega) e0
    | succ N ih =>
      intro a ha h1 hz
      refine pk_le (16 * p + 16) a (fun z => by omega) (fun _ => ⟨ivp (by omega) (by omega), ivp (by omega) (by omega), ?_⟩) e0
      rw [nI_clamp (by omega), h.1 a (by omega), h.2.1 a (by omega)]
      refine ⟨fun z y hy => ?_, fun z => q1 ⟨a, h1, by omega, z⟩⟩
      rw [hy, nI_1]
      refine ih (a + 1) (by omega) (by omega) fun a' h1 h2 => ?_
      by_cases c : a' = a
      · rw [c]; exact z
      · exact hz a' h1 (by omega)
  intro x hx
  refine ⟨17, ?_⟩
  rw [hx, show nI p * 16 = nI (16 * p) by show nI p * nI 16 = _; rw [pk_mul, Nat.mul_comm]]
  exact go 16 (16 * p) (by omega) (by omega) fun a' h1 h2 => by omega
def losF (F : Nat → Nat) (p : Nat) : Nat → Nat := fun k => if k = 272 + p then 0 else if 16 + 16 * p ≤ k ∧ k < 32 + 16 * p then 0 else F k
theorem x_loses (h : isR n F G b e f) {p : Nat} (hp : p < 16) {Q : S11 → Prop} (q : ∀ n2, isR n2 (losF F p) (upd G 10 (G 10 ||| (1 <<< (nI p &&& 31)))) b e f → Q (mS m n2 pn)) : wp_X11_loses (mS m n pn) (nI p) Q := by
  have go : ∀ N i n, N + i = 16 → isR n (fun k => if 16 + 16 * p ≤ k ∧ k < 16 + 16 * p + i then 0 else F k) G b e f → wp_X11_loses_2 Q (N + 1) (nI p) (nI i) (mS m n pn) := by
    intro N
    induction N with
    | zero =>
      intro i n hi h
      obtain rfl : i = 16 := by omega
      refine pk_le 16 16 (fun _ => ?_) (fun z => by omega)
      rw [show (272 : Int32) + nI p = nI (272 + p) from nI_add 272 p, nI_clamp (by omega)]
      refine ⟨ivp (by omega) (by omega), fun v hv => ⟨ivp (k := 10) (by omega) (by omega), ivp (k := 10) (by omega) (by omega), fun v2 hv2 => ?_⟩⟩
      have r1 := isR_wr (k := 272 + p) (x := 0) h (by unfold nk; omega)
      have g1 : g11_now v (10 : Int32).toNatClampNeg = G 10 := by
        rw [hv, show (10 : Int32).toNatClampNeg = 10 by decide]
        exact r1.2.2.1 10 (by unfold gk; omega)
      rw [g1, show (10 : Int32).toNatClampNeg = 10 by decide] at hv2
      rw [hv2, hv]
      refine q _ (isR_F (isR_wg (k := 10) (x := G 10 ||| (1 <<< (nI p &&& 31))) r1 (by unfold gk; omega)) fun k => ?_)
      unfold losF updN
      by_cases c : k = 272 + p
      · rw [if_pos c, if_pos c]
      · rw [if_neg c, if_neg c, show 16 + 16 * p + 16 = 32 + 16 * p by omega]
    | succ N ih =>
      intro i n hi h
      refine pk_le 16 i (fun z => by omega) (fun _ => ?_)
      rw [show (16 : Int32) + 16 * nI p + nI i = nI (16 + 16 * p + i) by show nI 16 + nI 16 * nI p + nI i = _; rw [pk_mul, nI_add, nI_add], nI_clamp (by omega)]
      refine ⟨ivp (by omega) (by omega), fun v hv y hy => ?_⟩
      rw [hy, nI_1, hv]
      refine ih (i + 1) _ (by omega) (isR_F (isR_wr (k := 16 + 16 * p + i) (x := 0) h (by unfold nk; omega)) fun k => ?_)
      unfold updN
      by_cases c : k = 16 + 16 * p + i
      · subst c; rw [if_pos (by omega), if_pos rfl]
      · rw [if_neg c]
        show (if 16 + 16 * p ≤ k ∧ k < 16 + 16 * p + (i + 1) then _ else _) = (if 16 + 16 * p ≤ k ∧ k < 16 + 16 * p + i then _ else _)
        by_cases d : 16 + 16 * p ≤ k ∧ k < 16 + 16 * p + i
        · rw [if_pos d, if_pos (by omega)]
        · rw [if_neg d, if_neg (by omega)]
  exact ⟨17, go 16 0 n (by omega) (isR_F h fun k => by rw [if_neg (by omega)])⟩
theorem w_lose (h : RP P F G) {p : Nat} (hp : p < 16) {Q : S3 → Prop} (q : ∀ P2, RP P2 (losF F p) (upd G 10 (G 10 ||| (1 <<< (nI p &&& 31)))) → Q P2) : wp_X3_lose P (nI p) Q := by
  obtain ⟨a1, a2, a3, a4, a5, a6, a7, a8, a9, a10⟩ := h
  have go : ∀ N i D, N + i = 16 → (∀ a, D a = if p * 16 ≤ a ∧ a < p * 16 + i then 0 else g3_disk P a) → wp_X3_lose_2 Q (N + 1) (nI p) (nI i) (s3_disk P D) := by
    intro N
    induction N with
    | zero =>
      intro i D hi hD
      obtain rfl : i = 16 := by omega
      refine pk_le 16 16 (fun _ => ⟨ivp hp (by omega), fun P1 h1 P2 h2 => q P2 ?_⟩) (fun z => by omega)
      rw [nI_clamp (by omega)] at h1
      rw [h2, h1]
      have o : ∀ k, 288 ≤ k ∨ k < 16 → losF F p k = F k := fun k hk => by unfold losF; rw [if_neg (by omega), if_neg (by omega)]
      refine ⟨fun a ha => ?_, fun a ha => ?_, fun a ha => by rw [o _ (by omega)]; exact a3 a ha, fun a ha => by rw [o _ (by omega)]; exact a4 a ha, ?_, by rw [o _ (by omega)]; exact a6, by rw [pk_un (by omega)]; exact a7, fun g hg => by rw [o _ (by omega)]; exact a8 g hg, fun g hg => by rw [o _ (by omega)]; exact a9 g hg, fun g hg hn => ?_⟩
      · show D a = _
        rw [hD a]
        unfold losF
        rw [if_neg (show ¬ 16 + a = 272 + p by omega)]
        by_cases c : p * 16 ≤ a ∧ a < p * 16 + 16
        · rw [if_pos c, if_pos (by omega)]; rfl
        · rw [if_neg c, if_neg (by omega)]; exact a1 a ha
      · show upd (g3_diskStamps P) p 0 a = _
        unfold losF
        by_cases c : a = p
        · subst c; rw [pk_us, if_pos rfl]; rfl
        · rw [pk_un c, if_neg (by omega), if_neg (by omega)]; exact a2 a ha
      · rw [pk_us, ← a5]
      · rw [o _ (by omega)] at hn
        refine ⟨by rw [o _ (by omega)]; exact (a10 g hg hn).1, by rw [pk_un (by omega)]; exact (a10 g hg hn).2.1, fun k hk => by rw [o _ (by omega)]; exact (a10 g hg hn).2.2 k hk⟩
    | succ N ih =>
      intro i D hi hD
      refine pk_le 16 i (fun z => by omega) (fun _ => ?_)
      rw [show nI p * 16 + nI i = nI (p * 16 + i) by show nI p * nI 16 + _ = _; rw [pk_mul, nI_add], nI_clamp (by omega)]
      refine ⟨ivp (by omega) (by omega), fun P1 h1 y hy => ?_⟩
      rw [hy, nI_1, h1]
      refine ih (i + 1) (upd D (p * 16 + i) 0) (by omega) fun a => ?_
      by_cases c : a = p * 16 + i
      · subst c; rw [pk_us, if_pos (by omega)]
      · rw [pk_un c, hD a]
        by_cases d : p * 16 ≤ a ∧ a < p * 16 + i
        · rw [if_pos d, if_pos (by omega)]
        · rw [if_neg d, if_neg (by omega)]
  exact ⟨17, go 16 0 (g3_disk P) (by omega) fun a => by rw [if_neg (by omega)]⟩
theorem s_keep5 (h : SW w n) (x : Int32) : OpR zb w (s11_told m 0) n (wp_X9_losePage w x) (wp_X11_keep (mS m n pn) 5 x) := by
  obtain ⟨F, G, b, e, f, k, hC, hR, hI⟩ := h
  intro K q Q g
  have ref : K 0 w 0 (mS (s11_told m 0) n pn) := q 0 w n pn (Or.inl rfl) ⟨F, G, b, e, f, k, hC, hR, hI⟩ rfl rfl
  have hC0 := hC
  obtain ⟨cJ, cP, cR, cC, cS, cu, cm, co, cr, cc⟩ := hC
  obtain ⟨ib, iy, iF, iL, i5, -⟩ := id hI.1
  have h8 := iF.1.2
  refine w_up cu (fun c3 => g _ _ (by first | exact Or.inl rfl | exact Or.inr rfl) <| x_keep0 hR ib (Or.inl c3) ref) (fun c3 => ?_)
  have xk : ∀ {K2 : Int32 → S11 → Prop}, wp_X11_keepsPage (mS (s11_told m 0) n pn) (nI 5) x (fun r v2 => zb r ∧ K2 r v2) → wp_X11_keep (mS m n pn) 5 x K2 := fun {K2} qq => x_keepU (j := 5) hR c3 (by omega) (by unfold wpK; rw [if_neg (by omega), if_neg (by omega), if_neg (by omega)]; exact qq)
  refine w_page (fun p hp hx => ⟨fun z => absurd z (by decide), fun _ => ?_⟩) (fun hz => ⟨fun _ => g _ _ (by first | exact Or.inl rfl | exact Or.inr rfl) <| xk (x_isIn0 hz ⟨fun _ => ⟨Or.inl rfl, ref⟩, fun y => absurd rfl y⟩), fun z => absurd rfl z⟩)
  subst hx
  have xk2 : ∀ {K2 : Int32 → S11 → Prop}, wp_X11_canLose (mS (s11_told m 0) n pn) (nI p) (fun r => wp_X11_keepsPage_92 (fun r v2 => zb r ∧ K2 r v2) (nI 5) (nI p) r (mS (s11_told m 0) n pn)) → wp_X11_keep (mS m n pn) 5 (nI p) K2 := fun {K2} qq => xk (x_kp hR h8 ib hp (Or.inr (Or.inl rfl)) ⟨fun z => by omega, fun _ => qq, fun z => by omega⟩)
  have no : wp_X11_keepsPage_92 (fun r v2 => zb r ∧ K 0 w r v2) (nI 5) (nI p) 0 (mS (s11_told m 0) n pn) := ⟨fun _ => ⟨Or.inl rfl, ref⟩, fun z => absurd rfl z⟩
  refine w_isLost cP (fun cl => ⟨fun z => absurd z (by decide), fun _ => g _ _ (by first | exact Or.inl rfl | exact Or.inr rfl) <| xk2 (x_isLostPage hR (fun _ => ⟨fun z => absurd z (by decide), fun _ => no⟩) (fun z => absurd cl z))⟩) (fun cl => ⟨fun _ => ?_, fun z => absurd rfl z⟩)
  refine w_frameOf cP h8 hp ib ?_
  rcases foI_cases F p h8 with ⟨e1, c1⟩ | ⟨e1, c1⟩
  · rw [e1]
    have xk3 : ∀ {K2 : Int32 → S11 → Prop}, (∃ N, wp_X11_canLose_24 (mS (s11_told m 0) n pn) (fun r => wp_X11_keepsPage_92 (fun r v2 => zb r ∧ K2 r v2) (nI 5) (nI p) r (mS (s11_told m 0) n pn)) N (nI p) (nI (16 * p))) → wp_X11_keep (mS m n pn) 5 (nI p) K2 := by
      intro K2 qq
      refine xk2 (x_isLostPage hR (fun z => absurd z cl) (fun _ => ⟨fun _ => x_frameOf hR h8 hp ib ?_, fun z => absurd rfl z⟩))
      rw [e1]
      refine ⟨fun _ y hy => ?_, fun z => absurd rfl z⟩
      rw [hy, show (16 : Int32) * nI p = nI (16 * p) from pk_mul 16 p]
      exact qq
    refine ⟨fun z => absurd z (by decide), fun _ => w_anyIn hp cC (fun ⟨a, g1, g2, g3⟩ => ⟨fun z => absurd z (by decide), fun _ => ?_⟩) (fun hz => ⟨fun _ => ?_, fun z => absurd rfl z⟩)⟩
    · exact g _ _ (by first | exact Or.inl rfl | exact Or.inr rfl) <| xk3 ⟨17, x_anyIn hp hR (fun _ => no) (fun hz => absurd (hz a g1 g2) g3) 16 (16 * p) (by omega) (by omega) fun a' h1 h2 => by omega⟩
    · refine w_lose cP hp fun P2 hP2 w2 hw2 => g _ _ (by first | exact Or.inl rfl | exact Or.inr rfl) <| xk3 ⟨17, x_anyIn hp hR (fun ⟨a, g1, g2, g3⟩ => absurd (hz a g1 g2) g3) (fun _ => ?_) 16 (16 * p) (by omega) (by omega) fun a' h1 h2 => by omega⟩
      refine ⟨fun z => absurd z (by decide), fun _ => ⟨fun z => absurd z (by decide), fun _ => ⟨fun _ => x_loses hR hp fun n2 r2 => ⟨fun z => absurd z (by decide), fun _ => ⟨Or.inr rfl, ?_⟩⟩, fun z => absurd rfl z⟩⟩⟩
      rw [hw2]
      have ho : ∀ j, j < 16 ∨ 560 ≤ j → losF F p j = F j := fun j hj => by unfold losF; rw [if_neg (by omega), if_neg (by omega)]
      refine q 1 _ n2 pn (Or.inr rfl) ⟨losF F p, _, b, e, f, k, CW_disk hC0 ho (fun j hj => pk_un hj) hP2 cJ, r2, IV_disk hI c3 ho (fun i => ?_) (fun j j1 j2 => ?_) (fun j j1 j2 => ?_) (Nat.le_refl _) i5.2⟩ rfl (sw_7 hR r2 (ho 7 (by omega)))
      · unfold losF
        split
        · omega
        · split
          · omega
          · exact ib _
      · unfold losF
        rw [if_neg (by omega)]
        split
        · omega
        · exact iy.1 j j1 j2
      · unfold losF
        rw [if_neg (by omega), if_neg (by omega)]; exact iy.2.1 j j1 j2
  · rw [e1]
    refine ⟨fun _ => g _ _ (by first | exact Or.inl rfl | exact Or.inr rfl) <| xk2 (x_isLostPage hR (fun z => absurd z cl) (fun _ => ⟨fun _ => x_frameOf hR h8 hp ib ?_, fun z => absurd rfl z⟩)), fun z => absurd (nI_pos' (by omega)) z⟩
    rw [e1]
    exact ⟨fun z => absurd z (nI_m1 (by omega)), fun _ => no⟩
/-- a page restored: the archive's copy, then the records of the log -/
def rs0 (F : Nat → Nat) (p : Nat) : Nat → Nat := fun k => if k = 272 + p then F (544 + p) else if 16 + 16 * p ≤ k ∧ k < 32 + 16 * p then F (288 + 16 * p + (k - (16 + 16 * p))) else F k
def rs1 (b : Nat → Nat) (p s : Nat) (F : Nat → Nat) : Nat → Nat := if tch b s = true ∧ b (s + 5) / 16 = p ∧ F (272 + p) < s then updN (updN F (16 + b (s + 5)) (dnb b s (F (16 + b (s + 5))))) (272 + p) s else F
def rsL (b : Nat → Nat) (p : Nat) : Nat → Nat → (Nat → Nat) → Nat → Nat
  | 0, _, F => F
  | N + 1, j, F => rsL b p N (j + 1) (rs1 b p (wlk b j) F)
def resF (b : Nat → Nat) (k p : Nat) (F : Nat → Nat) : Nat → Nat := rsL b p k 0 (rs0 F p)
def resG (G : Nat → Int32) (p : Nat) : Nat → Int32 := upd G 10 (G 10 &&& mskI p)
theorem rs1_ok {p s : Nat} (hp : p < 16) (hs : s < 65536) (h5 : ∀ i, b i < 256) (hb : ∀ i, F i < 65536) (hy : byA F) : (∀ i, rs1 b p s F i < 65536) ∧ byA (rs1 b p s F) ∧ ∀ j, j < 16 ∨ 288 ≤ j → rs1 b p s F j = F j := by
  have b5 := h5 (s + 5)
  have hd := dnb_lt h5 s (hy.1 (16 + b (s + 5)) (by omega) (by omega))
  unfold rs1
  split
  · refine ⟨updN_b (updN_b hb (by omega)) hs, ⟨fun j j1 j2 => ?_, fun j j1 j2 => ?_, fun g j j1 j2 => ?_, fun j j1 j2 => ?_⟩, fun j hj => ?_⟩
    · rw [uNn (by omega)]
      unfold updN
      split
      · exact hd
      · exact hy.1 j j1 j2
    · rw [uNn (by omega), uNn (by omega)]; exact hy.2.1 j j1 j2
    · rw [uNn (by omega), uNn (by omega)]; exact hy.2.2.1 g j j1 j2
    · rw [uNn (by omega), uNn (by omega)]; exact hy.2.2.2 j j1 j2
    · rw [uNn (by omega), uNn (by omega)]
  · exact ⟨hb, hy, fun _ _ => rfl⟩
theorem rsL_ok {p : Nat} (hp : p < 16) (h5 : ∀ i, b i < 256) (hk : wlk b k < 65536) : ∀ N j F, N + j = k → (∀ i, F i < 65536) → byA F → (∀ i, rsL b p N j F i < 65536) ∧ byA (rsL b p N j F) ∧ ∀ i, i < 16 ∨ 288 ≤ i → rsL b p N j F i = F i := by
  intro N
  induction N with
  | zero => intro j F _ hb hy; exact ⟨hb, hy, fun _ _ => rfl⟩
  | succ N ih =>
    intro j F hj hb hy
    have hw := wlk_mono (b := b) (show j ≤ k by omega)
    obtain ⟨r1, r2, r3⟩ := rs1_ok (s := wlk b j) hp (by omega) h5 hb hy
    obtain ⟨s1, s2, s3⟩ := ih (j + 1) (rs1 b p (wlk b j) F) (by omega) r1 r2
    exact ⟨s1, s2, fun i hi => (s3 i hi).trans (r3 i hi)⟩
theorem resF_ok {p : Nat} (hp : p < 16) (h5 : ∀ i, b i < 256) (hk : wlk b k < 65536) (hb : ∀ i, F i < 65536) (hy : byA F) : (∀ i, resF b k p F i < 65536) ∧ byA (resF b k p F) ∧ ∀ i, i < 16 ∨ 288 ≤ i → resF b k p F i = F i := by
  have o : ∀ i, i < 16 ∨ 288 ≤ i → rs0 F p i = F i := fun i hi => by unfold rs0; rw [if_neg (by omega), if_neg (by omega)]
  obtain ⟨s1, s2, s3⟩ := rsL_ok (k := k) hp h5 hk k 0 (rs0 F p) (by omega) (fun i => by
    unfold rs0
    split
    · exact hb _
    · split
      · exact hb _
      · exact hb _) ⟨fun j j1 j2 => by
        unfold rs0
        rw [if_neg (by omega)]
        split
        · exact hy.2.1 _ (by omega) (by omega)
        · exact hy.1 j j1 j2, fun j j1 j2 => by rw [o _ (by omega)]; exact hy.2.1 j j1 j2, fun g j j1 j2 => by rw [o _ (by omega)]; exact hy.2.2.1 g j j1 j2, fun j j1 j2 => by rw [o _ (by omega)]; exact hy.2.2.2 j j1 j2⟩
  exact ⟨s1, s2, fun i hi => (s3 i hi).trans (o i hi)⟩
end
