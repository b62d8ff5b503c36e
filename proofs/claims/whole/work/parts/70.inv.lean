/-! ===== what holds between calls ===== -/
section
variable {F F2 : Nat → Nat} {G : Nat → Int32} {b b2 : Nat → Nat} {e f k : Nat}
/-- i steps along the chain -/
def nit (b : Nat → Nat) : Nat → Nat → Nat
  | 0, l => l
  | i + 1, l => if l = 0 then 0 else nit b i (vnx (rv b l))
def onC (b : Nat → Nat) (l x : Nat) : Prop := ∃ i, nit b i l = x
theorem onC_r (l : Nat) : onC b l l := ⟨0, rfl⟩
theorem onC_s {l x : Nat} (hl : l ≠ 0) (h : onC b (vnx (rv b l)) x) : onC b l x := by
  obtain ⟨i, hi⟩ := h
  refine ⟨i + 1, ?_⟩
  show (if _ then _ else _) = _
  rw [if_neg hl]; exact hi
theorem onC_i {l x : Nat} (h : onC b l x) (hn : l ≠ x) : l ≠ 0 ∧ onC b (vnx (rv b l)) x := by
  obtain ⟨i, hi⟩ := h
  cases i with
  | zero => exact absurd hi hn
  | succ i =>
    have hi : (if l = 0 then 0 else nit b i (vnx (rv b l))) = x := hi
    by_cases c : l = 0
    · rw [if_pos c] at hi; exact absurd (by omega) hn
    · rw [if_neg c] at hi; exact ⟨c, i, hi⟩
theorem nit_agr (h : LogOK b e k) (ha : ∀ i, i < wlk b k → b2 i = b i) : ∀ i l, Sz b k l → nit b2 i l = nit b i l := by
  intro i
  induction i with
  | zero => intro l _; rfl
  | succ i ih =>
    intro l hl
    show (if _ then _ else _) = if _ then _ else _
    rcases hl with rfl | ⟨j, hj, rfl⟩
    · rw [if_pos rfl, if_pos rfl]
    · have h8 := wlk_8 (b := b) j
      rw [if_neg (by omega), if_neg (by omega), rvw_agr ha hj, ih _ (Sz_mono (by omega) (nx_Sz h hj))]
theorem onC_agr (h : LogOK b e k) (ha : ∀ i, i < wlk b k → b2 i = b i) {l x : Nat} (hl : Sz b k l) (hx : onC b l x) : onC b2 l x := by
  obtain ⟨i, hi⟩ := hx
  exact ⟨i, by rw [nit_agr h ha i l hl]; exact hi⟩
theorem onC_ok (h : LogOK b e k) : ∀ i l, Sz b k l → Sz b k (nit b i l) ∧ nit b i l ≤ l ∧ ch b (nit b i l) ≤ ch b l := by
  intro i
  induction i with
  | zero => intro l hl; exact ⟨hl, Nat.le_refl _, Nat.le_refl _⟩
  | succ i ih =>
    intro l hl
    show Sz b k (if _ then _ else _) ∧ (if _ then _ else _) ≤ l ∧ ch b (if _ then _ else _) ≤ ch b l
    rcases hl with rfl | ⟨j, hj, rfl⟩
    · rw [if_pos rfl]; exact ⟨Or.inl rfl, Nat.le_refl _, Nat.le_refl _⟩
    · have h8 := wlk_8 (b := b) j
      have hn := nx_Sz h hj
      have hl := Sz_lt hn
      rw [if_neg (by omega)]
      obtain ⟨i1, i2, i3⟩ := ih _ (Sz_mono (show j ≤ k by omega) hn)
      refine ⟨i1, by omega, ?_⟩
      rw [ch_S h hj]; omega
theorem onC_le (h : LogOK b e k) {l x : Nat} (hl : Sz b k l) (hx : onC b l x) : Sz b k x ∧ x ≤ l ∧ ch b x ≤ ch b l := by
  obtain ⟨i, rfl⟩ := hx
  exact onC_ok h i l hl
/-- two places of one chain: the lesser lies on the chain of the greater -/
theorem onC_two (h : LogOK b e k) : ∀ N l x y, l ≤ N → Sz b k l → onC b l x → onC b l y → x ≤ y → onC b y x := by
  intro N
  induction N with
  | zero =>
    intro l x y hN hl hx hy hxy
    obtain rfl : l = 0 := by omega
    have := (onC_le h hl hy).2.1
    have := (onC_le h hl hx).2.1
    obtain rfl : y = 0 := by omega
    exact hx
  | succ N ih =>
    intro l x y hN hl hx hy hxy
    by_cases cy : l = y
    · rw [← cy]; exact hx
    · by_cases cx : l = x
      · have := (onC_le h hl hy).2.1
        omega
      · obtain ⟨h0, hx2⟩ := onC_i hx cx
        obtain ⟨-, hy2⟩ := onC_i hy cy
        rcases hl with z | ⟨j, hj, rfl⟩
        · exact absurd z h0
        · have hn := nx_Sz h hj
          have hlt := Sz_lt hn
          exact ih _ x y (by omega) (Sz_mono (by omega) hn) hx2 hy2 hxy
/-- of a transaction, UP: as the log tells it; THE CURSOR; TOPS (those up to lim) lie on its chain -/
def UT (F : Nat → Nat) (b : Nat → Nat) (k lim t : Nat) : Prop :=
  F (702 + 18 * t) = (rp b k t).1 ∧ F (703 + 18 * t) = (rp b k t).2 ∧ F (702 + 18 * t) ≤ 2 ∧ F (705 + 18 * t) ≤ 8 ∧ F (706 + 18 * t) ≤ 4 ∧ (F (702 + 18 * t) ≠ 1 → F (706 + 18 * t) = 0) ∧
  (F (702 + 18 * t) = 2 → Sz b k (F (704 + 18 * t)) ∧ ch b (F (704 + 18 * t)) ≤ ch b (F (703 + 18 * t))) ∧
  (∀ i, i < F (706 + 18 * t) → F (715 + 18 * t + i) ≤ lim → onC b (F (703 + 18 * t)) (F (715 + 18 * t + i))) ∧ ∀ i j, i ≤ j → j < F (706 + 18 * t) → F (715 + 18 * t + i) ≤ F (715 + 18 * t + j)
theorem UT_keep {lim t k2 : Nat} (h : LogOK b e k) (ha : ∀ i, i < wlk b k → b2 i = b i) (hk : k ≤ k2) (hrp : rp b2 k2 t = rp b k t) (hF : ∀ j, 702 + 18 * t ≤ j → j < 720 + 18 * t → F2 j = F j) (hu : UT F b k lim t) : UT F2 b2 k2 lim t := by
  obtain ⟨u1, u2, u3, u4, u5, u6, u7, u8, u9⟩ := hu
  have hS : ∀ s, Sz b k s → Sz b2 k2 s := fun s hs => Sz_mono hk (hs.imp id (St_agr ha (Nat.le_refl _)).mpr)
  have hlast : Sz b k (F (703 + 18 * t)) := by rw [u2]; exact (rp_Sz k t).1
  unfold UT
  rw [hrp, hF _ (by omega) (by omega), hF (703 + 18 * t) (by omega) (by omega), hF (704 + 18 * t) (by omega) (by omega), hF (705 + 18 * t) (by omega) (by omega), hF (706 + 18 * t) (by omega) (by omega)]
  refine ⟨u1, u2, u3, u4, u5, u6, fun z => ?_, fun i hi hm => ?_, fun i j h1 h2 => ?_⟩
  · obtain ⟨c1, c2⟩ := u7 z
    exact ⟨hS _ c1, by rw [ch_agr h ha c1, ch_agr h ha hlast]; exact c2⟩
  · rw [hF _ (by omega) (by omega)] at hm ⊢
    exact onC_agr h ha hlast (u8 i hi hm)
  · rw [hF _ (by omega) (by omega), hF _ (by omega) (by omega)]; exact u9 i j h1 h2
def IB (F : Nat → Nat) (b : Nat → Nat) (e f k : Nat) : Prop :=
  (∀ i, F i < 65536) ∧ byA F ∧ IFr F (St b k) ∧ LogOK b e k ∧ (8 ≤ f ∧ f ≤ e) ∧
  (F 2 = 0 ∨ ∃ jm je, jm < je ∧ je < k ∧ wlk b jm = F 2 ∧ b (wlk b je) = 10 ∧ wlk b (je + 1) ≤ f) ∧ (F 4 = 0 ∨ St b k (F 4)) ∧
  ((∃ j, j ≤ k ∧ wlk b j = F 12 + 8) ∧ F 12 ≤ F 11 ∧ F 11 + 8 ≤ f)
def UPl (F : Nat → Nat) (b : Nat → Nat) (e k : Nat) (lim : Nat → Nat) : Prop := F 3 = 0 ∧ wlk b k = e ∧ ∀ t, 1 ≤ t → t ≤ 9 → UT F b k (lim t) t
def DN (F : Nat → Nat) (G : Nat → Int32) (e f : Nat) : Prop := F 3 = 1 ∧ e = f ∧ (∀ k, 560 ≤ k → k < 882 → F k = 0) ∧ (∀ k, 882 ≤ k → k < 1404 → k ≠ 1394 → G k = 0) ∧ F 4 = 0
def IV (F : Nat → Nat) (G : Nat → Int32) (b : Nat → Nat) (e f k : Nat) : Prop := IB F b e f k ∧ (UPl F b e k (fun _ => 65536) ∨ DN F G e f)
def CW (w : S9) (F : Nat → Nat) (G : Nat → Int32) (b : Nat → Nat) (e f : Nat) : Prop := isJ (g9_journal w) b e f ∧ RP (g9_pages w) F G ∧ RO (g9_roster w) F ∧ RC (g9_claims w) F G ∧ RS (g9_standby w) F ∧ g9_up w = (if F 3 = 0 then 1 else 0) ∧ g9_master w = nI (F 2) ∧ g9_openCheck w = nI (F 4) ∧ g9_redone w = G 8 ∧ g9_crashes w = G 9
theorem St_in (h : LogOK b e k) {s : Nat} (hs : St b k s) : 0 < s ∧ s + 1 < e ∧ s + b (s + 1) ≤ e := by
  obtain ⟨j, hj, rfl⟩ := hs
  obtain ⟨h6, h68, h3, h4, hv⟩ := rec_rd h hj
  have := wlk_8 (b := b) j
  exact ⟨by omega, by omega, h4⟩
theorem IFr_c {Sp Sp2 : Nat → Prop} (h : IFr F Sp) (h5 : F2 5 = F 5) (hF : ∀ k, 560 ≤ k → k < 720 → F2 k = F k) (hS : ∀ s, Sp s → Sp2 s) : IFr F2 Sp2 := by
  obtain ⟨a1, a2, a3, a4⟩ := h
  refine ⟨by rw [h5]; exact a1, fun g hg => ?_, fun g hg => ?_, fun g h hg hh => ?_⟩
  · rw [h5, hF _ (by omega) (by omega)]; exact a2 g hg
  · rw [hF _ (by omega) (by omega), hF _ (by omega) (by omega), hF _ (by omega) (by omega)]
    exact fun z => ⟨(a3 g hg z).1, hS _ (a3 g hg z).2.1, hS _ (a3 g hg z).2.2⟩
  · rw [hF _ (by omega) (by omega), hF _ (by omega) (by omega)]; exact a4 g h hg hh
theorem St_app {r : List Nat} (he : wlk b k = e) {s : Nat} (h : St b k s) : St (appB b e r) (k + 1) s := St_mono (by omega) ((St_agr (appB_agr he) (Nat.le_refl _)).mpr h)
theorem St_new {r : List Nat} (he : wlk b k = e) : St (appB b e r) (k + 1) e := ⟨k, by omega, by rw [wlk_agr (appB_agr he) k (Nat.le_refl _)]; exact he⟩
theorem IB_app {f2 : Nat} (h : IB F b e f k) (he : wlk b k = e) {r : List Nat} (hl : r.getD 1 0 = r.length) (h6 : 6 ≤ r.length) (hr : Leg (rp b k) (St b k) (ch b) (fun i => r.getD i 0)) (hfull : e ≤ 3500 ∨ r.getD 0 0 = 4 ∨ r.getD 0 0 = 6 ∨ r.getD 0 0 = 7)
    (h2 : F2 2 = F 2) (h4 : F2 4 = F 4) (h11 : F2 11 = F 11) (h12 : F2 12 = F 12) (hb : ∀ i, F2 i < 65536) (hy : byA F2) (hI : IFr F2 (St (appB b e r) (k + 1))) (hf : f ≤ f2) (hf2 : f2 ≤ e + r.length) : IB F2 (appB b e r) (e + r.length) f2 (k + 1) := by
  obtain ⟨a1, a2, a3, a4, a5, a6, a7, a8, a9, a10⟩ := h
  have ha := appB_agr (r := r) he
  have hw := wlk_agr ha
  refine ⟨hb, hy, hI, (LogOK_app a4 he hl h6 hr hfull).1, ⟨by omega, hf2⟩, ?_, ?_, ?_, by rw [h11, h12]; exact a9, by rw [h11]; omega⟩
  · rw [h2]
    rcases a6 with z | ⟨jm, je, j1, j2, j3, j4, j5⟩
    · exact Or.inl z
    · refine Or.inr ⟨jm, je, j1, by omega, by rw [hw jm (by omega)]; exact j3, ?_, by rw [hw (je + 1) (by omega)]; omega⟩
      rw [hw je (by omega), ha _ (wlk_lt j2)]; exact j4
  · rw [h4]
    exact a7.imp id (St_app he)
  · rw [h12]
    obtain ⟨j, j1, j2⟩ := a8
    exact ⟨j, by omega, by rw [hw j j1]; exact j2⟩
theorem IB_c {f2 : Nat} (h : IB F b e f k) (h2 : F2 2 = F 2) (h4 : F2 4 = F 4) (h11 : F2 11 = F 11) (h12 : F2 12 = F 12) (hb : ∀ i, F2 i < 65536) (hy : byA F2) (hI : IFr F2 (St b k)) (hf : f ≤ f2) (hf2 : f2 ≤ e) : IB F2 b e f2 k := by
  obtain ⟨a1, a2, a3, a4, a5, a6, a7, a8, a9, a10⟩ := h
  refine ⟨hb, hy, hI, a4, ⟨by omega, hf2⟩, ?_, by rw [h4]; exact a7, by rw [h12]; exact a8, by rw [h11, h12]; exact a9, by rw [h11]; omega⟩
  rw [h2]
  rcases a6 with z | ⟨jm, je, j1, j2, j3, j4, j5⟩
  · exact Or.inl z
  · exact Or.inr ⟨jm, je, j1, j2, j3, j4, by omega⟩
theorem lrn_ne {T : Nat → Nat × Nat} {s t : Nat} {v : Nat → Nat} (h : t ≠ v 2) : lrn T s v t = T t := by unfold lrn; rw [if_pos (Or.inl h)]
end
