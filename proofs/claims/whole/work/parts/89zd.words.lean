/-! ===== the reader's words: wordNumber of the tape, wordAt of the reference ===== -/
section
variable {v : S11} {t : S8} {B : Nat → Int32} {p0 p1 w i : Nat}
def wS : Nat → Nat := fun w => [0, 6, 12, 16, 21, 26, 31, 37, 44, 50, 55, 61, 66, 72, 77].getD w 77
def wLn : Nat → Nat := fun w => [5, 5, 3, 4, 4, 4, 5, 6, 5, 4, 5, 4, 5, 4].getD w 0
theorem wF : ∀ w, w < 14 → (∀ i, i < wLn w → st_WORDS (wS w + i) ≠ 32) ∧ st_WORDS (wS w + wLn w) = 32 ∧ wS w + wLn w < 77 ∧ wS (w + 1) = wS w + wLn w + 1 := by decide
def okL (B : Nat → Int32) (p0 p1 w i : Nat) : Prop := p0 + i ≤ p1 ∧ ∀ j, j < i → B (p0 + j) = st_WORDS (wS w + j)
def Mt (B : Nat → Int32) (p0 p1 w : Nat) : Prop := p0 + wLn w = p1 ∧ ∀ j, j < wLn w → B (p0 + j) = st_WORDS (wS w + j)
theorem w_wl (hp : g8_place t = nI p1) (h0 : g8_tokenPlace t = nI p0) (h1 : p1 ≤ 400) (h2 : p0 ≤ p1) (hw : w < 14) {Q : Int32 → Prop} (q1 : Mt (g8_bytes t) p0 p1 w → Q (nI w)) (q0 : ¬ Mt (g8_bytes t) p0 p1 w → ∃ n, wp_X8_wordNumber_12 t Q n (nI (w + 1)) (nI p0) 1 (nI (wS (w + 1)))) : ∀ d i, i + d = wLn w → ∀ x3 : Int32, (x3 = 1 ∧ okL (g8_bytes t) p0 p1 w i ∨ x3 = 0 ∧ ¬ okL (g8_bytes t) p0 p1 w i) → ∃ n, wp_X8_wordNumber_12 t Q n (nI w) (nI (p0 + i)) x3 (nI (wS w + i)) := by
  obtain ⟨f1, f2, f3, f4⟩ := wF w hw
  intro d
  induction d with
  | zero =>
    intro i hi x3 hx
    have hi : i = wLn w := hi
    subst hi
    by_cases hm : Mt (g8_bytes t) p0 p1 w
    · refine ⟨1, pk_le 77 (wS w + wLn w) (fun z => by omega) (fun _ => ⟨ivp (by omega) (by omega), fun x5 h5 => ?_⟩)⟩
      rw [nI_clamp (by omega), f2] at h5
      refine ⟨fun _ => ⟨fun z => ?_, fun _ => ⟨fun _ => q1 hm, fun z => absurd (by rw [hp, hm.1]) z⟩⟩, fun z => absurd h5 z⟩
      rcases hx with ⟨hx, _⟩ | ⟨_, hx⟩
      · exact absurd (hx.symm.trans z) (by decide)
      · exact absurd ⟨by have := hm.1; omega, hm.2⟩ hx
    · obtain ⟨n, hn⟩ := q0 hm
      have nx : wp_X8_wordNumber_98 t (fun x1 x2 x3 x4 => wp_X8_wordNumber_108 t (fun x1 x2 x3 x4 => wp_X8_wordNumber_12 t Q n x1 x2 x3 x4) Q x1 x2 x3 x4) Q (nI w) (nI (wS w + wLn w)) := by
        intro a ha c hc d hd
        rw [ha, hc, hd, nI_1, nI_1, h0, ← f4]; exact hn
      refine ⟨n + 1, pk_le 77 (wS w + wLn w) (fun z => by omega) (fun _ => ⟨ivp (by omega) (by omega), fun x5 h5 => ?_⟩)⟩
      rw [nI_clamp (by omega), f2] at h5
      refine ⟨fun _ => ⟨fun _ => nx, fun z => ⟨fun y => ?_, fun _ => nx⟩⟩, fun z => absurd h5 z⟩
      rcases hx with ⟨_, hx⟩ | ⟨hx, _⟩
      · rw [hp] at y
        exact absurd ⟨(nI_eq (by omega) (by omega)).mp y, hx.2⟩ hm
      · exact absurd hx z
  | succ d ih =>
    intro i hi x3 hx
    have hi2 : i < wLn w := by omega
    have ok1 : okL (g8_bytes t) p0 p1 w (i + 1) ↔ okL (g8_bytes t) p0 p1 w i ∧ p0 + i < p1 ∧ g8_bytes t (p0 + i) = st_WORDS (wS w + i) := by
      constructor
      · intro y; exact ⟨⟨by have := y.1; omega, fun j hj => y.2 j (by omega)⟩, by have := y.1; omega, y.2 i (by omega)⟩
      · intro y; refine ⟨by omega, fun j hj => ?_⟩
        by_cases c : j = i
        · rw [c]; exact y.2.2
        · exact y.1.2 j (by omega)
    by_cases ho : okL (g8_bytes t) p0 p1 w (i + 1)
    · obtain ⟨n, hn⟩ := ih (i + 1) (by omega) 1 (Or.inl ⟨rfl, ho⟩)
      obtain ⟨o1, o2, o3⟩ := ok1.mp ho
      rcases hx with ⟨hx, _⟩ | ⟨_, hx⟩
      · subst hx
        refine ⟨n + 1, pk_le 77 (wS w + i) (fun z => by omega) (fun _ => ⟨ivp (by omega) (by omega), fun x5 h5 => ?_⟩)⟩
        rw [nI_clamp (by omega)] at h5
        refine ⟨fun z => absurd (h5.symm.trans z) (f1 i hi2), fun _ => ⟨fun z => absurd z (by decide), fun _ => ⟨fun z => absurd z (nI_pos (by omega)), fun _ => ?_⟩⟩⟩
        rw [hp]
        refine pk_le p1 (p0 + i) (fun z => by omega) (fun _ => pk_le 400 (p0 + i) (fun z => by omega) (fun _ => ⟨ivp (by omega) (by omega), fun _ => ?_, fun z => absurd ?_ z⟩))
        · intro a ha c hc
          rw [ha, hc, nI_1, nI_1]; exact hn
        · rw [nI_clamp (by omega), h5]; exact o3
      · exact absurd o1 hx
    · obtain ⟨n, hn⟩ := ih (i + 1) (by omega) 0 (Or.inr ⟨rfl, ho⟩)
      have nx : wp_X8_wordNumber_76 t (fun x1 x2 x4 y0 => wp_X8_wordNumber_77 t (fun x1 x2 x3 x4 => wp_X8_wordNumber_108 t (fun x1 x2 x3 x4 => wp_X8_wordNumber_12 t Q n x1 x2 x3 x4) Q x1 x2 x3 x4) Q x1 x2 x4 y0) Q (nI w) (nI (p0 + i)) (nI (wS w + i)) := by
        intro a ha c hc
        rw [ha, hc, nI_1, nI_1]; exact hn
      refine ⟨n + 1, pk_le 77 (wS w + i) (fun z => by omega) (fun _ => ⟨ivp (by omega) (by omega), fun x5 h5 => ?_⟩)⟩
      rw [nI_clamp (by omega)] at h5
      refine ⟨fun z => absurd (h5.symm.trans z) (f1 i hi2), fun _ => ⟨fun _ => nx, fun z => ⟨fun _ => nx, fun _ => ⟨fun _ => nx, fun c1 => ⟨fun _ => nx, fun c2 => ⟨?_, fun y => ?_, fun _ => nx⟩⟩⟩⟩⟩⟩
      · have : p0 + i < 400 := by
          rcases Nat.lt_or_ge (p0 + i) 400 with c | c
          · exact c
          · exact absurd (show nI 400 ≤ _ from nI_le c (by omega)) c2
        exact ivp this (by omega)
      · exfalso
        rw [hp] at c1
        have : ¬ p1 ≤ p0 + i := fun y => c1 (nI_le y (by omega))
        rw [nI_clamp (by omega), h5] at y
        rcases hx with ⟨_, hx⟩ | ⟨hx, _⟩
        · exact ho (ok1.mpr ⟨hx, by omega, y⟩)
        · exact z hx
theorem x_sp (hW : ∀ i, i < 77 → g11_words v (i + 1) = st_WORDS i) (hw : w < 14) {k : Int32 → Int32 → Int32 → Int32 → Prop} {Q : Int32 → Prop} {a c d : Int32} (q : k a c d (nI (wS (w + 1)))) : ∀ e i, i + e = wLn w → ∃ n, wp_X11_wordAt_93 v k Q n a c d (nI (wS w + i + 1)) := by
  obtain ⟨f1, f2, f3, f4⟩ := wF w hw
  intro e
  induction e with
  | zero =>
    intro i hi
    have hi : i = wLn w := hi
    subst hi
    refine ⟨1, ivp (by omega) (by omega), ?_⟩
    rw [nI_clamp (by omega), hW _ (by omega), f2]
    exact ⟨fun _ => by rw [← f4]; exact q, fun z => absurd rfl z⟩
  | succ e ih =>
    intro i hi
    obtain ⟨n, hn⟩ := ih (i + 1) (by omega)
    refine ⟨n + 1, ivp (by omega) (by omega), ?_⟩
    rw [nI_clamp (by omega), hW _ (by omega)]
    refine ⟨fun z => absurd z (f1 i (by omega)), fun _ y hy => ?_⟩
    rw [hy, nI_1]; exact hn
theorem x_wl (hW : ∀ i, i < 77 → g11_words v (i + 1) = st_WORDS i) (h1 : p1 ≤ 400) (hB : ∀ j, p0 ≤ j → j < p1 → g11_tape v j ≠ 32) (hw : w < 14) {k : Int32 → Int32 → Int32 → Int32 → Prop} {Q : Int32 → Prop} (q1 : Mt (g11_tape v) p0 p1 w → Q (nI w)) (q0 : ¬ Mt (g11_tape v) p0 p1 w → k (nI p0) (nI p1) (nI w) (nI (wS (w + 1)))) : ∀ d i, i + d = wLn w → okL (g11_tape v) p0 p1 w i → ∃ n, wp_X11_wordAt_19 v k Q n (nI p0) (nI p1) (nI w) (nI (wS w)) (nI i) := by
  obtain ⟨f1, f2, f3, f4⟩ := wF w hw
  have nx : ¬ Mt (g11_tape v) p0 p1 w → wp_X11_wordAt_87 v k Q (nI p0) (nI p1) (nI w) (nI (wS w)) := by
    intro hm x4 h4
    rw [h4, nI_1]
    exact x_sp hW hw (q0 hm) (wLn w) 0 (by omega)
  have ei : ∀ i, nI (wS w) + 1 + nI i = nI (wS w + i + 1) := fun i => by rw [nI_1, nI_add, show wS w + 1 + i = wS w + i + 1 by omega]
  -- the end of a comparing
  have s60 : ∀ i, i ≤ wLn w → okL (g11_tape v) p0 p1 w i → (i < wLn w → p0 + i < p1 → g11_tape v (p0 + i) ≠ st_WORDS (wS w + i)) → (i = wLn w → True) → wp_X11_wordAt_60 v k Q (nI p0) (nI p1) (nI w) (nI (wS w)) (nI i) := by
    intro i hi ho hn _
    unfold wp_X11_wordAt_60
    rw [nI_add, ei]
    have ho1 := ho.1
    refine pk_eq (p0 + i) p1 (fun c => ⟨ivp (by omega) (by omega), ?_⟩) (fun c => nx fun y => ?_)
    · rw [nI_clamp (by omega), hW _ (by omega)]
      by_cases c2 : i = wLn w
      · subst c2
        rw [f2]
        exact ⟨fun _ => q1 ⟨c, ho.2⟩, fun z => absurd rfl z⟩
      · exact ⟨fun z => absurd z (f1 i (by omega)), fun _ => nx fun y => by have := y.1; omega⟩
    · have y1 := y.1
      exact hn (by omega) (by omega) (y.2 i (by omega))
  intro d
  induction d with
  | zero =>
    intro i hi ho
    have hi : i = wLn w := hi
    subst hi
    refine ⟨1, ?_⟩
    show (_ ≤ _ → _) ∧ _
    rw [nI_add, ei]
    have ho1 := ho.1
    refine pk_le p1 (p0 + wLn w) (fun c => s60 _ (by omega) ho (fun y => by omega) (fun _ => trivial)) (fun c => ⟨ivp (by omega) (by omega), ivp (by omega) (by omega), ?_⟩)
    rw [nI_clamp (by omega), nI_clamp (by omega), hW _ (by omega), f2]
    exact ⟨fun z => absurd z.symm (hB _ (by omega) (by omega)), fun _ => s60 _ (by omega) ho (fun y => by omega) (fun _ => trivial)⟩
  | succ d ih =>
    intro i hi ho
    have ho1 := ho.1
    by_cases c : p0 + i < p1 ∧ g11_tape v (p0 + i) = st_WORDS (wS w + i)
    · obtain ⟨n, hn⟩ := ih (i + 1) (by omega) ⟨by omega, fun j hj => by
        by_cases c2 : j = i
        · rw [c2]; exact c.2
        · exact ho.2 j (by omega)⟩
      refine ⟨n + 1, ?_⟩
      show (_ ≤ _ → _) ∧ _
      rw [nI_add, ei]
      refine pk_le p1 (p0 + i) (fun c => by omega) (fun _ => ⟨ivp (by omega) (by omega), ivp (by omega) (by omega), ?_⟩)
      rw [nI_clamp (by omega), nI_clamp (by omega), hW _ (by omega)]
      refine ⟨fun _ y hy => by rw [hy, nI_1]; exact hn, fun z => absurd c.2.symm z⟩
    · have e60 := s60 i (by omega) ho (fun _ c1 c2 => c ⟨c1, c2⟩) (fun _ => trivial)
      refine ⟨1, ?_⟩
      show (_ ≤ _ → _) ∧ _
      rw [nI_add, ei]
      refine pk_le p1 (p0 + i) (fun _ => e60) (fun c1 => ⟨ivp (by omega) (by omega), ivp (by omega) (by omega), ?_⟩)
      rw [nI_clamp (by omega), nI_clamp (by omega), hW _ (by omega)]
      exact ⟨fun z => absurd ⟨by omega, z.symm⟩ c, fun _ => e60⟩
theorem word_n (hW : ∀ i, i < 77 → g11_words v (i + 1) = st_WORDS i) (hp : g8_place t = nI p1) (h0 : g8_tokenPlace t = nI p0) (h1 : p1 ≤ 400) (h2 : p0 ≤ p1) (hB : ∀ j, p0 ≤ j → j < p1 → g11_tape v j ≠ 32) (hE : ∀ j, j < p1 → g8_bytes t j = g11_tape v j) : ∃ r : Int32, (r = -1 ∨ ∃ w, w < 14 ∧ r = nI w) ∧ (∀ Q : Int32 → Prop, Q r → wp_X8_wordNumber t Q) ∧ ∀ Q : Int32 → Prop, Q r → wp_X11_wordAt v (nI p0) (nI p1) Q := by
  have hM : ∀ w, Mt (g8_bytes t) p0 p1 w ↔ Mt (g11_tape v) p0 p1 w := fun w => ⟨fun y => ⟨y.1, fun j hj => by rw [← hE _ (by have := y.1; omega)]; exact y.2 j hj⟩, fun y => ⟨y.1, fun j hj => by rw [hE _ (by have := y.1; omega)]; exact y.2 j hj⟩⟩
  have key : ∀ d w, w + d = 14 → ∃ r : Int32, (r = -1 ∨ ∃ w, w < 14 ∧ r = nI w) ∧ (∀ Q : Int32 → Prop, Q r → ∃ n, wp_X8_wordNumber_12 t Q n (nI w) (nI p0) 1 (nI (wS w))) ∧ ∀ (Q : Int32 → Prop) (x3 : Int32), x3 + 1 = nI w → Q r → ∃ n, wp_X11_wordAt_5 v Q n (nI p0) (nI p1) x3 (nI (wS w)) := by
    intro d
    induction d with
    | zero =>
      intro w hw
      have hw : w = 14 := hw
      subst hw
      exact ⟨-1, Or.inl rfl, fun Q q => ⟨1, fun _ => q, fun z => absurd (by decide) z⟩, fun Q x3 _ q => ⟨1, fun _ => q, fun z => absurd (by decide) z⟩⟩
    | succ d ih =>
      intro w hw
      have hw2 : w < 14 := by omega
      obtain ⟨f1, f2, f3, f4⟩ := wF w hw2
      by_cases hm : Mt (g8_bytes t) p0 p1 w
      · refine ⟨nI w, Or.inr ⟨w, hw2, rfl⟩, fun Q q => w_wl hp h0 h1 h2 hw2 (fun _ => q) (fun z => absurd hm z) (wLn w) 0 (by omega) 1 (Or.inl ⟨rfl, by omega, fun j hj => by omega⟩), fun Q x3 h3 q => ?_⟩
        obtain ⟨n, hn⟩ := x_wl (k := fun x1 x2 x3 x4 => wp_X11_wordAt_5 v Q 0 x1 x2 x3 x4) hW h1 hB hw2 (fun _ => q) (fun z => absurd ((hM w).mp hm) z) (wLn w) 0 (by omega) ⟨by omega, fun j hj => by omega⟩
        exact ⟨1, pk_le 77 (wS w) (fun z => by omega) (fun _ y hy => ⟨n, by rw [hy, h3]; exact hn⟩)⟩
      · obtain ⟨r, r1, r2, r3⟩ := ih (w + 1) (by omega)
        refine ⟨r, r1, fun Q q => w_wl hp h0 h1 h2 hw2 (fun z => absurd z hm) (fun _ => r2 Q q) (wLn w) 0 (by omega) 1 (Or.inl ⟨rfl, by omega, fun j hj => by omega⟩), fun Q x3 h3 q => ?_⟩
        obtain ⟨n, hn⟩ := r3 Q (nI w) (nI_1 w) q
        obtain ⟨n2, hn2⟩ := x_wl (k := fun x1 x2 x3 x4 => wp_X11_wordAt_5 v Q n x1 x2 x3 x4) hW h1 hB hw2 (fun z => absurd ((hM w).mpr z) hm) (fun _ => hn) (wLn w) 0 (by omega) ⟨by omega, fun j hj => by omega⟩
        exact ⟨n + 1, pk_le 77 (wS w) (fun z => by omega) (fun _ y hy => ⟨n2, by rw [hy, h3]; exact hn2⟩)⟩
  obtain ⟨r, r1, r2, r3⟩ := key 14 0 rfl
  refine ⟨r, r1, fun Q q x hx => ?_, fun Q q x hx => ?_⟩
  · rw [hx, h0]; exact r2 Q q
  · exact r3 Q x (by rw [hx]; decide) q
end
