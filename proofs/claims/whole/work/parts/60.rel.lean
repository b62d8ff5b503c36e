/-! ===== the reference's row as numbers (F), as sets and counters (G), and its log; the class's parts against them ===== -/
def updN (F : Nat → Nat) (k x : Nat) : Nat → Nat := fun j => if j = k then x else F j
theorem uNs {F : Nat → Nat} {k x : Nat} : updN F k x k = x := by unfold updN; rw [if_pos rfl]
theorem uNn {F : Nat → Nat} {k x j : Nat} (h : j ≠ k) : updN F k x j = F j := by unfold updN; rw [if_neg h]
def nk (k : Nat) : Prop := (2 ≤ k ∧ k ≤ 4) ∨ k = 7 ∨ k = 11 ∨ k = 12 ∨ (16 ≤ k ∧ k < 560) ∨ (560 ≤ k ∧ k < 720 ∧ (k - 560) % 20 ≠ 3) ∨ (720 ≤ k ∧ k < 882) ∨ (1404 ≤ k ∧ k < 1676)
def gk (k : Nat) : Prop := k = 6 ∨ k = 8 ∨ k = 9 ∨ k = 10 ∨ (560 ≤ k ∧ k < 720 ∧ (k - 560) % 20 = 3) ∨ (882 ≤ k ∧ k < 1404)
theorem nk_fr {f j : Nat} (hf : f < 8) (hj : j < 20) (h3 : j ≠ 3) : nk (560 + 20 * f + j) := by unfold nk; omega
theorem gk_fr {f : Nat} (hf : f < 8) : gk (563 + 20 * f) := by unfold gk; omega
def isR (n : Nat → Int32) (F : Nat → Nat) (G : Nat → Int32) (b : Nat → Nat) (e f : Nat) : Prop := isM n b e f ∧ (∀ k, nk k → n k = nI (F k)) ∧ (∀ k, gk k → n k = G k) ∧ n 5 = nI (F 5) - 4 ∧ ∀ k, 882 ≤ k → k < 1394 → G k &&& (-1023) = 0
theorem isR_wr {n : Nat → Int32} {F : Nat → Nat} {G : Nat → Int32} {b : Nat → Nat} {e f k x : Nat} (h : isR n F G b e f) (hk : nk k) : isR (upd n k (nI x)) (updN F k x) G b e f := by
  obtain ⟨⟨a0, a1, a2, a3, a4, a5, a6, a7, a8⟩, h2, h3, h4, h5⟩ := h
  have hk2 := hk
  unfold nk at hk2
  refine ⟨⟨?_, ?_, a2, a3, a4, a5, fun i hi => ?_, a7, a8⟩, fun j hj => ?_, fun j hj => ?_, ?_, h5⟩
  · rw [pk_un (by omega)]; exact a0
  · rw [pk_un (by omega)]; exact a1
  · rw [pk_un (by omega)]; exact a6 i hi
  · by_cases c : j = k
    · subst c; rw [pk_us, uNs]
    · rw [pk_un c, uNn c]; exact h2 j hj
  · rw [pk_un (by unfold gk at hj; omega)]; exact h3 j hj
  · rw [pk_un (by omega), uNn (by omega)]; exact h4
theorem isR_wg {n : Nat → Int32} {F : Nat → Nat} {G : Nat → Int32} {b : Nat → Nat} {e f k : Nat} {x : Int32} (h : isR n F G b e f) (hk : gk k) (hx : 882 ≤ k → k < 1394 → x &&& (-1023) = 0 := by intro h1 h2; omega) : isR (upd n k x) F (upd G k x) b e f := by
  obtain ⟨⟨a0, a1, a2, a3, a4, a5, a6, a7, a8⟩, h2, h3, h4, h5⟩ := h
  have hk2 := hk
  unfold gk at hk2
  refine ⟨⟨?_, ?_, a2, a3, a4, a5, fun i hi => ?_, a7, a8⟩, fun j hj => ?_, fun j hj => ?_, ?_, fun j j1 j2 => ?_⟩
  · rw [pk_un (by omega)]; exact a0
  · rw [pk_un (by omega)]; exact a1
  · rw [pk_un (by omega)]; exact a6 i hi
  · rw [pk_un (by unfold nk at hj; omega)]; exact h2 j hj
  · by_cases c : j = k
    · subst c; rw [pk_us, pk_us]
    · rw [pk_un c, pk_un c]; exact h3 j hj
  · rw [pk_un (by omega)]; exact h4
  · by_cases c : j = k
    · subst c; rw [pk_us]; exact hx j1 j2
    · rw [pk_un c]; exact h5 j j1 j2
theorem isR_F {n : Nat → Int32} {F F2 : Nat → Nat} {G : Nat → Int32} {b : Nat → Nat} {e f : Nat} (h : isR n F G b e f) (hF : ∀ k, F2 k = F k) : isR n F2 G b e f := by
  rw [show F2 = F from funext hF]; exact h
theorem isR_G {n : Nat → Int32} {F : Nat → Nat} {G G2 : Nat → Int32} {b : Nat → Nat} {e f : Nat} (h : isR n F G b e f) (hG : ∀ k, gk k → G2 k = G k) : isR n F G2 b e f := ⟨h.1, h.2.1, fun k hk => by rw [hG k hk]; exact h.2.2.1 k hk, h.2.2.2.1, fun k k1 k2 => by rw [hG k (by unfold gk; omega)]; exact h.2.2.2.2 k k1 k2⟩
/-- STORE: the class's pages against the row -/
def RP (P : S3) (F : Nat → Nat) (G : Nat → Int32) : Prop :=
  (∀ a, a < 256 → g3_disk P a = nI (F (16 + a))) ∧ (∀ p, p < 16 → g3_diskStamps P p = nI (F (272 + p))) ∧
  (∀ a, a < 256 → g3_archive P a = nI (F (288 + a))) ∧ (∀ p, p < 16 → g3_archiveStamps P p = nI (F (544 + p))) ∧
  g3_lost P = G 10 ∧ g3_frameCount P = nI (F 5) ∧ g3_clock P = G 6 ∧
  (∀ f, f < 8 → g3_held P f = nI (F (560 + 20 * f)) - 1) ∧ (∀ f, f < 8 → g3_recs P f = nI (F (562 + 20 * f))) ∧
  (∀ f, f < 8 → F (560 + 20 * f) ≠ 0 → g3_stamps P f = nI (F (561 + 20 * f)) ∧ g3_uses P f = G (563 + 20 * f) ∧ ∀ k, k < 16 → g3_copies P (16 * f + k) = nI (F (564 + 20 * f + k)))
/-- the roster -/
def RO (R : S5) (F : Nat → Nat) : Prop := ∀ t, 1 ≤ t → t ≤ 9 → g5_is R t = nI (F (702 + 18 * t)) ∧ g5_last R t = nI (F (703 + 18 * t)) ∧ g5_cursor R t = nI (F (704 + 18 * t))
/-- claims -/
def RC (C : S0) (F : Nat → Nat) (G : Nat → Int32) : Prop :=
  (∀ a, a < 256 → g0_wrote C a = G (882 + a)) ∧ (∀ a, a < 256 → g0_added C a = G (1138 + a)) ∧
  ∀ t, 1 ≤ t → t ≤ 9 → g0_waits C t = G (1394 + t) ∧ g0_saveCount C t = nI (F (705 + 18 * t)) ∧ g0_topCount C t = nI (F (706 + 18 * t)) ∧
    (∀ k, k < F (705 + 18 * t) → k < 8 → g0_saves C (8 * t + k) = nI (F (707 + 18 * t + k))) ∧ ∀ k, k < F (706 + 18 * t) → k < 4 → g0_tops C (4 * t + k) = nI (F (715 + 18 * t + k))
/-- the standby -/
def RS (S : S7) (F : Nat → Nat) : Prop := (∀ a, a < 256 → g7_row S a = nI (F (1404 + a))) ∧ (∀ p, p < 16 → g7_stamps S p = nI (F (1660 + p))) ∧ g7_received S = nI (F 11 + 8) ∧ g7_done S = nI (F 12 + 8)
theorem RP_c {P : S3} {F F2 : Nat → Nat} {G G2 : Nat → Int32} (h : RP P F G) (hF : ∀ k, k = 5 ∨ (16 ≤ k ∧ k < 720) → F2 k = F k) (hG : ∀ k, k = 6 ∨ k = 10 ∨ (560 ≤ k ∧ k < 720) → G2 k = G k) : RP P F2 G2 := by
  obtain ⟨a1, a2, a3, a4, a5, a6, a7, a8, a9, a10⟩ := h
  refine ⟨fun a ha => ?_, fun a ha => ?_, fun a ha => ?_, fun a ha => ?_, ?_, ?_, ?_, fun f hf => ?_, fun f hf => ?_, fun f hf hn => ?_⟩
  · rw [hF _ (by omega)]; exact a1 a ha
  · rw [hF _ (by omega)]; exact a2 a ha
  · rw [hF _ (by omega)]; exact a3 a ha
  · rw [hF _ (by omega)]; exact a4 a ha
  · rw [hG _ (by omega)]; exact a5
  · rw [hF _ (by omega)]; exact a6
  · rw [hG _ (by omega)]; exact a7
  · rw [hF _ (by omega)]; exact a8 f hf
  · rw [hF _ (by omega)]; exact a9 f hf
  · rw [hF _ (by omega)] at hn
    rw [hF _ (by omega), hG _ (by omega)]
    refine ⟨(a10 f hf hn).1, (a10 f hf hn).2.1, fun k hk => ?_⟩
    rw [hF _ (by omega)]; exact (a10 f hf hn).2.2 k hk
theorem RO_c {R : S5} {F F2 : Nat → Nat} (h : RO R F) (hF : ∀ k, 720 ≤ k → k < 882 → F2 k = F k) : RO R F2 := fun t h1 h9 => by
  rw [hF _ (by omega) (by omega), hF _ (by omega) (by omega), hF _ (by omega) (by omega)]; exact h t h1 h9
theorem RC_c {C : S0} {F F2 : Nat → Nat} {G G2 : Nat → Int32} (h : RC C F G) (hF : ∀ k, 720 ≤ k → k < 882 → F2 k = F k) (hG : ∀ k, 882 ≤ k → k < 1404 → G2 k = G k) : RC C F2 G2 := by
  obtain ⟨a1, a2, a3⟩ := h
  refine ⟨fun a ha => ?_, fun a ha => ?_, fun t h1 h9 => ?_⟩
  · rw [hG _ (by omega) (by omega)]; exact a1 a ha
  · rw [hG _ (by omega) (by omega)]; exact a2 a ha
  · obtain ⟨b1, b2, b3, b4, b5⟩ := a3 t h1 h9
    rw [hG _ (by omega) (by omega), hF _ (by omega) (by omega), hF _ (by omega) (by omega)]
    refine ⟨b1, b2, b3, fun k hk h8 => ?_, fun k hk h4 => ?_⟩
    · rw [hF _ (by omega) (by omega)]; exact b4 k hk h8
    · rw [hF _ (by omega) (by omega)]; exact b5 k hk h4
theorem RS_c {S : S7} {F F2 : Nat → Nat} (h : RS S F) (hF : ∀ k, k = 11 ∨ k = 12 ∨ (1404 ≤ k ∧ k < 1676) → F2 k = F k) : RS S F2 := by
  obtain ⟨a1, a2, a3, a4⟩ := h
  refine ⟨fun a ha => ?_, fun a ha => ?_, ?_, ?_⟩
  · rw [hF _ (by omega)]; exact a1 a ha
  · rw [hF _ (by omega)]; exact a2 a ha
  · rw [hF _ (by omega)]; exact a3
  · rw [hF _ (by omega)]; exact a4
/-- the first place from i on, of n, where P holds; i + n if none -/
def fnd (P : Nat → Bool) : Nat → Nat → Nat
  | 0, i => i
  | n + 1, i => if P i then i else fnd P n (i + 1)
theorem fnd_le (P : Nat → Bool) : ∀ n i, i ≤ fnd P n i ∧ fnd P n i ≤ i + n := by
  intro n
  induction n with
  | zero => intro i; exact ⟨Nat.le_refl _, Nat.le_refl _⟩
  | succ n ih =>
    intro i
    unfold fnd
    split
    · omega
    · have := ih (i + 1); omega
theorem fnd_true (P : Nat → Bool) : ∀ n i, fnd P n i < i + n → P (fnd P n i) = true := by
  intro n
  induction n with
  | zero => intro i h; unfold fnd at h; omega
  | succ n ih =>
    intro i h
    unfold fnd at h ⊢
    split
    · assumption
    · rename_i c; rw [if_neg c] at h; exact ih (i + 1) (by omega)
theorem fnd_not (P : Nat → Bool) : ∀ n i j, i ≤ j → j < fnd P n i → P j = false := by
  intro n
  induction n with
  | zero => intro i j h1 h2; unfold fnd at h2; omega
  | succ n ih =>
    intro i j h1 h2
    unfold fnd at h2
    split at h2
    · omega
    · rename_i c
      by_cases d : j = i
      · subst d; simpa using c
      · exact ih (i + 1) j (by omega) h2
/-- the frame that holds page p; F 5 if none does -/
def fo (F : Nat → Nat) (p : Nat) : Nat := fnd (fun f => F (560 + 20 * f) == p + 1) (F 5) 0
def foI (F : Nat → Nat) (p : Nat) : Int32 := if fo F p < F 5 then nI (fo F p) else -1
theorem x_frameMany {m : S11} {n : Nat → Int32} {p : Int32} {F : Nat → Nat} {G : Nat → Int32} {b : Nat → Nat} {e f : Nat} (h : isR n F G b e f) {Q : Int32 → Prop} (q : Q (nI (F 5))) : wp_X11_frameMany (mS m n p) Q := by
  refine ⟨ivp (k := 5) (by omega) (by omega), ?_⟩
  show Q (n 5 + 4)
  rw [h.2.2.2.1, show nI (F 5) - 4 + 4 = nI (F 5) from Int32.sub_add_cancel _ _]
  exact q
theorem frAt (f : Nat) : (560 : Int32) + 20 * nI f = nI (560 + 20 * f) := by
  show nI 560 + nI 20 * nI f = _
  rw [pk_mul, nI_add]
theorem frAt0 (f : Nat) : (560 : Int32) + 20 * nI f + 0 = nI (560 + 20 * f) := by rw [frAt]; exact nI_add _ 0
theorem x_fo_go {m : S11} {n : Nat → Int32} {pn : Int32} {F : Nat → Nat} {G : Nat → Int32} {b : Nat → Nat} {e f p : Nat} (h : isR n F G b e f) (h5 : F 5 ≤ 8) (hp : p < 16) (hb : ∀ k, F k < 65536) {Q : Int32 → Prop} : ∀ k i, k + i = F 5 → Q (if fnd (fun f => F (560 + 20 * f) == p + 1) k i < F 5 then nI (fnd (fun f => F (560 + 20 * f) == p + 1) k i) else -1) → wp_X11_frameOf_2 (mS m n pn) Q (k + 1) (nI p) (nI i) := by
  intro k
  induction k with
  | zero =>
    intro i hi q
    refine x_frameMany h (pk_le (F 5) i (fun _ => ?_) (fun c => by omega))
    unfold fnd at q
    rwa [if_neg (by omega)] at q
  | succ k ih =>
    intro i hi q
    refine x_frameMany h (pk_le (F 5) i (fun _ => by omega) (fun _ => ?_))
    show vp_in (560 + 20 * nI i + 0) 10700 ∧ _
    rw [frAt0]
    refine ⟨ivp (by omega) (by omega), ?_⟩
    rw [nI_clamp (by omega), nI_1 p]
    show (n _ = _ → _) ∧ _
    have := nk_fr (f := i) (j := 0) (by omega) (by omega) (by omega)
    have hbb := hb (560 + 20 * i)
    unfold fnd at q
    refine pk_eq (F (560 + 20 * i)) (p + 1) (fun c => ?_) (fun c => ?_) (h.2.1 _ this) rfl
    · simp only [c, beq_self_eq_true, if_true] at q
      rwa [if_pos (by omega)] at q
    · simp only [beq_eq_false_iff_ne.mpr c] at q
      intro y hy
      rw [hy, nI_1]
      exact ih (i + 1) (by omega) q
theorem x_frameOf {m : S11} {n : Nat → Int32} {pn : Int32} {F : Nat → Nat} {G : Nat → Int32} {b : Nat → Nat} {e f p : Nat} (h : isR n F G b e f) (h5 : F 5 ≤ 8) (hp : p < 16) (hb : ∀ k, F k < 65536) {Q : Int32 → Prop} (q : Q (foI F p)) : wp_X11_frameOf (mS m n pn) (nI p) Q := ⟨F 5 + 1, x_fo_go h h5 hp hb (F 5) 0 (by omega) q⟩
theorem w_fo_go {P : S3} {F : Nat → Nat} {G : Nat → Int32} {p : Nat} (h : RP P F G) (h5 : F 5 ≤ 8) (hp : p < 16) (hb : ∀ k, F k < 65536) {Q : Int32 → Prop} : ∀ k i, k + i = F 5 → Q (if fnd (fun f => F (560 + 20 * f) == p + 1) k i < F 5 then nI (fnd (fun f => F (560 + 20 * f) == p + 1) k i) else -1) → wp_X3_frameOf_2 P Q (k + 1) (nI p) (nI i) := by
  intro k
  obtain ⟨a1, a2, a3, a4, a5, a6, a7, a8, a9, a10⟩ := h
  induction k with
  | zero =>
    intro i hi q
    refine pk_le (F 5) i (fun _ => ?_) (fun c => by omega) a6
    unfold fnd at q
    rwa [if_neg (by omega)] at q
  | succ k ih =>
    intro i hi q
    refine pk_le (F 5) i (fun _ => by omega) (fun _ => pk_le 8 i (fun _ => by omega) fun _ => ?_) a6
    refine ⟨ivp (by omega) (by omega), ?_⟩
    rw [nI_clamp (by omega), a8 i (by omega)]
    have hbb := hb (560 + 20 * i)
    have ee : nI (F (560 + 20 * i)) - 1 = nI p ↔ F (560 + 20 * i) = p + 1 := by
      rw [show nI (F (560 + 20 * i)) - 1 = nI p ↔ nI (F (560 + 20 * i)) = nI (p + 1) from ⟨fun z => by rw [← nI_1, ← z, Int32.sub_add_cancel], fun z => by rw [z, nI_pred]⟩]
      exact nI_eq (by omega) (by omega)
    rw [ee]
    unfold fnd at q
    refine ⟨fun c => ?_, fun c => ?_⟩
    · simp only [c, beq_self_eq_true, if_true] at q
      rwa [if_pos (by omega)] at q
    · simp only [beq_eq_false_iff_ne.mpr c] at q
      intro y hy
      rw [hy, nI_1]
      exact ih (i + 1) (by omega) q
theorem w_frameOf {P : S3} {F : Nat → Nat} {G : Nat → Int32} {p : Nat} (h : RP P F G) (h5 : F 5 ≤ 8) (hp : p < 16) (hb : ∀ k, F k < 65536) {Q : Int32 → Prop} (q : Q (foI F p)) : wp_X3_frameOf P (nI p) Q := ⟨F 5 + 1, w_fo_go h h5 hp hb (F 5) 0 (by omega) q⟩
