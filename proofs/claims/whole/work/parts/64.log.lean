/-! ===== the log as a walk over records; the table that it tells; chains; what is left to undo ===== -/
section
variable {b b2 : Nat → Nat} {e k : Nat}
def wlk (b : Nat → Nat) : Nat → Nat
  | 0 => 8
  | j + 1 => bhd b (wlk b j)
theorem wlk_S (j : Nat) : wlk b j + 6 ≤ wlk b (j + 1) := by show _ ≤ wlk b j + max _ 6; omega
theorem wlk_mono {i j : Nat} (h : i ≤ j) : wlk b i ≤ wlk b j := by
  induction j with
  | zero => rw [show i = 0 by omega]; exact Nat.le_refl _
  | succ j ih =>
    by_cases c : i = j + 1
    · rw [c]; exact Nat.le_refl _
    · have := ih (by omega); have := wlk_S (b := b) j; omega
theorem wlk_lt {i j : Nat} (h : i < j) : wlk b i < wlk b j := by have := wlk_S (b := b) i; have := wlk_mono (b := b) (show i + 1 ≤ j from h); omega
theorem wlk_8 (j : Nat) : 8 ≤ wlk b j := wlk_mono (b := b) (Nat.zero_le j)
theorem wlk_inj {i j : Nat} (h : wlk b i = wlk b j) : i = j := by
  rcases Nat.lt_trichotomy i j with c | c | c
  · have := wlk_lt (b := b) c; omega
  · exact c
  · have := wlk_lt (b := b) c; omega
/-- a record's view: its bytes, 0 behind it -/
def rv (b : Nat → Nat) (s : Nat) : Nat → Nat := fun i => if i < max (b (s + 1)) 6 then b (s + i) else 0
theorem rv_1 (s : Nat) : rv b s 1 = b (s + 1) := by unfold rv; rw [if_pos (by omega)]
theorem rv_rd {s i : Nat} (h : i < max (b (s + 1)) 6) : rv b s i = b (s + i) := by unfold rv; rw [if_pos h]
theorem rv_agr {s : Nat} (h : ∀ i, i < bhd b s → b2 i = b i) : rv b2 s = rv b s ∧ bhd b2 s = bhd b s := by
  have h1 : b2 (s + 1) = b (s + 1) := h _ (by unfold bhd; omega)
  refine ⟨?_, by unfold bhd; rw [h1]⟩
  funext i
  unfold rv
  rw [h1]
  split
  · exact h _ (by unfold bhd; omega)
  · rfl
theorem wlk_agr (h : ∀ i, i < wlk b k → b2 i = b i) : ∀ j, j ≤ k → wlk b2 j = wlk b j := by
  intro j
  induction j with
  | zero => intro _; rfl
  | succ j ih =>
    intro hj
    show bhd b2 (wlk b2 j) = bhd b (wlk b j)
    rw [ih (by omega)]
    refine (rv_agr fun i hi => h i ?_).2
    have : wlk b (j + 1) ≤ wlk b k := wlk_mono hj
    exact Nat.lt_of_lt_of_le hi this
theorem rvw_agr (h : ∀ i, i < wlk b k → b2 i = b i) {j : Nat} (hj : j < k) : rv b2 (wlk b j) = rv b (wlk b j) := (rv_agr fun i hi => h i (Nat.lt_of_lt_of_le hi (wlk_mono (b := b) (show j + 1 ≤ k from hj)))).1
/-- where THE CURSOR goes -/
def vnx (v : Nat → Nat) : Nat := if v 0 = 4 then pr2 v 8 else if v 0 = 9 then pr2 v 5 else pr2 v 3
def vun (v : Nat → Nat) : Nat := if v 0 = 2 ∨ v 0 = 3 then 1 else 0
/-- the table: of each transaction IS (3: committed) and LAST -/
def lrn (T : Nat → Nat × Nat) (s : Nat) (v : Nat → Nat) : Nat → Nat × Nat := fun t => if t ≠ v 2 ∨ v 2 = 0 ∨ 9 < v 2 then T t else if v 0 = 7 then (0, 0) else (if v 0 = 5 then 3 else if v 0 = 6 then 2 else if (T t).1 = 0 then 1 else (T t).1, s)
def rp (b : Nat → Nat) : Nat → Nat → Nat × Nat
  | 0 => fun _ => (0, 0)
  | j + 1 => lrn (rp b j) (wlk b j) (rv b (wlk b j))
theorem rp_agr (h : ∀ i, i < wlk b k → b2 i = b i) : ∀ j, j ≤ k → rp b2 j = rp b j := by
  intro j
  induction j with
  | zero => intro _; rfl
  | succ j ih =>
    intro hj
    show lrn (rp b2 j) (wlk b2 j) (rv b2 (wlk b2 j)) = lrn (rp b j) (wlk b j) (rv b (wlk b j))
    rw [ih (by omega), wlk_agr h j (by omega), rvw_agr h (by omega)]
def St (b : Nat → Nat) (k s : Nat) : Prop := ∃ j, j < k ∧ wlk b j = s
def Sz (b : Nat → Nat) (k s : Nat) : Prop := s = 0 ∨ St b k s
theorem St_agr (h : ∀ i, i < wlk b k → b2 i = b i) {j : Nat} (hj : j ≤ k) {s : Nat} : St b2 j s ↔ St b j s := by
  constructor
  · rintro ⟨i, h1, h2⟩; exact ⟨i, h1, by rw [← h2, wlk_agr h i (by omega)]⟩
  · rintro ⟨i, h1, h2⟩; exact ⟨i, h1, by rw [← h2, wlk_agr h i (by omega)]⟩
theorem St_mono {i j s : Nat} (h : i ≤ j) : St b i s → St b j s := fun ⟨x, h1, h2⟩ => ⟨x, by omega, h2⟩
theorem Sz_mono {i j s : Nat} (h : i ≤ j) : Sz b i s → Sz b j s := fun z => z.imp id (St_mono h)
theorem Sz_lt {j s : Nat} (h : Sz b j s) : s < wlk b j := by
  rcases h with rfl | ⟨i, h1, rfl⟩
  · have := wlk_8 (b := b) j; omega
  · exact wlk_lt h1
/-- how many records 2, 3 lie on the chain from s -/
def chn (b : Nat → Nat) : Nat → Nat → Nat
  | 0, _ => 0
  | n + 1, s => if s = 0 then 0 else vun (rv b s) + chn b n (vnx (rv b s))
def ch (b : Nat → Nat) (s : Nat) : Nat := chn b s s
def wt (i : Nat) : Nat := if i = 0 then 0 else if i = 1 then 12 else 6
def sum9 (f : Nat → Nat) : Nat := f 1 + f 2 + f 3 + f 4 + f 5 + f 6 + f 7 + f 8 + f 9
/-- a record that may stand behind a log with table T, starts Sp, chains c -/
def Leg (T : Nat → Nat × Nat) (Sp : Nat → Prop) (c : Nat → Nat) (v : Nat → Nat) : Prop :=
  (6 ≤ v 1 ∧ v 1 ≤ 68 ∧ v 1 = due v 0 ∧ (90 + sumN v 0 (v 1 - 1)) % 256 = v (v 1 - 1)) ∧
  (v 2 ≤ 9 ∧ (v 2 = 0 ↔ v 0 = 8 ∨ v 0 = 10) ∧ pr2 v 3 = (if v 2 = 0 then 0 else (T (v 2)).2)) ∧
  (v 0 = 1 → (T (v 2)).1 = 0) ∧ (v 0 = 2 ∨ v 0 = 3 ∨ v 0 = 5 ∨ v 0 = 6 ∨ v 0 = 9 → (T (v 2)).1 = 1) ∧ (v 0 = 3 → 1 ≤ v 6) ∧
  (v 0 = 4 → ((T (v 2)).1 = 1 ∨ (T (v 2)).1 = 2) ∧ (pr2 v 8 = 0 ∨ Sp (pr2 v 8)) ∧ c (pr2 v 8) + 1 ≤ c (T (v 2)).2) ∧
  (v 0 = 9 → (pr2 v 5 = 0 ∨ Sp (pr2 v 5)) ∧ c (pr2 v 5) ≤ c (T (v 2)).2) ∧ (v 0 = 7 → (T (v 2)).1 ≠ 0) ∧
  (v 0 = 10 → (v 5 ≤ 9 ∧ v (6 + 4 * v 5) ≤ 8) ∧ (∀ i, i < v 5 → 1 ≤ v (6 + 4 * i) ∧ v (6 + 4 * i) ≤ 9 ∧ v (7 + 4 * i) = (T (v (6 + 4 * i))).1 ∧ 1 ≤ v (7 + 4 * i) ∧ v (7 + 4 * i) ≤ 2 ∧ pr2 v (8 + 4 * i) = (T (v (6 + 4 * i))).2) ∧
    (∀ t, 1 ≤ t → t ≤ 9 → (T t).1 ≠ 0 → ∃ i, i < v 5 ∧ v (6 + 4 * i) = t) ∧ ∀ i, i < v (6 + 4 * v 5) → v (7 + 4 * v 5 + 3 * i) < 16 ∧ Sp (pr2 v (8 + 4 * v 5 + 3 * i)))
def LogOK (b : Nat → Nat) (e k : Nat) : Prop :=
  (wlk b k ≤ e ∧ (b (wlk b k + 1) = 0 ∨ e < wlk b k + b (wlk b k + 1))) ∧
  (∀ j, j < k → Leg (rp b j) (St b j) (ch b) (rv b (wlk b j))) ∧
  ∀ j, j ≤ k → 8 * sum9 (fun t => ch b (rp b j t).2) + 8 ≤ wlk b j ∧ wlk b j + sum9 (fun t => 11 * ch b (rp b j t).2 + wt (rp b j t).1) ≤ 8590
theorem rp_Sz : ∀ j t, Sz b j (rp b j t).2 ∧ ((rp b j t).1 = 0 → (rp b j t).2 = 0) ∧ (rp b j t).1 ≤ 3 ∧ ((rp b j t).1 ≠ 0 → St b j (rp b j t).2 ∧ 1 ≤ t ∧ t ≤ 9) := by
  intro j
  induction j with
  | zero => intro t; exact ⟨Or.inl rfl, fun _ => rfl, Nat.zero_le _, fun z => absurd rfl z⟩
  | succ j ih =>
    intro t
    obtain ⟨h1, h2, h3, h4⟩ := ih t
    show Sz b (j + 1) (lrn (rp b j) (wlk b j) (rv b (wlk b j)) t).2 ∧ _
    show _ ∧ ((lrn (rp b j) (wlk b j) (rv b (wlk b j)) t).1 = 0 → (lrn (rp b j) (wlk b j) (rv b (wlk b j)) t).2 = 0) ∧ (lrn (rp b j) (wlk b j) (rv b (wlk b j)) t).1 ≤ 3 ∧ ((lrn (rp b j) (wlk b j) (rv b (wlk b j)) t).1 ≠ 0 → St b (j + 1) (lrn (rp b j) (wlk b j) (rv b (wlk b j)) t).2 ∧ _)
    unfold lrn
    split
    · exact ⟨Sz_mono (by omega) h1, h2, h3, fun z => ⟨St_mono (by omega) (h4 z).1, (h4 z).2⟩⟩
    · rename_i c
      split
      · exact ⟨Or.inl rfl, fun _ => rfl, Nat.zero_le _, fun z => absurd rfl z⟩
      · refine ⟨Or.inr ⟨j, by omega, rfl⟩, fun z => ?_, ?_, fun _ => ⟨⟨j, by omega, rfl⟩, by omega, by omega⟩⟩
        · exfalso
          revert z
          show ¬ (if _ then _ else _) = _
          repeat' split
          all_goals omega
        · show (if _ then _ else _) ≤ _
          repeat' split
          all_goals omega
theorem nx_Sz (h : LogOK b e k) {j : Nat} (hj : j < k) : Sz b j (vnx (rv b (wlk b j))) := by
  obtain ⟨-, ⟨-, -, h3⟩, -, -, -, h4, h9, -, -⟩ := h.2.1 j hj
  unfold vnx
  split
  · rename_i c; exact (h4 c).2.1
  · split
    · rename_i c; exact (h9 c).1
    · rw [h3]
      split
      · exact Or.inl rfl
      · exact (rp_Sz j _).1
theorem chn_fuel (h : LogOK b e k) : ∀ n n2 s, Sz b k s → s ≤ n → s ≤ n2 → chn b n s = chn b n2 s := by
  intro n
  induction n with
  | zero =>
    intro n2 s hs h1 h2
    obtain rfl : s = 0 := by omega
    cases n2 with
    | zero => rfl
    | succ n2 => show 0 = if _ then _ else _; rw [if_pos rfl]
  | succ n ih =>
    intro n2 s hs h1 h2
    by_cases c : s = 0
    · subst c
      cases n2 with
      | zero => show (if _ then _ else _) = 0; rw [if_pos rfl]
      | succ n2 => show (if _ then _ else _) = if _ then _ else _; rw [if_pos rfl, if_pos rfl]
    · cases n2 with
      | zero => omega
      | succ n2 =>
        rcases hs with z | ⟨j, hj, rfl⟩
        · exact absurd z c
        · show (if _ then _ else _) = if _ then _ else _
          rw [if_neg c, if_neg c]
          have hn := nx_Sz h hj
          have hl := Sz_lt hn
          rw [ih n2 _ (Sz_mono (by omega) hn) (by omega) (by omega)]
theorem ch_0 : ch b 0 = 0 := rfl
theorem ch_S (h : LogOK b e k) {j : Nat} (hj : j < k) : ch b (wlk b j) = vun (rv b (wlk b j)) + ch b (vnx (rv b (wlk b j))) := by
  have h8 := wlk_8 (b := b) j
  have hn := nx_Sz h hj
  have hl := Sz_lt hn
  unfold ch
  obtain ⟨n, hn2⟩ : ∃ n, wlk b j = n + 1 := ⟨wlk b j - 1, by omega⟩
  rw [show chn b (wlk b j) (wlk b j) = chn b (n + 1) (wlk b j) by rw [hn2]]
  show (if _ then _ else _) = _
  rw [if_neg (by omega), chn_fuel h n _ _ (Sz_mono (by omega) hn) (by omega) (Nat.le_refl _)]
theorem chn_agr (h : LogOK b e k) (ha : ∀ i, i < wlk b k → b2 i = b i) : ∀ n s, Sz b k s → chn b2 n s = chn b n s := by
  intro n
  induction n with
  | zero => intro s _; rfl
  | succ n ih =>
    intro s hs
    rcases hs with rfl | ⟨j, hj, rfl⟩
    · show (if _ then _ else _) = if _ then _ else _
      rw [if_pos rfl, if_pos rfl]
    · have h8 := wlk_8 (b := b) j
      show (if _ then _ else _) = if _ then _ else _
      rw [if_neg (by omega), if_neg (by omega), rvw_agr ha hj, ih _ (Sz_mono (by omega) (nx_Sz h hj))]
theorem ch_agr (h : LogOK b e k) (ha : ∀ i, i < wlk b k → b2 i = b i) {s : Nat} (hs : Sz b k s) : ch b2 s = ch b s := chn_agr h ha s s hs
theorem Leg_c {T : Nat → Nat × Nat} {Sp Sp2 : Nat → Prop} {c c2 : Nat → Nat} {v : Nat → Nat} (h : Leg T Sp c v) (hS : ∀ s, Sp s → Sp2 s) (hc : ∀ s, s = 0 ∨ Sp s → c2 s = c s) (hT : ∀ t, (T t).2 = 0 ∨ Sp (T t).2) : Leg T Sp2 c2 v := by
  obtain ⟨h1, h2, h3, h4, h5, h6, h7, h8, h9⟩ := h
  refine ⟨h1, h2, h3, h4, h5, fun z => ?_, fun z => ?_, h8, fun z => ?_⟩
  · obtain ⟨a1, a2, a3⟩ := h6 z
    exact ⟨a1, a2.imp id (hS _), by rw [hc _ a2, hc _ (hT _)]; exact a3⟩
  · obtain ⟨a2, a3⟩ := h7 z
    exact ⟨a2.imp id (hS _), by rw [hc _ a2, hc _ (hT _)]; exact a3⟩
  · obtain ⟨a1, a2, a3, a4⟩ := h9 z
    exact ⟨a1, a2, a3, fun i hi => ⟨(a4 i hi).1, hS _ (a4 i hi).2⟩⟩
/-- what of a log holds for its first records alone -/
theorem LogOK_cut (h : LogOK b e k) {k2 e2 : Nat} (hk : k2 ≤ k) (ha : ∀ i, i < wlk b k2 → b2 i = b i) (ht : wlk b k2 ≤ e2 ∧ (b2 (wlk b k2 + 1) = 0 ∨ e2 < wlk b k2 + b2 (wlk b k2 + 1))) : LogOK b2 e2 k2 := by
  have hk0 : LogOK b (wlk b k) k ∨ True := Or.inr trivial
  have hc : ∀ s, Sz b k2 s → ch b2 s = ch b s := by
    have h2 : ∀ n s, Sz b k2 s → chn b2 n s = chn b n s := by
      intro n
      induction n with
      | zero => intro s _; rfl
      | succ n ih =>
        intro s hs
        rcases hs with rfl | ⟨j, hj, rfl⟩
        · show (if _ then _ else _) = if _ then _ else _
          rw [if_pos rfl, if_pos rfl]
        · have h8 := wlk_8 (b := b) j
          show (if _ then _ else _) = if _ then _ else _
          rw [if_neg (by omega), if_neg (by omega), rvw_agr ha hj, ih _ (Sz_mono (by omega) (nx_Sz h (by omega)))]
    exact fun s hs => h2 s s hs
  refine ⟨by rw [wlk_agr ha k2 (Nat.le_refl _)]; exact ht, fun j hj => ?_, fun j hj => ?_⟩
  · rw [wlk_agr ha j (by omega), rp_agr ha j (by omega), rvw_agr ha hj]
    refine Leg_c (h.2.1 j (by omega)) (fun s hs => (St_agr ha (by omega)).mpr hs) (fun s hs => hc s ?_) (fun t => (rp_Sz j t).1)
    exact Sz_mono (show j ≤ k2 by omega) hs
  · rw [wlk_agr ha j hj, rp_agr ha j hj]
    have e1 : ∀ t, ch b2 (rp b j t).2 = ch b (rp b j t).2 := fun t => hc _ (Sz_mono hj (rp_Sz j t).1)
    simp only [e1]
    exact h.2.2 j (by omega)
end
