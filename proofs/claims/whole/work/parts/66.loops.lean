/-! ===== walks over the log: chains and records, the same on both sides ===== -/
section
variable {m : S11} {b : Nat → Nat} {e f k : Nat} {J : S2}
theorem rec_prev (h : LogOK b e k) {j : Nat} (hj : j < k) : Sz b j (pr2 b (wlk b j + 3)) := by
  obtain ⟨h6, h68, h3, h4, hv⟩ := rec_rd h hj
  obtain ⟨-, ⟨-, -, hp⟩, -⟩ := h.2.1 j hj
  have e1 : pr2 (rv b (wlk b j)) 3 = pr2 b (wlk b j + 3) := by unfold pr2; rw [hv _ (by omega), hv _ (by omega)]
  rw [← e1, hp]
  split
  · exact Or.inl rfl
  · exact (rp_Sz j _).1
theorem x_bh (h : isM (g11_now m) b e f) (hL : LogOK b e k) {j : Nat} (hj : j < k) {Q : Int32 → Prop} (q : Q (nI (vnx (rv b (wlk b j))))) : wp_X11_behind m (nI (wlk b j)) Q := by
  obtain ⟨o1, o2, o3, o4, -⟩ := rec_onw hL hj
  obtain ⟨h6, h68, h3, h4, hv⟩ := rec_rd hL hj
  rw [← o1] at q
  exact x_behind h (by omega) (fun z => by have := o3 z; omega) (fun z => by have := o4 z; omega) q
theorem w_ow (h : isJ J b e f) (hL : LogOK b e k) {j : Nat} (hj : j < k) {Q : Int32 → Prop} (q : Q (nI (vnx (rv b (wlk b j))))) : wp_X2_onward J (nI (wlk b j)) Q := by
  have := (rec_rd hL hj).2.2.2.1
  have := h.2.2.1
  rw [← (rec_onw hL hj).1] at q
  exact w_onward h (by omega) q
theorem x_un (h : isM (g11_now m) b e f) (hL : LogOK b e k) {j : Nat} (hj : j < k) {Q : Int32 → Prop} (q : Q (nI (vun (rv b (wlk b j))))) : wp_X11_isUndoable m (nI (wlk b j)) Q := by
  obtain ⟨o1, o2, -⟩ := rec_onw hL hj
  obtain ⟨h6, h68, h3, h4, hv⟩ := rec_rd hL hj
  refine x_isUndoable h (by omega) ?_
  rw [o2]
  unfold vun at q ⊢
  split <;> rename_i c <;> simp only [c] at q <;> exact q
theorem w_un (h : isJ J b e f) (hL : LogOK b e k) {j : Nat} (hj : j < k) {Q : Int32 → Prop} (q : Q (nI (vun (rv b (wlk b j))))) : wp_X2_undoable J (nI (wlk b j)) Q := by
  obtain ⟨o1, o2, -⟩ := rec_onw hL hj
  have := (rec_rd hL hj).2.2.2.1
  have := h.2.2.1
  refine w_undoable h (by omega) ?_
  rw [o2]
  unfold vun at q ⊢
  split <;> rename_i c <;> simp only [c] at q <;> exact q
theorem vun_01 (v : Nat → Nat) : vun v = 0 ∨ vun v = 1 := by unfold vun; split <;> simp
theorem w_uc_go (h : isJ J b e f) (hL : LogOK b e k) {Q : Int32 → Prop} : ∀ N c fd i, c ≤ N → Sz b k c → i + c ≤ 10000 → Q (nI (fd + ch b c)) → wp_X2_undoCount_7 J Q (N + 1) (nI fd) (nI c) (nI i) := by
  intro N
  induction N with
  | zero =>
    intro c fd i hN hc hi q
    obtain rfl : c = 0 := by omega
    exact pk_le 1000000 i (fun _ => by omega) (fun _ => pk_eq 0 0 (fun _ => q) (fun z => absurd rfl z))
  | succ N ih =>
    intro c fd i hN hc hi q
    refine pk_le 1000000 i (fun _ => by omega) (fun _ => pk_eq c 0 (fun z => ?_) (fun z => ?_))
    · subst z; exact q
    · rcases hc with z2 | ⟨j, hj, rfl⟩
      · exact absurd z2 z
      · have hn := nx_Sz hL hj
        have hl := Sz_lt hn
        rw [ch_S hL hj] at q
        refine w_un h hL hj ?_
        rcases vun_01 (rv b (wlk b j)) with u | u
        · rw [u] at q ⊢
          refine ⟨fun _ => w_ow h hL hj fun x ex => ?_, fun z => absurd rfl z⟩
          rw [ex, nI_1]
          exact ih _ fd (i + 1) (by omega) (Sz_mono (by omega) hn) (by omega) (by rw [Nat.zero_add] at q; exact q)
        · rw [u] at q ⊢
          refine ⟨fun z => absurd z (by decide), fun _ x ex => w_ow h hL hj fun y ey => ?_⟩
          rw [ex, ey, nI_1, nI_1]
          exact ih _ (fd + 1) (i + 1) (by omega) (Sz_mono (by omega) hn) (by omega) (by rw [Nat.add_assoc]; exact q)
theorem w_undoCount (h : isJ J b e f) (hL : LogOK b e k) {c : Nat} (hc : Sz b k c) {Q : Int32 → Prop} (q : Q (nI (ch b c))) : wp_X2_undoCount J (nI c) Q := by
  have := Sz_lt hc
  have := hL.1.1
  have := h.2.2.1
  exact ⟨c + 1, w_uc_go h hL c c 0 0 (Nat.le_refl _) hc (by omega) (by rw [Nat.zero_add]; exact q)⟩
theorem x_uc_go (h : isM (g11_now m) b e f) (hL : LogOK b e k) {Q : Int32 → Prop} : ∀ N c fd, c ≤ N → Sz b k c → Q (nI (fd + ch b c)) → wp_X11_costOf_49 m Q (N + 1) (nI c) (nI fd) := by
  have he := h.2.2.2.2.1
  have h1 := hL.1.1
  intro N
  induction N with
  | zero =>
    intro c fd hN hc q
    obtain rfl : c = 0 := by omega
    exact pk_le 0 0 (fun _ => q) (fun z => absurd z (by omega))
  | succ N ih =>
    intro c fd hN hc q
    have hlt := Sz_lt hc
    refine pk_le c 0 (fun z => ?_) (fun z => ?_)
    · obtain rfl : c = 0 := by omega
      exact q
    · rcases hc with z2 | ⟨j, hj, rfl⟩
      · omega
      · have hn := nx_Sz hL hj
        have hl := Sz_lt hn
        rw [ch_S hL hj] at q
        refine x_un h hL hj ?_
        rcases vun_01 (rv b (wlk b j)) with u | u
        · rw [u] at q ⊢
          refine ⟨fun _ => x_bh h hL hj ?_, fun z => absurd rfl z⟩
          exact ih _ fd (by omega) (Sz_mono (by omega) hn) (by rw [Nat.zero_add] at q; exact q)
        · rw [u] at q ⊢
          refine ⟨fun z => absurd z (by decide), fun _ x ex => x_bh h hL hj ?_⟩
          rw [ex, nI_1]
          exact ih _ (fd + 1) (by omega) (Sz_mono (by omega) hn) (by rw [Nat.add_assoc]; exact q)
theorem x_uc (h : isM (g11_now m) b e f) (hL : LogOK b e k) {c : Nat} (hc : Sz b k c) {Q : Int32 → Prop} (q : Q (nI (ch b c))) : wp_X11_costOf_46 m Q (nI c) := ⟨c + 1, x_uc_go h hL c c 0 (Nat.le_refl _) hc (by rw [Nat.zero_add]; exact q)⟩
/-- from s on the first record 2, 3 of the chain; 0 -/
def nun (b : Nat → Nat) : Nat → Nat → Nat
  | 0, s => s
  | n + 1, s => if s = 0 then 0 else if vun (rv b s) = 1 then s else nun b n (vnx (rv b s))
theorem nun_ok (hL : LogOK b e k) : ∀ N c, c ≤ N → Sz b k c → Sz b k (nun b N c) ∧ nun b N c ≤ c ∧ ch b (nun b N c) = ch b c ∧ (nun b N c ≠ 0 → vun (rv b (nun b N c)) = 1) := by
  intro N
  induction N with
  | zero =>
    intro c hN hc
    obtain rfl : c = 0 := by omega
    exact ⟨hc, Nat.le_refl _, rfl, fun z => absurd rfl z⟩
  | succ N ih =>
    intro c hN hc
    unfold nun
    by_cases c0 : c = 0
    · rw [if_pos c0]
      exact ⟨Or.inl rfl, Nat.zero_le _, by rw [c0], fun z => absurd rfl z⟩
    · rw [if_neg c0]
      by_cases c1 : vun (rv b c) = 1
      · rw [if_pos c1]
        exact ⟨hc, Nat.le_refl _, rfl, fun _ => c1⟩
      · rw [if_neg c1]
        rcases hc with z2 | ⟨j, hj, rfl⟩
        · exact absurd z2 c0
        · have hn := nx_Sz hL hj
          have hl := Sz_lt hn
          obtain ⟨i1, i2, i3, i4⟩ := ih _ (show vnx (rv b (wlk b j)) ≤ N by omega) (Sz_mono (show j ≤ k by omega) hn)
          refine ⟨i1, by omega, ?_, i4⟩
          rw [i3, ch_S hL hj]
          rcases vun_01 (rv b (wlk b j)) with u | u
          · rw [u, Nat.zero_add]
          · exact absurd u c1
theorem w_nu_go (h : isJ J b e f) (hL : LogOK b e k) {Q : Int32 → Prop} : ∀ N c i, c ≤ N → Sz b k c → i + c ≤ 10000 → Q (nI (nun b N c)) → wp_X2_nextUndoable_4 J Q (N + 1) (nI c) (nI i) := by
  have he := h.2.2.1
  have h1 := hL.1.1
  intro N
  induction N with
  | zero =>
    intro c i hN hc hi q
    obtain rfl : c = 0 := by omega
    exact pk_le 1000000 i (fun _ => by omega) (fun _ => pk_eq 0 0 (fun _ => q) (fun z => absurd rfl z))
  | succ N ih =>
    intro c i hN hc hi q
    have hlt := Sz_lt hc
    unfold nun at q
    refine pk_le 1000000 i (fun _ => by omega) (fun _ => pk_eq c 0 (fun z => ?_) (fun z => ?_))
    · rw [if_pos z] at q; rw [z]; exact q
    · rw [if_neg z] at q
      rcases hc with z2 | ⟨j, hj, rfl⟩
      · exact absurd z2 z
      · have hn := nx_Sz hL hj
        have hl := Sz_lt hn
        refine w_un h hL hj ?_
        rcases vun_01 (rv b (wlk b j)) with u | u
        · rw [u] at q ⊢
          refine ⟨fun _ => w_ow h hL hj fun x ex => ?_, fun z => absurd rfl z⟩
          rw [ex, nI_1]
          exact ih _ (i + 1) (by omega) (Sz_mono (by omega) hn) (by omega) q
        · rw [u] at q ⊢
          exact ⟨fun z => absurd z (by decide), fun _ => q⟩
theorem w_nextUndoable (h : isJ J b e f) (hL : LogOK b e k) {c : Nat} (hc : Sz b k c) {Q : Int32 → Prop} (q : Q (nI (nun b c c))) : wp_X2_nextUndoable J (nI c) Q := by
  have := Sz_lt hc
  have := hL.1.1
  have := h.2.2.1
  exact ⟨c + 1, w_nu_go h hL c c 0 (Nat.le_refl _) hc (by omega) q⟩
/-- from s on by PREV to the first record -/
def fstR (b : Nat → Nat) : Nat → Nat → Nat
  | 0, s => s
  | n + 1, s => if pr2 b (s + 3) = 0 then s else fstR b n (pr2 b (s + 3))
theorem fstR_8 (hL : LogOK b e k) : ∀ N c, c ≤ N → St b k c → 8 ≤ fstR b N c ∧ fstR b N c ≤ c := by
  intro N
  induction N with
  | zero => rintro c hN ⟨j, hj, rfl⟩; have := wlk_8 (b := b) j; omega
  | succ N ih =>
    rintro c hN ⟨j, hj, rfl⟩
    unfold fstR
    have h8 := wlk_8 (b := b) j
    split
    · omega
    · have hp := rec_prev hL hj
      have hl := Sz_lt hp
      rcases hp with z | hp
      · contradiction
      · have := ih _ (by omega) (St_mono (show j ≤ k by omega) hp)
        omega
theorem w_first_go {w : S9} (h : isJ (g9_journal w) b e f) (hL : LogOK b e k) {Q : Int32 → Prop} : ∀ N c i, c ≤ N → St b k c → i + c ≤ 10000 → Q (nI (fstR b N c)) → wp_X9_firstOf_12 w Q (N + 1) (nI c) (nI i) := by
  have he := h.2.2.1
  have h1 := hL.1.1
  intro N
  induction N with
  | zero => rintro c i hN ⟨j, hj, rfl⟩; have := wlk_8 (b := b) j; omega
  | succ N ih =>
    rintro c i hN ⟨j, hj, rfl⟩ hi q
    have hp := rec_prev hL hj
    have hl := Sz_lt hp
    have hr := (rec_rd hL hj).2.2.2.1
    unfold fstR at q
    refine pk_le 1000000 i (fun _ => by omega) (fun _ => ?_)
    rw [show nI (wlk b j) + 3 = nI (wlk b j + 3) from nI_add _ 3]
    refine w_pairAt h (by omega) (pk_eq (pr2 b (wlk b j + 3)) 0 (fun z => ?_) (fun z => ?_))
    · rw [if_pos z] at q; exact q
    · rw [if_neg z] at q
      refine w_pairAt h (by omega) fun x ex => ?_
      rw [ex, nI_1]
      rcases hp with z2 | hp
      · contradiction
      · exact ih _ (i + 1) (by omega) (St_mono (by omega) hp) (by omega) q
theorem x_first_go (h : isM (g11_now m) b e f) (hL : LogOK b e k) {Q : Int32 → Prop} : ∀ N c, c ≤ N → St b k c → Q (nI (fstR b N c)) → wp_X11_firstRecord_13 m Q (N + 1) (nI c) := by
  have he := h.2.2.2.2.1
  have h1 := hL.1.1
  intro N
  induction N with
  | zero => rintro c hN ⟨j, hj, rfl⟩; have := wlk_8 (b := b) j; omega
  | succ N ih =>
    rintro c hN ⟨j, hj, rfl⟩ q
    have hp := rec_prev hL hj
    have hl := Sz_lt hp
    obtain ⟨h6, -, -, hr, -⟩ := rec_rd hL hj
    unfold fstR at q
    unfold wp_X11_firstRecord_13
    rw [show nI (wlk b j) + 3 = nI (wlk b j + 3) from nI_add _ 3]
    refine x_two h (by omega) (pk_le (pr2 b (wlk b j + 3)) 0 (fun z => ?_) (fun z => ?_))
    · rw [if_pos (by omega)] at q; exact q
    · rw [if_neg (by omega)] at q
      refine x_two h (by omega) ?_
      rcases hp with z2 | hp
      · omega
      · exact ih _ (by omega) (St_mono (by omega) hp) q
/-- the walk: whole records up to k -/
theorem w_wh (h : isJ J b e f) (hL : LogOK b e k) {j : Nat} (hj : j ≤ k) {Q : Int32 → Prop} (q : Q (if j < k then 1 else 0)) : wp_X2_wholeAt J (nI (wlk b j)) Q := by
  have he := h.2.2.1
  have h1 := hL.1.1
  have := wlk_mono (b := b) hj
  refine w_wholeAt h (by omega) ?_
  by_cases c : j < k
  · rw [(rec_whl hL h.2.2.2.2.1 c).1]; rw [if_pos c] at q; exact q
  · obtain rfl : j = k := by omega
    rw [(end_whl hL h.2.2.2.2.1).1]; rw [if_neg c] at q; exact q
theorem x_wh (h : isM (g11_now m) b e f) (hL : LogOK b e k) {j : Nat} (hj : j ≤ k) {Q : Int32 → Prop} (q : Q (if j < k then 1 else 0)) : wp_X11_isWhole m (nI (wlk b j)) Q := by
  have he := h.2.2.2.2.1
  have h1 := hL.1.1
  have := wlk_mono (b := b) hj
  refine x_isWhole h (by omega) ?_
  by_cases c : j < k
  · rw [(rec_whl hL h.2.2.2.2.2.2.2.1 c).2]; rw [if_pos c] at q; exact q
  · obtain rfl : j = k := by omega
    rw [(end_whl hL h.2.2.2.2.2.2.2.1).2]; rw [if_neg c] at q; exact q
theorem w_bhd (h : isJ J b e f) (hL : LogOK b e k) {j : Nat} (hj : j < k) {Q : Int32 → Prop} (q : Q (nI (wlk b (j + 1)))) : wp_X2_behind J (nI (wlk b j)) Q := by
  have := (rec_rd hL hj).2.2.2.1
  have := h.2.2.1
  exact w_behind h (by omega) q
theorem x_len (h : isM (g11_now m) b e f) (hL : LogOK b e k) {j : Nat} (hj : j < k) {Q : Int32 → Prop} (q : ∀ x, nI (wlk b j) + x = nI (wlk b (j + 1)) → Q x) : wp_X11_logByte m (nI (wlk b j) + 1) Q := by
  obtain ⟨h6, -, h3, hr, -⟩ := rec_rd hL hj
  rw [nI_1]
  exact x_logByte h (by omega) (q _ (by rw [nI_add, h3]))
theorem w_begins_go (h : isJ J b e f) (hL : LogOK b e k) {s : Int32} {Q : Int32 → Prop} (q1 : (∃ j, j < k ∧ s = nI (wlk b j)) → Q 1) (q0 : (∀ j, j < k → s ≠ nI (wlk b j)) → Q 0) : ∀ N j, N + j = k → (∀ i, i < j → nI (wlk b i) < s) → wp_X2_beginsAt_3 J Q (N + 1) s (nI (wlk b j)) := by
  have he := h.2.2.1
  have h1 := hL.1.1
  have hlt : ∀ i, i ≤ k → wlk b i < 2 ^ 31 := fun i hi => by have := wlk_mono (b := b) hi; omega
  have nlt : ∀ {x y : Int32}, x < y → x ≠ y := fun {x y} h z => by rw [z] at h; exact Int32.lt_irrefl h
  have ngt : ∀ {x y : Int32}, x < y → ¬ y ≤ x := fun h => Int32.not_le.mpr h
  have fin : ∀ j, j ≤ k → (∀ i, i < j → nI (wlk b i) < s) → (s ≤ nI (wlk b j) ∨ j = k) → wp_X2_beginsAt_33 J Q s (nI (wlk b j)) := by
    intro j hj hi hs
    refine ⟨fun z => w_wh h hL hj ?_, fun z => q0 fun i hik hz => ?_⟩
    · by_cases c : j < k
      · rw [if_pos c]
        exact ⟨fun y => absurd y (by decide), fun _ => q1 ⟨j, c, z.symm⟩⟩
      · rw [if_neg c]
        refine ⟨fun _ => q0 fun i hik hz => ?_, fun y => absurd rfl y⟩
        exact nlt (hi i (by omega)) hz.symm
    · by_cases c : i < j
      · exact nlt (hi i c) hz.symm
      · by_cases c2 : i = j
        · exact z (by rw [hz, c2])
        · rcases hs with hs | hs
          · rw [hz] at hs
            exact ngt (nI_lt (wlk_lt (show j < i by omega)) (hlt i (by omega))) hs
          · omega
  intro N
  induction N with
  | zero =>
    intro j hj hi
    obtain rfl : j = k := by omega
    refine ⟨fun _ => fin j (Nat.le_refl _) hi (Or.inr rfl), fun _ => ⟨fun _ => fin j (Nat.le_refl _) hi (Or.inr rfl), fun _ => w_wh h hL (Nat.le_refl _) ?_⟩⟩
    rw [if_neg (by omega)]
    exact ⟨fun _ => fin j (Nat.le_refl _) hi (Or.inr rfl), fun y => absurd rfl y⟩
  | succ N ih =>
    intro j hj hi
    have hr := (rec_rd hL (show j < k by omega)).2.2.2.1
    have hr6 := (rec_rd hL (show j < k by omega)).1
    refine ⟨fun z => fin j (by omega) hi (Or.inl z), fun z => ⟨fun y => ?_, fun _ => w_wh h hL (by omega) ?_⟩⟩
    · rw [h.1] at y
      have := (nI_leI (by omega) (hlt j (by omega))).mp y
      omega
    · rw [if_pos (by omega)]
      refine ⟨fun y => absurd y (by decide), fun _ => w_bhd h hL (by omega) ?_⟩
      refine ih (j + 1) (by omega) fun i hij => ?_
      by_cases c : i < j
      · exact hi i c
      · rw [show i = j by omega]; exact Int32.not_le.mp z
theorem w_beginsAt (h : isJ J b e f) (hL : LogOK b e k) {s : Int32} {Q : Int32 → Prop} (q1 : ∀ j, j < k → s = nI (wlk b j) → Q 1) (q0 : (∀ j, j < k → s ≠ nI (wlk b j)) → Q 0) : wp_X2_beginsAt J s Q := ⟨k + 1, w_begins_go h hL (fun ⟨j, h1, h2⟩ => q1 j h1 h2) q0 k 0 (by omega) (fun i hi => by omega)⟩
theorem x_begins_go (h : isM (g11_now m) b e f) (hL : LogOK b e k) {s : Int32} {Q : Int32 → Prop} (q1 : (∃ j, j < k ∧ s = nI (wlk b j)) → Q 1) (q0 : (∀ j, j < k → s ≠ nI (wlk b j)) → Q 0) : ∀ N j, N + j = k → (∀ i, i < j → nI (wlk b i) < s) → wp_X11_isRecord_3 m Q (N + 1) s (nI (wlk b j)) := by
  have he := h.2.2.2.2.1
  have h1 := hL.1.1
  have hlt : ∀ i, i ≤ k → wlk b i < 2 ^ 31 := fun i hi => by have := wlk_mono (b := b) hi; omega
  have nlt : ∀ {x y : Int32}, x < y → x ≠ y := fun {x y} h z => by rw [z] at h; exact Int32.lt_irrefl h
  have ngt : ∀ {x y : Int32}, x < y → ¬ y ≤ x := fun h => Int32.not_le.mpr h
  have fin : ∀ j, j ≤ k → (∀ i, i < j → nI (wlk b i) < s) → (s ≤ nI (wlk b j) ∨ j = k) → wp_X11_isRecord_29 m Q s (nI (wlk b j)) := by
    intro j hj hi hs
    refine ⟨fun z => x_wh h hL hj ?_, fun z => q0 fun i hik hz => ?_⟩
    · by_cases c : j < k
      · rw [if_pos c]
        exact ⟨fun y => absurd y (by decide), fun _ => q1 ⟨j, c, z.symm⟩⟩
      · rw [if_neg c]
        refine ⟨fun _ => q0 fun i hik hz => ?_, fun y => absurd rfl y⟩
        exact nlt (hi i (by omega)) hz.symm
    · by_cases c : i < j
      · exact nlt (hi i c) hz.symm
      · by_cases c2 : i = j
        · exact z (by rw [hz, c2])
        · rcases hs with hs | hs
          · rw [hz] at hs
            exact ngt (nI_lt (wlk_lt (show j < i by omega)) (hlt i (by omega))) hs
          · omega
  intro N
  induction N with
  | zero =>
    intro j hj hi
    obtain rfl : j = k := by omega
    refine ⟨fun _ => fin j (Nat.le_refl _) hi (Or.inr rfl), fun _ => x_wh h hL (Nat.le_refl _) ?_⟩
    rw [if_neg (by omega)]
    exact ⟨fun _ => fin j (Nat.le_refl _) hi (Or.inr rfl), fun y => absurd rfl y⟩
  | succ N ih =>
    intro j hj hi
    refine ⟨fun z => fin j (by omega) hi (Or.inl z), fun z => x_wh h hL (by omega) ?_⟩
    rw [if_pos (by omega)]
    refine ⟨fun y => absurd y (by decide), fun _ => x_len h hL (by omega) fun x hx y ey => ?_⟩
    rw [ey, hx]
    refine ih (j + 1) (by omega) fun i hij => ?_
    by_cases c : i < j
    · exact hi i c
    · rw [show i = j by omega]; exact Int32.not_le.mp z
theorem x_isRecord (h : isM (g11_now m) b e f) (hL : LogOK b e k) {s : Int32} {Q : Int32 → Prop} (q1 : ∀ j, j < k → s = nI (wlk b j) → Q 1) (q0 : (∀ j, j < k → s ≠ nI (wlk b j)) → Q 0) : wp_X11_isRecord m s Q := ⟨k + 1, x_begins_go h hL (fun ⟨j, h1, h2⟩ => q1 j h1 h2) q0 k 0 (by omega) (fun i hi => by omega)⟩
end
