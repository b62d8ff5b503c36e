/-! ===== guards, and which records may be written ===== -/
section
variable {m : S11} {n : Nat → Int32} {pn : Int32} {F F2 : Nat → Nat} {G : Nat → Int32} {b : Nat → Nat} {e f k : Nat} {w : S9} {T : Nat → Nat × Nat} {Sp : Nat → Prop} {c : Nat → Nat}
theorem party (x : Int32) : (x < 1 ∨ (¬ x < 1 ∧ 9 < x)) ∨ ∃ t : Nat, 1 ≤ t ∧ t ≤ 9 ∧ x = nI t := by
  by_cases h1 : x < 1
  · exact Or.inl (Or.inl h1)
  · by_cases h9 : 9 < x
    · exact Or.inl (Or.inr ⟨h1, h9⟩)
    · have h1 : ¬ x < nI 1 := h1
      have h9 : ¬ nI 9 < x := h9
      have h0 : ¬ x < 0 := fun z => h1 (Int32.lt_trans z (by decide))
      obtain ⟨j, hj, rfl⟩ := nI_of h0
      refine Or.inr ⟨j, ?_, ?_, rfl⟩
      · exact Nat.not_lt.mp fun z => h1 (nI_lt z (by decide))
      · exact Nat.not_lt.mp fun z => h9 (nI_lt z hj)
theorem w_party1 {t : Nat} (h1 : 1 ≤ t) (h9 : t ≤ 9) {Q : Int32 → Prop} (q : Q 1) : wp_X10_isParty (nI t) Q := pk_lt t 1 (fun z => by omega) fun _ => pk_lt 9 t (fun z => by omega) fun _ => q
theorem w_party0 {x : Int32} (h : x < 1 ∨ (¬ x < 1 ∧ 9 < x)) {Q : Int32 → Prop} (q : Q 0) : wp_X10_isParty x Q := ⟨fun _ => q, fun z => ⟨fun _ => q, fun y => absurd y (by rcases h with h | h; exact absurd h z; exact fun y => y h.2)⟩⟩
theorem x_isIn1 {x : Int32} {a lo hi : Nat} (hx : x = nI a) (ha : a < 2 ^ 31) (hh : hi < 2 ^ 31) (h1 : lo ≤ a) (h2 : a ≤ hi) {Q : Int32 → Prop} (q : Q 1) : wp_X11_isIn m x (nI lo) (nI hi) Q := by
  rw [hx]
  refine x_isIn ha (by omega) hh ?_
  rw [decide_eq_true ⟨h1, h2⟩]; exact q
theorem x_isIn0 {x lo hi : Int32} (h : x < lo ∨ hi < x) {Q : Int32 → Prop} (q : Q 0) : wp_X11_isIn m x lo hi Q := ⟨fun _ => q, fun z => ⟨fun _ => q, fun y => by rcases h with h | h; exact absurd h z; exact absurd h y⟩⟩
theorem txA (t : Nat) (h : 1 ≤ t) (j : Nat) : (720 : Int32) + 18 * (nI t - 1) + nI j = nI (702 + 18 * t + j) := by
  obtain ⟨w, rfl⟩ : ∃ w, t = w + 1 := ⟨t - 1, by omega⟩
  show nI 720 + nI 18 * (nI (w + 1) - 1) + nI j = _
  rw [nI_pred, pk_mul, nI_add, nI_add]; congr 1; omega
theorem txA0 (t : Nat) (h : 1 ≤ t) : (720 : Int32) + 18 * (nI t - 1) = nI (702 + 18 * t) := by
  obtain ⟨w, rfl⟩ : ∃ w, t = w + 1 := ⟨t - 1, by omega⟩
  show nI 720 + nI 18 * (nI (w + 1) - 1) = _
  rw [nI_pred, pk_mul, nI_add]; congr 1; omega
theorem x_isOf (h : isR n F G b e f) {t : Nat} (h1 : 1 ≤ t) (h9 : t ≤ 9) {Q : Int32 → Prop} (q : Q (nI (F (702 + 18 * t)))) : wp_X11_isOf (mS m n pn) (nI t) Q := by
  show vp_in ((720 : Int32) + 18 * (nI t - 1) + nI 0) 10700 ∧ _
  rw [show (720 : Int32) + 18 * (nI t - 1) + 0 = (720 : Int32) + 18 * (nI t - 1) + nI 0 from rfl, txA t h1 0]
  refine ⟨ivp (by omega) (by omega), ?_⟩
  rw [nI_clamp (by omega), gmS, h.2.1 _ (by unfold nk; omega)]; exact q
theorem x_isUp (h : isR n F G b e f) (hb : F 3 < 65536) {Q : Int32 → Prop} (q : Q (if F 3 = 0 then 1 else 0)) : wp_X11_isUp (mS m n pn) Q := by
  refine ⟨ivp (k := 3) (by omega) (by omega), ?_⟩
  rw [show (3 : Int32).toNatClampNeg = 3 by decide, gmS, h.2.1 3 (by unfold nk; omega)]
  refine pk_eq (F 3) 0 (fun z => ?_) (fun z => ?_)
  · rw [if_pos z] at q; exact q
  · rw [if_neg z] at q; exact q
theorem x_go1 (h : isR n F G b e f) {t i : Nat} (h1 : 1 ≤ t) (h9 : t ≤ 9) (h3 : F 3 = 0) (hi : F (702 + 18 * t) = i) (hi2 : i < 65536) {Q : Int32 → Prop} (q : Q 1) : wp_X11_canGo (mS m n pn) (nI t) (nI i) Q := by
  refine x_isUp h (by omega) ?_
  rw [if_pos h3]
  refine ⟨fun z => absurd z (by decide), fun _ => x_isIn1 (lo := 1) (hi := 9) rfl (by omega) (by omega) h1 h9 ⟨fun z => absurd z (by decide), fun _ => x_isOf h h1 h9 ?_⟩⟩
  rw [hi]
  exact ⟨fun _ => q, fun z => absurd rfl z⟩
theorem x_go0 (h : isR n F G b e f) (hb : ∀ k, F k < 65536) {x : Int32} {i : Nat} (hi : i < 65536) (hx : F 3 ≠ 0 ∨ ∀ t, 1 ≤ t → t ≤ 9 → x = nI t → F (702 + 18 * t) ≠ i) {Q : Int32 → Prop} (q : Q 0) : wp_X11_canGo (mS m n pn) x (nI i) Q := by
  refine x_isUp h (hb 3) ?_
  by_cases c3 : F 3 = 0
  · rw [if_pos c3]
    refine ⟨fun _ => q, fun _ => ?_⟩
    rcases party x with hp | ⟨t, h1, h9, rfl⟩
    · refine x_isIn0 (by rcases hp with z | z; exact Or.inl z; exact Or.inr z.2) ⟨fun _ => q, fun z => absurd rfl z⟩
    · refine x_isIn1 (lo := 1) (hi := 9) rfl (by omega) (by omega) h1 h9 ⟨fun z => absurd z (by decide), fun _ => x_isOf h h1 h9 ?_⟩
      have hb2 := hb (702 + 18 * t)
      refine pk_eq (F (702 + 18 * t)) i (fun z => ?_) (fun _ => q)
      rcases hx with hx | hx
      · exact absurd c3 hx
      · exact absurd z (hx t h1 h9 rfl)
  · rw [if_neg c3]
    exact ⟨fun _ => q, fun z => absurd rfl z⟩
theorem w_run1 (h : RO (g9_roster w) F) {t : Nat} (h1 : 1 ≤ t) (h9 : t ≤ 9) (hi : F (702 + 18 * t) = 1) {Q : Int32 → Prop} (q : Q 1) : wp_X9_isRunning w (nI t) Q := by
  refine w_party1 h1 h9 ⟨fun z => absurd z (by decide), fun _ => ⟨ivp (by omega) (by omega), ?_⟩⟩
  rw [nI_clamp (by omega), (h t h1 h9).1, hi]
  exact ⟨fun _ => q, fun z => absurd rfl z⟩
theorem w_run0 (h : RO (g9_roster w) F) (hb : ∀ k, F k < 65536) {x : Int32} (hx : ∀ t, 1 ≤ t → t ≤ 9 → x = nI t → F (702 + 18 * t) ≠ 1) {Q : Int32 → Prop} (q : Q 0) : wp_X9_isRunning w x Q := by
  rcases party x with hp | ⟨t, h1, h9, rfl⟩
  · exact w_party0 hp ⟨fun _ => q, fun z => absurd rfl z⟩
  · refine w_party1 h1 h9 ⟨fun z => absurd z (by decide), fun _ => ⟨ivp (by omega) (by omega), ?_⟩⟩
    have hb2 := hb (702 + 18 * t)
    rw [nI_clamp (by omega), (h t h1 h9).1]
    exact pk_eq (F (702 + 18 * t)) 1 (fun z => absurd z (hx t h1 h9 rfl)) (fun _ => q)
theorem x_isFull (h : isR n F G b e f) {Q : Int32 → Prop} (q : Q (if e ≤ 3500 then 0 else 1)) : wp_X11_isFull (mS m n pn) Q := by
  have he := h.1.2.2.2.2.1
  refine x_end1 (m := mS m n pn) h.1 (pk_le e 3500 (fun z => ?_) (fun z => ?_))
  · rw [if_pos z] at q; exact q
  · rw [if_neg (by omega)] at q; exact q
theorem w_isFull (h : isJ (g9_journal w) b e f) {Q : Int32 → Prop} (q : Q (if e ≤ 3500 then 0 else 1)) : wp_X9_isFull w Q := by
  have he := h.2.2.1
  refine pk_le e 3500 (fun z => ?_) (fun z => ?_) h.1
  · rw [if_pos z] at q; exact q
  · rw [if_neg (by omega)] at q; exact q
/-- the record that seal makes has its length and its CHECK -/
theorem seal_len (ds : List Nat) : (sealR ds).length = ds.length + 1 := by unfold sealR; rw [List.length_append, List.length_set]; rfl
theorem seal_1 {ds : List Nat} (h : 1 < ds.length) : (sealR ds).getD 1 0 = (sealR ds).length := by
  rw [seal_len]
  unfold sealR
  rw [getD_app, if_pos (by rw [List.length_set]; exact h), getD_set1 h, if_pos rfl]
theorem seal_chk {ds : List Nat} (h : 1 < ds.length) : (90 + sumN (fun i => (sealR ds).getD i 0) 0 ((sealR ds).getD 1 0 - 1)) % 256 = (sealR ds).getD ((sealR ds).getD 1 0 - 1) 0 := by
  rw [seal_1 h, seal_len, show ds.length + 1 - 1 = ds.length by omega]
  have hl : (ds.set 1 (ds.length + 1)).length = ds.length := List.length_set ..
  have e1 : sumN (fun i => (sealR ds).getD i 0) 0 (ds.set 1 (ds.length + 1)).length = (ds.set 1 (ds.length + 1)).sum := by
    refine sumN_list _ fun k hk => ?_
    show (sealR ds).getD (0 + k) 0 = _
    rw [Nat.zero_add]
    unfold sealR
    rw [getD_app, if_pos hk]
  rw [hl] at e1
  rw [e1]
  unfold sealR
  rw [getD_app, hl, if_neg (by omega), if_pos rfl]
theorem sg0 {ds : List Nat} (h : 1 < ds.length) : (sealR ds).getD 0 0 = ds.getD 0 0 := sealR_g (by omega) (by omega) h
theorem pr2_ab {v : Nat → Nat} {i x : Nat} (h1 : v i = x / 256) (h2 : v (i + 1) = x % 256) : pr2 v i = x := by unfold pr2; rw [h1, h2]; omega
theorem leg_plain {kd t pv : Nat} (hk : kd = 1 ∨ kd = 5 ∨ kd = 6 ∨ kd = 7) (h1 : 1 ≤ t) (h9 : t ≤ 9) (hp : pv = (T t).2) (k1 : kd = 1 → (T t).1 = 0) (k5 : kd = 5 ∨ kd = 6 → (T t).1 = 1) (k7 : kd = 7 → (T t).1 ≠ 0) : Leg T Sp c (fun i => (plainR kd t pv).getD i 0) := by
  have g : ∀ i, i < 5 → i ≠ 1 → (plainR kd t pv).getD i 0 = [kd, 0, t, pv / 256, pv % 256].getD i 0 := fun i hi h1 => sealR_g hi h1 (by simp)
  have g0 : (plainR kd t pv).getD 0 0 = kd := g 0 (by omega) (by omega)
  have g1 : (plainR kd t pv).getD 1 0 = 6 := seal_1 (by simp)
  have g2 : (plainR kd t pv).getD 2 0 = t := g 2 (by omega) (by omega)
  have g3 : pr2 (fun i => (plainR kd t pv).getD i 0) 3 = pv := pr2_ab (g 3 (by omega) (by omega)) (g 4 (by omega) (by omega))
  unfold Leg
  simp only [g0, g1, g2, g3]
  refine ⟨⟨by omega, by omega, ?_, ?_⟩, ⟨h9, by omega, by rw [if_neg (by omega)]; exact hp⟩, k1, fun z => k5 (by omega), fun z => by omega, fun z => by omega, fun z => by omega, k7, fun z => by omega⟩
  · unfold due
    simp only [g0]
    rw [if_neg (by omega), if_pos (by omega)]
    rcases hk with rfl | rfl | rfl | rfl <;> rfl
  · have := seal_chk (ds := [kd, 0, t, pv / 256, pv % 256]) (by simp)
    have g1' : (sealR [kd, 0, t, pv / 256, pv % 256]).getD 1 0 = 6 := g1
    rw [g1'] at this
    exact this
theorem lrn_plain {kd t pv s : Nat} (h1 : 1 ≤ t) (h9 : t ≤ 9) : lrn T s (fun i => (plainR kd t pv).getD i 0) t = if kd = 7 then (0, 0) else (if kd = 5 then 3 else if kd = 6 then 2 else if (T t).1 = 0 then 1 else (T t).1, s) := by
  have g : ∀ i, i < 5 → i ≠ 1 → (plainR kd t pv).getD i 0 = [kd, 0, t, pv / 256, pv % 256].getD i 0 := fun i hi h1 => sealR_g hi h1 (by simp)
  have g0 : (plainR kd t pv).getD 0 0 = kd := g 0 (by omega) (by omega)
  have g2 : (plainR kd t pv).getD 2 0 = t := g 2 (by omega) (by omega)
  unfold lrn
  simp only [g0, g2]
  rw [if_neg (by omega)]
theorem plain_ne {kd t pv u s : Nat} (h : u ≠ t) : lrn T s (fun i => (plainR kd t pv).getD i 0) u = T u := by
  have g2 : (plainR kd t pv).getD 2 0 = t := sealR_g (ds := [kd, 0, t, pv / 256, pv % 256]) (by simp) (by omega) (by simp)
  exact lrn_ne (v := fun i => (plainR kd t pv).getD i 0) (by simp only [g2]; exact h)
theorem log_room (h : LogOK b e k) (he : wlk b k = e) : e ≤ 8590 := by have := (h.2.2 k (Nat.le_refl _)).2; omega
end
