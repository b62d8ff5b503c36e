/-! ===== a log with a record more; a log cut off; its records are whole ===== -/
section
variable {b b2 : Nat → Nat} {e k : Nat} {T : Nat → Nat × Nat} {Sp : Nat → Prop} {c : Nat → Nat} {v : Nat → Nat}
theorem Leg_nx (h : Leg T Sp c v) (hT : ∀ t, (T t).2 = 0 ∨ Sp (T t).2) : vnx v = 0 ∨ Sp (vnx v) := by
  obtain ⟨-, ⟨-, -, h3⟩, -, -, -, h4, h9, -, -⟩ := h
  unfold vnx
  split
  · rename_i c; exact (h4 c).2.1
  · split
    · rename_i c; exact (h9 c).1
    · rw [h3]
      split
      · exact Or.inl rfl
      · exact hT _
theorem lenK_10 : ∀ x, x < 10 → lenK x = (if x = 0 then 0 else if x = 2 then 9 else if x = 3 then 8 else if x = 4 then 11 else if x = 9 then 8 else 6) := by decide
theorem Leg_len (h : Leg T Sp c v) : (1 ≤ v 0 ∧ v 0 ≤ 10) ∧ (v 0 ≠ 10 → v 1 = if v 0 = 2 then 9 else if v 0 = 3 then 8 else if v 0 = 4 then 11 else if v 0 = 9 then 8 else 6) ∧ (v 0 = 10 → v 1 = 8 + 4 * v 5 + 3 * v (6 + 4 * v 5)) := by
  obtain ⟨⟨h6, h68, hd, hs⟩, -⟩ := h
  unfold due at hd
  simp only [Nat.zero_add] at hd
  by_cases c1 : v 0 = 10
  · rw [if_pos c1] at hd
    exact ⟨by omega, fun z => absurd c1 z, fun _ => hd⟩
  · rw [if_neg c1] at hd
    by_cases c2 : v 0 < 10
    · rw [if_pos c2, lenK_10 _ c2] at hd
      refine ⟨?_, fun _ => ?_, fun z => absurd z c1⟩
      · by_cases c3 : v 0 = 0
        · rw [if_pos c3] at hd; omega
        · omega
      · by_cases c3 : v 0 = 0
        · rw [if_pos c3] at hd; omega
        · rw [if_neg c3] at hd; exact hd
    · rw [if_neg c2] at hd; omega
theorem leg_pot (h : Leg T Sp c v) (hw : v 2 ≠ 0) (s : Nat) (hT : (T (v 2)).1 = 0 → (T (v 2)).2 = 0) {A : Nat} (hA : A = if v 0 = 7 then 0 else vun v + c (vnx v)) :
    8 * A ≤ 8 * c (T (v 2)).2 + v 1 ∧ (v 0 = 4 ∨ v 0 = 6 ∨ v 0 = 7 → v 1 + 11 * A + wt (lrn T s v (v 2)).1 ≤ 11 * c (T (v 2)).2 + wt (T (v 2)).1) := by
  obtain ⟨k1, k2, k3⟩ := Leg_len h
  obtain ⟨h1, ⟨h9, hwho, hpv⟩, hk1, hk2, hk3, hk4, hk9, hk7, hk10⟩ := h
  rw [if_neg hw] at hpv
  have hn10 : v 0 ≠ 10 := fun z => hw (hwho.mpr (Or.inr z))
  have hL := k2 hn10
  have hl : (lrn T s v (v 2)).1 = (if v 0 = 7 then 0 else if v 0 = 5 then 3 else if v 0 = 6 then 2 else if (T (v 2)).1 = 0 then 1 else (T (v 2)).1) := by
    unfold lrn
    rw [if_neg (by omega)]
    split <;> rfl
  rw [hl]
  by_cases c7 : v 0 = 7
  · have := hk7 c7
    rw [if_pos c7] at hA
    rw [if_pos c7]
    subst hA
    refine ⟨by omega, fun _ => ?_⟩
    rw [if_neg (by omega), if_neg (by omega), if_neg (by omega), if_neg (by omega)] at hL
    unfold wt
    rw [if_pos rfl, if_neg this]
    split <;> omega
  · rw [if_neg c7] at hA ⊢
    by_cases c4 : v 0 = 4
    · obtain ⟨q1, q2, q3⟩ := hk4 c4
      have : A = c (pr2 v 8) := by
        rw [hA]; unfold vun vnx
        rw [if_neg (by omega), if_pos c4, Nat.zero_add]
      rw [if_neg (by omega), if_neg (by omega), if_pos c4] at hL
      refine ⟨by omega, fun _ => ?_⟩
      rw [if_neg (by omega), if_neg (by omega), if_neg (by omega)]
      omega
    · by_cases c9 : v 0 = 9
      · obtain ⟨q1, q2⟩ := hk9 c9
        have : A = c (pr2 v 5) := by
          rw [hA]; unfold vun vnx
          rw [if_neg (by omega), if_neg c4, if_pos c9, Nat.zero_add]
        exact ⟨by omega, fun _ => by omega⟩
      · have hA2 : A = vun v + c (T (v 2)).2 := by
          rw [hA, ← hpv]; unfold vnx
          rw [if_neg c4, if_neg c9]
        unfold vun at hA2
        by_cases c2 : v 0 = 2 ∨ v 0 = 3
        · rw [if_pos c2] at hA2
          refine ⟨?_, fun _ => by omega⟩
          rcases c2 with c2 | c2
          · rw [if_pos c2] at hL; omega
          · rw [if_neg (by omega), if_pos c2] at hL; omega
        · rw [if_neg c2] at hA2
          refine ⟨by omega, fun z => ?_⟩
          have c6 : v 0 = 6 := by omega
          have := hk2 (by omega)
          rw [if_neg (by omega), if_neg (by omega), if_neg (by omega), if_neg (by omega)] at hL
          rw [if_neg (by omega), if_pos c6, this]
          show v 1 + 11 * A + 6 ≤ 11 * c (T (v 2)).2 + 12
          omega
theorem sum9_pt {f g : Nat → Nat} {t : Nat} (h1 : 1 ≤ t) (h9 : t ≤ 9) (h : ∀ u, u ≠ t → g u = f u) : sum9 g + f t = sum9 f + g t := by
  have a1 := h 1; have a2 := h 2; have a3 := h 3; have a4 := h 4; have a5 := h 5; have a6 := h 6; have a7 := h 7; have a8 := h 8; have a9 := h 9
  unfold sum9
  have : t = 1 ∨ t = 2 ∨ t = 3 ∨ t = 4 ∨ t = 5 ∨ t = 6 ∨ t = 7 ∨ t = 8 ∨ t = 9 := by omega
  rcases this with rfl | rfl | rfl | rfl | rfl | rfl | rfl | rfl | rfl <;> omega
theorem wt_le (i : Nat) : wt i ≤ 12 := by unfold wt; split <;> (try split) <;> omega
theorem sum9_wt (f g : Nat → Nat) : sum9 (fun t => 11 * f t + wt (g t)) = 11 * sum9 f + sum9 (fun t => wt (g t)) ∧ sum9 (fun t => wt (g t)) ≤ 108 := by
  have := wt_le (g 1); have := wt_le (g 2); have := wt_le (g 3); have := wt_le (g 4); have := wt_le (g 5); have := wt_le (g 6); have := wt_le (g 7); have := wt_le (g 8); have := wt_le (g 9)
  simp only [sum9]
  refine ⟨?_, ?_⟩ <;> omega
theorem appB_agr {r : List Nat} (he : wlk b k = e) : ∀ i, i < wlk b k → appB b e r i = b i := fun i hi => by unfold appB; rw [if_pos (by omega)]
theorem rv_app {r : List Nat} (hl : r.getD 1 0 = r.length) (h6 : 6 ≤ r.length) : rv (appB b e r) e = (fun i => r.getD i 0) ∧ bhd (appB b e r) e = e + r.length := by
  have e1 : appB b e r (e + 1) = r.length := by unfold appB; rw [if_neg (by omega), show e + 1 - e = 1 by omega]; exact hl
  refine ⟨?_, by unfold bhd; rw [e1]; omega⟩
  funext i
  unfold rv
  rw [e1]
  split
  · unfold appB; rw [if_neg (by omega), show e + i - e = i by omega]
  · simp [List.getD, List.getElem?_eq_none (show r.length ≤ i by omega)]
theorem LogOK_app (h : LogOK b e k) (he : wlk b k = e) {r : List Nat} (hl : r.getD 1 0 = r.length) (h6 : 6 ≤ r.length) (hr : Leg (rp b k) (St b k) (ch b) (fun i => r.getD i 0)) (hfull : e ≤ 3500 ∨ r.getD 0 0 = 4 ∨ r.getD 0 0 = 6 ∨ r.getD 0 0 = 7) :
    LogOK (appB b e r) (e + r.length) (k + 1) ∧ wlk (appB b e r) (k + 1) = e + r.length ∧ rp (appB b e r) (k + 1) = lrn (rp b k) e (fun i => r.getD i 0) ∧ ch (appB b e r) e = vun (fun i => r.getD i 0) + ch b (vnx (fun i => r.getD i 0)) := by
  have ha := appB_agr (r := r) he
  obtain ⟨hv, hbh⟩ := rv_app (b := b) (e := e) hl h6
  have hw : ∀ j, j ≤ k → wlk (appB b e r) j = wlk b j := wlk_agr ha
  have hwk : wlk (appB b e r) k = e := by rw [hw k (Nat.le_refl _)]; exact he
  have hw1 : wlk (appB b e r) (k + 1) = e + r.length := by show bhd _ (wlk _ k) = _; rw [hwk]; exact hbh
  have hrp : rp (appB b e r) (k + 1) = lrn (rp b k) e (fun i => r.getD i 0) := by
    show lrn (rp _ k) (wlk _ k) (rv _ (wlk _ k)) = _
    rw [rp_agr ha k (Nat.le_refl _), hwk, hv]
  have h8 := wlk_8 (b := b) k
  have hnx : Sz b k (vnx (fun i => r.getD i 0)) := Leg_nx hr fun t => (rp_Sz k t).1
  have hcn : ch (appB b e r) e = vun (fun i => r.getD i 0) + ch b (vnx (fun i => r.getD i 0)) := by
    unfold ch
    obtain ⟨n, hn⟩ : ∃ n, e = n + 1 := ⟨e - 1, by omega⟩
    rw [show chn (appB b e r) e e = chn (appB b e r) (n + 1) e by rw [← hn]]
    show (if _ then _ else _) = _
    have := Sz_lt hnx
    rw [if_neg (by omega), hv, chn_agr h ha n _ hnx, chn_fuel h n _ _ hnx (by omega) (Nat.le_refl _)]
  have hco : ∀ s, Sz b k s → ch (appB b e r) s = ch b s := fun s hs => ch_agr h ha hs
  refine ⟨⟨⟨by omega, Or.inl ?_⟩, fun j hj => ?_, fun j hj => ?_⟩, hw1, hrp, hcn⟩
  · rw [hw1]
    unfold appB
    rw [if_neg (by omega)]
    simp [List.getD, List.getElem?_eq_none (show r.length ≤ e + r.length + 1 - e by omega)]
  · by_cases cj : j = k
    · subst cj
      rw [hwk, hv, rp_agr ha j (Nat.le_refl _)]
      exact Leg_c hr (fun s hs => (St_agr ha (Nat.le_refl _)).mpr hs) hco fun t => (rp_Sz j t).1
    · rw [hw j (by omega), rp_agr ha j (by omega), rvw_agr ha (by omega)]
      exact Leg_c (h.2.1 j (by omega)) (fun s hs => (St_agr ha (by omega)).mpr hs) (fun s hs => hco s (Sz_mono (show j ≤ k by omega) hs)) fun t => (rp_Sz j t).1
  · by_cases cj : j = k + 1
    · subst cj
      rw [hw1, hrp]
      obtain ⟨p1, p2⟩ := h.2.2 k (Nat.le_refl _)
      rw [he] at p1 p2
      obtain ⟨s1, s2⟩ := sum9_wt (fun t => ch b (rp b k t).2) (fun t => (rp b k t).1)
      rw [s1] at p2
      obtain ⟨s3, s4⟩ := sum9_wt (fun t => ch (appB b e r) (lrn (rp b k) e (fun i => r.getD i 0) t).2) (fun t => (lrn (rp b k) e (fun i => r.getD i 0) t).1)
      rw [s3]
      have hLen := hr.1.2.1
      have hLe : r.length ≤ 68 := by rw [← hl]; exact hLen
      have hkeep : ∀ t, t ≠ r.getD 2 0 ∨ r.getD 2 0 = 0 → lrn (rp b k) e (fun i => r.getD i 0) t = rp b k t := fun t ht => by
        unfold lrn
        rw [if_pos (by rcases ht with z | z; exact Or.inl z; exact Or.inr (Or.inl z))]
      have hck : ∀ t, ch (appB b e r) (rp b k t).2 = ch b (rp b k t).2 := fun t => hco _ (rp_Sz k t).1
      by_cases cw : r.getD 2 0 = 0
      · have e1 : ∀ t, lrn (rp b k) e (fun i => r.getD i 0) t = rp b k t := fun t => hkeep t (Or.inr cw)
        simp only [e1, hck] at s4 ⊢
        refine ⟨by omega, ?_⟩
        have hk8 : r.getD 0 0 = 8 ∨ r.getD 0 0 = 10 := (hr.2.1.2.1.mp cw)
        rcases hfull with z | z | z | z <;> omega
      · obtain ⟨q1, q2⟩ := leg_pot hr cw e (rp_Sz k _).2.1 rfl
        have hw9 : r.getD 2 0 ≤ 9 := hr.2.1.1
        have hA : ch (appB b e r) (lrn (rp b k) e (fun i => r.getD i 0) (r.getD 2 0)).2 = (if r.getD 0 0 = 7 then 0 else vun (fun i => r.getD i 0) + ch b (vnx (fun i => r.getD i 0))) := by
          unfold lrn
          rw [if_neg (show ¬ (r.getD 2 0 ≠ r.getD 2 0 ∨ r.getD 2 0 = 0 ∨ 9 < r.getD 2 0) by omega)]
          by_cases c7 : r.getD 0 0 = 7
          · rw [if_pos c7, if_pos c7]; rfl
          · rw [if_neg c7, if_neg c7]; exact hcn
        have t1 := sum9_pt (f := fun t => ch b (rp b k t).2) (g := fun t => ch (appB b e r) (lrn (rp b k) e (fun i => r.getD i 0) t).2) (t := r.getD 2 0) (by omega) hw9 (fun u hu => by show ch _ _ = _; rw [hkeep u (Or.inl hu), hck])
        have t2 := sum9_pt (f := fun t => wt (rp b k t).1) (g := fun t => wt (lrn (rp b k) e (fun i => r.getD i 0) t).1) (t := r.getD 2 0) (by omega) hw9 (fun u hu => by show wt _ = _; rw [hkeep u (Or.inl hu)])
        have q1 : 8 * (if r.getD 0 0 = 7 then 0 else vun (fun i => r.getD i 0) + ch b (vnx (fun i => r.getD i 0))) ≤ 8 * ch b (rp b k (r.getD 2 0)).2 + r.getD 1 0 := q1
        have q2 : r.getD 0 0 = 4 ∨ r.getD 0 0 = 6 ∨ r.getD 0 0 = 7 → r.getD 1 0 + 11 * (if r.getD 0 0 = 7 then 0 else vun (fun i => r.getD i 0) + ch b (vnx (fun i => r.getD i 0))) + wt (lrn (rp b k) e (fun i => r.getD i 0) (r.getD 2 0)).1 ≤ 11 * ch b (rp b k (r.getD 2 0)).2 + wt (rp b k (r.getD 2 0)).1 := q2
        simp only [hA] at t1
        generalize (if r.getD 0 0 = 7 then 0 else vun (fun i => r.getD i 0) + ch b (vnx (fun i => r.getD i 0))) = A at t1 q1 q2
        rw [hl] at q1 q2
        refine ⟨by omega, ?_⟩
        rcases hfull with z | z
        · omega
        · have := q2 z
          omega
    · rw [hw j (by omega), rp_agr ha j (by omega)]
      have e1 : ∀ t, ch (appB b e r) (rp b j t).2 = ch b (rp b j t).2 := fun t => hco _ (Sz_mono (show j ≤ k by omega) (rp_Sz j t).1)
      simp only [e1]
      exact h.2.2 j (by omega)
/-- the bytes ahead of e alone -/
def trB (b : Nat → Nat) (e : Nat) : Nat → Nat := fun i => if i < e then b i else 0
theorem LogOK_tr (h : LogOK b e k) {e2 : Nat} (h8 : 8 ≤ e2) (hle : e2 ≤ e) : ∃ k2, k2 ≤ k ∧ LogOK (trB b e2) e2 k2 ∧ wlk b k2 ≤ e2 ∧ (∀ j, j ≤ k → wlk b j ≤ e2 → j ≤ k2) := by
  have hex : ∀ N, ∃ k2, k2 ≤ N ∧ wlk b k2 ≤ e2 ∧ ∀ j, j ≤ N → wlk b j ≤ e2 → j ≤ k2 := by
    intro N
    induction N with
    | zero => exact ⟨0, Nat.le_refl _, h8, fun j hj _ => hj⟩
    | succ N ih =>
      obtain ⟨k2, i1, i2, i3⟩ := ih
      by_cases c : wlk b (N + 1) ≤ e2
      · exact ⟨N + 1, Nat.le_refl _, c, fun j hj _ => hj⟩
      · refine ⟨k2, by omega, i2, fun j hj hl => ?_⟩
        by_cases d : j = N + 1
        · subst d; exact absurd hl c
        · exact i3 j (by omega) hl
  obtain ⟨k2, i1, i2, i3⟩ := hex k
  refine ⟨k2, i1, LogOK_cut h i1 (fun i hi => by unfold trB; rw [if_pos (by omega)]) ⟨i2, ?_⟩, i2, i3⟩
  unfold trB
  by_cases c : wlk b k2 + 1 < e2
  · rw [if_pos c]
    by_cases d : k2 = k
    · subst d
      rcases h.1.2 with z | z
      · exact Or.inl z
      · exact Or.inr (by omega)
    · refine Or.inr ?_
      have h6 := (h.2.1 k2 (by omega)).1.1
      rw [rv_1] at h6
      have hn : ¬ wlk b (k2 + 1) ≤ e2 := fun z => by have := i3 (k2 + 1) (by omega) z; omega
      have : wlk b (k2 + 1) = wlk b k2 + max (b (wlk b k2 + 1)) 6 := rfl
      omega
  · rw [if_neg c]; exact Or.inl rfl
theorem sumN_c {f g : Nat → Nat} {s t : Nat} : ∀ N, (∀ i, i < N → f (s + i) = g (t + i)) → sumN f s N = sumN g t N := by
  intro N
  induction N with
  | zero => intro _; rfl
  | succ N ih => intro h; show sumN f s N + f (s + N) = sumN g t N + g (t + N); rw [ih fun i hi => h i (by omega), h N (by omega)]
/-- what a record of the log is -/
theorem rec_rd (h : LogOK b e k) {j : Nat} (hj : j < k) : 6 ≤ b (wlk b j + 1) ∧ b (wlk b j + 1) ≤ 68 ∧ wlk b (j + 1) = wlk b j + b (wlk b j + 1) ∧ wlk b j + b (wlk b j + 1) ≤ e ∧ (∀ i, i < b (wlk b j + 1) → rv b (wlk b j) i = b (wlk b j + i)) := by
  have h6 := (h.2.1 j hj).1.1
  have h68 := (h.2.1 j hj).1.2.1
  rw [rv_1] at h6 h68
  have e1 : wlk b (j + 1) = wlk b j + max (b (wlk b j + 1)) 6 := rfl
  have e2 : wlk b (j + 1) ≤ wlk b k := wlk_mono hj
  have := h.1.1
  exact ⟨h6, h68, by omega, by omega, fun i hi => rv_rd (by omega)⟩
theorem rec_whl (h : LogOK b e k) (hb : ∀ i, b i < 256) {j : Nat} (hj : j < k) : whl b e (wlk b j) = true ∧ mwh b e (wlk b j) = true := by
  obtain ⟨h6, h68, h3, h4, hv⟩ := rec_rd h hj
  have hL := h.2.1 j hj
  obtain ⟨k1, k2, k3⟩ := Leg_len hL
  obtain ⟨⟨-, -, hd, hs⟩, -, -, -, -, -, -, -, h10⟩ := hL
  have h8 := wlk_8 (b := b) j
  generalize hs0 : wlk b j = s at *
  have e0 : rv b s 0 = b s := hv 0 (by omega)
  have e1 : rv b s 1 = b (s + 1) := hv 1 (by omega)
  have e5 : rv b s 5 = b (s + 5) := hv 5 (by omega)
  have h10b : b s = 10 → b (s + 1) = 8 + 4 * b (s + 5) + 3 * b (s + 6 + 4 * b (s + 5)) ∧ b (s + 5) ≤ 9 ∧ b (s + 6 + 4 * b (s + 5)) ≤ 8 := fun z => by
    have z1 := k3 (by rw [e0]; exact z)
    have z2 := (h10 (by rw [e0]; exact z)).1
    rw [e5, e1] at z1
    rw [e5] at z2
    have e6 : rv b s (6 + 4 * b (s + 5)) = b (s + 6 + 4 * b (s + 5)) := by
      rw [hv _ (by omega)]; congr 1; omega
    rw [e6] at z1 z2
    exact ⟨z1, z2⟩
  have hdue : b (s + 1) = due b s := by
    rw [← e1, hd]
    unfold due
    simp only [Nat.zero_add]
    rw [e0, e5]
    by_cases c : b s = 10
    · rw [if_pos c, if_pos c]
      have := (h10b c).1
      rw [hv _ (by omega)]
      congr 3; omega
    · rw [if_neg c, if_neg c]
  have hw : whl b e s = true := by
    unfold whl
    refine decide_eq_true ⟨h8, h6, hdue, h4, ?_⟩
    rw [e1] at hs
    rw [sumN_c (g := rv b s) (t := 0) _ (fun i hi => by rw [Nat.zero_add, hv i (by omega)]), hs, hv _ (by omega)]
    congr 1; omega
  refine ⟨hw, ?_⟩
  rw [← whl_mwh hb h8 (fun z _ _ => (h10b z).2)]
  exact hw
theorem end_whl (h : LogOK b e k) (hb : ∀ i, b i < 256) : whl b e (wlk b k) = false ∧ mwh b e (wlk b k) = false := by
  have h8 := wlk_8 (b := b) k
  obtain ⟨⟨h1, h2⟩, -⟩ := h
  constructor
  · unfold whl
    exact decide_eq_false fun z => by omega
  · unfold mwh
    exact decide_eq_false fun z => by omega
/-- the places that a walk over the log sees -/
theorem rec_onw (h : LogOK b e k) {j : Nat} (hj : j < k) : onw b (wlk b j) = vnx (rv b (wlk b j)) ∧ und b (wlk b j) = decide (vun (rv b (wlk b j)) = 1) ∧ (b (wlk b j) = 4 → wlk b j + 11 ≤ e) ∧ (b (wlk b j) = 9 → wlk b j + 8 ≤ e) ∧ (b (wlk b j) = 2 → wlk b j + 9 ≤ e) ∧ (b (wlk b j) = 3 → wlk b j + 8 ≤ e) := by
  obtain ⟨h6, h68, h3, h4, hv⟩ := rec_rd h hj
  obtain ⟨k1, k2, k3⟩ := Leg_len (h.2.1 j hj)
  generalize hs0 : wlk b j = s at *
  have e0 : rv b s 0 = b s := hv 0 (by omega)
  have e1 : rv b s 1 = b (s + 1) := hv 1 (by omega)
  rw [e0, e1] at k2
  have p2 : ∀ i, i + 1 < b (s + 1) → pr2 (rv b s) i = pr2 b (s + i) := fun i hi => by unfold pr2; rw [hv _ (by omega), hv _ hi]; rfl
  refine ⟨?_, ?_, fun z => ?_, fun z => ?_, fun z => ?_, fun z => ?_⟩
  · unfold onw vnx
    rw [e0]
    by_cases c4 : b s = 4
    · have := k2 (by omega)
      rw [if_neg (by omega), if_neg (by omega), if_pos c4] at this
      rw [if_pos c4, if_pos c4, p2 8 (by omega)]
    · rw [if_neg c4, if_neg c4]
      by_cases c9 : b s = 9
      · have := k2 (by omega)
        rw [if_neg (by omega), if_neg (by omega), if_neg c4, if_pos c9] at this
        rw [if_pos c9, if_pos c9, p2 5 (by omega)]
      · rw [if_neg c9, if_neg c9, p2 3 (by omega)]
  · unfold und vun
    rw [e0]
    by_cases c : b s = 2 ∨ b s = 3
    · rw [if_pos c]
      rcases c with c | c <;> simp [c]
    · rw [if_neg c]
      simp
      omega
  all_goals have := k2 (by omega)
  · rw [if_neg (by omega), if_neg (by omega), if_pos z] at this; omega
  · rw [if_neg (by omega), if_neg (by omega), if_neg (by omega), if_pos z] at this; omega
  · rw [if_pos z] at this; omega
  · rw [if_neg (by omega), if_pos z] at this; omega
end
