/-! ===== how a record is written: start, put, seal ===== -/
def isPn (J : S2) (b : Nat → Nat) (e f : Nat) (ds : List Nat) : Prop := isJ J b e f ∧ g2_pen J = nI (e + ds.length) ∧ ∀ k, k < ds.length → g2_row J (e + k) = nI (ds.getD k 0)
theorem getD_app {l : List Nat} {x k : Nat} : (l ++ [x]).getD k 0 = if k < l.length then l.getD k 0 else if k = l.length then x else 0 := by
  by_cases h : k < l.length
  · rw [if_pos h]; simp [List.getD, List.getElem?_append_left h]
  · rw [if_neg h]
    by_cases h2 : k = l.length
    · subst h2; simp
    · rw [if_neg h2]
      obtain ⟨t, ht⟩ : ∃ t, k - l.length = t + 1 := ⟨k - l.length - 1, by omega⟩
      simp [List.getD, List.getElem?_append_right (Nat.not_lt.mp h), ht]
theorem w_put {J : S2} {b : Nat → Nat} {e f d : Nat} {ds : List Nat} {x : Int32} (h : isPn J b e f ds) (hl : e + ds.length < 8600) (hx : x &&& 255 = nI d) {Q : S2 → Prop} (q : ∀ J2, isPn J2 b e f (ds ++ [d]) → Q J2) : wp_X2_put J x Q := by
  obtain ⟨⟨h1, h2, h3, h4, h5, h6⟩, hp, hd⟩ := h
  unfold wp_X2_put
  rw [hp]
  refine ⟨fun c => absurd c (nI_pos (by omega)), fun _ => ⟨fun c => ?_, fun c => ⟨vp_in_nI hl (by omega), fun J1 e1 J2 e2 => ?_⟩⟩⟩
  · have c : nI 8600 ≤ nI (e + ds.length) := c
    have := (nI_leI (by omega) (by omega)).mp c
    omega
  · refine q J2 ?_
    rw [nI_clamp (by omega), hx] at e1
    subst e1; subst e2
    refine ⟨⟨h1, h2, h3, fun i hi => ?_, h5, h6⟩, ?_, fun k hk => ?_⟩
    · show upd (g2_row J) (e + ds.length) (nI d) i = _
      rw [pk_un (by omega)]; exact h4 i hi
    · show g2_pen J + 1 = _
      rw [hp, nI_1, List.length_append]; rfl
    · rw [List.length_append, List.length_singleton] at hk
      show upd (g2_row J) (e + ds.length) (nI d) (e + k) = _
      rw [getD_app]
      by_cases c1 : k < ds.length
      · rw [if_pos c1, pk_un (by omega)]; exact hd k c1
      · obtain rfl : k = ds.length := by omega
        rw [if_neg c1, if_pos rfl, pk_us]
theorem a255n (n : Nat) (h : n < 2 ^ 32) : nI n &&& 255 = nI (n % 256) := a255 h
theorem shr8 {n : Nat} (h : n < 2 ^ 31) : nI n >>> (8 &&& 31) = nI (n / 256) := pk_shrN h (8 &&& 31) 8 (by decide)
theorem w_putPair {J : S2} {b : Nat → Nat} {e f n : Nat} {ds : List Nat} (h : isPn J b e f ds) (hl : e + ds.length + 1 < 8600) (hn : n < 65536) {Q : S2 → Prop} (q : ∀ J2, isPn J2 b e f (ds ++ [n / 256, n % 256]) → Q J2) : wp_X2_putPair J (nI n) Q := by
  unfold wp_X2_putPair
  rw [shr8 (by omega)]
  refine w_put (d := n / 256) h (by omega) (by rw [a255 (by omega), Nat.mod_eq_of_lt (by omega)]) fun J1 h1 => ?_
  refine w_put (d := n % 256) h1 (by rw [List.length_append]; exact hl) (a255 (by omega)) fun J2 h2 => q J2 ?_
  rw [List.append_assoc] at h2
  exact h2
theorem w_start {J : S2} {b : Nat → Nat} {e f kd wh pv : Nat} (h : isJ J b e f) (he : e + 5 < 8600) (hk : kd < 256) (hw : wh < 256) (hp : pv < 65536) {Q : S2 → Prop} (q : ∀ J2, isPn J2 b e f [kd, 0, wh, pv / 256, pv % 256] → Q J2) : wp_X2_start J (nI kd) (nI wh) (nI pv) Q := by
  intro J1 e1
  have h0 : isPn J1 b e f [] := by
    subst e1
    exact ⟨h, h.1, fun k hk => absurd hk (by simp)⟩
  rw [shr8 (by omega)]
  refine w_put (d := kd) h0 (by simp; omega) (by rw [a255 (by omega), Nat.mod_eq_of_lt hk]) fun J2 h2 => ?_
  refine w_put (d := 0) (x := 0) h2 (by simp; omega) (by decide) fun J3 h3 => ?_
  refine w_put (d := wh) h3 (by simp; omega) (by rw [a255 (by omega), Nat.mod_eq_of_lt hw]) fun J4 h4 => ?_
  refine w_put (d := pv / 256) h4 (by simp; omega) (by rw [a255 (by omega), Nat.mod_eq_of_lt (by omega)]) fun J5 h5 => ?_
  exact w_put (d := pv % 256) h5 (by simp; omega) (a255 (by omega)) fun J6 h6 => q J6 h6
/-- the record that seal makes of what was put -/
def sealR (ds : List Nat) : List Nat := ds.set 1 (ds.length + 1) ++ [(90 + (ds.set 1 (ds.length + 1)).sum) % 256]
/-- the bytes with a record behind them -/
def appB (b : Nat → Nat) (e : Nat) (r : List Nat) : Nat → Nat := fun i => if i < e then b i else r.getD (i - e) 0
theorem sumN_list {b : Nat → Nat} {s : Nat} : ∀ (l : List Nat), (∀ k, k < l.length → b (s + k) = l.getD k 0) → sumN b s l.length = l.sum := by
  intro l
  induction l generalizing s with
  | nil => intro _; rfl
  | cons x l ih =>
    intro h
    have e1 : ∀ n, sumN b s (n + 1) = b s + sumN b (s + 1) n := by
      intro n
      induction n with
      | zero => show 0 + b (s + 0) = b s + 0; rw [Nat.add_zero, Nat.add_zero, Nat.zero_add]
      | succ n ih2 => show sumN b s (n + 1) + b (s + (n + 1)) = b s + (sumN b (s + 1) n + b (s + 1 + n)); rw [ih2, show s + (n + 1) = s + 1 + n by omega]; omega
    rw [List.length_cons, e1, List.sum_cons, ih (fun k hk => by have := h (k + 1) (by simp; omega); rw [show s + 1 + k = s + (k + 1) by omega, this]; simp)]
    have := h 0 (by simp)
    rw [show s + 0 = s by omega] at this
    rw [this]; simp
theorem w_seal_go {J : S2} {b : Nat → Nat} {e n : Nat} {ds : List Nat} (hp : g2_pen J = nI (e + ds.length)) (hl : e + ds.length < 8600) (hb : ∀ k, k < ds.length → g2_row J (e + k) = nI (ds.getD k 0)) (hd : ∀ k, ds.getD k 0 < 256) {Q : Int32 → S2 → Prop} (q : ∀ J2, g2_endPlace J2 = nI (e + ds.length + 1) → g2_flushedPlace J2 = g2_flushedPlace J → (∀ i, g2_row J2 i = if i = e + ds.length then nI ((90 + ds.sum) % 256) else g2_row J i) → Q (nI e) J2) :
    ∀ k i : Nat, k + i = ds.length → wp_X2_seal_57 Q (k + 1) (nI e) (nI (90 + sumN (fun j => ds.getD j 0) 0 i)) (nI (e + i)) J := by
  intro k
  induction k with
  | zero =>
    intro i hi
    obtain rfl : i = ds.length := by omega
    have hs := sumN_le hd 0 ds.length
    have e1 : sumN (fun j => ds.getD j 0) 0 ds.length = ds.sum := sumN_list ds (fun k _ => by rw [Nat.zero_add])
    refine ⟨fun _ => ?_, fun c => absurd (by rw [hp]; exact nI_le (Nat.le_refl _) (by omega)) c⟩
    rw [hp]
    refine ⟨vp_in_nI hl (by omega), fun J1 h1 J2 h2 => ?_⟩
    rw [nI_clamp (by omega), a255 (by omega), e1] at h1
    subst h1; subst h2
    refine q _ ?_ rfl fun i => ?_
    · show g2_pen J + 1 = _
      rw [hp, nI_1]
    · show upd (g2_row J) (e + ds.length) _ i = _
      rfl
  | succ k ih =>
    intro i hi
    have hs := sumN_le hd 0 i
    refine ⟨fun c => ?_, fun _ => ⟨vp_in_nI (by omega) (by omega), fun x ex y ey => ?_⟩⟩
    · rw [hp] at c
      exact absurd c (nI_ge (by omega) (by omega))
    · rw [ex, ey, nI_clamp (by omega), hb i (by omega), nI_add, nI_1, Nat.add_assoc e i 1]
      have e2 : 90 + sumN (fun j => ds.getD j 0) 0 i + ds.getD i 0 = 90 + sumN (fun j => ds.getD j 0) 0 (i + 1) := by
        show _ = 90 + (sumN (fun j => ds.getD j 0) 0 i + ds.getD (0 + i) 0)
        rw [Nat.zero_add]; omega
      rw [e2]
      exact ih (i + 1) (by omega)
theorem getD_set1 {l : List Nat} {n k : Nat} (h : 1 < l.length) : (l.set 1 n).getD k 0 = if k = 1 then n else l.getD k 0 := by
  by_cases c : k = 1
  · subst c; rw [if_pos rfl]; simp [List.getD, h]
  · rw [if_neg c]; simp [List.getD, List.getElem?_set_ne (fun z => c z.symm)]
theorem w_seal {J : S2} {b : Nat → Nat} {e f : Nat} {ds : List Nat} (h : isPn J b e f ds) (h5 : 5 ≤ ds.length) (hn : ds.length < 255) (hl : e + ds.length < 8600) (hd : ∀ k, ds.getD k 0 < 256) {Q : Int32 → S2 → Prop} (q : ∀ J2, isJ J2 (appB b e (sealR ds)) (e + ds.length + 1) f → Q (nI e) J2) : wp_X2_seal J Q := by
  obtain ⟨⟨h1, h2, h3, h4, hb, h6⟩, hp, hr⟩ := h
  intro x ex
  rw [h1] at ex
  subst ex
  refine ⟨fun c => absurd c (nI_pos (by omega)), fun _ => ⟨fun c => ?_, fun _ => ⟨fun _ => ?_, fun c => ?_⟩⟩⟩
  · rw [hp] at c
    have c : nI 8600 ≤ nI (e + ds.length) := c
    exact absurd ((nI_leI (by omega) (by omega)).mp c) (by omega)
  · have e1 : nI e + 1 = nI (e + 1) := nI_1 e
    have e2 : g2_pen J + 1 - nI e = nI (ds.length + 1) := by
      rw [hp, nI_1, pk_sub (by omega)]
      congr 1; omega
    rw [e1, e2]
    refine ⟨vp_in_nI (by omega) (by omega), fun J1 hJ1 => ⟨ds.length + 1, ?_⟩⟩
    rw [nI_clamp (by omega)] at hJ1
    obtain ⟨d2, hd2⟩ : ∃ d2, d2 = ds.set 1 (ds.length + 1) := ⟨_, rfl⟩
    have hlen : d2.length = ds.length := by rw [hd2, List.length_set]
    have hg : ∀ k, d2.getD k 0 = if k = 1 then ds.length + 1 else ds.getD k 0 := fun k => by rw [hd2]; exact getD_set1 (by omega)
    have hr1 : ∀ i, g2_row J1 i = if i = e + 1 then nI (ds.length + 1) else g2_row J i := fun i => by rw [hJ1]; rfl
    have hp1 : g2_pen J1 = nI (e + d2.length) := by rw [hJ1, hlen]; exact hp
    have e0 : (90 : Int32) = nI (90 + sumN (fun j => d2.getD j 0) 0 0) := rfl
    rw [e0, ← hlen]
    refine w_seal_go (b := b) (n := 0) hp1 (by omega) (fun k hk => ?_) (fun k => ?_) (fun J2 q1 q2 q3 => ?_) d2.length 0 (by omega)
    · rw [hr1, hg]
      by_cases c : k = 1
      · subst c; rw [if_pos rfl, if_pos rfl]
      · rw [if_neg (by omega), if_neg c]; exact hr k (by omega)
    · rw [hg]
      by_cases c : k = 1
      · rw [if_pos c]; omega
      · rw [if_neg c]; exact hd k
    · refine q J2 ⟨by rw [q1, hlen], by rw [q2, hJ1]; exact h2, by omega, fun i hi => ?_, fun i => ?_, fun i hi => ?_⟩
      · rw [q3 i, hr1]
        unfold appB sealR
        rw [← hd2, getD_app, hlen]
        by_cases c1 : i < e
        · rw [if_pos c1, if_neg (by omega), if_neg (by omega)]; exact h4 i c1
        · rw [if_neg c1]
          by_cases c2 : i = e + ds.length
          · subst c2
            rw [if_pos rfl, if_neg (by omega), if_pos (by omega)]
          · rw [if_neg c2, if_pos (show i - e < ds.length by omega), hg]
            by_cases c3 : i = e + 1
            · rw [if_pos c3, if_pos (show i - e = 1 by omega)]
            · rw [if_neg c3, if_neg (show ¬ i - e = 1 by omega)]
              have := hr (i - e) (by omega)
              rwa [show e + (i - e) = i by omega] at this
      · unfold appB sealR
        rw [← hd2, getD_app]
        by_cases c1 : i < e
        · rw [if_pos c1]; exact hb i
        · rw [if_neg c1]
          by_cases c2 : i - e < d2.length
          · rw [if_pos c2, hg]
            by_cases c3 : i - e = 1
            · rw [if_pos c3]; omega
            · rw [if_neg c3]; exact hd _
          · rw [if_neg c2]
            by_cases c4 : i - e = d2.length
            · rw [if_pos c4]; omega
            · rw [if_neg c4]; omega
      · unfold appB sealR
        rw [← hd2, getD_app, hlen, if_neg (by omega), if_neg (by omega), if_neg (by omega)]
  · rw [hp] at c
    refine absurd ?_ c
    show nI e + nI 6 - nI 1 ≤ nI (e + ds.length)
    rw [nI_add, pk_sub (by omega)]
    exact nI_le (by omega) (by omega)
