/-! ===== a transaction is gone ===== -/
section
variable {m : S11} {n : Nat → Int32} {pn : Int32} {F F2 : Nat → Nat} {G : Nat → Int32} {b : Nat → Nat} {e f k : Nat} {w : S9} {C : S0} {R : S5}
def mskI (t : Nat) : Int32 := (1 <<< (nI t &&& 31)) ^^^ (-1)
def goneF (F : Nat → Nat) (t : Nat) : Nat → Nat := fun k => if 702 + 18 * t ≤ k ∧ k < 720 + 18 * t then 0 else F k
def goneG (G : Nat → Int32) (t : Nat) : Nat → Int32 := fun k => if k = 1394 + t then 0 else if 882 ≤ k ∧ k < 1404 ∧ k ≠ 1394 then G k &&& mskI t else G k
theorem x_gone3 {t : Nat} {G0 : Nat → Int32} {Q : S11 → Prop} (q : ∀ n2, isR n2 F (fun k => if 882 ≤ k ∧ k < 1394 then G0 k &&& mskI t else G0 k) b e f → Q (mS m n2 pn)) : ∀ N i n, N + i = 256 → isR n F (fun k => if (882 ≤ k ∧ k < 882 + i) ∨ (1138 ≤ k ∧ k < 1138 + i) then G0 k &&& mskI t else G0 k) b e f → wp_X11_isGone_80 Q (N + 1) (nI t) (nI i) (mS m n pn) := by
  intro N
  induction N with
  | zero =>
    intro i n hi h
    refine pk_le 256 i (fun _ => q n (isR_G h fun k hk => ?_)) (fun z => by omega)
    obtain rfl : i = 256 := by omega
    by_cases c : 882 ≤ k ∧ k < 1394
    · rw [if_pos c, if_pos (by omega)]
    · rw [if_neg c, if_neg (by omega)]
  | succ N ih =>
    intro i n hi h
    refine pk_le 256 i (fun _ => by omega) (fun _ => ?_)
    have e1 : (882 : Int32) + nI i = nI (882 + i) := nI_add 882 i
    have e2 : (1138 : Int32) + nI i = nI (1138 + i) := nI_add 1138 i
    rw [e1, e2, nI_clamp (by omega), nI_clamp (by omega)]
    refine ⟨ivp (by omega) (by omega), ivp (by omega) (by omega), fun u1 h1 => ⟨ivp (by omega) (by omega), ivp (by omega) (by omega), fun u2 h2 y hy => ?_⟩⟩
    have g1 : n (882 + i) = G0 (882 + i) := by rw [h.2.2.1 _ (by unfold gk; omega)]; exact if_neg (by omega)
    have g2 : n (1138 + i) = G0 (1138 + i) := by rw [h.2.2.1 _ (by unfold gk; omega)]; exact if_neg (by omega)
    have hz : ∀ j, 882 ≤ j → j < 1394 → n j &&& mskI t &&& (-1023) = 0 := fun j j1 j2 => by rw [h.2.2.1 j (by unfold gk; omega), Int32.and_assoc, Int32.and_comm (mskI t), ← Int32.and_assoc, h.2.2.2.2 j j1 j2]; exact Int32.zero_and
    have r1 := isR_wg (k := 882 + i) (x := n (882 + i) &&& mskI t) h (by unfold gk; omega) (hz _)
    have r2 := isR_wg (k := 1138 + i) (x := n (1138 + i) &&& mskI t) r1 (by unfold gk; omega) (hz _)
    have eu : u2 = mS m (upd (upd n (882 + i) (n (882 + i) &&& mskI t)) (1138 + i) (n (1138 + i) &&& mskI t)) pn := by
      rw [h2, h1]
      show mS m (upd (upd n (882 + i) (n (882 + i) &&& mskI t)) (1138 + i) ((upd n (882 + i) (n (882 + i) &&& mskI t)) (1138 + i) &&& mskI t)) pn = _
      rw [pk_un (j := 1138 + i) (by omega)]
    rw [hy, nI_1, eu]
    refine ih (i + 1) _ (by omega) (isR_G r2 fun k hk => ?_)
    rw [g1, g2]
    by_cases c1 : k = 1138 + i
    · subst c1; rw [pk_us, if_pos (by omega)]
    · rw [pk_un c1]
      by_cases c2 : k = 882 + i
      · subst c2; rw [pk_us, if_pos (by omega)]
      · rw [pk_un c2]
        by_cases c3 : (882 ≤ k ∧ k < 882 + i) ∨ (1138 ≤ k ∧ k < 1138 + i)
        · rw [if_pos c3, if_pos (by omega)]
        · rw [if_neg c3, if_neg (by omega)]
theorem x_gone2 {t : Nat} (ht : t ≤ 9) (h1 : 1 ≤ t) {Q : S11 → Prop} (q : ∀ n2, isR n2 F (goneG G t) b e f → Q (mS m n2 pn)) : ∀ N i n, N + i = 10 → 1 ≤ i → isR n F (fun k => if k = 1394 + t then 0 else if 1395 ≤ k ∧ k < 1394 + i then G k &&& mskI t else G k) b e f → wp_X11_isGone_40 Q (N + 1) (nI t) (nI i) (mS m n pn) := by
  intro N
  induction N with
  | zero =>
    intro i n hi h1 h
    obtain rfl : i = 10 := by omega
    refine pk_lt 9 10 (fun _ => ⟨257, x_gone3 (G0 := fun k => if k = 1394 + t then 0 else if 1395 ≤ k ∧ k < 1394 + 10 then G k &&& mskI t else G k) (t := t) (fun n2 h2 => q n2 (isR_G h2 fun k hk => ?_)) 256 0 n (by omega) (isR_G h fun k hk => ?_)⟩) (fun z => by omega)
    · unfold goneG
      by_cases c1 : 882 ≤ k ∧ k < 1394
      · rw [if_pos c1, if_neg (by omega), if_pos (by omega), if_neg (by omega), if_neg (by omega)]
      · rw [if_neg c1]
        by_cases c2 : k = 1394 + t
        · rw [if_pos c2, if_pos c2]
        · rw [if_neg c2, if_neg c2]
          by_cases c3 : 1395 ≤ k ∧ k < 1394 + 10
          · rw [if_pos c3, if_pos (by omega)]
          · rw [if_neg c3, if_neg (by omega)]
    · rw [if_neg (by omega)]
  | succ N ih =>
    intro i n hi hi1 h
    refine pk_lt 9 i (fun _ => by omega) (fun _ => ?_)
    have e1 : (1394 : Int32) + nI i = nI (1394 + i) := nI_add 1394 i
    rw [e1, nI_clamp (by omega)]
    refine ⟨ivp (by omega) (by omega), ivp (by omega) (by omega), fun u1 h1 y hy => ?_⟩
    rw [hy, nI_1, h1]
    have r1 := isR_wg (k := 1394 + i) (x := n (1394 + i) &&& mskI t) h (by unfold gk; omega)
    refine ih (i + 1) _ (by omega) (by omega) (isR_G r1 fun k hk => ?_)
    have g1 : n (1394 + i) = if i = t then 0 else G (1394 + i) := by
      rw [h.2.2.1 _ (by unfold gk; omega)]
      show (if 1394 + i = 1394 + t then 0 else if 1395 ≤ 1394 + i ∧ 1394 + i < 1394 + i then _ else _) = _
      by_cases c : i = t
      · rw [if_pos (by omega), if_pos c]
      · rw [if_neg (by omega), if_neg (by omega), if_neg c]
    rw [g1]
    by_cases c1 : k = 1394 + i
    · subst c1
      rw [pk_us]
      by_cases c2 : i = t
      · rw [if_pos (by omega), if_pos c2]; exact Int32.zero_and.symm
      · rw [if_neg (by omega), if_pos (by omega), if_neg c2]
    · rw [pk_un c1]
      by_cases c2 : k = 1394 + t
      · rw [if_pos c2, if_pos c2]
      · rw [if_neg c2, if_neg c2]
        by_cases c3 : 1395 ≤ k ∧ k < 1394 + i
        · rw [if_pos c3, if_pos (by omega)]
        · rw [if_neg c3, if_neg (by omega)]
theorem x_gone1 {t : Nat} (ht : t ≤ 9) (h1 : 1 ≤ t) {Q : S11 → Prop} (q : ∀ n2, isR n2 (goneF F t) (goneG G t) b e f → Q (mS m n2 pn)) : ∀ N i n, N + i = 18 → isR n (fun k => if 702 + 18 * t ≤ k ∧ k < 702 + 18 * t + i then 0 else F k) G b e f → wp_X11_isGone_2 Q (N + 1) (nI t) (nI i) (mS m n pn) := by
  intro N
  induction N with
  | zero =>
    intro i n hi h
    obtain rfl : i = 18 := by omega
    refine pk_le 18 18 (fun _ => ?_) (fun z => by omega)
    have e1 : (1394 : Int32) + nI t = nI (1394 + t) := nI_add 1394 t
    rw [e1, nI_clamp (by omega)]
    refine ⟨ivp (by omega) (by omega), fun u1 hu1 => ⟨10, ?_⟩⟩
    rw [hu1]
    have r0 : isR n (goneF F t) G b e f := isR_F h fun k => by
      unfold goneF
      rw [show 702 + 18 * t + 18 = 720 + 18 * t by omega]
    have r1 := isR_wg (k := 1394 + t) (x := 0) r0 (by unfold gk; omega)
    refine x_gone2 ht h1 q 9 1 _ (by omega) (by omega) (isR_G r1 fun k hk => ?_)
    by_cases c1 : k = 1394 + t
    · subst c1; rw [pk_us, if_pos rfl]
    · rw [pk_un c1, if_neg c1, if_neg (by omega)]
  | succ N ih =>
    intro i n hi h
    refine pk_le 18 i (fun _ => by omega) (fun _ => ?_)
    show vp_in ((720 : Int32) + 18 * (nI t - 1) + nI i) 10700 ∧ _
    rw [txA t h1 i]
    refine ⟨ivp (by omega) (by omega), fun u1 hu1 y hy => ?_⟩
    rw [nI_clamp (by omega)] at hu1
    rw [hy, nI_1, hu1]
    have r1 := isR_wr (k := 702 + 18 * t + i) (x := 0) h (by unfold nk; omega)
    refine ih (i + 1) _ (by omega) (isR_F r1 fun k => ?_)
    by_cases c1 : k = 702 + 18 * t + i
    · subst c1; rw [uNs, if_pos (by omega)]
    · rw [uNn c1]
      by_cases c2 : 702 + 18 * t ≤ k ∧ k < 702 + 18 * t + i
      · rw [if_pos c2, if_pos (by omega)]
      · rw [if_neg c2, if_neg (by omega)]
theorem x_isGone (h : isR n F G b e f) {t : Nat} (h1 : 1 ≤ t) (h9 : t ≤ 9) {Q : S11 → Prop} (q : ∀ n2, isR n2 (goneF F t) (goneG G t) b e f → Q (mS m n2 pn)) : wp_X11_isGone (mS m n pn) (nI t) Q := ⟨19, x_gone1 h9 h1 q 18 0 n (by omega) (isR_F h fun k => by rw [if_neg (by omega)])⟩
theorem w_remove {t : Nat} (h9 : t ≤ 9) {Q : S5 → Prop} (q : Q (upd (g5_is R) t 0, upd (g5_last R) t 0, upd (g5_cursor R) t 0)) : wp_X5_remove R (nI t) Q := by
  refine ⟨ivp (by omega) (by omega), fun u1 h1 => ⟨ivp (by omega) (by omega), fun u2 h2 => ⟨ivp (by omega) (by omega), fun u3 h3 => ?_⟩⟩⟩
  rw [nI_clamp (by omega)] at h1 h2 h3
  rw [h3, h2, h1]
  exact q
theorem RO_gone (h : RO R F) {t : Nat} : RO (upd (g5_is R) t 0, upd (g5_last R) t 0, upd (g5_cursor R) t 0) (goneF F t) := by
  intro u h1 h9
  obtain ⟨c1, c2, c3⟩ := h u h1 h9
  show upd (g5_is R) t 0 u = _ ∧ upd (g5_last R) t 0 u = _ ∧ upd (g5_cursor R) t 0 u = _
  unfold goneF
  by_cases c : u = t
  · subst c
    rw [pk_us, pk_us, pk_us, if_pos (by omega), if_pos (by omega), if_pos (by omega)]
    exact ⟨rfl, rfl, rfl⟩
  · rw [pk_un c, pk_un c, pk_un c, if_neg (by omega), if_neg (by omega), if_neg (by omega)]
    exact ⟨c1, c2, c3⟩
def fgtC (C : S0) (t : Nat) : S0 := (fun a => if a < 256 then g0_wrote C a &&& mskI t else g0_wrote C a, fun a => if a < 256 then g0_added C a &&& mskI t else g0_added C a, fun u => if 1 ≤ u ∧ u < 10 then upd (g0_waits C) t 0 u &&& mskI t else upd (g0_waits C) t 0 u, upd (g0_saveCount C) t 0, upd (g0_topCount C) t 0, g0_saves C, g0_tops C)
theorem w_fgt3 {t : Nat} {W A V : Nat → Int32} {c4 c5 c6 c7 : Nat → Int32} {Q : S0 → Prop} (q : Q (fun a => if a < 256 then W a &&& mskI t else W a, fun a => if a < 256 then A a &&& mskI t else A a, V, c4, c5, c6, c7)) : ∀ N i, N + i = 256 → wp_X0_forget_44 Q (N + 1) (mskI t) (nI i) (fun a => if a < i then W a &&& mskI t else W a, fun a => if a < i then A a &&& mskI t else A a, V, c4, c5, c6, c7) := by
  intro N
  induction N with
  | zero =>
    intro i hi
    obtain rfl : i = 256 := by omega
    exact pk_le 256 256 (fun _ => q) (fun z => by omega)
  | succ N ih =>
    intro i hi
    refine pk_le 256 i (fun _ => by omega) (fun _ => ⟨ivp (by omega) (by omega), ivp (by omega) (by omega), fun u1 h1 => ⟨ivp (by omega) (by omega), ivp (by omega) (by omega), fun u2 h2 y hy => ?_⟩⟩)
    rw [nI_clamp (by omega)] at h1 h2
    have st : ∀ H : Nat → Int32, upd (fun a => if a < i then H a &&& mskI t else H a) i ((fun a => if a < i then H a &&& mskI t else H a) i &&& mskI t) = fun a => if a < i + 1 then H a &&& mskI t else H a := fun H => by
      funext a
      by_cases c : a = i
      · subst c
        rw [pk_us, if_pos (by omega)]
        show (if a < a then _ else _) &&& _ = _
        rw [if_neg (by omega)]
      · rw [pk_un c]
        by_cases d : a < i
        · rw [if_pos d, if_pos (by omega)]
        · rw [if_neg d, if_neg (by omega)]
    have eu : u2 = (fun a => if a < i + 1 then W a &&& mskI t else W a, fun a => if a < i + 1 then A a &&& mskI t else A a, V, c4, c5, c6, c7) := by
      rw [h2, h1, ← st W, ← st A]
    rw [hy, nI_1, eu]
    exact ih (i + 1) (by omega)
theorem w_fgt2 {t : Nat} {W A V : Nat → Int32} {c4 c5 c6 c7 : Nat → Int32} {Q : S0 → Prop} (q : Q (fun a => if a < 256 then W a &&& mskI t else W a, fun a => if a < 256 then A a &&& mskI t else A a, fun u => if 1 ≤ u ∧ u < 10 then V u &&& mskI t else V u, c4, c5, c6, c7)) : ∀ N i, N + i = 10 → 1 ≤ i → wp_X0_forget_20 Q (N + 1) (mskI t) (nI i) (W, A, fun u => if 1 ≤ u ∧ u < i then V u &&& mskI t else V u, c4, c5, c6, c7) := by
  intro N
  induction N with
  | zero =>
    intro i hi _
    obtain rfl : i = 10 := by omega
    refine pk_lt 9 10 (fun _ => ⟨257, ?_⟩) (fun z => by omega)
    have := w_fgt3 (t := t) (W := W) (A := A) (V := fun u => if 1 ≤ u ∧ u < 10 then V u &&& mskI t else V u) (c4 := c4) (c5 := c5) (c6 := c6) (c7 := c7) (Q := Q) q 256 0 (by omega)
    simp only [Nat.not_lt_zero, if_false] at this
    exact this
  | succ N ih =>
    intro i hi h1
    refine pk_lt 9 i (fun _ => by omega) (fun _ => ⟨ivp (by omega) (by omega), ivp (by omega) (by omega), fun u1 hu1 y hy => ?_⟩)
    rw [nI_clamp (by omega)] at hu1
    have st : upd (fun u => if 1 ≤ u ∧ u < i then V u &&& mskI t else V u) i ((fun u => if 1 ≤ u ∧ u < i then V u &&& mskI t else V u) i &&& mskI t) = fun u => if 1 ≤ u ∧ u < i + 1 then V u &&& mskI t else V u := by
      funext a
      by_cases c : a = i
      · subst c
        rw [pk_us, if_pos (by omega)]
        show (if 1 ≤ a ∧ a < a then _ else _) &&& _ = _
        rw [if_neg (by omega)]
      · rw [pk_un c]
        by_cases d : 1 ≤ a ∧ a < i
        · rw [if_pos d, if_pos (by omega)]
        · rw [if_neg d, if_neg (by omega)]
    rw [hy, nI_1, hu1]
    have := ih (i + 1) (by omega) (by omega)
    rw [← st] at this
    exact this
theorem w_forget {t : Nat} (h9 : t ≤ 9) {Q : S0 → Prop} (q : Q (fgtC C t)) : wp_X0_forget C (nI t) Q := by
  intro x ex
  have ex : x = mskI t := ex
  rw [ex]
  refine ⟨ivp (by omega) (by omega), fun u1 h1 => ⟨ivp (by omega) (by omega), fun u2 h2 => ⟨ivp (by omega) (by omega), fun u3 h3 => ⟨10, ?_⟩⟩⟩⟩
  rw [nI_clamp (by omega)] at h1 h2 h3
  rw [h3, h2, h1]
  have := w_fgt2 (t := t) (W := g0_wrote C) (A := g0_added C) (V := upd (g0_waits C) t 0) (c4 := upd (g0_saveCount C) t 0) (c5 := upd (g0_topCount C) t 0) (c6 := g0_saves C) (c7 := g0_tops C) (Q := Q) q 9 1 (by omega) (by omega)
  have e0 : (fun u => if 1 ≤ u ∧ u < 1 then upd (g0_waits C) t 0 u &&& mskI t else upd (g0_waits C) t 0 u) = upd (g0_waits C) t 0 := funext fun u => by rw [if_neg (by omega)]
  rw [e0] at this
  exact this
theorem RC_gone (h : RC C F G) {t : Nat} (h1 : 1 ≤ t) (h9 : t ≤ 9) : RC (fgtC C t) (goneF F t) (goneG G t) := by
  obtain ⟨a1, a2, a3⟩ := h
  refine ⟨fun a ha => ?_, fun a ha => ?_, fun u hu1 hu9 => ?_⟩
  · show (if a < 256 then _ else _) = _
    unfold goneG
    rw [if_pos ha, if_neg (by omega), if_pos (by omega), a1 a ha]
  · show (if a < 256 then _ else _) = _
    unfold goneG
    rw [if_pos ha, if_neg (by omega), if_pos (by omega), a2 a ha]
  · obtain ⟨c1, c2, c3, c4, c5⟩ := a3 u hu1 hu9
    show (if 1 ≤ u ∧ u < 10 then _ else _) = _ ∧ upd (g0_saveCount C) t 0 u = _ ∧ upd (g0_topCount C) t 0 u = _ ∧ _
    rw [if_pos (by omega)]
    unfold goneG goneF
    by_cases c : u = t
    · subst c
      rw [pk_us, pk_us, pk_us, if_pos rfl, if_pos (by omega), if_pos (by omega)]
      exact ⟨Int32.zero_and, rfl, rfl, fun k hk => by omega, fun k hk => by omega⟩
    · rw [pk_un c, pk_un c, pk_un c, if_neg (by omega), if_pos (by omega), if_neg (by omega), if_neg (by omega), c1]
      refine ⟨rfl, c2, c3, fun k hk h8 => ?_, fun k hk h4 => ?_⟩
      · rw [if_neg (by omega)]; exact c4 k hk h8
      · rw [if_neg (by omega)]; exact c5 k hk h4
end
