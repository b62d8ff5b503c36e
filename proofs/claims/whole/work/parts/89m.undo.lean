/-! ===== recovery: undo, both sides ===== -/
section
variable {m : S11} {n : Nat → Int32} {pn : Int32} {F F2 : Nat → Nat} {G G2 : Nat → Int32} {b b2 : Nat → Nat} {e f k e2 f2 c cp en : Nat} {w : S9} {P : S3} {C : S0} {R : S5} {J : S2} {U : Nat → Nat} {r : S4} {x2 : Int32}
/-- one step of what is to undo: which case -/
theorem un_cases (h : UI F b e k c) : (nlA F 9 1 0 = 0 ∧ ∀ u, 1 ≤ u → u ≤ 9 → F (702 + 18 * u) = 0) ∨ (1 ≤ nlA F 9 1 0 ∧ nlA F 9 1 0 ≤ 9 ∧ F (702 + 18 * nlA F 9 1 0) ≠ 0 ∧ (F (704 + 18 * nlA F 9 1 0) = 0 ∨ ∃ j, j < k ∧ F (704 + 18 * nlA F 9 1 0) = wlk b j)) := by
  obtain ⟨n1, n2⟩ := nlA_ok (F := F) 9 1 0 (by omega) (by omega) (fun _ u u1 u2 => by omega) (fun z => absurd rfl z)
  by_cases c : nlA F 9 1 0 = 0
  · exact Or.inl ⟨c, n1 c⟩
  · obtain ⟨a1, a2⟩ := n2 c
    refine Or.inr ⟨by omega, a1, a2, ?_⟩
    obtain ⟨c1, c2, c3, c4, c5⟩ := (h.2.2.2.2 _ (by omega) a1).1 a2
    rcases c4 with z | ⟨j, hj, hz⟩
    · exact Or.inl z
    · exact Or.inr ⟨j, hj, hz.symm⟩
theorem GZ_fet {Sp : Nat → Prop} (hI : IFr F Sp) (h : GZ G) (p : Nat) : GZ (fetG F G p) := fun j j1 j2 j3 => by rw [fetG_out hI (by omega) (by omega)]; exact h j j1 j2 j3
theorem mz_gone {t : Nat} (h1 : 1 ≤ t) (h9 : t ≤ 9) (hi : F (702 + 18 * t) ≠ 0) : sum9 (mzF (goneF F t)) < sum9 (mzF F) := by
  refine mz_lt h1 h9 (fun u hu u1 u9 => ?_) ?_
  · unfold mzF goneF
    rw [if_neg (show ¬ (702 + 18 * t ≤ 702 + 18 * u ∧ 702 + 18 * u < 720 + 18 * t) by omega), if_neg (show ¬ (702 + 18 * t ≤ 704 + 18 * u ∧ 704 + 18 * u < 720 + 18 * t) by omega)]
  · unfold mzF goneF
    rw [if_pos (show 702 + 18 * t ≤ 702 + 18 * t ∧ 702 + 18 * t < 720 + 18 * t by omega), if_pos rfl, if_neg hi]; omega
theorem mz_cur {t x : Nat} (h1 : 1 ≤ t) (h9 : t ≤ 9) (hF : ∀ u, 1 ≤ u → u ≤ 9 → F2 (702 + 18 * u) = F (702 + 18 * u) ∧ (u ≠ t → F2 (704 + 18 * u) = F (704 + 18 * u))) (hx : F2 (704 + 18 * t) < F (704 + 18 * t)) (hi : F (702 + 18 * t) ≠ 0) : sum9 (mzF F2) < sum9 (mzF F) := by
  refine mz_lt h1 h9 (fun u hu u1 u9 => ?_) ?_
  · unfold mzF
    rw [(hF u u1 u9).1, (hF u u1 u9).2 hu]
  · unfold mzF
    rw [(hF t h1 h9).1, if_neg hi, if_neg hi]; omega
/-- what a walk of undo leaves -/
theorem unA_ok : ∀ M F G b e cp en k, UI F b e k (cp + en) → GZ G → (∀ i, b i < 256) → LimOK x2 (cp + en) → sum9 (mzF F) ≤ M → ∃ k2, UI (unA x2 M F G b e cp en).2.1 (unA x2 M F G b e cp en).2.2.2.1 (unA x2 M F G b e cp en).2.2.2.2.1 k2 ((unA x2 M F G b e cp en).2.2.2.2.2.1 + (unA x2 M F G b e cp en).2.2.2.2.2.2) ∧ GZ (unA x2 M F G b e cp en).2.2.1 ∧ (∀ i, (unA x2 M F G b e cp en).2.2.2.1 i < 256) ∧ LimOK x2 ((unA x2 M F G b e cp en).2.2.2.2.2.1 + (unA x2 M F G b e cp en).2.2.2.2.2.2) ∧ (∀ i, i < 16 ∨ 882 ≤ i → (unA x2 M F G b e cp en).2.1 i = F i) ∧ ((unA x2 M F G b e cp en).1 = false → ∀ u, 1 ≤ u → u ≤ 9 → (unA x2 M F G b e cp en).2.1 (702 + 18 * u) = 0) := by
  intro M
  induction M with
  | zero =>
    intro F G b e cp en k h hG h5 hl hM
    exact ⟨k, h, hG, h5, hl, fun _ _ => rfl, fun _ u u1 u9 => mz_0 (F := F) (by omega) u1 u9⟩
  | succ M ih =>
    intro F G b e cp en k h hG h5 hl hM
    have hr := UI_room h
    have h6 := h.2.2.2.1
    unfold unA
    rcases un_cases h with ⟨z, zz⟩ | ⟨t1, t9, ti, hc⟩
    · rw [if_pos z]
      exact ⟨k, h, hG, h5, hl, fun _ _ => rfl, fun _ => zz⟩
    · rw [if_neg (by omega)]
      generalize nlA F 9 1 0 = t at *
      rcases hc with hc | ⟨j, hj, hc⟩
      · rw [if_pos hc]
        by_cases cs : x2 = nI (cp + en)
        · rw [if_pos cs]
          exact ⟨k, h, hG, h5, hl, fun _ _ => rfl, fun z => absurd z (by simp)⟩
        · rw [if_neg cs]
          have hb := h.1.1 (703 + 18 * t)
          obtain ⟨k2, q1, q2, q3, q4, q5, q6⟩ := ih _ G _ _ cp (en + 1) (k + 1) (UI_gone h t1 t9 ti) hG (fun i => by
            unfold appB
            split
            · exact h5 i
            · exact plainR_lt (by omega) (by omega) hb _) (Lim_S (c := cp + en) hl cs (by omega)) (by have := mz_gone t1 t9 ti; omega)
          exact ⟨k2, q1, q2, q3, q4, fun i hi => by rw [q5 i hi, goneF_txo t1 t9 i (by omega)], q6⟩
      · have h8 := wlk_8 (b := b) j
        rw [if_neg (by omega), hc]
        have hn := nx_Sz h.1.2.2.2.1 hj
        have hlt := Sz_lt hn
        by_cases cu : vun (rv b (wlk b j)) = 1
        · rw [if_pos cu]
          by_cases cs : x2 = nI (cp + en)
          · rw [if_pos cs]
            exact ⟨k, h, hG, h5, hl, fun _ _ => rfl, fun z => absurd z (by simp)⟩
          · rw [if_neg cs]
            have iF := h.1.2.2.1
            have hx := fun i (hi : i < 16 ∨ 720 ≤ i) => cmp_tx (G := G) (b := b) (e := e) (f := e) (t := t) (s := wlk b j) iF t1 t9 hi
            obtain ⟨g1, g2⟩ := UI_cmp (G := G) h h5 t1 t9 ti hj hc cu
            have g2' : UI (updN (cmpA (F, G, b, e, e) t (wlk b j)).1 (704 + 18 * t) (vnx (rv b (wlk b j)))) (appB b e (sealR (cmpL F b t (wlk b j)))) (e + 11) (k + 1) (cp + 1 + en) := by rw [show cp + 1 + en = cp + en + 1 by omega]; exact g2
            have hl2 := Lim_S (c := cp + en) hl cs (by omega)
            rw [show cp + en + 1 = cp + 1 + en by omega] at hl2
            obtain ⟨k2, q1, q2, q3, q4, q5, q6⟩ := ih _ (fetG F G (b (wlk b j + 5) / 16)) _ _ (cp + 1) en (k + 1) g2' (GZ_fet iF hG _) (b52 h.1 t9 h5 hj cu) hl2 (by
              have := mz_cur (F := F) (F2 := updN (cmpA (F, G, b, e, e) t (wlk b j)).1 (704 + 18 * t) (vnx (rv b (wlk b j)))) (x := 0) t1 t9 (fun u u1 u9 => ⟨by rw [uNn (by omega), hx _ (by omega), if_neg (by omega)], fun hu => by rw [uNn (by omega), hx _ (by omega), if_neg (by omega)]⟩) (by rw [uNs, hc]; omega) ti
              omega)
            exact ⟨k2, q1, q2, q3, q4, fun i hi => by rw [q5 i hi, uNn (by omega), hx i (by omega), if_neg (by omega)], q6⟩
        · rw [if_neg cu]
          obtain ⟨k2, q1, q2, q3, q4, q5, q6⟩ := ih _ G b e cp en k (UI_cur h t1 t9 ti hj hc) hG h5 hl (by
            have := mz_cur (F := F) (F2 := updN F (704 + 18 * t) (vnx (rv b (wlk b j)))) (x := 0) t1 t9 (fun u u1 u9 => ⟨by rw [uNn (by omega)], fun hu => by rw [uNn (by omega)]⟩) (by rw [uNs, hc]; omega) ti
            omega)
          exact ⟨k2, q1, q2, q3, q4, fun i hi => by rw [q5 i hi, uNn (by omega)], q6⟩
theorem w_fore (hR : RO R F) (hb : ∀ i, F i < 65536) (hU : ∀ t, 1 ≤ t → t ≤ 9 → F (702 + 18 * t) ≠ 0 → F (702 + 18 * t) = 1 ∨ F (702 + 18 * t) = 2) {Q : Int32 → Prop} (q : Q (nI (nlA F 9 1 0))) : wp_X5_foremost R Q := by
  have go : ∀ N t a, N + t = 10 → 1 ≤ t → a ≤ 9 → Q (nI (nlA F N t a)) → wp_X5_foremost_4 R Q (N + 1) (nI a) (nI t) := by
    intro N
    induction N with
    | zero => intro t a ht h1 ha q; exact pk_lt 9 t (fun _ => q) (fun z => by omega)
    | succ N ih =>
      intro t a ht h1 ha q
      unfold nlA at q
      obtain ⟨r1, r2, r3⟩ := hR t h1 (by omega)
      have hbt := hb (702 + 18 * t)
      have hct := hb (704 + 18 * t)
      have hca := hb (704 + 18 * a)
      have n61 : ∀ a2, a2 ≤ 9 → Q (nI (nlA F N (t + 1) a2)) → wp_X5_foremost_61 R (fun x1 x2 => wp_X5_foremost_4 R Q (N + 1) x1 x2) Q (nI a2) (nI t) := fun a2 ha2 q2 y hy => by
        rw [hy, nI_1]; exact ih (t + 1) a2 (by omega) (by omega) ha2 q2
      have n30 : F (702 + 18 * t) ≠ 0 → wp_X5_foremost_30 R (fun x1 x2 y0 => wp_X5_foremost_35 R (fun x1 x2 => wp_X5_foremost_4 R Q (N + 1) x1 x2) Q x1 x2 y0) Q (nI a) (nI t) := by
        intro hn
        refine ⟨fun z => absurd z (by decide), fun _ => pk_eq a 0 (fun z => ?_) (fun z => ⟨ivp (by omega) (by omega), ivp (by omega) (by omega), ?_⟩)⟩
        · rw [if_pos ⟨hn, Or.inl z⟩] at q
          exact n61 t (by omega) q
        · rw [nI_clamp (by omega), nI_clamp (by omega), r3, (hR a (by omega) ha).2.2]
          refine pk_le (F (704 + 18 * t)) (F (704 + 18 * a)) (fun y => n61 a ha ?_) (fun y => n61 t (by omega) ?_)
          · rw [if_neg (by omega)] at q; exact q
          · rw [if_pos ⟨hn, Or.inr y⟩] at q; exact q
      refine pk_lt 9 t (fun z => by omega) (fun _ => ⟨ivp (by omega) (by omega), ?_⟩)
      rw [nI_clamp (by omega), r1]
      refine pk_eq (F (702 + 18 * t)) 1 (fun z => n30 (by omega)) (fun z => ⟨ivp (by omega) (by omega), pk_eq (F (702 + 18 * t)) 2 (fun z => n30 (by omega)) (fun z2 => ⟨fun _ => n61 a ha ?_, fun y => absurd rfl y⟩)⟩)
      have h0 : F (702 + 18 * t) = 0 := by
        by_cases d : F (702 + 18 * t) = 0
        · exact d
        · have := hU t h1 (by omega) d; omega
      rw [if_neg (by omega)] at q; exact q
  exact ⟨10, go 9 1 0 (by omega) (by omega) (by omega) q⟩
theorem x_next (h : isR n F G b e f) (hb : ∀ i, F i < 65536) {Q : Int32 → Prop} (q0 : nlA F 9 1 0 = 0 → Q (-1)) (q1 : nlA F 9 1 0 ≠ 0 → Q (nI (nlA F 9 1 0))) : wp_X11_nextLoser (mS m n pn) Q := by
  have go : ∀ N t a (xa : Int32), N + t = 10 → 1 ≤ t → a ≤ 9 → (a = 0 → xa = -1) → (a ≠ 0 → xa = nI a) → (nlA F N t a = 0 → Q (-1)) → (nlA F N t a ≠ 0 → Q (nI (nlA F N t a))) → wp_X11_nextLoser_4 (mS m n pn) Q (N + 1) xa (nI t) := by
    intro N
    induction N with
    | zero =>
      intro t a xa ht h1 ha x0 x1 q0 q1
      refine pk_lt 9 t (fun _ => ?_) (fun z => by omega)
      by_cases d : a = 0
      · rw [x0 d]; exact q0 d
      · rw [x1 d]; exact q1 d
    | succ N ih =>
      intro t a xa ht h1 ha x0 x1 q0 q1
      unfold nlA at q0 q1
      have hbt := hb (702 + 18 * t)
      have hct := hb (704 + 18 * t)
      have hca := hb (704 + 18 * a)
      have n52 : ∀ a2 xa2, a2 ≤ 9 → (a2 = 0 → xa2 = -1) → (a2 ≠ 0 → xa2 = nI a2) → (nlA F N (t + 1) a2 = 0 → Q (-1)) → (nlA F N (t + 1) a2 ≠ 0 → Q (nI (nlA F N (t + 1) a2))) → wp_X11_nextLoser_52 (mS m n pn) (fun x1 x2 => wp_X11_nextLoser_4 (mS m n pn) Q (N + 1) x1 x2) Q xa2 (nI t) := fun a2 xa2 ha2 y0 y1 z0 z1 y hy => by
        rw [hy, nI_1]; exact ih (t + 1) a2 xa2 (by omega) (by omega) ha2 y0 y1 z0 z1
      refine pk_lt 9 t (fun z => by omega) (fun _ => x_isOf h h1 (by omega) (pk_le (F (702 + 18 * t)) 0 (fun z => ?_) (fun z => ?_)))
      · rw [if_neg (by omega)] at q0 q1
        exact n52 a xa ha x0 x1 q0 q1
      · by_cases d : a = 0
        · rw [if_pos ⟨by omega, Or.inl d⟩] at q0 q1
          exact ⟨fun _ => n52 t (nI t) (by omega) (fun y => by omega) (fun _ => rfl) q0 q1, fun y => absurd (x0 d) y⟩
        · rw [x1 d]
          refine ⟨fun y => absurd y.symm (Lim_0.resolve_right (by omega)), fun _ => ?_⟩
          simp only [wp_X11_txAt]
          rw [show (720 : Int32) + 18 * (nI t - 1) + 2 = nI (702 + 18 * t + 2) from txA t h1 2, show (720 : Int32) + 18 * (nI a - 1) + 2 = nI (702 + 18 * a + 2) from txA a (by omega) 2]
          have ea : (nI (702 + 18 * a + 2)).toNatClampNeg = 704 + 18 * a := by rw [nI_clamp (by omega)]; omega
          have et : (nI (702 + 18 * t + 2)).toNatClampNeg = 704 + 18 * t := by rw [nI_clamp (by omega)]; omega
          rw [ea, et, gmS, h.2.1 _ (show nk (704 + 18 * a) by unfold nk; omega), h.2.1 _ (show nk (704 + 18 * t) by unfold nk; omega)]
          refine ⟨ivp (by omega) (by omega), ivp (by omega) (by omega), pk_le (F (704 + 18 * t)) (F (704 + 18 * a)) (fun y => ?_) (fun y => ?_)⟩
          · rw [if_neg (by omega)] at q0 q1
            exact n52 a (nI a) ha (fun y => absurd y d) (fun _ => rfl) q0 q1
          · rw [if_pos ⟨by omega, Or.inr y⟩] at q0 q1
            exact n52 t (nI t) (by omega) (fun y => by omega) (fun _ => rfl) q0 q1
  intro x hx
  exact ⟨10, go 9 1 0 x (by omega) (by omega) (by omega) (fun _ => hx) (fun z => absurd rfl z) q0 q1⟩
end
