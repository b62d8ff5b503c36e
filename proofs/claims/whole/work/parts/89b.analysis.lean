/-! ===== analysis: one record, both sides ===== -/
section
variable {m : S11} {n : Nat → Int32} {pn : Int32} {F F2 : Nat → Nat} {G G2 : Nat → Int32} {b b2 : Nat → Nat} {e f k e2 f2 : Nat} {w : S9} {P : S3} {C : S0} {R : S5} {J : S2} {U : Nat → Nat}
def setF (F : Nat → Nat) (t i l : Nat) : Nat → Nat := updN (updN F (702 + 18 * t) i) (703 + 18 * t) l
/-- the transactions that a record 10 tells -/
def t10 (b : Nat → Nat) (s : Nat) : Nat → Nat → (Nat → Nat) → Nat → Nat
  | 0, _, F => F
  | N + 1, i, F => t10 b s N (i + 1) (if F (702 + 18 * b (s + 6 + 4 * i)) = 0 then setF F (b (s + 6 + 4 * i)) (b (s + 7 + 4 * i)) (pr2 b (s + 8 + 4 * i)) else F)
/-- the pages that it tells -/
def u10 (b : Nat → Nat) (q : Nat) : Nat → Nat → (Nat → Nat) → Nat → Nat
  | 0, _, U => U
  | N + 1, i, U => u10 b q N (i + 1) (if U (b (q + 1 + 3 * i)) = 0 ∨ pr2 b (q + 2 + 3 * i) < U (b (q + 1 + 3 * i)) then updN U (b (q + 1 + 3 * i)) (pr2 b (q + 2 + 3 * i)) else U)
def an1F (b : Nat → Nat) (s : Nat) (F : Nat → Nat) : Nat → Nat := if b s = 10 then t10 b s (b (s + 5)) 0 F else if 1 ≤ b (s + 2) ∧ b (s + 2) ≤ 9 then (if b s = 7 then goneF F (b (s + 2)) else setF F (b (s + 2)) (if b s = 5 then 3 else if b s = 6 then 2 else if F (702 + 18 * b (s + 2)) = 0 then 1 else F (702 + 18 * b (s + 2))) s) else F
def an1U (b : Nat → Nat) (s : Nat) (U : Nat → Nat) : Nat → Nat := if tch b s = true then (if U (b (s + 5) / 16) = 0 then updN U (b (s + 5) / 16) s else U) else if b s = 10 then u10 b (s + 6 + 4 * b (s + 5)) (b (s + 6 + 4 * b (s + 5))) 0 U else U
theorem RO_set (h : RO R F) {t i l : Nat} (h1 : 1 ≤ t) (h9 : t ≤ 9) : RO (s5_last (s5_is R (upd (g5_is R) t (nI i))) (upd (g5_last R) t (nI l))) (setF F t i l) := by
  intro u hu1 hu9
  obtain ⟨c1, c2, c3⟩ := h u hu1 hu9
  unfold setF
  show upd (g5_is R) t (nI i) u = _ ∧ upd (g5_last R) t (nI l) u = _ ∧ g5_cursor R u = _
  rw [uNn (j := 702 + 18 * u) (by omega), uNn (j := 704 + 18 * u) (by omega), uNn (j := 704 + 18 * u) (by omega)]
  by_cases c : u = t
  · subst c; rw [pk_us, pk_us, uNs, uNs]; exact ⟨rfl, rfl, c3⟩
  · rw [pk_un c, pk_un c, uNn (by omega), uNn (by omega), uNn (by omega)]; exact ⟨c1, c2, c3⟩
theorem w_l10 (hJ : isJ J b e f) {s : Nat} (hs : s < 10000) (ht : ∀ i, i < b (s + 5) → 1 ≤ b (s + 6 + 4 * i) ∧ b (s + 6 + 4 * i) ≤ 9) {Q : S5 → Prop} : ∀ N i F R, N + i = b (s + 5) → (∀ j, F j < 65536) → RO R F → (∀ R2, RO R2 (t10 b s N i F) → Q R2) → wp_X5_learnAll_11 J Q (N + 1) (nI s) (nI (b (s + 5))) (nI i) R := by
  have h5 := hJ.2.2.2.2.1
  have b5 := h5 (s + 5)
  intro N
  induction N with
  | zero =>
    intro i F R hi hb hR q
    exact pk_le (b (s + 5)) i (fun _ => q R hR) (fun z => by omega)
  | succ N ih =>
    intro i F R hi hb hR q
    obtain ⟨t1, t9⟩ := ht i (by omega)
    refine pk_le (b (s + 5)) i (fun z => by omega) (fun _ x hx => ?_)
    have ex : x = nI (s + 6 + 4 * i) := by rw [hx]; show nI s + nI 6 + nI 4 * nI i = _; rw [pk_mul, nI_add, nI_add]
    rw [ex]
    refine w_byteAt hJ (by omega) (w_party1 t1 t9 ⟨fun z => absurd z (by decide), fun _ => ⟨ivp (by omega) (by omega), ?_⟩⟩)
    have hbt := hb (702 + 18 * b (s + 6 + 4 * i))
    rw [nI_clamp (by omega), (hR _ t1 t9).1]
    unfold t10 at q
    refine pk_eq (F (702 + 18 * b (s + 6 + 4 * i))) 0 (fun z => ?_) (fun z => ?_)
    · rw [if_pos z] at q
      refine w_byteAt' (i := s + 7 + 4 * i) hJ (by rw [nI_1]; congr 1; omega) (by omega) ⟨ivp (by omega) (by omega), fun R1 hR1 => ?_⟩
      have := w_pairAt (i := s + 8 + 4 * i) hJ (by omega) (Q := fun r_7 => vp_in (nI (b (s + 6 + 4 * i))) 10 ∧ ∀ u0_8 : S5, u0_8 = s5_last R1 (upd (g5_last R1) (b (s + 6 + 4 * i)) r_7) → (wp_X5_learnAll_84 J (fun x2 x3 x4 u0 => wp_X5_learnAll_11 J Q (N + 1) x2 x3 x4 u0) Q (nI s) (nI (b (s + 5))) (nI i) u0_8)) ⟨ivp (by omega) (by omega), fun R2 hR2 y hy => ?_⟩
      · rw [show nI (s + 8 + 4 * i) = nI (s + 6 + 4 * i) + 2 by show _ = _ + nI 2; rw [nI_add]; congr 1; omega] at this
        exact this
      · rw [hy, nI_1, hR2, hR1]
        refine ih (i + 1) _ _ (by omega) ?_ (RO_set hR t1 t9) q
        exact updN_b (updN_b hb (by have := h5 (s + 7 + 4 * i); omega)) (pr2_lt h5 _)
    · rw [if_neg z] at q
      intro y hy
      rw [hy, nI_1]
      exact ih (i + 1) F R (by omega) hb hR q
theorem w_learn (hJ : isJ J b e f) {s : Nat} (hs : s < 10000) (hb : ∀ j, F j < 65536) (ht : b s = 10 → ∀ i, i < b (s + 5) → 1 ≤ b (s + 6 + 4 * i) ∧ b (s + 6 + 4 * i) ≤ 9) (hR : RO R F) {Q : S5 → Prop} (q : ∀ R2, RO R2 (an1F b s F) → Q R2) : wp_X5_learn R J (nI s) Q := by
  have h5 := hJ.2.2.2.2.1
  have b0 := h5 s
  have b2 := h5 (s + 2)
  unfold an1F at q
  refine w_byteAt (i := s) hJ (by omega) (pk_eq (b s) 10 (fun z => ?_) (fun z => ?_))
  · rw [if_pos z] at q
    refine w_byteAt' (i := s + 5) hJ (nI_add s 5) (by omega) ⟨b (s + 5) + 1, ?_⟩
    exact w_l10 hJ hs (ht z) (b (s + 5)) 0 F R (by omega) hb hR q
  · rw [if_neg z] at q
    refine w_byteAt' (i := s + 2) hJ (nI_add s 2) (by omega) ?_
    rcases party (nI (b (s + 2))) with hp | ⟨t, t1, t9, et⟩
    · refine w_party0 hp ⟨fun _ => ?_, fun y => absurd rfl y⟩
      have hn : ¬ (1 ≤ b (s + 2) ∧ b (s + 2) ≤ 9) := fun y => by
        rcases hp with y2 | y2
        · have y2 : nI (b (s + 2)) < nI 1 := y2
          have := (nI_ltI (by omega) (by omega)).mp y2
          omega
        · have y2 : nI 9 < nI (b (s + 2)) := y2.2
          have := (nI_ltI (by omega) (by omega)).mp y2
          omega
      rw [if_neg hn] at q
      exact q R hR
    · have et := (nI_eq (by omega) (by omega)).mp et
      subst et
      rw [if_pos ⟨t1, t9⟩] at q
      refine w_party1 t1 t9 ⟨fun y => absurd y (by decide), fun _ => pk_eq (b s) 7 (fun z7 => ?_) (fun z7 => ⟨ivp (by omega) (by omega), ?_⟩)⟩
      · rw [if_pos z7] at q
        exact w_remove t9 (q _ (RO_gone hR))
      · rw [if_neg z7] at q
        have hbt := hb (702 + 18 * b (s + 2))
        have tl : ∀ R1 i0, RO R1 (updN F (702 + 18 * b (s + 2)) i0) → (∀ R2, RO R2 (setF F (b (s + 2)) (if b s = 5 then 3 else if b s = 6 then 2 else i0) s) → Q R2) → wp_X5_learn_68 J Q (nI s) (nI (b s)) (nI (b (s + 2))) R1 := by
          intro R1 i0 hR1 q1
          refine ⟨ivp (by omega) (by omega), fun R2 hR2 => ?_⟩
          rw [nI_clamp (by omega)] at hR2 ⊢
          have r2 : ∀ i1, RO (s5_is R2 (upd (g5_is R2) (b (s + 2)) (nI i1))) (setF F (b (s + 2)) i1 s) := fun i1 u hu1 hu9 => by
            obtain ⟨c1, c2, c3⟩ := hR1 u hu1 hu9
            unfold setF
            rw [hR2]
            show upd (g5_is R1) (b (s + 2)) (nI i1) u = _ ∧ upd (g5_last R1) (b (s + 2)) (nI s) u = _ ∧ g5_cursor R1 u = _
            rw [uNn (j := 702 + 18 * u) (by omega), uNn (j := 704 + 18 * u) (by omega), uNn (j := 704 + 18 * u) (by omega)]
            rw [uNn (j := 703 + 18 * u) (by omega)] at c2
            rw [uNn (j := 704 + 18 * u) (by omega)] at c3
            by_cases c : u = b (s + 2)
            · subst c; rw [pk_us, pk_us, uNs, uNs]; exact ⟨rfl, rfl, c3⟩
            · rw [uNn (by omega)] at c1
              rw [pk_un c, pk_un c, uNn (by omega), uNn (by omega), uNn (by omega)]; exact ⟨c1, c2, c3⟩
          refine pk_eq (b s) 5 (fun z5 => ⟨ivp (by omega) (by omega), fun R3 hR3 => ?_⟩) (fun z5 => pk_eq (b s) 6 (fun z6 => ⟨ivp (by omega) (by omega), fun R3 hR3 => ?_⟩) (fun z6 => ?_))
          · rw [if_pos z5] at q1
            rw [hR3]; exact q1 _ (r2 3)
          · rw [if_neg z5, if_pos z6] at q1
            rw [hR3]; exact q1 _ (r2 2)
          · rw [if_neg z5, if_neg z6] at q1
            refine q1 _ fun u hu1 hu9 => ?_
            obtain ⟨c1, c2, c3⟩ := hR1 u hu1 hu9
            unfold setF
            rw [hR2]
            show g5_is R1 u = _ ∧ upd (g5_last R1) (b (s + 2)) (nI s) u = _ ∧ g5_cursor R1 u = _
            rw [uNn (j := 702 + 18 * u) (by omega), uNn (j := 704 + 18 * u) (by omega)]
            refine ⟨c1, ?_, c3⟩
            by_cases c : u = b (s + 2)
            · subst c; rw [pk_us, uNs]
            · rw [pk_un c, uNn (by omega)]; exact c2
        rw [nI_clamp (by omega), (hR _ t1 t9).1]
        refine pk_eq (F (702 + 18 * b (s + 2))) 0 (fun z0 => ⟨ivp (by omega) (by omega), fun R1 hR1 => tl R1 1 ?_ ?_⟩) (fun z0 => tl R (F (702 + 18 * b (s + 2))) ?_ ?_)
        · rw [hR1]
          intro u hu1 hu9
          obtain ⟨c1, c2, c3⟩ := hR u hu1 hu9
          show upd (g5_is R) (b (s + 2)) 1 u = _ ∧ g5_last R u = _ ∧ g5_cursor R u = _
          rw [uNn (j := 703 + 18 * u) (by omega), uNn (j := 704 + 18 * u) (by omega)]
          refine ⟨?_, c2, c3⟩
          by_cases c : u = b (s + 2)
          · subst c; rw [pk_us, uNs]; rfl
          · rw [pk_un c, uNn (by omega)]; exact c1
        · rw [if_pos z0] at q; exact q
        · have : updN F (702 + 18 * b (s + 2)) (F (702 + 18 * b (s + 2))) = F := funext fun j => by
            by_cases c : j = 702 + 18 * b (s + 2)
            · rw [c, uNs]
            · rw [uNn c]
          rw [this]; exact hR
        · rw [if_neg z0] at q; exact q
/-- which pages are unclean: the class's row -/
def RU (V : Nat → Int32) (U : Nat → Nat) : Prop := ∀ p, p < 16 → V p = nI (U p)
theorem RU_u {V : Nat → Int32} (h : RU V U) {p x : Nat} : RU (upd V p (nI x)) (updN U p x) := fun i hi => by
  by_cases c : i = p
  · subst c; rw [pk_us, uNs]
  · rw [pk_un c, uNn c]; exact h i hi
theorem w_markUnclean {r : S4} (h : RU (g4_unclean r) U) (hU : ∀ p, U p < 65536) {p rec : Nat} (hp : p < 16) (hr : rec < 65536) {Q : S4 → Prop} (q : ∀ V, RU V (if U p = 0 ∨ rec < U p then updN U p rec else U) → Q (s4_unclean r V)) : wp_X4_markUnclean r (nI p) (nI rec) Q := by
  have hUp := hU p
  refine w_page (fun p2 hp2 e2 => ?_) (fun z => ?_)
  · refine ⟨fun y => absurd y (by decide), fun _ => ⟨ivp hp (by omega), ?_⟩⟩
    rw [nI_clamp (by omega), h p hp]
    refine pk_eq (U p) 0 (fun z => ⟨ivp hp (by omega), fun r2 hr2 => ?_⟩) (fun z => ⟨ivp hp (by omega), pk_le (U p) rec (fun c => ?_) (fun c => ⟨ivp hp (by omega), fun r2 hr2 => ?_⟩)⟩)
    · rw [nI_clamp (by omega)] at hr2
      rw [hr2]
      refine q _ ?_
      rw [if_pos (Or.inl z)]; exact RU_u h
    · refine q (g4_unclean r) ?_
      rw [if_neg (by omega)]; exact h
    · rw [nI_clamp (by omega)] at hr2
      rw [hr2]
      refine q _ ?_
      rw [if_pos (Or.inr c)]; exact RU_u h
  · exfalso
    rcases z with z | z
    · exact absurd z (nI_pos (by omega))
    · exact absurd (show nI 15 < nI p from z) (nI_nlt (by omega) (by omega))
end
