/-! ===== recovery: analysis, what it finds ===== -/
section
variable {m : S11} {n : Nat → Int32} {pn : Int32} {F F2 : Nat → Nat} {G G2 : Nat → Int32} {b b2 : Nat → Nat} {e f k e2 f2 : Nat} {w : S9} {P : S3} {C : S0} {R : S5} {J : S2} {U : Nat → Nat}
def anF (b : Nat → Nat) : Nat → Nat → (Nat → Nat) → Nat → Nat
  | 0, _, F => F
  | N + 1, j, F => anF b N (j + 1) (an1F b (wlk b j) F)
def anU (b : Nat → Nat) : Nat → Nat → (Nat → Nat) → Nat → Nat
  | 0, _, U => U
  | N + 1, j, U => anU b N (j + 1) (an1U b (wlk b j) U)
/-- the table found so far, of what stands in front of j -/
def AT (F : Nat → Nat) (b : Nat → Nat) (j : Nat) (full : Prop) : Prop := ∀ t, 1 ≤ t → t ≤ 9 → (F (702 + 18 * t) ≠ 0 → ((rp b j t).1 ≠ 0 ∧ (F (702 + 18 * t) = 3 ↔ (rp b j t).1 = 3) ∧ F (702 + 18 * t) ≤ 3) ∧ F (703 + 18 * t) = (rp b j t).2) ∧ (F (702 + 18 * t) = 0 → F (703 + 18 * t) = 0) ∧ (full → F (702 + 18 * t) = 0 → (rp b j t).1 = 0)
/-- of a transaction only IS and LAST are not 0 -/
def AZ (F : Nat → Nat) : Prop := ∀ t j, 1 ≤ t → t ≤ 9 → 2 ≤ j → j < 18 → F (702 + 18 * t + j) = 0
def AU (U : Nat → Nat) (b : Nat → Nat) (j : Nat) : Prop := ∀ p, U p = 0 ∨ St b j (U p)
theorem setF_s {t i l : Nat} : setF F t i l (702 + 18 * t) = i ∧ setF F t i l (703 + 18 * t) = l := by
  unfold setF
  exact ⟨by rw [uNn (by omega), uNs], uNs⟩
theorem setF_n {t i l j : Nat} (h1 : j ≠ 702 + 18 * t) (h2 : j ≠ 703 + 18 * t) : setF F t i l j = F j := by unfold setF; rw [uNn h2, uNn h1]
theorem t10_ok {s j : Nat} (hp : ∀ i, i < b (s + 5) → 1 ≤ b (s + 6 + 4 * i) ∧ b (s + 6 + 4 * i) ≤ 9 ∧ b (s + 7 + 4 * i) = (rp b j (b (s + 6 + 4 * i))).1 ∧ 1 ≤ b (s + 7 + 4 * i) ∧ b (s + 7 + 4 * i) ≤ 2 ∧ pr2 b (s + 8 + 4 * i) = (rp b j (b (s + 6 + 4 * i))).2) : ∀ N i F, N + i = b (s + 5) → AT F b j False → AZ F → AT (t10 b s N i F) b j False ∧ AZ (t10 b s N i F) ∧ txo (t10 b s N i F) F ∧ (∀ t, 1 ≤ t → t ≤ 9 → F (702 + 18 * t) ≠ 0 → t10 b s N i F (702 + 18 * t) ≠ 0) ∧ ∀ i2, i ≤ i2 → i2 < b (s + 5) → t10 b s N i F (702 + 18 * b (s + 6 + 4 * i2)) ≠ 0 := by
  intro N
  induction N with
  | zero => intro i F hi hA hZ; exact ⟨hA, hZ, fun _ _ => rfl, fun _ _ _ z => z, fun i2 h1 h2 => by omega⟩
  | succ N ih =>
    intro i F hi hA hZ
    unfold t10
    obtain ⟨t1, t9, p3, p4, p5, p6⟩ := hp i (by omega)
    by_cases c : F (702 + 18 * b (s + 6 + 4 * i)) = 0
    · rw [if_pos c]
      generalize htt : b (s + 6 + 4 * i) = t at *
      have o : ∀ j, j ≠ 702 + 18 * t → j ≠ 703 + 18 * t → setF F t (b (s + 7 + 4 * i)) (pr2 b (s + 8 + 4 * i)) j = F j := fun j h1 h2 => setF_n h1 h2
      obtain ⟨z1, z2⟩ := setF_s (F := F) (t := t) (i := b (s + 7 + 4 * i)) (l := pr2 b (s + 8 + 4 * i))
      generalize setF F t (b (s + 7 + 4 * i)) (pr2 b (s + 8 + 4 * i)) = F2 at *
      have hA2 : AT F2 b j False := fun u u1 u9 => by
        by_cases d : u = t
        · subst d
          rw [z1, z2]
          exact ⟨fun _ => ⟨by rw [← p3]; omega, p6⟩, fun z => by omega, fun z => z.elim⟩
        · rw [o _ (by omega) (by omega), o _ (by omega) (by omega)]; exact hA u u1 u9
      obtain ⟨q1, q2, q3, q4, q5⟩ := ih (i + 1) F2 (by omega) hA2 (fun u v u1 u9 v1 v2 => by rw [o _ (by omega) (by omega)]; exact hZ u v u1 u9 v1 v2)
      · refine ⟨q1, q2, fun v hv => by rw [q3 v hv, o v (by omega) (by omega)], fun u u1 u9 hu => q4 u u1 u9 ?_, fun i2 i3 i4 => ?_⟩
        · by_cases d : u = t
          · rw [d, z1]; omega
          · rw [o _ (by omega) (by omega)]; exact hu
        · by_cases d : i2 = i
          · subst d
            have := q4 t t1 t9 (by rw [z1]; omega)
            rw [htt]; exact this
          · exact q5 i2 (by omega) i4
    · rw [if_neg c]
      obtain ⟨q1, q2, q3, q4, q5⟩ := ih (i + 1) F (by omega) hA hZ
      refine ⟨q1, q2, q3, q4, fun i2 i3 i4 => ?_⟩
      by_cases d : i2 = i
      · subst d; exact q4 _ t1 t9 c
      · exact q5 i2 (by omega) i4
/-- one record: the table goes on -/
theorem an1_ok (hL : LogOK b e k) {j : Nat} (hj : j < k) {full : Prop} (hA : AT F b j full) (hZ : AZ F) : AT (an1F b (wlk b j) F) b (j + 1) (full ∨ b (wlk b j) = 10) ∧ AZ (an1F b (wlk b j) F) ∧ txo (an1F b (wlk b j) F) F := by
  obtain ⟨l9, l0, l1, l2, l10⟩ := leg_b hL hj
  obtain ⟨h6, h68, h3, h4, hv⟩ := rec_rd hL hj
  have e0 : rv b (wlk b j) 0 = b (wlk b j) := hv 0 (by omega)
  have e2 : rv b (wlk b j) 2 = b (wlk b j + 2) := hv 2 (by omega)
  have hrp : ∀ t, rp b (j + 1) t = lrn (rp b j) (wlk b j) (rv b (wlk b j)) t := fun t => rfl
  have l7 := (hL.2.1 j hj).2.2.2.2.2.2.2.1
  rw [e0, e2] at l7
  unfold an1F
  by_cases c10 : b (wlk b j) = 10
  · rw [if_pos c10]
    obtain ⟨g1, g2, g3, g4, g5, g6⟩ := l10 c10
    have h2 : b (wlk b j + 2) = 0 := l0.mpr (Or.inr c10)
    have hr : ∀ t, 1 ≤ t → rp b (j + 1) t = rp b j t := fun t ht => by rw [hrp]; exact lrn_ne (by rw [e2, h2]; omega)
    obtain ⟨q1, q2, q3, q4, q5⟩ := t10_ok g4 (b (wlk b j + 5)) 0 F (by omega) (fun t t1 t9 => ⟨(hA t t1 t9).1, (hA t t1 t9).2.1, fun z => z.elim⟩) hZ
    refine ⟨fun t t1 t9 => ?_, q2, q3⟩
    rw [hr t t1]
    refine ⟨(q1 t t1 t9).1, (q1 t t1 t9).2.1, fun _ z => ?_⟩
    by_cases d : (rp b j t).1 = 0
    · exact d
    · obtain ⟨i, i1, i2⟩ := g5 t t1 t9 d
      have := q5 i (by omega) i1
      rw [i2] at this
      exact absurd z this
  · rw [if_neg c10]
    have hfull : full ∨ b (wlk b j) = 10 → full := fun z => z.resolve_right c10
    by_cases ct : 1 ≤ b (wlk b j + 2) ∧ b (wlk b j + 2) ≤ 9
    · rw [if_pos ct]
      have hne : ∀ t, t ≠ b (wlk b j + 2) → rp b (j + 1) t = rp b j t := fun t ht => by rw [hrp]; exact lrn_ne (by rw [e2]; exact ht)
      have heq : rp b (j + 1) (b (wlk b j + 2)) = if b (wlk b j) = 7 then (0, 0) else (if b (wlk b j) = 5 then 3 else if b (wlk b j) = 6 then 2 else if (rp b j (b (wlk b j + 2))).1 = 0 then 1 else (rp b j (b (wlk b j + 2))).1, wlk b j) := by
        rw [hrp]
        unfold lrn
        rw [e2, e0, if_neg (by omega)]
      generalize hs : wlk b j = s at *
      generalize ht : b (s + 2) = t at *
      obtain ⟨a1, a2, a3⟩ := hA t ct.1 ct.2
      by_cases c7 : b s = 7
      · rw [if_pos c7] at heq ⊢
        have o : ∀ v, ¬ (702 + 18 * t ≤ v ∧ v < 720 + 18 * t) → goneF F t v = F v := fun v hv => by unfold goneF; rw [if_neg hv]
        have z : ∀ v, 702 + 18 * t ≤ v → v < 720 + 18 * t → goneF F t v = 0 := fun v v1 v2 => by unfold goneF; rw [if_pos ⟨v1, v2⟩]
        refine ⟨fun u u1 u9 => ?_, fun u v u1 u9 v1 v2 => ?_, fun v hv => o v (by omega)⟩
        · by_cases d : u = t
          · subst d
            rw [z _ (by omega) (by omega), z _ (by omega) (by omega), heq]
            exact ⟨fun y => absurd rfl y, fun _ => rfl, fun _ _ => rfl⟩
          · rw [o _ (by omega), o _ (by omega), hne u d]
            exact ⟨(hA u u1 u9).1, (hA u u1 u9).2.1, fun y => (hA u u1 u9).2.2 (hfull y)⟩
        · by_cases d : u = t
          · subst d; exact z _ (by omega) (by omega)
          · rw [o _ (by omega)]; exact hZ u v u1 u9 v1 v2
      · rw [if_neg c7] at heq ⊢
        generalize hi : (if b s = 5 then 3 else if b s = 6 then 2 else if F (702 + 18 * t) = 0 then 1 else F (702 + 18 * t)) = i1
        obtain ⟨z1, z2⟩ := setF_s (F := F) (t := t) (i := i1) (l := s)
        have o : ∀ v, v ≠ 702 + 18 * t → v ≠ 703 + 18 * t → setF F t i1 s v = F v := fun v h1 h2 => setF_n h1 h2
        generalize setF F t i1 s = F2 at *
        refine ⟨fun u u1 u9 => ?_, fun u v u1 u9 v1 v2 => ?_, fun v hv => o v (by omega) (by omega)⟩
        · by_cases d : u = t
          · subst d
            rw [z1, z2, heq]
            have hr3 := (rp_Sz (b := b) j u).2.2.1
            have key : ((if b s = 5 then 3 else if b s = 6 then 2 else if (rp b j u).1 = 0 then 1 else (rp b j u).1) ≠ 0 ∧ (i1 = 3 ↔ (if b s = 5 then 3 else if b s = 6 then 2 else if (rp b j u).1 = 0 then 1 else (rp b j u).1) = 3) ∧ i1 ≤ 3) ∧ i1 ≠ 0 := by
              rw [← hi]
              by_cases c5 : b s = 5
              · rw [if_pos c5, if_pos c5]; omega
              · rw [if_neg c5, if_neg c5]
                by_cases c6 : b s = 6
                · rw [if_pos c6, if_pos c6]; omega
                · rw [if_neg c6, if_neg c6]
                  have hcur : (rp b j u).1 ≠ 3 := by
                    by_cases c1 : b s = 1
                    · have := l1 c1; omega
                    · have := l2 c1 c7 (by omega); omega
                  by_cases cz : F (702 + 18 * u) = 0
                  · rw [if_pos cz]
                    by_cases c1 : (rp b j u).1 = 0
                    · rw [if_pos c1]; omega
                    · rw [if_neg c1]; omega
                  · have := (a1 cz).1
                    rw [if_neg cz, if_neg this.1]; omega
            exact ⟨fun _ => ⟨key.1, rfl⟩, fun y => absurd y key.2, fun _ y => absurd y key.2⟩
          · rw [o _ (by omega) (by omega), o _ (by omega) (by omega), hne u d]
            exact ⟨(hA u u1 u9).1, (hA u u1 u9).2.1, fun y => (hA u u1 u9).2.2 (hfull y)⟩
        · rw [o _ (by omega) (by omega)]; exact hZ u v u1 u9 v1 v2
    · rw [if_neg ct]
      have h2 : b (wlk b j + 2) = 0 := by omega
      have hr : ∀ t, 1 ≤ t → rp b (j + 1) t = rp b j t := fun t ht => by rw [hrp]; exact lrn_ne (by rw [e2, h2]; omega)
      refine ⟨fun t t1 t9 => ?_, hZ, fun _ _ => rfl⟩
      rw [hr t t1]
      exact ⟨(hA t t1 t9).1, (hA t t1 t9).2.1, fun y => (hA t t1 t9).2.2 (hfull y)⟩
end
