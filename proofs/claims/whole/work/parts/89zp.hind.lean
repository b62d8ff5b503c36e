/-! ===== in hindsight: who is foremost, on both sides ===== -/
section
variable {m : S11} {F c : Nat → Nat} {R : S5} {T I L : Nat → Int32} {p : Nat → Bool} {b : Nat → Nat} {e f k : Nat} {J : S2}
def ac (F : Nat → Nat) (t : Nat) : Prop := F (702 + 18 * t) = 1 ∨ F (702 + 18 * t) = 2
def fm (F : Nat → Nat) : Nat → Nat → Nat → Nat
  | 0, _, a => a
  | N + 1, t, a => fm F N (t + 1) (if (F (702 + 18 * t) = 1 ∨ F (702 + 18 * t) = 2) ∧ (a = 0 ∨ F (704 + 18 * a) < F (704 + 18 * t)) then t else a)
def fr (p : Nat → Bool) (c : Nat → Nat) : Nat → Nat → Nat → Nat
  | 0, _, a => a
  | N + 1, t, a => fr p c N (t + 1) (if p t = true ∧ 0 < c t ∧ (a = 0 ∨ c a < c t) then t else a)
theorem fm_ok : ∀ N t a, N + t = 10 → 1 ≤ t → (a = 0 → ∀ u, 1 ≤ u → u < t → ¬ ac F u) → (a ≠ 0 → a ≤ 9 ∧ ac F a) → (fm F N t a = 0 → ∀ u, 1 ≤ u → u ≤ 9 → ¬ ac F u) ∧ (fm F N t a ≠ 0 → fm F N t a ≤ 9 ∧ ac F (fm F N t a)) := by
  intro N
  induction N with
  | zero => intro t a ht h1 h2 h3; exact ⟨fun z u u1 u9 => h2 z u u1 (by omega), h3⟩
  | succ N ih =>
    intro t a ht h1 h2 h3
    unfold fm
    refine ih (t + 1) _ (by omega) (by omega) (fun z u u1 u2 => ?_) (fun z => ?_)
    · split at z
      · omega
      · rename_i cn
        by_cases d : u = t
        · subst d
          intro y
          exact cn ⟨y, Or.inl z⟩
        · exact h2 z u u1 (by omega)
    · split
      · rename_i cn; exact ⟨by omega, cn.1⟩
      · rename_i cn
        rw [if_neg cn] at z
        exact h3 z
/-- what the class's table and the reference's have in common -/
def lnk (F : Nat → Nat) (p : Nat → Bool) (c : Nat → Nat) : Prop := ∀ t, 1 ≤ t → t ≤ 9 → (ac F t → p t = true ∧ c t = F (704 + 18 * t)) ∧ (p t = true → ¬ ac F t → c t = 0)
theorem fm_fr (hl : lnk F p c) : ∀ N t a a', N + t = 10 → 1 ≤ t → a ≤ 9 → a' ≤ 9 → (a ≠ 0 → ac F a) → (a' ≠ 0 → a = a' ∧ p a' = true ∧ 0 < c a') → (a' = 0 → (a = 0 ∨ F (704 + 18 * a) = 0) ∧ ∀ u, 1 ≤ u → u < t → p u = true → c u = 0) → (fr p c N t a' ≠ 0 → fm F N t a = fr p c N t a' ∧ 0 < c (fr p c N t a')) ∧ (fr p c N t a' = 0 → ∀ u, 1 ≤ u → u ≤ 9 → p u = true → c u = 0) := by
  intro N
  induction N with
  | zero =>
    intro t a a' ht h1 ha ha' h2 h3 h4
    exact ⟨fun z => ⟨(h3 z).1, (h3 z).2.2⟩, fun z u u1 u9 => (h4 z).2 u u1 (by omega)⟩
  | succ N ih =>
    intro t a a' ht h1 ha ha' h2 h3 h4
    unfold fm fr
    obtain ⟨l1, l2⟩ := hl t h1 (by omega)
    by_cases ct : p t = true ∧ 0 < c t ∧ (a' = 0 ∨ c a' < c t)
    · have hac : ac F t := by
        rcases Classical.em (ac F t) with y | y
        · exact y
        · have := l2 ct.1 y; omega
      have hc : (F (702 + 18 * t) = 1 ∨ F (702 + 18 * t) = 2) ∧ (a = 0 ∨ F (704 + 18 * a) < F (704 + 18 * t)) := by
        refine ⟨hac, ?_⟩
        have e1 := (l1 hac).2
        rcases ct.2.2 with y | y
        · rcases (h4 y).1 with z | z
          · exact Or.inl z
          · right; omega
        · by_cases z : a' = 0
          · rcases (h4 z).1 with z2 | z2
            · exact Or.inl z2
            · right; omega
          · right
            obtain ⟨y1, y2, y3⟩ := h3 z
            have ha1 : 1 ≤ a := by omega
            have := ((hl a ha1 ha).1 (h2 (by omega))).2
            rw [← y1] at y
            omega
      rw [if_pos ct, if_pos hc]
      exact ih (t + 1) t t (by omega) (by omega) (by omega) (by omega) (fun _ => hac) (fun _ => ⟨rfl, ct.1, ct.2.1⟩) (fun z => by omega)
    · rw [if_neg ct]
      by_cases cf : (F (702 + 18 * t) = 1 ∨ F (702 + 18 * t) = 2) ∧ (a = 0 ∨ F (704 + 18 * a) < F (704 + 18 * t))
      · rw [if_pos cf]
        obtain ⟨q1, q2⟩ := l1 cf.1
        have ha0 : a' = 0 := by
          rcases Nat.eq_zero_or_pos a' with y | y
          · exact y
          · exfalso
            obtain ⟨y1, y2, y3⟩ := h3 (by omega)
            rcases cf.2 with z | z
            · omega
            · have := ((hl a (by omega) ha).1 (h2 (by omega))).2
              exact ct ⟨q1, by omega, Or.inr (by rw [← y1]; omega)⟩
        have hct : c t = 0 := by
          rcases Nat.eq_zero_or_pos (c t) with y | y
          · exact y
          · exact absurd ⟨q1, y, Or.inl ha0⟩ ct
        refine ih (t + 1) t a' (by omega) (by omega) (by omega) ha' (fun _ => cf.1) (fun z => absurd ha0 z) (fun z => ⟨Or.inr (by omega), fun u u1 u2 hu => ?_⟩)
        by_cases d : u = t
        · rw [d]; exact hct
        · exact (h4 z).2 u u1 (by omega) hu
      · rw [if_neg cf]
        refine ih (t + 1) a a' (by omega) (by omega) ha ha' h2 h3 (fun z => ⟨(h4 z).1, fun u u1 u2 hu => ?_⟩)
        by_cases d : u = t
        · subst d
          rcases Nat.eq_zero_or_pos (c u) with y | y
          · exact y
          · exact absurd ⟨hu, y, Or.inl z⟩ ct
        · exact (h4 z).2 u u1 (by omega) hu
theorem w_fm (hR : RO R F) (hb : ∀ i, F i < 65536) {Q : Int32 → Prop} (q : Q (nI (fm F 9 1 0))) : wp_X5_foremost R Q := by
  have go : ∀ N t a, N + t = 10 → 1 ≤ t → a ≤ 9 → Q (nI (fm F N t a)) → wp_X5_foremost_4 R Q (N + 1) (nI a) (nI t) := by
    intro N
    induction N with
    | zero => intro t a ht h1 ha q; exact pk_lt 9 t (fun _ => q) (fun z => by omega)
    | succ N ih =>
      intro t a ht h1 ha q
      unfold fm at q
      obtain ⟨r1, r2, r3⟩ := hR t h1 (by omega)
      have hbt := hb (702 + 18 * t)
      have hct := hb (704 + 18 * t)
      have hca := hb (704 + 18 * a)
      have n61 : ∀ a2, a2 ≤ 9 → Q (nI (fm F N (t + 1) a2)) → wp_X5_foremost_61 R (fun x1 x2 => wp_X5_foremost_4 R Q (N + 1) x1 x2) Q (nI a2) (nI t) := fun a2 ha2 q2 y hy => by
        rw [hy, nI_1]; exact ih (t + 1) a2 (by omega) (by omega) ha2 q2
      have n30 : (F (702 + 18 * t) = 1 ∨ F (702 + 18 * t) = 2) → wp_X5_foremost_30 R (fun x1 x2 y0 => wp_X5_foremost_35 R (fun x1 x2 => wp_X5_foremost_4 R Q (N + 1) x1 x2) Q x1 x2 y0) Q (nI a) (nI t) := by
        intro hn
        refine ⟨fun z => absurd z (by decide), fun _ => pk_eq a 0 (fun z => ?_) (fun z => ⟨ivp (by omega) (by omega), ivp (by omega) (by omega), ?_⟩)⟩
        · rw [if_pos ⟨hn, Or.inl z⟩] at q
          exact n61 t (by omega) q
        · rw [nI_clamp (by omega), nI_clamp (by omega), r3, (hR a (by omega) ha).2.2]
          refine pk_le (F (704 + 18 * t)) (F (704 + 18 * a)) (fun y => n61 a ha ?_) (fun y => n61 t (by omega) ?_)
          · rw [if_neg (by omega)] at q; exact q
          · rw [if_pos ⟨hn, Or.inr y⟩] at q; exact q
      refine pk_lt 9 t (fun z => by omega) (fun _ => ⟨ivp (by omega) (by omega), ?_⟩)
      rw [nI_clamp (by omega), r1]
      refine pk_eq (F (702 + 18 * t)) 1 (fun z => n30 (by omega)) (fun z => ⟨ivp (by omega) (by omega), pk_eq (F (702 + 18 * t)) 2 (fun z => n30 (by omega)) (fun z2 => ⟨fun _ => n61 a ha ?_, fun y => absurd rfl y⟩)⟩)
      rw [if_neg (by omega)] at q; exact q
  exact ⟨10, go 9 1 0 (by omega) (by omega) (by omega) q⟩
/-- the reference in hindsight -/
def thR (m : S11) (T I L : Nat → Int32) : S11 := (m.1, m.2.1, m.2.2.1, m.2.2.2.1, m.2.2.2.2.1, m.2.2.2.2.2.1, m.2.2.2.2.2.2.1, m.2.2.2.2.2.2.2.1, m.2.2.2.2.2.2.2.2.1, m.2.2.2.2.2.2.2.2.2.1, T, I, L, m.2.2.2.2.2.2.2.2.2.2.2.2.2)
theorem tH1 : g11_thoughtRow (thR m T I L) = T ∧ g11_isThere (thR m T I L) = I ∧ g11_latest (thR m T I L) = L ∧ g11_now (thR m T I L) = g11_now m := ⟨rfl, rfl, rfl, rfl⟩
theorem tH2 {x : Nat → Int32} : s11_thoughtRow (thR m T I L) x = thR m x I L := rfl
theorem tH3 {x : Nat → Int32} : s11_isThere (thR m T I L) x = thR m T x L := rfl
theorem tH4 {x : Nat → Int32} : s11_latest (thR m T I L) x = thR m T I x := rfl
theorem tH5 : Fl2 (thR m T I L) m := ⟨⟨rfl, rfl, rfl⟩, rfl, rfl, rfl, rfl, rfl, rfl⟩
theorem tH6 : m = thR m (g11_thoughtRow m) (g11_isThere m) (g11_latest m) := rfl
def RIh (I L : Nat → Int32) (p : Nat → Bool) (c : Nat → Nat) : Prop := ∀ t, 1 ≤ t → t ≤ 9 → (I t = 1 ↔ p t = true) ∧ (p t = true → L t = nI (c t))
theorem x_fr (h : RIh I L p c) (hc : ∀ t, c t < 65536) {Q : Int32 → Prop} (q : Q (if fr p c 9 1 0 = 0 then -1 else nI (fr p c 9 1 0))) : wp_X11_furthest (thR m T I L) Q := by
  obtain ⟨g1, g2, g3, g4⟩ := tH1 (m := m) (T := T) (I := I) (L := L)
  have go : ∀ N t a, N + t = 10 → 1 ≤ t → a ≤ 9 → (a ≠ 0 → p a = true) → Q (if fr p c N t a = 0 then -1 else nI (fr p c N t a)) → wp_X11_furthest_4 (thR m T I L) Q (N + 1) (if a = 0 then -1 else nI a) (nI t) := by
    intro N
    induction N with
    | zero => intro t a ht h1 ha _ q; exact pk_lt 9 t (fun _ => q) (fun z => by omega)
    | succ N ih =>
      intro t a ht h1 ha hpa q
      unfold fr at q
      obtain ⟨r1, r2⟩ := h t h1 (by omega)
      have hct := hc t
      have hca := hc a
      have n51 : ∀ a2, a2 ≤ 9 → (a2 ≠ 0 → p a2 = true) → Q (if fr p c N (t + 1) a2 = 0 then -1 else nI (fr p c N (t + 1) a2)) → wp_X11_furthest_51 (thR m T I L) (fun x1 x2 => wp_X11_furthest_4 (thR m T I L) Q (N + 1) x1 x2) Q (if a2 = 0 then -1 else nI a2) (nI t) := fun a2 ha2 hp2 q2 y hy => by
        rw [hy, nI_1]; exact ih (t + 1) a2 (by omega) (by omega) ha2 hp2 q2
      have n49 : p t = true → Q (if fr p c N (t + 1) t = 0 then -1 else nI (fr p c N (t + 1) t)) → wp_X11_furthest_49 (thR m T I L) (fun x1 x2 => wp_X11_furthest_51 (thR m T I L) (fun x1 x2 => wp_X11_furthest_4 (thR m T I L) Q (N + 1) x1 x2) Q x1 x2) Q (nI t) := by
        intro hp q2
        have := n51 t (by omega) (fun _ => hp) q2
        rw [if_neg (by omega)] at this
        exact this
      refine pk_lt 9 t (fun z => by omega) (fun _ => ⟨ivp (by omega) (by omega), ?_⟩)
      rw [g2, g3, nI_clamp (by omega)]
      refine ⟨fun c1 => ⟨ivp (by omega) (by omega), ?_⟩, fun c1 => ?_⟩
      · have hp := r1.mp c1
        rw [r2 hp]
        refine pk_le (c t) 0 (fun y => n51 a ha hpa ?_) (fun y => ⟨fun y2 => ?_, fun y2 => ?_⟩)
        · have e1 : (if p t = true ∧ 0 < c t ∧ (a = 0 ∨ c a < c t) then t else a) = a := if_neg (fun z => by omega)
          rw [e1] at q; exact q
        · have ha0 : a = 0 := by
            rcases Nat.eq_zero_or_pos a with z | z
            · exact z
            · rw [if_neg (by omega)] at y2; exact absurd y2 (nI_m1 (by omega))
          have e1 : (if p t = true ∧ 0 < c t ∧ (a = 0 ∨ c a < c t) then t else a) = t := if_pos ⟨hp, by omega, Or.inl ha0⟩
          rw [e1] at q
          exact n49 hp q
        · have ha0 : a ≠ 0 := fun z => y2 (by rw [if_pos z])
          have e1 : (if a = 0 then (-1 : Int32) else nI a) = nI a := if_neg ha0
          have n51a := n51 a ha hpa
          rw [e1] at n51a ⊢
          refine ⟨ivp (by omega) (by omega), ivp (by omega) (by omega), ?_⟩
          rw [nI_clamp (by omega), (h a (by omega) ha).2 (hpa ha0)]
          refine pk_le (c t) (c a) (fun y3 => n51a ?_) (fun y3 => n49 hp ?_)
          · have e2 : (if p t = true ∧ 0 < c t ∧ (a = 0 ∨ c a < c t) then t else a) = a := if_neg (fun z => by omega)
            rw [e2] at q; exact q
          · have e2 : (if p t = true ∧ 0 < c t ∧ (a = 0 ∨ c a < c t) then t else a) = t := if_pos ⟨hp, by omega, Or.inr (by omega)⟩
            rw [e2] at q; exact q
      · refine n51 a ha hpa ?_
        have e2 : (if p t = true ∧ 0 < c t ∧ (a = 0 ∨ c a < c t) then t else a) = a := if_neg (fun y => c1 (r1.mpr y.1))
        rw [e2] at q; exact q
  intro x hx
  rw [hx]
  exact ⟨10, go 9 1 0 (by omega) (by omega) (by omega) (fun z => absurd rfl z) q⟩
end
