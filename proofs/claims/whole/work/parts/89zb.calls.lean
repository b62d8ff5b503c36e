/-! ===== calls of the store over the World: act, write, add, save, back, roll, keep ===== -/
section
variable {m : S11} {n : Nat → Int32} {pn : Int32} {u : S10}
theorem o_write (h : SW (g10_now u) n) (x1 x2 x3 : Int32) {K : Int32 → S10 → Int32 → S11 → Prop} (q : ∀ r w2 n2 p2, SW w2 n2 → g9_script w2 = g9_script (g10_now u) → n2 7 = n 7 → K r (s10_now u w2) r (mS (s11_told m 0) n2 p2)) : wp_X10_write u x1 x2 x3 (fun r u2 => wp_X11_write (mS m n pn) x1 x2 x3 (fun r2 v2 => K r u2 r2 v2)) :=
  s_write (m := m) (pn := pn) h x1 x2 x3 (fun r w2 r2 v2 => K r (s10_now u w2) r2 v2) (fun r w2 n2 p2 _ a b c => q r w2 n2 p2 a b c) _ (fun r w2 z hx u3 hu3 => ⟨z, by rw [hu3]; exact hx⟩)
theorem o_add (h : SW (g10_now u) n) (x1 x2 x3 : Int32) {K : Int32 → S10 → Int32 → S11 → Prop} (q : ∀ r w2 n2 p2, SW w2 n2 → g9_script w2 = g9_script (g10_now u) → n2 7 = n 7 → K r (s10_now u w2) r (mS (s11_told m 0) n2 p2)) : wp_X10_add u x1 x2 x3 (fun r u2 => wp_X11_add (mS m n pn) x1 x2 x3 (fun r2 v2 => K r u2 r2 v2)) :=
  s_add (m := m) (pn := pn) h x1 x2 x3 (fun r w2 r2 v2 => K r (s10_now u w2) r2 v2) (fun r w2 n2 p2 _ a b c => q r w2 n2 p2 a b c) _ (fun r w2 z hx u3 hu3 => ⟨z, by rw [hu3]; exact hx⟩)
theorem o_save (h : SW (g10_now u) n) (x1 : Int32) {K : Int32 → S10 → Int32 → S11 → Prop} (q : ∀ r w2 n2 p2, SW w2 n2 → g9_script w2 = g9_script (g10_now u) → n2 7 = n 7 → K r (s10_now u w2) r (mS (s11_told m 0) n2 p2)) : wp_X10_save u x1 (fun r u2 => wp_X11_save (mS m n pn) x1 (fun r2 v2 => K r u2 r2 v2)) :=
  s_save (m := m) (pn := pn) h x1 (fun r w2 r2 v2 => K r (s10_now u w2) r2 v2) (fun r w2 n2 p2 _ a b c => q r w2 n2 p2 a b c) _ (fun r w2 z hx u3 hu3 => by rw [hu3]; exact hx)
theorem o_back (h : SW (g10_now u) n) (x1 x2 : Int32) {K : Int32 → S10 → Int32 → S11 → Prop} (q : ∀ r w2 n2 p2, SW w2 n2 → g9_script w2 = g9_script (g10_now u) → n2 7 = n 7 → K r (s10_now u w2) r (mS (s11_told m 0) n2 p2)) : wp_X10_back u x1 x2 (fun r u2 => wp_X11_back (mS m n pn) x1 x2 (fun r2 v2 => K r u2 r2 v2)) :=
  s_back (m := m) (pn := pn) h x1 x2 (fun r w2 r2 v2 => K r (s10_now u w2) r2 v2) (fun r w2 n2 p2 _ a b c => q r w2 n2 p2 a b c) _ (fun r w2 z hx u3 hu3 => by rw [hu3]; exact hx)
theorem o_roll (h : SW (g10_now u) n) (x1 x2 : Int32) {K : Int32 → S10 → Int32 → S11 → Prop} (q : ∀ r w2 n2 p2, SW w2 n2 → g9_script w2 = g9_script (g10_now u) → n2 7 = n 7 → K r (s10_now u w2) r (mS (s11_told m 0) n2 p2)) : wp_X10_roll u x1 x2 (fun r u2 => wp_X11_roll (mS m n pn) x1 x2 (fun r2 v2 => K r u2 r2 v2)) := by
  have ref : K (-1) u (-1) (mS (s11_told m 0) n pn) := q (-1) (g10_now u) n pn h rfl rfl
  rcases rng x2 (lo := 1) (hi := 20) (by omega) (by omega) with z | z | ⟨a, a1, a2, a3, a4, a5⟩
  · refine ⟨fun _ v hv => ?_, fun y => absurd z y⟩
    rw [hv]; exact x_isIn0 (Or.inl z) ⟨fun _ => ref, fun y => absurd rfl y⟩
  · refine ⟨fun y => absurd y z.1, fun _ => ⟨fun y => absurd z.2 (Int32.not_lt.mpr y), fun _ v hv => ?_⟩⟩
    rw [hv]; exact x_isIn0 (Or.inr z.2) ⟨fun _ => ref, fun y => absurd rfl y⟩
  · subst a3
    exact ⟨fun y => absurd y a4, fun _ => ⟨fun _ => s_roll (m := m) (pn := pn) h x1 a1 a2 (fun r w2 r2 v2 => K r (s10_now u w2) r2 v2) (fun r w2 n2 p2 _ a b c => q r w2 n2 p2 a b c) _ (fun r w2 z hx u3 hu3 => by rw [hu3]; exact hx), fun y => absurd (Int32.not_lt.mp a5) y⟩⟩
theorem o_act (h : SW (g10_now u) n) (x1 x2 : Int32) {K : Int32 → S10 → Int32 → S11 → Prop} (q : ∀ r w2 n2 p2, SW w2 n2 → g9_script w2 = g9_script (g10_now u) → n2 7 = n 7 → K r (s10_now u w2) r (mS (s11_told m 0) n2 p2)) : wp_X10_act u x1 x2 (fun r u2 => wp_X11_act (mS m n pn) x1 x2 (fun r2 v2 => K r u2 r2 v2)) := by
  have ref : K 0 u 0 (mS (s11_told m 0) n pn) := q 0 (g10_now u) n pn h rfl rfl
  by_cases c0 : x2 = nI 0
  · subst c0
    exact ⟨fun _ => s_begin (m := s11_told m 0) (pn := pn) h x1 (fun r w2 r2 v2 => zb r2 ∧ K r (s10_now u w2) r2 v2) (fun r w2 n2 p2 z a b c => ⟨z, q r w2 n2 p2 a b c⟩) _ (fun r w2 z hx u3 hu3 => ⟨z, fun v hv => by rw [hv, hu3]; exact ⟨fun _ => hx, fun y => absurd rfl y⟩⟩), fun y => absurd rfl y⟩
  by_cases c1 : x2 = nI 1
  · subst c1
    exact ⟨fun y => absurd y (by decide), fun _ => ⟨fun _ => s_commit (m := s11_told m 0) (pn := pn) h x1 (fun r w2 r2 v2 => zb r2 ∧ K r (s10_now u w2) r2 v2) (fun r w2 n2 p2 z a b c => ⟨z, q r w2 n2 p2 a b c⟩) _ (fun r w2 z hx u3 hu3 => ⟨z, fun v hv => by rw [hv, hu3]; exact ⟨fun y => absurd y (by decide), fun _ => ⟨fun _ => hx, fun y => absurd rfl y⟩⟩⟩), fun y => absurd rfl y⟩⟩
  by_cases c2 : x2 = nI 2
  · subst c2
    exact ⟨fun y => absurd y (by decide), fun _ => ⟨fun y => absurd y (by decide), fun _ => ⟨fun _ => s_abort (m := s11_told m 0) (pn := pn) h x1 (fun r w2 r2 v2 => zb r2 ∧ K r (s10_now u w2) r2 v2) (fun r w2 n2 p2 z a b c => ⟨z, q r w2 n2 p2 a b c⟩) _ (fun r w2 z hx u3 hu3 => ⟨z, fun v hv => by rw [hv, hu3]; exact ⟨fun y => absurd y (by decide), fun _ => ⟨fun y => absurd y (by decide), fun _ => ⟨fun _ => hx, fun y => absurd rfl y⟩⟩⟩⟩), fun y => absurd rfl y⟩⟩⟩
  by_cases c3 : x2 = nI 3
  · subst c3
    exact ⟨fun y => absurd y (by decide), fun _ => ⟨fun y => absurd y (by decide), fun _ => ⟨fun y => absurd y (by decide), fun _ => ⟨fun _ => s_openTop (m := s11_told m 0) (pn := pn) h x1 (fun r w2 r2 v2 => zb r2 ∧ K r (s10_now u w2) r2 v2) (fun r w2 n2 p2 z a b c => ⟨z, q r w2 n2 p2 a b c⟩) _ (fun r w2 z hx u3 hu3 => ⟨z, fun v hv => by rw [hv, hu3]; exact ⟨fun y => absurd y (by decide), fun _ => ⟨fun y => absurd y (by decide), fun _ => ⟨fun y => absurd y (by decide), fun _ => ⟨fun _ => hx, fun y => absurd rfl y⟩⟩⟩⟩⟩), fun y => absurd rfl y⟩⟩⟩⟩
  by_cases c4 : x2 = nI 4
  · subst c4
    refine ⟨fun y => absurd y (by decide), fun _ => ⟨fun y => absurd y (by decide), fun _ => ⟨fun y => absurd y (by decide), fun _ => ⟨fun y => absurd y (by decide), fun _ => ⟨fun _ => s_closeTop (m := s11_told m 0) (pn := pn) h x1 (fun r w2 r2 v2 => (r2 = 0 → K r (s10_now u w2) 0 v2) ∧ (¬ r2 = 0 → K r (s10_now u w2) 1 v2)) (fun r w2 n2 p2 z a b c => ?_) _ (fun r w2 z hx u3 hu3 => ⟨z, fun v hv => by rw [hv, hu3]; exact ⟨fun y => absurd y (by decide), fun _ => ⟨fun y => absurd y (by decide), fun _ => ⟨fun y => absurd y (by decide), fun _ => ⟨fun y => absurd y (by decide), fun _ => ⟨fun _ => hx, fun y => absurd rfl y⟩⟩⟩⟩⟩⟩), fun y => absurd rfl y⟩⟩⟩⟩⟩
    rcases z with z | z
    · subst z; exact ⟨fun _ => q 0 w2 n2 p2 a b c, fun y => absurd rfl y⟩
    · subst z; exact ⟨fun y => absurd y (by decide), fun _ => q 1 w2 n2 p2 a b c⟩
  exact ⟨fun y => absurd y c0, fun _ => ⟨fun y => absurd y c1, fun _ => ⟨fun y => absurd y c2, fun _ => ⟨fun y => absurd y c3, fun _ => ⟨fun y => absurd y c4, fun _ => (fun v hv => by rw [hv]; exact ⟨fun y => absurd y c0, fun _ => ⟨fun y => absurd y c1, fun _ => ⟨fun y => absurd y c2, fun _ => ⟨fun y => absurd y c3, fun _ => ⟨fun y => absurd y c4, fun _ => ref⟩⟩⟩⟩⟩)⟩⟩⟩⟩⟩
theorem o_keep (h : SW (g10_now u) n) (x1 x2 : Int32) {K : Int32 → S10 → Int32 → S11 → Prop} (q : ∀ r w2 n2 p2, SW w2 n2 → g9_script w2 = g9_script (g10_now u) → n2 7 = n 7 → K r (s10_now u w2) r (mS (s11_told m 0) n2 p2)) : wp_X10_keep u x1 x2 (fun r u2 => wp_X11_keep (mS m n pn) x1 x2 (fun r2 v2 => K r u2 r2 v2)) := by
  have ref : K 0 u 0 (mS (s11_told m 0) n pn) := q 0 (g10_now u) n pn h rfl rfl
  by_cases c0 : x1 = nI 0
  · subst c0
    exact ⟨fun _ => s_keep0 (m := m) (pn := pn) h x2 (fun r w2 r2 v2 => K r (s10_now u w2) r2 v2) (fun r w2 n2 p2 z a b c => q r w2 n2 p2 a b c) _ (fun r w2 z hx u3 hu3 => ⟨z, by rw [hu3]; exact hx⟩), fun y => absurd rfl y⟩
  by_cases c1 : x1 = nI 1
  · subst c1
    exact ⟨fun y => absurd y (by decide), fun _ => ⟨fun _ => s_keep1 (m := m) (pn := pn) h x2 (fun r w2 r2 v2 => K r (s10_now u w2) r2 v2) (fun r w2 n2 p2 z a b c => q r w2 n2 p2 a b c) _ (fun r w2 z hx u3 hu3 => ⟨z, by rw [hu3]; exact hx⟩), fun y => absurd rfl y⟩⟩
  by_cases c2 : x1 = nI 2
  · subst c2
    exact ⟨fun y => absurd y (by decide), fun _ => ⟨fun y => absurd y (by decide), fun _ => ⟨fun _ => s_keep2 (m := m) (pn := pn) h x2 (fun r w2 r2 v2 => K r (s10_now u w2) r2 v2) (fun r w2 n2 p2 z a b c => q r w2 n2 p2 a b c) _ (fun r w2 z hx u3 hu3 => ⟨z, by rw [hu3]; exact hx⟩), fun y => absurd rfl y⟩⟩⟩
  by_cases c3 : x1 = nI 3
  · subst c3
    exact ⟨fun y => absurd y (by decide), fun _ => ⟨fun y => absurd y (by decide), fun _ => ⟨fun y => absurd y (by decide), fun _ => ⟨fun _ => s_keep3 (m := m) (pn := pn) h x2 (fun r w2 r2 v2 => K r (s10_now u w2) r2 v2) (fun r w2 n2 p2 z a b c => q r w2 n2 p2 a b c) _ (fun r w2 z hx u3 hu3 => ⟨z, by rw [hu3]; exact hx⟩), fun y => absurd rfl y⟩⟩⟩⟩
  by_cases c4 : x1 = nI 4
  · subst c4
    exact ⟨fun y => absurd y (by decide), fun _ => ⟨fun y => absurd y (by decide), fun _ => ⟨fun y => absurd y (by decide), fun _ => ⟨fun y => absurd y (by decide), fun _ => ⟨fun _ => s_keep4 (m := m) (pn := pn) h x2 (fun r w2 r2 v2 => K r (s10_now u w2) r2 v2) (fun r w2 n2 p2 z a b c => q r w2 n2 p2 a b c) _ (fun r w2 z hx u3 hu3 => ⟨z, by rw [hu3]; exact hx⟩), fun y => absurd rfl y⟩⟩⟩⟩⟩
  by_cases c5 : x1 = nI 5
  · subst c5
    exact ⟨fun y => absurd y (by decide), fun _ => ⟨fun y => absurd y (by decide), fun _ => ⟨fun y => absurd y (by decide), fun _ => ⟨fun y => absurd y (by decide), fun _ => ⟨fun y => absurd y (by decide), fun _ => ⟨fun _ => s_keep5 (m := m) (pn := pn) h x2 (fun r w2 r2 v2 => K r (s10_now u w2) r2 v2) (fun r w2 n2 p2 z a b c => q r w2 n2 p2 a b c) _ (fun r w2 z hx u3 hu3 => ⟨z, by rw [hu3]; exact hx⟩), fun y => absurd rfl y⟩⟩⟩⟩⟩⟩
  by_cases c6 : x1 = nI 6
  · subst c6
    exact ⟨fun y => absurd y (by decide), fun _ => ⟨fun y => absurd y (by decide), fun _ => ⟨fun y => absurd y (by decide), fun _ => ⟨fun y => absurd y (by decide), fun _ => ⟨fun y => absurd y (by decide), fun _ => ⟨fun y => absurd y (by decide), fun _ => ⟨fun _ => s_keep6 (m := m) (pn := pn) h x2 (fun r w2 r2 v2 => K r (s10_now u w2) r2 v2) (fun r w2 n2 p2 z a b c => q r w2 n2 p2 a b c) _ (fun r w2 z hx u3 hu3 => ⟨z, by rw [hu3]; exact hx⟩), fun y => absurd rfl y⟩⟩⟩⟩⟩⟩⟩
  obtain ⟨F, G, b, e, f, k, hC, hR, hI⟩ := h
  have hz : x1 < 0 ∨ 6 < x1 := by
    rcases rng x1 (lo := 0) (hi := 6) (by omega) (by omega) with z | z | ⟨a, a1, a2, a3, a4, a5⟩
    · exact Or.inl z
    · exact Or.inr z.2
    · exfalso
      have : a = 0 ∨ a = 1 ∨ a = 2 ∨ a = 3 ∨ a = 4 ∨ a = 5 ∨ a = 6 := by omega
      rcases this with rfl | rfl | rfl | rfl | rfl | rfl | rfl
      · exact c0 a3
      · exact c1 a3
      · exact c2 a3
      · exact c3 a3
      · exact c4 a3
      · exact c5 a3
      · exact c6 a3
  exact ⟨fun y => absurd y c0, fun _ => ⟨fun y => absurd y c1, fun _ => ⟨fun y => absurd y c2, fun _ => ⟨fun y => absurd y c3, fun _ => ⟨fun y => absurd y c4, fun _ => ⟨fun y => absurd y c5, fun _ => ⟨fun y => absurd y c6, fun _ => x_keep0 (m := m) hR hI.1.1 (Or.inr hz) ref⟩⟩⟩⟩⟩⟩⟩
end
