/-! ===== a plan run ===== -/
section
variable {m : S11} {n : Nat → Int32} {pn : Int32} {u : S10} {w : S9} {j : Nat}
theorem w_part {s : S6} {c i : Nat} (hj : j < 24) (hc : c < 4) (hi : i = 4 * j + c) {Q : Int32 → Prop} (q : Q (g6_parts s i)) : wp_X6_part s (nI j) (nI c) Q := by
  intro x hx
  have e4 : nI j * 4 + nI c = nI i := by rw [show (nI j * 4 : Int32) = nI (j * 4) from pk_mul j 4, nI_add]; congr 1; omega
  rw [hx, e4]
  refine ⟨fun y => absurd y (nI_pos (by omega)), fun _ => pk_le 24 j (fun y => by omega) (fun _ => ⟨fun y => absurd y (nI_pos (by omega)), fun _ => pk_le 4 c (fun y => by omega) (fun _ => ⟨ivp (by omega) (by omega), ?_⟩)⟩)⟩
  rw [nI_clamp (by omega)]; exact q
def cv (r : Int32) : Int32 := if r = -1 then 0 else 1
theorem cv0 {r : Int32} (h : r = -1) : cv r = 0 := if_pos h
theorem cv1 {r : Int32} (h : ¬ r = -1) : cv r = 1 := if_neg h
theorem cvz (r : Int32) : zb (cv r) := by
  by_cases c : r = -1
  · rw [cv0 c]; exact Or.inl rfl
  · rw [cv1 c]; exact Or.inr rfl
theorem gP : g11_plans (mS m n pn) = g11_plans m := rfl
theorem s_line (h : SW w n) (hj : j < 24) (hL : Ln (g6_parts (g9_script w)) (g11_plans m) 0 j) {K : Int32 → S9 → Int32 → S11 → Prop} (q : ∀ r w2 n2 p2, zb r → SW w2 n2 → g9_script w2 = g9_script w → n2 7 = n 7 → K r w2 r (mS (s11_told m 0) n2 p2)) {Q : Int32 → S10 → Prop} (g : ∀ r w2, zb r → wp_X11_runsLine (mS m n pn) (nI (4 * j)) (fun r2 v2 => K r w2 r2 v2) → Q r (s10_now u w2)) : wp_X10_doLine (s10_now u w) (nI j) Q := by
  obtain ⟨op, o1, o2, o3, o4, o5, o6, o7⟩ := hL
  rw [Nat.zero_add] at o3 o4 o5 o6
  have rl : ∀ (K2 : Int32 → S11 → Prop), (((nI op) = 0 → wp_X11_act (mS m n pn) (g11_plans m (4 * j)) 0 (fun r_24 v_25 => zb r_24 ∧ K2 r_24 v_25)) ∧ (¬ (nI op) = 0 → ((nI op) = 1 → vp_in (nI (4 * j + 3)) 192 ∧ (wp_X11_write (mS m n pn) (g11_plans m (4 * j)) (g11_plans m (4 * j + 2)) (g11_plans m (4 * j + 3)) (fun r_22 v_23 => zb r_22 ∧ K2 r_22 v_23))) ∧ (¬ (nI op) = 1 → ((nI op) = 2 → vp_in (nI (4 * j + 3)) 192 ∧ (wp_X11_add (mS m n pn) (g11_plans m (4 * j)) (g11_plans m (4 * j + 2)) (g11_plans m (4 * j + 3)) (fun r_20 v_21 => zb r_20 ∧ K2 r_20 v_21))) ∧ (¬ (nI op) = 2 → ((nI op) = 3 → wp_X11_save (mS m n pn) (g11_plans m (4 * j)) (fun r_18 v_19 => (r_18 = (-1) → K2 0 v_19) ∧ (¬ r_18 = (-1) → K2 1 v_19))) ∧ (¬ (nI op) = 3 → ((nI op) = 4 → wp_X11_back (mS m n pn) (g11_plans m (4 * j)) (g11_plans m (4 * j + 2)) (fun r_16 v_17 => (r_16 = (-1) → K2 0 v_17) ∧ (¬ r_16 = (-1) → K2 1 v_17))) ∧ (¬ (nI op) = 4 → ((nI op) = 5 → wp_X11_runsLine_132 K2 (g11_plans m (4 * j)) (nI op) (mS m n pn)) ∧ (¬ (nI op) = 5 → ((nI op) = 6 → wp_X11_runsLine_132 K2 (g11_plans m (4 * j)) (nI op) (mS m n pn)) ∧ (¬ (nI op) = 6 → ((nI op) = 7 → wp_X11_runsLine_153 K2 (g11_plans m (4 * j)) (nI op) (mS m n pn)) ∧ (¬ (nI op) = 7 → ((nI op) = 8 → wp_X11_runsLine_153 K2 (g11_plans m (4 * j)) (nI op) (mS m n pn)) ∧ (¬ (nI op) = 8 → ((nI op) = 9 → wp_X11_roll (mS m n pn) (g11_plans m (4 * j)) (g11_plans m (4 * j + 2)) (fun r_14 v_15 => (r_14 = (-1) → K2 0 v_15) ∧ (¬ r_14 = (-1) → K2 1 v_15))) ∧ (¬ (nI op) = 9 → ((nI op) = 10 → wp_X11_keep (mS m n pn) 0 0 (fun r_12 v_13 => zb r_12 ∧ K2 r_12 v_13)) ∧ (¬ (nI op) = 10 → ((nI op) = 11 → wp_X11_keep (mS m n pn) 1 (g11_plans m (4 * j + 2)) (fun r_10 v_11 => zb r_10 ∧ K2 r_10 v_11)) ∧ (¬ (nI op) = 11 → ((nI op) = 13 → wp_X11_runsLine_229 K2 3 (mS m n pn)) ∧ (¬ (nI op) = 13 → wp_X11_runsLine_229 K2 2 (mS m n pn))))))))))))))) → wp_X11_runsLine (mS m n pn) (nI (4 * j)) K2 := by
    intro K2 k
    unfold wp_X11_runsLine
    rw [gP, nI_1, show nI (4 * j) + 2 = nI (4 * j + 2) from nI_add _ 2, show nI (4 * j) + 3 = nI (4 * j + 3) from nI_add _ 3, nI_clamp (show 4 * j < 2 ^ 31 by omega), nI_clamp (show 4 * j + 1 < 2 ^ 31 by omega), nI_clamp (show 4 * j + 2 < 2 ^ 31 by omega), nI_clamp (show 4 * j + 3 < 2 ^ 31 by omega)]
    refine ⟨ivp (by omega) (by omega), fun x2 h2 => ⟨ivp (by omega) (by omega), fun x3 h3 => ⟨ivp (by omega) (by omega), fun x4 h4 => ?_⟩⟩⟩
    rw [h2, h3, h4, o3]
    exact k
  unfold wp_X10_doLine
  refine w_part (c := 1) hj (by omega) rfl (w_part (c := 2) hj (by omega) rfl (w_part (c := 3) hj (by omega) rfl (w_part (c := 0) (i := 4 * j) hj (by omega) rfl ?_)))
  have e0 : g6_parts (g9_script (g10_now (s10_now u w))) = g6_parts (g9_script w) := rfl
  rw [e0, o2, o4, o5]
  rw [o5] at o7
  have hb3 : ∀ R : Int32 → S11 → Prop, wp_X11_write (mS m n pn) (g11_plans m (4 * j)) (g11_plans m (4 * j + 2)) (g6_parts (g9_script w) (4 * j + 3)) R → (op = 1 ∨ op = 2) → wp_X11_write (mS m n pn) (g11_plans m (4 * j)) (g11_plans m (4 * j + 2)) (g11_plans m (4 * j + 3)) R := fun R k y => by rw [← o6 y]; exact k
  have hb3' : ∀ R : Int32 → S11 → Prop, wp_X11_add (mS m n pn) (g11_plans m (4 * j)) (g11_plans m (4 * j + 2)) (g6_parts (g9_script w) (4 * j + 3)) R → (op = 1 ∨ op = 2) → wp_X11_add (mS m n pn) (g11_plans m (4 * j)) (g11_plans m (4 * j + 2)) (g11_plans m (4 * j + 3)) R := fun R k y => by rw [← o6 y]; exact k
  generalize g11_plans m (4 * j + 3) = b4 at *
  generalize g6_parts (g9_script w) (4 * j + 3) = b3 at *
  generalize g11_plans m (4 * j + 2) = a at *
  generalize g11_plans m (4 * j) = tx at *
  have ho : op = 0 ∨ op = 1 ∨ op = 2 ∨ op = 3 ∨ op = 4 ∨ op = 5 ∨ op = 6 ∨ op = 7 ∨ op = 8 ∨ op = 9 ∨ op = 10 ∨ op = 11 ∨ op = 12 ∨ op = 13 := by omega
  rcases ho with rfl | rfl | rfl | rfl | rfl | rfl | rfl | rfl | rfl | rfl | rfl | rfl | rfl | rfl
  · exact ⟨fun _ => s_begin (m := s11_told m 0) (pn := pn) h tx (fun r w2 r2 v2 => zb r2 ∧ zb r2 ∧ K r w2 r2 v2) (fun r w2 n2 p2 z a b c => ⟨z, z, q r w2 n2 p2 z a b c⟩) _ (fun r w2 z hx u3 hu3 => ⟨z, by rw [hu3]; exact g r w2 z (rl _ (⟨fun _ => (fun v hv => by rw [hv]; exact ⟨fun _ => hx, fun y => absurd rfl y⟩), fun y => absurd rfl y⟩))⟩), fun y => absurd rfl y⟩
  · exact ⟨fun y => absurd y (by decide), fun _ => ⟨fun _ => s_write (m := m) (pn := pn) h tx a b3 (fun r w2 r2 v2 => zb r2 ∧ K r w2 r2 v2) (fun r w2 n2 p2 z a b c => ⟨z, q r w2 n2 p2 z a b c⟩) _ (fun r w2 z hx u3 hu3 => ⟨z, by rw [hu3]; exact g r w2 z (rl _ (⟨fun y => absurd y (by decide), fun _ => ⟨fun _ => ⟨ivp (by omega) (by omega), hb3 _ hx (Or.inl rfl)⟩, fun y => absurd rfl y⟩⟩))⟩), fun y => absurd rfl y⟩⟩
  · exact ⟨fun y => absurd y (by decide), fun _ => ⟨fun y => absurd y (by decide), fun _ => ⟨fun _ => s_add (m := m) (pn := pn) h tx a b3 (fun r w2 r2 v2 => zb r2 ∧ K r w2 r2 v2) (fun r w2 n2 p2 z a b c => ⟨z, q r w2 n2 p2 z a b c⟩) _ (fun r w2 z hx u3 hu3 => ⟨z, by rw [hu3]; exact g r w2 z (rl _ (⟨fun y => absurd y (by decide), fun _ => ⟨fun y => absurd y (by decide), fun _ => ⟨fun _ => ⟨ivp (by omega) (by omega), hb3' _ hx (Or.inr rfl)⟩, fun y => absurd rfl y⟩⟩⟩))⟩), fun y => absurd rfl y⟩⟩⟩
  · exact ⟨fun y => absurd y (by decide), fun _ => ⟨fun y => absurd y (by decide), fun _ => ⟨fun y => absurd y (by decide), fun _ => ⟨fun _ => s_save (m := m) (pn := pn) h tx (fun r w2 r2 v2 => (r2 = -1 → K (cv r) w2 0 v2) ∧ (¬ r2 = -1 → K (cv r) w2 1 v2)) (fun r w2 n2 p2 _ a b c => ⟨fun y => by have k := q 0 w2 n2 p2 (Or.inl rfl) a b c; rw [cv0 y]; exact k, fun y => by have k := q 1 w2 n2 p2 (Or.inr rfl) a b c; rw [cv1 y]; exact k⟩) _ (fun r w2 z hx u3 hu3 => by
      have k := g (cv r) w2 (cvz r) (rl _ (⟨fun y => absurd y (by decide), fun _ => ⟨fun y => absurd y (by decide), fun _ => ⟨fun y => absurd y (by decide), fun _ => ⟨fun _ => hx, fun y => absurd rfl y⟩⟩⟩⟩))
      rw [hu3]
      exact ⟨fun y => by rw [cv0 y] at k; exact k, fun y => by rw [cv1 y] at k; exact k⟩), fun y => absurd rfl y⟩⟩⟩⟩
  · exact ⟨fun y => absurd y (by decide), fun _ => ⟨fun y => absurd y (by decide), fun _ => ⟨fun y => absurd y (by decide), fun _ => ⟨fun y => absurd y (by decide), fun _ => ⟨fun _ => s_back (m := m) (pn := pn) h tx a (fun r w2 r2 v2 => (r2 = -1 → K (cv r) w2 0 v2) ∧ (¬ r2 = -1 → K (cv r) w2 1 v2)) (fun r w2 n2 p2 _ a b c => ⟨fun y => by have k := q 0 w2 n2 p2 (Or.inl rfl) a b c; rw [cv0 y]; exact k, fun y => by have k := q 1 w2 n2 p2 (Or.inr rfl) a b c; rw [cv1 y]; exact k⟩) _ (fun r w2 z hx u3 hu3 => by
      have k := g (cv r) w2 (cvz r) (rl _ (⟨fun y => absurd y (by decide), fun _ => ⟨fun y => absurd y (by decide), fun _ => ⟨fun y => absurd y (by decide), fun _ => ⟨fun y => absurd y (by decide), fun _ => ⟨fun _ => hx, fun y => absurd rfl y⟩⟩⟩⟩⟩))
      rw [hu3]
      exact ⟨fun y => by rw [cv0 y] at k; exact k, fun y => by rw [cv1 y] at k; exact k⟩), fun y => absurd rfl y⟩⟩⟩⟩⟩
  · exact ⟨fun y => absurd y (by decide), fun _ => ⟨fun y => absurd y (by decide), fun _ => ⟨fun y => absurd y (by decide), fun _ => ⟨fun y => absurd y (by decide), fun _ => ⟨fun y => absurd y (by decide), fun _ => ⟨fun _ => s_openTop (m := s11_told m 0) (pn := pn) h tx (fun r w2 r2 v2 => zb r2 ∧ zb r2 ∧ K r w2 r2 v2) (fun r w2 n2 p2 z a b c => ⟨z, z, q r w2 n2 p2 z a b c⟩) _ (fun r w2 z hx u3 hu3 => ⟨z, by rw [hu3]; exact g r w2 z (rl _ (⟨fun y => absurd y (by decide), fun _ => ⟨fun y => absurd y (by decide), fun _ => ⟨fun y => absurd y (by decide), fun _ => ⟨fun y => absurd y (by decide), fun _ => ⟨fun y => absurd y (by decide), fun _ => ⟨fun _ => (fun v hv => by rw [hv]; exact ⟨fun y => absurd y (by decide), fun _ => ⟨fun y => absurd y (by decide), fun _ => ⟨fun y => absurd y (by decide), fun _ => ⟨fun _ => hx, fun y => absurd rfl y⟩⟩⟩⟩), fun y => absurd rfl y⟩⟩⟩⟩⟩⟩))⟩), fun y => absurd rfl y⟩⟩⟩⟩⟩⟩
  · exact ⟨fun y => absurd y (by decide), fun _ => ⟨fun y => absurd y (by decide), fun _ => ⟨fun y => absurd y (by decide), fun _ => ⟨fun y => absurd y (by decide), fun _ => ⟨fun y => absurd y (by decide), fun _ => ⟨fun y => absurd y (by decide), fun _ => ⟨fun _ => s_closeTop (m := s11_told m 0) (pn := pn) h tx (fun r w2 r2 v2 => (r2 = 0 → zb 0 ∧ K r w2 0 v2) ∧ (¬ r2 = 0 → zb 1 ∧ K r w2 1 v2)) (fun r w2 n2 p2 z a b c => by
      rcases z with z | z
      · subst z; exact ⟨fun _ => ⟨Or.inl rfl, q 0 w2 n2 p2 (Or.inl rfl) a b c⟩, fun y => absurd rfl y⟩
      · subst z; exact ⟨fun y => absurd y (by decide), fun _ => ⟨Or.inr rfl, q 1 w2 n2 p2 (Or.inr rfl) a b c⟩⟩) _ (fun r w2 z hx u3 hu3 => ⟨z, by rw [hu3]; exact g r w2 z (rl _ (⟨fun y => absurd y (by decide), fun _ => ⟨fun y => absurd y (by decide), fun _ => ⟨fun y => absurd y (by decide), fun _ => ⟨fun y => absurd y (by decide), fun _ => ⟨fun y => absurd y (by decide), fun _ => ⟨fun y => absurd y (by decide), fun _ => ⟨fun _ => (fun v hv => by rw [hv]; exact ⟨fun y => absurd y (by decide), fun _ => ⟨fun y => absurd y (by decide), fun _ => ⟨fun y => absurd y (by decide), fun _ => ⟨fun y => absurd y (by decide), fun _ => ⟨fun _ => hx, fun y => absurd rfl y⟩⟩⟩⟩⟩), fun y => absurd rfl y⟩⟩⟩⟩⟩⟩⟩))⟩), fun y => absurd rfl y⟩⟩⟩⟩⟩⟩⟩
  · exact ⟨fun y => absurd y (by decide), fun _ => ⟨fun y => absurd y (by decide), fun _ => ⟨fun y => absurd y (by decide), fun _ => ⟨fun y => absurd y (by decide), fun _ => ⟨fun y => absurd y (by decide), fun _ => ⟨fun y => absurd y (by decide), fun _ => ⟨fun y => absurd y (by decide), fun _ => ⟨fun _ => s_commit (m := s11_told m 0) (pn := pn) h tx (fun r w2 r2 v2 => zb r2 ∧ zb r2 ∧ K r w2 r2 v2) (fun r w2 n2 p2 z a b c => ⟨z, z, q r w2 n2 p2 z a b c⟩) _ (fun r w2 z hx u3 hu3 => ⟨z, by rw [hu3]; exact g r w2 z (rl _ (⟨fun y => absurd y (by decide), fun _ => ⟨fun y => absurd y (by decide), fun _ => ⟨fun y => absurd y (by decide), fun _ => ⟨fun y => absurd y (by decide), fun _ => ⟨fun y => absurd y (by decide), fun _ => ⟨fun y => absurd y (by decide), fun _ => ⟨fun y => absurd y (by decide), fun _ => ⟨fun _ => (fun v hv => by rw [hv]; exact ⟨fun y => absurd y (by decide), fun _ => ⟨fun _ => hx, fun y => absurd rfl y⟩⟩), fun y => absurd rfl y⟩⟩⟩⟩⟩⟩⟩⟩))⟩), fun y => absurd rfl y⟩⟩⟩⟩⟩⟩⟩⟩
  · exact ⟨fun y => absurd y (by decide), fun _ => ⟨fun y => absurd y (by decide), fun _ => ⟨fun y => absurd y (by decide), fun _ => ⟨fun y => absurd y (by decide), fun _ => ⟨fun y => absurd y (by decide), fun _ => ⟨fun y => absurd y (by decide), fun _ => ⟨fun y => absurd y (by decide), fun _ => ⟨fun y => absurd y (by decide), fun _ => ⟨fun _ => s_abort (m := s11_told m 0) (pn := pn) h tx (fun r w2 r2 v2 => zb r2 ∧ zb r2 ∧ K r w2 r2 v2) (fun r w2 n2 p2 z a b c => ⟨z, z, q r w2 n2 p2 z a b c⟩) _ (fun r w2 z hx u3 hu3 => ⟨z, by rw [hu3]; exact g r w2 z (rl _ (⟨fun y => absurd y (by decide), fun _ => ⟨fun y => absurd y (by decide), fun _ => ⟨fun y => absurd y (by decide), fun _ => ⟨fun y => absurd y (by decide), fun _ => ⟨fun y => absurd y (by decide), fun _ => ⟨fun y => absurd y (by decide), fun _ => ⟨fun y => absurd y (by decide), fun _ => ⟨fun y => absurd y (by decide), fun _ => ⟨fun _ => (fun v hv => by rw [hv]; exact ⟨fun y => absurd y (by decide), fun _ => ⟨fun y => absurd y (by decide), fun _ => ⟨fun _ => hx, fun y => absurd rfl y⟩⟩⟩), fun y => absurd rfl y⟩⟩⟩⟩⟩⟩⟩⟩⟩))⟩), fun y => absurd rfl y⟩⟩⟩⟩⟩⟩⟩⟩⟩
  · obtain ⟨aa, a1, a2, rfl⟩ := o7 rfl
    exact ⟨fun y => absurd y (by decide), fun _ => ⟨fun y => absurd y (by decide), fun _ => ⟨fun y => absurd y (by decide), fun _ => ⟨fun y => absurd y (by decide), fun _ => ⟨fun y => absurd y (by decide), fun _ => ⟨fun y => absurd y (by decide), fun _ => ⟨fun y => absurd y (by decide), fun _ => ⟨fun y => absurd y (by decide), fun _ => ⟨fun y => absurd y (by decide), fun _ => ⟨fun _ => s_roll (m := m) (pn := pn) h tx (M := aa) a1 (by omega) (fun r w2 r2 v2 => (r2 = -1 → K (cv r) w2 0 v2) ∧ (¬ r2 = -1 → K (cv r) w2 1 v2)) (fun r w2 n2 p2 _ a b c => ⟨fun y => by have k := q 0 w2 n2 p2 (Or.inl rfl) a b c; rw [cv0 y]; exact k, fun y => by have k := q 1 w2 n2 p2 (Or.inr rfl) a b c; rw [cv1 y]; exact k⟩) _ (fun r w2 z hx u3 hu3 => by
      have k := g (cv r) w2 (cvz r) (rl _ (⟨fun y => absurd y (by decide), fun _ => ⟨fun y => absurd y (by decide), fun _ => ⟨fun y => absurd y (by decide), fun _ => ⟨fun y => absurd y (by decide), fun _ => ⟨fun y => absurd y (by decide), fun _ => ⟨fun y => absurd y (by decide), fun _ => ⟨fun y => absurd y (by decide), fun _ => ⟨fun y => absurd y (by decide), fun _ => ⟨fun y => absurd y (by decide), fun _ => ⟨fun _ => hx, fun y => absurd rfl y⟩⟩⟩⟩⟩⟩⟩⟩⟩⟩))
      rw [hu3]
      exact ⟨fun y => by rw [cv0 y] at k; exact k, fun y => by rw [cv1 y] at k; exact k⟩), fun y => absurd rfl y⟩⟩⟩⟩⟩⟩⟩⟩⟩⟩
  · exact ⟨fun y => absurd y (by decide), fun _ => ⟨fun y => absurd y (by decide), fun _ => ⟨fun y => absurd y (by decide), fun _ => ⟨fun y => absurd y (by decide), fun _ => ⟨fun y => absurd y (by decide), fun _ => ⟨fun y => absurd y (by decide), fun _ => ⟨fun y => absurd y (by decide), fun _ => ⟨fun y => absurd y (by decide), fun _ => ⟨fun y => absurd y (by decide), fun _ => ⟨fun y => absurd y (by decide), fun _ => ⟨fun _ => s_keep0 (m := m) (pn := pn) h 0 (fun r w2 r2 v2 => zb r2 ∧ K r w2 r2 v2) (fun r w2 n2 p2 z a b c => ⟨z, q r w2 n2 p2 z a b c⟩) _ (fun r w2 z hx u3 hu3 => ⟨z, by rw [hu3]; exact g r w2 z (rl _ (⟨fun y => absurd y (by decide), fun _ => ⟨fun y => absurd y (by decide), fun _ => ⟨fun y => absurd y (by decide), fun _ => ⟨fun y => absurd y (by decide), fun _ => ⟨fun y => absurd y (by decide), fun _ => ⟨fun y => absurd y (by decide), fun _ => ⟨fun y => absurd y (by decide), fun _ => ⟨fun y => absurd y (by decide), fun _ => ⟨fun y => absurd y (by decide), fun _ => ⟨fun y => absurd y (by decide), fun _ => ⟨fun _ => hx, fun y => absurd rfl y⟩⟩⟩⟩⟩⟩⟩⟩⟩⟩⟩))⟩), fun y => absurd rfl y⟩⟩⟩⟩⟩⟩⟩⟩⟩⟩⟩
  · exact ⟨fun y => absurd y (by decide), fun _ => ⟨fun y => absurd y (by decide), fun _ => ⟨fun y => absurd y (by decide), fun _ => ⟨fun y => absurd y (by decide), fun _ => ⟨fun y => absurd y (by decide), fun _ => ⟨fun y => absurd y (by decide), fun _ => ⟨fun y => absurd y (by decide), fun _ => ⟨fun y => absurd y (by decide), fun _ => ⟨fun y => absurd y (by decide), fun _ => ⟨fun y => absurd y (by decide), fun _ => ⟨fun y => absurd y (by decide), fun _ => ⟨fun _ => s_keep1 (m := m) (pn := pn) h a (fun r w2 r2 v2 => zb r2 ∧ K r w2 r2 v2) (fun r w2 n2 p2 z a b c => ⟨z, q r w2 n2 p2 z a b c⟩) _ (fun r w2 z hx u3 hu3 => ⟨z, by rw [hu3]; exact g r w2 z (rl _ (⟨fun y => absurd y (by decide), fun _ => ⟨fun y => absurd y (by decide), fun _ => ⟨fun y => absurd y (by decide), fun _ => ⟨fun y => absurd y (by decide), fun _ => ⟨fun y => absurd y (by decide), fun _ => ⟨fun y => absurd y (by decide), fun _ => ⟨fun y => absurd y (by decide), fun _ => ⟨fun y => absurd y (by decide), fun _ => ⟨fun y => absurd y (by decide), fun _ => ⟨fun y => absurd y (by decide), fun _ => ⟨fun y => absurd y (by decide), fun _ => ⟨fun _ => hx, fun y => absurd rfl y⟩⟩⟩⟩⟩⟩⟩⟩⟩⟩⟩⟩))⟩), fun y => absurd rfl y⟩⟩⟩⟩⟩⟩⟩⟩⟩⟩⟩⟩
  · exact ⟨fun y => absurd y (by decide), fun _ => ⟨fun y => absurd y (by decide), fun _ => ⟨fun y => absurd y (by decide), fun _ => ⟨fun y => absurd y (by decide), fun _ => ⟨fun y => absurd y (by decide), fun _ => ⟨fun y => absurd y (by decide), fun _ => ⟨fun y => absurd y (by decide), fun _ => ⟨fun y => absurd y (by decide), fun _ => ⟨fun y => absurd y (by decide), fun _ => ⟨fun y => absurd y (by decide), fun _ => ⟨fun y => absurd y (by decide), fun _ => ⟨fun y => absurd y (by decide), fun _ => ⟨fun _ => s_keep2 (m := m) (pn := pn) h 0 (fun r w2 r2 v2 => zb r2 ∧ K r w2 r2 v2) (fun r w2 n2 p2 z a b c => ⟨z, q r w2 n2 p2 z a b c⟩) _ (fun r w2 z hx u3 hu3 => ⟨z, by rw [hu3]; exact g r w2 z (rl _ (⟨fun y => absurd y (by decide), fun _ => ⟨fun y => absurd y (by decide), fun _ => ⟨fun y => absurd y (by decide), fun _ => ⟨fun y => absurd y (by decide), fun _ => ⟨fun y => absurd y (by decide), fun _ => ⟨fun y => absurd y (by decide), fun _ => ⟨fun y => absurd y (by decide), fun _ => ⟨fun y => absurd y (by decide), fun _ => ⟨fun y => absurd y (by decide), fun _ => ⟨fun y => absurd y (by decide), fun _ => ⟨fun y => absurd y (by decide), fun _ => ⟨fun y => absurd y (by decide), fun _ => ⟨fun y => absurd y (by decide), fun _ => hx⟩⟩⟩⟩⟩⟩⟩⟩⟩⟩⟩⟩⟩))⟩), fun y => absurd rfl y⟩⟩⟩⟩⟩⟩⟩⟩⟩⟩⟩⟩⟩
  · exact ⟨fun y => absurd y (by decide), fun _ => ⟨fun y => absurd y (by decide), fun _ => ⟨fun y => absurd y (by decide), fun _ => ⟨fun y => absurd y (by decide), fun _ => ⟨fun y => absurd y (by decide), fun _ => ⟨fun y => absurd y (by decide), fun _ => ⟨fun y => absurd y (by decide), fun _ => ⟨fun y => absurd y (by decide), fun _ => ⟨fun y => absurd y (by decide), fun _ => ⟨fun y => absurd y (by decide), fun _ => ⟨fun y => absurd y (by decide), fun _ => ⟨fun y => absurd y (by decide), fun _ => ⟨fun y => absurd y (by decide), fun _ => ⟨fun _ => s_keep3 (m := m) (pn := pn) h 0 (fun r w2 r2 v2 => zb r2 ∧ K r w2 r2 v2) (fun r w2 n2 p2 z a b c => ⟨z, q r w2 n2 p2 z a b c⟩) _ (fun r w2 z hx u3 hu3 => ⟨z, by rw [hu3]; exact g r w2 z (rl _ (⟨fun y => absurd y (by decide), fun _ => ⟨fun y => absurd y (by decide), fun _ => ⟨fun y => absurd y (by decide), fun _ => ⟨fun y => absurd y (by decide), fun _ => ⟨fun y => absurd y (by decide), fun _ => ⟨fun y => absurd y (by decide), fun _ => ⟨fun y => absurd y (by decide), fun _ => ⟨fun y => absurd y (by decide), fun _ => ⟨fun y => absurd y (by decide), fun _ => ⟨fun y => absurd y (by decide), fun _ => ⟨fun y => absurd y (by decide), fun _ => ⟨fun y => absurd y (by decide), fun _ => ⟨fun _ => hx, fun y => absurd rfl y⟩⟩⟩⟩⟩⟩⟩⟩⟩⟩⟩⟩⟩))⟩), fun y => absurd rfl y⟩⟩⟩⟩⟩⟩⟩⟩⟩⟩⟩⟩⟩⟩
theorem s_told {v : S11} (hv : v = s11_told (mS m n pn) 0) : v = mS (s11_told m 0) n pn := hv
theorem told2 : s11_told (s11_told m 0) 0 = s11_told m 0 := rfl
theorem gP0 : g11_plans (s11_told m 0) = g11_plans m := rfl
theorem gPm {a : Int32} : g11_planMany (mS (s11_told m a) n pn) = g11_planMany m := rfl
theorem mS7 {N : Nat → Int32} : s11_now (mS m n pn) N = mS m N pn := rfl
theorem gN : g11_now (mS m n pn) = n := rfl
/-- the turns of a run -/
theorem s_run {A : Nat} (hA : A ≤ 24) {K : Int32 → S9 → Int32 → S11 → Prop} (q : ∀ r w2 n2 p2, SW w2 n2 → PS (g9_script w2) (g11_plans m) (g11_planMany m) (n2 7) 0 → K r w2 r (mS (s11_told m 0) n2 p2)) : ∀ d i (c : Int32) (w : S9) (n : Nat → Int32) (pn : Int32), i + d = A → SW w n → PS (g9_script w) (g11_plans m) (g11_planMany m) (n 7) 0 → ∀ Q : Int32 → S10 → Prop, (∀ r w2, wp_X11_run_29 (fun r2 v2 => K r w2 r2 v2) (d + 1) (nI A) c (nI i) (mS (s11_told m 0) n pn) → Q r (s10_now u w2)) → wp_X10_run_27 Q (d + 1) (nI A) c (nI i) (s10_now u w) := by
  intro d
  induction d with
  | zero =>
    intro i c w n pn hd h hP Q g
    have hd : i = A := hd
    subst hd
    exact ⟨fun _ => g c w ⟨fun _ => q c w n pn h hP, fun y => absurd (nI_le (Nat.le_refl _) (by omega)) y⟩, fun y => absurd (nI_le (Nat.le_refl _) (by omega)) y⟩
  | succ d ih =>
    intro i c w n pn hd h hP Q g
    have nle : ¬ nI A ≤ nI i := Int32.not_le.mpr (nI_lt (by omega) (by omega))
    obtain ⟨z, k, z1, z2, z3, z4, z5, z6, z7⟩ := id hP
    by_cases ck : k = z
    · refine ⟨fun y => absurd y nle, fun _ => ⟨fun _ => g c w ⟨fun y => absurd y nle, fun _ => ⟨ivp (k := 7) (by omega) (by omega), fun _ => q c w n pn h hP, fun y => absurd ?_ y⟩⟩, fun y => absurd ?_ y⟩⟩
      · rw [gPm, gN, z4]
        show nI z ≤ n 7
        rw [z6, ck]; exact nI_le (Nat.le_refl _) (by omega)
      · show g6_size (g9_script w) ≤ g6_ran (g9_script w)
        rw [z3, z5, ck]; exact nI_le (Nat.le_refl _) (by omega)
    have hk : k < z := by omega
    have hL := z7 k hk
    -- the reference's turn
    have turn : ∀ (K2 : Int32 → S11 → Prop) (N : Nat), wp_X11_runsLine (mS (s11_told m 0) n pn) (nI (4 * k)) (fun r_3 v_4 => (r_3 = 0 → wp_X11_run_68 (fun x1 x2 x3 u0 => wp_X11_run_29 K2 N x1 x2 x3 u0) K2 (nI A) c (nI i) v_4) ∧ (¬ r_3 = 0 → ∀ x2_5 : Int32, x2_5 = c + 1 → (wp_X11_run_68 (fun x1 x2 x3 u0 => wp_X11_run_29 K2 N x1 x2 x3 u0) K2 (nI A) x2_5 (nI i) v_4))) → wp_X11_run_29 K2 (N + 1) (nI A) c (nI i) (mS (s11_told m 0) n pn) := by
      intro K2 N kk
      refine ⟨fun y => absurd y nle, fun _ => ⟨ivp (k := 7) (by omega) (by omega), fun y => ?_, fun _ => ⟨ivp (k := 7) (by omega) (by omega), ?_⟩⟩⟩
      · exfalso
        rw [gPm, gN, z4] at y
        have y : nI z ≤ n 7 := y
        rw [z6] at y
        have := (nI_leI (by omega) (by omega)).mp y
        omega
      · rw [gN]
        have e4 : (4 : Int32) * n (7 : Int32).toNatClampNeg = nI (4 * k) := by
          show (4 : Int32) * n 7 = _
          rw [z6]; exact pk_mul 4 k
        rw [e4]; exact kk
    have nx : ∀ (K2 : Int32 → S11 → Prop) (N : Nat) (x2 : Int32) (n2 : Nat → Int32) (p2 : Int32), n2 7 = n 7 → wp_X11_run_29 K2 N (nI A) x2 (nI (i + 1)) (mS (s11_told m 0) (upd n2 7 (nI (k + 1))) p2) → wp_X11_run_68 (fun x1 x2 x3 u0 => wp_X11_run_29 K2 N x1 x2 x3 u0) K2 (nI A) x2 (nI i) (mS (s11_told m 0) n2 p2) := by
      intro K2 N x2 n2 p2 h7 kk
      refine ⟨ivp (k := 7) (by omega) (by omega), ivp (k := 7) (by omega) (by omega), fun u1 hu1 x3 hx3 => ?_⟩
      rw [gN, mS7] at hu1
      have e7 : upd n2 (7 : Int32).toNatClampNeg (n2 (7 : Int32).toNatClampNeg + 1) = upd n2 7 (nI (k + 1)) := by
        show upd n2 7 (n2 7 + 1) = _
        rw [h7, z6, nI_1]
      rw [e7] at hu1
      rw [hu1, hx3, nI_1]; exact kk
    have hsw : SW (s9_script w (s6_ran (g9_script w) (nI (k + 1)))) n := by
      obtain ⟨F, G, b, e, f, k, hC, hR, hI⟩ := h
      exact ⟨F, G, b, e, f, k, hC, hR, hI⟩
    have step : wp_X10_doLine (s10_now u (s9_script w (s6_ran (g9_script w) (nI (k + 1))))) (nI k) (fun r_4 v_5 => (r_4 = 0 → wp_X10_run_95 (fun x1 x2 x3 u0 => wp_X10_run_27 Q (d + 1) x1 x2 x3 u0) Q (nI A) c (nI i) v_5) ∧ (¬ r_4 = 0 → ∀ x2_6 : Int32, x2_6 = c + 1 → (wp_X10_run_95 (fun x1 x2 x3 u0 => wp_X10_run_27 Q (d + 1) x1 x2 x3 u0) Q (nI A) x2_6 (nI i) v_5))) := by
      refine s_line (m := s11_told m 0) (pn := pn) (K := fun r w2 r2 v2 => r2 = r ∧ ∃ n2 p2, v2 = mS (s11_told m 0) n2 p2 ∧ SW w2 n2 ∧ g9_script w2 = s6_ran (g9_script w) (nI (k + 1)) ∧ n2 7 = n 7) hsw (by omega) (by rw [gP0]; exact hL) (fun r w2 n2 p2 _ a b e => ⟨rfl, n2, p2, by rw [told2], a, b, e⟩) (fun r w2 zr hx => ?_)
      obtain ⟨r2, v2, ⟨e1, n2, p2, e2, e3, e4, e5⟩, hx'⟩ := D_2 (d_runsLine _ _) hx
      subst e1 e2
      have hP2 : PS (g9_script w2) (g11_plans m) (g11_planMany m) (upd n2 7 (nI (k + 1)) 7) 0 := by
        rw [e4, pk_us]
        exact ⟨z, k + 1, z1, by omega, z3, z4, rfl, rfl, z7⟩
      have go : ∀ c2 : Int32, (∀ K2 : Int32 → S11 → Prop, wp_X11_run_29 K2 (d + 1) (nI A) c2 (nI (i + 1)) (mS (s11_told m 0) (upd n2 7 (nI (k + 1))) p2) → wp_X11_run_29 K2 (d + 1 + 1) (nI A) c (nI i) (mS (s11_told m 0) n pn)) → wp_X10_run_95 (fun x1 x2 x3 u0 => wp_X10_run_27 Q (d + 1) x1 x2 x3 u0) Q (nI A) c2 (nI i) (s10_now u w2) := by
        intro c2 hc x3 hx3
        rw [hx3, nI_1]
        exact ih (i + 1) c2 w2 (upd n2 7 (nI (k + 1))) p2 (by omega) (SW_7 e3 (by omega)) hP2 Q (fun r' w' hr => g r' w' (hc _ hr))
      refine ⟨fun c0 => go c fun K2 hK => turn K2 (d + 1) (hx' _ ⟨fun _ => nx K2 _ _ _ _ e5 hK, fun y => absurd c0 y⟩), fun c0 x2 hx2 => ?_⟩
      rw [hx2]
      exact go (c + 1) fun K2 hK => turn K2 (d + 1) (hx' _ ⟨fun y => absurd y c0, fun _ x2 hx2 => by rw [hx2]; exact nx K2 _ _ _ _ e5 hK⟩)
    refine ⟨fun y => absurd y nle, fun _ => ⟨fun y => ?_, fun _ x4 hx4 u3 hu3 => ?_⟩⟩
    · exfalso
      have y : g6_size (g9_script w) ≤ g6_ran (g9_script w) := y
      rw [z3, z5] at y
      have := (nI_leI (by omega) (by omega)).mp y
      omega
    · have e4 : x4 = nI k := hx4.trans z5
      have e3 : u3 = s10_now u (s9_script w (s6_ran (g9_script w) (nI (k + 1)))) := by
        rw [hu3]
        show s10_now u (s9_script w (s6_ran (g9_script w) (g6_ran (g9_script w) + 1))) = _
        rw [z5, nI_1]
      rw [e4, e3]; exact step
theorem o_run (h : SW (g10_now u) n) (hP : PS (g9_script (g10_now u)) (g11_plans m) (g11_planMany m) (n 7) 0) (x1 : Int32) {K : Int32 → S10 → Int32 → S11 → Prop} (q : ∀ r w2 n2 p2, SW w2 n2 → PS (g9_script w2) (g11_plans m) (g11_planMany m) (n2 7) 0 → K r (s10_now u w2) r (mS (s11_told m 0) n2 p2)) : wp_X10_run u x1 (fun r u2 => wp_X11_run (mS m n pn) x1 (fun r2 v2 => K r u2 r2 v2)) := by
  have ref : K (-1) u (-1) (mS (s11_told m 0) n pn) := q (-1) (g10_now u) n pn h hP
  obtain ⟨F, G, b, e, f, k, hC, hR, hI⟩ := id h
  have cu := hC.2.2.2.2.2.1
  have hb := hI.1.1
  by_cases c3 : F 3 = 0
  · have cu1 : ¬ g9_up (g10_now u) = 0 := by rw [cu, if_pos c3]; decide
    have xu : ∀ (Q : Int32 → S11 → Prop), wp_X11_isIn (mS (s11_told m 0) n pn) x1 1 24 (fun r_8 => (r_8 = 0 → Q (-1) (mS (s11_told m 0) n pn)) ∧ (¬ r_8 = 0 → ∃ n_9, wp_X11_run_29 Q n_9 x1 0 0 (mS (s11_told m 0) n pn))) → wp_X11_run (mS m n pn) x1 Q := by
      intro Q kk v hv
      rw [s_told hv]
      refine x_isUp (m := s11_told m 0) hR (hb 3) ?_
      rw [if_pos c3]
      exact ⟨fun y => absurd y (by decide), fun _ => kk⟩
    refine ⟨fun y => absurd y cu1, fun _ => ?_⟩
    rcases rng x1 (lo := 1) (hi := 24) (by omega) (by omega) with y | y | ⟨A, a1, a2, a3, a4, a5⟩
    · exact ⟨fun _ => xu _ (x_isIn0 (Or.inl y) ⟨fun _ => ref, fun y => absurd rfl y⟩), fun y2 => absurd y y2⟩
    · exact ⟨fun y2 => absurd y2 y.1, fun _ => ⟨fun y2 => absurd y.2 (Int32.not_lt.mpr y2), fun _ => xu _ (x_isIn0 (Or.inr y.2) ⟨fun _ => ref, fun y => absurd rfl y⟩)⟩⟩
    · subst a3
      refine ⟨fun y2 => absurd y2 a4, fun _ => ⟨fun _ => ⟨A + 1, ?_⟩, fun y2 => absurd (Int32.not_lt.mp a5) y2⟩⟩
      exact s_run (u := u) (m := m) a2 (K := fun r w2 r2 v2 => K r (s10_now u w2) r2 v2) q A 0 0 (g10_now u) n pn (by omega) h hP _ (fun r w2 hr => xu _ (x_isIn1 (lo := 1) (hi := 24) rfl (by omega) (by omega) a1 a2 ⟨fun y => absurd y (by decide), fun _ => ⟨A + 1, hr⟩⟩))
  · refine ⟨fun _ v hv => ?_, fun y => absurd (by rw [cu, if_neg c3]) y⟩
    rw [s_told hv]
    refine x_isUp (m := s11_told m 0) hR (hb 3) ?_
    rw [if_neg c3]
    exact ⟨fun _ => ref, fun y => absurd rfl y⟩
end
