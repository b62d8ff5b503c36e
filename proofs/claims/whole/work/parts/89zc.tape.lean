/-! ===== the tape: feed, end, fault ===== -/
section
variable {m v : S11} {u : S10} {t : S8}
def ap4 (B : Nat → Int32) (z : Nat) (x : Int32) : Nat → Int32 := upd (upd (upd (upd B z ((x >>> ((24 : Int32) &&& 31)) &&& 255)) (z + 1) ((x >>> ((16 : Int32) &&& 31)) &&& 255)) (z + 2) ((x >>> ((8 : Int32) &&& 31)) &&& 255)) (z + 3) ((x >>> ((0 : Int32) &&& 31)) &&& 255)
theorem w_ap1 {x y y2 : Int32} {N z : Nat} (hz : z < 400) (hs : g8_size t = nI z) (hy : ¬ y < 0) (hy2 : y + (-8) = y2) {Q : S8 → Prop} (q : wp_X8_append_3 Q N x y2 (s8_size (s8_bytes t (upd (g8_bytes t) z ((x >>> (y &&& 31)) &&& 255))) (nI (z + 1)))) : wp_X8_append_3 Q (N + 1) x y t := by
  refine ⟨fun a => absurd a hy, fun _ => ?_⟩
  rw [hs]
  refine ⟨fun a => absurd a (nI_pos (by omega)), fun _ => pk_le 400 z (fun a => by omega) (fun _ => ⟨ivp (by omega) (by omega), fun t2 h2 t3 h3 y3 hy3 => ?_⟩)⟩
  rw [nI_clamp (by omega)] at h2
  have e1 : g8_size t2 = nI z := by rw [h2]; exact hs
  rw [e1, nI_1, h2] at h3
  rw [hy3, hy2, h3]
  exact q
theorem w_append {x : Int32} {z : Nat} (hz : z + 4 ≤ 400) (hs : g8_size t = nI z) {Q : S8 → Prop} (q : Q (s8_size (s8_bytes t (ap4 (g8_bytes t) z x)) (nI (z + 4)))) : wp_X8_append t x Q := by
  refine ⟨5, w_ap1 (z := z) (y2 := 16) (by omega) hs (by decide) (by decide) (w_ap1 (z := z + 1) (y2 := 8) (by omega) rfl (by decide) (by decide) (w_ap1 (z := z + 2) (y2 := 0) (by omega) rfl (by decide) (by decide) (w_ap1 (z := z + 3) (y2 := -8) (by omega) rfl (by decide) (by decide) ⟨fun _ => q, fun a => absurd (by decide) a⟩)))⟩
theorem x_ap1 {x y y2 : Int32} {N z : Nat} (hz : z < 400) (hs : g11_taped v = nI z) (hy : ¬ y < 0) (hy2 : y + (-8) = y2) {Q : S11 → Prop} (q : wp_X11_types_3 Q N x y2 (s11_taped (s11_tape v (upd (g11_tape v) z ((x >>> (y &&& 31)) &&& 255))) (nI (z + 1)))) : wp_X11_types_3 Q (N + 1) x y v := by
  refine ⟨fun a => absurd a hy, fun _ => ?_⟩
  rw [hs]
  refine ⟨ivp (by omega) (by omega), fun t2 h2 t3 h3 y3 hy3 => ?_⟩
  rw [nI_clamp (by omega)] at h2
  have e1 : g11_taped t2 = nI z := by rw [h2]; exact hs
  rw [e1, nI_1, h2] at h3
  rw [hy3, hy2, h3]
  exact q
theorem x_types {x : Int32} {z : Nat} (hz : z + 4 ≤ 400) (hs : g11_taped v = nI z) {Q : S11 → Prop} (q : Q (s11_taped (s11_tape v (ap4 (g11_tape v) z x)) (nI (z + 4)))) : wp_X11_types v x Q := by
  refine ⟨5, x_ap1 (z := z) (y2 := 16) (by omega) hs (by decide) (by decide) (x_ap1 (z := z + 1) (y2 := 8) (by omega) rfl (by decide) (by decide) (x_ap1 (z := z + 2) (y2 := 0) (by omega) rfl (by decide) (by decide) (x_ap1 (z := z + 3) (y2 := -8) (by omega) rfl (by decide) (by decide) ⟨fun _ => q, fun a => absurd (by decide) a⟩)))⟩
theorem ap4_c {B D : Nat → Int32} {z : Nat} {x : Int32} (h : ∀ i, i < z → B i = D i) : ∀ i, i < z + 4 → ap4 B z x i = ap4 D z x i := by
  intro i hi
  unfold ap4
  by_cases c3 : i = z + 3
  · rw [c3, pk_us, pk_us]
  · rw [pk_un c3, pk_un c3]
    by_cases c2 : i = z + 2
    · rw [c2, pk_us, pk_us]
    · rw [pk_un c2, pk_un c2]
      by_cases c1 : i = z + 1
      · rw [c1, pk_us, pk_us]
      · rw [pk_un c1, pk_un c1]
        by_cases c0 : i = z
        · rw [c0, pk_us, pk_us]
        · rw [pk_un c0, pk_un c0]; exact h i (by omega)
/-- the tape on both sides -/
def TR (t : S8) (v : S11) : Prop := (∃ z : Nat, z ≤ 400 ∧ g8_size t = nI z ∧ g11_taped v = nI z ∧ ∀ i, i < z → g8_bytes t i = g11_tape v i) ∧ g8_fault t = g11_faultKind v ∧ g8_faultPlace t = g11_faultPlace v
/-- the tape on either side, flat -/
def fcS (t : S8) (B : Nat → Int32) (z : Int32) : S8 := (B, z, t.2.2)
def fdS (v : S11) (B : Nat → Int32) (z : Int32) : S11 := (v.1, v.2.1, v.2.2.1, v.2.2.2.1, v.2.2.2.2.1, v.2.2.2.2.2.1, v.2.2.2.2.2.2.1, v.2.2.2.2.2.2.2.1, v.2.2.2.2.2.2.2.2.1, v.2.2.2.2.2.2.2.2.2.1, v.2.2.2.2.2.2.2.2.2.2.1, v.2.2.2.2.2.2.2.2.2.2.2.1, v.2.2.2.2.2.2.2.2.2.2.2.2.1, B, z, v.2.2.2.2.2.2.2.2.2.2.2.2.2.2.2)
section
variable {B D : Nat → Int32} {a c : Int32}
theorem fc1 : s8_size (s8_bytes t B) a = fcS t B a := rfl
theorem fc2 : s8_size (s8_bytes (fcS t B a) D) c = fcS t D c := rfl
theorem fc3 : g8_bytes (fcS t B a) = B ∧ g8_size (fcS t B a) = a ∧ g8_fault (fcS t B a) = g8_fault t ∧ g8_faultPlace (fcS t B a) = g8_faultPlace t := ⟨rfl, rfl, rfl, rfl⟩
theorem fc4 : t = fcS t (g8_bytes t) (g8_size t) := rfl
theorem fd1 : s11_taped (s11_tape v B) a = fdS v B a := rfl
theorem fd2 : s11_taped (s11_tape (fdS v B a) D) c = fdS v D c := rfl
theorem fd3 : g11_tape (fdS v B a) = B ∧ g11_taped (fdS v B a) = a ∧ g11_faultKind (fdS v B a) = g11_faultKind v ∧ g11_faultPlace (fdS v B a) = g11_faultPlace v := ⟨rfl, rfl, rfl, rfl⟩
theorem fd4 : v = fdS v (g11_tape v) (g11_taped v) := rfl
theorem w_appF {x : Int32} {z : Nat} (hz : z + 4 ≤ 400) {Q : S8 → Prop} (q : Q (fcS t (ap4 B z x) (nI (z + 4)))) : wp_X8_append (fcS t B (nI z)) x Q := by
  refine w_append (z := z) hz fc3.2.1 ?_
  rw [fc2, fc3.1]; exact q
theorem x_typF {x : Int32} {z : Nat} (hz : z + 4 ≤ 400) {Q : S11 → Prop} (q : Q (fdS v (ap4 B z x) (nI (z + 4)))) : wp_X11_types (fdS v B (nI z)) x Q := by
  refine x_types (z := z) hz fd3.2.1 ?_
  rw [fd2, fd3.1]; exact q
theorem s10_tt {t2 : S8} : s10_tape (s10_tape u t) t2 = s10_tape u t2 := rfl
theorem s10_tg : g10_tape (s10_tape u t) = t := rfl
end
theorem o_feed (h : TR (g10_tape u) m) (x1 x2 x3 x4 x5 : Int32) {K : Int32 → S10 → Int32 → S11 → Prop} (q : ∀ r t2 B z, TR t2 (s11_taped (s11_tape (s11_told m 0) B) z) → K r (s10_tape u t2) r (s11_taped (s11_tape (s11_told m 0) B) z)) : wp_X10_feed u x1 x2 x3 x4 x5 (fun r u2 => wp_X11_feed m x1 x2 x3 x4 x5 (fun r2 v2 => K r u2 r2 v2)) := by
  obtain ⟨⟨z, z4, z1, z2, z3⟩, h1, h2⟩ := h
  have hx : ∀ K2 : Int32 → S11 → Prop, ((g11_taped (s11_told m 0) ≤ 380 → wp_X11_types (s11_told m 0) x1 (fun v_2 => wp_X11_types v_2 x2 (fun v_3 => wp_X11_types v_3 x3 (fun v_4 => wp_X11_types v_4 x4 (fun v_5 => wp_X11_types v_5 x5 (fun v_6 => K2 (g11_taped v_6) v_6)))))) ∧ (¬ g11_taped (s11_told m 0) ≤ 380 → K2 (-1) (s11_told m 0))) → wp_X11_feed m x1 x2 x3 x4 x5 K2 := by
    intro K2 kk v hv
    rw [hv]; exact kk
  have m1 : g11_tape (s11_told m 0) = g11_tape m ∧ g11_taped (s11_told m 0) = g11_taped m ∧ g11_faultKind (s11_told m 0) = g11_faultKind m ∧ g11_faultPlace (s11_told m 0) = g11_faultPlace m := ⟨rfl, rfl, rfl, rfl⟩
  generalize s11_told m 0 = M at q hx m1
  obtain ⟨m1, m2, m3, m4⟩ := m1
  have eM := fd4 (v := M)
  rw [m1, m2, z2] at eM
  have eT := fc4 (t := g10_tape u)
  rw [z1] at eT
  rw [m2, z2] at hx
  unfold wp_X10_feed
  rw [z1]
  refine pk_le z 380 (fun c => ?_) (fun c => ?_)
  · rw [eT]
    refine w_appF (by omega) fun u2 hu2 => ?_
    rw [hu2, s10_tg]
    refine w_appF (by omega) fun u3 hu3 => ?_
    rw [hu3, s10_tt, s10_tg]
    refine w_appF (by omega) fun u4 hu4 => ?_
    rw [hu4, s10_tt, s10_tg]
    refine w_appF (by omega) fun u5 hu5 => ?_
    rw [hu5, s10_tt, s10_tg]
    refine w_appF (by omega) fun u6 hu6 => ?_
    rw [hu6, s10_tt, s10_tg, fc3.2.1]
    refine hx _ (pk_le z 380 (fun _ => ?_) (fun y => by omega))
    rw [eM]
    refine x_typF (by omega) (x_typF (by omega) (x_typF (by omega) (x_typF (by omega) (x_typF (by omega) ?_))))
    rw [fd3.2.1, ← fd1]
    refine q (nI (z + 4 + 4 + 4 + 4 + 4)) _ _ _ ⟨⟨z + 20, by omega, fc3.2.1, ?_, ?_⟩, ?_, ?_⟩
    · rw [fd1, fd3.2.1]
    · rw [fd1, fd3.1, fc3.1]
      exact ap4_c (ap4_c (ap4_c (ap4_c (ap4_c z3))))
    · rw [fd1, fd3.2.2.1, fc3.2.2.1, m3]; exact h1
    · rw [fd1, fd3.2.2.2, fc3.2.2.2, m4]; exact h2
  · refine hx _ (pk_le z 380 (fun y => by omega) (fun _ => ?_))
    have k := q (-1) (g10_tape u) (g11_tape m) (nI z) ⟨⟨z, z4, z1, by rw [fd1, fd3.2.1], by rw [fd1, fd3.1]; exact z3⟩, by rw [fd1, fd3.2.2.1, m3]; exact h1, by rw [fd1, fd3.2.2.2, m4]; exact h2⟩
    rw [fd1, ← eM] at k
    exact k
theorem o_end (h : TR (g10_tape u) m) (x1 : Int32) {K : Int32 → S10 → Int32 → S11 → Prop} (q : ∀ r t2 z, TR t2 (s11_taped (s11_told m 0) z) → K r (s10_tape u t2) r (s11_taped (s11_told m 0) z)) : wp_X10_end u x1 (fun r u2 => wp_X11_end m x1 (fun r2 v2 => K r u2 r2 v2)) := by
  obtain ⟨⟨z, z4, z1, z2, z3⟩, h1, h2⟩ := id h
  have ref : K 0 u 0 (s11_told m 0) := q 0 (g10_tape u) (g11_taped m) h
  have e0 : g11_taped (s11_told m 0) = nI z := z2
  unfold wp_X10_end wp_X11_end
  rw [z1]
  rcases rng x1 (lo := 0) (hi := z) (by omega) (by omega) with y | y | ⟨a, a1, a2, a3, a4, a5⟩
  · refine ⟨fun _ v hv => ?_, fun w => absurd y w⟩
    rw [hv, e0]; exact x_isIn0 (Or.inl y) ⟨fun _ => ref, fun w => absurd rfl w⟩
  · refine ⟨fun w => absurd w y.1, fun _ => ⟨fun w => absurd y.2 (Int32.not_lt.mpr w), fun _ v hv => ?_⟩⟩
    rw [hv, e0]; exact x_isIn0 (Or.inr y.2) ⟨fun _ => ref, fun w => absurd rfl w⟩
  · subst a3
    refine ⟨fun w => absurd w a4, fun _ => ⟨fun _ u2 hu2 v hv => ?_, fun w => absurd (Int32.not_lt.mp a5) w⟩⟩
    rw [hv, hu2, e0]
    refine x_isIn1 (lo := 0) (hi := z) rfl (by omega) (by omega) a1 a2 ⟨fun w => absurd w (by decide), fun _ v2 hv2 => ?_⟩
    rw [hv2]
    exact q 1 _ (nI a) ⟨⟨a, by omega, rfl, rfl, fun i hi => z3 i (by omega)⟩, h1, h2⟩
theorem o_fault (h : TR (g10_tape u) m) (x1 : Int32) {K : Int32 → Int32 → S11 → Prop} (q : ∀ r, K r r (s11_told m 0)) : wp_X10_fault u x1 (fun r => wp_X11_fault m x1 (fun r2 v2 => K r r2 v2)) := by
  obtain ⟨-, h1, h2⟩ := h
  refine ⟨fun c0 v hv => ?_, fun c0 => ⟨fun c1 v hv => ?_, fun c1 v hv => ?_⟩⟩
  · rw [hv]
    refine ⟨fun _ => ?_, fun y => absurd c0 y⟩
    rw [h1]; exact q _
  · rw [hv]
    refine ⟨fun y => absurd y c0, fun _ => ⟨fun _ => ?_, fun y => absurd c1 y⟩⟩
    rw [h2]; exact q _
  · rw [hv]
    exact ⟨fun y => absurd y c0, fun _ => ⟨fun y => absurd y c1, fun _ => q _⟩⟩
end
