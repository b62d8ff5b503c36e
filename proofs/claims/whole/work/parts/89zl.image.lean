/-! ===== images ===== -/
section
variable {V v : S11} {w : S9} {n : Nat → Int32} {Q : Int32 → S11 → Prop}
theorem SW_copy {w1 : S9} (h : SW w1 n) {Q : S9 → Prop} (q : ∀ w2, SW w2 n → SSc (g9_script w2) (g9_script w1) → Q w2) : wp_X9_copyFrom w w1 Q := by
  obtain ⟨F, G, b, e, f, k, hC, hR, hI⟩ := h
  exact w_copyFrom hC fun w2 c2 s2 => q w2 ⟨F, G, b, e, f, k, c2, hR, hI⟩ s2
theorem PS_o {s s2 : S6} {P P2 : Nat → Int32} {a a2 c c2 : Int32} {o o2 : Nat} (h : PS s P a c o) (hs : SSc s2 s) (hp : ∀ i, i < 96 → P2 (o2 + i) = P (o + i)) (ha : a2 = a) (hc : c2 = c) : PS s2 P2 a2 c2 o2 := by
  obtain ⟨z, q, z1, z2, z3, z4, z5, z6, z7⟩ := h
  refine ⟨z, q, z1, z2, hs.2.1.trans z3, ha.trans z4, hs.2.2.trans z5, hc.trans z6, fun j hj => ?_⟩
  obtain ⟨op, k1, k2, k3, k4, k5, k6, k7⟩ := z7 j hj
  have s0 := hs.1 (4 * j) (by omega)
  have s1 := hs.1 (4 * j + 1) (by omega)
  have s2 := hs.1 (4 * j + 2) (by omega)
  have s3 := hs.1 (4 * j + 3) (by omega)
  have h0 := hp (4 * j) (by omega)
  have h1 := hp (4 * j + 1) (by omega)
  have h2 := hp (4 * j + 2) (by omega)
  have h3 := hp (4 * j + 3) (by omega)
  refine ⟨op, k1, s0.trans k2, ?_, ?_, ?_, fun y => ?_, fun y => ?_⟩
  · rw [Nat.add_assoc, h1, ← Nat.add_assoc]; exact k3
  · rw [h0, s1]; exact k4
  · rw [Nat.add_assoc, h2, ← Nat.add_assoc, s2]; exact k5
  · rw [Nat.add_assoc, h3, ← Nat.add_assoc, s3]; exact k6 y
  · rw [s2]; exact k7 y
theorem sII {A B : Nat → Int32} : s11_images (s11_images v A) B = s11_images v B := rfl
theorem sNN {A B : Nat → Int32} : s11_now (s11_now v A) B = s11_now v B := rfl
theorem gI {A : Nat → Int32} : g11_images (s11_images v A) = A ∧ g11_now (s11_images v A) = g11_now v ∧ g11_plans (s11_images v A) = g11_plans v ∧ g11_planMany (s11_images v A) = g11_planMany v := ⟨rfl, rfl, rfl, rfl⟩
theorem gNw {A : Nat → Int32} : g11_images (s11_now v A) = g11_images v ∧ g11_now (s11_now v A) = A := ⟨rfl, rfl⟩
theorem gPl {A : Nat → Int32} : g11_images (s11_plans v A) = g11_images v ∧ g11_plans (s11_plans v A) = A := ⟨rfl, rfl⟩
theorem x_im71 (q : ∀ I : Nat → Int32, (∀ i, i < 10700 → I i = g11_now V i) → (∀ i, i < 96 → I (10700 + i) = g11_plans V i) → I 10796 = g11_planMany V → Q 1 (s11_images V I)) : ∀ d x (I : Nat → Int32), x + d = 96 → (∀ i, i < 10700 → I i = g11_now V i) → (∀ i, i < x → I (10700 + i) = g11_plans V i) → ∃ N, wp_X11_image_71 Q N 1 (nI x) (s11_images V I) := by
  obtain ⟨g1, g2, g3, g4⟩ := gI (v := V) (A := fun _ => 0)
  intro d
  induction d with
  | zero =>
    intro x I hd h1 h2
    have hd : x = 96 := hd
    subst hd
    refine ⟨1, fun _ => ⟨fun y => absurd y (by decide), fun _ => ⟨ivp (k := 10796) (by omega) (by omega), fun u1 hu1 => ?_⟩⟩, fun y => absurd (by decide) y⟩
    have e1 : u1 = s11_images V (upd I 10796 (g11_planMany V)) := by
      rw [hu1, (gI (v := V) (A := I)).1, (gI (v := V) (A := I)).2.2.2, sII]; rfl
    rw [e1]
    exact q _ (fun i hi => by rw [pk_un (by omega)]; exact h1 i hi) (fun i hi => by rw [pk_un (by omega)]; exact h2 i hi) pk_us
  | succ d ih =>
    intro x I hd h1 h2
    have e9 : (10700 + nI x : Int32) = nI (10700 + x) := nI_add 10700 x
    obtain ⟨N, hN⟩ := ih (x + 1) (upd I (10700 + x) (g11_plans V x)) (by omega) (fun i hi => by rw [pk_un (by omega)]; exact h1 i hi) (fun i hi => by
      by_cases c : i = x
      · rw [c, pk_us]
      · rw [pk_un (by omega)]; exact h2 i (by omega))
    refine ⟨N + 1, pk_le 96 x (fun y => by omega) (fun _ => ⟨fun y => absurd y (by decide), fun _ => ?_⟩)⟩
    rw [e9, (gI (v := V) (A := I)).1, (gI (v := V) (A := I)).2.2.1, sII]
    refine ⟨ivp (by omega) (by omega), ivp (by omega) (by omega), fun u1 hu1 x2 hx2 => ?_⟩
    rw [nI_clamp (by omega), nI_clamp (by omega)] at hu1
    rw [hu1, hx2, nI_1]; exact hN
theorem x_im25 (q : ∀ I : Nat → Int32, (∀ i, i < 10700 → I i = g11_now V i) → (∀ i, i < 96 → I (10700 + i) = g11_plans V i) → I 10796 = g11_planMany V → Q 1 (s11_images V I)) : ∀ d x (I : Nat → Int32), x + d = 10700 → (∀ i, i < x → I i = g11_now V i) → ∃ N, wp_X11_image_25 Q N 1 (nI x) (s11_images V I) := by
  intro d
  induction d with
  | zero =>
    intro x I hd h1
    have hd : x = 10700 := hd
    subst hd
    exact ⟨1, fun _ => x_im71 q 96 0 I (by omega) h1 (fun i hi => by omega), fun y => absurd (by decide) y⟩
  | succ d ih =>
    intro x I hd h1
    obtain ⟨N, hN⟩ := ih (x + 1) (upd I x (g11_now V x)) (by omega) (fun i hi => by
      by_cases c : i = x
      · rw [c, pk_us]
      · rw [pk_un c]; exact h1 i (by omega))
    refine ⟨N + 1, pk_le 10700 x (fun y => by omega) (fun _ => ⟨fun y => absurd y (by decide), fun _ => ?_⟩)⟩
    rw [(gI (v := V) (A := I)).1, (gI (v := V) (A := I)).2.1, sII]
    refine ⟨ivp (by omega) (by omega), ivp (by omega) (by omega), fun u1 hu1 x2 hx2 => ?_⟩
    rw [nI_clamp (by omega)] at hu1
    rw [hu1, hx2, nI_1]; exact hN
theorem x_im71b {V2 : S11} (q : ∀ R : Nat → Int32, (∀ i, i < 96 → R i = g11_images V2 (10700 + i)) → Q 1 (s11_planMany (s11_plans V2 R) (g11_images V2 10796))) : ∀ d x (R : Nat → Int32), x + d = 96 → (∀ i, i < x → R i = g11_images V2 (10700 + i)) → ∃ N, wp_X11_image_71 Q N 0 (nI x) (s11_plans V2 R) := by
  intro d
  induction d with
  | zero =>
    intro x R hd h1
    have hd : x = 96 := hd
    subst hd
    refine ⟨1, fun _ => ⟨fun _ => ⟨ivp (k := 10796) (by omega) (by omega), fun u1 hu1 => ?_⟩, fun y => absurd rfl y⟩, fun y => absurd (by decide) y⟩
    have e1 : u1 = s11_planMany (s11_plans V2 R) (g11_images V2 10796) := by
      rw [hu1, (gPl (v := V2) (A := R)).1]; rfl
    rw [e1]
    exact q R h1
  | succ d ih =>
    intro x R hd h1
    have e9 : (10700 + nI x : Int32) = nI (10700 + x) := nI_add 10700 x
    obtain ⟨N, hN⟩ := ih (x + 1) (upd R x (g11_images V2 (10700 + x))) (by omega) (fun i hi => by
      by_cases c : i = x
      · rw [c, pk_us]
      · rw [pk_un c]; exact h1 i (by omega))
    refine ⟨N + 1, pk_le 96 x (fun y => by omega) (fun _ => ⟨fun _ => ?_, fun y => absurd rfl y⟩)⟩
    rw [e9, (gPl (v := V2) (A := R)).1, (gPl (v := V2) (A := R)).2, s11_pp]
    refine ⟨ivp (by omega) (by omega), ivp (by omega) (by omega), fun u1 hu1 x2 hx2 => ?_⟩
    rw [nI_clamp (by omega), nI_clamp (by omega)] at hu1
    rw [hu1, hx2, nI_1]; exact hN
theorem x_im25b (q : ∀ N R : Nat → Int32, (∀ i, i < 10700 → N i = g11_images V i) → (∀ i, i < 96 → R i = g11_images V (10700 + i)) → Q 1 (s11_planMany (s11_plans (s11_now V N) R) (g11_images V 10796))) : ∀ d x (N : Nat → Int32), x + d = 10700 → (∀ i, i < x → N i = g11_images V i) → ∃ M, wp_X11_image_25 Q M 0 (nI x) (s11_now V N) := by
  intro d
  induction d with
  | zero =>
    intro x N hd h1
    have hd : x = 10700 := hd
    subst hd
    have h := x_im71b (Q := Q) (V2 := s11_now V N) (fun R hR => by
      rw [(gNw (v := V) (A := N)).1] at hR ⊢
      exact q N R h1 hR) 96 0 (g11_plans (s11_now V N)) (by omega) (fun i hi => by omega)
    rw [s11_id] at h
    exact ⟨1, fun _ => h, fun y => absurd (by decide) y⟩
  | succ d ih =>
    intro x N hd h1
    obtain ⟨M, hM⟩ := ih (x + 1) (upd N x (g11_images V x)) (by omega) (fun i hi => by
      by_cases c : i = x
      · rw [c, pk_us]
      · rw [pk_un c]; exact h1 i (by omega))
    refine ⟨M + 1, pk_le 10700 x (fun y => by omega) (fun _ => ⟨fun _ => ?_, fun y => absurd rfl y⟩)⟩
    rw [(gNw (v := V) (A := N)).1, (gNw (v := V) (A := N)).2, sNN]
    refine ⟨ivp (by omega) (by omega), ivp (by omega) (by omega), fun u1 hu1 x2 hx2 => ?_⟩
    rw [nI_clamp (by omega)] at hu1
    rw [hu1, hx2, nI_1]; exact hM
theorem s11_iid : s11_images v (g11_images v) = v := rfl
theorem s11_nid : s11_now v (g11_now v) = v := rfl
theorem f_th : g11_now (s11_hasImage (s11_told v 0) 1) = g11_now v ∧ g11_plans (s11_hasImage (s11_told v 0) 1) = g11_plans v ∧ g11_planMany (s11_hasImage (s11_told v 0) 1) = g11_planMany v ∧ g11_images (s11_hasImage (s11_told v 0) 1) = g11_images v := ⟨rfl, rfl, rfl, rfl⟩
theorem f_t0 {a : Int32} : g11_hasImage (s11_told v a) = g11_hasImage v := rfl
theorem x_image1 (q : ∀ I : Nat → Int32, (∀ i, i < 10700 → I i = g11_now v i) → (∀ i, i < 96 → I (10700 + i) = g11_plans v i) → I 10796 = g11_planMany v → Q 1 (s11_images (s11_hasImage (s11_told v 0) 1) I)) : wp_X11_image v 1 Q := by
  intro u1 hu1
  rw [hu1]
  refine ⟨fun y => absurd y (by decide), fun _ u2 hu2 => ?_⟩
  rw [hu2]
  obtain ⟨g1, g2, g3, g4⟩ := f_th (v := v)
  have h := x_im25 (Q := Q) (V := s11_hasImage (s11_told v 0) 1) (fun I h1 h2 h3 => q I (by rw [← g1]; exact h1) (by rw [← g2]; exact h2) (by rw [← g3]; exact h3)) 10700 0 (g11_images (s11_hasImage (s11_told v 0) 1)) (by omega) (fun i hi => by omega)
  rw [s11_iid] at h
  exact h
theorem x_image0 (q : ∀ N R : Nat → Int32, (∀ i, i < 10700 → N i = g11_images v i) → (∀ i, i < 96 → R i = g11_images v (10700 + i)) → Q 1 (s11_planMany (s11_plans (s11_now (s11_hasImage (s11_told v 0) 1) N) R) (g11_images v 10796))) (h : g11_hasImage v ≠ 0) : wp_X11_image v 0 Q := by
  intro u1 hu1
  rw [hu1, f_t0]
  refine ⟨fun _ => ⟨fun y => absurd y h, fun _ u2 hu2 => ?_⟩, fun y => absurd rfl y⟩
  rw [hu2]
  obtain ⟨g1, g2, g3, g4⟩ := f_th (v := v)
  have h := x_im25b (Q := Q) (V := s11_hasImage (s11_told v 0) 1) (fun N R h1 h2 => by
    rw [g4] at h1 h2 ⊢
    exact q N R h1 h2) 10700 0 (g11_now (s11_hasImage (s11_told v 0) 1)) (by omega) (fun i hi => by omega)
  rw [s11_nid] at h
  exact h
theorem x_image00 (q : Q 0 (s11_told v 0)) (h : g11_hasImage v = 0) : wp_X11_image v 0 Q := by
  intro u1 hu1
  rw [hu1, f_t0]
  exact ⟨fun _ => ⟨fun _ => q, fun y => absurd h y⟩, fun y => absurd rfl y⟩
end
