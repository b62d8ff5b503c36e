/-! ===== calls of the store: look ===== -/
section
variable {m : S11} {n : Nat → Int32} {pn : Int32} {F F2 : Nat → Nat} {G G2 : Nat → Int32} {b b2 : Nat → Nat} {e f k e2 f2 c cp en : Nat} {w : S9} {P : S3} {C : S0} {R : S5} {J : S2} {U : Nat → Nat} {r : S4} {x2 : Int32} {u : S10} {D : Nat → Bool} {cs : Nat → Nat}
theorem o_look (h : SW (g10_now u) n) (h10 : g6_size (g9_script (g10_now u)) = g11_planMany m) (h11 : g6_ran (g9_script (g10_now u)) = n 7) (x1 : Int32) {K : Int32 → Int32 → S11 → Prop} (q : ∀ r, K r r (mS (s11_told m 0) n pn)) : wp_X10_look u x1 (fun r => wp_X11_look (mS m n pn) x1 (fun r2 v2 => K r r2 v2)) := by
  obtain ⟨F, G, b, e, f, k, hC, hR, hI⟩ := h
  obtain ⟨ib, iy, iF, iL, i5, -⟩ := id hI.1
  obtain ⟨D, hD⟩ := D_ex G
  obtain ⟨cJ, cP, cR, cC, cS, cu, cm, co, cr, cc⟩ := id hC
  have hM : isM (g11_now (mS (s11_told m 0) n pn)) b e f := hR.1
  have m0 : ∀ r : Int32, r = (if F 3 = 0 then 1 else 0) → wp_X11_look (mS m n pn) (nI 0) (fun r2 v2 => K r r2 v2) := fun r hr v hv => by
    rw [hv]
    exact ⟨fun _ => x_isUp (m := s11_told m 0) hR (ib 3) (by
      by_cases z : F 3 = 0
      · rw [if_pos z] at hr ⊢
        exact ⟨fun y => absurd y (by decide), fun _ => by rw [hr]; exact q 1⟩
      · rw [if_neg z] at hr ⊢
        exact ⟨fun _ => by rw [hr]; exact q 0, fun y => absurd rfl y⟩), fun y => absurd rfl y⟩
  have m1 : ∀ r : Int32, r = nI e → wp_X11_look (mS m n pn) (nI 1) (fun r2 v2 => K r r2 v2) := fun r hr v hv => by
    rw [hv]
    exact ⟨fun y => absurd y (by decide), fun _ => ⟨fun _ => x_end1 hM (by rw [hr]; exact q _), fun y => absurd rfl y⟩⟩
  have m2 : ∀ r : Int32, r = nI f → wp_X11_look (mS m n pn) (nI 2) (fun r2 v2 => K r r2 v2) := fun r hr v hv => by
    rw [hv]
    exact ⟨fun y => absurd y (by decide), fun _ => ⟨fun y => absurd y (by decide), fun _ => ⟨fun _ => x_flushed hM (by rw [hr]; exact q _), fun y => absurd rfl y⟩⟩⟩
  have m3 : ∀ r : Int32, r = nI (F 2) → wp_X11_look (mS m n pn) (nI 3) (fun r2 v2 => K r r2 v2) := fun r hr v hv => by
    rw [hv]
    exact ⟨fun y => absurd y (by decide), fun _ => ⟨fun y => absurd y (by decide), fun _ => ⟨fun y => absurd y (by decide), fun _ => ⟨fun _ => ⟨ivp (k := 2) (by omega) (by omega), by
      have g : g11_now (mS (s11_told m 0) n pn) (2 : Int32).toNatClampNeg = nI (F 2) := hR.2.1 2 (by unfold nk; omega)
      rw [g, hr]; exact q _⟩, fun y => absurd rfl y⟩⟩⟩⟩
  have m4 : ∀ r : Int32, r = nI (F 5) → wp_X11_look (mS m n pn) (nI 4) (fun r2 v2 => K r r2 v2) := fun r hr v hv => by
    rw [hv]
    exact ⟨fun y => absurd y (by decide), fun _ => ⟨fun y => absurd y (by decide), fun _ => ⟨fun y => absurd y (by decide), fun _ => ⟨fun y => absurd y (by decide), fun _ => ⟨fun _ => x_frameMany (m := s11_told m 0) hR (by rw [hr]; exact q _), fun y => absurd rfl y⟩⟩⟩⟩⟩
  have m5 : ∀ r : Int32, r = nI (cnt (unB F) 8 0) → wp_X11_look (mS m n pn) (nI 5) (fun r2 v2 => K r r2 v2) := fun r hr v hv => by
    rw [hv]
    exact ⟨fun y => absurd y (by decide), fun _ => ⟨fun y => absurd y (by decide), fun _ => ⟨fun y => absurd y (by decide), fun _ => ⟨fun y => absurd y (by decide), fun _ => ⟨fun y => absurd y (by decide), fun _ => ⟨fun _ => x_uncleanMany (m := s11_told m 0) hR iF ib (by rw [hr]; exact q _), fun y => absurd rfl y⟩⟩⟩⟩⟩⟩
  have m6 : ∀ r : Int32, r = orL (isE F 1) 9 1 0 → wp_X11_look (mS m n pn) (nI 6) (fun r2 v2 => K r r2 v2) := fun r hr v hv => by
    rw [hv]
    exact ⟨fun y => absurd y (by decide), fun _ => ⟨fun y => absurd y (by decide), fun _ => ⟨fun y => absurd y (by decide), fun _ => ⟨fun y => absurd y (by decide), fun _ => ⟨fun y => absurd y (by decide), fun _ => ⟨fun y => absurd y (by decide), fun _ => ⟨fun _ => x_txSet (m := s11_told m 0) hR ib (s := 1) (by omega) (by rw [hr]; exact q _), fun y => absurd rfl y⟩⟩⟩⟩⟩⟩⟩
  have m7 : ∀ r : Int32, r = orL (isE F 2) 9 1 0 → wp_X11_look (mS m n pn) (nI 7) (fun r2 v2 => K r r2 v2) := fun r hr v hv => by
    rw [hv]
    exact ⟨fun y => absurd y (by decide), fun _ => ⟨fun y => absurd y (by decide), fun _ => ⟨fun y => absurd y (by decide), fun _ => ⟨fun y => absurd y (by decide), fun _ => ⟨fun y => absurd y (by decide), fun _ => ⟨fun y => absurd y (by decide), fun _ => ⟨fun y => absurd y (by decide), fun _ => ⟨fun _ => x_txSet (m := s11_told m 0) hR ib (s := 2) (by omega) (by rw [hr]; exact q _), fun y => absurd rfl y⟩⟩⟩⟩⟩⟩⟩⟩
  have m8 : ∀ r : Int32, r = nI (F 4) → wp_X11_look (mS m n pn) (nI 8) (fun r2 v2 => K r r2 v2) := fun r hr v hv => by
    rw [hv]
    exact ⟨fun y => absurd y (by decide), fun _ => ⟨fun y => absurd y (by decide), fun _ => ⟨fun y => absurd y (by decide), fun _ => ⟨fun y => absurd y (by decide), fun _ => ⟨fun y => absurd y (by decide), fun _ => ⟨fun y => absurd y (by decide), fun _ => ⟨fun y => absurd y (by decide), fun _ => ⟨fun y => absurd y (by decide), fun _ => ⟨fun _ => ⟨ivp (k := 4) (by omega) (by omega), by
      have g : g11_now (mS (s11_told m 0) n pn) (4 : Int32).toNatClampNeg = nI (F 4) := hR.2.1 4 (by unfold nk; omega)
      rw [g, hr]; exact q _⟩, fun y => absurd rfl y⟩⟩⟩⟩⟩⟩⟩⟩⟩
  have m9 : ∀ r : Int32, r = nI (ndd F b) → wp_X11_look (mS m n pn) (nI 9) (fun r2 v2 => K r r2 v2) := fun r hr v hv => by
    rw [hv]
    exact ⟨fun y => absurd y (by decide), fun _ => ⟨fun y => absurd y (by decide), fun _ => ⟨fun y => absurd y (by decide), fun _ => ⟨fun y => absurd y (by decide), fun _ => ⟨fun y => absurd y (by decide), fun _ => ⟨fun y => absurd y (by decide), fun _ => ⟨fun y => absurd y (by decide), fun _ => ⟨fun y => absurd y (by decide), fun _ => ⟨fun y => absurd y (by decide), fun _ => ⟨fun _ => x_needed (m := s11_told m 0) hR hI (by rw [hr]; exact q _), fun y => absurd rfl y⟩⟩⟩⟩⟩⟩⟩⟩⟩⟩
  have m10 : ∀ r : Int32, r = g11_planMany m → wp_X11_look (mS m n pn) (nI 10) (fun r2 v2 => K r r2 v2) := fun r hr v hv => by
    rw [hv]
    exact ⟨fun y => absurd y (by decide), fun _ => ⟨fun y => absurd y (by decide), fun _ => ⟨fun y => absurd y (by decide), fun _ => ⟨fun y => absurd y (by decide), fun _ => ⟨fun y => absurd y (by decide), fun _ => ⟨fun y => absurd y (by decide), fun _ => ⟨fun y => absurd y (by decide), fun _ => ⟨fun y => absurd y (by decide), fun _ => ⟨fun y => absurd y (by decide), fun _ => ⟨fun y => absurd y (by decide), fun _ => ⟨fun _ => (by rw [hr]; exact q _), fun y => absurd rfl y⟩⟩⟩⟩⟩⟩⟩⟩⟩⟩⟩
  have m11 : ∀ r : Int32, r = n 7 → wp_X11_look (mS m n pn) (nI 11) (fun r2 v2 => K r r2 v2) := fun r hr v hv => by
    rw [hv]
    exact ⟨fun y => absurd y (by decide), fun _ => ⟨fun y => absurd y (by decide), fun _ => ⟨fun y => absurd y (by decide), fun _ => ⟨fun y => absurd y (by decide), fun _ => ⟨fun y => absurd y (by decide), fun _ => ⟨fun y => absurd y (by decide), fun _ => ⟨fun y => absurd y (by decide), fun _ => ⟨fun y => absurd y (by decide), fun _ => ⟨fun y => absurd y (by decide), fun _ => ⟨fun y => absurd y (by decide), fun _ => ⟨fun y => absurd y (by decide), fun _ => ⟨fun _ => ⟨ivp (k := 7) (by omega) (by omega), by rw [hr]; exact q _⟩, fun y => absurd rfl y⟩⟩⟩⟩⟩⟩⟩⟩⟩⟩⟩⟩
  have m12 : ∀ r : Int32, r = G 8 → wp_X11_look (mS m n pn) (nI 12) (fun r2 v2 => K r r2 v2) := fun r hr v hv => by
    rw [hv]
    exact ⟨fun y => absurd y (by decide), fun _ => ⟨fun y => absurd y (by decide), fun _ => ⟨fun y => absurd y (by decide), fun _ => ⟨fun y => absurd y (by decide), fun _ => ⟨fun y => absurd y (by decide), fun _ => ⟨fun y => absurd y (by decide), fun _ => ⟨fun y => absurd y (by decide), fun _ => ⟨fun y => absurd y (by decide), fun _ => ⟨fun y => absurd y (by decide), fun _ => ⟨fun y => absurd y (by decide), fun _ => ⟨fun y => absurd y (by decide), fun _ => ⟨fun y => absurd y (by decide), fun _ => ⟨fun _ => ⟨ivp (k := 8) (by omega) (by omega), by
      have g : g11_now (mS (s11_told m 0) n pn) (8 : Int32).toNatClampNeg = G 8 := hR.2.2.1 8 (by unfold gk; omega)
      rw [g, hr]; exact q _⟩, fun y => absurd rfl y⟩⟩⟩⟩⟩⟩⟩⟩⟩⟩⟩⟩⟩
  have m13 : ∀ r : Int32, r = G 9 → wp_X11_look (mS m n pn) (nI 13) (fun r2 v2 => K r r2 v2) := fun r hr v hv => by
    rw [hv]
    exact ⟨fun y => absurd y (by decide), fun _ => ⟨fun y => absurd y (by decide), fun _ => ⟨fun y => absurd y (by decide), fun _ => ⟨fun y => absurd y (by decide), fun _ => ⟨fun y => absurd y (by decide), fun _ => ⟨fun y => absurd y (by decide), fun _ => ⟨fun y => absurd y (by decide), fun _ => ⟨fun y => absurd y (by decide), fun _ => ⟨fun y => absurd y (by decide), fun _ => ⟨fun y => absurd y (by decide), fun _ => ⟨fun y => absurd y (by decide), fun _ => ⟨fun y => absurd y (by decide), fun _ => ⟨fun y => absurd y (by decide), fun _ => ⟨fun _ => ⟨ivp (k := 9) (by omega) (by omega), by
      have g : g11_now (mS (s11_told m 0) n pn) (9 : Int32).toNatClampNeg = G 9 := hR.2.2.1 9 (by unfold gk; omega)
      rw [g, hr]; exact q _⟩, fun y => absurd rfl y⟩⟩⟩⟩⟩⟩⟩⟩⟩⟩⟩⟩⟩⟩
  have m14 : ∀ r : Int32, r = G 10 → wp_X11_look (mS m n pn) (nI 14) (fun r2 v2 => K r r2 v2) := fun r hr v hv => by
    rw [hv]
    exact ⟨fun y => absurd y (by decide), fun _ => ⟨fun y => absurd y (by decide), fun _ => ⟨fun y => absurd y (by decide), fun _ => ⟨fun y => absurd y (by decide), fun _ => ⟨fun y => absurd y (by decide), fun _ => ⟨fun y => absurd y (by decide), fun _ => ⟨fun y => absurd y (by decide), fun _ => ⟨fun y => absurd y (by decide), fun _ => ⟨fun y => absurd y (by decide), fun _ => ⟨fun y => absurd y (by decide), fun _ => ⟨fun y => absurd y (by decide), fun _ => ⟨fun y => absurd y (by decide), fun _ => ⟨fun y => absurd y (by decide), fun _ => ⟨fun y => absurd y (by decide), fun _ => ⟨fun y => absurd y (by decide), fun _ => ⟨fun y => absurd y (by decide), fun _ => ⟨fun y => absurd y (by decide), fun _ => ⟨fun y => absurd y (by decide), fun _ => ⟨fun _ => ⟨ivp (k := 10) (by omega) (by omega), by
      have g : g11_now (mS (s11_told m 0) n pn) (10 : Int32).toNatClampNeg = G 10 := hR.2.2.1 10 (by unfold gk; omega)
      rw [g, hr]; exact q _⟩, fun y => absurd rfl y⟩⟩⟩⟩⟩⟩⟩⟩⟩⟩⟩⟩⟩⟩⟩⟩⟩⟩⟩
  have m15 : ∀ r : Int32, r = nI (F 11 + 8) → wp_X11_look (mS m n pn) (nI 15) (fun r2 v2 => K r r2 v2) := fun r hr v hv => by
    rw [hv]
    exact ⟨fun y => absurd y (by decide), fun _ => ⟨fun y => absurd y (by decide), fun _ => ⟨fun y => absurd y (by decide), fun _ => ⟨fun y => absurd y (by decide), fun _ => ⟨fun y => absurd y (by decide), fun _ => ⟨fun y => absurd y (by decide), fun _ => ⟨fun y => absurd y (by decide), fun _ => ⟨fun y => absurd y (by decide), fun _ => ⟨fun y => absurd y (by decide), fun _ => ⟨fun y => absurd y (by decide), fun _ => ⟨fun y => absurd y (by decide), fun _ => ⟨fun y => absurd y (by decide), fun _ => ⟨fun y => absurd y (by decide), fun _ => ⟨fun y => absurd y (by decide), fun _ => ⟨fun _ => ⟨ivp (k := 11) (by omega) (by omega), by
      have g : g11_now (mS (s11_told m 0) n pn) (11 + nI 15 - 15 : Int32).toNatClampNeg = nI (F 11) := hR.2.1 11 (by unfold nk; omega)
      rw [g, hr, show nI (F 11) + 8 = nI (F 11 + 8) from nI_add _ 8]; exact q _⟩, fun y => absurd rfl y⟩⟩⟩⟩⟩⟩⟩⟩⟩⟩⟩⟩⟩⟩⟩
  have m16 : ∀ r : Int32, r = nI (F 12 + 8) → wp_X11_look (mS m n pn) (nI 16) (fun r2 v2 => K r r2 v2) := fun r hr v hv => by
    rw [hv]
    exact ⟨fun y => absurd y (by decide), fun _ => ⟨fun y => absurd y (by decide), fun _ => ⟨fun y => absurd y (by decide), fun _ => ⟨fun y => absurd y (by decide), fun _ => ⟨fun y => absurd y (by decide), fun _ => ⟨fun y => absurd y (by decide), fun _ => ⟨fun y => absurd y (by decide), fun _ => ⟨fun y => absurd y (by decide), fun _ => ⟨fun y => absurd y (by decide), fun _ => ⟨fun y => absurd y (by decide), fun _ => ⟨fun y => absurd y (by decide), fun _ => ⟨fun y => absurd y (by decide), fun _ => ⟨fun y => absurd y (by decide), fun _ => ⟨fun y => absurd y (by decide), fun _ => ⟨fun y => absurd y (by decide), fun _ => ⟨fun _ => ⟨ivp (k := 12) (by omega) (by omega), by
      have g : g11_now (mS (s11_told m 0) n pn) (11 + nI 16 - 15 : Int32).toNatClampNeg = nI (F 12) := hR.2.1 12 (by unfold nk; omega)
      rw [g, hr, show nI (F 12) + 8 = nI (F 12 + 8) from nI_add _ 8]; exact q _⟩, fun y => absurd rfl y⟩⟩⟩⟩⟩⟩⟩⟩⟩⟩⟩⟩⟩⟩⟩⟩
  have m17 : ∀ r : Int32, r = orL D 9 1 0 → wp_X11_look (mS m n pn) (nI 17) (fun r2 v2 => K r r2 v2) := fun r hr v hv => by
    rw [hv]
    exact ⟨fun y => absurd y (by decide), fun _ => ⟨fun y => absurd y (by decide), fun _ => ⟨fun y => absurd y (by decide), fun _ => ⟨fun y => absurd y (by decide), fun _ => ⟨fun y => absurd y (by decide), fun _ => ⟨fun y => absurd y (by decide), fun _ => ⟨fun y => absurd y (by decide), fun _ => ⟨fun y => absurd y (by decide), fun _ => ⟨fun y => absurd y (by decide), fun _ => ⟨fun y => absurd y (by decide), fun _ => ⟨fun y => absurd y (by decide), fun _ => ⟨fun y => absurd y (by decide), fun _ => ⟨fun y => absurd y (by decide), fun _ => ⟨fun y => absurd y (by decide), fun _ => ⟨fun y => absurd y (by decide), fun _ => ⟨fun y => absurd y (by decide), fun _ => ⟨fun _ => x_locked (m := s11_told m 0) hR hD (by rw [hr]; exact q _), fun y => absurd rfl y⟩⟩⟩⟩⟩⟩⟩⟩⟩⟩⟩⟩⟩⟩⟩⟩⟩
  have m18 : ∀ r : Int32, r = nI (tly b 0 k 0) → wp_X11_look (mS m n pn) (nI 18) (fun r2 v2 => K r r2 v2) := fun r hr v hv => by
    rw [hv]
    exact ⟨fun y => absurd y (by decide), fun _ => ⟨fun y => absurd y (by decide), fun _ => ⟨fun y => absurd y (by decide), fun _ => ⟨fun y => absurd y (by decide), fun _ => ⟨fun y => absurd y (by decide), fun _ => ⟨fun y => absurd y (by decide), fun _ => ⟨fun y => absurd y (by decide), fun _ => ⟨fun y => absurd y (by decide), fun _ => ⟨fun y => absurd y (by decide), fun _ => ⟨fun y => absurd y (by decide), fun _ => ⟨fun y => absurd y (by decide), fun _ => ⟨fun y => absurd y (by decide), fun _ => ⟨fun y => absurd y (by decide), fun _ => ⟨fun y => absurd y (by decide), fun _ => ⟨fun y => absurd y (by decide), fun _ => ⟨fun y => absurd y (by decide), fun _ => ⟨fun y => absurd y (by decide), fun _ => ⟨fun _ => x_recordMany hM iL (by rw [hr]; exact q _), fun y => absurd rfl y⟩⟩⟩⟩⟩⟩⟩⟩⟩⟩⟩⟩⟩⟩⟩⟩⟩⟩
  by_cases c0 : x1 = nI 0
  · subst c0
    exact ⟨fun _ => ⟨fun z => m0 _ (by rw [cu] at z; by_cases y : F 3 = 0; rw [if_pos y] at z; exact absurd z (by decide); rw [if_neg y]), fun z => m0 _ (by rw [cu] at z; by_cases y : F 3 = 0; rw [if_pos y]; rw [if_neg y] at z; exact absurd rfl z)⟩, fun y => absurd rfl y⟩
  by_cases c1 : x1 = nI 1
  · subst c1
    exact ⟨fun y => absurd y (by decide), fun _ => ⟨fun _ => m1 _ cJ.1, fun y => absurd rfl y⟩⟩
  by_cases c2 : x1 = nI 2
  · subst c2
    exact ⟨fun y => absurd y (by decide), fun _ => ⟨fun y => absurd y (by decide), fun _ => ⟨fun _ => m2 _ cJ.2.1, fun y => absurd rfl y⟩⟩⟩
  by_cases c3 : x1 = nI 3
  · subst c3
    exact ⟨fun y => absurd y (by decide), fun _ => ⟨fun y => absurd y (by decide), fun _ => ⟨fun y => absurd y (by decide), fun _ => ⟨fun _ => m3 _ cm, fun y => absurd rfl y⟩⟩⟩⟩
  by_cases c4 : x1 = nI 4
  · subst c4
    exact ⟨fun y => absurd y (by decide), fun _ => ⟨fun y => absurd y (by decide), fun _ => ⟨fun y => absurd y (by decide), fun _ => ⟨fun y => absurd y (by decide), fun _ => ⟨fun _ => m4 _ cP.2.2.2.2.2.1, fun y => absurd rfl y⟩⟩⟩⟩⟩
  by_cases c5 : x1 = nI 5
  · subst c5
    exact ⟨fun y => absurd y (by decide), fun _ => ⟨fun y => absurd y (by decide), fun _ => ⟨fun y => absurd y (by decide), fun _ => ⟨fun y => absurd y (by decide), fun _ => ⟨fun y => absurd y (by decide), fun _ => ⟨fun _ => w_uncleanCount cP ib (m5 _ rfl), fun y => absurd rfl y⟩⟩⟩⟩⟩⟩
  by_cases c6 : x1 = nI 6
  · subst c6
    exact ⟨fun y => absurd y (by decide), fun _ => ⟨fun y => absurd y (by decide), fun _ => ⟨fun y => absurd y (by decide), fun _ => ⟨fun y => absurd y (by decide), fun _ => ⟨fun y => absurd y (by decide), fun _ => ⟨fun y => absurd y (by decide), fun _ => ⟨fun _ => w_ata cR ib (s := 1) (by omega) (m6 _ rfl), fun y => absurd rfl y⟩⟩⟩⟩⟩⟩⟩
  by_cases c7 : x1 = nI 7
  · subst c7
    exact ⟨fun y => absurd y (by decide), fun _ => ⟨fun y => absurd y (by decide), fun _ => ⟨fun y => absurd y (by decide), fun _ => ⟨fun y => absurd y (by decide), fun _ => ⟨fun y => absurd y (by decide), fun _ => ⟨fun y => absurd y (by decide), fun _ => ⟨fun y => absurd y (by decide), fun _ => ⟨fun _ => w_ata cR ib (s := 2) (by omega) (m7 _ rfl), fun y => absurd rfl y⟩⟩⟩⟩⟩⟩⟩⟩
  by_cases c8 : x1 = nI 8
  · subst c8
    exact ⟨fun y => absurd y (by decide), fun _ => ⟨fun y => absurd y (by decide), fun _ => ⟨fun y => absurd y (by decide), fun _ => ⟨fun y => absurd y (by decide), fun _ => ⟨fun y => absurd y (by decide), fun _ => ⟨fun y => absurd y (by decide), fun _ => ⟨fun y => absurd y (by decide), fun _ => ⟨fun y => absurd y (by decide), fun _ => ⟨fun _ => m8 _ co, fun y => absurd rfl y⟩⟩⟩⟩⟩⟩⟩⟩⟩
  by_cases c9 : x1 = nI 9
  · subst c9
    exact ⟨fun y => absurd y (by decide), fun _ => ⟨fun y => absurd y (by decide), fun _ => ⟨fun y => absurd y (by decide), fun _ => ⟨fun y => absurd y (by decide), fun _ => ⟨fun y => absurd y (by decide), fun _ => ⟨fun y => absurd y (by decide), fun _ => ⟨fun y => absurd y (by decide), fun _ => ⟨fun y => absurd y (by decide), fun _ => ⟨fun y => absurd y (by decide), fun _ => ⟨fun _ => w_needed hC hI (m9 _ rfl), fun y => absurd rfl y⟩⟩⟩⟩⟩⟩⟩⟩⟩⟩
  by_cases c10 : x1 = nI 10
  · subst c10
    exact ⟨fun y => absurd y (by decide), fun _ => ⟨fun y => absurd y (by decide), fun _ => ⟨fun y => absurd y (by decide), fun _ => ⟨fun y => absurd y (by decide), fun _ => ⟨fun y => absurd y (by decide), fun _ => ⟨fun y => absurd y (by decide), fun _ => ⟨fun y => absurd y (by decide), fun _ => ⟨fun y => absurd y (by decide), fun _ => ⟨fun y => absurd y (by decide), fun _ => ⟨fun y => absurd y (by decide), fun _ => ⟨fun _ => m10 _ h10, fun y => absurd rfl y⟩⟩⟩⟩⟩⟩⟩⟩⟩⟩⟩
  by_cases c11 : x1 = nI 11
  · subst c11
    exact ⟨fun y => absurd y (by decide), fun _ => ⟨fun y => absurd y (by decide), fun _ => ⟨fun y => absurd y (by decide), fun _ => ⟨fun y => absurd y (by decide), fun _ => ⟨fun y => absurd y (by decide), fun _ => ⟨fun y => absurd y (by decide), fun _ => ⟨fun y => absurd y (by decide), fun _ => ⟨fun y => absurd y (by decide), fun _ => ⟨fun y => absurd y (by decide), fun _ => ⟨fun y => absurd y (by decide), fun _ => ⟨fun y => absurd y (by decide), fun _ => ⟨fun _ => m11 _ h11, fun y => absurd rfl y⟩⟩⟩⟩⟩⟩⟩⟩⟩⟩⟩⟩
  by_cases c12 : x1 = nI 12
  · subst c12
    exact ⟨fun y => absurd y (by decide), fun _ => ⟨fun y => absurd y (by decide), fun _ => ⟨fun y => absurd y (by decide), fun _ => ⟨fun y => absurd y (by decide), fun _ => ⟨fun y => absurd y (by decide), fun _ => ⟨fun y => absurd y (by decide), fun _ => ⟨fun y => absurd y (by decide), fun _ => ⟨fun y => absurd y (by decide), fun _ => ⟨fun y => absurd y (by decide), fun _ => ⟨fun y => absurd y (by decide), fun _ => ⟨fun y => absurd y (by decide), fun _ => ⟨fun y => absurd y (by decide), fun _ => ⟨fun _ => m12 _ cr, fun y => absurd rfl y⟩⟩⟩⟩⟩⟩⟩⟩⟩⟩⟩⟩⟩
  by_cases c13 : x1 = nI 13
  · subst c13
    exact ⟨fun y => absurd y (by decide), fun _ => ⟨fun y => absurd y (by decide), fun _ => ⟨fun y => absurd y (by decide), fun _ => ⟨fun y => absurd y (by decide), fun _ => ⟨fun y => absurd y (by decide), fun _ => ⟨fun y => absurd y (by decide), fun _ => ⟨fun y => absurd y (by decide), fun _ => ⟨fun y => absurd y (by decide), fun _ => ⟨fun y => absurd y (by decide), fun _ => ⟨fun y => absurd y (by decide), fun _ => ⟨fun y => absurd y (by decide), fun _ => ⟨fun y => absurd y (by decide), fun _ => ⟨fun y => absurd y (by decide), fun _ => ⟨fun _ => m13 _ cc, fun y => absurd rfl y⟩⟩⟩⟩⟩⟩⟩⟩⟩⟩⟩⟩⟩⟩
  by_cases c14 : x1 = nI 14
  · subst c14
    exact ⟨fun y => absurd y (by decide), fun _ => ⟨fun y => absurd y (by decide), fun _ => ⟨fun y => absurd y (by decide), fun _ => ⟨fun y => absurd y (by decide), fun _ => ⟨fun y => absurd y (by decide), fun _ => ⟨fun y => absurd y (by decide), fun _ => ⟨fun y => absurd y (by decide), fun _ => ⟨fun y => absurd y (by decide), fun _ => ⟨fun y => absurd y (by decide), fun _ => ⟨fun y => absurd y (by decide), fun _ => ⟨fun y => absurd y (by decide), fun _ => ⟨fun y => absurd y (by decide), fun _ => ⟨fun y => absurd y (by decide), fun _ => ⟨fun y => absurd y (by decide), fun _ => ⟨fun _ => m14 _ cP.2.2.2.2.1, fun y => absurd rfl y⟩⟩⟩⟩⟩⟩⟩⟩⟩⟩⟩⟩⟩⟩⟩
  by_cases c15 : x1 = nI 15
  · subst c15
    exact ⟨fun y => absurd y (by decide), fun _ => ⟨fun y => absurd y (by decide), fun _ => ⟨fun y => absurd y (by decide), fun _ => ⟨fun y => absurd y (by decide), fun _ => ⟨fun y => absurd y (by decide), fun _ => ⟨fun y => absurd y (by decide), fun _ => ⟨fun y => absurd y (by decide), fun _ => ⟨fun y => absurd y (by decide), fun _ => ⟨fun y => absurd y (by decide), fun _ => ⟨fun y => absurd y (by decide), fun _ => ⟨fun y => absurd y (by decide), fun _ => ⟨fun y => absurd y (by decide), fun _ => ⟨fun y => absurd y (by decide), fun _ => ⟨fun y => absurd y (by decide), fun _ => ⟨fun y => absurd y (by decide), fun _ => ⟨fun _ => m15 _ cS.2.2.1, fun y => absurd rfl y⟩⟩⟩⟩⟩⟩⟩⟩⟩⟩⟩⟩⟩⟩⟩⟩
  by_cases c16 : x1 = nI 16
  · subst c16
    exact ⟨fun y => absurd y (by decide), fun _ => ⟨fun y => absurd y (by decide), fun _ => ⟨fun y => absurd y (by decide), fun _ => ⟨fun y => absurd y (by decide), fun _ => ⟨fun y => absurd y (by decide), fun _ => ⟨fun y => absurd y (by decide), fun _ => ⟨fun y => absurd y (by decide), fun _ => ⟨fun y => absurd y (by decide), fun _ => ⟨fun y => absurd y (by decide), fun _ => ⟨fun y => absurd y (by decide), fun _ => ⟨fun y => absurd y (by decide), fun _ => ⟨fun y => absurd y (by decide), fun _ => ⟨fun y => absurd y (by decide), fun _ => ⟨fun y => absurd y (by decide), fun _ => ⟨fun y => absurd y (by decide), fun _ => ⟨fun y => absurd y (by decide), fun _ => ⟨fun _ => m16 _ cS.2.2.2, fun y => absurd rfl y⟩⟩⟩⟩⟩⟩⟩⟩⟩⟩⟩⟩⟩⟩⟩⟩⟩
  by_cases c17 : x1 = nI 17
  · subst c17
    exact ⟨fun y => absurd y (by decide), fun _ => ⟨fun y => absurd y (by decide), fun _ => ⟨fun y => absurd y (by decide), fun _ => ⟨fun y => absurd y (by decide), fun _ => ⟨fun y => absurd y (by decide), fun _ => ⟨fun y => absurd y (by decide), fun _ => ⟨fun y => absurd y (by decide), fun _ => ⟨fun y => absurd y (by decide), fun _ => ⟨fun y => absurd y (by decide), fun _ => ⟨fun y => absurd y (by decide), fun _ => ⟨fun y => absurd y (by decide), fun _ => ⟨fun y => absurd y (by decide), fun _ => ⟨fun y => absurd y (by decide), fun _ => ⟨fun y => absurd y (by decide), fun _ => ⟨fun y => absurd y (by decide), fun _ => ⟨fun y => absurd y (by decide), fun _ => ⟨fun y => absurd y (by decide), fun _ => ⟨fun _ => w_allD cC hD (m17 _ rfl), fun y => absurd rfl y⟩⟩⟩⟩⟩⟩⟩⟩⟩⟩⟩⟩⟩⟩⟩⟩⟩⟩
  by_cases c18 : x1 = nI 18
  · subst c18
    exact ⟨fun y => absurd y (by decide), fun _ => ⟨fun y => absurd y (by decide), fun _ => ⟨fun y => absurd y (by decide), fun _ => ⟨fun y => absurd y (by decide), fun _ => ⟨fun y => absurd y (by decide), fun _ => ⟨fun y => absurd y (by decide), fun _ => ⟨fun y => absurd y (by decide), fun _ => ⟨fun y => absurd y (by decide), fun _ => ⟨fun y => absurd y (by decide), fun _ => ⟨fun y => absurd y (by decide), fun _ => ⟨fun y => absurd y (by decide), fun _ => ⟨fun y => absurd y (by decide), fun _ => ⟨fun y => absurd y (by decide), fun _ => ⟨fun y => absurd y (by decide), fun _ => ⟨fun y => absurd y (by decide), fun _ => ⟨fun y => absurd y (by decide), fun _ => ⟨fun y => absurd y (by decide), fun _ => ⟨fun y => absurd y (by decide), fun _ => ⟨fun _ => w_tally cJ iL (x := 0) (by omega) (m18 _ rfl), fun y => absurd rfl y⟩⟩⟩⟩⟩⟩⟩⟩⟩⟩⟩⟩⟩⟩⟩⟩⟩⟩⟩
  exact ⟨fun y => absurd y c0, fun _ => ⟨fun y => absurd y c1, fun _ => ⟨fun y => absurd y c2, fun _ => ⟨fun y => absurd y c3, fun _ => ⟨fun y => absurd y c4, fun _ => ⟨fun y => absurd y c5, fun _ => ⟨fun y => absurd y c6, fun _ => ⟨fun y => absurd y c7, fun _ => ⟨fun y => absurd y c8, fun _ => ⟨fun y => absurd y c9, fun _ => ⟨fun y => absurd y c10, fun _ => ⟨fun y => absurd y c11, fun _ => ⟨fun y => absurd y c12, fun _ => ⟨fun y => absurd y c13, fun _ => ⟨fun y => absurd y c14, fun _ => ⟨fun y => absurd y c15, fun _ => ⟨fun y => absurd y c16, fun _ => ⟨fun y => absurd y c17, fun _ => ⟨fun y => absurd y c18, fun _ => (fun v hv => by
    rw [hv]
    exact ⟨fun y => absurd y c0, fun _ => ⟨fun y => absurd y c1, fun _ => ⟨fun y => absurd y c2, fun _ => ⟨fun y => absurd y c3, fun _ => ⟨fun y => absurd y c4, fun _ => ⟨fun y => absurd y c5, fun _ => ⟨fun y => absurd y c6, fun _ => ⟨fun y => absurd y c7, fun _ => ⟨fun y => absurd y c8, fun _ => ⟨fun y => absurd y c9, fun _ => ⟨fun y => absurd y c10, fun _ => ⟨fun y => absurd y c11, fun _ => ⟨fun y => absurd y c12, fun _ => ⟨fun y => absurd y c13, fun _ => ⟨fun y => absurd y c15, fun _ => ⟨fun y => absurd y c16, fun _ => ⟨fun y => absurd y c17, fun _ => ⟨fun y => absurd y c18, fun _ => ⟨fun y => absurd y c14, fun _ => q _⟩⟩⟩⟩⟩⟩⟩⟩⟩⟩⟩⟩⟩⟩⟩⟩⟩⟩⟩)⟩⟩⟩⟩⟩⟩⟩⟩⟩⟩⟩⟩⟩⟩⟩⟩⟩⟩⟩
end
