/-! ===== back to a savepoint: the loop ===== -/
section
variable {m : S11} {pn : Int32} {F F2 : Nat → Nat} {G G2 : Nat → Int32} {b b2 : Nat → Nat} {e f k e2 f2 : Nat}
theorem nit_0 : ∀ i, nit b i 0 = 0 := fun i => by cases i with
  | zero => rfl
  | succ i => show (if (0 : Nat) = 0 then 0 else _) = 0; rw [if_pos rfl]
theorem nit_add : ∀ i j l, nit b (i + j) l = nit b j (nit b i l) := by
  intro i
  induction i with
  | zero => intro j l; rw [Nat.zero_add]; rfl
  | succ i ih =>
    intro j l
    rw [show i + 1 + j = (i + j) + 1 by omega]
    show (if _ then _ else _) = nit b j (if _ then _ else _)
    by_cases c : l = 0
    · rw [if_pos c, if_pos c, nit_0]
    · rw [if_neg c, if_neg c, ih]
theorem onC_t {l x y : Nat} (h : onC b l x) (h2 : onC b x y) : onC b l y := by
  obtain ⟨i, rfl⟩ := h
  obtain ⟨j, rfl⟩ := h2
  exact ⟨i + j, nit_add i j l⟩
def gbA (t to : Nat) : Nat → AS → Nat → Nat → AS × Nat
  | 0, A, _, u => (A, u)
  | N + 1, A, c, u => if c ≤ to then (A, u) else if vun (rv A.2.2.1 c) = 1 then gbA t to N (cmpA A t c) (vnx (rv A.2.2.1 c)) (u + 1) else gbA t to N A (vnx (rv A.2.2.1 c)) u
def GI (F : Nat → Nat) (b : Nat → Nat) (e f k t to c : Nat) : Prop :=
  IB F b e f k ∧ F 3 = 0 ∧ wlk b k = e ∧ (∀ u, 1 ≤ u → u ≤ 9 → u ≠ t → UT F b k 65536 u) ∧
  (F (702 + 18 * t) = 1 ∧ F (702 + 18 * t) = (rp b k t).1 ∧ F (703 + 18 * t) = (rp b k t).2 ∧ F (705 + 18 * t) ≤ 8 ∧ F (706 + 18 * t) ≤ 4 ∧ ∀ i j, i ≤ j → j < F (706 + 18 * t) → F (715 + 18 * t + i) ≤ F (715 + 18 * t + j)) ∧
  Sz b k c ∧ ch b c ≤ ch b (F (703 + 18 * t)) ∧ onC b (F (703 + 18 * t)) c ∧ ∀ i, i < F (706 + 18 * t) → F (715 + 18 * t + i) ≤ to → onC b c (F (715 + 18 * t + i))
theorem GI_0 {t to j : Nat} (h : GI F b e f k t to (wlk b j)) (hj : j < k) (hc : to < wlk b j) (hu : vun (rv b (wlk b j)) = 0) : GI F b e f k t to (vnx (rv b (wlk b j))) := by
  obtain ⟨g1, g2, g3, g4, g5, g6, g7, g8, g9⟩ := h
  have iL := g1.2.2.2.1
  have hn := nx_Sz iL hj
  have h8 := wlk_8 (b := b) j
  refine ⟨g1, g2, g3, g4, g5, Sz_mono (by omega) hn, ?_, onC_t g8 (onC_s (by omega) (onC_r _)), fun i hi hm => (onC_i (g9 i hi hm) (by omega)).2⟩
  rw [ch_S iL hj] at g7
  omega
theorem GI_1 {t to j : Nat} (h5 : ∀ i, b i < 256) (h1 : 1 ≤ t) (h9 : t ≤ 9) (h : GI F b e f k t to (wlk b j)) (hj : j < k) (hc : to < wlk b j) (hu : vun (rv b (wlk b j)) = 1) : e + 11 ≤ 8600 ∧ GI (cmpA (F, G, b, e, f) t (wlk b j)).1 (appB b e (sealR (cmpL F b t (wlk b j)))) (e + 11) (fetf F G b f (b (wlk b j + 5) / 16)) (k + 1) t to (vnx (rv b (wlk b j))) := by
  obtain ⟨g1, g2, g3, g4, ⟨p1, p2, p3, p4, p5, p6⟩, g6, g7, g8, g9⟩ := h
  obtain ⟨ib, iy, iF, iL, i5, -⟩ := id g1
  have hfe := fetf_le (G := G) (p := b (wlk b j + 5) / 16) iF (fun s hs => St_in iL hs) i5.2
  obtain ⟨q1, q2, q3, q4, q5, q6⟩ := cmp_IB (G := G) (f2 := fetf F G b f (b (wlk b j + 5) / 16)) g1 g3 h1 h9 h5 p3 (Or.inl (by omega)) hj hu g7 (Nat.le_refl _) (by omega)
  have ag := appB_agr (r := sealR (cmpL F b t (wlk b j))) g3
  have tx : ∀ i, i < 16 ∨ 720 ≤ i → (cmpA (F, G, b, e, f) t (wlk b j)).1 i = if i = 703 + 18 * t then e else F i := fun i hi => cmp_tx iF h1 h9 hi
  have hn := nx_Sz iL hj
  have h8 := wlk_8 (b := b) j
  have h8k := wlk_8 (b := b) k
  have hnk := Sz_mono (show j ≤ k by omega) hn
  have el : (cmpA (F, G, b, e, f) t (wlk b j)).1 (703 + 18 * t) = e := by rw [tx _ (by omega), if_pos rfl]
  have eo : ∀ i, 720 ≤ i → i ≠ 703 + 18 * t → (cmpA (F, G, b, e, f) t (wlk b j)).1 i = F i := fun i h1 h2 => by rw [tx _ (by omega), if_neg h2]
  refine ⟨q1, q2, by rw [tx 3 (by omega), if_neg (by omega)]; exact g2, q3, fun u hu1 hu9 hne => ?_, ⟨?_, ?_, ?_, ?_, ?_, fun i i2 hi hi2 => ?_⟩, ?_, ?_, ?_, fun i hi hm => ?_⟩
  · refine UT_keep iL ag (by omega) ?_ (fun i i1 i2 => eo i (by omega) (by omega)) (g4 u hu1 hu9 hne)
    rw [q4]; exact if_neg hne
  · rw [eo _ (by omega) (by omega)]; exact p1
  · rw [eo _ (by omega) (by omega), q4]
    show _ = (if t = t then _ else _ : Nat × Nat).1
    rw [if_pos rfl]; exact p2
  · rw [el, q4]
    show _ = (if t = t then _ else _ : Nat × Nat).2
    rw [if_pos rfl]
  · rw [eo _ (by omega) (by omega)]; exact p4
  · rw [eo _ (by omega) (by omega)]; exact p5
  · rw [eo (706 + 18 * t) (by omega) (by omega)] at hi2
    rw [eo _ (by omega) (by omega), eo _ (by omega) (by omega)]; exact p6 i i2 hi hi2
  · exact Sz_mono (show k ≤ k + 1 by omega) (hnk.imp id (St_agr ag (Nat.le_refl _)).mpr)
  · rw [el, q5, ch_agr iL ag hnk]; exact Nat.le_refl _
  · rw [el]
    refine onC_s (by omega) ?_
    rw [q6]; exact onC_r _
  · rw [eo (706 + 18 * t) (by omega) (by omega)] at hi
    rw [eo _ (by omega) (by omega)] at hm ⊢
    exact onC_agr iL ag hnk (onC_i (g9 i hi hm) (by omega)).2
theorem gbA_GI {t to : Nat} (h1 : 1 ≤ t) (h9 : t ≤ 9) : ∀ N F G b e f k c u, c ≤ N → (∀ i, b i < 256) → GI F b e f k t to c → ∃ k2 c2, c2 ≤ to ∧ GI (gbA t to N (F, G, b, e, f) c u).1.1 (gbA t to N (F, G, b, e, f) c u).1.2.2.1 (gbA t to N (F, G, b, e, f) c u).1.2.2.2.1 (gbA t to N (F, G, b, e, f) c u).1.2.2.2.2 k2 t to c2 ∧ (∀ j, j < 16 ∨ 720 ≤ j → j ≠ 703 + 18 * t → (gbA t to N (F, G, b, e, f) c u).1.1 j = F j) ∧ (∀ j, j ≠ 6 → j < 560 ∨ 720 ≤ j → (gbA t to N (F, G, b, e, f) c u).1.2.1 j = G j) := by
  intro N
  induction N with
  | zero =>
    intro F G b e f k c u hc h5 h
    exact ⟨k, c, by omega, h, fun _ _ _ => rfl, fun _ _ _ => rfl⟩
  | succ N ih =>
    intro F G b e f k c u hc h5 h
    unfold gbA
    by_cases c1 : c ≤ to
    · rw [if_pos c1]
      exact ⟨k, c, c1, h, fun _ _ _ => rfl, fun _ _ _ => rfl⟩
    · rw [if_neg c1]
      have hz := h.2.2.2.2.2.1
      have iL := h.1.2.2.2.1
      rcases hz with z | ⟨j, hj, rfl⟩
      · omega
      · have hl := Sz_lt (nx_Sz iL hj)
        show ∃ k2 c2, c2 ≤ to ∧ GI (if vun (rv b (wlk b j)) = 1 then _ else _ : AS × Nat).1.1 (if vun (rv b (wlk b j)) = 1 then _ else _ : AS × Nat).1.2.2.1 (if vun (rv b (wlk b j)) = 1 then _ else _ : AS × Nat).1.2.2.2.1 (if vun (rv b (wlk b j)) = 1 then _ else _ : AS × Nat).1.2.2.2.2 k2 t to c2 ∧ (∀ j2, j2 < 16 ∨ 720 ≤ j2 → j2 ≠ 703 + 18 * t → (if vun (rv b (wlk b j)) = 1 then _ else _ : AS × Nat).1.1 j2 = F j2) ∧ (∀ j2, j2 ≠ 6 → j2 < 560 ∨ 720 ≤ j2 → (if vun (rv b (wlk b j)) = 1 then _ else _ : AS × Nat).1.2.1 j2 = G j2)
        rcases vun_01 (rv b (wlk b j)) with hu | hu
        · rw [if_neg (by omega)]
          exact ih F G b e f k (vnx (rv b (wlk b j))) u (by omega) h5 (GI_0 h hj (by omega) hu)
        · rw [if_pos hu]
          obtain ⟨q1, q2⟩ := GI_1 (G := G) h5 h1 h9 h hj (by omega) hu
          have iF := h.1.2.2.1
          have h52 : ∀ i, appB b e (sealR (cmpL F b t (wlk b j))) i < 256 := fun i => by
            unfold appB
            split
            · exact h5 i
            · unfold sealR
              rw [getD_app]
              split
              · rw [getD_set1 (by simp [cmpL])]
                split
                · simp [cmpL]
                · exact cmpL_lt h.1.1 h5 h9 (und_rd iL hj hu).2.2.1 _
              · split <;> omega
          obtain ⟨k2, c2, r1, r2, r3, r4⟩ := ih (cmpA (F, G, b, e, f) t (wlk b j)).1 (fetG F G (b (wlk b j + 5) / 16)) (appB b e (sealR (cmpL F b t (wlk b j)))) (e + 11) (fetf F G b f (b (wlk b j + 5) / 16)) (k + 1) (vnx (rv b (wlk b j))) (u + 1) (by omega) h52 q2
          refine ⟨k2, c2, r1, r2, fun j2 j3 j4 => ?_, fun j2 j3 j4 => ?_⟩
          · exact (r3 j2 j3 j4).trans (by rw [cmp_tx iF h1 h9 j3, if_neg j4])
          · exact (r4 j2 j3 j4).trans (fetG_out iF j3 (by omega))
/-- the class's loop -/
theorem w_gb {t to : Nat} (h1 : 1 ≤ t) (h9 : t ≤ 9) (hto : to < 65536) {x2 : Int32} {Q : Int32 → S9 → Prop} : ∀ N F G b e f k c u i (w : S9), c ≤ N → GI F b e f k t to c → isJ (g9_journal w) b e f → RP (g9_pages w) F G → RO (g9_roster w) F → i + c ≤ 10000 →
    (∀ J2 P2 R2, isJ J2 (gbA t to N (F, G, b, e, f) c u).1.2.2.1 (gbA t to N (F, G, b, e, f) c u).1.2.2.2.1 (gbA t to N (F, G, b, e, f) c u).1.2.2.2.2 → RP P2 (gbA t to N (F, G, b, e, f) c u).1.1 (gbA t to N (F, G, b, e, f) c u).1.2.1 → RO R2 (gbA t to N (F, G, b, e, f) c u).1.1 → wp_X9_goBack_106 Q (nI t) x2 (nI (gbA t to N (F, G, b, e, f) c u).2) (s9_journal (s9_pages (s9_roster w R2) P2) J2)) → wp_X9_goBack_54 Q (N + 1) (nI t) x2 (nI to) (nI u) (nI c) (nI i) w := by
  intro N
  induction N with
  | zero =>
    intro F G b e f k c u i w hc h hJ hP hR hi q
    obtain rfl : c = 0 := by omega
    refine pk_le 1000000 i (fun _ => by omega) (fun _ => pk_le 0 to (fun _ => ?_) (fun z => by omega))
    exact q (g9_journal w) (g9_pages w) (g9_roster w) hJ hP hR
  | succ N ih =>
    intro F G b e f k c u i w hc h hJ hP hR hi q
    have iL := h.1.2.2.2.1
    have hlt := Sz_lt h.2.2.2.2.2.1
    have he := hJ.2.2.1
    have hwe := h.2.2.1
    unfold gbA at q
    refine pk_le 1000000 i (fun _ => by omega) (fun _ => pk_le c to (fun c1 => ?_) (fun c1 => ?_))
    · rw [if_pos c1] at q
      exact q (g9_journal w) (g9_pages w) (g9_roster w) hJ hP hR
    · rw [if_neg (by omega)] at q
      rcases h.2.2.2.2.2.1 with z | ⟨j, hj, rfl⟩
      · omega
      · have hl := Sz_lt (nx_Sz iL hj)
        refine w_un hJ iL hj ?_
        have q : ∀ (J2 : S2) (P2 : S3) (R2 : S5), isJ J2 (if vun (rv b (wlk b j)) = 1 then _ else _ : AS × Nat).1.2.2.1 (if vun (rv b (wlk b j)) = 1 then _ else _ : AS × Nat).1.2.2.2.1 (if vun (rv b (wlk b j)) = 1 then _ else _ : AS × Nat).1.2.2.2.2 → RP P2 (if vun (rv b (wlk b j)) = 1 then _ else _ : AS × Nat).1.1 (if vun (rv b (wlk b j)) = 1 then _ else _ : AS × Nat).1.2.1 → RO R2 (if vun (rv b (wlk b j)) = 1 then _ else _ : AS × Nat).1.1 → wp_X9_goBack_106 Q (nI t) x2 (nI (if vun (rv b (wlk b j)) = 1 then _ else _ : AS × Nat).2) (s9_journal (s9_pages (s9_roster w R2) P2) J2) := q
        rcases vun_01 (rv b (wlk b j)) with hu | hu
        · rw [hu] at q ⊢
          rw [if_neg (by omega)] at q
          refine ⟨fun _ => w_ow hJ iL hj fun y hy => ?_, fun z => absurd rfl z⟩
          rw [hy, nI_1]
          exact ih F G b e f k _ u (i + 1) w (by omega) (GI_0 h hj c1 hu) hJ hP hR (by omega) q
        · rw [if_pos hu] at q
          rw [hu]
          refine ⟨fun z => absurd z (by decide), fun _ => ?_⟩
          have iF := h.1.2.2.1
          obtain ⟨q1, q2⟩ := GI_1 (G := G) hJ.2.2.2.2.1 h1 h9 h hj c1 hu
          obtain ⟨d1, d2, d3, d4, d5⟩ := und_rd iL hj hu
          refine w_compensate hJ hP hR iF (fun s hs => St_in iL hs) h.1.1 h.1.2.1 h.1.2.2.2.2.1.2 h1 h9 d2 d1 d3 q1 fun J2 P2 R2 hJ2 hP2 hR2 y hy => ?_
          have ag := appB_agr (r := sealR (cmpL F b t (wlk b j))) hwe
          have ew : wlk (appB b e (sealR (cmpL F b t (wlk b j)))) j = wlk b j := wlk_agr ag j (by omega)
          have hj2 : isJ (g9_journal (s9_journal (s9_pages (s9_roster w R2) P2) J2)) (appB b e (sealR (cmpL F b t (wlk b j)))) (e + 11) (fetf F G b f (b (wlk b j + 5) / 16)) := hJ2
          have := w_ow hj2 q2.1.2.2.2.1 (show j < k + 1 by omega) (Q := fun r_4 => ∀ x6_5 : Int32, x6_5 = nI i + 1 → wp_X9_goBack_54 Q (N + 1) (nI t) x2 (nI to) y r_4 x6_5 (s9_journal (s9_pages (s9_roster w R2) P2) J2)) ?_
          · rw [ew] at this
            exact this
          · intro z hz
            rw [hz, hy, nI_1, nI_1, ew, rvw_agr ag hj]
            exact ih _ (fetG F G (b (wlk b j + 5) / 16)) _ _ _ (k + 1) _ (u + 1) (i + 1) (s9_journal (s9_pages (s9_roster w R2) P2) J2) (by omega) q2 hJ2 hP2 hR2 (by omega) q
/-- the reference's loop -/
theorem x_gb {t to s : Nat} (h1 : 1 ≤ t) (h9 : t ≤ 9) (hto : to < 65536) {Q : Int32 → S11 → Prop} : ∀ N F G b e f k c u n pn, c ≤ N → GI F b e f k t to c → isR n F G b e f → 
    (∀ n2 p2, isR n2 (gbA t to N (F, G, b, e, f) c u).1.1 (gbA t to N (F, G, b, e, f) c u).1.2.1 (gbA t to N (F, G, b, e, f) c u).1.2.2.1 (gbA t to N (F, G, b, e, f) c u).1.2.2.2.1 (gbA t to N (F, G, b, e, f) c u).1.2.2.2.2 → vp_in (nI (702 + 18 * t) + 3) 10700 ∧ ∀ v : S11, v = s11_now (mS m n2 p2) (upd (g11_now (mS m n2 p2)) (nI (702 + 18 * t) + 3).toNatClampNeg (nI s + 1)) → ∃ n_4, wp_X11_back_133 Q n_4 (nI (702 + 18 * t)) (nI to) (nI (gbA t to N (F, G, b, e, f) c u).2) v) → wp_X11_back_81 Q (N + 1) (nI t) (nI s) (nI (702 + 18 * t)) (nI to) (nI c) (nI u) (mS m n pn) := by
  intro N
  induction N with
  | zero =>
    intro F G b e f k c u n pn hc h hR q
    obtain rfl : c = 0 := by omega
    exact pk_le 0 to (fun _ => q n pn hR) (fun z => by omega)
  | succ N ih =>
    intro F G b e f k c u n pn hc h hR q
    have iL := h.1.2.2.2.1
    have hlt := Sz_lt h.2.2.2.2.2.1
    have he := hR.1.2.2.2.2.1
    have hwe := h.2.2.1
    unfold gbA at q
    refine pk_le c to (fun c1 => ?_) (fun c1 => ?_)
    · rw [if_pos c1] at q
      exact q n pn hR
    · rw [if_neg (by omega)] at q
      rcases h.2.2.2.2.2.1 with z | ⟨j, hj, rfl⟩
      · omega
      · have hl := Sz_lt (nx_Sz iL hj)
        refine x_un (m := mS m n pn) hR.1 iL hj ?_
        have q : ∀ (n2 : Nat → Int32) (p2 : Int32), isR n2 (if vun (rv b (wlk b j)) = 1 then _ else _ : AS × Nat).1.1 (if vun (rv b (wlk b j)) = 1 then _ else _ : AS × Nat).1.2.1 (if vun (rv b (wlk b j)) = 1 then _ else _ : AS × Nat).1.2.2.1 (if vun (rv b (wlk b j)) = 1 then _ else _ : AS × Nat).1.2.2.2.1 (if vun (rv b (wlk b j)) = 1 then _ else _ : AS × Nat).1.2.2.2.2 → vp_in (nI (702 + 18 * t) + 3) 10700 ∧ ∀ v : S11, v = s11_now (mS m n2 p2) (upd (g11_now (mS m n2 p2)) (nI (702 + 18 * t) + 3).toNatClampNeg (nI s + 1)) → ∃ n_4, wp_X11_back_133 Q n_4 (nI (702 + 18 * t)) (nI to) (nI (if vun (rv b (wlk b j)) = 1 then _ else _ : AS × Nat).2) v := q
        rcases vun_01 (rv b (wlk b j)) with hu | hu
        · rw [hu] at q ⊢
          rw [if_neg (by omega)] at q
          refine ⟨fun _ => x_bh (m := mS m n pn) hR.1 iL hj ?_, fun z => absurd rfl z⟩
          exact ih F G b e f k _ u n pn (by omega) (GI_0 h hj c1 hu) hR q
        · rw [if_pos hu] at q
          rw [hu]
          refine ⟨fun z => absurd z (by decide), fun _ => ?_⟩
          have iF := h.1.2.2.1
          obtain ⟨q1, q2⟩ := GI_1 (G := G) hR.1.2.2.2.2.2.2.2.1 h1 h9 h hj c1 hu
          obtain ⟨d1, d2, d3, d4, d5⟩ := und_rd iL hj hu
          refine x_stepsBack (o := false) hR iF (fun s hs => St_in iL hs) h.1.1 h.1.2.1 h.1.2.2.2.2.1.2 h1 h9 d2 d1 d3 q1 fun n2 p2 r2 y hy => ?_
          have ag := appB_agr (r := sealR (cmpL F b t (wlk b j))) hwe
          have ew : wlk (appB b e (sealR (cmpL F b t (wlk b j)))) j = wlk b j := wlk_agr ag j (by omega)
          have := x_bh (m := mS m n2 p2) r2.1 q2.1.2.2.2.1 (show j < k + 1 by omega) (Q := fun r_2 => wp_X11_back_81 Q (N + 1) (nI t) (nI s) (nI (702 + 18 * t)) (nI to) r_2 y (mS m n2 p2)) ?_
          · rw [ew] at this
            exact this
          · rw [hy, nI_1, ew, rvw_agr ag hj]
            exact ih _ (fetG F G (b (wlk b j + 5) / 16)) _ _ _ (k + 1) _ (u + 1) n2 p2 (by omega) q2 r2 q
end
