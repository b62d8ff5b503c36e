/-! ===== recovery: undo, pure ===== -/
section
variable {m : S11} {n : Nat → Int32} {pn : Int32} {F F2 : Nat → Nat} {G G2 : Nat → Int32} {b b2 : Nat → Nat} {e f k e2 f2 c cp en : Nat} {w : S9} {P : S3} {C : S0} {R : S5} {J : S2} {U : Nat → Nat} {r : S4} {x2 : Int32}
def UU (F b : Nat → Nat) (k t : Nat) : Prop := (F (702 + 18 * t) ≠ 0 → (F (702 + 18 * t) = 1 ∨ F (702 + 18 * t) = 2) ∧ ((rp b k t).1 = 1 ∨ (rp b k t).1 = 2) ∧ F (703 + 18 * t) = (rp b k t).2 ∧ Sz b k (F (704 + 18 * t)) ∧ ch b (F (704 + 18 * t)) ≤ ch b (F (703 + 18 * t))) ∧ (F (702 + 18 * t) = 0 → (rp b k t).1 = 0 ∧ F (703 + 18 * t) = 0 ∧ F (704 + 18 * t) = 0) ∧ ∀ j, 3 ≤ j → j < 18 → F (702 + 18 * t + j) = 0
def UI (F b : Nat → Nat) (e k c : Nat) : Prop := IB F b e e k ∧ wlk b k = e ∧ F 3 = 1 ∧ 6 * c ≤ e ∧ ∀ t, 1 ≤ t → t ≤ 9 → UU F b k t
theorem UI_of (h : EI F b e k c) (hn : ∀ u, 1 ≤ u → u ≤ 9 → F (702 + 18 * u) ≠ 3) : UI (curF F) b e k c := by
  obtain ⟨i1, i2, i3, i4, i5, i6⟩ := h
  have hx : txo (curF F) F := fun j hj => curF_n fun t _ _ => by omega
  refine ⟨IB_tx i1 hx (curF_b i1.1), i2, by rw [hx 3 (by omega)]; exact i5, i6, fun t t1 t9 => ?_⟩
  obtain ⟨a1, a2, a3⟩ := i3 t t1 t9
  unfold UU
  rw [curF_c t1 t9, curF_n (j := 702 + 18 * t) (fun u _ _ => by omega), curF_n (j := 703 + 18 * t) (fun u _ _ => by omega)]
  refine ⟨fun z => ?_, fun z => ⟨a3 trivial z, a2 z, a2 z⟩, fun j j1 j2 => ?_⟩
  · obtain ⟨⟨b1, b2, b3⟩, b4⟩ := a1 z
    have := hn t t1 t9
    have := (rp_Sz (b := b) k t).2.2.1
    refine ⟨by omega, by omega, b4, ?_, Nat.le_refl _⟩
    rw [b4]; exact (rp_Sz k t).1
  · rw [curF_n (fun u _ _ => by omega)]; exact i4 t j t1 t9 (by omega) j2
/-- another transaction's records leave it alone -/
theorem UU_keep {k2 t : Nat} (h : LogOK b e k) (ha : ∀ i, i < wlk b k → b2 i = b i) (hk : k ≤ k2) (hrp : rp b2 k2 t = rp b k t) (hF : ∀ j, 702 + 18 * t ≤ j → j < 720 + 18 * t → F2 j = F j) (hu : UU F b k t) : UU F2 b2 k2 t := by
  obtain ⟨u1, u2, u3⟩ := hu
  have hS : ∀ s, Sz b k s → Sz b2 k2 s := fun s hs => Sz_mono hk (hs.imp id (St_agr ha (Nat.le_refl _)).mpr)
  unfold UU
  rw [hrp, hF _ (by omega) (by omega), hF (703 + 18 * t) (by omega) (by omega), hF (704 + 18 * t) (by omega) (by omega)]
  refine ⟨fun z => ?_, u2, fun j j1 j2 => by rw [hF _ (by omega) (by omega)]; exact u3 j j1 j2⟩
  obtain ⟨c1, c2, c3, c4, c5⟩ := u1 z
  have hlast : Sz b k (F (703 + 18 * t)) := by rw [c3]; exact (rp_Sz k t).1
  exact ⟨c1, c2, c3, hS _ c4, by rw [ch_agr h ha c4, ch_agr h ha hlast]; exact c5⟩
theorem UI_room (h : UI F b e k c) : e + 6 ≤ 8600 ∧ e ≤ 8590 := by have := log_room h.1.2.2.2.1 h.2.1; omega
theorem UI_gone (h : UI F b e k c) {t : Nat} (h1 : 1 ≤ t) (h9 : t ≤ 9) (hi : F (702 + 18 * t) ≠ 0) : UI (goneF F t) (appB b e (plainR 7 t (F (703 + 18 * t)))) (e + 6) (k + 1) (c + 1) := by
  obtain ⟨i1, i2, i3, i4, i5⟩ := h
  obtain ⟨c1, c2, c3, c4, c5⟩ := (i5 t h1 h9).1 hi
  obtain ⟨g1, g2, g3⟩ := gone_step i1 i2 h1 h9 c3 (by omega)
  have o : ∀ j, ¬ (702 + 18 * t ≤ j ∧ j < 720 + 18 * t) → goneF F t j = F j := fun j hj => by unfold goneF; rw [if_neg hj]
  have z : ∀ j, 702 + 18 * t ≤ j → j < 720 + 18 * t → goneF F t j = 0 := fun j j1 j2 => by unfold goneF; rw [if_pos ⟨j1, j2⟩]
  refine ⟨IB_up g1 (by omega) (Nat.le_refl _), g2, by rw [o 3 (by omega)]; exact i3, by omega, fun u u1 u9 => ?_⟩
  by_cases d : u = t
  · subst d
    unfold UU
    rw [g3, z _ (by omega) (by omega), z _ (by omega) (by omega), z _ (by omega) (by omega)]
    exact ⟨fun y => absurd rfl y, fun _ => ⟨by simp, rfl, rfl⟩, fun j j1 j2 => z _ (by omega) (by omega)⟩
  · exact UU_keep i1.2.2.2.1 (appB_agr i2) (by omega) (by rw [g3]; simp only [if_neg d]) (fun j j1 j2 => o j (by omega)) (i5 u u1 u9)
/-- the cursor goes on -/
theorem UI_cur (h : UI F b e k c) {t j : Nat} (h1 : 1 ≤ t) (h9 : t ≤ 9) (hi : F (702 + 18 * t) ≠ 0) (hj : j < k) (hc : F (704 + 18 * t) = wlk b j) : UI (updN F (704 + 18 * t) (vnx (rv b (wlk b j)))) b e k c := by
  obtain ⟨i1, i2, i3, i4, i5⟩ := h
  obtain ⟨c1, c2, c3, c4, c5⟩ := (i5 t h1 h9).1 hi
  have iL := i1.2.2.2.1
  have hn := nx_Sz iL hj
  have hlt := Sz_lt hn
  have hjk := wlk_lt (b := b) hj
  have hE := log_room iL i2
  have hcs := ch_S iL hj
  refine ⟨IB_tx i1 (fun i hi => uNn (by omega)) (updN_b i1.1 (by omega)), i2, by rw [uNn (by omega)]; exact i3, i4, fun u u1 u9 => ?_⟩
  by_cases d : u = t
  · subst d
    unfold UU
    rw [uNs, uNn (j := 702 + 18 * u) (by omega), uNn (j := 703 + 18 * u) (by omega)]
    rw [hc] at c5
    exact ⟨fun _ => ⟨c1, c2, c3, Sz_mono (by omega) hn, by omega⟩, fun z => absurd z hi, fun v v1 v2 => by rw [uNn (by omega)]; exact (i5 u u1 u9).2.2 v v1 v2⟩
  · exact UU_keep iL (fun _ _ => rfl) (Nat.le_refl _) rfl (fun v v1 v2 => uNn (by omega)) (i5 u u1 u9)
/-- a record undone -/
theorem UI_cmp (h : UI F b e k c) (h5 : ∀ i, b i < 256) {t j : Nat} (h1 : 1 ≤ t) (h9 : t ≤ 9) (hi : F (702 + 18 * t) ≠ 0) (hj : j < k) (hc : F (704 + 18 * t) = wlk b j) (hu : vun (rv b (wlk b j)) = 1) : e + 11 ≤ 8600 ∧ UI (updN (cmpA (F, G, b, e, e) t (wlk b j)).1 (704 + 18 * t) (vnx (rv b (wlk b j)))) (appB b e (sealR (cmpL F b t (wlk b j)))) (e + 11) (k + 1) (c + 1) := by
  obtain ⟨i1, i2, i3, i4, i5⟩ := h
  obtain ⟨c1, c2, c3, c4, c5⟩ := (i5 t h1 h9).1 hi
  obtain ⟨ib, iy, iF, iL, i5', -⟩ := id i1
  rw [hc] at c5
  have hfe := fetf_le (G := G) (f := e) (p := b (wlk b j + 5) / 16) iF (fun s hs => St_in iL hs) (Nat.le_refl _)
  obtain ⟨g1, g2, g3, g4, g5, g6⟩ := cmp_IB (G := G) (f2 := e + 11) i1 i2 h1 h9 h5 c3 c2 hj hu c5 (by omega) (Nat.le_refl _)
  have hn := nx_Sz iL hj
  have hlt := Sz_lt hn
  have hjk := wlk_lt (b := b) hj
  have ag := appB_agr (r := sealR (cmpL F b t (wlk b j))) i2
  have hx := fun i (hi : i < 16 ∨ 720 ≤ i) => cmp_tx (G := G) (b := b) (e := e) (f := e) (t := t) (s := wlk b j) iF h1 h9 hi
  have hS : ∀ s, Sz b k s → Sz (appB b e (sealR (cmpL F b t (wlk b j)))) (k + 1) s := fun s hs => Sz_mono (by omega) (hs.imp id (St_agr ag (Nat.le_refl _)).mpr)
  refine ⟨g1, IB_tx g2 (fun i hi => uNn (by omega)) (updN_b g2.1 (by omega)), g3, by rw [uNn (by omega), hx 3 (by omega), if_neg (by omega)]; exact i3, by omega, fun u u1 u9 => ?_⟩
  by_cases d : u = t
  · subst d
    unfold UU
    rw [uNs, uNn (j := 702 + 18 * u) (by omega), uNn (j := 703 + 18 * u) (by omega), hx (702 + 18 * u) (by omega), hx (703 + 18 * u) (by omega), if_neg (by omega), if_pos rfl, g4]
    simp only [if_true]
    refine ⟨fun _ => ⟨c1, c2, trivial, hS _ (Sz_mono (by omega) hn), ?_⟩, fun z => absurd z hi, fun v v1 v2 => ?_⟩
    · rw [g5, ch_agr iL ag (Sz_mono (by omega) hn)]; exact Nat.le_refl _
    · rw [uNn (by omega), hx _ (by omega), if_neg (by omega)]; exact (i5 u u1 u9).2.2 v v1 v2
  · exact UU_keep iL ag (by omega) (by rw [g4]; simp only [if_neg d]) (fun v v1 v2 => by rw [uNn (by omega), hx v (by omega), if_neg (by omega)]) (i5 u u1 u9)
/-- which comes next -/
def nlA (F : Nat → Nat) : Nat → Nat → Nat → Nat
  | 0, _, a => a
  | N + 1, t, a => nlA F N (t + 1) (if F (702 + 18 * t) ≠ 0 ∧ (a = 0 ∨ F (704 + 18 * a) < F (704 + 18 * t)) then t else a)
theorem nlA_ok : ∀ N t a, N + t = 10 → 1 ≤ t → (a = 0 → ∀ u, 1 ≤ u → u < t → F (702 + 18 * u) = 0) → (a ≠ 0 → a ≤ 9 ∧ F (702 + 18 * a) ≠ 0) → (nlA F N t a = 0 → ∀ u, 1 ≤ u → u ≤ 9 → F (702 + 18 * u) = 0) ∧ (nlA F N t a ≠ 0 → nlA F N t a ≤ 9 ∧ F (702 + 18 * nlA F N t a) ≠ 0) := by
  intro N
  induction N with
  | zero => intro t a ht h1 h2 h3; exact ⟨fun z u u1 u9 => h2 z u u1 (by omega), h3⟩
  | succ N ih =>
    intro t a ht h1 h2 h3
    unfold nlA
    refine ih (t + 1) _ (by omega) (by omega) (fun z u u1 u2 => ?_) (fun z => ?_)
    · split at z
      · omega
      · rename_i cn
        by_cases d : u = t
        · subst d
          by_cases y : F (702 + 18 * u) = 0
          · exact y
          · exact absurd ⟨y, Or.inl z⟩ cn
        · exact h2 z u u1 (by omega)
    · split
      · rename_i cn; exact ⟨by omega, cn.1⟩
      · rename_i cn
        rw [if_neg cn] at z
        exact h3 z
def mzF (F : Nat → Nat) (t : Nat) : Nat := if F (702 + 18 * t) = 0 then 0 else F (704 + 18 * t) + 1
abbrev US : Type := Bool × (Nat → Nat) × (Nat → Int32) × (Nat → Nat) × Nat × Nat × Nat
def unA (x2 : Int32) : Nat → (Nat → Nat) → (Nat → Int32) → (Nat → Nat) → Nat → Nat → Nat → US
  | 0, F, G, b, e, cp, en => (false, F, G, b, e, cp, en)
  | M + 1, F, G, b, e, cp, en =>
    if nlA F 9 1 0 = 0 then (false, F, G, b, e, cp, en)
    else if F (704 + 18 * nlA F 9 1 0) = 0 then
      (if x2 = nI (cp + en) then (true, F, G, b, e, cp, en)
       else unA x2 M (goneF F (nlA F 9 1 0)) G (appB b e (plainR 7 (nlA F 9 1 0) (F (703 + 18 * nlA F 9 1 0)))) (e + 6) cp (en + 1))
    else if vun (rv b (F (704 + 18 * nlA F 9 1 0))) = 1 then
      (if x2 = nI (cp + en) then (true, F, G, b, e, cp, en)
       else unA x2 M (updN (cmpA (F, G, b, e, e) (nlA F 9 1 0) (F (704 + 18 * nlA F 9 1 0))).1 (704 + 18 * nlA F 9 1 0) (vnx (rv b (F (704 + 18 * nlA F 9 1 0))))) (fetG F G (b (F (704 + 18 * nlA F 9 1 0) + 5) / 16)) (appB b e (sealR (cmpL F b (nlA F 9 1 0) (F (704 + 18 * nlA F 9 1 0))))) (e + 11) (cp + 1) en)
    else unA x2 M (updN F (704 + 18 * nlA F 9 1 0) (vnx (rv b (F (704 + 18 * nlA F 9 1 0))))) G b e cp en
theorem mz_lt {t : Nat} (h1 : 1 ≤ t) (h9 : t ≤ 9) (ho : ∀ u, u ≠ t → 1 ≤ u → u ≤ 9 → mzF F2 u = mzF F u) (hlt : mzF F2 t < mzF F t) : sum9 (mzF F2) < sum9 (mzF F) := by
  have := sum9_pt (f := fun u => if 1 ≤ u ∧ u ≤ 9 then mzF F u else 0) (g := fun u => if 1 ≤ u ∧ u ≤ 9 then mzF F2 u else 0) h1 h9 (fun u hu => by
    by_cases d : 1 ≤ u ∧ u ≤ 9
    · simp only [if_pos d]; exact ho u hu d.1 d.2
    · simp only [if_neg d])
  simp only [if_pos (show 1 ≤ t ∧ t ≤ 9 from ⟨h1, h9⟩)] at this
  have e1 : sum9 (fun u => if 1 ≤ u ∧ u ≤ 9 then mzF F u else 0) = sum9 (mzF F) := rfl
  have e2 : sum9 (fun u => if 1 ≤ u ∧ u ≤ 9 then mzF F2 u else 0) = sum9 (mzF F2) := rfl
  omega
theorem mz_0 (h : sum9 (mzF F) = 0) {t : Nat} (h1 : 1 ≤ t) (h9 : t ≤ 9) : F (702 + 18 * t) = 0 := by
  have : mzF F t = 0 := by
    unfold sum9 at h
    have : t = 1 ∨ t = 2 ∨ t = 3 ∨ t = 4 ∨ t = 5 ∨ t = 6 ∨ t = 7 ∨ t = 8 ∨ t = 9 := by omega
    rcases this with rfl | rfl | rfl | rfl | rfl | rfl | rfl | rfl | rfl <;> omega
  unfold mzF at this
  by_cases d : F (702 + 18 * t) = 0
  · exact d
  · rw [if_neg d] at this; omega
end
