/-! ===== what holds when a record has been undone ===== -/
section
variable {F F2 : Nat → Nat} {G G2 : Nat → Int32} {b b2 : Nat → Nat} {e f k e2 f2 : Nat} {T : Nat → Nat × Nat} {Sp Sp2 : Nat → Prop} {c : Nat → Nat}
theorem fet_IFr {p : Nat} (h : IFr F Sp) (hp : p < 16) : IFr (fetF F G p) Sp := by
  have h8 := h.1.2
  have hl := lu_lt F G h.1.1
  have hu := (h.2.1 (lu F G) (by omega)).1
  unfold fetF
  split
  · exact h
  · rename_i cn
    obtain ⟨a1, a2, a3, a4⟩ := h
    have o5 : ∀ k, (k < 16 ∨ (560 ≤ k ∧ k < 720 ∧ k ≠ 562 + 20 * lu F G)) → outF F (lu F G) k = F k := fun k hk => by
      unfold outF
      split
      · rfl
      · rename_i c
        have := (a3 (lu F G) (by omega) c).1
        unfold wrF
        rw [if_neg (by omega), if_neg (by omega), if_neg (by omega)]
    have t5 : takeF (outF F (lu F G)) (lu F G) p 5 = F 5 := by
      unfold takeF
      rw [if_neg (by omega), if_neg (by omega), if_neg (by omega), if_neg (by omega)]; exact o5 5 (by omega)
    have tg : ∀ g j, g < 8 → j < 3 → g ≠ lu F G → takeF (outF F (lu F G)) (lu F G) p (560 + 20 * g + j) = F (560 + 20 * g + j) := fun g j hg hj hne => by
      unfold takeF
      rw [if_neg (by omega), if_neg (by omega), if_neg (by omega), if_neg (by omega)]; exact o5 _ (by omega)
    have tl : takeF (outF F (lu F G)) (lu F G) p (560 + 20 * lu F G) = p + 1 := by unfold takeF; rw [if_pos rfl]
    have tl2 : takeF (outF F (lu F G)) (lu F G) p (562 + 20 * lu F G) = 0 := by unfold takeF; rw [if_neg (by omega), if_neg (by omega), if_pos rfl]
    have t0 : ∀ g, g < 8 → g ≠ lu F G → takeF (outF F (lu F G)) (lu F G) p (560 + 20 * g) = F (560 + 20 * g) := fun g hg hne => tg g 0 hg (by omega) hne
    have t1 : ∀ g, g < 8 → g ≠ lu F G → takeF (outF F (lu F G)) (lu F G) p (561 + 20 * g) = F (561 + 20 * g) := fun g hg hne => by have := tg g 1 hg (by omega) hne; rwa [show 560 + 20 * g + 1 = 561 + 20 * g by omega] at this
    have t2 : ∀ g, g < 8 → g ≠ lu F G → takeF (outF F (lu F G)) (lu F G) p (562 + 20 * g) = F (562 + 20 * g) := fun g hg hne => by have := tg g 2 hg (by omega) hne; rwa [show 560 + 20 * g + 2 = 562 + 20 * g by omega] at this
    have nh : ∀ g, g < 8 → F (560 + 20 * g) ≠ p + 1 := fun g hg => by
      by_cases d : g < F 5
      · exact fo_not cn d
      · rw [(a2 g hg).2 (by omega)]; omega
    refine ⟨by rw [t5]; exact a1, fun g hg => ?_, fun g hg hz => ?_, fun g h hg hh he hn => ?_⟩
    · rw [t5]
      by_cases d : g = lu F G
      · subst d; rw [tl]; exact ⟨by omega, fun z => by omega⟩
      · rw [t0 g hg d]; exact a2 g hg
    · by_cases d : g = lu F G
      · subst d; exact absurd tl2 hz
      · rw [t2 g hg d] at hz
        rw [t0 g hg d, t1 g hg d, t2 g hg d]
        exact a3 g hg hz
    · by_cases d : g = lu F G
      · by_cases d2 : h = lu F G
        · omega
        · rw [d, tl, t0 h hh d2] at he
          exact absurd he.symm (nh h hh)
      · by_cases d2 : h = lu F G
        · rw [d2, tl, t0 g hg d] at he
          exact absurd he (nh g hg)
        · rw [t0 g hg d, t0 h hh d2] at he
          rw [t0 g hg d] at hn
          exact a4 g h hg hh he hn
theorem bec_IFr {fr a v s : Nat} (h : IFr F Sp) (hf : fr < 8) (hn : F (560 + 20 * fr) ≠ 0) (hS : ∀ x, Sp x → Sp2 x) (hs : Sp2 s) : IFr (becF F fr a v s) Sp2 := by
  obtain ⟨a1, a2, a3, a4⟩ := h
  have o : ∀ k, k < 560 → becF F fr a v s k = F k := fun k hk => becF_out hf (Or.inl hk)
  have g0 : ∀ g, becF F fr a v s (560 + 20 * g) = F (560 + 20 * g) := fun g => by
    unfold becF
    rw [if_neg (by omega), if_neg (by omega), if_neg (by omega)]
  refine ⟨by rw [o 5 (by omega)]; exact a1, fun g hg => ?_, fun g hg hz => ?_, fun g h hg hh => ?_⟩
  · rw [g0, o 5 (by omega)]; exact a2 g hg
  · rw [g0]
    by_cases d : g = fr
    · subst d
      have e1 : becF F g a v s (561 + 20 * g) = s := by unfold becF; rw [if_neg (by omega), if_pos rfl]
      have e2 : becF F g a v s (562 + 20 * g) = if F (562 + 20 * g) = 0 then s else F (562 + 20 * g) := by
        unfold becF
        rw [if_neg (by omega), if_neg (by omega)]
        simp
      rw [e1, e2]
      refine ⟨hn, ?_, hs⟩
      split
      · exact hs
      · rename_i z; exact hS _ (a3 g hg z).2.1
    · have e1 : becF F fr a v s (561 + 20 * g) = F (561 + 20 * g) := by unfold becF; rw [if_neg (by omega), if_neg (by omega), if_neg (by omega)]
      have e2 : becF F fr a v s (562 + 20 * g) = F (562 + 20 * g) := by unfold becF; rw [if_neg (by omega), if_neg (by omega), if_neg (by omega)]
      rw [e2] at hz
      rw [e1, e2]
      exact ⟨(a3 g hg hz).1, hS _ (a3 g hg hz).2.1, hS _ (a3 g hg hz).2.2⟩
  · rw [g0, g0]; exact a4 g h hg hh
theorem bec_b {fr a v s : Nat} (hb : ∀ i, F i < 65536) (hv : v < 65536) (hs : s < 65536) : ∀ i, becF F fr a v s i < 65536 := fun i => by
  unfold becF
  split
  · exact hv
  · split
    · exact hs
    · split
      · exact hs
      · exact hb i
theorem bec_y {fr a v s : Nat} (hy : byA F) (hf : fr < 8) (hv : v < 256) : byA (becF F fr a v s) := by
  refine ⟨fun k k1 k2 => ?_, fun k k1 k2 => ?_, fun g k k1 k2 => ?_, fun k k1 k2 => ?_⟩
  · rw [becF_out hf (by omega)]; exact hy.1 k k1 k2
  · rw [becF_out hf (by omega)]; exact hy.2.1 k k1 k2
  · unfold becF
    split
    · exact hv
    · rw [if_neg (by omega), if_neg (by omega)]; exact hy.2.2.1 g k k1 k2
  · rw [becF_out hf (by omega)]; exact hy.2.2.2 k k1 k2
/-- a page fetched, a record of t written and done there: what holds goes on -/
theorem do_IB {t a : Nat} {ds : List Nat} (h : IB F b e f k) (he : wlk b k = e) (h1 : 1 ≤ t) (h9 : t ≤ 9) (ha : a < 256) (h5 : ∀ i, b i < 256) (hd : ∀ i, (sealR ds).getD i 0 < 256) (hl : 5 ≤ ds.length) (hr : Leg (rp b k) (St b k) (ch b) (fun i => (sealR ds).getD i 0)) (hfull : e ≤ 3500 ∨ (sealR ds).getD 0 0 = 4 ∨ (sealR ds).getD 0 0 = 6 ∨ (sealR ds).getD 0 0 = 7) (hf1 : fetf F G b f (a / 16) ≤ f2) (hf2 : f2 ≤ e + ds.length + 1) : IB (doA (F, G, b, e, f) t a ds).1 (appB b e (sealR ds)) (e + ds.length + 1) f2 (k + 1) := by
  obtain ⟨ib, iy, iF, iL, i5, -⟩ := id h
  have hroom := log_room iL he
  have hsl := slot_lt (G := G) iF (a / 16)
  have h8 := iF.1.2
  obtain ⟨fb, fy⟩ := fetF_b (G := G) iF ib iy (show a / 16 < 16 by omega)
  have hw := slot_b (G := G) (p := a / 16) (k := a % 16) iF fy (by omega)
  have hb2 : ∀ i, appB b e (sealR ds) i < 256 := fun i => by
    unfold appB
    split
    · exact h5 i
    · exact hd _
  have hdn := dnb_lt hb2 e hw
  have lb := lastF_b (t := t) (s := e) fb (by omega)
  have lo : txo (lastF (fetF F G (a / 16)) t e) (fetF F G (a / 16)) := lastF_txo h1 h9
  have hfe := fetf_le (G := G) (p := a / 16) iF (fun s hs => St_in iL hs) i5.2
  have o : ∀ j, j < 16 → (doA (F, G, b, e, f) t a ds).1 j = F j := fun j hj => by
    show becF _ (slot F G (a / 16)) _ _ _ j = _
    rw [becF_out (by omega) (by omega), lo j (by omega), fetF_out iF (by omega)]
  have hI2 : IFr (doA (F, G, b, e, f) t a ds).1 (St (appB b e (sealR ds)) (k + 1)) := by
    refine bec_IFr (fr := slot F G (a / 16)) (Sp := St b k) (IFr_c (fet_IFr iF (by omega)) (lo 5 (by omega)) (fun k _ _ => lo k (by omega)) fun _ hs => hs) (by omega) ?_ (fun s hs => St_app he hs) (St_new he)
    have e0 := lo (560 + 20 * slot F G (a / 16)) (by omega)
    rw [slot_held] at e0
    show lastF (fetF F G (a / 16)) t e (560 + 20 * slot F G (a / 16)) ≠ 0
    omega
  have hlen := seal_len ds
  have := IB_app (r := sealR ds) (f2 := f2) h he (seal_1 (by omega)) (by omega) hr hfull (o 2 (by omega)) (o 4 (by omega)) (o 11 (by omega)) (o 12 (by omega)) (bec_b lb (Nat.lt_trans hdn (by omega)) (show e < 65536 by omega)) (bec_y (byA_c fy lo) (show slot F G (a / 16) < 8 by omega) hdn) hI2 (by omega) (by omega)
  rw [hlen] at this
  exact this
theorem leg_cmp {t s : Nat} (h1 : 1 ≤ t) (h9 : t ≤ 9) (hp : F (703 + 18 * t) = (T t).2) (hi : (T t).1 = 1 ∨ (T t).1 = 2) (hn : pr2 b (s + 3) = 0 ∨ Sp (pr2 b (s + 3))) (hc : c (pr2 b (s + 3)) + 1 ≤ c (T t).2) : Leg T Sp c (fun i => (sealR (cmpL F b t s)).getD i 0) := by
  have g : ∀ i, i < 10 → i ≠ 1 → (sealR (cmpL F b t s)).getD i 0 = (cmpL F b t s).getD i 0 := fun i hi h1 => sealR_g hi h1 (by simp [cmpL])
  have g0 : (sealR (cmpL F b t s)).getD 0 0 = 4 := g 0 (by omega) (by omega)
  have g1 : (sealR (cmpL F b t s)).getD 1 0 = 11 := seal_1 (by simp [cmpL])
  have g2 : (sealR (cmpL F b t s)).getD 2 0 = t := g 2 (by omega) (by omega)
  have g3 : pr2 (fun i => (sealR (cmpL F b t s)).getD i 0) 3 = F (703 + 18 * t) := pr2_ab (g 3 (by omega) (by omega)) (g 4 (by omega) (by omega))
  have g8 : pr2 (fun i => (sealR (cmpL F b t s)).getD i 0) 8 = pr2 b (s + 3) := pr2_ab (g 8 (by omega) (by omega)) (g 9 (by omega) (by omega))
  unfold Leg
  simp only [g0, g1, g2, g3, g8]
  refine ⟨⟨by omega, by omega, ?_, ?_⟩, ⟨h9, by omega, by rw [if_neg (by omega)]; exact hp⟩, fun z => by omega, fun z => by omega, fun z => by omega, fun _ => ⟨hi, hn, hc⟩, fun z => by omega, fun z => by omega, fun z => by omega⟩
  · unfold due
    simp only [g0]
    rfl
  · have := seal_chk (ds := cmpL F b t s) (by simp [cmpL])
    rw [g1] at this
    exact this
/-- a record 2, 3 of the log -/
theorem und_rd (hL : LogOK b e k) {j : Nat} (hj : j < k) (hu : vun (rv b (wlk b j)) = 1) : (b (wlk b j) = 2 ∨ b (wlk b j) = 3) ∧ wlk b j + 8 ≤ e ∧ (b (wlk b j) ≠ 2 → 1 ≤ b (wlk b j + 6)) ∧ vnx (rv b (wlk b j)) = pr2 b (wlk b j + 3) ∧ ch b (wlk b j) = 1 + ch b (pr2 b (wlk b j + 3)) := by
  obtain ⟨h6, h68, h3, h4, hv⟩ := rec_rd hL hj
  obtain ⟨o1, o2, o3, o4, o5, o6⟩ := rec_onw hL hj
  have e0 : rv b (wlk b j) 0 = b (wlk b j) := hv 0 (by omega)
  have hk : b (wlk b j) = 2 ∨ b (wlk b j) = 3 := by
    unfold vun at hu
    rw [e0] at hu
    by_cases c : b (wlk b j) = 2 ∨ b (wlk b j) = 3
    · exact c
    · rw [if_neg c] at hu; omega
  have hnx : vnx (rv b (wlk b j)) = pr2 b (wlk b j + 3) := by
    rw [← o1]; unfold onw
    rw [if_neg (by omega), if_neg (by omega)]
  refine ⟨hk, ?_, fun z => ?_, hnx, ?_⟩
  · rcases hk with z | z
    · have := o5 z; omega
    · have := o6 z; omega
  · have z3 : b (wlk b j) = 3 := by omega
    obtain ⟨k1, k2, k3⟩ := Leg_len (hL.2.1 j hj)
    have e1 : rv b (wlk b j) 1 = b (wlk b j + 1) := hv 1 (by omega)
    rw [e0, e1] at k2
    have := k2 (by omega)
    rw [if_neg (by omega), if_pos z3] at this
    have q := (hL.2.1 j hj).2.2.2.2.1 (by rw [e0]; exact z3)
    rwa [hv 6 (by omega)] at q
  · rw [ch_S hL hj, hu, hnx]
/-- what a record 4 leaves -/
theorem cmp_IB {t j : Nat} (h : IB F b e f k) (he : wlk b k = e) (h1 : 1 ≤ t) (h9 : t ≤ 9) (h5 : ∀ i, b i < 256) (hp : F (703 + 18 * t) = (rp b k t).2) (hi : (rp b k t).1 = 1 ∨ (rp b k t).1 = 2) (hj : j < k) (hu : vun (rv b (wlk b j)) = 1) (hc : ch b (wlk b j) ≤ ch b (F (703 + 18 * t))) (hf1 : fetf F G b f (b (wlk b j + 5) / 16) ≤ f2) (hf2 : f2 ≤ e + 11) :
    e + 11 ≤ 8600 ∧ IB (cmpA (F, G, b, e, f) t (wlk b j)).1 (appB b e (sealR (cmpL F b t (wlk b j)))) (e + 11) f2 (k + 1) ∧ wlk (appB b e (sealR (cmpL F b t (wlk b j)))) (k + 1) = e + 11 ∧ rp (appB b e (sealR (cmpL F b t (wlk b j)))) (k + 1) = (fun u => if u = t then ((rp b k t).1, e) else rp b k u) ∧ ch (appB b e (sealR (cmpL F b t (wlk b j)))) e = ch b (vnx (rv b (wlk b j))) ∧ vnx (rv (appB b e (sealR (cmpL F b t (wlk b j)))) e) = vnx (rv b (wlk b j)) := by
  obtain ⟨ib, iy, iF, iL, i5, -⟩ := id h
  obtain ⟨q1, q2, q3, q4, q5⟩ := und_rd iL hj hu
  have hnx := nx_Sz iL hj
  rw [q4] at hnx
  have hL : Leg (rp b k) (St b k) (ch b) (fun i => (sealR (cmpL F b t (wlk b j))).getD i 0) := leg_cmp h1 h9 hp hi (Sz_mono (show j ≤ k by omega) hnx) (by rw [← hp]; omega)
  have g : ∀ i, i < 10 → i ≠ 1 → (sealR (cmpL F b t (wlk b j))).getD i 0 = (cmpL F b t (wlk b j)).getD i 0 := fun i hi h1 => sealR_g hi h1 (by simp [cmpL])
  have g0 : (sealR (cmpL F b t (wlk b j))).getD 0 0 = 4 := g 0 (by omega) (by omega)
  have g2 : (sealR (cmpL F b t (wlk b j))).getD 2 0 = t := g 2 (by omega) (by omega)
  have g8 : pr2 (fun i => (sealR (cmpL F b t (wlk b j))).getD i 0) 8 = pr2 b (wlk b j + 3) := pr2_ab (g 8 (by omega) (by omega)) (g 9 (by omega) (by omega))
  have hl11 : (sealR (cmpL F b t (wlk b j))).length = 11 := rfl
  have hA := LogOK_app iL he (r := sealR (cmpL F b t (wlk b j))) (seal_1 (by simp [cmpL])) (by omega) hL (Or.inr (Or.inl g0))
  rw [hl11] at hA
  have hroom := log_room hA.1 hA.2.1
  have hd : ∀ i, (sealR (cmpL F b t (wlk b j))).getD i 0 < 256 := fun i => by
    unfold sealR
    rw [getD_app]
    split
    · rw [getD_set1 (by simp [cmpL])]
      split
      · simp [cmpL]
      · exact cmpL_lt ib h5 h9 q3 i
    · split <;> omega
  have hv : vnx (fun i => (sealR (cmpL F b t (wlk b j))).getD i 0) = pr2 b (wlk b j + 3) := by
    unfold vnx
    simp only [g0]
    exact g8
  have hz : vun (fun i => (sealR (cmpL F b t (wlk b j))).getD i 0) = 0 := by
    unfold vun
    simp only [g0]
    rw [if_neg (by omega)]
  refine ⟨by omega, do_IB (ds := cmpL F b t (wlk b j)) h he h1 h9 (h5 _) h5 hd (by simp [cmpL]) hL (Or.inr (Or.inl g0)) hf1 hf2, hA.2.1, ?_, ?_, ?_⟩
  · rw [hA.2.2.1]
    funext u
    by_cases c : u = t
    · subst c
      rw [lrn_v (v := fun i => (sealR (cmpL F b u (wlk b j))).getD i 0) g2 h1 h9]
      simp only [g0]
      rw [if_neg (by omega), if_neg (by omega), if_neg (by omega), if_neg (by omega)]
      simp
    · rw [lrn_ne (v := fun i => (sealR (cmpL F b t (wlk b j))).getD i 0) (by simp only [g2]; exact c), if_neg c]
  · rw [hA.2.2.2, hz, hv, Nat.zero_add, q4]
  · rw [(rv_app (b := b) (e := e) (r := sealR (cmpL F b t (wlk b j))) (seal_1 (by simp [cmpL])) (by omega)).1, hv, q4]
/-- the cells of transactions when one has undone a record -/
theorem cmp_tx {t s j : Nat} (hI : IFr F Sp) (h1 : 1 ≤ t) (h9 : t ≤ 9) (hj : j < 16 ∨ 720 ≤ j) : (cmpA (F, G, b, e, f) t s).1 j = if j = 703 + 18 * t then e else F j := by
  have hsl := slot_lt (G := G) hI (b (s + 5) / 16)
  have h8 := hI.1.2
  show becF _ (slot F G (b (s + 5) / 16)) _ _ _ j = _
  rw [becF_out (by omega) (by omega)]
  by_cases c : j = 703 + 18 * t
  · rw [if_pos c, c]; exact lastF_t h1
  · rw [if_neg c, lastF_o c]; exact fetF_out hI (by omega)
end
