/-! ===== write and add ===== -/
section
variable {m : S11} {n : Nat → Int32} {pn : Int32} {F F2 : Nat → Nat} {G G2 : Nat → Int32} {b b2 : Nat → Nat} {e f k e2 f2 : Nat} {w : S9} {T : Nat → Nat × Nat} {Sp : Nat → Prop} {c : Nat → Nat}
def lostP (G : Nat → Int32) (p : Nat) : Prop := ((G 10 >>> (nI p &&& 31)) &&& 1) = 1
theorem w_isLost {P : S3} (h : RP P F G) {p : Nat} {Q : Int32 → Prop} (q1 : lostP G p → Q 1) (q0 : ¬ lostP G p → Q 0) : wp_X3_isLost P (nI p) Q := by
  unfold wp_X3_isLost
  rw [h.2.2.2.2.1]
  exact ⟨q1, q0⟩
theorem x_isLostPage (h : isR n F G b e f) {p : Nat} {Q : Int32 → Prop} (q1 : lostP G p → Q 1) (q0 : ¬ lostP G p → Q 0) : wp_X11_isLostPage (mS m n pn) (nI p) Q := by
  refine ⟨ivp (k := 10) (by omega) (by omega), ?_⟩
  rw [show (10 : Int32).toNatClampNeg = 10 by decide, gmS, h.2.2.1 10 (by unfold gk; omega)]
  exact ⟨fun z => ⟨Or.inr rfl, q1 z⟩, fun z => ⟨Or.inl rfl, q0 z⟩⟩
/-- the record of a change; kind 2 tells what was -/
def chgL (kd t pv a was v : Nat) : List Nat := if kd = 2 then [2, 0, t, pv / 256, pv % 256, a, was, v] else [3, 0, t, pv / 256, pv % 256, a, v]
theorem chgL_lt {kd t pv a was v : Nat} (ht : t ≤ 9) (hp : pv < 65536) (ha : a < 256) (hw : was < 256) (hv : v < 256) : ∀ k, (chgL kd t pv a was v).getD k 0 < 256 := by
  intro k
  unfold chgL
  split
  · match k with
    | 0 => show 2 < 256; omega
    | 1 => show 0 < 256; omega
    | 2 => show t < 256; omega
    | 3 => show pv / 256 < 256; omega
    | 4 => show pv % 256 < 256; omega
    | 5 => exact ha
    | 6 => exact hw
    | 7 => exact hv
    | k + 8 => show (0 : Nat) < 256; omega
  · match k with
    | 0 => show 3 < 256; omega
    | 1 => show 0 < 256; omega
    | 2 => show t < 256; omega
    | 3 => show pv / 256 < 256; omega
    | 4 => show pv % 256 < 256; omega
    | 5 => exact ha
    | 6 => exact hv
    | k + 7 => show (0 : Nat) < 256; omega
theorem chgL_len {kd t pv a was v : Nat} : (chgL kd t pv a was v).length = if kd = 2 then 8 else 7 := by unfold chgL; split <;> rfl
theorem leg_chg {kd t pv a was v : Nat} (hk : kd = 2 ∨ kd = 3) (h1 : 1 ≤ t) (h9 : t ≤ 9) (hp : pv = (T t).2) (hi : (T t).1 = 1) (hv : kd = 3 → 1 ≤ v) : Leg T Sp c (fun i => (sealR (chgL kd t pv a was v)).getD i 0) := by
  rcases hk with rfl | rfl
  · have hd : chgL 2 t pv a was v = [2, 0, t, pv / 256, pv % 256, a, was, v] := rfl
    rw [hd]
    have g : ∀ i, i < 8 → i ≠ 1 → (sealR [2, 0, t, pv / 256, pv % 256, a, was, v]).getD i 0 = [2, 0, t, pv / 256, pv % 256, a, was, v].getD i 0 := fun i hi h1 => sealR_g hi h1 (by simp)
    have g0 : (sealR [2, 0, t, pv / 256, pv % 256, a, was, v]).getD 0 0 = 2 := g 0 (by omega) (by omega)
    have g1 : (sealR [2, 0, t, pv / 256, pv % 256, a, was, v]).getD 1 0 = 9 := seal_1 (by simp)
    have g2 : (sealR [2, 0, t, pv / 256, pv % 256, a, was, v]).getD 2 0 = t := g 2 (by omega) (by omega)
    have g3 : pr2 (fun i => (sealR [2, 0, t, pv / 256, pv % 256, a, was, v]).getD i 0) 3 = pv := pr2_ab (g 3 (by omega) (by omega)) (g 4 (by omega) (by omega))
    unfold Leg
    simp only [g0, g1, g2, g3]
    refine ⟨⟨by omega, by omega, ?_, ?_⟩, ⟨h9, by omega, by rw [if_neg (by omega)]; exact hp⟩, fun z => by omega, fun _ => hi, fun z => by omega, fun z => by omega, fun z => by omega, fun z => by omega, fun z => by omega⟩
    · unfold due
      simp only [g0]
      rfl
    · have := seal_chk (ds := [2, 0, t, pv / 256, pv % 256, a, was, v]) (by simp)
      rw [g1] at this
      exact this
  · have hd : chgL 3 t pv a was v = [3, 0, t, pv / 256, pv % 256, a, v] := rfl
    rw [hd]
    have g : ∀ i, i < 7 → i ≠ 1 → (sealR [3, 0, t, pv / 256, pv % 256, a, v]).getD i 0 = [3, 0, t, pv / 256, pv % 256, a, v].getD i 0 := fun i hi h1 => sealR_g hi h1 (by simp)
    have g0 : (sealR [3, 0, t, pv / 256, pv % 256, a, v]).getD 0 0 = 3 := g 0 (by omega) (by omega)
    have g1 : (sealR [3, 0, t, pv / 256, pv % 256, a, v]).getD 1 0 = 8 := seal_1 (by simp)
    have g2 : (sealR [3, 0, t, pv / 256, pv % 256, a, v]).getD 2 0 = t := g 2 (by omega) (by omega)
    have g6 : (sealR [3, 0, t, pv / 256, pv % 256, a, v]).getD 6 0 = v := g 6 (by omega) (by omega)
    have g3 : pr2 (fun i => (sealR [3, 0, t, pv / 256, pv % 256, a, v]).getD i 0) 3 = pv := pr2_ab (g 3 (by omega) (by omega)) (g 4 (by omega) (by omega))
    unfold Leg
    simp only [g0, g1, g2, g3, g6]
    refine ⟨⟨by omega, by omega, ?_, ?_⟩, ⟨h9, by omega, by rw [if_neg (by omega)]; exact hp⟩, fun z => by omega, fun _ => hi, fun _ => hv rfl, fun z => by omega, fun z => by omega, fun z => by omega, fun z => by omega⟩
    · unfold due
      simp only [g0]
      rfl
    · have := seal_chk (ds := [3, 0, t, pv / 256, pv % 256, a, v]) (by simp)
      rw [g1] at this
      exact this
theorem chg_g {kd t pv a was v : Nat} (hk : kd = 2 ∨ kd = 3) : (sealR (chgL kd t pv a was v)).getD 0 0 = kd ∧ (sealR (chgL kd t pv a was v)).getD 2 0 = t ∧ (sealR (chgL kd t pv a was v)).getD 5 0 = a ∧ pr2 (fun i => (sealR (chgL kd t pv a was v)).getD i 0) 3 = pv := by
  rcases hk with rfl | rfl
  · have g : ∀ i, i < 8 → i ≠ 1 → (sealR (chgL 2 t pv a was v)).getD i 0 = [2, 0, t, pv / 256, pv % 256, a, was, v].getD i 0 := fun i hi h1 => sealR_g hi h1 (by simp [chgL])
    exact ⟨g 0 (by omega) (by omega), g 2 (by omega) (by omega), g 5 (by omega) (by omega), pr2_ab (g 3 (by omega) (by omega)) (g 4 (by omega) (by omega))⟩
  · have g : ∀ i, i < 7 → i ≠ 1 → (sealR (chgL 3 t pv a was v)).getD i 0 = [3, 0, t, pv / 256, pv % 256, a, v].getD i 0 := fun i hi h1 => sealR_g hi h1 (by simp [chgL])
    exact ⟨g 0 (by omega) (by omega), g 2 (by omega) (by omega), g 5 (by omega) (by omega), pr2_ab (g 3 (by omega) (by omega)) (g 4 (by omega) (by omega))⟩
/-- what was at a, when its page has been fetched -/
def wasA (F : Nat → Nat) (G : Nat → Int32) (a : Nat) : Nat := fetF F G (a / 16) (564 + 20 * slot F G (a / 16) + a % 16)
theorem x_doesChange (h : isR n F G b e f) (hI : IFr F Sp) (hS : ∀ s, Sp s → 0 < s ∧ s + 1 < e ∧ s + b (s + 1) ≤ e) (hb : ∀ k, F k < 65536) (hy : byA F) {kd t a v : Nat} (hk : kd = 2 ∨ kd = 3) (h1 : 1 ≤ t) (h9 : t ≤ 9) (ha : a < 256) (hv : v < 256) (he : e + 9 ≤ 8600) {Q : S11 → Prop} (q : ∀ n2 p2, isR n2 (doA (F, G, b, e, f) t a (chgL kd t (F (703 + 18 * t)) a (wasA F G a) v)).1 (fetG F G (a / 16)) (appB b e (sealR (chgL kd t (F (703 + 18 * t)) a (wasA F G a) v))) (e + (chgL kd t (F (703 + 18 * t)) a (wasA F G a) v).length + 1) (fetf F G b f (a / 16)) → Q (mS m n2 p2)) : wp_X11_doesChange (mS m n pn) (nI t) (nI a) (nI v) (if kd = 2 then 0 else 1) Q := by
  have hsl := slot_lt (G := G) hI (a / 16)
  have h8 := hI.1.2
  obtain ⟨fb, fy⟩ := fetF_b (G := G) hI hb hy (show a / 16 < 16 by omega)
  have ww : wasA F G a < 256 := slot_b (G := G) (p := a / 16) (k := a % 16) hI fy (by omega)
  have hpv : prvF (fetF F G (a / 16)) t = F (703 + 18 * t) := by rw [prv_t h1, fetF_out hI (by omega)]
  have hpb := hb (703 + 18 * t)
  have hll := chgL_len (kd := kd) (t := t) (pv := F (703 + 18 * t)) (a := a) (was := wasA F G a) (v := v)
  have hl9 : (chgL kd t (F (703 + 18 * t)) a (wasA F G a) v).length ≤ 8 := by rw [hll]; split <;> omega
  obtain ⟨g0, g2, g5, g3⟩ := chg_g (kd := kd) (t := t) (pv := F (703 + 18 * t)) (a := a) (was := wasA F G a) (v := v) hk
  unfold wp_X11_doesChange
  rw [show nI a / 16 = nI (a / 16) from pk_div (d := 16) (by omega) (by decide) (by decide)]
  refine x_fetches h hI hS hb (by omega) fun n1 r1 => ?_
  have e0 : nI (560 + 20 * slot F G (a / 16)) + 4 + (nI a - nI (a / 16) * 16) = nI (564 + 20 * slot F G (a / 16) + a % 16) := by
    rw [← show nI a / 16 = nI (a / 16) from pk_div (d := 16) (by omega) (by decide) (by decide), show nI a - nI a / 16 * 16 = nI (a % 16) from pk_rem (d := 16) (by omega) (by decide) (by decide)]
    show _ + nI 4 + _ = _
    rw [nI_add, nI_add]; congr 1; omega
  rw [e0]
  refine ⟨ivp (by omega) (by omega), fun x hx => ?_⟩
  rw [nI_clamp (by omega), gmS, r1.2.1 _ (by unfold nk; omega)] at hx
  have hx : x = nI (wasA F G a) := hx
  rw [hx]
  -- the tail
  have tl : ∀ ds2 : List Nat, ds2 ++ [v] = (chgL kd t (F (703 + 18 * t)) a (wasA F G a) v).set 1 ((chgL kd t (F (703 + 18 * t)) a (wasA F G a) v).length + 1) → e + ds2.length < 9020 → wp_X11_doesChange_69 Q (nI t) (nI a) (nI v) (nI (560 + 20 * slot F G (a / 16))) (nI (wasA F G a)) (mS m (layL n1 e ds2) (nI (e + ds2.length))) := by
    intro ds2 hds hle
    refine x_layL (d := v) hle ?_
    rw [hds]
    refine x_closes (ds := chgL kd t (F (703 + 18 * t)) a (wasA F G a) v) r1 rfl (fun i => ?_) (by omega) h9 fun n2 p2 r2 => ?_
    · rw [getD_set1 (by rw [hll]; split <;> omega)]
      split
      · omega
      · exact chgL_lt h9 hpb ha ww hv i
    · have hb2 : ∀ k, lastF (fetF F G (a / 16)) t e k < 65536 := lastF_b fb (by omega)
      have ek : appB b e (sealR (chgL kd t (F (703 + 18 * t)) a (wasA F G a) v)) e = kd := by
        have := appB_e (b := b) (e := e) (r := sealR (chgL kd t (F (703 + 18 * t)) a (wasA F G a) v)) 0
        rw [Nat.add_zero, g0] at this
        exact this
      have hl7 : 7 ≤ (chgL kd t (F (703 + 18 * t)) a (wasA F G a) v).length := by rw [hll]; split <;> omega
      refine x_doneBy (m := mS m n2 p2) r2.1 ww (by rw [ek]; omega) (by omega) ?_
      exact x_becomes r2 hb2 (by omega) ha fun n3 r3 => q n3 p2 r3
  rcases hk with rfl | rfl
  · refine ⟨fun _ => ⟨fun _ => ?_, fun z => absurd rfl z⟩, fun z => absurd rfl z⟩
    refine x_opensF (kd := 2) (lg := 9) r1 fb h9 ?_
    rw [hpv]
    refine x_layL (d := a) (by simp; omega) ⟨fun _ => x_layL (d := wasA F G a) (by simp; omega) (tl _ rfl (by simp; omega)), fun z => absurd rfl z⟩
  · refine ⟨fun z => absurd z (by decide), fun _ => ⟨fun z => absurd z (by decide), fun _ => ?_⟩⟩
    refine x_opensF (kd := 3) (lg := 8) r1 fb h9 ?_
    rw [hpv]
    exact x_layL (d := a) (by simp; omega) ⟨fun z => absurd z (by decide), fun _ => tl _ rfl (by simp; omega)⟩
/-- what holds behind a change -/
theorem chg_IV {kd t a v : Nat} (hI : IV F G b e f k) (h3 : F 3 = 0) (h5 : ∀ i, b i < 256) (hk : kd = 2 ∨ kd = 3) (h1 : 1 ≤ t) (h9 : t ≤ 9) (hrun : F (702 + 18 * t) = 1) (ha : a < 256) (hv : v < 256) (hv1 : kd = 3 → 1 ≤ v) (cf : e ≤ 3500) : IB (doA (F, G, b, e, f) t a (chgL kd t (F (703 + 18 * t)) a (wasA F G a) v)).1 (appB b e (sealR (chgL kd t (F (703 + 18 * t)) a (wasA F G a) v))) (e + (chgL kd t (F (703 + 18 * t)) a (wasA F G a) v).length + 1) (fetf F G b f (a / 16)) (k + 1) ∧ UPl (doA (F, G, b, e, f) t a (chgL kd t (F (703 + 18 * t)) a (wasA F G a) v)).1 (appB b e (sealR (chgL kd t (F (703 + 18 * t)) a (wasA F G a) v))) (e + (chgL kd t (F (703 + 18 * t)) a (wasA F G a) v).length + 1) (k + 1) (fun _ => 65536) := by
  have hU := UPl_of hI h3
  obtain ⟨ib, iy, iF, iL, i5, -⟩ := id hI.1
  obtain ⟨u1, u2, u3, u4, u5, u6, u7, u8, u9⟩ := hU.2.2 t h1 h9
  obtain ⟨fb, fy⟩ := fetF_b (G := G) iF ib iy (show a / 16 < 16 by omega)
  have ww : wasA F G a < 256 := slot_b (G := G) (p := a / 16) (k := a % 16) iF fy (by omega)
  have hsl := slot_lt (G := G) iF (a / 16)
  have h8 := iF.1.2
  generalize hds : chgL kd t (F (703 + 18 * t)) a (wasA F G a) v = ds
  have hll := chgL_len (kd := kd) (t := t) (pv := F (703 + 18 * t)) (a := a) (was := wasA F G a) (v := v)
  obtain ⟨g0, g2, g5, g3⟩ := chg_g (kd := kd) (t := t) (pv := F (703 + 18 * t)) (a := a) (was := wasA F G a) (v := v) hk
  have hlt := chgL_lt (kd := kd) (t := t) (pv := F (703 + 18 * t)) (a := a) (was := wasA F G a) (v := v) h9 (ib _) ha ww hv
  have hL : Leg (rp b k) (St b k) (ch b) (fun i => (sealR (chgL kd t (F (703 + 18 * t)) a (wasA F G a) v)).getD i 0) := leg_chg hk h1 h9 u2 (by omega) hv1
  rw [hds] at hll g0 g2 g5 g3 hlt hL
  have hl7 : 7 ≤ ds.length ∧ ds.length ≤ 8 := by rw [hll]; split <;> omega
  have hd : ∀ i, (sealR ds).getD i 0 < 256 := fun i => by
    unfold sealR
    rw [getD_app]
    split
    · rw [getD_set1 (by omega)]
      split
      · omega
      · exact hlt i
    · split <;> omega
  have hfe := fetf_le (G := G) (p := a / 16) iF (fun s hs => St_in iL hs) i5.2
  have hIB := do_IB (G := G) (t := t) (a := a) (ds := ds) (f2 := fetf F G b f (a / 16)) hI.1 hU.2.1 h1 h9 ha h5 hd (by omega) hL (Or.inl cf) (Nat.le_refl _) (by omega)
  have hA := LogOK_app iL hU.2.1 (r := sealR ds) (seal_1 (by omega)) (by rw [seal_len]; omega) hL (Or.inl cf)
  rw [seal_len] at hA
  refine ⟨hIB, ?_⟩
  have ag := appB_agr (r := sealR ds) hU.2.1
  have tx : ∀ j, j < 16 ∨ 720 ≤ j → (doA (F, G, b, e, f) t a ds).1 j = if j = 703 + 18 * t then e else F j := fun j hj => by
    show becF _ (slot F G (a / 16)) _ _ _ j = _
    rw [becF_out (by omega) (by omega)]
    by_cases c : j = 703 + 18 * t
    · rw [if_pos c, c]; exact lastF_t h1
    · rw [if_neg c, lastF_o c]; exact fetF_out iF (by omega)
  refine UP_step (t := t) hU iL ag (by omega) (by rw [hA.2.1]; omega) (by rw [tx 3 (by omega), if_neg (by omega)]) (fun u hu => by rw [hA.2.2.1]; exact lrn_ne (v := fun i => (sealR ds).getD i 0) (by simp only [g2]; exact hu)) (fun j j1 j2 j3 => by rw [tx j (by omega), if_neg (by omega)]) (fun _ _ => ?_)
  have e1 : rp (appB b e (sealR ds)) (k + 1) t = (1, e) := by
    rw [hA.2.2.1, lrn_v (v := fun i => (sealR ds).getD i 0) g2 h1 h9]
    simp only [g0]
    rw [if_neg (by omega), if_neg (by omega), if_neg (by omega), if_neg (by omega), ← u1, hrun]
  have hlast : Sz b k (F (703 + 18 * t)) := by rw [u2]; exact (rp_Sz k t).1
  have hnx : vnx (rv (appB b e (sealR ds)) e) = F (703 + 18 * t) := by
    rw [(rv_app (b := b) (e := e) (r := sealR ds) (seal_1 (by omega)) (by rw [seal_len]; omega)).1]
    unfold vnx
    simp only [g0]
    rw [if_neg (by omega), if_neg (by omega)]
    exact g3
  have t1 : (doA (F, G, b, e, f) t a ds).1 (703 + 18 * t) = e := by rw [tx _ (by omega), if_pos rfl]
  have to : ∀ j, 720 ≤ j → j ≠ 703 + 18 * t → (doA (F, G, b, e, f) t a ds).1 j = F j := fun j h1 h2 => by rw [tx _ (by omega), if_neg h2]
  unfold UT
  rw [e1, t1, to _ (by omega) (by omega), to (704 + 18 * t) (by omega) (by omega), to (705 + 18 * t) (by omega) (by omega), to (706 + 18 * t) (by omega) (by omega), hrun]
  refine ⟨rfl, rfl, by omega, u4, u5, fun z => absurd rfl z, fun z => by omega, fun i hi hm => ?_, fun i j hij hj => ?_⟩
  · rw [to _ (by omega) (by omega)] at hm ⊢
    refine onC_s (by have := wlk_8 (b := b) k; have := hU.2.1; omega) ?_
    rw [hnx]
    exact onC_agr iL ag hlast (u8 i hi hm)
  · rw [to _ (by omega) (by omega), to _ (by omega) (by omega)]
    exact u9 i j hij hj
end
