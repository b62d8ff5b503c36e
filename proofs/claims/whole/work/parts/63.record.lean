/-! ===== a record written, on both sides ===== -/
section
variable {m : S11} {n : Nat → Int32} {pn : Int32} {F : Nat → Nat} {G : Nat → Int32} {b : Nat → Nat} {e f : Nat} {P : S3} {J : S2} {R : S5}
theorem x_chk_go {s N : Nat} {c : Nat → Nat} (hs : s + N < 9020) (hc : ∀ i, i < N → g11_now m (1680 + (s + i)) = nI (c i)) (h2 : ∀ i, c i < 256) {Q : Int32 → Prop} (q : Q (nI ((90 + sumN c 0 N) % 256))) : ∀ k i : Nat, k + i = N → wp_X11_checkOf_6 m Q (k + 1) (nI s) (nI (N + 1)) (nI (90 + sumN c 0 i)) (nI i) := by
  intro k
  induction k with
  | zero =>
    intro i hi
    obtain rfl : i = N := by omega
    have hl := sumN_le h2 0 i
    refine ⟨fun _ => ?_, fun z => absurd (by rw [nI_pred]; exact nI_le (Nat.le_refl _) (by omega)) z⟩
    rw [rem256 (by omega)]
    exact q
  | succ k ih =>
    intro i hi
    refine ⟨fun z => ?_, fun _ => ?_⟩
    · rw [nI_pred] at z
      exact absurd z (nI_ge (by omega) (by omega))
    · unfold wp_X11_logByte
      have e1 : (1680 : Int32) + (nI s + nI i) = nI (1680 + (s + i)) := by
        show nI 1680 + _ = _
        rw [nI_add, nI_add]
      rw [e1]
      refine ⟨ivp (by omega) (by omega), ?_⟩
      rw [nI_clamp (by omega), hc i (by omega)]
      intro x ex y ey
      rw [ex, ey, nI_add, nI_1]
      have e2 : 90 + sumN c 0 i + c i = 90 + sumN c 0 (i + 1) := by
        show _ = 90 + (sumN c 0 i + c (0 + i))
        rw [Nat.zero_add]; omega
      rw [e2]
      exact ih (i + 1) (by omega)
theorem x_chk {s N : Nat} {c : Nat → Nat} (hs : s + N < 9020) (hc : ∀ i, i < N → g11_now m (1680 + (s + i)) = nI (c i)) (h2 : ∀ i, c i < 256) {Q : Int32 → Prop} (q : Q (nI ((90 + sumN c 0 N) % 256))) : wp_X11_checkOf m (nI s) (nI (N + 1)) Q := ⟨N + 1, x_chk_go hs hc h2 q N 0 (by omega)⟩
/-- LAST of who is s -/
def lastF (F : Nat → Nat) (wh s : Nat) : Nat → Nat := if wh = 0 then F else updN F (703 + 18 * wh) s
theorem isR_app (h : isR n F G b e f) {r : List Nat} (hr : ∀ k, r.getD k 0 < 256) (hl : e + r.length ≤ 8600) : isR (upd (layL n e r) 0 (nI (e + r.length - 8))) F G (appB b e r) (e + r.length) f := by
  obtain ⟨⟨a0, a1, a2, a3, a4, a5, a6, a7, a8⟩, h2, h3, h4, h5⟩ := h
  refine ⟨⟨pk_us, ?_, by omega, a3, hl, a5, fun i hi => ?_, fun i => ?_, fun i hi => ?_⟩, fun j hj => ?_, fun j hj => ?_, ?_, h5⟩
  · rw [pk_un (by omega), layL_lt (by omega)]; exact a1
  · rw [pk_un (by omega)]
    unfold layL appB
    by_cases c : i < e
    · rw [if_neg (by omega), if_pos c]; exact a6 i c
    · rw [if_pos (by omega), if_neg c]; congr 2; omega
  · unfold appB
    split
    · exact a7 i
    · exact hr _
  · unfold appB
    rw [if_neg (by omega)]
    simp [List.getD, List.getElem?_eq_none (show r.length ≤ i - e by omega)]
  · have hj2 := hj
    unfold nk at hj2
    rw [pk_un (by omega), layL_lt (by omega)]; exact h2 j hj
  · have hj2 := hj
    unfold gk at hj2
    rw [pk_un (by omega), layL_lt (by omega)]; exact h3 j hj
  · rw [pk_un (by omega), layL_lt (by omega)]; exact h4
theorem x_closes (h : isR n F G b e f) {ds ds2 : List Nat} (hds : ds2 = ds.set 1 (ds.length + 1)) (hd : ∀ k, ds2.getD k 0 < 256) (hl : e + ds.length < 8600) {wh : Nat} (hw : wh ≤ 9) {Q : Int32 → S11 → Prop} (q : ∀ n2 p2, isR n2 (lastF F wh e) G (appB b e (sealR ds)) (e + ds.length + 1) f → Q (nI e) (mS m n2 p2)) : wp_X11_closes (mS m (layL n e ds2) (nI (e + ds2.length))) (nI wh) Q := by
  have hlen : ds2.length = ds.length := by rw [hds, List.length_set]
  have hm : isM (layL n e ds2) b e f := by
    obtain ⟨a0, a1, a2, a3, a4, a5, a6, a7, a8⟩ := h.1
    refine ⟨by rw [layL_lt (by omega)]; exact a0, by rw [layL_lt (by omega)]; exact a1, a2, a3, a4, a5, fun i hi => ?_, a7, a8⟩
    unfold layL
    rw [if_neg (by omega)]; exact a6 i hi
  have h8 := h.1.2.2.1
  refine x_end1 (m := mS m (layL n e ds2) (nI (e + ds2.length))) hm ?_
  have e1 : g11_laidAt (mS m (layL n e ds2) (nI (e + ds2.length))) - nI e + 1 = nI (ds2.length + 1) := by
    show nI (e + ds2.length) - nI e + 1 = _
    rw [pk_sub (by omega), nI_1]; congr 1; omega
  rw [e1]
  have hsum : sumN (fun i => ds2.getD i 0) 0 ds2.length = ds2.sum := sumN_list ds2 (fun k _ => by rw [Nat.zero_add])
  refine x_chk (c := fun i => ds2.getD i 0) (by omega) (fun i hi => ?_) hd ?_
  · show layL n e ds2 (1680 + (e + i)) = _
    unfold layL
    rw [if_pos (by omega)]; congr 2; omega
  · rw [hsum]
    refine x_layL (by omega) ?_
    have er : ds2 ++ [(90 + ds2.sum) % 256] = sealR ds := by unfold sealR; rw [← hds]
    rw [er]
    have hlr : (sealR ds).length = ds.length + 1 := by rw [← er, List.length_append, hlen]; rfl
    have hdr : ∀ k, (sealR ds).getD k 0 < 256 := fun k => by
      rw [← er, getD_app]
      split
      · exact hd k
      · split <;> omega
    have e8 : g11_laidAt (mS m (layL n e (sealR ds)) (nI (e + (sealR ds).length))) - 8 = nI (e + (sealR ds).length - 8) := pk_sub (a := e + (sealR ds).length) (b := 8) (by omega)
    refine ⟨ivp (k := 0) (by omega) (by omega), fun u hu => ?_⟩
    rw [e8] at hu
    have r1 := isR_app h hdr (by rw [hlr]; omega)
    rw [hlr] at r1 hu
    refine pk_le wh 0 (fun c => ?_) (fun c => ?_)
    · rw [hu]
      refine q _ _ ?_
      unfold lastF
      rw [if_pos (by omega)]; exact r1
    · obtain ⟨w, rfl⟩ : ∃ w, wh = w + 1 := ⟨wh - 1, by omega⟩
      have e2 : (720 : Int32) + 18 * (nI (w + 1) - 1) + 1 = nI (703 + 18 * (w + 1)) := by
        show nI 720 + nI 18 * (nI (w + 1) - 1) + nI 1 = _
        rw [nI_pred, pk_mul, nI_add, nI_add]; congr 1; omega
      show vp_in (720 + 18 * (nI (w + 1) - 1) + 1) 10700 ∧ _
      rw [e2]
      refine ⟨ivp (by omega) (by omega), fun u2 hu2 => ?_⟩
      rw [nI_clamp (by omega)] at hu2
      rw [hu2, hu]
      refine q _ _ ?_
      unfold lastF
      rw [if_neg (by omega)]
      exact isR_wr r1 (by unfold nk; omega)
/-- PREV of a record of who -/
def prvF (F : Nat → Nat) (wh : Nat) : Nat := if wh = 0 then 0 else F (703 + 18 * wh)
theorem x_opensF (h : isR n F G b e f) (hb : ∀ k, F k < 65536) {kd lg wh : Nat} (hw : wh ≤ 9) {Q : S11 → Prop} (q : Q (mS m (layL n e [kd, lg, wh, prvF F wh / 256, prvF F wh % 256]) (nI (e + 5)))) : wp_X11_opens (mS m n pn) (nI kd) (nI lg) (nI wh) Q := by
  refine x_opens h.1 hw (pv := prvF F wh) (fun c => by unfold prvF; rw [if_pos c]) (fun c => ?_) ?_ q
  · unfold prvF
    rw [if_neg c, h.2.1 _ (by unfold nk; omega)]
    congr 2; omega
  · unfold prvF
    split
    · omega
    · exact hb _
def plainR (kd wh pv : Nat) : List Nat := sealR [kd, 0, wh, pv / 256, pv % 256]
theorem x_laysPlain (h : isR n F G b e f) (hb : ∀ k, F k < 65536) (he : e + 6 ≤ 8600) {kd wh : Nat} (hk : kd < 256) (hw : wh ≤ 9) {Q : Int32 → S11 → Prop} (q : ∀ n2 p2, isR n2 (lastF F wh e) G (appB b e (plainR kd wh (prvF F wh))) (e + 6) f → Q (nI e) (mS m n2 p2)) : wp_X11_laysPlain (mS m n pn) (nI kd) (nI wh) Q := by
  have hpv : prvF F wh < 65536 := by
    unfold prvF
    split
    · omega
    · exact hb _
  refine x_opensF (lg := 6) h hb hw ?_
  refine x_closes (ds := [kd, 0, wh, prvF F wh / 256, prvF F wh % 256]) h rfl (fun k => ?_) (by simp; omega) hw q
  match k with
  | 0 => exact hk
  | 1 => show 6 < 256; omega
  | 2 => show wh < 256; omega
  | 3 => show prvF F wh / 256 < 256; omega
  | 4 => show prvF F wh % 256 < 256; omega
  | k + 5 => show (0 : Nat) < 256; omega
theorem w_finish {w : S9} {ds : List Nat} (h : isPn (g9_journal w) b e f ds) (h5 : 5 ≤ ds.length) (hn : ds.length < 255) (hl : e + ds.length < 8600) (hd : ∀ k, ds.getD k 0 < 256) {t : Nat} (ht : t ≤ 9) {Q : Int32 → S9 → Prop} (q : ∀ J2, isJ J2 (appB b e (sealR ds)) (e + ds.length + 1) f → Q (nI e) (s9_roster (s9_journal w J2) (s5_last (g9_roster w) (upd (g5_last (g9_roster w)) t (nI e))))) : wp_X9_finish w (nI t) Q := by
  refine w_seal h h5 hn hl hd fun J2 hJ2 u1 h1 => ⟨ivp (by omega) (by omega), fun u2 h2 => ?_⟩
  rw [nI_clamp (by omega)] at h2
  rw [h2, h1]
  exact q J2 hJ2
theorem RO_last (h : RO R F) {t s : Nat} (h1 : 1 ≤ t) (h9 : t ≤ 9) : RO (s5_last R (upd (g5_last R) t (nI s))) (lastF F t s) := by
  intro u hu1 hu9
  obtain ⟨c1, c2, c3⟩ := h u hu1 hu9
  unfold lastF
  rw [if_neg (by omega), uNn (j := 702 + 18 * u) (by omega), uNn (j := 704 + 18 * u) (by omega)]
  refine ⟨c1, ?_, c3⟩
  show upd (g5_last R) t (nI s) u = _
  by_cases c : u = t
  · subst c; rw [pk_us, uNs]
  · rw [pk_un c, uNn (by omega)]; exact c2
theorem w_note {w : S9} (hJ : isJ (g9_journal w) b e f) (hR : RO (g9_roster w) F) (hb : ∀ k, F k < 65536) (he : e + 6 ≤ 8600) {kd t : Nat} (hk : kd < 256) (h1 : 1 ≤ t) (h9 : t ≤ 9) {Q : Int32 → S9 → Prop} (q : ∀ J2 R2, isJ J2 (appB b e (plainR kd t (prvF F t))) (e + 6) f → RO R2 (lastF F t e) → Q (nI e) (s9_roster (s9_journal w J2) R2)) : wp_X9_note w (nI t) (nI kd) Q := by
  have hpv : F (703 + 18 * t) < 65536 := hb _
  have e1 : prvF F t = F (703 + 18 * t) := by unfold prvF; rw [if_neg (by omega)]
  rw [e1] at q
  refine ⟨ivp (by omega) (by omega), ?_⟩
  rw [nI_clamp (by omega), (hR t h1 h9).2.1]
  refine w_start hJ (by omega) hk (by omega) hpv fun J1 hJ1 u1 hu1 => ?_
  rw [hu1]
  refine w_finish (w := s9_journal w J1) hJ1 (by simp) (by simp) (by simp; omega) (fun k => ?_) h9 fun J2 hJ2 => q J2 _ hJ2 (RO_last hR h1 h9)
  match k with
  | 0 => exact hk
  | 1 => show (0 : Nat) < 256; omega
  | 2 => show t < 256; omega
  | 3 => show F (703 + 18 * t) / 256 < 256; omega
  | 4 => show F (703 + 18 * t) % 256 < 256; omega
  | k + 5 => show (0 : Nat) < 256; omega
end
