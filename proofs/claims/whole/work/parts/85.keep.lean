/-! ===== keep: a checkpoint begun; a page dumped, lost ===== -/
section
variable {m : S11} {n : Nat → Int32} {pn : Int32} {F F2 : Nat → Nat} {G G2 : Nat → Int32} {b b2 : Nat → Nat} {e f k e2 f2 : Nat} {w : S9} {P : S3} {C : S0}
theorem x_open {K : Int32 → Prop} (hR : isR n F G b e f) (q : K (nI (F 4))) : vp_in (4 : Int32) 10700 ∧ K (g11_now (mS m n pn) (4 : Int32).toNatClampNeg) := by
  rw [show (4 : Int32).toNatClampNeg = 4 by decide, gmS, hR.2.1 4 (by unfold nk; omega)]
  exact ⟨ivp (k := 4) (by omega) (by omega), q⟩
theorem s_keep2 (h : SW w n) (x : Int32) : OpR zb w (s11_told m 0) n (wp_X9_checkBegins w) (wp_X11_keep (mS m n pn) 2 x) := by
  obtain ⟨F, G, b, e, f, k, hC, hR, hI⟩ := h
  intro K q Q g
  have ref : K 0 w 0 (mS (s11_told m 0) n pn) := q 0 w n pn (Or.inl rfl) ⟨F, G, b, e, f, k, hC, hR, hI⟩ rfl rfl
  obtain ⟨cJ, cP, cR, cC, cS, cu, cm, co, cr, cc⟩ := hC
  obtain ⟨ib, iy, iF, iL, i5, -⟩ := id hI.1
  have ib4 := ib 4
  refine w_up cu (fun c3 => g _ _ (by first | exact Or.inl rfl | exact Or.inr rfl) <| x_keep0 hR ib (Or.inl c3) ref) (fun c3 => ?_)
  have xk : ∀ {K2 : Int32 → S11 → Prop}, wp_X11_checks (mS (s11_told m 0) n pn) (fun r v2 => zb r ∧ K2 r v2) → wp_X11_keep (mS m n pn) 2 x K2 := fun {K2} qq => x_keepU (j := 2) hR c3 (by omega) (by unfold wpK; rw [if_pos rfl]; exact qq)
  have xr : ∀ {K2 : Int32 → S11 → Prop}, (F 4 ≠ 0 ∨ ¬ e ≤ 3500) → K2 0 (mS (s11_told m 0) n pn) → wp_X11_checks (mS (s11_told m 0) n pn) (fun r v2 => zb r ∧ K2 r v2) := by
    intro K2 hz k0
    refine x_isFull hR ?_
    by_cases cf : e ≤ 3500
    · rw [if_pos cf]
      refine ⟨fun _ => ?_, fun z => absurd rfl z⟩
      rw [show (4 : Int32).toNatClampNeg = 4 by decide, gmS, hR.2.1 4 (by unfold nk; omega)]
      exact ⟨ivp (k := 4) (by omega) (by omega), pk_le (F 4) 0 (fun z => by omega) (fun _ => ⟨Or.inl rfl, k0⟩)⟩
    · rw [if_neg cf]
      exact ⟨fun z => absurd z (by decide), fun _ => ⟨Or.inl rfl, k0⟩⟩
  rw [co]
  refine pk_eq (F 4) 0 (fun z4 => w_isFull cJ ?_) (fun z4 => g _ _ (by first | exact Or.inl rfl | exact Or.inr rfl) <| xk (xr (Or.inl z4) ref))
  by_cases cf : e ≤ 3500
  · rw [if_pos cf]
    refine ⟨fun _ => ?_, fun z => absurd rfl z⟩
    have hU := UPl_of hI c3
    refine w_start (kd := 8) (wh := 0) (pv := 0) cJ (by omega) (by omega) (by omega) (by omega) fun J1 hJ1 w1 hw1 => ?_
    rw [hw1]
    refine w_seal hJ1 (by simp) (by simp) (by simp; omega) (fun i => ?_) fun J2 hJ2 w2 hw2 w3 hw3 => ?_
    · match i with
      | 0 => show 8 < 256; omega
      | 1 => show 0 < 256; omega
      | 2 => show 0 < 256; omega
      | 3 => show 0 < 256; omega
      | 4 => show 0 < 256; omega
      | i + 5 => show (0 : Nat) < 256; omega
    · refine g _ _ (by first | exact Or.inl rfl | exact Or.inr rfl) <| xk (x_isFull hR ?_)
      rw [if_pos cf]
      refine ⟨fun _ => ?_, fun z => absurd rfl z⟩
      rw [show (4 : Int32).toNatClampNeg = 4 by decide, gmS, hR.2.1 4 (by unfold nk; omega)]
      refine ⟨ivp (k := 4) (by omega) (by omega), pk_le (F 4) 0 (fun _ => ?_) (fun z => by omega)⟩
      refine x_laysPlain (kd := 8) (wh := 0) hR ib (by omega) (by omega) (by omega) fun n2 p2 r2 => ⟨ivp (k := 4) (by omega) (by omega), fun v hv => ?_⟩
      have r2 : isR n2 F G (appB b e (plainR 8 0 0)) (e + 6) f := r2
      rw [hv]
      have r3 := isR_wr (k := 4) (x := e) r2 (by unfold nk; omega)
      have hl6 : (plainR 8 0 0).length = 6 := rfl
      have hA := LogOK_app iL hU.2.1 (r := plainR 8 0 0) (by decide) (by omega) leg_8 (Or.inl cf)
      have hIB := IB_atx hI.1 hU.2.1 (r := plainR 8 0 0) (by decide) (by omega) leg_8 (Or.inl cf) (fun _ _ => rfl) ib (Nat.le_refl _) (by have := i5.2; omega)
      rw [hl6] at hIB hA
      have hrp : rp (appB b e (plainR 8 0 0)) (k + 1) = rp b k := by rw [hA.2.2.1]; exact lrn_0 (by decide)
      have hUP : UPl (updN F 4 e) (appB b e (plainR 8 0 0)) (e + 6) (k + 1) (fun _ => 65536) := ⟨by rw [uNn (by omega)]; exact c3, hA.2.1, fun u h1 h9 => UT_keep iL (appB_agr hU.2.1) (by omega) (by rw [hrp]) (fun j j1 j2 => uNn (by omega)) (hU.2.2 u h1 h9)⟩
      refine ⟨Or.inr rfl, q 1 w3 (upd n2 4 (nI e)) p2 (Or.inr rfl) ⟨updN F 4 e, G, _, e + 6, f, k + 1, ?_, r3, IB_4 hIB (Or.inr (St_new hU.2.1)) (by omega), Or.inl hUP⟩ (by rw [hw3, hw2]) (sw_7 hR r3 (uNn (by omega)))⟩
      rw [hw3, hw2]
      exact ⟨hJ2, RP_c cP (fun j hj => uNn (by omega)) (fun _ _ => rfl), RO_c cR (fun j j1 j2 => uNn (by omega)), RC_c cC (fun j j1 j2 => uNn (by omega)) (fun _ _ _ => rfl), RS_c cS (fun j hj => uNn (by omega)), by rw [uNn (by omega)]; exact cu, by rw [uNn (by omega)]; exact cm, by rw [uNs], cr, cc⟩
  · rw [if_neg cf]
    exact ⟨fun z => absurd z (by decide), fun _ => g _ _ (by first | exact Or.inl rfl | exact Or.inr rfl) <| xk (xr (Or.inr cf) ref)⟩
/-- a page dumped -/
def dmpF (F : Nat → Nat) (p : Nat) : Nat → Nat := fun k => if k = 544 + p then F (272 + p) else if 288 + 16 * p ≤ k ∧ k < 304 + 16 * p then F (16 + 16 * p + (k - (288 + 16 * p))) else F k
theorem x_dumps_go {p : Nat} (hp : p < 16) {Q : S11 → Prop} (q : ∀ n2, isR n2 (dmpF F p) G b e f → Q (mS m n2 pn)) : ∀ N i n, N + i = 16 → isR n (fun k => if 288 + 16 * p ≤ k ∧ k < 288 + 16 * p + i then F (16 + 16 * p + (k - (288 + 16 * p))) else F k) G b e f → wp_X11_dumps_2 Q (N + 1) (nI p) (nI i) (mS m n pn) := by
  intro N
  induction N with
  | zero =>
    intro i n hi h
    obtain rfl : i = 16 := by omega
    refine pk_le 16 16 (fun _ => ?_) (fun z => by omega)
    have e1 : (272 : Int32) + nI p = nI (272 + p) := nI_add 272 p
    have e2 : (544 : Int32) + nI p = nI (544 + p) := nI_add 544 p
    rw [e1, e2, nI_clamp (by omega), nI_clamp (by omega)]
    refine ⟨ivp (by omega) (by omega), ivp (by omega) (by omega), fun v hv => ?_⟩
    have g1 : n (272 + p) = nI (F (272 + p)) := by rw [h.2.1 _ (by unfold nk; omega)]; congr 1; exact if_neg (by omega)
    rw [gmS, g1] at hv
    rw [hv]
    refine q _ (isR_F (isR_wr (k := 544 + p) (x := F (272 + p)) h (by unfold nk; omega)) fun k => ?_)
    unfold dmpF updN
    by_cases c : k = 544 + p
    · rw [if_pos c, if_pos c]
    · rw [if_neg c, if_neg c, show 288 + 16 * p + 16 = 304 + 16 * p by omega]
  | succ N ih =>
    intro i n hi h
    refine pk_le 16 i (fun z => by omega) (fun _ => ?_)
    have e1 : (16 : Int32) + 16 * nI p + nI i = nI (16 + 16 * p + i) := by show nI 16 + nI 16 * nI p + nI i = _; rw [pk_mul, nI_add, nI_add]
    have e2 : (288 : Int32) + 16 * nI p + nI i = nI (288 + 16 * p + i) := by show nI 288 + nI 16 * nI p + nI i = _; rw [pk_mul, nI_add, nI_add]
    rw [e1, e2, nI_clamp (by omega), nI_clamp (by omega)]
    refine ⟨ivp (by omega) (by omega), ivp (by omega) (by omega), fun v hv y hy => ?_⟩
    have g1 : n (16 + 16 * p + i) = nI (F (16 + 16 * p + i)) := by rw [h.2.1 _ (by unfold nk; omega)]; congr 1; exact if_neg (by omega)
    rw [gmS, g1] at hv
    rw [hy, nI_1, hv]
    refine ih (i + 1) _ (by omega) (isR_F (isR_wr (k := 288 + 16 * p + i) (x := F (16 + 16 * p + i)) h (by unfold nk; omega)) fun k => ?_)
    unfold updN
    by_cases c : k = 288 + 16 * p + i
    · subst c; rw [if_pos (by omega), if_pos rfl]; congr 1; omega
    · rw [if_neg c]
      show (if 288 + 16 * p ≤ k ∧ k < 288 + 16 * p + (i + 1) then _ else _) = (if 288 + 16 * p ≤ k ∧ k < 288 + 16 * p + i then _ else _)
      by_cases d : 288 + 16 * p ≤ k ∧ k < 288 + 16 * p + i
      · rw [if_pos d, if_pos (by omega)]
      · rw [if_neg d, if_neg (by omega)]
theorem x_dumps (h : isR n F G b e f) {p : Nat} (hp : p < 16) {Q : S11 → Prop} (q : ∀ n2, isR n2 (dmpF F p) G b e f → Q (mS m n2 pn)) : wp_X11_dumps (mS m n pn) (nI p) Q := ⟨17, x_dumps_go hp q 16 0 n (by omega) (isR_F h fun k => by rw [if_neg (by omega)])⟩
theorem w_dump (h : RP P F G) {p : Nat} (hp : p < 16) {Q : S3 → Prop} (q : ∀ P2, RP P2 (dmpF F p) G → Q P2) : wp_X3_dump P (nI p) Q := by
  obtain ⟨a1, a2, a3, a4, a5, a6, a7, a8, a9, a10⟩ := h
  have e2 : nI p * 16 = nI (p * 16) := pk_mul p 16
  have e16 : (16 : Int32).toNatClampNeg = 16 := by decide
  unfold wp_X3_dump
  rw [e2, nI_clamp (by omega), nI_clamp (by omega), e16]
  refine ⟨⟨nI_pos (by omega), nI_pos (by omega), by decide, by omega, by omega⟩, fun P1 h1 => ⟨ivp hp (by omega), ivp hp (by omega), fun P2 h2 => q P2 ?_⟩⟩
  rw [h2, h1]
  have o : ∀ k, k < 288 ∨ 560 ≤ k → dmpF F p k = F k := fun k hk => by unfold dmpF; rw [if_neg (by omega), if_neg (by omega)]
  refine ⟨fun a ha => by rw [o _ (by omega)]; exact a1 a ha, fun a ha => by rw [o _ (by omega)]; exact a2 a ha, fun a ha => ?_, fun a ha => ?_, a5, by rw [o _ (by omega)]; exact a6, a7, fun g hg => by rw [o _ (by omega)]; exact a8 g hg, fun g hg => by rw [o _ (by omega)]; exact a9 g hg, fun g hg hn => ?_⟩
  · show va_cpy (g3_disk P) (g3_archive P) (p * 16) (p * 16) 16 a = _
    unfold dmpF
    rw [if_neg (by omega)]
    by_cases c : 288 + 16 * p ≤ 288 + a ∧ 288 + a < 304 + 16 * p
    · rw [if_pos c, pk_cpy_in (by omega) (by omega), a1 _ (by omega)]; congr 2; omega
    · rw [if_neg c, pk_cpy_out (by omega)]; exact a3 a ha
  · show upd (g3_archiveStamps P) p (g3_diskStamps P p) a = _
    unfold dmpF
    by_cases c : a = p
    · subst c; rw [pk_us, if_pos rfl]; exact a2 a ha
    · rw [pk_un c, if_neg (by omega), if_neg (by omega)]; exact a4 a ha
  · rw [o _ (by omega)] at hn
    refine ⟨by rw [o _ (by omega)]; exact (a10 g hg hn).1, (a10 g hg hn).2.1, fun k hk => by rw [o _ (by omega)]; exact (a10 g hg hn).2.2 k hk⟩
/-- disk and archive alone have changed -/
theorem IV_disk (hI : IV F G b e f k) (h3 : F 3 = 0) (ho : ∀ j, j < 16 ∨ 560 ≤ j → F2 j = F j) (hb : ∀ i, F2 i < 65536) (hy1 : ∀ j, 16 ≤ j → j < 272 → F2 j < 256) (hy2 : ∀ j, 288 ≤ j → j < 544 → F2 j < 256) {f2 : Nat} (hf1 : f ≤ f2) (hf2 : f2 ≤ e) {G2 : Nat → Int32} : IV F2 G2 b e f2 k := by
  have iy := hI.1.2.1
  refine ⟨IB_c hI.1 (ho _ (by omega)) (ho _ (by omega)) (ho _ (by omega)) (ho _ (by omega)) hb ⟨hy1, hy2, fun g j h1 h2 => by rw [ho _ (by omega)]; exact iy.2.2.1 g j h1 h2, fun j h1 h2 => by rw [ho _ (by omega)]; exact iy.2.2.2 j h1 h2⟩ (IFr_c hI.1.2.2.1 (ho _ (by omega)) (fun j j1 j2 => ho j (by omega)) fun _ hs => hs) hf1 hf2, Or.inl (UP_same (UPl_of hI h3) hI.1.2.2.2.1 (ho _ (by omega)) fun j j1 j2 => ho j (by omega))⟩
theorem CW_disk (hC : CW w F G b e f) (ho : ∀ j, j < 16 ∨ 560 ≤ j → F2 j = F j) (hG : ∀ j, j ≠ 10 → G2 j = G j) {P2 : S3} {J2 : S2} (hP : RP P2 F2 G2) {f2 : Nat} (hJ : isJ J2 b e f2) : CW (s9_journal (s9_pages w P2) J2) F2 G2 b e f2 := by
  obtain ⟨cJ, cP, cR, cC, cS, cu, cm, co, cr, cc⟩ := hC
  exact ⟨hJ, hP, RO_c cR (fun j j1 j2 => ho j (by omega)), RC_c cC (fun j j1 j2 => ho j (by omega)) (fun j j1 j2 => hG j (by omega)), RS_c cS (fun j hj => ho j (by omega)), by rw [ho 3 (by omega)]; exact cu, by rw [ho 2 (by omega)]; exact cm, by rw [ho 4 (by omega)]; exact co, by rw [hG 8 (by omega)]; exact cr, by rw [hG 9 (by omega)]; exact cc⟩
theorem x_kp (hR : isR n F G b e f) (h8 : F 5 ≤ 8) (ib : ∀ k, F k < 65536) {p j : Nat} (hp : p < 16) (hj : j = 4 ∨ j = 5 ∨ j = 6) {Q : Int32 → S11 → Prop} (q : (j = 4 → wp_X11_isLostPage (mS m n pn) (nI p) (fun r => (r = 0 → wp_X11_keepsPage_92 Q (nI 4) (nI p) 1 (mS m n pn)) ∧ (¬ r = 0 → wp_X11_keepsPage_92 Q (nI 4) (nI p) 0 (mS m n pn)))) ∧ (j = 5 → wp_X11_canLose (mS m n pn) (nI p) (fun r => wp_X11_keepsPage_92 Q (nI 5) (nI p) r (mS m n pn))) ∧ (j = 6 → wp_X11_isLostPage (mS m n pn) (nI p) (fun r => wp_X11_keepsPage_92 Q (nI 6) (nI p) r (mS m n pn)))) : wp_X11_keepsPage (mS m n pn) (nI j) (nI p) Q := by
  refine x_isIn1 (lo := 0) (hi := 15) rfl (by omega) (by omega) (by omega) (by omega) ⟨fun z => absurd z (by decide), fun _ => x_frameOf hR h8 hp ib (pk_eq j 1 (fun z => by omega) (fun _ => pk_eq j 4 (fun z => ?_) (fun z => pk_eq j 5 (fun z5 => ?_) (fun z5 => ?_))))⟩
  · subst z; exact q.1 rfl
  · subst z5; exact q.2.1 rfl
  · obtain rfl : j = 6 := by omega
    exact q.2.2 rfl
theorem s_keep4 (h : SW w n) (x : Int32) : OpR zb w (s11_told m 0) n (wp_X9_dumpPage w x) (wp_X11_keep (mS m n pn) 4 x) := by
  obtain ⟨F, G, b, e, f, k, hC, hR, hI⟩ := h
  intro K q Q g
  have ref : K 0 w 0 (mS (s11_told m 0) n pn) := q 0 w n pn (Or.inl rfl) ⟨F, G, b, e, f, k, hC, hR, hI⟩ rfl rfl
  have hC0 := hC
  obtain ⟨cJ, cP, cR, cC, cS, cu, cm, co, cr, cc⟩ := hC
  obtain ⟨ib, iy, iF, iL, i5, -⟩ := id hI.1
  refine w_up cu (fun c3 => g _ _ (by first | exact Or.inl rfl | exact Or.inr rfl) <| x_keep0 hR ib (Or.inl c3) ref) (fun c3 => ?_)
  have xk : ∀ {K2 : Int32 → S11 → Prop}, wp_X11_keepsPage (mS (s11_told m 0) n pn) (nI 4) x (fun r v2 => zb r ∧ K2 r v2) → wp_X11_keep (mS m n pn) 4 x K2 := fun {K2} qq => x_keepU (j := 4) hR c3 (by omega) (by unfold wpK; rw [if_neg (by omega), if_neg (by omega), if_neg (by omega)]; exact qq)
  refine w_page (fun p hp hx => ⟨fun z => absurd z (by decide), fun _ => ?_⟩) (fun hz => ⟨fun _ => g _ _ (by first | exact Or.inl rfl | exact Or.inr rfl) <| xk (x_isIn0 hz ⟨fun _ => ⟨Or.inl rfl, ref⟩, fun y => absurd rfl y⟩), fun z => absurd rfl z⟩)
  subst hx
  refine w_isLost cP (fun cl => ⟨fun z => absurd z (by decide), fun _ => ?_⟩) (fun cl => ⟨fun _ => ?_, fun z => absurd rfl z⟩)
  · exact g _ _ (by first | exact Or.inl rfl | exact Or.inr rfl) <| xk (x_kp hR iF.1.2 ib hp (Or.inl rfl) ⟨fun _ => x_isLostPage hR (fun _ => ⟨fun z => absurd z (by decide), fun _ => ⟨fun _ => ⟨Or.inl rfl, ref⟩, fun z => absurd rfl z⟩⟩) (fun z => absurd cl z), fun z => by omega, fun z => by omega⟩)
  · refine w_dump cP hp fun P2 hP2 w2 hw2 => g _ _ (by first | exact Or.inl rfl | exact Or.inr rfl) <| xk (x_kp hR iF.1.2 ib hp (Or.inl rfl) ⟨fun _ => x_isLostPage hR (fun z => absurd z cl) (fun _ => ⟨fun _ => ⟨fun z => absurd z (by decide), fun _ => ⟨fun _ => x_dumps hR hp fun n2 r2 => ?_, fun z => absurd rfl z⟩⟩, fun z => absurd rfl z⟩), fun z => by omega, fun z => by omega⟩)
    refine ⟨fun z => absurd z (by decide), fun _ => ⟨fun z => absurd z (by decide), fun _ => ⟨Or.inr rfl, ?_⟩⟩⟩
    rw [hw2]
    have ho : ∀ j, j < 16 ∨ 560 ≤ j → dmpF F p j = F j := fun j hj => by unfold dmpF; rw [if_neg (by omega), if_neg (by omega)]
    refine q 1 _ n2 pn (Or.inr rfl) ⟨dmpF F p, G, b, e, f, k, CW_disk hC0 ho (fun _ _ => rfl) hP2 cJ, r2, IV_disk hI c3 ho (fun i => ?_) (fun j j1 j2 => ?_) (fun j j1 j2 => ?_) (Nat.le_refl _) i5.2⟩ rfl (sw_7 hR r2 (ho 7 (by omega)))
    · unfold dmpF
      split
      · exact ib _
      · split
        · exact ib _
        · exact ib _
    · unfold dmpF
      rw [if_neg (by omega), if_neg (by omega)]; exact iy.1 j j1 j2
    · unfold dmpF
      rw [if_neg (by omega)]
      split
      · exact iy.1 _ (by omega) (by omega)
      · exact iy.2.1 j j1 j2
end
