/-! ===== recovery: undo, both sides walk ===== -/
section
variable {m : S11} {n : Nat → Int32} {pn : Int32} {F F2 : Nat → Nat} {G G2 : Nat → Int32} {b b2 : Nat → Nat} {e f k e2 f2 c cp en : Nat} {w : S9} {P : S3} {C : S0} {R : S5} {J : S2} {U : Nat → Nat} {r : S4} {x2 : Int32}
theorem w_und {Q : Int32 → S4 → S9 → Prop} : ∀ M i F G b e cp en k w, UI F b e k (cp + en) → GZ G → LimOK x2 (cp + en) → sum9 (mzF F) ≤ M → i + M < 1000000 → CW w F G b e e → (∀ w2, CW w2 (unA x2 M F G b e cp en).2.1 (unA x2 M F G b e cp en).2.2.1 (unA x2 M F G b e cp en).2.2.2.1 (unA x2 M F G b e cp en).2.2.2.2.1 (unA x2 M F G b e cp en).2.2.2.2.1 → g9_script w2 = g9_script w → Q (if (unA x2 M F G b e cp en).1 = true then 0 else 1) (e4 r (unA x2 M F G b e cp en).2.2.2.2.2.1 (unA x2 M F G b e cp en).2.2.2.2.2.2) w2) → wp_X4_undo_52 Q (M + 1) x2 (nI i) (e4 r cp en) w := by
  intro M
  induction M with
  | zero =>
    intro i F G b e cp en k w h hG hl hM hi hC q
    have hb := h.1.1
    refine pk_le 1000000 i (fun z => by omega) (fun _ => w_fore hC.2.2.1 hb (fun t t1 t9 tn => ((h.2.2.2.2 t t1 t9).1 tn).1) ?_)
    rcases un_cases h with ⟨z, zz⟩ | ⟨t1, t9, ti, hc⟩
    · rw [z]
      exact ⟨fun _ => q w hC rfl, fun y => absurd rfl y⟩
    · exact absurd (mz_0 (F := F) (by omega) t1 t9) ti
  | succ M ih =>
    intro i F G b e cp en k w h hG hl hM hi hC q
    have hb := h.1.1
    have hr := UI_room h
    have h6 := h.2.2.2.1
    have h5 := hC.1.2.2.2.2.1
    unfold unA at q
    refine pk_le 1000000 i (fun z => by omega) (fun _ => w_fore hC.2.2.1 hb (fun t t1 t9 tn => ((h.2.2.2.2 t t1 t9).1 tn).1) ?_)
    rcases un_cases h with ⟨z, zz⟩ | ⟨t1, t9, ti, hc⟩
    · rw [if_pos z] at q
      rw [z]
      exact ⟨fun _ => q w hC rfl, fun y => absurd rfl y⟩
    · rw [if_neg (by omega)] at q
      generalize nlA F 9 1 0 = t at *
      have hct := hb (704 + 18 * t)
      refine pk_eq t 0 (fun z => by omega) (fun _ => ⟨ivp (by omega) (by omega), fun x6 hx6 => ?_⟩)
      rw [nI_clamp (by omega), (hC.2.2.1 t t1 t9).2.2] at hx6
      have ew : g4_written (e4 r cp en) = nI (cp + en) := rfl
      rcases hc with hc | ⟨j, hj, hc⟩
      · rw [if_pos hc] at q
        rw [hx6, hc]
        refine ⟨fun _ => ?_, fun y => absurd rfl y⟩
        refine ⟨fun y => absurd y (by decide), fun _ => ?_⟩
        rw [ew]
        refine ⟨fun y => ?_, fun y => ?_⟩
        · rw [if_pos y.symm] at q
          exact q w hC rfl
        · rw [if_neg (fun z => y z.symm)] at q
          refine ⟨fun _ => ?_, fun z => absurd rfl z⟩
          refine w_endOne hC hb hr.1 hG t1 t9 fun w2 hC2 s2 y2 hy2 => ?_
          rw [hy2, nI_1]
          exact ih (i + 1) _ G _ _ cp (en + 1) (k + 1) w2 (UI_gone h t1 t9 ti) hG (Lim_S (c := cp + en) hl (fun z => y z.symm) (by omega)) (by have := mz_gone t1 t9 ti; omega) (by omega) hC2 fun w3 c3 s3 => q w3 c3 (s3.trans s2)
      · have h8 := wlk_8 (b := b) j
        rw [if_neg (by omega), hc] at q
        rw [hx6, hc]
        rw [hc] at hct
        have iL := h.1.2.2.2.1
        have iF := h.1.2.2.1
        have hn := nx_Sz iL hj
        have hlt := Sz_lt hn
        refine pk_eq (wlk b j) 0 (fun z => by omega) (fun _ => w_un hC.1 iL hj ?_)
        have n120 : ∀ {K : Int32 → Int32 → S4 → S9 → Prop} {x7 : Int32} {A B : Prop}, B → (wlk b j = 0 → False) → True := fun _ _ => trivial
        rcases vun_01 (rv b (wlk b j)) with cu | cu
        · rw [cu, if_neg (by omega)] at q
          rw [cu]
          refine ⟨fun _ => ⟨fun _ => pk_eq (wlk b j) 0 (fun z => by omega) (fun _ => ⟨fun _ => w_ow hC.1 iL hj ⟨ivp (by omega) (by omega), fun w2 hw2 y hy => ?_⟩, fun z => absurd rfl z⟩), fun z => absurd rfl z⟩, fun z => absurd rfl z⟩
          rw [nI_clamp (by omega)] at hw2
          rw [hy, nI_1, hw2]
          refine ih (i + 1) _ G b e cp en k _ (UI_cur h t1 t9 ti hj hc) hG hl (by
            have := mz_cur (F := F) (F2 := updN F (704 + 18 * t) (vnx (rv b (wlk b j)))) (x := 0) t1 t9 (fun u u1 u9 => ⟨by rw [uNn (by omega)], fun hu => by rw [uNn (by omega)]⟩) (by rw [uNs, hc]; omega) ti
            omega) (by omega) ?_ q
          exact CW_mk hC (fun v hv => uNn (by omega)) (fun _ _ => rfl) hC.1 (RO_cur hC.2.2.1) (RC_o hC.2.2.2.1 fun u v u1 u9 v1 v2 => uNn (by omega))
        · rw [if_pos cu] at q
          rw [cu]
          refine ⟨fun z => absurd z (by decide), fun _ => ⟨fun z => absurd z (by decide), fun _ => ?_⟩⟩
          rw [ew]
          refine ⟨fun y => ?_, fun y => ?_⟩
          · rw [if_pos y.symm] at q
            exact q w hC rfl
          · rw [if_neg (fun z => y z.symm)] at q
            refine pk_eq (wlk b j) 0 (fun z => by omega) (fun _ => ⟨fun z => absurd z (by decide), fun _ => ?_⟩)
            obtain ⟨g1, g2⟩ := UI_cmp (G := G) h h5 t1 t9 ti hj hc cu
            obtain ⟨d1, d2, d3, d4, d5⟩ := und_rd iL hj cu
            have hx := fun i (hi : i < 16 ∨ 720 ≤ i) => cmp_tx (G := G) (b := b) (e := e) (f := e) (t := t) (s := wlk b j) iF t1 t9 hi
            refine w_compensate hC.1 hC.2.1 hC.2.2.1 iF (fun s hs => St_in iL hs) hb h.1.2.1 (Nat.le_refl _) t1 t9 d2 d1 d3 g1 fun J2 P2 R2 hJ2 hP2 hR2 => w_flushAll hJ2 fun J3 hJ3 w3 hw3 r1 hr1 r2 hr2 => ?_
            have er : r2 = e4 r (cp + 1) en := by rw [hr2, hr1]; exact e4_cmp
            have ag := appB_agr (r := sealR (cmpL F b t (wlk b j))) h.2.1
            have ewk : wlk (appB b e (sealR (cmpL F b t (wlk b j)))) j = wlk b j := wlk_agr ag j (by omega)
            have hJw : isJ (g9_journal w3) (appB b e (sealR (cmpL F b t (wlk b j)))) (e + 11) (e + 11) := by rw [hw3]; exact hJ3
            have ow := w_ow hJw g2.1.2.2.2.1 (show j < k + 1 by omega) (Q := fun r_2 => vp_in (nI t) 10 ∧ ∀ u1_3 : S9, u1_3 = s9_roster w3 (s5_cursor (g9_roster w3) (upd (g5_cursor (g9_roster w3)) (nI t).toNatClampNeg r_2)) → wp_X4_undo_191 (fun x2 x4 u0 u1 => wp_X4_undo_52 Q (M + 1) x2 x4 u0 u1) Q x2 (nI i) r2 u1_3) ?_
            · rw [ewk] at ow; exact ow
            · refine ⟨ivp (by omega) (by omega), fun w4 hw4 y2 hy2 => ?_⟩
              rw [nI_clamp (by omega), ewk, rvw_agr ag hj] at hw4
              rw [hy2, nI_1, er]
              have g2' : UI (updN (cmpA (F, G, b, e, e) t (wlk b j)).1 (704 + 18 * t) (vnx (rv b (wlk b j)))) (appB b e (sealR (cmpL F b t (wlk b j)))) (e + 11) (k + 1) (cp + 1 + en) := by rw [show cp + 1 + en = cp + en + 1 by omega]; exact g2
              have hl2 := Lim_S (c := cp + en) hl (fun z => y z.symm) (by omega)
              rw [show cp + en + 1 = cp + 1 + en by omega] at hl2
              have hs4 : g9_script w4 = g9_script w := by rw [hw4, hw3]
              refine ih (i + 1) _ (fetG F G (b (wlk b j + 5) / 16)) _ _ (cp + 1) en (k + 1) w4 g2' (GZ_fet iF hG _) hl2 (by
                have := mz_cur (F := F) (F2 := updN (cmpA (F, G, b, e, e) t (wlk b j)).1 (704 + 18 * t) (vnx (rv b (wlk b j)))) (x := 0) t1 t9 (fun u u1 u9 => ⟨by rw [uNn (by omega), hx _ (by omega), if_neg (by omega)], fun hu => by rw [uNn (by omega), hx _ (by omega), if_neg (by omega)]⟩) (by rw [uNs, hc]; omega) ti
                omega) (by omega) ?_ fun w5 c5 s5 => q w5 c5 (s5.trans hs4)
              obtain ⟨cJ, cP, cR, cC, cS, cu', cm, co, cr, cc⟩ := hC
              have ho : ∀ v, v < 16 ∨ 882 ≤ v → updN (cmpA (F, G, b, e, e) t (wlk b j)).1 (704 + 18 * t) (vnx (rv b (wlk b j))) v = F v := fun v hv => by rw [uNn (by omega), hx v (by omega), if_neg (by omega)]
              have hR4 : RO (g9_roster w4) (updN (cmpA (F, G, b, e, e) t (wlk b j)).1 (704 + 18 * t) (vnx (rv b (wlk b j)))) := by
                rw [hw4, hw3]
                exact RO_cur hR2
              refine ⟨by rw [hw4]; exact hJw, ?_, hR4, ?_, ?_, ?_, ?_, ?_, ?_, ?_⟩
              · rw [hw4, hw3]
                exact RP_c hP2 (fun v hv => uNn (by omega)) (fun _ _ => rfl)
              · rw [hw4, hw3]; exact RC_cmp cC iF t1 t9
              · rw [hw4, hw3]; exact RS_c cS fun v hv => ho v (by omega)
              · rw [ho 3 (by omega), hw4, hw3]; exact cu'
              · rw [ho 2 (by omega), hw4, hw3]; exact cm
              · rw [ho 4 (by omega), hw4, hw3]; exact co
              · rw [fetG_out iF (by omega) (by omega), hw4, hw3]; exact cr
              · rw [fetG_out iF (by omega) (by omega), hw4, hw3]; exact cc
theorem x_und (hm : g11_mayWrite m = x2) {Q : S11 → Prop} : ∀ M F G b e cp en k n pn, UI F b e k (cp + en) → GZ G → LimOK x2 (cp + en) → sum9 (mzF F) ≤ M → isR n F G b e e → (∀ n2 p2, ((unA x2 M F G b e cp en).1 = true → isR n2 (crF (unA x2 M F G b e cp en).2.1) (crG (unA x2 M F G b e cp en).2.2.1) (trB (unA x2 M F G b e cp en).2.2.2.1 (unA x2 M F G b e cp en).2.2.2.2.1) (unA x2 M F G b e cp en).2.2.2.2.1 (unA x2 M F G b e cp en).2.2.2.2.1 → Q (mS (eM m ((unA x2 M F G b e cp en).2.2.2.2.2.1 + (unA x2 M F G b e cp en).2.2.2.2.2.2) (unA x2 M F G b e cp en).2.2.2.2.2.1 (unA x2 M F G b e cp en).2.2.2.2.2.2) n2 p2)) ∧ ((unA x2 M F G b e cp en).1 = false → isR n2 (unA x2 M F G b e cp en).2.1 (unA x2 M F G b e cp en).2.2.1 (unA x2 M F G b e cp en).2.2.2.1 (unA x2 M F G b e cp en).2.2.2.2.1 (unA x2 M F G b e cp en).2.2.2.2.1 → wp_X11_recovers_128 Q 1 (-1) (mS (eM m ((unA x2 M F G b e cp en).2.2.2.2.2.1 + (unA x2 M F G b e cp en).2.2.2.2.2.2) (unA x2 M F G b e cp en).2.2.2.2.2.1 (unA x2 M F G b e cp en).2.2.2.2.2.2) n2 p2))) → wp_X11_nextLoser (mS (eM m (cp + en) cp en) n pn) (fun r5 => wp_X11_recovers_128 Q (M + 1) r5 (mS (eM m (cp + en) cp en) n pn)) := by
  have mono : ∀ N v, wp_X11_recovers_128 Q 1 (-1) v → wp_X11_recovers_128 Q (N + 1) (-1) v := by
    intro N v hv
    exact ⟨hv.1, fun z => absurd rfl z⟩
  intro M
  induction M with
  | zero =>
    intro F G b e cp en k n pn h hG hl hM hR q
    have hb := h.1.1
    refine x_next hR hb (fun z => (q n pn).2 rfl hR) (fun z => ?_)
    rcases un_cases h with ⟨y, zz⟩ | ⟨t1, t9, ti, hc⟩
    · exact absurd y z
    · exact absurd (mz_0 (F := F) (by omega) t1 t9) ti
  | succ M ih =>
    intro F G b e cp en k n pn h hG hl hM hR q
    have hb := h.1.1
    have hr := UI_room h
    have h6 := h.2.2.2.1
    have h5 := hR.1.2.2.2.2.2.2.2.1
    unfold unA at q
    refine x_next hR hb (fun z => ?_) (fun z => ?_)
    · rw [if_pos z] at q
      exact mono _ _ ((q n pn).2 rfl hR)
    · rcases un_cases h with ⟨y, zz⟩ | ⟨t1, t9, ti, hc⟩
      · exact absurd y z
      · rw [if_neg z] at q
        generalize nlA F 9 1 0 = t at *
        have hct := hb (704 + 18 * t)
        refine ⟨fun y => absurd y.symm (Lim_0.resolve_right (by omega)), fun _ => ?_⟩
        have ea : (720 : Int32) + 18 * (nI t - 1) + 2 = nI (704 + 18 * t) := by rw [show (720 : Int32) + 18 * (nI t - 1) + 2 = nI (702 + 18 * t + 2) from txA t t1 2]; congr 1; omega
        unfold wp_X11_undoes
        simp only [wp_X11_txAt]
        rw [ea, nI_clamp (by omega), gmS, hR.2.1 _ (show nk (704 + 18 * t) by unfold nk; omega)]
        refine ⟨ivp (by omega) (by omega), fun x6 hx6 => ?_⟩
        rw [hx6]
        rcases hc with hc | ⟨j, hj, hc⟩
        · rw [if_pos hc] at q
          rw [hc]
          refine ⟨fun _ => ?_, fun y => absurd rfl y⟩
          refine x_ends hR hm hl hb hr.1 hG t1 t9 (fun n2 hz r2 => ⟨Or.inl rfl, fun _ => ?_, fun z => absurd rfl z⟩) (fun n2 p2 hz r2 => ⟨Or.inr rfl, fun z => absurd z (by decide), fun _ => ?_⟩)
          · rw [if_pos hz] at q
            exact (q n2 pn).1 rfl r2
          · rw [if_neg hz] at q
            exact ih _ G _ _ cp (en + 1) (k + 1) n2 p2 (UI_gone h t1 t9 ti) hG (Lim_S (c := cp + en) hl hz (by omega)) (by have := mz_gone t1 t9 ti; omega) r2 q
        · have h8 := wlk_8 (b := b) j
          rw [if_neg (by omega), hc] at q
          rw [hc]
          have iL := h.1.2.2.2.1
          have iF := h.1.2.2.1
          have hn := nx_Sz iL hj
          have hlt := Sz_lt hn
          have hE := hR.1.2.2.2.2.1
          have hjk := wlk_lt (b := b) hj
          have hke := iL.1.1
          refine pk_eq (wlk b j) 0 (fun z => by omega) (fun _ => x_un (m := mS (eM m (cp + en) cp en) n pn) hR.1 iL hj ?_)
          rcases vun_01 (rv b (wlk b j)) with cu | cu
          · rw [cu, if_neg (by omega)] at q
            rw [cu]
            refine ⟨fun _ => ?_, fun z => absurd rfl z⟩
            unfold wp_X11_undoes_57
            simp only [wp_X11_txAt]
            refine x_bh (m := mS (eM m (cp + en) cp en) n pn) hR.1 iL hj ?_
            rw [ea, nI_clamp (by omega)]
            refine ⟨ivp (by omega) (by omega), fun v hv => ⟨fun z => absurd z (by decide), fun _ => ?_⟩⟩
            rw [hv]
            exact ih _ G b e cp en k _ pn (UI_cur h t1 t9 ti hj hc) hG hl (by
              have := mz_cur (F := F) (F2 := updN F (704 + 18 * t) (vnx (rv b (wlk b j)))) (x := 0) t1 t9 (fun u u1 u9 => ⟨by rw [uNn (by omega)], fun hu => by rw [uNn (by omega)]⟩) (by rw [uNs, hc]; omega) ti
              omega) (isR_wr hR (by unfold nk; omega)) q
          · rw [if_pos cu] at q
            rw [cu]
            refine ⟨fun z => absurd z (by decide), fun _ => x_can hm hl (fun hz => ?_) (fun hz => ⟨fun z => absurd z (by decide), fun _ => ?_⟩)⟩
            · refine x_crashes hR (Nat.le_refl _) (mm := 0) (by omega) fun n2 r2 => ⟨fun _ => ⟨fun _ => ?_, fun z => absurd trivial z⟩, fun z => absurd rfl z⟩
              rw [Nat.add_zero, Nat.min_self] at r2
              rw [if_pos hz] at q
              exact (q n2 pn).1 rfl r2
            · rw [if_neg hz] at q
              obtain ⟨g1, g2⟩ := UI_cmp (G := G) h h5 t1 t9 ti hj hc cu
              obtain ⟨d1, d2, d3, d4, d5⟩ := und_rd iL hj cu
              have hx := fun i (hi : i < 16 ∨ 720 ≤ i) => cmp_tx (G := G) (b := b) (e := e) (f := e) (t := t) (s := wlk b j) iF t1 t9 hi
              refine x_stepsBack (o := true) hR iF (fun s hs => St_in iL hs) hb h.1.2.1 (Nat.le_refl _) t1 t9 d2 d1 d3 g1 fun n2 p2 r2 v hv => ?_
              rw [if_pos rfl] at r2
              have ev : v = mS (eM m (cp + en + 1) (cp + 1) en) n2 p2 := by rw [hv]; exact eM_cmp
              rw [ev]
              have ag := appB_agr (r := sealR (cmpL F b t (wlk b j))) h.2.1
              have ewk : wlk (appB b e (sealR (cmpL F b t (wlk b j)))) j = wlk b j := wlk_agr ag j (by omega)
              have g2' : UI (updN (cmpA (F, G, b, e, e) t (wlk b j)).1 (704 + 18 * t) (vnx (rv b (wlk b j)))) (appB b e (sealR (cmpL F b t (wlk b j)))) (e + 11) (k + 1) (cp + 1 + en) := by rw [show cp + 1 + en = cp + en + 1 by omega]; exact g2
              have hl2 := Lim_S (c := cp + en) hl hz (by omega)
              rw [show cp + en + 1 = cp + 1 + en by omega] at hl2
              rw [show cp + en + 1 = cp + 1 + en by omega]
              unfold wp_X11_undoes_57
              simp only [wp_X11_txAt]
              rw [← ewk]
              refine x_bh (m := mS (eM m (cp + 1 + en) (cp + 1) en) n2 p2) r2.1 g2.1.2.2.2.1 (show j < k + 1 by omega) ?_
              rw [ewk, rvw_agr ag hj, ea, nI_clamp (by omega)]
              refine ⟨ivp (by omega) (by omega), fun v2 hv2 => ⟨fun z => absurd z (by decide), fun _ => ?_⟩⟩
              rw [hv2]
              exact ih _ (fetG F G (b (wlk b j + 5) / 16)) _ _ (cp + 1) en (k + 1) _ p2 g2' (GZ_fet iF hG _) hl2 (by
                have := mz_cur (F := F) (F2 := updN (cmpA (F, G, b, e, e) t (wlk b j)).1 (704 + 18 * t) (vnx (rv b (wlk b j)))) (x := 0) t1 t9 (fun u u1 u9 => ⟨by rw [uNn (by omega), hx _ (by omega), if_neg (by omega)], fun hu => by rw [uNn (by omega), hx _ (by omega), if_neg (by omega)]⟩) (by rw [uNs, hc]; omega) ti
                omega) (isR_wr r2 (by unfold nk; omega)) q
end
