/-! ===== write and add: both sides (wip/gen/change.py) ===== -/
section
variable {m : S11} {n : Nat → Int32} {pn : Int32} {F F2 : Nat → Nat} {G G2 : Nat → Int32} {b b2 : Nat → Nat} {e f k e2 f2 : Nat} {w : S9} {Sp : Nat → Prop}
theorem bit_and {t : Nat} {x : Int32} (h1 : 1 ≤ t) (h9 : t ≤ 9) (hx : x &&& (-1023) = 0) : (x ||| (1 <<< (nI t &&& 31))) &&& (-1023) = 0 := by
  have d : ∀ y z : Int32, (x ||| y) &&& z = (x &&& z) ||| (y &&& z) := fun y z => by
    rw [← Int32.toBitVec_inj, Int32.toBitVec_and, Int32.toBitVec_or, Int32.toBitVec_or, Int32.toBitVec_and, Int32.toBitVec_and]
    exact BitVec.and_or_distrib_right
  rw [d, hx]
  have : t = 1 ∨ t = 2 ∨ t = 3 ∨ t = 4 ∨ t = 5 ∨ t = 6 ∨ t = 7 ∨ t = 8 ∨ t = 9 := by omega
  rcases this with rfl | rfl | rfl | rfl | rfl | rfl | rfl | rfl | rfl <;> decide
/-- a page that was fetched is found in its frame -/
theorem fo_fet {p : Nat} (h : IFr F Sp) (hp : p < 16) : fo (fetF F G p) p = slot F G p := by
  have hI2 := fet_IFr (G := G) h hp
  have hsl := slot_lt (G := G) h p
  have h5 : fetF F G p 5 = F 5 := fetF_out h (by omega)
  have h8 := h.1.2
  by_cases c : fo (fetF F G p) p < fetF F G p 5
  · have h1 := fo_held c
    refine hI2.2.2.2 _ _ (by omega) (by omega) ?_ (by omega)
    rw [h1, slot_held]
  · exact absurd (slot_held (F := F) (G := G) (p := p)) (fo_not c (by omega))
theorem s_write (h : SW w n) (x1 x2 x3 : Int32) : OpR zb w (s11_told m 0) n (wp_X9_change w x1 x2 x3 2) (wp_X11_write (mS m n pn) x1 x2 x3) := by
  obtain ⟨F, G, b, e, f, k, hC, hR, hI⟩ := h
  intro K q Q g
  have ref : K 0 w 0 (mS (s11_told m 0) n pn) := q 0 w n pn (Or.inl rfl) ⟨F, G, b, e, f, k, hC, hR, hI⟩ rfl rfl
  have hC0 := hC
  obtain ⟨cJ, cP, cR, cC, cS, cu, cm, co, cr, cc⟩ := hC
  obtain ⟨ib, iy, iF, iL, i5, -⟩ := id hI.1
  have ev : s11_told (mS m n pn) 0 = mS (s11_told m 0) n pn := rfl
  refine ⟨fun z => absurd z (by decide), fun _ => ?_⟩
  rcases run_cases hI x1 with ⟨t, h1, h9, rfl, hrun, c3⟩ | hno
  · have xg : ∀ {Q : Int32 → Prop}, Q 1 → wp_X11_canGo (mS (s11_told m 0) n pn) (nI t) 1 Q := fun {Q} q => x_go1 hR h1 h9 c3 hrun (by omega) q
    refine w_run1 cR h1 h9 hrun ⟨fun z => absurd z (by decide), fun _ => ⟨fun z => ?_, fun hx0 => ⟨fun z => ?_, fun hx1 => ?_⟩⟩⟩
    · refine g _ _ (by first | exact Or.inl rfl | exact Or.inr rfl) ?_
      intro v1 hv1
      rw [hv1, ev]
      exact xg ⟨fun z => absurd z (by decide), fun _ => x_isIn0 (Or.inl z) ⟨fun _ => ref, fun z => absurd rfl z⟩⟩
    · have z2 : (255 : Int32) < x2 := Int32.lt_of_lt_of_le (show (255 : Int32) < nI 256 by decide) z
      refine g _ _ (by first | exact Or.inl rfl | exact Or.inr rfl) ?_
      intro v1 hv1
      rw [hv1, ev]
      exact xg ⟨fun z => absurd z (by decide), fun _ => x_isIn0 (Or.inr z2) ⟨fun _ => ref, fun z => absurd rfl z⟩⟩
    · obtain ⟨a, ha31, rfl⟩ := nI_of hx0
      have ha : a < 256 := Nat.not_le.mp fun z => hx1 (show nI 256 ≤ nI a from nI_le z ha31)
      have xa : ∀ {Q : Int32 → Prop}, Q 1 → wp_X11_isIn (mS (s11_told m 0) n pn) (nI a) 0 255 Q := fun {Q} q => x_isIn1 (lo := 0) (hi := 255) rfl (by omega) (by omega) (by omega) (by omega) q
      refine ⟨fun z => ?_, fun hv0 => ⟨fun hv255 => ?_, fun z => ?_⟩⟩
      · refine g _ _ (by first | exact Or.inl rfl | exact Or.inr rfl) ?_
        intro v1 hv1
        rw [hv1, ev]
        exact xg ⟨fun z => absurd z (by decide), fun _ => xa ⟨fun z => absurd z (by decide), fun _ => x_isIn0 (Or.inl z) ⟨fun _ => ref, fun z => absurd rfl z⟩⟩⟩
      · have hv00 : ¬ x3 < 0 := fun z => hv0 (by first | exact z | exact Int32.lt_trans z (by decide))
        obtain ⟨v, hv31, rfl⟩ := nI_of hv00
        have hv1 : 0 ≤ v := Nat.not_lt.mp fun z => hv0 (show nI v < nI 0 from nI_lt z (by decide))
        have hv2 : v < 256 := Nat.lt_succ_of_le ((nI_leI hv31 (by omega)).mp (show nI v ≤ nI 255 from hv255))
        have xv : ∀ {Q : Int32 → Prop}, Q 1 → wp_X11_isIn (mS (s11_told m 0) n pn) (nI v) 0 255 Q := fun {Q} q => x_isIn1 (lo := 0) (hi := 255) rfl (by omega) (by omega) (by omega) (by omega) q
        refine w_isFull cJ ?_
        by_cases cf : e ≤ 3500
        · have xf : ∀ {Q : Int32 → Prop}, Q 0 → wp_X11_isFull (mS (s11_told m 0) n pn) Q := fun {Q} q => x_isFull hR (by rw [if_pos cf]; exact q)
          rw [if_pos cf]
          refine ⟨fun _ => ?_, fun z => absurd rfl z⟩
          have ed : nI a / 16 = nI (a / 16) := pk_div (d := 16) (by omega) (by decide) (by decide)
          rw [ed]
          refine w_isLost cP (fun cl => ⟨fun z => absurd z (by decide), fun _ => ?_⟩) (fun cl => ⟨fun _ => ?_, fun z => absurd rfl z⟩)
          · refine g _ _ (by first | exact Or.inl rfl | exact Or.inr rfl) ?_
            intro v1 hv1
            rw [hv1, ev]
            refine xg ⟨fun z => absurd z (by decide), fun _ => xa ⟨fun z => absurd z (by decide), fun _ => xv ⟨fun z => absurd z (by decide), fun _ => xf ⟨fun _ => ?_, fun z => absurd rfl z⟩⟩⟩⟩
            rw [ed]
            exact x_isLostPage hR (fun _ => ⟨fun z => absurd z (by decide), fun _ => ref⟩) (fun z => absurd cl z)
          · have e1 : (882 : Int32) + nI a = nI (882 + a) := nI_add 882 a
            have e2 : (1138 : Int32) + nI a = nI (1138 + a) := nI_add 1138 a
            have k1' : (nI (882 + a)).toNatClampNeg = 882 + a := nI_clamp (by omega)
            have k2' : (nI (1138 + a)).toNatClampNeg = 1138 + a := nI_clamp (by omega)
            have g1 : n (882 + a) = G (882 + a) := hR.2.2.1 _ (by unfold gk; omega)
            have g2 : n (1138 + a) = G (1138 + a) := hR.2.2.1 _ (by unfold gk; omega)
            -- the reference up to who is in the way
            have xw : ∀ {K2 : Int32 → S11 → Prop}, ((G (882 + a) ||| G (1138 + a)) &&& mskI t ≠ 0 → ∀ n2, isR n2 F (upd G (1394 + t) ((G (882 + a) ||| G (1138 + a)) &&& mskI t)) b e f → K2 0 (mS (s11_told m 0) n2 pn)) → ((G (882 + a) ||| G (1138 + a)) &&& mskI t = 0 → ∀ n2 p2, isR n2 (doA (F, G, b, e, f) t a (chgL 2 t (F (703 + 18 * t)) a (wasA F G a) v)).1 (upd (upd (fetG F G (a / 16)) (882 + a) (G (882 + a) ||| (1 <<< (nI t &&& 31)))) (1394 + t) 0) (appB b e (sealR (chgL 2 t (F (703 + 18 * t)) a (wasA F G a) v))) (e + (chgL 2 t (F (703 + 18 * t)) a (wasA F G a) v).length + 1) (fetf F G b f (a / 16)) → K2 1 (mS (s11_told m 0) n2 p2)) → wp_X11_write (mS m n pn) (nI t) (nI a) (nI v) K2 := by
              intro K2 kw k1 v1 hv1
              rw [hv1, ev]
              refine xg ⟨fun z => absurd z (by decide), fun _ => xa ⟨fun z => absurd z (by decide), fun _ => xv ⟨fun z => absurd z (by decide), fun _ => xf ⟨fun _ => ?_, fun z => absurd rfl z⟩⟩⟩⟩
              rw [ed]
              refine x_isLostPage hR (fun z => absurd z cl) (fun _ => ⟨fun _ => ?_, fun z => absurd rfl z⟩)
              simp only [e1, e2, k1', k2', gmS, g1, g2]
              refine ⟨ivp (by omega) (by omega), ivp (by omega) (by omega), ?_⟩
              intro o ho
              have ho : o = (G (882 + a) ||| G (1138 + a)) &&& mskI t := ho
              rw [ho]
              refine ⟨fun z => ?_, fun z => x_wwt hR h1 h9 fun n2 r2 => ⟨fun z2 => absurd z2 z, fun _ => ⟨fun z => absurd z (by decide), fun _ => kw z n2 r2⟩⟩⟩
              refine ⟨fun _ => ⟨fun _ => ?_, fun y => absurd rfl y⟩, fun y => absurd z y⟩
              refine x_doesChange (kd := 2) hR iF (fun s hs => St_in iL hs) ib iy (by omega) h1 h9 ha hv2 (by omega) fun n2 p2 r2 => ?_
              have g3 : n2 (882 + a) = G (882 + a) := by rw [r2.2.2.1 _ (by unfold gk; omega)]; exact fetG_out iF (by omega) (by omega)
              refine ⟨ivp (by omega) (by omega), ivp (by omega) (by omega), fun v3 hv3 => ?_⟩
              rw [gmS, g3] at hv3
              rw [hv3]
              have r3 := isR_wg (k := 882 + a) (x := G (882 + a) ||| (1 <<< (nI t &&& 31))) r2 (by unfold gk; omega) (fun y1 y2 => bit_and h1 h9 (hR.2.2.2.2 _ y1 y2))
              exact x_wwt r3 h1 h9 fun n4 r4 => k1 z n4 p2 r4
            refine ⟨fun _ => ⟨ivp ha (by omega), ivp ha (by omega), ?_⟩, fun z => absurd rfl z⟩
            rw [nI_clamp (n := a) (by omega), cC.1 a ha, cC.2.1 a ha]
            show ((G (882 + a) ||| G (1138 + a)) &&& mskI t = 0 → _) ∧ (¬ (G (882 + a) ||| G (1138 + a)) &&& mskI t = 0 → _)
            refine ⟨fun hoth => ?_, fun hoth => ?_⟩
            · -- nobody is in the way
              have hsl := slot_lt (G := G) iF (a / 16)
              have h8 := iF.1.2
              obtain ⟨fb, fy⟩ := fetF_b (G := G) iF ib iy (show a / 16 < 16 by omega)
              have ww : wasA F G a < 256 := slot_b (G := G) (p := a / 16) (k := a % 16) iF fy (by omega)
              have hpb := ib (703 + 18 * t)
              obtain ⟨g0, g2', g5, g3⟩ := chg_g (kd := 2) (t := t) (pv := F (703 + 18 * t)) (a := a) (was := wasA F G a) (v := v) (by omega)
              have hlt := chgL_lt (kd := 2) (t := t) (pv := F (703 + 18 * t)) (a := a) (was := wasA F G a) (v := v) h9 hpb ha ww hv2
              obtain ⟨i1, i2⟩ := chg_IV (kd := 2) (a := a) (v := v) hI c3 cJ.2.2.2.2.1 (by omega) h1 h9 hrun ha hv2 (fun _ => by omega) cf
              refine w_fetch cP cJ (by omega) iF ib (by omega) fun P1 J1 hP1 hJ1 w1 hw1 => ⟨ivp (by omega) (by omega), ?_⟩
              rw [hw1, nI_clamp (by omega), (cR t h1 h9).2.1]
              refine w_start (kd := 2) hJ1 (by omega) (by omega) (by omega) hpb fun J2 hJ2 w2 hw2 => ?_
              rw [hw2]
              refine w_put (d := a) hJ2 (by simp; omega) (by rw [a255 (by omega), Nat.mod_eq_of_lt ha]) fun J3 hJ3 w3 hw3 => ?_
              rw [hw3]
              have tl : ∀ J4, isPn J4 b e (fetf F G b f (a / 16)) ([2, 0, t, F (703 + 18 * t) / 256, F (703 + 18 * t) % 256] ++ [a] ++ [wasA F G a]) → wp_X9_change_166 Q (nI t) (nI a) (nI v) 2 (nI (slot F G (a / 16))) (s9_journal (s9_pages w P1) J4) := by
                intro J4 hJ4
                refine w_put (d := v) hJ4 (by simp; omega) (by rw [a255 (by omega), Nat.mod_eq_of_lt hv2]) fun J5 hJ5 w5 hw5 => ?_
                rw [hw5]
                have hJ5 : isPn J5 b e (fetf F G b f (a / 16)) (chgL 2 t (F (703 + 18 * t)) a (wasA F G a) v) := hJ5
                have hll : (chgL 2 t (F (703 + 18 * t)) a (wasA F G a) v).length = 8 := rfl
                refine w_finish (w := s9_journal (s9_pages w P1) J5) hJ5 (by omega) (by omega) (by omega) hlt h9 fun J6 hJ6 => ?_
                have hb2 : ∀ k, lastF (fetF F G (a / 16)) t e k < 65536 := lastF_b fb (by omega)
                have e5 : appB b e (sealR (chgL 2 t (F (703 + 18 * t)) a (wasA F G a) v)) (e + 5) = a := by rw [appB_e]; exact g5
                have lo : ∀ k, k < 720 → lastF (fetF F G (a / 16)) t e k = fetF F G (a / 16) k := fun k hk => lastF_o (by omega)
                have hP2 : RP P1 (lastF (fetF F G (a / 16)) t e) (fetG F G (a / 16)) := RP_c hP1 (fun k hk => lo k (by omega)) (fun _ _ => rfl)
                refine w_doIn (P := P1) (fr := slot F G (a / 16)) hP2 hJ6 (by omega) (by rw [lo _ (by omega), slot_held]; omega) (by omega) (fun k hk => by rw [lo _ (by omega)]; exact slot_b iF fy hk) hb2 fun P8 hP8 w8 hw8 => ?_
                rw [hw8]
                rw [e5, lo _ (by omega)] at hP8
                refine ⟨fun _ => ?_, fun z => absurd rfl z⟩
                rw [nI_clamp (by omega)]
                refine ⟨ivp (by omega) (by omega), ivp (by omega) (by omega), fun C9 hC9 w9 hw9 => ⟨ivp (by omega) (by omega), fun w10 hw10 => ?_⟩⟩
                rw [nI_clamp (by omega)] at hw10
                refine g _ _ (by first | exact Or.inl rfl | exact Or.inr rfl) <| xw (fun z => absurd hoth z) fun _ n2 p2 r2 => ?_
                have gc : ∀ j, 882 ≤ j → j ≠ 882 + a → j ≠ 1394 + t → upd (upd (fetG F G (a / 16)) (882 + a) (G (882 + a) ||| (1 <<< (nI t &&& 31)))) (1394 + t) 0 j = G j := fun j j0 j1 j2 => by rw [pk_un j2, pk_un j1]; exact fetG_out iF (by omega) (by omega)
                have gl : ∀ j, j < 882 → upd (upd (fetG F G (a / 16)) (882 + a) (G (882 + a) ||| (1 <<< (nI t &&& 31)))) (1394 + t) 0 j = fetG F G (a / 16) j := fun j j0 => by rw [pk_un (by omega), pk_un (by omega)]
                have tx : ∀ j, j < 16 ∨ 720 ≤ j → (doA (F, G, b, e, f) t a (chgL 2 t (F (703 + 18 * t)) a (wasA F G a) v)).1 j = if j = 703 + 18 * t then e else F j := fun j hj => by
                  show becF _ (slot F G (a / 16)) _ _ _ j = _
                  rw [becF_out (by omega) (by omega)]
                  by_cases c : j = 703 + 18 * t
                  · rw [if_pos c, c]; exact lastF_t h1
                  · rw [if_neg c, lastF_o c]; exact fetF_out iF (by omega)
                have tz : ∀ j, j < 16 → (doA (F, G, b, e, f) t a (chgL 2 t (F (703 + 18 * t)) a (wasA F G a) v)).1 j = F j := fun j hj => by rw [tx j (by omega), if_neg (by omega)]
                refine q 1 w10 n2 p2 (Or.inr rfl) ⟨_, _, _, _, _, k + 1, ?_, r2, i1, Or.inl i2⟩ (by rw [hw10, hw9]) (sw_7 hR r2 (by rw [tx 7 (by omega), if_neg (by omega)]))
                rw [hw10, hw9, hC9]
                have hRO : RO (s5_last (g9_roster w) (upd (g5_last (g9_roster w)) t (nI e))) (doA (F, G, b, e, f) t a (chgL 2 t (F (703 + 18 * t)) a (wasA F G a) v)).1 := RO_c (RO_last (s := e) cR h1 h9) fun j j1 j2 => by
                  rw [tx j (by omega)]
                  by_cases c : j = 703 + 18 * t
                  · rw [if_pos c, c, lastF_t h1]
                  · rw [if_neg c, lastF_o c]
                refine ⟨hJ6, RP_c hP8 (fun _ _ => rfl) (fun j hj => gl j (by omega)), hRO, ?_, RS_c cS (fun j hj => by rw [tx j (by omega), if_neg (by omega)]), by rw [tz 3 (by omega)]; exact cu, by rw [tz 2 (by omega)]; exact cm, by rw [tz 4 (by omega)]; exact co, by rw [gl 8 (by omega), fetG_out iF (by omega) (by omega)]; exact cr, by rw [gl 9 (by omega), fetG_out iF (by omega) (by omega)]; exact cc⟩
                obtain ⟨a1, a2, a3⟩ := cC
                refine ⟨fun a' ha' => ?_, fun a' ha' => ?_, fun u hu1 hu9 => ?_⟩
                · show upd (g0_wrote (g9_claims w)) a (g0_wrote (g9_claims w) a ||| _) a' = _
                  by_cases c : a' = a
                  · subst c; rw [pk_us, pk_un (by omega), pk_us, a1 a' ha']
                  · rw [pk_un c, gc _ (by omega) (by omega) (by omega)]; exact a1 a' ha'
                · show g0_added (g9_claims w) a' = _
                  rw [gc _ (by omega) (by omega) (by omega)]; exact a2 a' ha'
                · obtain ⟨d1, d2, d3, d4, d5⟩ := a3 u hu1 hu9
                  have to : ∀ j, 705 + 18 * u ≤ j → j < 720 + 18 * u → (doA (F, G, b, e, f) t a (chgL 2 t (F (703 + 18 * t)) a (wasA F G a) v)).1 j = F j := fun j j1 j2 => by rw [tx j (by omega), if_neg (by omega)]
                  show upd (g0_waits (g9_claims w)) t 0 u = _ ∧ g0_saveCount (g9_claims w) u = _ ∧ g0_topCount (g9_claims w) u = _ ∧ _
                  rw [to _ (by omega) (by omega), to _ (by omega) (by omega)]
                  refine ⟨?_, d2, d3, fun i hi h8 => by rw [to _ (by omega) (by omega)]; exact d4 i hi h8, fun i hi h4 => by rw [to _ (by omega) (by omega)]; exact d5 i hi h4⟩
                  by_cases c : u = t
                  · subst c; rw [pk_us, pk_us]
                  · rw [pk_un c, gc _ (by omega) (by omega) (by omega)]; exact d1
              refine ⟨fun _ => w_byteNow hP1 (by rw [fetF_out iF (by omega)]; omega) fb ha ?_, fun z => absurd rfl z⟩
              rw [fo_fet (G := G) iF (by omega), fetF_out (G := G) (p := a / 16) (k := 5) iF (by omega), if_pos hsl]
              refine w_put (d := wasA F G a) hJ3 (by simp; omega) (by rw [show fetF F G (a / 16) (564 + 20 * slot F G (a / 16) + a % 16) = wasA F G a from rfl, a255 (by omega), Nat.mod_eq_of_lt ww]) fun J4 hJ4 w4 hw4 => ?_
              rw [hw4]
              exact tl J4 hJ4
            · -- somebody is
              refine ⟨ivp (by omega) (by omega), fun w2 hw2 => ?_⟩
              rw [nI_clamp (by omega)] at hw2
              refine g _ _ (by first | exact Or.inl rfl | exact Or.inr rfl) <| xw (fun _ n2 r2 => ?_) (fun z => absurd z hoth)
              refine q 0 w2 n2 pn (Or.inl rfl) ⟨F, _, b, e, f, k, ?_, r2, hI.1, ?_⟩ (by rw [hw2]) (sw_7 hR r2 rfl)
              · rw [hw2]
                refine CW_cl (G2 := upd G (1394 + t) ((G (882 + a) ||| G (1138 + a)) &&& mskI t)) hC0 (fun _ _ => rfl) (fun j hj => pk_un (by omega)) cR ?_
                obtain ⟨a1, a2, a3⟩ := cC
                refine ⟨fun a' ha' => by rw [pk_un (by omega)]; exact a1 a' ha', fun a' ha' => by rw [pk_un (by omega)]; exact a2 a' ha', fun u hu1 hu9 => ?_⟩
                obtain ⟨d1, d2, d3, d4, d5⟩ := a3 u hu1 hu9
                refine ⟨?_, d2, d3, d4, d5⟩
                show upd (g0_waits (g9_claims w)) t _ u = _
                by_cases c : u = t
                · subst c; rw [pk_us, pk_us]; rfl
                · rw [pk_un c, pk_un (by omega)]; exact d1
              · exact Or.inl (UPl_of hI c3)
        · have xf : ∀ {Q : Int32 → Prop}, Q 1 → wp_X11_isFull (mS (s11_told m 0) n pn) Q := fun {Q} q => x_isFull hR (by rw [if_neg cf]; exact q)
          rw [if_neg cf]
          refine ⟨fun z => absurd z (by decide), fun _ => ?_⟩
          refine g _ _ (by first | exact Or.inl rfl | exact Or.inr rfl) ?_
          intro v1 hv1
          rw [hv1, ev]
          exact xg ⟨fun z => absurd z (by decide), fun _ => xa ⟨fun z => absurd z (by decide), fun _ => xv ⟨fun z => absurd z (by decide), fun _ => xf ⟨fun z => absurd z (by decide), fun _ => ref⟩⟩⟩⟩
      · have z2 : (255 : Int32) < x3 := Int32.not_le.mp z
        refine g _ _ (by first | exact Or.inl rfl | exact Or.inr rfl) ?_
        intro v1 hv1
        rw [hv1, ev]
        exact xg ⟨fun z => absurd z (by decide), fun _ => xa ⟨fun z => absurd z (by decide), fun _ => x_isIn0 (Or.inr z2) ⟨fun _ => ref, fun z => absurd rfl z⟩⟩⟩
  · refine w_run0 cR ib hno ⟨fun _ => ?_, fun z => absurd rfl z⟩
    refine g _ _ (by first | exact Or.inl rfl | exact Or.inr rfl) ?_
    intro v1 hv1
    rw [hv1, ev]
    exact x_go0 (i := 1) hR ib (by omega) (Or.inr hno) ⟨fun _ => ref, fun z => absurd rfl z⟩
theorem s_add (h : SW w n) (x1 x2 x3 : Int32) : OpR zb w (s11_told m 0) n (wp_X9_change w x1 x2 x3 3) (wp_X11_add (mS m n pn) x1 x2 x3) := by
  obtain ⟨F, G, b, e, f, k, hC, hR, hI⟩ := h
  intro K q Q g
  have ref : K 0 w 0 (mS (s11_told m 0) n pn) := q 0 w n pn (Or.inl rfl) ⟨F, G, b, e, f, k, hC, hR, hI⟩ rfl rfl
  have hC0 := hC
  obtain ⟨cJ, cP, cR, cC, cS, cu, cm, co, cr, cc⟩ := hC
  obtain ⟨ib, iy, iF, iL, i5, -⟩ := id hI.1
  have ev : s11_told (mS m n pn) 0 = mS (s11_told m 0) n pn := rfl
  refine ⟨fun _ => ?_, fun z => absurd rfl z⟩
  rcases run_cases hI x1 with ⟨t, h1, h9, rfl, hrun, c3⟩ | hno
  · have xg : ∀ {Q : Int32 → Prop}, Q 1 → wp_X11_canGo (mS (s11_told m 0) n pn) (nI t) 1 Q := fun {Q} q => x_go1 hR h1 h9 c3 hrun (by omega) q
    refine w_run1 cR h1 h9 hrun ⟨fun z => absurd z (by decide), fun _ => ⟨fun z => ?_, fun hx0 => ⟨fun z => ?_, fun hx1 => ?_⟩⟩⟩
    · refine g _ _ (by first | exact Or.inl rfl | exact Or.inr rfl) ?_
      intro v1 hv1
      rw [hv1, ev]
      exact xg ⟨fun z => absurd z (by decide), fun _ => x_isIn0 (Or.inl z) ⟨fun _ => ref, fun z => absurd rfl z⟩⟩
    · have z2 : (255 : Int32) < x2 := Int32.lt_of_lt_of_le (show (255 : Int32) < nI 256 by decide) z
      refine g _ _ (by first | exact Or.inl rfl | exact Or.inr rfl) ?_
      intro v1 hv1
      rw [hv1, ev]
      exact xg ⟨fun z => absurd z (by decide), fun _ => x_isIn0 (Or.inr z2) ⟨fun _ => ref, fun z => absurd rfl z⟩⟩
    · obtain ⟨a, ha31, rfl⟩ := nI_of hx0
      have ha : a < 256 := Nat.not_le.mp fun z => hx1 (show nI 256 ≤ nI a from nI_le z ha31)
      have xa : ∀ {Q : Int32 → Prop}, Q 1 → wp_X11_isIn (mS (s11_told m 0) n pn) (nI a) 0 255 Q := fun {Q} q => x_isIn1 (lo := 0) (hi := 255) rfl (by omega) (by omega) (by omega) (by omega) q
      refine ⟨fun z => ?_, fun hv0 => ⟨fun hv255 => ?_, fun z => ?_⟩⟩
      · refine g _ _ (by first | exact Or.inl rfl | exact Or.inr rfl) ?_
        intro v1 hv1
        rw [hv1, ev]
        exact xg ⟨fun z => absurd z (by decide), fun _ => xa ⟨fun z => absurd z (by decide), fun _ => x_isIn0 (Or.inl z) ⟨fun _ => ref, fun z => absurd rfl z⟩⟩⟩
      · have hv00 : ¬ x3 < 0 := fun z => hv0 (by first | exact z | exact Int32.lt_trans z (by decide))
        obtain ⟨v, hv31, rfl⟩ := nI_of hv00
        have hv1 : 1 ≤ v := Nat.not_lt.mp fun z => hv0 (show nI v < nI 1 from nI_lt z (by decide))
        have hv2 : v < 256 := Nat.lt_succ_of_le ((nI_leI hv31 (by omega)).mp (show nI v ≤ nI 255 from hv255))
        have xv : ∀ {Q : Int32 → Prop}, Q 1 → wp_X11_isIn (mS (s11_told m 0) n pn) (nI v) 1 255 Q := fun {Q} q => x_isIn1 (lo := 1) (hi := 255) rfl (by omega) (by omega) (by omega) (by omega) q
        refine w_isFull cJ ?_
        by_cases cf : e ≤ 3500
        · have xf : ∀ {Q : Int32 → Prop}, Q 0 → wp_X11_isFull (mS (s11_told m 0) n pn) Q := fun {Q} q => x_isFull hR (by rw [if_pos cf]; exact q)
          rw [if_pos cf]
          refine ⟨fun _ => ?_, fun z => absurd rfl z⟩
          have ed : nI a / 16 = nI (a / 16) := pk_div (d := 16) (by omega) (by decide) (by decide)
          rw [ed]
          refine w_isLost cP (fun cl => ⟨fun z => absurd z (by decide), fun _ => ?_⟩) (fun cl => ⟨fun _ => ?_, fun z => absurd rfl z⟩)
          · refine g _ _ (by first | exact Or.inl rfl | exact Or.inr rfl) ?_
            intro v1 hv1
            rw [hv1, ev]
            refine xg ⟨fun z => absurd z (by decide), fun _ => xa ⟨fun z => absurd z (by decide), fun _ => xv ⟨fun z => absurd z (by decide), fun _ => xf ⟨fun _ => ?_, fun z => absurd rfl z⟩⟩⟩⟩
            rw [ed]
            exact x_isLostPage hR (fun _ => ⟨fun z => absurd z (by decide), fun _ => ref⟩) (fun z => absurd cl z)
          · have e1 : (882 : Int32) + nI a = nI (882 + a) := nI_add 882 a
            have e2 : (1138 : Int32) + nI a = nI (1138 + a) := nI_add 1138 a
            have k1' : (nI (882 + a)).toNatClampNeg = 882 + a := nI_clamp (by omega)
            have k2' : (nI (1138 + a)).toNatClampNeg = 1138 + a := nI_clamp (by omega)
            have g1 : n (882 + a) = G (882 + a) := hR.2.2.1 _ (by unfold gk; omega)
            have g2 : n (1138 + a) = G (1138 + a) := hR.2.2.1 _ (by unfold gk; omega)
            -- the reference up to who is in the way
            have xw : ∀ {K2 : Int32 → S11 → Prop}, (G (882 + a) &&& mskI t ≠ 0 → ∀ n2, isR n2 F (upd G (1394 + t) (G (882 + a) &&& mskI t)) b e f → K2 0 (mS (s11_told m 0) n2 pn)) → (G (882 + a) &&& mskI t = 0 → ∀ n2 p2, isR n2 (doA (F, G, b, e, f) t a (chgL 3 t (F (703 + 18 * t)) a (wasA F G a) v)).1 (upd (upd (fetG F G (a / 16)) (1138 + a) (G (1138 + a) ||| (1 <<< (nI t &&& 31)))) (1394 + t) 0) (appB b e (sealR (chgL 3 t (F (703 + 18 * t)) a (wasA F G a) v))) (e + (chgL 3 t (F (703 + 18 * t)) a (wasA F G a) v).length + 1) (fetf F G b f (a / 16)) → K2 1 (mS (s11_told m 0) n2 p2)) → wp_X11_add (mS m n pn) (nI t) (nI a) (nI v) K2 := by
              intro K2 kw k1 v1 hv1
              rw [hv1, ev]
              refine xg ⟨fun z => absurd z (by decide), fun _ => xa ⟨fun z => absurd z (by decide), fun _ => xv ⟨fun z => absurd z (by decide), fun _ => xf ⟨fun _ => ?_, fun z => absurd rfl z⟩⟩⟩⟩
              rw [ed]
              refine x_isLostPage hR (fun z => absurd z cl) (fun _ => ⟨fun _ => ?_, fun z => absurd rfl z⟩)
              simp only [e1, e2, k1', k2', gmS, g1]
              refine ⟨ivp (by omega) (by omega), ?_⟩
              intro o ho
              have ho : o = G (882 + a) &&& mskI t := ho
              rw [ho]
              refine ⟨fun z => ?_, fun z => x_wwt hR h1 h9 fun n2 r2 => ⟨fun z2 => absurd z2 z, fun _ => ⟨fun z => absurd z (by decide), fun _ => kw z n2 r2⟩⟩⟩
              refine ⟨fun _ => ⟨fun _ => ?_, fun y => absurd rfl y⟩, fun y => absurd z y⟩
              refine x_doesChange (kd := 3) hR iF (fun s hs => St_in iL hs) ib iy (by omega) h1 h9 ha hv2 (by omega) fun n2 p2 r2 => ?_
              have g3 : n2 (1138 + a) = G (1138 + a) := by rw [r2.2.2.1 _ (by unfold gk; omega)]; exact fetG_out iF (by omega) (by omega)
              refine ⟨ivp (by omega) (by omega), ivp (by omega) (by omega), fun v3 hv3 => ?_⟩
              rw [gmS, g3] at hv3
              rw [hv3]
              have r3 := isR_wg (k := 1138 + a) (x := G (1138 + a) ||| (1 <<< (nI t &&& 31))) r2 (by unfold gk; omega) (fun y1 y2 => bit_and h1 h9 (hR.2.2.2.2 _ y1 y2))
              exact x_wwt r3 h1 h9 fun n4 r4 => k1 z n4 p2 r4
            refine ⟨fun z => absurd z (by decide), fun _ => ⟨ivp ha (by omega), ?_⟩⟩
            rw [nI_clamp (n := a) (by omega), cC.1 a ha]
            show (G (882 + a) &&& mskI t = 0 → _) ∧ (¬ G (882 + a) &&& mskI t = 0 → _)
            refine ⟨fun hoth => ?_, fun hoth => ?_⟩
            · -- nobody is in the way
              have hsl := slot_lt (G := G) iF (a / 16)
              have h8 := iF.1.2
              obtain ⟨fb, fy⟩ := fetF_b (G := G) iF ib iy (show a / 16 < 16 by omega)
              have ww : wasA F G a < 256 := slot_b (G := G) (p := a / 16) (k := a % 16) iF fy (by omega)
              have hpb := ib (703 + 18 * t)
              obtain ⟨g0, g2', g5, g3⟩ := chg_g (kd := 3) (t := t) (pv := F (703 + 18 * t)) (a := a) (was := wasA F G a) (v := v) (by omega)
              have hlt := chgL_lt (kd := 3) (t := t) (pv := F (703 + 18 * t)) (a := a) (was := wasA F G a) (v := v) h9 hpb ha ww hv2
              obtain ⟨i1, i2⟩ := chg_IV (kd := 3) (a := a) (v := v) hI c3 cJ.2.2.2.2.1 (by omega) h1 h9 hrun ha hv2 (fun _ => by omega) cf
              refine w_fetch cP cJ (by omega) iF ib (by omega) fun P1 J1 hP1 hJ1 w1 hw1 => ⟨ivp (by omega) (by omega), ?_⟩
              rw [hw1, nI_clamp (by omega), (cR t h1 h9).2.1]
              refine w_start (kd := 3) hJ1 (by omega) (by omega) (by omega) hpb fun J2 hJ2 w2 hw2 => ?_
              rw [hw2]
              refine w_put (d := a) hJ2 (by simp; omega) (by rw [a255 (by omega), Nat.mod_eq_of_lt ha]) fun J3 hJ3 w3 hw3 => ?_
              rw [hw3]
              have tl : ∀ J4, isPn J4 b e (fetf F G b f (a / 16)) ([3, 0, t, F (703 + 18 * t) / 256, F (703 + 18 * t) % 256] ++ [a]) → wp_X9_change_166 Q (nI t) (nI a) (nI v) 3 (nI (slot F G (a / 16))) (s9_journal (s9_pages w P1) J4) := by
                intro J4 hJ4
                refine w_put (d := v) hJ4 (by simp; omega) (by rw [a255 (by omega), Nat.mod_eq_of_lt hv2]) fun J5 hJ5 w5 hw5 => ?_
                rw [hw5]
                have hJ5 : isPn J5 b e (fetf F G b f (a / 16)) (chgL 3 t (F (703 + 18 * t)) a (wasA F G a) v) := hJ5
                have hll : (chgL 3 t (F (703 + 18 * t)) a (wasA F G a) v).length = 7 := rfl
                refine w_finish (w := s9_journal (s9_pages w P1) J5) hJ5 (by omega) (by omega) (by omega) hlt h9 fun J6 hJ6 => ?_
                have hb2 : ∀ k, lastF (fetF F G (a / 16)) t e k < 65536 := lastF_b fb (by omega)
                have e5 : appB b e (sealR (chgL 3 t (F (703 + 18 * t)) a (wasA F G a) v)) (e + 5) = a := by rw [appB_e]; exact g5
                have lo : ∀ k, k < 720 → lastF (fetF F G (a / 16)) t e k = fetF F G (a / 16) k := fun k hk => lastF_o (by omega)
                have hP2 : RP P1 (lastF (fetF F G (a / 16)) t e) (fetG F G (a / 16)) := RP_c hP1 (fun k hk => lo k (by omega)) (fun _ _ => rfl)
                refine w_doIn (P := P1) (fr := slot F G (a / 16)) hP2 hJ6 (by omega) (by rw [lo _ (by omega), slot_held]; omega) (by omega) (fun k hk => by rw [lo _ (by omega)]; exact slot_b iF fy hk) hb2 fun P8 hP8 w8 hw8 => ?_
                rw [hw8]
                rw [e5, lo _ (by omega)] at hP8
                refine ⟨fun z => absurd z (by decide), fun _ => ?_⟩
                rw [nI_clamp (by omega)]
                refine ⟨ivp (by omega) (by omega), ivp (by omega) (by omega), fun C9 hC9 w9 hw9 => ⟨ivp (by omega) (by omega), fun w10 hw10 => ?_⟩⟩
                rw [nI_clamp (by omega)] at hw10
                refine g _ _ (by first | exact Or.inl rfl | exact Or.inr rfl) <| xw (fun z => absurd hoth z) fun _ n2 p2 r2 => ?_
                have gc : ∀ j, 882 ≤ j → j ≠ 1138 + a → j ≠ 1394 + t → upd (upd (fetG F G (a / 16)) (1138 + a) (G (1138 + a) ||| (1 <<< (nI t &&& 31)))) (1394 + t) 0 j = G j := fun j j0 j1 j2 => by rw [pk_un j2, pk_un j1]; exact fetG_out iF (by omega) (by omega)
                have gl : ∀ j, j < 882 → upd (upd (fetG F G (a / 16)) (1138 + a) (G (1138 + a) ||| (1 <<< (nI t &&& 31)))) (1394 + t) 0 j = fetG F G (a / 16) j := fun j j0 => by rw [pk_un (by omega), pk_un (by omega)]
                have tx : ∀ j, j < 16 ∨ 720 ≤ j → (doA (F, G, b, e, f) t a (chgL 3 t (F (703 + 18 * t)) a (wasA F G a) v)).1 j = if j = 703 + 18 * t then e else F j := fun j hj => by
                  show becF _ (slot F G (a / 16)) _ _ _ j = _
                  rw [becF_out (by omega) (by omega)]
                  by_cases c : j = 703 + 18 * t
                  · rw [if_pos c, c]; exact lastF_t h1
                  · rw [if_neg c, lastF_o c]; exact fetF_out iF (by omega)
                have tz : ∀ j, j < 16 → (doA (F, G, b, e, f) t a (chgL 3 t (F (703 + 18 * t)) a (wasA F G a) v)).1 j = F j := fun j hj => by rw [tx j (by omega), if_neg (by omega)]
                refine q 1 w10 n2 p2 (Or.inr rfl) ⟨_, _, _, _, _, k + 1, ?_, r2, i1, Or.inl i2⟩ (by rw [hw10, hw9]) (sw_7 hR r2 (by rw [tx 7 (by omega), if_neg (by omega)]))
                rw [hw10, hw9, hC9]
                have hRO : RO (s5_last (g9_roster w) (upd (g5_last (g9_roster w)) t (nI e))) (doA (F, G, b, e, f) t a (chgL 3 t (F (703 + 18 * t)) a (wasA F G a) v)).1 := RO_c (RO_last (s := e) cR h1 h9) fun j j1 j2 => by
                  rw [tx j (by omega)]
                  by_cases c : j = 703 + 18 * t
                  · rw [if_pos c, c, lastF_t h1]
                  · rw [if_neg c, lastF_o c]
                refine ⟨hJ6, RP_c hP8 (fun _ _ => rfl) (fun j hj => gl j (by omega)), hRO, ?_, RS_c cS (fun j hj => by rw [tx j (by omega), if_neg (by omega)]), by rw [tz 3 (by omega)]; exact cu, by rw [tz 2 (by omega)]; exact cm, by rw [tz 4 (by omega)]; exact co, by rw [gl 8 (by omega), fetG_out iF (by omega) (by omega)]; exact cr, by rw [gl 9 (by omega), fetG_out iF (by omega) (by omega)]; exact cc⟩
                obtain ⟨a1, a2, a3⟩ := cC
                refine ⟨fun a' ha' => ?_, fun a' ha' => ?_, fun u hu1 hu9 => ?_⟩
                · show g0_wrote (g9_claims w) a' = _
                  rw [gc _ (by omega) (by omega) (by omega)]; exact a1 a' ha'
                · show upd (g0_added (g9_claims w)) a (g0_added (g9_claims w) a ||| _) a' = _
                  by_cases c : a' = a
                  · subst c; rw [pk_us, pk_un (by omega), pk_us, a2 a' ha']
                  · rw [pk_un c, gc _ (by omega) (by omega) (by omega)]; exact a2 a' ha'
                · obtain ⟨d1, d2, d3, d4, d5⟩ := a3 u hu1 hu9
                  have to : ∀ j, 705 + 18 * u ≤ j → j < 720 + 18 * u → (doA (F, G, b, e, f) t a (chgL 3 t (F (703 + 18 * t)) a (wasA F G a) v)).1 j = F j := fun j j1 j2 => by rw [tx j (by omega), if_neg (by omega)]
                  show upd (g0_waits (g9_claims w)) t 0 u = _ ∧ g0_saveCount (g9_claims w) u = _ ∧ g0_topCount (g9_claims w) u = _ ∧ _
                  rw [to _ (by omega) (by omega), to _ (by omega) (by omega)]
                  refine ⟨?_, d2, d3, fun i hi h8 => by rw [to _ (by omega) (by omega)]; exact d4 i hi h8, fun i hi h4 => by rw [to _ (by omega) (by omega)]; exact d5 i hi h4⟩
                  by_cases c : u = t
                  · subst c; rw [pk_us, pk_us]
                  · rw [pk_un c, gc _ (by omega) (by omega) (by omega)]; exact d1
              exact ⟨fun z => absurd z (by decide), fun _ => tl J3 hJ3⟩
            · -- somebody is
              refine ⟨ivp (by omega) (by omega), fun w2 hw2 => ?_⟩
              rw [nI_clamp (by omega)] at hw2
              refine g _ _ (by first | exact Or.inl rfl | exact Or.inr rfl) <| xw (fun _ n2 r2 => ?_) (fun z => absurd z hoth)
              refine q 0 w2 n2 pn (Or.inl rfl) ⟨F, _, b, e, f, k, ?_, r2, hI.1, ?_⟩ (by rw [hw2]) (sw_7 hR r2 rfl)
              · rw [hw2]
                refine CW_cl (G2 := upd G (1394 + t) (G (882 + a) &&& mskI t)) hC0 (fun _ _ => rfl) (fun j hj => pk_un (by omega)) cR ?_
                obtain ⟨a1, a2, a3⟩ := cC
                refine ⟨fun a' ha' => by rw [pk_un (by omega)]; exact a1 a' ha', fun a' ha' => by rw [pk_un (by omega)]; exact a2 a' ha', fun u hu1 hu9 => ?_⟩
                obtain ⟨d1, d2, d3, d4, d5⟩ := a3 u hu1 hu9
                refine ⟨?_, d2, d3, d4, d5⟩
                show upd (g0_waits (g9_claims w)) t _ u = _
                by_cases c : u = t
                · subst c; rw [pk_us, pk_us]; rfl
                · rw [pk_un c, pk_un (by omega)]; exact d1
              · exact Or.inl (UPl_of hI c3)
        · have xf : ∀ {Q : Int32 → Prop}, Q 1 → wp_X11_isFull (mS (s11_told m 0) n pn) Q := fun {Q} q => x_isFull hR (by rw [if_neg cf]; exact q)
          rw [if_neg cf]
          refine ⟨fun z => absurd z (by decide), fun _ => ?_⟩
          refine g _ _ (by first | exact Or.inl rfl | exact Or.inr rfl) ?_
          intro v1 hv1
          rw [hv1, ev]
          exact xg ⟨fun z => absurd z (by decide), fun _ => xa ⟨fun z => absurd z (by decide), fun _ => xv ⟨fun z => absurd z (by decide), fun _ => xf ⟨fun z => absurd z (by decide), fun _ => ref⟩⟩⟩⟩
      · have z2 : (255 : Int32) < x3 := Int32.not_le.mp z
        refine g _ _ (by first | exact Or.inl rfl | exact Or.inr rfl) ?_
        intro v1 hv1
        rw [hv1, ev]
        exact xg ⟨fun z => absurd z (by decide), fun _ => xa ⟨fun z => absurd z (by decide), fun _ => x_isIn0 (Or.inr z2) ⟨fun _ => ref, fun z => absurd rfl z⟩⟩⟩
  · refine w_run0 cR ib hno ⟨fun _ => ?_, fun z => absurd rfl z⟩
    refine g _ _ (by first | exact Or.inl rfl | exact Or.inr rfl) ?_
    intro v1 hv1
    rw [hv1, ev]
    exact x_go0 (i := 1) hR ib (by omega) (Or.inr hno) ⟨fun _ => ref, fun z => absurd rfl z⟩
end
