/-! ===== a record 2, 3 undone: both sides ===== -/
section
variable {m : S11} {n : Nat → Int32} {pn : Int32} {F : Nat → Nat} {G : Nat → Int32} {b : Nat → Nat} {e f : Nat} {P : S3} {J : S2} {Sp : Nat → Prop} {w : S9}
/-- what a fetch needs, and leaves -/
theorem fetF_out {p k : Nat} (h : IFr F Sp) (hk : k < 16 ∨ 720 ≤ k ∨ (288 ≤ k ∧ k < 560)) : fetF F G p k = F k := by
  have hl := lu_lt F G h.1.1
  have h8 := h.1.2
  have hu := (h.2.1 (lu F G) (by omega)).1
  unfold fetF
  split
  · rfl
  · unfold takeF outF
    rw [if_neg (by omega), if_neg (by omega), if_neg (by omega), if_neg (by omega)]
    split
    · rfl
    · rename_i c
      unfold wrF
      have := (h.2.2.1 (lu F G) (by omega) c).1
      rw [if_neg (by omega), if_neg (by omega), if_neg (by omega)]
theorem fetG_out {p k : Nat} (h : IFr F Sp) (hk : k ≠ 6) (hk2 : k < 560 ∨ 720 ≤ k) : fetG F G p k = G k := by
  have hl := slot_lt (G := G) h p
  have h8 := h.1.2
  unfold fetG
  rw [pk_un (by omega), pk_un hk]
def byA (F : Nat → Nat) : Prop := (∀ k, 16 ≤ k → k < 272 → F k < 256) ∧ (∀ k, 288 ≤ k → k < 544 → F k < 256) ∧ (∀ g k, g < 8 → k < 16 → F (564 + 20 * g + k) < 256) ∧ ∀ k, 1404 ≤ k → k < 1660 → F k < 256
theorem fetF_b {p : Nat} (h : IFr F Sp) (hb : ∀ k, F k < 65536) (hy : byA F) (hp : p < 16) : (∀ k, fetF F G p k < 65536) ∧ byA (fetF F G p) := by
  have hl := lu_lt F G h.1.1
  have h8 := h.1.2
  have hu := (h.2.1 (lu F G) (by omega)).1
  unfold fetF
  split
  · exact ⟨hb, hy⟩
  · have ho : (∀ k, outF F (lu F G) k < 65536) ∧ byA (outF F (lu F G)) := by
      unfold outF
      split
      · exact ⟨hb, hy⟩
      · rename_i c
        have hn := (h.2.2.1 (lu F G) (by omega) c).1
        refine ⟨fun k => ?_, fun k k1 k2 => ?_, fun k k1 k2 => ?_, fun g k k1 k2 => ?_, fun k k1 k2 => ?_⟩
        · unfold wrF
          split
          · omega
          · split
            · exact hb _
            · split
              · exact hb _
              · exact hb _
        · unfold wrF
          rw [if_neg (by omega), if_neg (by omega)]
          split
          · exact hy.2.2.1 _ _ (by omega) (by omega)
          · exact hy.1 k k1 k2
        · unfold wrF
          rw [if_neg (by omega), if_neg (by omega), if_neg (by omega)]
          exact hy.2.1 k k1 k2
        · unfold wrF
          rw [if_neg (by omega), if_neg (by omega), if_neg (by omega)]
          exact hy.2.2.1 g k k1 k2
        · unfold wrF
          rw [if_neg (by omega), if_neg (by omega), if_neg (by omega)]
          exact hy.2.2.2 k k1 k2
    obtain ⟨ho1, ho2⟩ := ho
    refine ⟨fun k => ?_, fun k k1 k2 => ?_, fun k k1 k2 => ?_, fun g k k1 k2 => ?_, fun k k1 k2 => ?_⟩
    · unfold takeF
      split
      · omega
      · split
        · exact ho1 _
        · split
          · omega
          · split
            · exact ho1 _
            · exact ho1 _
    · unfold takeF
      rw [if_neg (by omega), if_neg (by omega), if_neg (by omega), if_neg (by omega)]
      exact ho2.1 k k1 k2
    · unfold takeF
      rw [if_neg (by omega), if_neg (by omega), if_neg (by omega), if_neg (by omega)]
      exact ho2.2.1 k k1 k2
    · unfold takeF
      rw [if_neg (by omega), if_neg (by omega), if_neg (by omega)]
      split
      · exact ho2.1 _ (by omega) (by omega)
      · exact ho2.2.2.1 g k k1 k2
    · unfold takeF
      rw [if_neg (by omega), if_neg (by omega), if_neg (by omega), if_neg (by omega)]
      exact ho2.2.2.2 k k1 k2
theorem fetf_le {p : Nat} (h : IFr F Sp) (hS : ∀ s, Sp s → 0 < s ∧ s + 1 < e ∧ s + b (s + 1) ≤ e) (hf : f ≤ e) : f ≤ fetf F G b f p ∧ fetf F G b f p ≤ e := by
  have hl := lu_lt F G h.1.1
  have h8 := h.1.2
  unfold fetf
  split
  · exact ⟨Nat.le_refl _, hf⟩
  · split
    · exact ⟨Nat.le_refl _, hf⟩
    · rename_i c
      have := hS _ (h.2.2.1 (lu F G) (by omega) c).2.2
      unfold flT
      omega
theorem cmpL_lt (hb : ∀ k, F k < 65536) (h5 : ∀ i, b i < 256) {t s : Nat} (ht : t ≤ 9) (h3 : b s ≠ 2 → 1 ≤ b (s + 6)) : ∀ k, (cmpL F b t s).getD k 0 < 256 := by
  intro k
  have hp := hb (703 + 18 * t)
  have hq := pr2_lt h5 (s + 3)
  have := h5 (s + 6)
  match k with
  | 0 => show 4 < 256; omega
  | 1 => show 0 < 256; omega
  | 2 => show t < 256; omega
  | 3 => show F (703 + 18 * t) / 256 < 256; omega
  | 4 => show F (703 + 18 * t) % 256 < 256; omega
  | 5 => exact h5 _
  | 6 => show (if _ then _ else _) < 256; split <;> omega
  | 7 =>
    show (if b s = 2 then b (s + 6) else 256 - b (s + 6)) < 256
    split
    · omega
    · rename_i c; have := h3 c; omega
  | 8 => show pr2 b (s + 3) / 256 < 256; omega
  | 9 => show pr2 b (s + 3) % 256 < 256; omega
  | k + 10 => show (0 : Nat) < 256; omega
theorem appB_e {r : List Nat} (i : Nat) : appB b e r (e + i) = r.getD i 0 := by unfold appB; rw [if_neg (by omega), show e + i - e = i by omega]
theorem sealR_g {ds : List Nat} {i : Nat} (hi : i < ds.length) (h1 : i ≠ 1) (h2 : 1 < ds.length) : (sealR ds).getD i 0 = ds.getD i 0 := by
  unfold sealR
  rw [getD_app, if_pos (by rw [List.length_set]; exact hi), getD_set1 h2, if_neg h1]
/-- the frame of a page that was fetched -/
theorem slot_b {p k : Nat} (h : IFr F Sp) (hy : byA (fetF F G p)) (hk : k < 16) : fetF F G p (564 + 20 * slot F G p + k) < 256 := by
  have := slot_lt (G := G) h p
  have := h.1.2
  exact hy.2.2.1 _ _ (by omega) hk
theorem x_tail {F2 : Nat → Nat} {G2 : Nat → Int32} {b2 : Nat → Nat} {e2 f2 fr a s wv : Nat} (h : isR n F2 G2 b2 e2 f2) (hb : ∀ k, F2 k < 65536) (hf : fr < 8) (ha : a < 256) (hw : F2 (564 + 20 * fr + a % 16) = wv) (hw2 : wv < 256) (hk : b2 s = 2 ∨ b2 s = 3 ∨ b2 s = 4) (hs : s + 8 ≤ e2) {Q : S11 → Prop} (q : ∀ n2, isR n2 (becF F2 fr a (dnb b2 s wv) s) G2 b2 e2 f2 → Q (mS m n2 pn)) : wp_X11_stepsBack_121 Q (nI a) (nI (560 + 20 * fr)) (nI s) (mS m n pn) := by
  have e0 : nI (560 + 20 * fr) + 4 + (nI a - nI a / 16 * 16) = nI (564 + 20 * fr + a % 16) := by
    rw [show nI a - nI a / 16 * 16 = nI (a % 16) from pk_rem (d := 16) (by omega) (by decide) (by decide)]
    show _ + nI 4 + _ = _
    rw [nI_add, nI_add]; congr 1; omega
  unfold wp_X11_stepsBack_121
  rw [e0, nI_clamp (by omega)]
  refine ⟨ivp (by omega) (by omega), ?_⟩
  rw [gmS, h.2.1 _ (by unfold nk; omega), hw]
  exact x_doneBy (m := mS m n pn) h.1 hw2 hk hs (x_becomes h hb hf ha q)
theorem x_stepsBack (h : isR n F G b e f) (hI : IFr F Sp) (hS : ∀ s, Sp s → 0 < s ∧ s + 1 < e ∧ s + b (s + 1) ≤ e) (hb : ∀ k, F k < 65536) (hy : byA F) (hfe : f ≤ e) {t s : Nat} (h1 : 1 ≤ t) (h9 : t ≤ 9) (hs : s + 8 ≤ e) (hk : b s = 2 ∨ b s = 3) (h3 : b s ≠ 2 → 1 ≤ b (s + 6)) (he : e + 11 ≤ 8600) {o : Bool} {Q : S11 → Prop} (q : ∀ n2 p2, isR n2 (cmpA (F, G, b, e, f) t s).1 (fetG F G (b (s + 5) / 16)) (appB b e (sealR (cmpL F b t s))) (e + 11) (if o then e + 11 else fetf F G b f (b (s + 5) / 16)) → Q (mS m n2 p2)) : wp_X11_stepsBack (mS m n pn) (nI t) (nI s) (bI o) Q := by
  have h5 := h.1.2.2.2.2.2.2.2.1
  have b5 := h5 (s + 5)
  have b6 := h5 (s + 6)
  have bs := h5 s
  have hq := pr2_lt h5 (s + 3)
  have hsl := slot_lt (G := G) hI (b (s + 5) / 16)
  have h8 := hI.1.2
  obtain ⟨fb, fy⟩ := fetF_b (G := G) hI hb hy (show b (s + 5) / 16 < 16 by omega)
  have hpv : prvF (fetF F G (b (s + 5) / 16)) t = F (703 + 18 * t) := by
    unfold prvF
    rw [if_neg (by omega), fetF_out hI (by omega)]
  have go : ∀ y : Nat, y = (if b s = 2 then 0 else 1) → wp_X11_stepsBack_21 Q (nI t) (nI s) (bI o) (nI (b (s + 5))) (nI y) (mS m n pn) := by
    intro y hy2
    unfold wp_X11_stepsBack_21
    rw [show nI (b (s + 5)) / 16 = nI (b (s + 5) / 16) from pk_div (d := 16) (by omega) (by decide) (by decide)]
    refine x_fetches h hI hS hb (by omega) fun n1 r1 => ?_
    refine x_opensF (lg := 11) r1 fb (by omega) ?_
    rw [hpv]
    refine x_layL (d := b (s + 5)) (by simp; omega) ?_
    have go2 : ∀ z : Nat, z = y → wp_X11_stepsBack_59 Q (nI t) (nI s) (bI o) (nI (b (s + 5))) (nI y) (nI (560 + 20 * slot F G (b (s + 5) / 16))) (nI z) (mS m (layL n1 e ([4, 11, t, F (703 + 18 * t) / 256, F (703 + 18 * t) % 256] ++ [b (s + 5)])) (nI (e + ([4, 11, t, F (703 + 18 * t) / 256, F (703 + 18 * t) % 256] ++ [b (s + 5)]).length))) := by
      intro z hz
      refine x_layL (d := z) (by simp; omega) ?_
      have go3 : ∀ V : Nat, V = (if b s = 2 then b (s + 6) else 256 - b (s + 6)) → wp_X11_stepsBack_91 Q (nI t) (nI s) (bI o) (nI (b (s + 5))) (nI (560 + 20 * slot F G (b (s + 5) / 16))) (nI V) (mS m (layL n1 e ([4, 11, t, F (703 + 18 * t) / 256, F (703 + 18 * t) % 256] ++ [b (s + 5)] ++ [z])) (nI (e + ([4, 11, t, F (703 + 18 * t) / 256, F (703 + 18 * t) % 256] ++ [b (s + 5)] ++ [z]).length))) := by
        intro V hV
        refine x_layL (d := V) (by simp; omega) ?_
        rw [show nI s + 3 = nI (s + 3) from nI_add s 3]
        refine x_two (m := mS m _ _) (isM_lay r1.1 _) (by omega) ?_
        unfold wp_X11_laysTwo
        rw [div256 (by omega), show nI (pr2 b (s + 3)) - nI (pr2 b (s + 3) / 256) * 256 = nI (pr2 b (s + 3) % 256) from by rw [← div256 (by omega)]; exact rem256 (by omega)]
        refine x_layL (by simp; omega) (x_layL (by simp; omega) ?_)
        refine x_closes (ds := cmpL F b t s) r1 ?_ ?_ ?_ (by omega) fun n2 p2 r2 => ?_
        · rw [hV, hz, hy2]; rfl
        · intro k
          have e7 : [4, 11, t, F (703 + 18 * t) / 256, F (703 + 18 * t) % 256] ++ [b (s + 5)] ++ [z] ++ [V] ++ [pr2 b (s + 3) / 256] ++ [pr2 b (s + 3) % 256] = (cmpL F b t s).set 1 11 := by rw [hV, hz, hy2]; rfl
          rw [e7, getD_set1 (by simp [cmpL])]
          split
          · omega
          · exact cmpL_lt hb h5 (by omega) h3 k
        · simp [cmpL]; omega
        · have hlen : (cmpL F b t s).length = 10 := rfl
          rw [hlen] at r2
          have r2 : isR n2 (lastF (fetF F G (b (s + 5) / 16)) t e) (fetG F G (b (s + 5) / 16)) (appB b e (sealR (cmpL F b t s))) (e + 11) (fetf F G b f (b (s + 5) / 16)) := r2
          have hb2 : ∀ k, lastF (fetF F G (b (s + 5) / 16)) t e k < 65536 := fun k => by
            unfold lastF updN
            rw [if_neg (by omega)]
            split
            · omega
            · exact fb k
          have ek : appB b e (sealR (cmpL F b t s)) e = 4 := by
            have := appB_e (b := b) (e := e) (r := sealR (cmpL F b t s)) 0
            rw [Nat.add_zero, sealR_g (by simp [cmpL]) (by omega) (by simp [cmpL])] at this
            exact this
          have ew : lastF (fetF F G (b (s + 5) / 16)) t e (564 + 20 * slot F G (b (s + 5) / 16) + b (s + 5) % 16) = fetF F G (b (s + 5) / 16) (564 + 20 * slot F G (b (s + 5) / 16) + b (s + 5) % 16) := by
            unfold lastF
            rw [if_neg (by omega), uNn (by omega)]
          have ww := slot_b (G := G) (p := b (s + 5) / 16) (k := b (s + 5) % 16) hI fy (by omega)
          cases o with
          | false => exact ⟨fun _ => x_tail r2 hb2 (by omega) b5 ew ww (by rw [ek]; omega) (by omega) fun n3 r3 => q n3 p2 r3, fun z => absurd rfl z⟩
          | true =>
            refine ⟨fun z => absurd z (by decide), fun _ => x_flushesAll r2 ?_ fun n4 r4 => x_tail r4 hb2 (by omega) b5 ew ww (by rw [ek]; omega) (by omega) fun n3 r3 => q n3 p2 r3⟩
            have := (fetf_le (G := G) (p := b (s + 5) / 16) hI hS hfe).2
            omega
      rw [show nI s + 6 = nI (s + 6) from nI_add s 6]
      refine pk_eq y 0 (fun c => ?_) (fun c => ?_) rfl rfl (by rw [hy2]; split <;> omega)
      · refine x_logByte (m := mS m _ _) (isM_lay r1.1 _) (by omega) (go3 _ ?_)
        rw [hy2] at c
        by_cases d : b s = 2
        · rw [if_pos d]
        · rw [if_neg d] at c; omega
      · refine x_logByte (m := mS m _ _) (isM_lay r1.1 _) (by omega) ?_
        rw [show (256 : Int32) - nI (b (s + 6)) = nI (256 - b (s + 6)) from pk_sub (a := 256) (by omega)]
        refine go3 _ ?_
        rw [hy2] at c
        by_cases d : b s = 2
        · rw [if_pos d] at c; omega
        · rw [if_neg d]
    refine pk_eq y 0 (fun c => ?_) (fun c => ?_) rfl rfl (by rw [hy2]; split <;> omega)
    · exact go2 0 c.symm
    · refine go2 1 ?_
      by_cases d : b s = 2
      · rw [if_pos d] at hy2; omega
      · rw [if_neg d] at hy2; omega
  refine x_logByte' (m := mS m n pn) h.1 (nI_add s 5) (by omega) (x_logByte (m := mS m n pn) h.1 (by omega) (pk_eq (b s) 3 (fun c => go 1 (by rw [if_neg (by omega)])) (fun c => go 0 (by rw [if_pos (by omega)]))))
end
