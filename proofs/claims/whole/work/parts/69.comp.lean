/-! ===== the class: a record 2, 3 undone ===== -/
section
variable {F : Nat → Nat} {G : Nat → Int32} {b : Nat → Nat} {e f : Nat} {Sp : Nat → Prop} {w : S9}
theorem becF_out {fr a v s k : Nat} (hf : fr < 8) (hk : k < 560 ∨ 720 ≤ k) : becF F fr a v s k = F k := by
  unfold becF
  rw [if_neg (by omega), if_neg (by omega), if_neg (by omega)]
theorem w_compensate (hJ : isJ (g9_journal w) b e f) (hP : RP (g9_pages w) F G) (hR : RO (g9_roster w) F) (hI : IFr F Sp) (hS : ∀ s, Sp s → 0 < s ∧ s + 1 < e ∧ s + b (s + 1) ≤ e) (hb : ∀ k, F k < 65536) (hy : byA F) (hfe : f ≤ e) {t s : Nat} (h1 : 1 ≤ t) (h9 : t ≤ 9) (hs : s + 8 ≤ e) (hk : b s = 2 ∨ b s = 3) (h3 : b s ≠ 2 → 1 ≤ b (s + 6)) (he : e + 11 ≤ 8600) {Q : S9 → Prop}
    (q : ∀ J2 P2 R2, isJ J2 (appB b e (sealR (cmpL F b t s))) (e + 11) (fetf F G b f (b (s + 5) / 16)) → RP P2 (cmpA (F, G, b, e, f) t s).1 (fetG F G (b (s + 5) / 16)) → RO R2 (cmpA (F, G, b, e, f) t s).1 → Q (s9_journal (s9_pages (s9_roster w R2) P2) J2)) : wp_X9_compensate w (nI t) (nI s) Q := by
  have h5 := hJ.2.2.2.2.1
  have b5 := h5 (s + 5)
  have b6 := h5 (s + 6)
  have bs := h5 s
  have hpv := hb (703 + 18 * t)
  have hq := pr2_lt h5 (s + 3)
  have hsl := slot_lt (G := G) hI (b (s + 5) / 16)
  have h8 := hI.1.2
  obtain ⟨fb, fy⟩ := fetF_b (G := G) hI hb hy (show b (s + 5) / 16 < 16 by omega)
  have go : ∀ y : Nat, y = (if b s = 2 then 1 else 0) → wp_X9_compensate_26 Q (nI t) (nI s) (nI (b (s + 5))) (nI y) w := by
    intro y hy2
    unfold wp_X9_compensate_26
    rw [show nI (b (s + 5)) / 16 = nI (b (s + 5) / 16) from pk_div (d := 16) (by omega) (by decide) (by decide)]
    refine w_fetch hP hJ (by omega) hI hb (by omega) fun P1 J1 hP1 hJ1 u1 hu1 => ⟨ivp (by omega) (by omega), ?_⟩
    rw [hu1, nI_clamp (by omega), (hR t h1 h9).2.1]
    refine w_start (kd := 4) hJ1 (by omega) (by omega) (by omega) hpv fun J2 hJ2 u2 hu2 => ?_
    rw [hu2]
    refine w_put (d := b (s + 5)) hJ2 (by simp; omega) (by rw [a255 (by omega), Nat.mod_eq_of_lt b5]) fun J3 hJ3 u3 hu3 => ?_
    rw [hu3]
    have go2 : ∀ z : Nat, z = (if b s = 2 then 0 else 1) → wp_X9_compensate_85 Q (nI t) (nI s) (nI y) (nI (slot F G (b (s + 5) / 16))) (nI z) (s9_journal (s9_journal (s9_journal (s9_journal (s9_pages w P1) J1) J2) J2) J3) := by
      intro z hz
      refine w_put (d := z) hJ3 (by simp; omega) ?_ fun J4 hJ4 u4 hu4 => ?_
      · have : z < 256 := by rw [hz]; split <;> omega
        rw [a255 (by omega), Nat.mod_eq_of_lt this]
      rw [hu4]
      have go3 : ∀ V : Nat, V = (if b s = 2 then b (s + 6) else 256 - b (s + 6)) → wp_X9_compensate_126 Q (nI t) (nI s) (nI (slot F G (b (s + 5) / 16))) (nI V) (s9_journal (s9_journal (s9_pages w P1) J3) J4) := by
        intro V hV
        have hV2 : V < 256 := by
          rw [hV]
          split
          · omega
          · rename_i c; have := h3 c; omega
        refine w_put (d := V) hJ4 (by simp; omega) (by rw [a255 (by omega), Nat.mod_eq_of_lt hV2]) fun J5 hJ5 u5 hu5 => ?_
        rw [hu5, show nI s + 3 = nI (s + 3) from nI_add s 3]
        refine w_pairAt hJ5.1 (by omega) ?_
        refine w_putPair hJ5 (by simp; omega) hq fun J6 hJ6 u6 hu6 => ?_
        rw [hu6]
        have e7 : [4, 0, t, F (703 + 18 * t) / 256, F (703 + 18 * t) % 256] ++ [b (s + 5)] ++ [z] ++ [V] ++ [pr2 b (s + 3) / 256, pr2 b (s + 3) % 256] = cmpL F b t s := by rw [hV, hz]; rfl
        rw [e7] at hJ6
        refine w_finish (w := s9_journal (s9_journal (s9_journal (s9_pages w P1) J4) J5) J6) hJ6 (by simp [cmpL]) (by simp [cmpL]) (by simp [cmpL]; omega) (cmpL_lt hb h5 h9 h3) h9 fun J7 hJ7 => ?_
        have hlen : (cmpL F b t s).length = 10 := rfl
        rw [hlen] at hJ7
        have hJ7 : isJ J7 (appB b e (sealR (cmpL F b t s))) (e + 11) (fetf F G b f (b (s + 5) / 16)) := hJ7
        have hb2 : ∀ k, lastF (fetF F G (b (s + 5) / 16)) t e k < 65536 := fun k => by
          unfold lastF updN
          rw [if_neg (by omega)]
          split
          · omega
          · exact fb k
        have ef : ∀ i, i < 10 → i ≠ 1 → appB b e (sealR (cmpL F b t s)) (e + i) = (cmpL F b t s).getD i 0 := fun i hi h1 => by rw [appB_e, sealR_g hi h1 (by simp [cmpL])]
        have e5 : appB b e (sealR (cmpL F b t s)) (e + 5) = b (s + 5) := ef 5 (by omega) (by omega)
        have lo : ∀ k, k < 720 → lastF (fetF F G (b (s + 5) / 16)) t e k = fetF F G (b (s + 5) / 16) k := fun k hk => by
          unfold lastF
          rw [if_neg (by omega), uNn (by omega)]
        have hP2 : RP P1 (lastF (fetF F G (b (s + 5) / 16)) t e) (fetG F G (b (s + 5) / 16)) := RP_c hP1 (fun k hk => lo k (by omega)) (fun _ _ => rfl)
        refine w_doIn (P := P1) (fr := slot F G (b (s + 5) / 16)) hP2 hJ7 (by omega) ?_ (by omega) (fun k hk => ?_) hb2 fun P8 hP8 u8 hu8 => ?_
        · rw [lo _ (by omega), slot_held]; omega
        · rw [lo _ (by omega)]; exact slot_b hI fy hk
        · rw [hu8]
          rw [e5, lo _ (by omega)] at hP8
          refine q J7 P8 _ hJ7 hP8 ?_
          have r1 : RO (g9_roster w) (fetF F G (b (s + 5) / 16)) := RO_c hR fun k k1 k2 => fetF_out hI (by omega)
          refine RO_c (RO_last (s := e) r1 h1 h9) fun k k1 k2 => ?_
          exact becF_out (fr := slot F G (b (s + 5) / 16)) (by omega) (by omega)
      rw [show nI s + 6 = nI (s + 6) from nI_add s 6]
      refine pk_eq y 0 (fun c => ?_) (fun c => ?_) rfl rfl (by rw [hy2]; split <;> omega)
      · refine w_byteAt (i := s + 6) hJ4.1 (by omega) ?_
        rw [show (256 : Int32) - nI (b (s + 6)) = nI (256 - b (s + 6)) from pk_sub (a := 256) (by omega)]
        refine go3 _ ?_
        by_cases d : b s = 2
        · rw [if_pos d] at hy2; omega
        · rw [if_neg d]
      · refine w_byteAt (i := s + 6) hJ4.1 (by omega) (go3 _ ?_)
        by_cases d : b s = 2
        · rw [if_pos d]
        · rw [if_neg d] at hy2; omega
    refine pk_eq y 0 (fun c => go2 1 ?_) (fun c => go2 0 ?_) rfl rfl (by rw [hy2]; split <;> omega)
    · by_cases d : b s = 2
      · rw [if_pos d] at hy2; omega
      · rw [if_neg d]
    · by_cases d : b s = 2
      · rw [if_pos d]
      · rw [if_neg d] at hy2; omega
  refine w_addressAt hJ (by omega) (w_byteAt (i := s) hJ (by omega) (pk_eq (b s) 2 (fun c => go 1 (by rw [if_pos c])) (fun c => go 0 (by rw [if_neg c]))))
end
