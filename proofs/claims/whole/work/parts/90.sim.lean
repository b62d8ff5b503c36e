/-! ===== the relation that every call keeps ===== -/
section
variable {u u2 : S10} {th th2 kp : Option S9} {v v2 m : S11} {w w2 : S9} {n : Nat → Int32}
def KPr (kp : Option S9) (v : S11) : Prop := (kp = none → g11_hasImage v = 0) ∧ ∀ w, kp = some w → g11_hasImage v ≠ 0 ∧ SW w (g11_images v) ∧ PS (g9_script w) (g11_images v) (g11_images v 10796) (g11_images v 7) 10700
def SimR : SimT := fun u _ kp v => SW (g10_now u) (g11_now v) ∧ PS (g9_script (g10_now u)) (g11_plans v) (g11_planMany v) (g11_now v 7) 0 ∧ TR (g10_tape u) v ∧ (∀ i, i < 77 → g11_words v (i + 1) = st_WORDS i) ∧ KPr kp v
theorem KPr_f (h : KPr kp v) (h1 : g11_hasImage v2 = g11_hasImage v) (h2 : g11_images v2 = g11_images v) : KPr kp v2 := by
  unfold KPr
  rw [h1, h2]; exact h
theorem TR_f {t : S8} (h : TR t v) (h1 : g11_tape v2 = g11_tape v) (h2 : g11_taped v2 = g11_taped v) (h3 : g11_faultKind v2 = g11_faultKind v) (h4 : g11_faultPlace v2 = g11_faultPlace v) : TR t v2 := by
  unfold TR
  rw [h1, h2, h3, h4]; exact h
theorem Sim_k (h : SimR u th kp v) (hf : Fl2 v2 v) (ht : g10_tape u2 = g10_tape u) (hS : SW (g10_now u2) (g11_now v2)) (hP : PS (g9_script (g10_now u2)) (g11_plans v) (g11_planMany v) (g11_now v2 7) 0) : SimR u2 th2 kp v2 := by
  obtain ⟨a1, a2, a3, a4, a5⟩ := h
  obtain ⟨⟨f1, f2, f3⟩, f4, f5, f6, f7, f8, f9⟩ := hf
  refine ⟨hS, ?_, ?_, ?_, KPr_f a5 f2 f3⟩
  · rw [f4, f5]; exact hP
  · rw [ht]; exact TR_f a3 f6 f7 f8 f9
  · rw [f1]; exact a4
theorem mS_id : mS v (g11_now v) (g11_laidAt v) = v := rfl
theorem f_mS {p : Int32} : Fl2 (mS m n p) m := ⟨⟨rfl, rfl, rfl⟩, rfl, rfl, rfl, rfl, rfl, rfl⟩
theorem Sim_m {p : Int32} (h : SimR u th kp v) (hS : SW w2 n) (hs : g9_script w2 = g9_script (g10_now u)) (h7 : n 7 = g11_now v 7) : SimR (s10_now u w2) th kp (mS (s11_told v 0) n p) ∧ Same u (s10_now u w2) := by
  refine ⟨Sim_k h (Fl2_t f_mS Fl2_told) rfl ?_ ?_, rfl, rfl⟩
  · rw [gN]; exact hS
  · rw [gN, h7]
    show PS (g9_script w2) _ _ _ _
    rw [hs]; exact h.2.1
theorem Sim_q {p : Int32} (h : SimR u th kp v) : SimR u th kp (mS (s11_told v 0) (g11_now v) p) := by
  refine Sim_k h (Fl2_t f_mS Fl2_told) rfl ?_ ?_
  · rw [gN]; exact h.1
  · rw [gN]; exact h.2.1
theorem Sim_t (h : SimR u th kp v) : SimR u th2 kp (s11_told v 0) := by
  refine Sim_k h Fl2_told rfl ?_ ?_
  · rw [told_n]; exact h.1
  · rw [told_n]; exact h.2.1
theorem mR_F {a b c d l p : Int32} {V : Nat → Int32} : Fl2 (mS (mR m a b c d l V) n p) m := by
  have h : ∀ M : S11, M = tW m (g11_now m) (g11_waiting m) (g11_laidAt m) (g11_unclean m) (g11_losers m) (g11_recovered m) (g11_mayWrite m) (g11_compensated m) (g11_ended m) → Fl2 (mS (mR M a b c d l V) n p) m := fun M hM => by
    rw [hM, tW2, tW1]; exact tW7
  exact h m tW8
theorem sim_frames : ok_frames SimR := by
  intro u th kp v x1 h
  have x := o_frames (m := v) (pn := g11_laidAt v) h.1 x1 (K := fun r u2 r2 v2 => r = r2 ∧ SimR u2 th kp v2 ∧ Same u u2) (fun r w2 n2 a b c => ⟨rfl, Sim_m h a b c⟩)
  rw [mS_id] at x; exact x
theorem sim_act : ok_act SimR := by
  intro u th kp v x1 x2 h
  have x := o_act (m := v) (pn := g11_laidAt v) h.1 x1 x2 (K := fun r u2 r2 v2 => r = r2 ∧ SimR u2 th kp v2 ∧ Same u u2) (fun r w2 n2 p2 a b c => ⟨rfl, Sim_m h a b c⟩)
  rw [mS_id] at x; exact x
theorem sim_write : ok_write SimR := by
  intro u th kp v x1 x2 x3 h
  have x := o_write (m := v) (pn := g11_laidAt v) h.1 x1 x2 x3 (K := fun r u2 r2 v2 => r = r2 ∧ SimR u2 th kp v2 ∧ Same u u2) (fun r w2 n2 p2 a b c => ⟨rfl, Sim_m h a b c⟩)
  rw [mS_id] at x; exact x
theorem sim_add : ok_add SimR := by
  intro u th kp v x1 x2 x3 h
  have x := o_add (m := v) (pn := g11_laidAt v) h.1 x1 x2 x3 (K := fun r u2 r2 v2 => r = r2 ∧ SimR u2 th kp v2 ∧ Same u u2) (fun r w2 n2 p2 a b c => ⟨rfl, Sim_m h a b c⟩)
  rw [mS_id] at x; exact x
theorem sim_save : ok_save SimR := by
  intro u th kp v x1 h
  have x := o_save (m := v) (pn := g11_laidAt v) h.1 x1 (K := fun r u2 r2 v2 => r = r2 ∧ SimR u2 th kp v2 ∧ Same u u2) (fun r w2 n2 p2 a b c => ⟨rfl, Sim_m h a b c⟩)
  rw [mS_id] at x; exact x
theorem sim_back : ok_back SimR := by
  intro u th kp v x1 x2 h
  have x := o_back (m := v) (pn := g11_laidAt v) h.1 x1 x2 (K := fun r u2 r2 v2 => r = r2 ∧ SimR u2 th kp v2 ∧ Same u u2) (fun r w2 n2 p2 a b c => ⟨rfl, Sim_m h a b c⟩)
  rw [mS_id] at x; exact x
theorem sim_roll : ok_roll SimR := by
  intro u th kp v x1 x2 h
  have x := o_roll (m := v) (pn := g11_laidAt v) h.1 x1 x2 (K := fun r u2 r2 v2 => r = r2 ∧ SimR u2 th kp v2 ∧ Same u u2) (fun r w2 n2 p2 a b c => ⟨rfl, Sim_m h a b c⟩)
  rw [mS_id] at x; exact x
theorem sim_keep : ok_keep SimR := by
  intro u th kp v x1 x2 h
  have x := o_keep (m := v) (pn := g11_laidAt v) h.1 x1 x2 (K := fun r u2 r2 v2 => r = r2 ∧ SimR u2 th kp v2 ∧ Same u u2) (fun r w2 n2 p2 a b c => ⟨rfl, Sim_m h a b c⟩)
  rw [mS_id] at x; exact x
theorem sim_crash : ok_crash SimR := by
  intro u th kp v x1 h
  have x := o_crash (m := v) (pn := g11_laidAt v) h.1 x1 (K := fun r u2 r2 v2 => r = r2 ∧ SimR u2 th kp v2 ∧ Same u u2) (fun r w2 n2 a b c => ⟨rfl, Sim_m h a b c⟩)
  rw [mS_id] at x; exact x
theorem sim_recover : ok_recover SimR := by
  intro u th kp v x1 h
  have x := o_recover (m := v) (pn := g11_laidAt v) h.1 x1 (K := fun r u2 r2 v2 => r = r2 ∧ SimR u2 th kp v2 ∧ Same u u2) (fun r r4 w2 n2 p2 a b c d l V s1 s2 s3 => ⟨rfl, by
    refine Sim_k h (Fl2_t mR_F Fl2_told) rfl ?_ ?_
    · rw [gN]; exact s1
    · rw [gN, s3]
      show PS (g9_script w2) _ _ _ _
      rw [s2]; exact h.2.1, rfl, rfl⟩) ⟨rfl, Sim_q h, rfl, rfl⟩
  rw [mS_id] at x; exact x
theorem f_fd {B : Nat → Int32} {z : Int32} : Fld (s11_taped (s11_tape m B) z) m ∧ g11_now (s11_taped (s11_tape m B) z) = g11_now m ∧ g11_plans (s11_taped (s11_tape m B) z) = g11_plans m ∧ g11_planMany (s11_taped (s11_tape m B) z) = g11_planMany m := ⟨⟨rfl, rfl, rfl⟩, rfl, rfl, rfl⟩
theorem Sim_T {t2 : S8} (h : SimR u th kp v) (hT : TR t2 v2) (hf : Fld v2 v) (h1 : g11_now v2 = g11_now v) (h2 : g11_plans v2 = g11_plans v) (h3 : g11_planMany v2 = g11_planMany v) : SimR (s10_tape u t2) th kp v2 ∧ Same u (s10_tape u t2) := by
  obtain ⟨a1, a2, a3, a4, a5⟩ := h
  refine ⟨⟨?_, ?_, hT, ?_, KPr_f a5 hf.2.1 hf.2.2⟩, rfl, rfl⟩
  · rw [h1]; exact a1
  · rw [h1, h2, h3]; exact a2
  · rw [hf.1]; exact a4
theorem sim_feed : ok_feed SimR := by
  intro u th kp v x1 x2 x3 x4 x5 h
  exact o_feed (m := v) h.2.2.1 x1 x2 x3 x4 x5 (K := fun r u2 r2 v2 => r = r2 ∧ SimR u2 th kp v2 ∧ Same u u2) (fun r t2 B z hT => by
    obtain ⟨f1, f2, f3, f4⟩ := f_fd (m := s11_told v 0) (B := B) (z := z)
    obtain ⟨t1, t2', t3, t4, _⟩ := f_tld (v := v) (a := 0)
    exact ⟨rfl, Sim_T h hT (Fld_t f1 t4) (f2.trans t3) (f3.trans t1) (f4.trans t2')⟩)
theorem sim_end : ok_end SimR := by
  intro u th kp v x1 h
  exact o_end (m := v) h.2.2.1 x1 (K := fun r u2 r2 v2 => r = r2 ∧ SimR u2 th kp v2 ∧ Same u u2) (fun r t2 z hT => by
    obtain ⟨f1, f2, f3, f4, _⟩ := f_tap (v := s11_told v 0) (a := z)
    obtain ⟨t1, t2', t3, t4, _⟩ := f_tld (v := v) (a := 0)
    exact ⟨rfl, Sim_T h hT (Fld_t f4 t4) (f3.trans t3) (f1.trans t1) (f2.trans t2')⟩)
theorem sim_fault : ok_fault SimR := by
  intro u th kp v x1 h
  exact o_fault (m := v) h.2.2.1 x1 (K := fun r r2 v2 => r = r2 ∧ SimR u th kp v2) (fun r => ⟨rfl, Sim_t h⟩)
theorem SW_sc {S : S6} (h : SW w n) : SW (s9_script w S) n := by
  obtain ⟨F, G, b, e, f, k, hC, hR, hI⟩ := h
  exact ⟨F, G, b, e, f, k, hC, hR, hI⟩
theorem sim_plan : ok_plan SimR := by
  intro u th kp v h
  exact o_plan (m := v) h.2.2.1 h.2.1 h.2.2.2.1 (K := fun r u2 r2 v2 => r = r2 ∧ SimR u2 th kp v2 ∧ Same u u2) (fun r t2 S v2 hT hP hn hf => ⟨rfl, ⟨by
    rcases hn with y | y
    · rw [y]; exact SW_sc h.1
    · rw [y]; exact SW_7 (SW_sc h.1) (by omega), hP, hT, by rw [hf.1]; exact h.2.2.2.1, KPr_f h.2.2.2.2 hf.2.1 hf.2.2⟩, rfl, rfl⟩)
theorem sim_run : ok_run SimR := by
  intro u th kp v x1 h
  have x := o_run (m := v) (pn := g11_laidAt v) h.1 h.2.1 x1 (K := fun r u2 r2 v2 => r = r2 ∧ SimR u2 th kp v2 ∧ Same u u2) (fun r w2 n2 p2 a b => ⟨rfl, by
    refine Sim_k h (Fl2_t f_mS Fl2_told) rfl ?_ ?_
    · rw [gN]; exact a
    · rw [gN]; exact b, rfl, rfl⟩)
  rw [mS_id] at x; exact x
theorem sim_at : ok_at SimR := by
  intro u th kp v x1 x2 h
  have x := o_at (m := v) (pn := g11_laidAt v) h.1 x1 x2 (K := fun r r2 v2 => r = r2 ∧ SimR u th kp v2) (fun r => ⟨rfl, Sim_q h⟩)
  rw [mS_id] at x; exact x
theorem sim_page : ok_page SimR := by
  intro u th kp v x1 x2 h
  have x := o_page (m := v) (pn := g11_laidAt v) h.1 x1 x2 (K := fun r r2 v2 => r = r2 ∧ SimR u th kp v2) (fun r => ⟨rfl, Sim_q h⟩)
  rw [mS_id] at x; exact x
theorem sim_tx : ok_tx SimR := by
  intro u th kp v x1 x2 h
  have x := o_tx (m := v) (pn := g11_laidAt v) h.1 x1 x2 (K := fun r r2 v2 => r = r2 ∧ SimR u th kp v2) (fun r => ⟨rfl, Sim_q h⟩)
  rw [mS_id] at x; exact x
theorem sim_log : ok_log SimR := by
  intro u th kp v x1 h
  have x := o_log (m := v) (pn := g11_laidAt v) h.1 x1 (K := fun r r2 v2 => r = r2 ∧ SimR u th kp v2) (fun r => ⟨rfl, Sim_q h⟩)
  rw [mS_id] at x; exact x
theorem sim_record : ok_record SimR := by
  intro u th kp v x1 x2 h
  have x := o_record (m := v) (pn := g11_laidAt v) h.1 x1 x2 (K := fun r r2 v2 => r = r2 ∧ SimR u th kp v2) (fun r => ⟨rfl, Sim_q h⟩)
  rw [mS_id] at x; exact x
theorem sim_victim : ok_victim SimR := by
  intro u th kp v h
  have x := o_victim (m := v) (pn := g11_laidAt v) h.1 (K := fun r r2 v2 => r = r2 ∧ SimR u th kp v2) (fun r => ⟨rfl, Sim_q h⟩)
  rw [mS_id] at x; exact x
theorem sim_count : ok_count SimR := by
  intro u th kp v x1 h
  have x := o_count (m := v) (pn := g11_laidAt v) h.1 x1 (K := fun r r2 v2 => r = r2 ∧ SimR u th kp v2) (fun r => ⟨rfl, Sim_q h⟩)
  rw [mS_id] at x; exact x
theorem sim_look : ok_look SimR := by
  intro u th kp v x1 h
  have h10 : g6_size (g9_script (g10_now u)) = g11_planMany v ∧ g6_ran (g9_script (g10_now u)) = g11_now v 7 := by
    obtain ⟨z, q, z1, z2, z3, z4, z5, z6, z7⟩ := h.2.1
    exact ⟨z3.trans z4.symm, z5.trans z6.symm⟩
  have x := o_look (m := v) (pn := g11_laidAt v) h.1 h10.1 h10.2 x1 (K := fun r r2 v2 => r = r2 ∧ SimR u th kp v2) (fun r => ⟨rfl, Sim_q h⟩)
  rw [mS_id] at x; exact x
theorem sim_ship : ok_ship SimR := by
  intro u th kp v x1 h
  have x := o_ship (m := v) (pn := g11_laidAt v) h.1 x1 (K := fun r u2 r2 v2 => r = r2 ∧ SimR u2 th kp v2 ∧ Same u u2) (fun r w2 n2 a b c => ⟨rfl, Sim_m h a b c⟩) ⟨rfl, Sim_q h, rfl, rfl⟩
  rw [mS_id] at x; exact x
theorem sim_stand : ok_stand SimR := by
  intro u th kp v x1 x2 h
  exact o_stand (m := v) h.1 x1 x2 (K := fun r u2 r2 v2 => r = r2 ∧ SimR u2 th kp v2 ∧ Same u u2) (fun r R2 v2 hf hn => ⟨rfl, Sim_k h hf rfl (by rw [hn]; exact h.1) (by rw [hn]; exact h.2.1), rfl, rfl⟩)
theorem sim_asOf : ok_asOf SimR := by
  intro u th kp v x1 x2 h
  exact o_asOf (m := v) h.1 x1 x2 (K := fun r u2 r2 v2 => r = r2 ∧ SimR u2 th kp v2 ∧ Same u u2) (fun r R2 v2 hf hn => ⟨rfl, Sim_k h hf rfl (by rw [hn]; exact h.1) (by rw [hn]; exact h.2.1), rfl, rfl⟩)
theorem x_in {x lo hi : Int32} {Q : Int32 → Prop} (q1 : ¬ x < lo → ¬ hi < x → Q 1) (q0 : (x < lo ∨ hi < x) → Q 0) : wp_X11_isIn m x lo hi Q := ⟨fun a => q0 (Or.inl a), fun a => ⟨fun b => q0 (Or.inr b), fun b => q1 a b⟩⟩
theorem would_r {x1 x2 x3 : Int32} {K2 : Int32 → S11 → Prop} (q : K2 (-1) (s11_told v 0)) (h : (x1 < 0 ∨ 999 < x1) ∨ (x2 < 0 ∨ 9 < x2) ∨ (x3 < 0 ∨ 261 < x3)) : wp_X11_would v x1 x2 x3 K2 := by
  intro u hu
  rw [hu]
  refine x_in (fun a1 a2 => ⟨fun y => absurd y (by decide), fun _ => x_in (fun b1 b2 => ⟨fun y => absurd y (by decide), fun _ => x_in (fun c1 c2 => ?_) (fun _ => ⟨fun _ => q, fun y => absurd rfl y⟩)⟩) (fun _ => ⟨fun _ => q, fun y => absurd rfl y⟩)⟩) (fun _ => ⟨fun _ => q, fun y => absurd rfl y⟩)
  exfalso
  rcases h with (y | y) | (y | y) | (y | y)
  · exact a1 y
  · exact a2 y
  · exact b1 y
  · exact b2 y
  · exact c1 y
  · exact c2 y
theorem in_n {x : Int32} {hi : Nat} (hh : hi < 2 ^ 31) (h1 : ¬ x < 0) (h2 : ¬ nI hi < x) : ∃ a, a ≤ hi ∧ x = nI a := by
  rcases rng x (lo := 0) (hi := hi) (by omega) hh with y | y | ⟨a, a1, a2, a3, _⟩
  · exact absurd y h1
  · exact absurd y.2 h2
  · exact ⟨a, a2, a3⟩
theorem Sim_w (h : SimR u th kp v) (hu : g10_now u2 = g10_now u ∧ g10_tape u2 = g10_tape u) (hf : Fl2 v2 v) (hn : ∀ i, i < 10700 → g11_now v2 i = g11_now v i) : SimR u2 th2 kp v2 := by
  refine Sim_k h hf hu.2 ?_ ?_
  · rw [hu.1]; exact SW_n h.1 hn
  · rw [hu.1, hn 7 (by omega)]; exact h.2.1
theorem sim_would_s : ok_would_s SimR := by
  intro u w kp v x1 x2 x3 h
  have bad : ((x1 < 0 ∨ 999 < x1) ∨ (x2 < 0 ∨ 9 < x2) ∨ (x3 < 0 ∨ 261 < x3)) → wp_X11_would v x1 x2 x3 (fun r2 v2 => -1 = r2 ∧ SimR u (some w) kp v2 ∧ g10_kept u = g10_kept u) := fun y => would_r ⟨rfl, Sim_t h, rfl⟩ y
  refine ⟨fun y => bad (Or.inl (Or.inl y)), fun a1 => ⟨fun y => bad (Or.inl (Or.inr y)), fun a2 => ⟨fun y => bad (Or.inr (Or.inl (Or.inl y))), fun b1 => ⟨fun y => bad (Or.inr (Or.inl (Or.inr y))), fun b2 => ⟨fun y => bad (Or.inr (Or.inr (Or.inl y))), fun c1 => ⟨fun c2 => ?_, fun c2 => bad (Or.inr (Or.inr (Or.inr (Int32.not_le.mp c2))))⟩⟩⟩⟩⟩⟩
  obtain ⟨n1, h1, rfl⟩ := in_n (hi := 999) (by omega) a1 a2
  obtain ⟨n2, h2, rfl⟩ := in_n (hi := 9) (by omega) b1 b2
  obtain ⟨n3, h3, rfl⟩ := in_n (hi := 261) (by omega) c1 (Int32.not_lt.mpr c2)
  exact o_would (u := u) h1 h2 h3 h.1 (K := fun r u2 w2 r2 v2 => r = r2 ∧ SimR u2 (some w2) kp v2 ∧ g10_kept u2 = g10_kept u) (fun x7 rr2 w2 v2 hf hn => ⟨rfl, Sim_w h ⟨rfl, rfl⟩ hf hn, rfl⟩)
theorem sim_would_n : ok_would_n SimR := by
  intro u kp v x1 x2 x3 h
  have bad : ((x1 < 0 ∨ 999 < x1) ∨ (x2 < 0 ∨ 9 < x2) ∨ (x3 < 0 ∨ 261 < x3)) → wp_X11_would v x1 x2 x3 (fun r2 v2 => -1 = r2 ∧ SimR u none kp v2) := fun y => would_r ⟨rfl, Sim_t h⟩ y
  refine ⟨fun y => bad (Or.inl (Or.inl y)), fun a1 => ⟨fun y => bad (Or.inl (Or.inr y)), fun a2 => ⟨fun y => bad (Or.inr (Or.inl (Or.inl y))), fun b1 => ⟨fun y => bad (Or.inr (Or.inl (Or.inr y))), fun b2 => ⟨fun y => bad (Or.inr (Or.inr (Or.inl y))), fun c1 => ⟨fun c2 aa => ?_, fun c2 => bad (Or.inr (Or.inr (Or.inr (Int32.not_le.mp c2))))⟩⟩⟩⟩⟩⟩
  obtain ⟨n1, h1, rfl⟩ := in_n (hi := 999) (by omega) a1 a2
  obtain ⟨n2, h2, rfl⟩ := in_n (hi := 9) (by omega) b1 b2
  obtain ⟨n3, h3, rfl⟩ := in_n (hi := 261) (by omega) c1 (Int32.not_lt.mpr c2)
  exact o_would (u := s10_thought u (some aa)) h1 h2 h3 h.1 (K := fun r u2 w2 r2 v2 => r = r2 ∧ SimR u2 (some w2) kp v2 ∧ g10_kept u2 = g10_kept u) (fun x7 rr2 w2 v2 hf hn => ⟨rfl, Sim_w h ⟨rfl, rfl⟩ hf hn, rfl⟩)
theorem f_hi : g11_hasImage (s11_hasImage (s11_told v 0) 1) = 1 ∧ g11_words (s11_hasImage (s11_told v 0) 1) = g11_words v ∧ g11_tape (s11_hasImage (s11_told v 0) 1) = g11_tape v ∧ g11_taped (s11_hasImage (s11_told v 0) 1) = g11_taped v ∧ g11_faultKind (s11_hasImage (s11_told v 0) 1) = g11_faultKind v ∧ g11_faultPlace (s11_hasImage (s11_told v 0) 1) = g11_faultPlace v := ⟨rfl, rfl, rfl, rfl, rfl, rfl⟩
theorem f_im {A : Nat → Int32} : g11_hasImage (s11_images v A) = g11_hasImage v ∧ g11_words (s11_images v A) = g11_words v ∧ g11_tape (s11_images v A) = g11_tape v ∧ g11_taped (s11_images v A) = g11_taped v ∧ g11_faultKind (s11_images v A) = g11_faultKind v ∧ g11_faultPlace (s11_images v A) = g11_faultPlace v := ⟨rfl, rfl, rfl, rfl, rfl, rfl⟩
theorem f_re {N R : Nat → Int32} {a : Int32} : g11_now (s11_planMany (s11_plans (s11_now v N) R) a) = N ∧ g11_plans (s11_planMany (s11_plans (s11_now v N) R) a) = R ∧ g11_planMany (s11_planMany (s11_plans (s11_now v N) R) a) = a ∧ g11_hasImage (s11_planMany (s11_plans (s11_now v N) R) a) = g11_hasImage v ∧ g11_images (s11_planMany (s11_plans (s11_now v N) R) a) = g11_images v ∧ g11_words (s11_planMany (s11_plans (s11_now v N) R) a) = g11_words v ∧ g11_tape (s11_planMany (s11_plans (s11_now v N) R) a) = g11_tape v ∧ g11_taped (s11_planMany (s11_plans (s11_now v N) R) a) = g11_taped v ∧ g11_faultKind (s11_planMany (s11_plans (s11_now v N) R) a) = g11_faultKind v ∧ g11_faultPlace (s11_planMany (s11_plans (s11_now v N) R) a) = g11_faultPlace v := ⟨rfl, rfl, rfl, rfl, rfl, rfl, rfl, rfl, rfl, rfl⟩
/-- an image taken -/
theorem Sim_i (h : SimR u th kp v) (hu : g10_now u2 = g10_now u ∧ g10_tape u2 = g10_tape u) (hS : SW w2 (g11_now v)) (hs : SSc (g9_script w2) (g9_script (g10_now u))) {I : Nat → Int32} (h1 : ∀ i, i < 10700 → I i = g11_now v i) (h2 : ∀ i, i < 96 → I (10700 + i) = g11_plans v i) (h3 : I 10796 = g11_planMany v) : SimR u2 th2 (some w2) (s11_images (s11_hasImage (s11_told v 0) 1) I) := by
  obtain ⟨a1, a2, a3, a4, a5⟩ := h
  obtain ⟨f1, f2, f3, f4⟩ := f_th (v := v)
  obtain ⟨e1, e2, e3, e4, e5, e6⟩ := f_hi (v := v)
  generalize s11_hasImage (s11_told v 0) 1 = V at *
  obtain ⟨g1, g2, g3, g4⟩ := gI (v := V) (A := I)
  obtain ⟨k1, k2, k3, k4, k5, k6⟩ := f_im (v := V) (A := I)
  generalize s11_images V I = V2 at *
  refine ⟨?_, ?_, ?_, ?_, fun z => absurd z (by simp), fun w hw => ?_⟩
  · rw [hu.1, g2, f1]; exact a1
  · rw [hu.1, g2, f1, g3, f2, g4, f3]; exact a2
  · rw [hu.2]; exact TR_f a3 (k3.trans e3) (k4.trans e4) (k5.trans e5) (k6.trans e6)
  · rw [k2, e2]; exact a4
  · obtain rfl : w2 = w := Option.some.inj hw
    rw [k1, e1, g1]
    refine ⟨by decide, SW_n hS h1, PS_o a2 hs (fun i hi => ?_) h3 (h1 7 (by omega))⟩
    rw [Nat.zero_add]; exact h2 i hi
/-- an image put back -/
theorem Sim_b (h : SimR u th (some w) v) (hS : SW w2 (g11_images v)) (hs : SSc (g9_script w2) (g9_script w)) {N R : Nat → Int32} (h1 : ∀ i, i < 10700 → N i = g11_images v i) (h2 : ∀ i, i < 96 → R i = g11_images v (10700 + i)) : SimR (s10_now u w2) th (some w) (s11_planMany (s11_plans (s11_now (s11_hasImage (s11_told v 0) 1) N) R) (g11_images v 10796)) := by
  obtain ⟨a1, a2, a3, a4, a5⟩ := h
  obtain ⟨b1, b2, b3⟩ := a5.2 w rfl
  obtain ⟨f1, f2, f3, f4⟩ := f_th (v := v)
  obtain ⟨e1, e2, e3, e4, e5, e6⟩ := f_hi (v := v)
  generalize s11_hasImage (s11_told v 0) 1 = V at *
  obtain ⟨g1, g2, g3, g4, g5, g6, g7, g8, g9, g10⟩ := f_re (v := V) (N := N) (R := R) (a := g11_images v 10796)
  generalize s11_planMany (s11_plans (s11_now V N) R) (g11_images v 10796) = V2 at *
  refine ⟨?_, ?_, ?_, ?_, fun z => absurd z (by simp), fun w' hw => ?_⟩
  · rw [g1]; exact SW_n hS h1
  · rw [g1, g2, g3]
    refine PS_o b3 hs (fun i hi => ?_) rfl (h1 7 (by omega))
    rw [Nat.zero_add]; exact h2 i hi
  · exact TR_f a3 (g7.trans e3) (g8.trans e4) (g9.trans e5) (g10.trans e6)
  · rw [g6, e2]; exact a4
  · obtain rfl : w = w' := Option.some.inj hw
    rw [g4, e1, g5, f4]
    exact ⟨by decide, b2, b3⟩
theorem sim_image_s : ok_image_s SimR := by
  intro u th w v x1 hx h
  obtain ⟨b1, b2, b3⟩ := h.2.2.2.2.2 w rfl
  rcases hx with rfl | rfl
  · refine ⟨fun _ => SW_copy b2 fun w2 s1 s2 u3 hu3 => ?_, fun y => absurd rfl y⟩
    rw [hu3]
    exact x_image0 (fun N R h1 h2 => ⟨rfl, Sim_b h s1 s2 h1 h2, rfl⟩) b1
  · refine ⟨fun y => absurd y (by decide), fun _ => SW_copy h.1 fun w2 s1 s2 => ?_⟩
    exact x_image1 (fun I h1 h2 h3 => ⟨rfl, Sim_i h ⟨rfl, rfl⟩ s1 s2 h1 h2 h3, rfl⟩)
theorem sim_image_n : ok_image_n SimR := by
  intro u th v x1 hx h
  rcases hx with rfl | rfl
  · exact ⟨fun _ => x_image00 ⟨rfl, Sim_t h⟩ (h.2.2.2.2.1 rfl), fun y => absurd rfl y⟩
  · refine ⟨fun y => absurd y (by decide), fun _ a => SW_copy h.1 fun w2 s1 s2 => ?_⟩
    exact x_image1 (fun I h1 h2 h3 => ⟨rfl, Sim_i (u2 := s10_kept u (some a)) (th2 := th) h ⟨rfl, rfl⟩ s1 s2 h1 h2 h3, rfl⟩)
/-! the beginning -/
def F00 : Nat → Nat := fun k => if k = 5 then 4 else 0
theorem F00_n {k : Nat} (h : k ≠ 5) : F00 k = 0 := if_neg h
theorem F00_b : ∀ i, F00 i < 65536 := fun i => by unfold F00; split <;> omega
theorem SW_00 : SW i9 (fun _ => 0) := by
  have z : ∀ {k : Nat}, k ≠ 5 → (0 : Int32) = nI (F00 k) := fun {k} h => by rw [F00_n h]; rfl
  refine ⟨F00, fun _ => 0, fun _ => 0, 8, 8, 0, ⟨?_, ?_, ?_, ?_, ?_, ?_, ?_, ?_, rfl, rfl⟩, ?_, ?_⟩
  · exact ⟨rfl, rfl, by omega, fun _ _ => rfl, fun _ => (by decide : (0 : Nat) < 256), fun _ _ => rfl⟩
  · refine ⟨fun a ha => z (by omega), fun p hp => z (by omega), fun a ha => z (by omega), fun p hp => z (by omega), rfl, rfl, rfl, fun f hf => ?_, fun f hf => z (by omega), fun f hf hn => absurd (F00_n (by omega)) hn⟩
    rw [F00_n (by omega)]
    show (if f < 8 then (-1 : Int32) else 0) = nI 0 - 1
    rw [if_pos hf]; decide
  · exact fun t t1 t9 => ⟨z (by omega), z (by omega), z (by omega)⟩
  · refine ⟨fun a ha => rfl, fun a ha => rfl, fun t t1 t9 => ⟨rfl, z (by omega), z (by omega), fun k hk _ => ?_, fun k hk _ => ?_⟩⟩
    · rw [F00_n (by omega)] at hk; omega
    · rw [F00_n (by omega)] at hk; omega
  · exact ⟨fun a ha => z (by omega), fun p hp => z (by omega), rfl, rfl⟩
  · rw [if_pos (F00_n (by omega))]; rfl
  · exact z (by omega)
  · exact z (by omega)
  · refine ⟨⟨rfl, rfl, by omega, by omega, by omega, by omega, fun _ _ => rfl, fun _ => (by decide : (0 : Nat) < 256), fun _ _ => rfl⟩, fun k hk => z (by unfold nk at hk; omega), fun _ _ => rfl, by decide, fun _ _ _ => (by decide : (0 : Int32) &&& (-1023) = 0)⟩
  · refine ⟨⟨F00_b, ⟨fun k k1 k2 => by rw [F00_n (by omega)]; omega, fun k k1 k2 => by rw [F00_n (by omega)]; omega, fun g k k1 k2 => by rw [F00_n (by omega)]; omega, fun k k1 k2 => by rw [F00_n (by omega)]; omega⟩, ⟨by decide, fun g hg => by rw [F00_n (by omega)]; exact ⟨by omega, fun _ => rfl⟩, fun g hg hn => absurd (F00_n (by omega)) hn, fun g h hg hh _ hn => absurd (F00_n (by omega)) hn⟩, ?_, by omega, Or.inl (F00_n (by omega)), Or.inl (F00_n (by omega)), ⟨0, by omega, by rw [F00_n (by omega)]; rfl⟩, by rw [F00_n (by omega), F00_n (by omega)]; omega, by rw [F00_n (by omega)]; omega⟩, Or.inl ⟨F00_n (by omega), rfl, fun t t1 t9 => ?_⟩⟩
    · refine ⟨⟨Nat.le_refl _, Or.inl rfl⟩, fun j hj => by omega, fun j hj => ?_⟩
      obtain rfl : j = 0 := by omega
      exact ⟨by decide, by decide⟩
    · have e2 : F00 (702 + 18 * t) = 0 := F00_n (by omega)
      have e6 : F00 (706 + 18 * t) = 0 := F00_n (by omega)
      refine ⟨e2, F00_n (by omega), by omega, by rw [F00_n (by omega)]; omega, by omega, fun _ => e6, fun y => by omega, fun i hi => by omega, fun i j _ hj => by omega⟩
theorem words_00 : ∀ i, i < 77 → g11_words i11 (i + 1) = st_WORDS i := by decide
theorem sim_i : SimR i10 none none i11 := by
  refine ⟨SW_00, ⟨0, 0, by omega, by omega, rfl, rfl, rfl, rfl, fun j hj => by omega⟩, ⟨⟨0, by omega, rfl, rfl, fun i hi => by omega⟩, rfl, rfl⟩, words_00, fun _ => rfl, fun w hw => absurd hw (by simp)⟩
end
theorem sim_all : ∃ Sim : SimT, SimOK Sim := ⟨SimR, sim_i, sim_frames, sim_act, sim_write, sim_add, sim_save, sim_back, sim_roll, sim_keep, sim_crash, sim_recover, sim_feed, sim_end, sim_plan, sim_fault, sim_run, sim_at, sim_page, sim_tx, sim_log, sim_record, sim_would_s, sim_would_n, sim_victim, sim_ship, sim_stand, sim_asOf, sim_count, sim_image_s, sim_image_n, sim_look⟩
