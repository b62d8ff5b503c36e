/-! ===== recovery: one attempt, both sides ===== -/
section
variable {m : S11} {n : Nat → Int32} {pn : Int32} {F F2 : Nat → Nat} {G G2 : Nat → Int32} {b b2 : Nat → Nat} {e f k e2 f2 c cp en : Nat} {w : S9} {P : S3} {C : S0} {R : S5} {J : S2} {U : Nat → Nat} {r : S4} {x2 : Int32}
theorem add_0 (x : Int32) : x + nI 0 = x := Int32.add_zero x
theorem e4_0 (h : g4_written r = 0) : e4 r 0 0 = r := by
  have h : nI (0 + 0) = g4_written r := h.symm
  unfold e4
  rw [add_0, add_0, h]
theorem eM_0 (h : g11_recovered m = 0) : eM m (0 + 0) 0 0 = m := by
  have h : nI (0 + 0) = g11_recovered m := h.symm
  unfold eM
  rw [add_0, add_0, h]
theorem crF_cur : crF (curF F) = crF F := by
  funext j
  unfold crF curF
  by_cases c1 : 560 ≤ j ∧ j < 882
  · rw [if_pos c1, if_pos c1]
  · rw [if_neg c1, if_neg c1, if_neg (show ¬ (722 ≤ j ∧ j < 882 ∧ (j - 704) % 18 = 0) by omega)]
/-- the fields that an attempt uses -/
def mR (m : S11) (a b c d l : Int32) (V : Nat → Int32) : S11 := s11_unclean (s11_losers (s11_ended (s11_compensated (s11_recovered (s11_mayWrite m a) b) c) d) l) V
def r4 (r2 r : S4) (cp en : Nat) (rd ls : Int32) : Prop := g4_written r2 = nI (cp + en) ∧ g4_compensated r2 = g4_compensated r + nI cp ∧ g4_ended r2 = g4_ended r + nI en ∧ g4_redoneInAll r2 = g4_redoneInAll r + rd ∧ g4_losers r2 = (if g4_analysed r = 0 then ls else g4_losers r) ∧ g4_analysed r2 = (if g4_analysed r = 0 then 1 else g4_analysed r)
theorem x_cur {Q : S11 → Prop} (hb : ∀ i, F i < 65536) : ∀ N t n F2, N + t = 10 → 1 ≤ t → isR n F2 G b e f → (∀ j, F2 j = if j < 704 + 18 * t then curF F j else F j) → (∀ n2, isR n2 (curF F) G b e f → wp_X11_recovers_87 Q 1 (nI 10) (mS m n2 pn)) → wp_X11_recovers_87 Q (N + 1) (nI t) (mS m n pn) := by
  intro N
  induction N with
  | zero =>
    intro t n F2 ht h1 hR hF q
    obtain rfl : t = 10 := by omega
    refine q n (isR_F hR fun j => ?_)
    rw [hF j]
    by_cases c : j < 704 + 18 * 10
    · rw [if_pos c]
    · rw [if_neg c, curF_n (fun u _ _ => by omega)]
  | succ N ih =>
    intro t n F2 ht h1 hR hF q
    refine pk_lt 9 t (fun z => by omega) (fun _ => ?_)
    simp only [wp_X11_txAt]
    have e1 : (720 : Int32) + 18 * (nI t - 1) + 1 = nI (703 + 18 * t) := by rw [show (720 : Int32) + 18 * (nI t - 1) + 1 = nI (702 + 18 * t + 1) from txA t h1 1]; congr 1; omega
    have e2 : (720 : Int32) + 18 * (nI t - 1) + 2 = nI (704 + 18 * t) := by rw [show (720 : Int32) + 18 * (nI t - 1) + 2 = nI (702 + 18 * t + 2) from txA t h1 2]; congr 1; omega
    have hl : F2 (703 + 18 * t) = F (703 + 18 * t) := by rw [hF, if_pos (by omega), curF_n (fun u _ _ => by omega)]
    rw [e1, e2, nI_clamp (n := 703 + 18 * t) (by omega), nI_clamp (n := 704 + 18 * t) (by omega), gmS, hR.2.1 _ (show nk (703 + 18 * t) by unfold nk; omega), hl]
    refine ⟨ivp (by omega) (by omega), ivp (by omega) (by omega), fun v hv y hy => ?_⟩
    rw [hy, nI_1, hv]
    refine ih (t + 1) _ (updN F2 (704 + 18 * t) (F (703 + 18 * t))) (by omega) (by omega) (isR_wr hR (by unfold nk; omega)) (fun j => ?_) q
    by_cases d : j = 704 + 18 * t
    · rw [d, uNs, if_pos (by omega), curF_c h1 (by omega)]
    · rw [uNn d, hF j]
      by_cases d2 : j < 704 + 18 * t
      · rw [if_pos d2, if_pos (by omega)]
      · rw [if_neg d2]
        by_cases d3 : j < 704 + 18 * (t + 1)
        · rw [if_pos d3, curF_n (fun u _ _ => by omega)]
        · rw [if_neg d3]
end
