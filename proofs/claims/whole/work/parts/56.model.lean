/-! ===== the reference writes: its state is a start with another row and another pen ===== -/
abbrev mS (m : S11) (n : Nat → Int32) (p : Int32) : S11 := s11_laidAt (s11_now m n) p
theorem x_lays {m : S11} {n : Nat → Int32} {p : Nat} {x : Int32} (hp : p < 9020) {Q : S11 → Prop} (q : Q (mS m (upd n (1680 + p) x) (nI (p + 1)))) : wp_X11_lays (mS m n (nI p)) x Q := by
  have e1 : (1680 : Int32) + nI p = nI (1680 + p) := nI_add 1680 p
  have e2 : g11_laidAt (mS m n (nI p)) = nI p := rfl
  unfold wp_X11_lays
  rw [e2, e1, nI_clamp (by omega)]
  refine ⟨ivp (by omega) (by omega), fun u1 h1 u2 h2 => ?_⟩
  subst h1
  have e3 : g11_laidAt (s11_now (mS m n (nI p)) (upd (g11_now (mS m n (nI p))) (1680 + p) x)) = nI p := rfl
  rw [e3, nI_1] at h2
  subst h2
  exact q
theorem x_laysTwo {m : S11} {n : Nat → Int32} {p v : Nat} (hp : p < 9019) (hv : v < 65536) {Q : S11 → Prop} (q : Q (mS m (upd (upd n (1680 + p) (nI (v / 256))) (1680 + (p + 1)) (nI (v % 256))) (nI (p + 1 + 1)))) : wp_X11_laysTwo (mS m n (nI p)) (nI v) Q := by
  unfold wp_X11_laysTwo
  rw [div256 (by omega), show nI v - nI (v / 256) * 256 = nI (v % 256) from by rw [← div256 (by omega)]; exact rem256 (by omega)]
  exact x_lays (by omega) (x_lays (by omega) q)
