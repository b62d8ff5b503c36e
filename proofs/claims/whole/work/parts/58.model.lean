theorem layL_lt {n : Nat → Int32} {e j : Nat} {ds : List Nat} (h : j < 1680) : layL n e ds j = n j := by
  unfold layL
  rw [if_neg (fun z => by omega)]
theorem x_opens {m : S11} {n : Nat → Int32} {p : Int32} {b : Nat → Nat} {e f kd lg wh pv : Nat} (h : isM n b e f) (hw : wh ≤ 9) (hp0 : wh = 0 → pv = 0) (hpv : wh ≠ 0 → n (720 + 18 * (wh - 1) + 1) = nI pv) (hv : pv < 65536) {Q : S11 → Prop} (q : Q (mS m (layL n e [kd, lg, wh, pv / 256, pv % 256]) (nI (e + 5)))) : wp_X11_opens (mS m n p) (nI kd) (nI lg) (nI wh) Q := by
  have h3 := h.2.2.2.2.1
  refine x_end1 (m := mS m n p) h fun u1 h1 => ?_
  have h1 : u1 = mS m (layL n e []) (nI (e + ([] : List Nat).length)) := by rw [h1, layL_nil]; rfl
  subst h1
  refine x_layL (d := kd) (by simp; omega) ?_
  refine x_layL (d := lg) (by simp; omega) ?_
  refine x_layL (d := wh) (by simp; omega) ?_
  have fin : ∀ y : Int32, y = nI pv → wp_X11_opens_44 Q y (mS m (layL n e (([] ++ [kd]) ++ [lg] ++ [wh])) (nI (e + (([] ++ [kd]) ++ [lg] ++ [wh]).length))) := by
    intro y hy
    subst hy
    unfold wp_X11_opens_44 wp_X11_laysTwo
    rw [div256 (by omega), show nI pv - nI (pv / 256) * 256 = nI (pv % 256) from by rw [← div256 (by omega)]; exact rem256 (by omega)]
    exact x_layL (by simp; omega) (x_layL (by simp; omega) q)
  have k0 : nI wh = 0 ↔ wh = 0 := nI_eq (b := 0) (by omega) (by omega)
  refine ⟨fun c => fin 0 (by rw [hp0 (k0.mp c)]; rfl), fun c => ?_⟩
  have c : wh ≠ 0 := fun z => c (k0.mpr z)
  obtain ⟨w, rfl⟩ : ∃ w, wh = w + 1 := ⟨wh - 1, by omega⟩
  have e1 : (720 : Int32) + 18 * (nI (w + 1) - 1) + 1 = nI (720 + 18 * w + 1) := by
    show nI 720 + nI 18 * (nI (w + 1) - 1) + nI 1 = _
    rw [nI_pred, pk_mul, nI_add, nI_add]
  show vp_in (720 + 18 * (nI (w + 1) - 1) + 1) 10700 ∧ _
  rw [e1, nI_clamp (by omega)]
  refine ⟨ivp (by omega) (by omega), fin _ ?_⟩
  show layL n e _ (720 + 18 * w + 1) = _
  rw [layL_lt (by omega)]
  have := hpv c
  rwa [show w + 1 - 1 = w by omega] at this
