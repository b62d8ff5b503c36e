/-- the row n with the numbers ds laid behind place e of the log -/
def layL (n : Nat → Int32) (e : Nat) (ds : List Nat) : Nat → Int32 := fun j => if 1680 + e ≤ j ∧ j < 1680 + e + ds.length then nI (ds.getD (j - (1680 + e)) 0) else n j
theorem layL_nil (n : Nat → Int32) (e : Nat) : layL n e [] = n := by
  funext j
  unfold layL
  rw [if_neg (by simp)]
theorem layL_put (n : Nat → Int32) (e : Nat) (ds : List Nat) (d : Nat) : upd (layL n e ds) (1680 + (e + ds.length)) (nI d) = layL n e (ds ++ [d]) := by
  funext j
  by_cases c : j = 1680 + (e + ds.length)
  · subst c
    rw [pk_us]
    unfold layL
    rw [if_pos ⟨by omega, by rw [List.length_append]; simp; omega⟩, getD_app, if_neg (by omega), if_pos (by omega)]
  · rw [pk_un c]
    unfold layL
    by_cases g : 1680 + e ≤ j ∧ j < 1680 + e + ds.length
    · rw [if_pos g, if_pos ⟨g.1, by rw [List.length_append]; simp; omega⟩, getD_app, if_pos (by omega)]
    · rw [if_neg g, if_neg (fun z => g ⟨z.1, by have := z.2; rw [List.length_append] at this; simp at this; omega⟩)]
theorem x_layL {m : S11} {n : Nat → Int32} {e d : Nat} {ds : List Nat} (hp : e + ds.length < 9020) {Q : S11 → Prop} (q : Q (mS m (layL n e (ds ++ [d])) (nI (e + (ds ++ [d]).length)))) : wp_X11_lays (mS m (layL n e ds) (nI (e + ds.length))) (nI d) Q := by
  refine x_lays hp ?_
  rw [layL_put]
  rw [List.length_append] at q
  exact q
