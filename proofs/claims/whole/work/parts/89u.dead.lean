/-! ===== who comes to whom ===== -/
section
variable {m : S11} {n : Nat → Int32} {pn : Int32} {F F2 : Nat → Nat} {G G2 : Nat → Int32} {b b2 : Nat → Nat} {e f k e2 f2 c cp en : Nat} {w : S9} {P : S3} {C : S0} {R : S5} {J : S2} {U : Nat → Nat} {r : S4} {x2 : Int32} {u : S10} {W : Nat → Int32} {S S2 T X : Int32}
abbrev bt (S : Int32) (i : Nat) : Prop := ((S >>> (nI i &&& 31)) &&& 1) = 1
theorem one_01 (x : Int32) : x &&& 1 = 0 ∨ x &&& 1 = 1 := by
  have h : (x &&& 1).toBitVec.toNat = x.toBitVec.toNat % 2 := by
    rw [Int32.toBitVec_and, BitVec.toNat_and]
    exact Nat.and_one_is_mod _
  rcases Nat.mod_two_eq_zero_or_one x.toBitVec.toNat with z | z
  · exact Or.inl (Int32.toBitVec_inj.mp (BitVec.eq_of_toNat_eq (by rw [h, z]; rfl)))
  · exact Or.inr (Int32.toBitVec_inj.mp (BitVec.eq_of_toNat_eq (by rw [h, z]; rfl)))
theorem or_and1 (x y : Int32) : (x ||| y) &&& 1 = (x &&& 1) ||| (y &&& 1) := by
  rw [← Int32.toBitVec_inj]
  rw [Int32.toBitVec_and, Int32.toBitVec_or, Int32.toBitVec_or, Int32.toBitVec_and, Int32.toBitVec_and]
  ext i hi
  simp only [BitVec.getElem_and, BitVec.getElem_or]
  cases x.toBitVec[i] <;> cases y.toBitVec[i] <;> cases (1 : Int32).toBitVec[i] <;> rfl
theorem bt_or {i : Nat} : bt (S ||| T) i ↔ bt S i ∨ bt T i := by
  unfold bt
  rw [Int32.shiftRight_or, or_and1]
  rcases one_01 (S >>> (nI i &&& 31)) with a | a <;> rcases one_01 (T >>> (nI i &&& 31)) with d | d <;> rw [a, d] <;> decide
theorem bt_0 {i : Nat} : ¬ bt 0 i := by
  unfold bt
  rw [Int32.zero_shiftRight]; decide
def Rch (W : Nat → Int32) (S0 : Int32) (j : Nat) : Prop := ∀ T : Nat → Prop, (∀ j, bt S0 j → T j) → (∀ i j, 1 ≤ i → i ≤ 9 → T i → bt (W i) j → T j) → T j
theorem Rch_s {i j : Nat} (h1 : 1 ≤ i) (h9 : i ≤ 9) (h : Rch W S i) (hw : bt (W i) j) : Rch W S j := fun T a d => d i j h1 h9 (h T a d) hw
theorem Rch_0 {j : Nat} (h : bt S j) : Rch W S j := fun T a _ => a j h
def Cls (W : Nat → Int32) (T : Int32) : Prop := ∀ i j, 1 ≤ i → i ≤ 9 → bt T i → bt (W i) j → bt T j
theorem Rch_iff (h0 : ∀ j, bt S j → bt T j) (hc : Cls W T) (hs : ∀ j, bt T j → Rch W S j) (j : Nat) : bt T j ↔ Rch W S j := ⟨hs j, fun h => h (fun j => bt T j) h0 hc⟩
def cN (S : Int32) : Nat := cnt (fun i => decide (bt S i)) 9 1
theorem cnt_mono {x y : Nat → Bool} : ∀ N t, (∀ i, t ≤ i → i < t + N → x i = true → y i = true) → cnt x N t ≤ cnt y N t ∧ ((∃ i, t ≤ i ∧ i < t + N ∧ y i = true ∧ x i = false) → cnt x N t < cnt y N t) := by
  intro N
  induction N with
  | zero => intro t h; exact ⟨Nat.le_refl _, fun ⟨i, a, b, _⟩ => by omega⟩
  | succ N ih =>
    intro t h
    obtain ⟨i1, i2⟩ := ih (t + 1) fun i h1 h2 => h i (by omega) (by omega)
    unfold cnt
    have ht := h t (by omega) (by omega)
    refine ⟨?_, fun ⟨i, a1, a2, a3, a4⟩ => ?_⟩
    · cases hx : x t <;> cases hy : y t
      · simp; exact i1
      · simp; omega
      · rw [hx, hy] at ht; exact absurd (ht rfl) (by decide)
      · simp; exact i1
    · by_cases d : i = t
      · subst d
        rw [a3, a4]; simp; omega
      · have := i2 ⟨i, by omega, by omega, a3, a4⟩
        cases hx : x t <;> cases hy : y t
        · simp; exact this
        · simp; omega
        · rw [hx, hy] at ht; exact absurd (ht rfl) (by decide)
        · simp; exact this
theorem cN_lt (h : ∀ j, bt S j → bt T j) (hn : ¬ ∀ i, 1 ≤ i → i ≤ 9 → bt T i → bt S i) : cN S < cN T := by
  unfold cN
  refine (cnt_mono 9 1 fun i _ _ hi => by simp at hi ⊢; exact h i hi).2 ?_
  by_cases c : ∃ i, 1 ≤ i ∧ i < 1 + 9 ∧ decide (bt T i) = true ∧ decide (bt S i) = false
  · exact c
  · exfalso
    refine hn fun i i1 i9 hi => ?_
    by_cases d : bt S i
    · exact d
    · exact absurd ⟨i, i1, by omega, by simp; exact hi, by simp; exact d⟩ c
/-- one turn of the reference: of those that X holds -/
def mI (W : Nat → Int32) (X : Int32) : Nat → Nat → Int32 → Int32
  | 0, _, S => S
  | N + 1, i, S => mI W X N (i + 1) (if bt X i then S ||| W i else S)
theorem or_ab (a b : Int32) : a ||| b ||| b = a ||| b := by rw [Int32.or_assoc, Int32.or_self]
theorem or_sw (a b c : Int32) : a ||| b ||| c = a ||| c ||| b := by rw [Int32.or_assoc, Int32.or_comm b c, Int32.or_assoc]
theorem mI_ok : ∀ N i S, (∀ j, bt S j → bt (mI W X N i S) j) ∧ (∀ a, S ||| a = S → mI W X N i S ||| a = mI W X N i S) ∧ (∀ l, i ≤ l → l < i + N → bt X l → mI W X N i S ||| W l = mI W X N i S) ∧ ∀ S0, (∀ j, bt S j → Rch W S0 j) → (∀ j, bt X j → Rch W S0 j) → 1 ≤ i → i + N ≤ 10 → ∀ j, bt (mI W X N i S) j → Rch W S0 j := by
  intro N
  induction N with
  | zero => intro i S; exact ⟨fun j h => h, fun a h => h, fun l h1 h2 => by omega, fun S0 h _ _ _ => h⟩
  | succ N ih =>
    intro i S
    obtain ⟨q1, q2, q3, q4⟩ := ih (i + 1) (if bt X i then S ||| W i else S)
    show (∀ j, bt S j → bt (mI W X N (i + 1) (if bt X i then S ||| W i else S)) j) ∧ (∀ a, S ||| a = S → mI W X N (i + 1) (if bt X i then S ||| W i else S) ||| a = mI W X N (i + 1) (if bt X i then S ||| W i else S)) ∧ (∀ l, i ≤ l → l < i + (N + 1) → bt X l → mI W X N (i + 1) (if bt X i then S ||| W i else S) ||| W l = mI W X N (i + 1) (if bt X i then S ||| W i else S)) ∧ ∀ S0, (∀ j, bt S j → Rch W S0 j) → (∀ j, bt X j → Rch W S0 j) → 1 ≤ i → i + (N + 1) ≤ 10 → ∀ j, bt (mI W X N (i + 1) (if bt X i then S ||| W i else S)) j → Rch W S0 j
    refine ⟨fun j h => q1 j ?_, fun a h => q2 a ?_, fun l h1 h2 hl => ?_, fun S0 h hX h1 h10 => q4 S0 (fun j hj => ?_) hX (by omega) (by omega)⟩
    · split
      · exact bt_or.mpr (Or.inl h)
      · exact h
    · split
      · rw [or_sw, h]
      · exact h
    · by_cases d : l = i
      · subst d
        refine q2 _ ?_
        rw [if_pos hl, or_ab]
      · exact q3 l (by omega) (by omega) hl
    · split at hj
      · rename_i c
        rcases bt_or.mp hj with z | z
        · exact h j z
        · exact Rch_s h1 (by omega) (hX i c) z
      · exact h j hj
theorem mI_fix (hX : ∀ l, 1 ≤ l → l ≤ 9 → bt X l → S ||| W l = S) : ∀ N i, 1 ≤ i → i + N ≤ 10 → mI W X N i S = S := by
  intro N
  induction N with
  | zero => intro i _ _; rfl
  | succ N ih =>
    intro i h1 h10
    show mI W X N (i + 1) (if bt X i then S ||| W i else S) = S
    by_cases c : bt X i
    · rw [if_pos c, hX i h1 (by omega) c]; exact ih (i + 1) (by omega) (by omega)
    · rw [if_neg c]; exact ih (i + 1) (by omega) (by omega)
theorem x_ct23 {k13 : Int32 → Int32 → Prop} {Q : Int32 → Prop} (hW : ∀ i, 1 ≤ i → i ≤ 9 → n (1394 + i) = W i) : ∀ N i S, N + i = 10 → 1 ≤ i → k13 (mI W X N i S) X → wp_X11_comesTo_23 (mS m n pn) k13 Q (N + 1) S X (nI i) := by
  intro N
  induction N with
  | zero => intro i S hi h1 q; exact pk_lt 9 i (fun _ => q) (fun z => by omega)
  | succ N ih =>
    intro i S hi h1 q
    have q : k13 (mI W X N (i + 1) (if bt X i then S ||| W i else S)) X := q
    refine pk_lt 9 i (fun z => by omega) (fun _ => ?_)
    by_cases c : bt X i
    · rw [if_pos c] at q
      refine ⟨fun _ => ⟨fun z => absurd z (by decide), fun _ => ?_⟩, fun z => absurd c z⟩
      rw [show (1394 : Int32) + nI i = nI (1394 + i) from nI_add 1394 i, nI_clamp (by omega), gmS, hW i h1 (by omega)]
      refine ⟨ivp (by omega) (by omega), fun S2 hS2 y hy => ?_⟩
      rw [hy, nI_1, hS2]; exact ih (i + 1) _ (by omega) (by omega) q
    · rw [if_neg c] at q
      refine ⟨fun z => absurd z c, fun _ => ⟨fun _ y hy => ?_, fun z => absurd rfl z⟩⟩
      rw [hy, nI_1]; exact ih (i + 1) _ (by omega) (by omega) q
theorem x_ct13 (hW : ∀ i, 1 ≤ i → i ≤ 9 → n (1394 + i) = W i) {S0 : Int32} {Q : Int32 → Prop} (q : ∀ T, (∀ j, bt T j ↔ Rch W S0 j) → Q T) : ∀ d S X, 9 - cN S ≤ d → (∀ j, bt S0 j → bt S j) → (∀ j, bt S j → Rch W S0 j) → (S = X → Cls W S) → ∃ N, wp_X11_comesTo_13 (mS m n pn) Q N S X := by
  have st : ∀ S X N, S ≠ X → wp_X11_comesTo_13 (mS m n pn) Q N (mI W S 9 1 S) S → wp_X11_comesTo_13 (mS m n pn) Q (N + 1) S X := fun S X N hn h => ⟨fun z => absurd z hn, fun _ => ⟨10, x_ct23 hW 9 1 S (by omega) (by omega) h⟩⟩
  have fin : ∀ S, (∀ j, bt S0 j → bt S j) → (∀ j, bt S j → Rch W S0 j) → Cls W S → ∀ N X, S = X → wp_X11_comesTo_13 (mS m n pn) Q (N + 1) S X := fun S h0 hs hc N X hX => ⟨fun _ => q S (Rch_iff h0 hc hs), fun z => absurd hX z⟩
  intro d
  induction d with
  | zero =>
    intro S X hd h0 hs hX
    by_cases c : S = X
    · exact ⟨1, fin S h0 hs (hX c) 0 X c⟩
    · obtain ⟨m1, m2, m3, m4⟩ := mI_ok (W := W) (X := S) 9 1 S
      have hs2 := m4 S0 hs hs (by omega) (by omega)
      have h02 : ∀ j, bt S0 j → bt (mI W S 9 1 S) j := fun j hj => m1 j (h0 j hj)
      have hle : cN (mI W S 9 1 S) ≤ 9 := cnt_le _ _ _
      have ag : ∀ i, 1 ≤ i → i ≤ 9 → bt (mI W S 9 1 S) i → bt S i := by
        by_cases y : ∀ i, 1 ≤ i → i ≤ 9 → bt (mI W S 9 1 S) i → bt S i
        · exact y
        · have := cN_lt m1 y; omega
      have cl : Cls W (mI W S 9 1 S) := fun i j i1 i9 hi hw => by
        rw [← m3 i i1 (by omega) (ag i i1 i9 hi)]; exact bt_or.mpr (Or.inr hw)
      by_cases c2 : mI W S 9 1 S = S
      · exact ⟨2, st S X 1 c (fin _ h02 hs2 cl 0 S c2)⟩
      · refine ⟨3, st S X 2 c (st _ S 1 c2 ?_)⟩
        have fx : mI W (mI W S 9 1 S) 9 1 (mI W S 9 1 S) = mI W S 9 1 S := mI_fix (fun l l1 l9 hl => m3 l l1 (by omega) (ag l l1 l9 hl)) 9 1 (by omega) (by omega)
        rw [fx]
        exact fin _ h02 hs2 cl 0 _ rfl
  | succ d ih =>
    intro S X hd h0 hs hX
    by_cases c : S = X
    · exact ⟨1, fin S h0 hs (hX c) 0 X c⟩
    · obtain ⟨m1, m2, m3, m4⟩ := mI_ok (W := W) (X := S) 9 1 S
      have hs2 := m4 S0 hs hs (by omega) (by omega)
      have h02 : ∀ j, bt S0 j → bt (mI W S 9 1 S) j := fun j hj => m1 j (h0 j hj)
      by_cases y : ∀ i, 1 ≤ i → i ≤ 9 → bt (mI W S 9 1 S) i → bt S i
      · have cl : Cls W (mI W S 9 1 S) := fun i j i1 i9 hi hw => by
          rw [← m3 i i1 (by omega) (y i i1 i9 hi)]; exact bt_or.mpr (Or.inr hw)
        by_cases c2 : mI W S 9 1 S = S
        · exact ⟨2, st S X 1 c (fin _ h02 hs2 cl 0 S c2)⟩
        · refine ⟨3, st S X 2 c (st _ S 1 c2 ?_)⟩
          have fx : mI W (mI W S 9 1 S) 9 1 (mI W S 9 1 S) = mI W S 9 1 S := mI_fix (fun l l1 l9 hl => m3 l l1 (by omega) (y l l1 l9 hl)) 9 1 (by omega) (by omega)
          rw [fx]
          exact fin _ h02 hs2 cl 0 _ rfl
      · have hlt := cN_lt m1 y
        obtain ⟨N, hN⟩ := ih (mI W S 9 1 S) S (by omega) h02 hs2 (fun z => fun i j i1 i9 hi hw => by
          have hi2 : bt S i := by rw [← z]; exact hi
          rw [← m3 i i1 (by omega) hi2]; exact bt_or.mpr (Or.inr hw))
        exact ⟨N + 1, st S X N c hN⟩
theorem x_comesTo (hR : isR n F G b e f) {t : Nat} (h1 : 1 ≤ t) (h9 : t ≤ 9) {Q : Int32 → Prop} (q : ∀ T, (∀ j, bt T j ↔ Rch (fun i => G (1394 + i)) (G (1394 + t)) j) → Q T) : wp_X11_comesTo (mS m n pn) (nI t) Q := by
  have hW : ∀ i, 1 ≤ i → i ≤ 9 → n (1394 + i) = (fun i => G (1394 + i)) i := fun i i1 i9 => hR.2.2.1 _ (by unfold gk; omega)
  unfold wp_X11_comesTo
  rw [show (1394 : Int32) + nI t = nI (1394 + t) from nI_add 1394 t, nI_clamp (by omega), gmS, hR.2.2.1 (1394 + t) (by unfold gk; omega)]
  refine ⟨ivp (by omega) (by omega), fun S hS => ?_⟩
  rw [hS]
  exact x_ct13 hW q _ (G (1394 + t)) 0 (Nat.le_refl _) (fun _ h => h) (fun _ h => Rch_0 h) (fun z i j i1 i9 hi hw => absurd (by rw [z] at hi; exact hi) bt_0)
end
