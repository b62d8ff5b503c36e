/-! ===== sets and counts; the lists of a checkpoint's end ===== -/
section
variable {F F2 : Nat → Nat} {G : Nat → Int32} {Sp : Nat → Prop}
def bitI (t : Nat) : Int32 := 1 <<< (nI t &&& 31)
def orL (x : Nat → Bool) : Nat → Nat → Int32 → Int32
  | 0, _, a => a
  | N + 1, t, a => orL x N (t + 1) (if x t = true then a ||| bitI t else a)
def cnt (x : Nat → Bool) : Nat → Nat → Nat
  | 0, _ => 0
  | N + 1, t => (if x t = true then 1 else 0) + cnt x N (t + 1)
theorem orL_or (x y : Nat → Bool) : ∀ N t a c, orL x N t a ||| orL y N t c = orL (fun i => x i || y i) N t (a ||| c) := by
  intro N
  induction N with
  | zero => intro t a c; rfl
  | succ N ih =>
    intro t a c
    show orL x N (t + 1) (if x t = true then a ||| bitI t else a) ||| orL y N (t + 1) (if y t = true then c ||| bitI t else c) = orL _ N (t + 1) (if (x t || y t) = true then (a ||| c) ||| bitI t else a ||| c)
    rw [ih]
    have e : (if x t = true then a ||| bitI t else a) ||| (if y t = true then c ||| bitI t else c) = (if (x t || y t) = true then (a ||| c) ||| bitI t else a ||| c) := by
      cases x t <;> cases y t
      · rfl
      · show a ||| (c ||| bitI t) = a ||| c ||| bitI t
        rw [Int32.or_assoc]
      · show a ||| bitI t ||| c = a ||| c ||| bitI t
        rw [Int32.or_assoc, Int32.or_comm (bitI t) c, ← Int32.or_assoc]
      · show (a ||| bitI t) ||| (c ||| bitI t) = a ||| c ||| bitI t
        rw [Int32.or_assoc a, ← Int32.or_assoc (bitI t) c, Int32.or_comm (bitI t) c, Int32.or_assoc c, Int32.or_self, ← Int32.or_assoc]
    rw [e]
theorem orL_c {x y : Nat → Bool} : ∀ N t a, (∀ i, t ≤ i → i < t + N → x i = y i) → orL x N t a = orL y N t a := by
  intro N
  induction N with
  | zero => intro t a _; rfl
  | succ N ih =>
    intro t a h
    show orL x N (t + 1) _ = orL y N (t + 1) _
    rw [h t (by omega) (by omega), ih _ _ fun i h1 h2 => h i (by omega) (by omega)]
theorem cnt_c {x y : Nat → Bool} : ∀ N t, (∀ i, t ≤ i → i < t + N → x i = y i) → cnt x N t = cnt y N t := by
  intro N
  induction N with
  | zero => intro t _; rfl
  | succ N ih =>
    intro t h
    show _ + cnt x N (t + 1) = _ + cnt y N (t + 1)
    rw [h t (by omega) (by omega), ih _ fun i h1 h2 => h i (by omega) (by omega)]
theorem cnt_le (x : Nat → Bool) : ∀ N t, cnt x N t ≤ N := by
  intro N
  induction N with
  | zero => intro t; exact Nat.le_refl _
  | succ N ih =>
    intro t
    have := ih (t + 1)
    show _ + cnt x N (t + 1) ≤ _
    split <;> omega
theorem cnt_app (x : Nat → Bool) : ∀ N M t, cnt x (N + M) t = cnt x N t + cnt x M (t + N) := by
  intro N
  induction N with
  | zero => intro M t; rw [Nat.zero_add]; show _ = 0 + _; rw [Nat.zero_add]; rfl
  | succ N ih =>
    intro M t
    rw [show N + 1 + M = (N + M) + 1 by omega]
    show _ + cnt x (N + M) (t + 1) = _ + cnt x N (t + 1) + _
    rw [ih, show t + 1 + N = t + (N + 1) by omega, Nat.add_assoc]
theorem cnt_0 (x : Nat → Bool) : ∀ N t, (∀ i, t ≤ i → i < t + N → x i = false) → cnt x N t = 0 := by
  intro N
  induction N with
  | zero => intro t _; rfl
  | succ N ih =>
    intro t h
    show _ + cnt x N (t + 1) = 0
    rw [h t (by omega) (by omega), ih _ fun i h1 h2 => h i (by omega) (by omega)]
    rfl
/-- Java's bitCount -/
def bcI (x : Int32) : Int32 :=
  let y1 := x - (((x.toUInt32 >>> (Int32.toUInt32 1 &&& Int32.toUInt32 31)).toInt32) &&& 1431655765)
  let y2 := (y1 &&& 858993459) + (((y1.toUInt32 >>> (Int32.toUInt32 2 &&& Int32.toUInt32 31)).toInt32) &&& 858993459)
  let y3 := (y2 + ((y2.toUInt32 >>> (Int32.toUInt32 4 &&& Int32.toUInt32 31)).toInt32)) &&& 252645135
  let y4 := y3 + ((y3.toUInt32 >>> (Int32.toUInt32 8 &&& Int32.toUInt32 31)).toInt32)
  let y5 := y4 + ((y4.toUInt32 >>> (Int32.toUInt32 16 &&& Int32.toUInt32 31)).toInt32)
  y5 &&& 63
theorem bc_9 : ∀ b1 b2 b3 b4 b5 b6 b7 b8 b9 : Bool, bcI (orL (fun t => [false, b1, b2, b3, b4, b5, b6, b7, b8, b9].getD t false) 9 1 0) = nI (cnt (fun t => [false, b1, b2, b3, b4, b5, b6, b7, b8, b9].getD t false) 9 1) := by decide +kernel
theorem bc_or (x : Nat → Bool) : bcI (orL x 9 1 0) = nI (cnt x 9 1) := by
  have h : ∀ i, 1 ≤ i → i < 1 + 9 → x i = [false, x 1, x 2, x 3, x 4, x 5, x 6, x 7, x 8, x 9].getD i false := by
    intro i h1 h2
    have : i = 1 ∨ i = 2 ∨ i = 3 ∨ i = 4 ∨ i = 5 ∨ i = 6 ∨ i = 7 ∨ i = 8 ∨ i = 9 := by omega
    rcases this with rfl | rfl | rfl | rfl | rfl | rfl | rfl | rfl | rfl <;> rfl
  rw [orL_c 9 1 0 h, cnt_c 9 1 h]
  exact bc_9 ..
theorem w_bitCount {x : Int32} {Q : Int32 → Prop} (q : Q (bcI x)) : wp_J6_bitCount_0f7a4 x Q := by
  intro a ha b hb c hc d hd e he
  subst ha hb hc hd he
  exact q
/-- lists put behind one another -/
def cat (f : Nat → List Nat) : List Nat → List Nat
  | [] => []
  | t :: ts => f t ++ cat f ts
theorem cat_len {f : Nat → List Nat} {wd : Nat} (hf : ∀ t, (f t).length = wd) : ∀ ts, (cat f ts).length = wd * ts.length := by
  intro ts
  induction ts with
  | nil => rfl
  | cons t ts ih => show (f t ++ cat f ts).length = _; rw [List.length_append, hf, ih, List.length_cons, Nat.mul_succ, Nat.add_comm]
theorem getD_l {l r : List Nat} {i : Nat} (h : i < l.length) : (l ++ r).getD i 0 = l.getD i 0 := by simp [List.getD, List.getElem?_append_left h]
theorem getD_r {l r : List Nat} {i : Nat} : (l ++ r).getD (l.length + i) 0 = r.getD i 0 := by simp [List.getD, List.getElem?_append_right (show l.length ≤ l.length + i by omega)]
theorem cat_get {f : Nat → List Nat} {wd : Nat} (hf : ∀ t, (f t).length = wd) : ∀ ts i j, i < ts.length → j < wd → (cat f ts).getD (wd * i + j) 0 = (f (ts.getD i 0)).getD j 0 := by
  intro ts
  induction ts with
  | nil => intro i j hi; exact absurd hi (by simp)
  | cons t ts ih =>
    intro i j hi hj
    show (f t ++ cat f ts).getD _ 0 = _
    cases i with
    | zero => rw [Nat.mul_zero, Nat.zero_add, getD_l (by rw [hf]; exact hj)]; rfl
    | succ i =>
      have := ih i j (by simp at hi; omega) hj
      rw [Nat.mul_succ, show wd * i + wd + j = (f t).length + (wd * i + j) by rw [hf]; omega, getD_r, this]
      rfl
def selL (x : Nat → Bool) : Nat → Nat → List Nat
  | 0, _ => []
  | N + 1, t => if x t = true then t :: selL x N (t + 1) else selL x N (t + 1)
theorem sel_len (x : Nat → Bool) : ∀ N t, (selL x N t).length = cnt x N t := by
  intro N
  induction N with
  | zero => intro t; rfl
  | succ N ih =>
    intro t
    unfold selL cnt
    split
    · rw [List.length_cons, ih]; omega
    · rw [ih]; omega
theorem sel_mem (x : Nat → Bool) : ∀ N t i, i < (selL x N t).length → t ≤ (selL x N t).getD i 0 ∧ (selL x N t).getD i 0 < t + N ∧ x ((selL x N t).getD i 0) = true := by
  intro N
  induction N with
  | zero => intro t i hi; exact absurd hi (by unfold selL; simp)
  | succ N ih =>
    intro t i hi
    unfold selL at hi ⊢
    by_cases c : x t = true
    · rw [if_pos c] at hi ⊢
      cases i with
      | zero => exact ⟨Nat.le_refl _, by show t < _; omega, c⟩
      | succ i =>
        obtain ⟨h1, h2, h3⟩ := ih (t + 1) i (by simp at hi; omega)
        exact ⟨by show t ≤ (selL x N (t + 1)).getD i 0; omega, by show (selL x N (t + 1)).getD i 0 < _; omega, h3⟩
    · rw [if_neg c] at hi ⊢
      obtain ⟨h1, h2, h3⟩ := ih (t + 1) i hi
      exact ⟨by omega, by omega, h3⟩
theorem sel_all (x : Nat → Bool) : ∀ N t u, t ≤ u → u < t + N → x u = true → ∃ i, i < (selL x N t).length ∧ (selL x N t).getD i 0 = u := by
  intro N
  induction N with
  | zero => intro t u h1 h2; omega
  | succ N ih =>
    intro t u h1 h2 hx
    unfold selL
    by_cases c : x t = true
    · rw [if_pos c]
      by_cases d : u = t
      · exact ⟨0, by simp, by rw [d]; rfl⟩
      · obtain ⟨i, i1, i2⟩ := ih (t + 1) u (by omega) (by omega) hx
        exact ⟨i + 1, by simp; omega, i2⟩
    · rw [if_neg c]
      by_cases d : u = t
      · rw [d] at hx; exact absurd hx c
      · exact ih (t + 1) u (by omega) (by omega) hx
/-- sums of numbers -/
def sumF (g : Nat → Nat) : Nat → Nat
  | 0 => 0
  | N + 1 => sumF g N + g N
theorem sumF_c {g h : Nat → Nat} : ∀ N, (∀ i, i < N → g i = h i) → sumF g N = sumF h N := by
  intro N
  induction N with
  | zero => intro _; rfl
  | succ N ih => intro hh; show sumF g N + g N = sumF h N + h N; rw [ih fun i hi => hh i (by omega), hh N (by omega)]
theorem sumF_add (g h : Nat → Nat) : ∀ N, sumF (fun i => g i + h i) N = sumF g N + sumF h N := by
  intro N
  induction N with
  | zero => rfl
  | succ N ih => show sumF _ N + (g N + h N) = sumF g N + g N + (sumF h N + h N); rw [ih]; omega
theorem sumF_0 : ∀ N, sumF (fun _ => 0) N = 0 := by
  intro N
  induction N with
  | zero => rfl
  | succ N ih => show sumF _ N + 0 = 0; rw [ih]
theorem sumF_swap (g : Nat → Nat → Nat) : ∀ N M, sumF (fun i => sumF (fun j => g i j) M) N = sumF (fun j => sumF (fun i => g i j) N) M := by
  intro N M
  induction N with
  | zero => show 0 = sumF (fun _ => 0) M; rw [sumF_0]
  | succ N ih =>
    show sumF _ N + sumF (fun j => g N j) M = sumF (fun j => sumF (fun i => g i j) N + g N j) M
    rw [ih, sumF_add]
theorem sumF_one {g : Nat → Nat} {a c : Nat} : ∀ N, a < N → (∀ i, i < N → g i = if i = a then c else 0) → sumF g N = c := by
  intro N
  induction N with
  | zero => intro h; omega
  | succ N ih =>
    intro ha h
    show sumF g N + g N = c
    by_cases d : a = N
    · subst d
      rw [h a (by omega), if_pos rfl, sumF_c (h := fun _ => 0) a fun i hi => by rw [h i (by omega), if_neg (by omega)], sumF_0]; omega
    · rw [ih (by omega) fun i hi => h i (by omega), h N (by omega), if_neg (fun z => d z.symm)]; rfl
theorem cnt_sum (x : Nat → Bool) : ∀ N, cnt x N 0 = sumF (fun i => if x i = true then 1 else 0) N := by
  intro N
  induction N with
  | zero => rfl
  | succ N ih => rw [cnt_app x N 1 0, ih]; show _ + (_ + 0) = _ + _; rw [Nat.zero_add]; rfl
/-- frames that are not clean; pages that are in one -/
def unB (F : Nat → Nat) (g : Nat) : Bool := decide (F (562 + 20 * g) ≠ 0)
def pgB (F : Nat → Nat) (p : Nat) : Bool := decide (fo F p < F 5 ∧ F (562 + 20 * fo F p) ≠ 0)
theorem un_pg (h : IFr F Sp) : cnt (unB F) 8 0 = cnt (pgB F) 16 0 := by
  obtain ⟨a1, a2, a3, a4⟩ := h
  have fo_at : ∀ g, g < 8 → F (560 + 20 * g) ≠ 0 → fo F (F (560 + 20 * g) - 1) = g ∧ g < F 5 := by
    intro g hg hn
    have hg5 : g < F 5 := by
      by_cases c : g < F 5
      · exact c
      · exact absurd ((a2 g hg).2 (by omega)) hn
    refine ⟨?_, hg5⟩
    by_cases c : fo F (F (560 + 20 * g) - 1) < F 5
    · have h1 := fo_held c
      exact a4 _ _ (by omega) hg (by omega) (by omega)
    · exact absurd (by omega) (fo_not c hg5)
  rw [cnt_sum, cnt_sum]
  have e1 : sumF (fun g => if unB F g = true then 1 else 0) 8 = sumF (fun g => sumF (fun p => if unB F g = true ∧ F (560 + 20 * g) = p + 1 then 1 else 0) 16) 8 := by
    refine sumF_c 8 fun g hg => ?_
    by_cases c : unB F g = true
    · have hz : F (562 + 20 * g) ≠ 0 := by unfold unB at c; exact of_decide_eq_true c
      obtain ⟨n1, -, -⟩ := a3 g hg hz
      have := (a2 g hg).1
      rw [if_pos c]
      refine (sumF_one (a := F (560 + 20 * g) - 1) 16 (by omega) fun p hp => ?_).symm
      by_cases d : p = F (560 + 20 * g) - 1
      · rw [if_pos d, if_pos ⟨c, by omega⟩]
      · rw [if_neg d, if_neg (fun z => d (by omega))]
    · rw [if_neg c]
      exact (sumF_c (h := fun _ => 0) 16 (fun p hp => if_neg (fun z => c z.1)) |>.trans (sumF_0 16)).symm
  rw [e1, sumF_swap]
  refine sumF_c 16 fun p hp => ?_
  by_cases c : pgB F p = true
  · rw [if_pos c]
    have hz : fo F p < F 5 ∧ F (562 + 20 * fo F p) ≠ 0 := by unfold pgB at c; exact of_decide_eq_true c
    refine sumF_one (a := fo F p) 8 (by omega) fun g hg => ?_
    by_cases d : g = fo F p
    · rw [if_pos d, if_pos ⟨by rw [d]; unfold unB; exact decide_eq_true hz.2, by rw [d]; exact fo_held hz.1⟩]
    · rw [if_neg d, if_neg (fun z => d ?_)]
      obtain ⟨q1, q2⟩ := fo_at g hg (by omega)
      rw [z.2] at q1
      exact q1.symm
  · rw [if_neg c]
    refine sumF_c (h := fun _ => 0) 8 (fun g hg => if_neg (fun z => c ?_)) |>.trans (sumF_0 8)
    obtain ⟨q1, q2⟩ := fo_at g hg (by omega)
    rw [z.2] at q1
    have hz : F (562 + 20 * g) ≠ 0 := by have := z.1; unfold unB at this; exact of_decide_eq_true this
    have q1 : fo F p = g := q1
    unfold pgB
    exact decide_eq_true ⟨by omega, by rw [q1]; exact hz⟩
end
