/-! ===== the reference runs to one end (wip/gen/dt.py) ===== -/
section
def Pt1 (π : (Int32 → Prop) → Prop) : Prop := ∃ r, π = fun P => P r
def Pt2 (π : (Int32 → S11 → Prop) → Prop) : Prop := ∃ r v, π = fun P => P r v
def PtS (π : (S11 → Prop) → Prop) : Prop := ∃ v, π = fun P => P v
def D {β : Type} (Pt : (β → Prop) → Prop) (X : β → Prop) : Prop := ∀ P, X P → ∃ π, Pt π ∧ π P ∧ ∀ P', π P' → X P'
theorem Dq1 {a : Int32} : D Pt1 (fun P => P a) := fun _ h => ⟨fun P => P a, ⟨a, rfl⟩, h, fun _ h => h⟩
theorem Dq2 {a : Int32} {v : S11} : D Pt2 (fun P => P a v) := fun _ h => ⟨fun P => P a v, ⟨a, v, rfl⟩, h, fun _ h => h⟩
theorem DqS {v : S11} : D PtS (fun P => P v) := fun _ h => ⟨fun P => P v, ⟨v, rfl⟩, h, fun _ h => h⟩
variable {β : Type} {Pt : (β → Prop) → Prop}
theorem D_f : D Pt (fun _ => False) := fun _ h => absurd h id
theorem D_ite {c : Prop} {A B : β → Prop} (hA : D Pt A) (hB : D Pt B) : D Pt (fun P => (c → A P) ∧ (¬ c → B P)) := by
  intro P h
  by_cases hc : c
  · obtain ⟨π, a, b, d⟩ := hA P (h.1 hc)
    exact ⟨π, a, b, fun P' h' => ⟨fun _ => d P' h', fun z => absurd hc z⟩⟩
  · obtain ⟨π, a, b, d⟩ := hB P (h.2 hc)
    exact ⟨π, a, b, fun P' h' => ⟨fun z => absurd z hc, fun _ => d P' h'⟩⟩
theorem D_all {T : Type} {e : T} {A : T → β → Prop} (h : ∀ x, D Pt (A x)) : D Pt (fun P => ∀ x, x = e → A x P) := by
  intro P k
  obtain ⟨π, a, b, d⟩ := h e P (k e rfl)
  exact ⟨π, a, b, fun P' h' x hx => by subst hx; exact d P' h'⟩
theorem D_and {p : Prop} {A : β → Prop} (h : D Pt A) : D Pt (fun P => p ∧ A P) := by
  intro P k
  obtain ⟨π, a, b, d⟩ := h P k.2
  exact ⟨π, a, b, fun P' h' => ⟨k.1, d P' h'⟩⟩
theorem De_x {X : Nat → β → Prop} (h : ∀ n, D Pt (X n)) : D Pt (fun P => ∃ n, X n P) := by
  intro P k
  obtain ⟨n, hn⟩ := k
  obtain ⟨π, a, b, d⟩ := h n P hn
  exact ⟨π, a, b, fun P' h' => ⟨n, d P' h'⟩⟩
theorem D_c1 {X : (Int32 → Prop) → Prop} (hX : D Pt1 X) {A : Int32 → β → Prop} (h : ∀ r, D Pt (A r)) : D Pt (fun P => X (fun r => A r P)) := by
  intro P k
  obtain ⟨_, ⟨r, rfl⟩, b, d⟩ := hX _ k
  obtain ⟨π2, a2, b2, d2⟩ := h r P b
  exact ⟨π2, a2, b2, fun P' h' => d _ (d2 P' h')⟩
theorem D_c2 {X : (Int32 → S11 → Prop) → Prop} (hX : D Pt2 X) {A : Int32 → S11 → β → Prop} (h : ∀ r v, D Pt (A r v)) : D Pt (fun P => X (fun r v => A r v P)) := by
  intro P k
  obtain ⟨_, ⟨r, v, rfl⟩, b, d⟩ := hX _ k
  obtain ⟨π2, a2, b2, d2⟩ := h r v P b
  exact ⟨π2, a2, b2, fun P' h' => d _ (d2 P' h')⟩
theorem D_cS {X : (S11 → Prop) → Prop} (hX : D PtS X) {A : S11 → β → Prop} (h : ∀ v, D Pt (A v)) : D Pt (fun P => X (fun v => A v P)) := by
  intro P k
  obtain ⟨_, ⟨v, rfl⟩, b, d⟩ := hX _ k
  obtain ⟨π2, a2, b2, d2⟩ := h v P b
  exact ⟨π2, a2, b2, fun P' h' => d _ (d2 P' h')⟩
theorem D_2 {X : (Int32 → S11 → Prop) → Prop} (h : D Pt2 X) {P : Int32 → S11 → Prop} (k : X P) : ∃ r v, P r v ∧ ∀ P' : Int32 → S11 → Prop, P' r v → X P' := by
  obtain ⟨_, ⟨r, v, rfl⟩, b, d⟩ := h P k
  exact ⟨r, v, b, d⟩
theorem D_S {X : (S11 → Prop) → Prop} (h : D PtS X) {P : S11 → Prop} (k : X P) : ∃ v, P v ∧ ∀ P' : S11 → Prop, P' v → X P' := by
  obtain ⟨_, ⟨v, rfl⟩, b, d⟩ := h P k
  exact ⟨v, b, d⟩
end
section
theorem d_isIn (u0 : S11) (x1 : Int32) (x2 : Int32) (x3 : Int32) : D Pt1 (fun P => wp_X11_isIn u0 x1 x2 x3 P) := by
  unfold wp_X11_isIn
  repeat' (first | with_reducible exact Dq1 | with_reducible refine D_all fun _ => ?_ | with_reducible refine D_ite ?_ ?_ | with_reducible refine D_and ?_)
theorem d_lesser (u0 : S11) (x1 : Int32) (x2 : Int32) : D Pt1 (fun P => wp_X11_lesser u0 x1 x2 P) := by
  unfold wp_X11_lesser
  repeat' (first | with_reducible exact Dq1 | with_reducible refine D_all fun _ => ?_ | with_reducible refine D_ite ?_ ?_ | with_reducible refine D_and ?_)
theorem d_has (u0 : S11) (x1 : Int32) (x2 : Int32) : D Pt1 (fun P => wp_X11_has u0 x1 x2 P) := by
  unfold wp_X11_has
  repeat' (first | with_reducible exact Dq1 | with_reducible refine D_all fun _ => ?_ | with_reducible refine D_ite ?_ ?_ | with_reducible refine D_and ?_)
theorem d_end1 (u0 : S11) : D Pt1 (fun P => wp_X11_end1 u0 P) := by
  unfold wp_X11_end1
  repeat' (first | with_reducible exact Dq1 | with_reducible refine D_all fun _ => ?_ | with_reducible refine D_ite ?_ ?_ | with_reducible refine D_and ?_)
theorem d_flushed (u0 : S11) : D Pt1 (fun P => wp_X11_flushed u0 P) := by
  unfold wp_X11_flushed
  repeat' (first | with_reducible exact Dq1 | with_reducible refine D_all fun _ => ?_ | with_reducible refine D_ite ?_ ?_ | with_reducible refine D_and ?_)
theorem d_isEnd (u0 : S11) (x1 : Int32) : D PtS (fun P => wp_X11_isEnd u0 x1 P) := by
  unfold wp_X11_isEnd
  repeat' (first | with_reducible exact DqS | with_reducible refine D_all fun _ => ?_ | with_reducible refine D_ite ?_ ?_ | with_reducible refine D_and ?_)
theorem d_isFlushed (u0 : S11) (x1 : Int32) : D PtS (fun P => wp_X11_isFlushed u0 x1 P) := by
  unfold wp_X11_isFlushed
  repeat' (first | with_reducible exact DqS | with_reducible refine D_all fun _ => ?_ | with_reducible refine D_ite ?_ ?_ | with_reducible refine D_and ?_)
theorem d_frameMany (u0 : S11) : D Pt1 (fun P => wp_X11_frameMany u0 P) := by
  unfold wp_X11_frameMany
  repeat' (first | with_reducible exact Dq1 | with_reducible refine D_all fun _ => ?_ | with_reducible refine D_ite ?_ ?_ | with_reducible refine D_and ?_)
theorem d_isUp (u0 : S11) : D Pt1 (fun P => wp_X11_isUp u0 P) := by
  unfold wp_X11_isUp
  repeat' (first | with_reducible exact Dq1 | with_reducible refine D_all fun _ => ?_ | with_reducible refine D_ite ?_ ?_ | with_reducible refine D_and ?_)
theorem d_isFull (u0 : S11) : D Pt1 (fun P => wp_X11_isFull u0 P) := by
  unfold wp_X11_isFull
  repeat' (first | with_reducible exact Dq1 | with_reducible refine D_all fun _ => ?_ | with_reducible refine D_ite ?_ ?_ | with_reducible refine D_and ?_ | with_reducible refine D_c1 (d_end1 _) (fun _ => ?_))
theorem d_frameAt (u0 : S11) (x1 : Int32) : D Pt1 (fun P => wp_X11_frameAt u0 x1 P) := by
  unfold wp_X11_frameAt
  repeat' (first | with_reducible exact Dq1 | with_reducible refine D_all fun _ => ?_ | with_reducible refine D_ite ?_ ?_ | with_reducible refine D_and ?_)
theorem d_txAt (u0 : S11) (x1 : Int32) : D Pt1 (fun P => wp_X11_txAt u0 x1 P) := by
  unfold wp_X11_txAt
  repeat' (first | with_reducible exact Dq1 | with_reducible refine D_all fun _ => ?_ | with_reducible refine D_ite ?_ ?_ | with_reducible refine D_and ?_)
theorem d_isOf (u0 : S11) (x1 : Int32) : D Pt1 (fun P => wp_X11_isOf u0 x1 P) := by
  unfold wp_X11_isOf
  repeat' (first | with_reducible exact Dq1 | with_reducible refine D_all fun _ => ?_ | with_reducible refine D_ite ?_ ?_ | with_reducible refine D_and ?_ | with_reducible refine D_c1 (d_txAt _ _) (fun _ => ?_))
theorem d_isLostPage (u0 : S11) (x1 : Int32) : D Pt1 (fun P => wp_X11_isLostPage u0 x1 P) := by
  unfold wp_X11_isLostPage
  repeat' (first | with_reducible exact Dq1 | with_reducible refine D_all fun _ => ?_ | with_reducible refine D_ite ?_ ?_ | with_reducible refine D_and ?_ | with_reducible refine D_c1 (d_has _ _ _) (fun _ => ?_))
theorem d_frameOf_2 (u0 : S11) : ∀ (n : Nat) (x0 : Int32) (x1 : Int32), D Pt1 (fun P => wp_X11_frameOf_2 u0 P n x0 x1) := by
  intro n
  induction n with
  | zero => intro x0 x1; exact D_f
  | succ n ih =>
    intro x0 x1
    simp only [wp_X11_frameOf_2]
    repeat' (first | with_reducible exact Dq1 | with_reducible refine D_all fun _ => ?_ | with_reducible refine D_ite ?_ ?_ | with_reducible refine D_and ?_ | with_reducible exact ih _ _ | with_reducible refine D_c1 (d_frameMany _) (fun _ => ?_) | with_reducible refine D_c1 (d_frameAt _ _) (fun _ => ?_))
theorem d_frameOf (u0 : S11) (x1 : Int32) : D Pt1 (fun P => wp_X11_frameOf u0 x1 P) := by
  unfold wp_X11_frameOf
  repeat' (first | with_reducible exact Dq1 | with_reducible refine D_all fun _ => ?_ | with_reducible refine D_ite ?_ ?_ | with_reducible refine D_and ?_ | with_reducible (exact De_x fun n => d_frameOf_2 _ n _ _))
theorem d_logByte (u0 : S11) (x1 : Int32) : D Pt1 (fun P => wp_X11_logByte u0 x1 P) := by
  unfold wp_X11_logByte
  repeat' (first | with_reducible exact Dq1 | with_reducible refine D_all fun _ => ?_ | with_reducible refine D_ite ?_ ?_ | with_reducible refine D_and ?_)
theorem d_flushesThrough_20 (y0 : Int32) (u0 : S11) : D PtS (fun P => wp_X11_flushesThrough_20 P y0 u0) := by
  unfold wp_X11_flushesThrough_20
  repeat' (first | with_reducible exact DqS | with_reducible refine D_all fun _ => ?_ | with_reducible refine D_ite ?_ ?_ | with_reducible refine D_and ?_ | with_reducible refine D_c1 (d_flushed _) (fun _ => ?_) | with_reducible refine D_cS (d_isFlushed _ _) (fun _ => ?_))
theorem d_flushesThrough (u0 : S11) (x1 : Int32) : D PtS (fun P => wp_X11_flushesThrough u0 x1 P) := by
  unfold wp_X11_flushesThrough
  repeat' (first | with_reducible exact DqS | with_reducible refine D_all fun _ => ?_ | with_reducible refine D_ite ?_ ?_ | with_reducible refine D_and ?_ | with_reducible refine D_c1 (d_end1 _) (fun _ => ?_) | with_reducible refine d_flushesThrough_20 _ _ | with_reducible refine D_c1 (d_logByte _ _) (fun _ => ?_))
theorem d_isWritten_43 : ∀ (n : Nat) (x0 : Int32) (x1 : Int32) (x2 : Int32) (x3 : S11), D PtS (fun P => wp_X11_isWritten_43 P n x0 x1 x2 x3) := by
  intro n
  induction n with
  | zero => intro x0 x1 x2 x3; exact D_f
  | succ n ih =>
    intro x0 x1 x2 x3
    simp only [wp_X11_isWritten_43]
    repeat' (first | with_reducible exact DqS | with_reducible refine D_all fun _ => ?_ | with_reducible refine D_ite ?_ ?_ | with_reducible refine D_and ?_ | with_reducible exact ih _ _ _ _)
theorem d_isWritten_40 (x2 : Int32) (x3 : Int32) (u0 : S11) : D PtS (fun P => wp_X11_isWritten_40 P x2 x3 u0) := by
  unfold wp_X11_isWritten_40
  repeat' (first | with_reducible exact DqS | with_reducible refine D_all fun _ => ?_ | with_reducible refine D_ite ?_ ?_ | with_reducible refine D_and ?_ | with_reducible (exact De_x fun n => d_isWritten_43  n _ _ _ _))
theorem d_isWritten (u0 : S11) (x1 : Int32) : D PtS (fun P => wp_X11_isWritten u0 x1 P) := by
  unfold wp_X11_isWritten
  repeat' (first | with_reducible exact DqS | with_reducible refine D_all fun _ => ?_ | with_reducible refine D_ite ?_ ?_ | with_reducible refine D_and ?_ | with_reducible refine D_c1 (d_frameAt _ _) (fun _ => ?_) | with_reducible refine d_isWritten_40 _ _ _ | with_reducible refine D_cS (d_flushesThrough _ _) (fun _ => ?_))
theorem d_leastUsed_58 {k_4 : (Int32 → Prop) → Int32 → Int32 → Prop} (hk_4 : ∀ (z0 : Int32) (z1 : Int32), D Pt1 (fun P => k_4 P z0 z1)) (u0 : S11) (x1 : Int32) (x2 : Int32) : D Pt1 (fun P => wp_X11_leastUsed_58 u0 (k_4 P) P x1 x2) := by
  unfold wp_X11_leastUsed_58
  repeat' (first | with_reducible exact Dq1 | with_reducible exact hk_4 _ _ | with_reducible refine D_all fun _ => ?_ | with_reducible refine D_ite ?_ ?_ | with_reducible refine D_and ?_)
theorem d_leastUsed_4 (u0 : S11) : ∀ (n : Nat) (x0 : Int32) (x1 : Int32), D Pt1 (fun P => wp_X11_leastUsed_4 u0 P n x0 x1) := by
  intro n
  induction n with
  | zero => intro x0 x1; exact D_f
  | succ n ih =>
    intro x0 x1
    simp only [wp_X11_leastUsed_4]
    repeat' (first | with_reducible exact Dq1 | with_reducible refine D_all fun _ => ?_ | with_reducible refine D_ite ?_ ?_ | with_reducible refine D_and ?_ | with_reducible exact ih _ _ | with_reducible refine D_c1 (d_frameMany _) (fun _ => ?_) | with_reducible refine D_c1 (d_frameAt _ _) (fun _ => ?_) | with_reducible refine d_leastUsed_58 (fun _ _ => ?_) _ _ _)
theorem d_leastUsed (u0 : S11) : D Pt1 (fun P => wp_X11_leastUsed u0 P) := by
  unfold wp_X11_leastUsed
  repeat' (first | with_reducible exact Dq1 | with_reducible refine D_all fun _ => ?_ | with_reducible refine D_ite ?_ ?_ | with_reducible refine D_and ?_ | with_reducible (exact De_x fun n => d_leastUsed_4 _ n _ _))
theorem d_fetches_129 (x2 : Int32) (u0 : S11) : D Pt2 (fun P => wp_X11_fetches_129 P x2 u0) := by
  unfold wp_X11_fetches_129
  repeat' (first | with_reducible exact Dq2 | with_reducible refine D_all fun _ => ?_ | with_reducible refine D_ite ?_ ?_ | with_reducible refine D_and ?_ | with_reducible refine D_c1 (d_frameAt _ _) (fun _ => ?_))
theorem d_fetches_90 {k_129 : (Int32 → S11 → Prop) → Int32 → S11 → Prop} (hk_129 : ∀ (z0 : Int32) (z1 : S11), D Pt2 (fun P => k_129 P z0 z1)) : ∀ (n : Nat) (x0 : Int32) (x1 : Int32) (x2 : Int32) (x3 : Int32) (x4 : S11), D Pt2 (fun P => wp_X11_fetches_90 (k_129 P) P n x0 x1 x2 x3 x4) := by
  intro n
  induction n with
  | zero => intro x0 x1 x2 x3 x4; exact D_f
  | succ n ih =>
    intro x0 x1 x2 x3 x4
    simp only [wp_X11_fetches_90]
    repeat' (first | with_reducible exact Dq2 | with_reducible exact hk_129 _ _ | with_reducible refine D_all fun _ => ?_ | with_reducible refine D_ite ?_ ?_ | with_reducible refine D_and ?_ | with_reducible exact ih _ _ _ _ _)
theorem d_fetches_49 {k_129 : (Int32 → S11 → Prop) → Int32 → S11 → Prop} (hk_129 : ∀ (z0 : Int32) (z1 : S11), D Pt2 (fun P => k_129 P z0 z1)) (x1 : Int32) (x2 : Int32) (x3 : Int32) (u0 : S11) : D Pt2 (fun P => wp_X11_fetches_49 (k_129 P) P x1 x2 x3 u0) := by
  unfold wp_X11_fetches_49
  repeat' (first | with_reducible exact Dq2 | with_reducible exact hk_129 _ _ | with_reducible refine D_all fun _ => ?_ | with_reducible refine D_ite ?_ ?_ | with_reducible refine D_and ?_ | with_reducible (refine De_x fun n => d_fetches_90 (fun _ _ => ?_)  n _ _ _ _ _))
theorem d_fetches (u0 : S11) (x1 : Int32) : D Pt2 (fun P => wp_X11_fetches u0 x1 P) := by
  unfold wp_X11_fetches
  repeat' (first | with_reducible exact Dq2 | with_reducible refine D_all fun _ => ?_ | with_reducible refine D_ite ?_ ?_ | with_reducible refine D_and ?_ | with_reducible refine D_c1 (d_frameOf _ _) (fun _ => ?_) | with_reducible refine D_c1 (d_leastUsed _) (fun _ => ?_) | with_reducible refine D_c1 (d_frameAt _ _) (fun _ => ?_) | with_reducible refine d_fetches_49 (fun _ _ => ?_) _ _ _ _ | with_reducible refine d_fetches_129 _ _ | with_reducible refine D_cS (d_isWritten _ _) (fun _ => ?_))
theorem d_becomes (u0 : S11) (x1 : Int32) (x2 : Int32) (x3 : Int32) (x4 : Int32) : D PtS (fun P => wp_X11_becomes u0 x1 x2 x3 x4 P) := by
  unfold wp_X11_becomes
  repeat' (first | with_reducible exact DqS | with_reducible refine D_all fun _ => ?_ | with_reducible refine D_ite ?_ ?_ | with_reducible refine D_and ?_)
theorem d_two (u0 : S11) (x1 : Int32) : D Pt1 (fun P => wp_X11_two u0 x1 P) := by
  unfold wp_X11_two
  repeat' (first | with_reducible exact Dq1 | with_reducible refine D_all fun _ => ?_ | with_reducible refine D_ite ?_ ?_ | with_reducible refine D_and ?_ | with_reducible refine D_c1 (d_logByte _ _) (fun _ => ?_))
theorem d_lays (u0 : S11) (x1 : Int32) : D PtS (fun P => wp_X11_lays u0 x1 P) := by
  unfold wp_X11_lays
  repeat' (first | with_reducible exact DqS | with_reducible refine D_all fun _ => ?_ | with_reducible refine D_ite ?_ ?_ | with_reducible refine D_and ?_)
theorem d_laysTwo (u0 : S11) (x1 : Int32) : D PtS (fun P => wp_X11_laysTwo u0 x1 P) := by
  unfold wp_X11_laysTwo
  repeat' (first | with_reducible exact DqS | with_reducible refine D_all fun _ => ?_ | with_reducible refine D_ite ?_ ?_ | with_reducible refine D_and ?_ | with_reducible refine D_cS (d_lays _ _) (fun _ => ?_))
theorem d_opens_44 (y1 : Int32) (u0 : S11) : D PtS (fun P => wp_X11_opens_44 P y1 u0) := by
  unfold wp_X11_opens_44
  repeat' (first | with_reducible exact DqS | with_reducible refine D_all fun _ => ?_ | with_reducible refine D_ite ?_ ?_ | with_reducible refine D_and ?_ | with_reducible refine D_cS (d_laysTwo _ _) (fun _ => ?_))
theorem d_opens (u0 : S11) (x1 : Int32) (x2 : Int32) (x3 : Int32) : D PtS (fun P => wp_X11_opens u0 x1 x2 x3 P) := by
  unfold wp_X11_opens
  repeat' (first | with_reducible exact DqS | with_reducible refine D_all fun _ => ?_ | with_reducible refine D_ite ?_ ?_ | with_reducible refine D_and ?_ | with_reducible refine D_c1 (d_end1 _) (fun _ => ?_) | with_reducible refine D_cS (d_lays _ _) (fun _ => ?_) | with_reducible refine d_opens_44 _ _ | with_reducible refine D_c1 (d_txAt _ _) (fun _ => ?_))
theorem d_checkOf_6 (u0 : S11) : ∀ (n : Nat) (x0 : Int32) (x1 : Int32) (x2 : Int32) (x3 : Int32), D Pt1 (fun P => wp_X11_checkOf_6 u0 P n x0 x1 x2 x3) := by
  intro n
  induction n with
  | zero => intro x0 x1 x2 x3; exact D_f
  | succ n ih =>
    intro x0 x1 x2 x3
    simp only [wp_X11_checkOf_6]
    repeat' (first | with_reducible exact Dq1 | with_reducible refine D_all fun _ => ?_ | with_reducible refine D_ite ?_ ?_ | with_reducible refine D_and ?_ | with_reducible exact ih _ _ _ _ | with_reducible refine D_c1 (d_logByte _ _) (fun _ => ?_))
theorem d_checkOf (u0 : S11) (x1 : Int32) (x2 : Int32) : D Pt1 (fun P => wp_X11_checkOf u0 x1 x2 P) := by
  unfold wp_X11_checkOf
  repeat' (first | with_reducible exact Dq1 | with_reducible refine D_all fun _ => ?_ | with_reducible refine D_ite ?_ ?_ | with_reducible refine D_and ?_ | with_reducible (exact De_x fun n => d_checkOf_6 _ n _ _ _ _))
theorem d_closes (u0 : S11) (x1 : Int32) : D Pt2 (fun P => wp_X11_closes u0 x1 P) := by
  unfold wp_X11_closes
  repeat' (first | with_reducible exact Dq2 | with_reducible refine D_all fun _ => ?_ | with_reducible refine D_ite ?_ ?_ | with_reducible refine D_and ?_ | with_reducible refine D_c1 (d_end1 _) (fun _ => ?_) | with_reducible refine D_c1 (d_checkOf _ _ _) (fun _ => ?_) | with_reducible refine D_cS (d_lays _ _) (fun _ => ?_) | with_reducible refine D_cS (d_isEnd _ _) (fun _ => ?_) | with_reducible refine D_c1 (d_txAt _ _) (fun _ => ?_))
theorem d_laysPlain (u0 : S11) (x1 : Int32) (x2 : Int32) : D Pt2 (fun P => wp_X11_laysPlain u0 x1 x2 P) := by
  unfold wp_X11_laysPlain
  repeat' (first | with_reducible exact Dq2 | with_reducible refine D_all fun _ => ?_ | with_reducible refine D_ite ?_ ?_ | with_reducible refine D_and ?_ | with_reducible refine D_cS (d_opens _ _ _ _) (fun _ => ?_) | with_reducible refine D_c2 (d_closes _ _) (fun _ _ => ?_))
theorem d_longFor (u0 : S11) (x1 : Int32) : D Pt1 (fun P => wp_X11_longFor u0 x1 P) := by
  unfold wp_X11_longFor
  repeat' (first | with_reducible exact Dq1 | with_reducible refine D_all fun _ => ?_ | with_reducible refine D_ite ?_ ?_ | with_reducible refine D_and ?_ | with_reducible refine D_c1 (d_logByte _ _) (fun _ => ?_) | with_reducible refine D_c1 (d_end1 _) (fun _ => ?_) | with_reducible refine D_c1 (d_isIn _ _ _ _) (fun _ => ?_))
theorem d_isWhole (u0 : S11) (x1 : Int32) : D Pt1 (fun P => wp_X11_isWhole u0 x1 P) := by
  unfold wp_X11_isWhole
  repeat' (first | with_reducible exact Dq1 | with_reducible refine D_all fun _ => ?_ | with_reducible refine D_ite ?_ ?_ | with_reducible refine D_and ?_ | with_reducible refine D_c1 (d_end1 _) (fun _ => ?_) | with_reducible refine D_c1 (d_longFor _ _) (fun _ => ?_) | with_reducible refine D_c1 (d_logByte _ _) (fun _ => ?_) | with_reducible refine D_c1 (d_checkOf _ _ _) (fun _ => ?_))
theorem d_isRecord_29 (u0 : S11) (x1 : Int32) (x2 : Int32) : D Pt1 (fun P => wp_X11_isRecord_29 u0 P x1 x2) := by
  unfold wp_X11_isRecord_29
  repeat' (first | with_reducible exact Dq1 | with_reducible refine D_all fun _ => ?_ | with_reducible refine D_ite ?_ ?_ | with_reducible refine D_and ?_ | with_reducible refine D_c1 (d_isWhole _ _) (fun _ => ?_))
theorem d_isRecord_3 (u0 : S11) : ∀ (n : Nat) (x0 : Int32) (x1 : Int32), D Pt1 (fun P => wp_X11_isRecord_3 u0 P n x0 x1) := by
  intro n
  induction n with
  | zero => intro x0 x1; exact D_f
  | succ n ih =>
    intro x0 x1
    simp only [wp_X11_isRecord_3]
    repeat' (first | with_reducible exact Dq1 | with_reducible refine D_all fun _ => ?_ | with_reducible refine D_ite ?_ ?_ | with_reducible refine D_and ?_ | with_reducible exact ih _ _ | with_reducible refine d_isRecord_29 _ _ _ | with_reducible refine D_c1 (d_isWhole _ _) (fun _ => ?_) | with_reducible refine D_c1 (d_logByte _ _) (fun _ => ?_))
theorem d_isRecord (u0 : S11) (x1 : Int32) : D Pt1 (fun P => wp_X11_isRecord u0 x1 P) := by
  unfold wp_X11_isRecord
  repeat' (first | with_reducible exact Dq1 | with_reducible refine D_all fun _ => ?_ | with_reducible refine D_ite ?_ ?_ | with_reducible refine D_and ?_ | with_reducible (exact De_x fun n => d_isRecord_3 _ n _ _))
theorem d_isChange (u0 : S11) (x1 : Int32) : D Pt1 (fun P => wp_X11_isChange u0 x1 P) := by
  unfold wp_X11_isChange
  repeat' (first | with_reducible exact Dq1 | with_reducible refine D_all fun _ => ?_ | with_reducible refine D_ite ?_ ?_ | with_reducible refine D_and ?_ | with_reducible refine D_c1 (d_logByte _ _) (fun _ => ?_) | with_reducible refine D_c1 (d_isIn _ _ _ _) (fun _ => ?_))
theorem d_addressIn (u0 : S11) (x1 : Int32) : D Pt1 (fun P => wp_X11_addressIn u0 x1 P) := by
  unfold wp_X11_addressIn
  repeat' (first | with_reducible exact Dq1 | with_reducible refine D_all fun _ => ?_ | with_reducible refine D_ite ?_ ?_ | with_reducible refine D_and ?_ | with_reducible refine D_c1 (d_logByte _ _) (fun _ => ?_))
theorem d_doneBy (u0 : S11) (x1 : Int32) (x2 : Int32) : D Pt1 (fun P => wp_X11_doneBy u0 x1 x2 P) := by
  unfold wp_X11_doneBy
  repeat' (first | with_reducible exact Dq1 | with_reducible refine D_all fun _ => ?_ | with_reducible refine D_ite ?_ ?_ | with_reducible refine D_and ?_ | with_reducible refine D_c1 (d_logByte _ _) (fun _ => ?_))
theorem d_behind (u0 : S11) (x1 : Int32) : D Pt1 (fun P => wp_X11_behind u0 x1 P) := by
  unfold wp_X11_behind
  repeat' (first | with_reducible exact Dq1 | with_reducible refine D_all fun _ => ?_ | with_reducible refine D_ite ?_ ?_ | with_reducible refine D_and ?_ | with_reducible refine D_c1 (d_logByte _ _) (fun _ => ?_) | with_reducible refine D_c1 (d_two _ _) (fun _ => ?_))
theorem d_isGone_80 : ∀ (n : Nat) (x0 : Int32) (x1 : Int32) (x2 : S11), D PtS (fun P => wp_X11_isGone_80 P n x0 x1 x2) := by
  intro n
  induction n with
  | zero => intro x0 x1 x2; exact D_f
  | succ n ih =>
    intro x0 x1 x2
    simp only [wp_X11_isGone_80]
    repeat' (first | with_reducible exact DqS | with_reducible refine D_all fun _ => ?_ | with_reducible refine D_ite ?_ ?_ | with_reducible refine D_and ?_ | with_reducible exact ih _ _ _)
theorem d_isGone_40 : ∀ (n : Nat) (x0 : Int32) (x1 : Int32) (x2 : S11), D PtS (fun P => wp_X11_isGone_40 P n x0 x1 x2) := by
  intro n
  induction n with
  | zero => intro x0 x1 x2; exact D_f
  | succ n ih =>
    intro x0 x1 x2
    simp only [wp_X11_isGone_40]
    repeat' (first | with_reducible exact DqS | with_reducible refine D_all fun _ => ?_ | with_reducible refine D_ite ?_ ?_ | with_reducible refine D_and ?_ | with_reducible exact ih _ _ _ | with_reducible (exact De_x fun n => d_isGone_80  n _ _ _))
theorem d_isGone_2 : ∀ (n : Nat) (x0 : Int32) (x1 : Int32) (x2 : S11), D PtS (fun P => wp_X11_isGone_2 P n x0 x1 x2) := by
  intro n
  induction n with
  | zero => intro x0 x1 x2; exact D_f
  | succ n ih =>
    intro x0 x1 x2
    simp only [wp_X11_isGone_2]
    repeat' (first | with_reducible exact DqS | with_reducible refine D_all fun _ => ?_ | with_reducible refine D_ite ?_ ?_ | with_reducible refine D_and ?_ | with_reducible exact ih _ _ _ | with_reducible (exact De_x fun n => d_isGone_40  n _ _ _) | with_reducible refine D_c1 (d_txAt _ _) (fun _ => ?_))
theorem d_isGone (u0 : S11) (x1 : Int32) : D PtS (fun P => wp_X11_isGone u0 x1 P) := by
  unfold wp_X11_isGone
  repeat' (first | with_reducible exact DqS | with_reducible refine D_all fun _ => ?_ | with_reducible refine D_ite ?_ ?_ | with_reducible refine D_and ?_ | with_reducible (exact De_x fun n => d_isGone_2  n _ _ _))
theorem d_canGo (u0 : S11) (x1 : Int32) (x2 : Int32) : D Pt1 (fun P => wp_X11_canGo u0 x1 x2 P) := by
  unfold wp_X11_canGo
  repeat' (first | with_reducible exact Dq1 | with_reducible refine D_all fun _ => ?_ | with_reducible refine D_ite ?_ ?_ | with_reducible refine D_and ?_ | with_reducible refine D_c1 (d_isUp _) (fun _ => ?_) | with_reducible refine D_c1 (d_isIn _ _ _ _) (fun _ => ?_) | with_reducible refine D_c1 (d_isOf _ _) (fun _ => ?_))
theorem d_doesChange_69 (x1 : Int32) (x2 : Int32) (x3 : Int32) (x5 : Int32) (x6 : Int32) (u0 : S11) : D PtS (fun P => wp_X11_doesChange_69 P x1 x2 x3 x5 x6 u0) := by
  unfold wp_X11_doesChange_69
  repeat' (first | with_reducible exact DqS | with_reducible refine D_all fun _ => ?_ | with_reducible refine D_ite ?_ ?_ | with_reducible refine D_and ?_ | with_reducible refine D_cS (d_lays _ _) (fun _ => ?_) | with_reducible refine D_c2 (d_closes _ _) (fun _ _ => ?_) | with_reducible refine D_c1 (d_doneBy _ _ _) (fun _ => ?_) | with_reducible refine D_cS (d_becomes _ _ _ _ _) (fun _ => ?_))
theorem d_doesChange_49 (x1 : Int32) (x2 : Int32) (x3 : Int32) (x4 : Int32) (x5 : Int32) (x6 : Int32) (y1 : Int32) (y2 : Int32) (u0 : S11) : D PtS (fun P => wp_X11_doesChange_49 P x1 x2 x3 x4 x5 x6 y1 y2 u0) := by
  unfold wp_X11_doesChange_49
  repeat' (first | with_reducible exact DqS | with_reducible refine D_all fun _ => ?_ | with_reducible refine D_ite ?_ ?_ | with_reducible refine D_and ?_ | with_reducible refine D_cS (d_opens _ _ _ _) (fun _ => ?_) | with_reducible refine D_cS (d_lays _ _) (fun _ => ?_) | with_reducible refine d_doesChange_69 _ _ _ _ _ _)
theorem d_doesChange_37 (x1 : Int32) (x2 : Int32) (x3 : Int32) (x4 : Int32) (x5 : Int32) (x6 : Int32) (y1 : Int32) (u0 : S11) : D PtS (fun P => wp_X11_doesChange_37 P x1 x2 x3 x4 x5 x6 y1 u0) := by
  unfold wp_X11_doesChange_37
  repeat' (first | with_reducible exact DqS | with_reducible refine D_all fun _ => ?_ | with_reducible refine D_ite ?_ ?_ | with_reducible refine D_and ?_ | with_reducible refine d_doesChange_49 _ _ _ _ _ _ _ _ _)
theorem d_doesChange (u0 : S11) (x1 : Int32) (x2 : Int32) (x3 : Int32) (x4 : Int32) : D PtS (fun P => wp_X11_doesChange u0 x1 x2 x3 x4 P) := by
  unfold wp_X11_doesChange
  repeat' (first | with_reducible exact DqS | with_reducible refine D_all fun _ => ?_ | with_reducible refine D_ite ?_ ?_ | with_reducible refine D_and ?_ | with_reducible refine D_c2 (d_fetches _ _) (fun _ _ => ?_) | with_reducible refine d_doesChange_37 _ _ _ _ _ _ _ _)
theorem d_waitsFor_23 (x3 : Int32) (u0 : S11) : D Pt2 (fun P => wp_X11_waitsFor_23 P x3 u0) := by
  unfold wp_X11_waitsFor_23
  repeat' (first | with_reducible exact Dq2 | with_reducible refine D_all fun _ => ?_ | with_reducible refine D_ite ?_ ?_ | with_reducible refine D_and ?_)
theorem d_waitsFor (u0 : S11) (x1 : Int32) (x2 : Int32) : D Pt2 (fun P => wp_X11_waitsFor u0 x1 x2 P) := by
  unfold wp_X11_waitsFor
  repeat' (first | with_reducible exact Dq2 | with_reducible refine D_all fun _ => ?_ | with_reducible refine D_ite ?_ ?_ | with_reducible refine D_and ?_ | with_reducible refine d_waitsFor_23 _ _)
theorem d_write (u0 : S11) (x1 : Int32) (x2 : Int32) (x3 : Int32) : D Pt2 (fun P => wp_X11_write u0 x1 x2 x3 P) := by
  unfold wp_X11_write
  repeat' (first | with_reducible exact Dq2 | with_reducible refine D_all fun _ => ?_ | with_reducible refine D_ite ?_ ?_ | with_reducible refine D_and ?_ | with_reducible refine D_c1 (d_canGo _ _ _) (fun _ => ?_) | with_reducible refine D_c1 (d_isIn _ _ _ _) (fun _ => ?_) | with_reducible refine D_c1 (d_isFull _) (fun _ => ?_) | with_reducible refine D_c1 (d_isLostPage _ _) (fun _ => ?_) | with_reducible refine D_c2 (d_waitsFor _ _ _) (fun _ _ => ?_) | with_reducible refine D_cS (d_doesChange _ _ _ _ _) (fun _ => ?_))
theorem d_add (u0 : S11) (x1 : Int32) (x2 : Int32) (x3 : Int32) : D Pt2 (fun P => wp_X11_add u0 x1 x2 x3 P) := by
  unfold wp_X11_add
  repeat' (first | with_reducible exact Dq2 | with_reducible refine D_all fun _ => ?_ | with_reducible refine D_ite ?_ ?_ | with_reducible refine D_and ?_ | with_reducible refine D_c1 (d_canGo _ _ _) (fun _ => ?_) | with_reducible refine D_c1 (d_isIn _ _ _ _) (fun _ => ?_) | with_reducible refine D_c1 (d_isFull _) (fun _ => ?_) | with_reducible refine D_c1 (d_isLostPage _ _) (fun _ => ?_) | with_reducible refine D_c2 (d_waitsFor _ _ _) (fun _ _ => ?_) | with_reducible refine D_cS (d_doesChange _ _ _ _ _) (fun _ => ?_))
theorem d_stepsBack_121 (x4 : Int32) (x6 : Int32) (x7 : Int32) (u0 : S11) : D PtS (fun P => wp_X11_stepsBack_121 P x4 x6 x7 u0) := by
  unfold wp_X11_stepsBack_121
  repeat' (first | with_reducible exact DqS | with_reducible refine D_all fun _ => ?_ | with_reducible refine D_ite ?_ ?_ | with_reducible refine D_and ?_ | with_reducible refine D_c1 (d_doneBy _ _ _) (fun _ => ?_) | with_reducible refine D_cS (d_becomes _ _ _ _ _) (fun _ => ?_))
theorem d_stepsBack_91 (x1 : Int32) (x2 : Int32) (x3 : Int32) (x4 : Int32) (x6 : Int32) (y1 : Int32) (u0 : S11) : D PtS (fun P => wp_X11_stepsBack_91 P x1 x2 x3 x4 x6 y1 u0) := by
  unfold wp_X11_stepsBack_91
  repeat' (first | with_reducible exact DqS | with_reducible refine D_all fun _ => ?_ | with_reducible refine D_ite ?_ ?_ | with_reducible refine D_and ?_ | with_reducible refine D_cS (d_lays _ _) (fun _ => ?_) | with_reducible refine D_c1 (d_two _ _) (fun _ => ?_) | with_reducible refine D_cS (d_laysTwo _ _) (fun _ => ?_) | with_reducible refine D_c2 (d_closes _ _) (fun _ _ => ?_) | with_reducible refine d_stepsBack_121 _ _ _ _ | with_reducible refine D_cS (d_flushesThrough _ _) (fun _ => ?_))
theorem d_stepsBack_59 (x1 : Int32) (x2 : Int32) (x3 : Int32) (x4 : Int32) (x5 : Int32) (x6 : Int32) (y1 : Int32) (u0 : S11) : D PtS (fun P => wp_X11_stepsBack_59 P x1 x2 x3 x4 x5 x6 y1 u0) := by
  unfold wp_X11_stepsBack_59
  repeat' (first | with_reducible exact DqS | with_reducible refine D_all fun _ => ?_ | with_reducible refine D_ite ?_ ?_ | with_reducible refine D_and ?_ | with_reducible refine D_cS (d_lays _ _) (fun _ => ?_) | with_reducible refine D_c1 (d_logByte _ _) (fun _ => ?_) | with_reducible refine d_stepsBack_91 _ _ _ _ _ _ _)
theorem d_stepsBack_21 (x1 : Int32) (x2 : Int32) (x3 : Int32) (x4 : Int32) (y0 : Int32) (u0 : S11) : D PtS (fun P => wp_X11_stepsBack_21 P x1 x2 x3 x4 y0 u0) := by
  unfold wp_X11_stepsBack_21
  repeat' (first | with_reducible exact DqS | with_reducible refine D_all fun _ => ?_ | with_reducible refine D_ite ?_ ?_ | with_reducible refine D_and ?_ | with_reducible refine D_c2 (d_fetches _ _) (fun _ _ => ?_) | with_reducible refine D_cS (d_opens _ _ _ _) (fun _ => ?_) | with_reducible refine D_cS (d_lays _ _) (fun _ => ?_) | with_reducible refine d_stepsBack_59 _ _ _ _ _ _ _ _)
theorem d_stepsBack (u0 : S11) (x1 : Int32) (x2 : Int32) (x3 : Int32) : D PtS (fun P => wp_X11_stepsBack u0 x1 x2 x3 P) := by
  unfold wp_X11_stepsBack
  repeat' (first | with_reducible exact DqS | with_reducible refine D_all fun _ => ?_ | with_reducible refine D_ite ?_ ?_ | with_reducible refine D_and ?_ | with_reducible refine D_c1 (d_addressIn _ _) (fun _ => ?_) | with_reducible refine D_c1 (d_logByte _ _) (fun _ => ?_) | with_reducible refine d_stepsBack_21 _ _ _ _ _ _)
theorem d_save (u0 : S11) (x1 : Int32) : D Pt2 (fun P => wp_X11_save u0 x1 P) := by
  unfold wp_X11_save
  repeat' (first | with_reducible exact Dq2 | with_reducible refine D_all fun _ => ?_ | with_reducible refine D_ite ?_ ?_ | with_reducible refine D_and ?_ | with_reducible refine D_c1 (d_canGo _ _ _) (fun _ => ?_) | with_reducible refine D_c1 (d_txAt _ _) (fun _ => ?_))
theorem d_isUndoable (u0 : S11) (x1 : Int32) : D Pt1 (fun P => wp_X11_isUndoable u0 x1 P) := by
  unfold wp_X11_isUndoable
  repeat' (first | with_reducible exact Dq1 | with_reducible refine D_all fun _ => ?_ | with_reducible refine D_ite ?_ ?_ | with_reducible refine D_and ?_ | with_reducible refine D_c1 (d_logByte _ _) (fun _ => ?_))
theorem d_back_133 : ∀ (n : Nat) (x0 : Int32) (x1 : Int32) (x2 : Int32) (x3 : S11), D Pt2 (fun P => wp_X11_back_133 P n x0 x1 x2 x3) := by
  intro n
  induction n with
  | zero => intro x0 x1 x2 x3; exact D_f
  | succ n ih =>
    intro x0 x1 x2 x3
    simp only [wp_X11_back_133]
    repeat' (first | with_reducible exact Dq2 | with_reducible refine D_all fun _ => ?_ | with_reducible refine D_ite ?_ ?_ | with_reducible refine D_and ?_ | with_reducible exact ih _ _ _ _)
theorem d_back_111 {k_81 : (Int32 → S11 → Prop) → Int32 → Int32 → Int32 → Int32 → Int32 → Int32 → S11 → Prop} (hk_81 : ∀ (z0 : Int32) (z1 : Int32) (z2 : Int32) (z3 : Int32) (z4 : Int32) (z5 : Int32) (z6 : S11), D Pt2 (fun P => k_81 P z0 z1 z2 z3 z4 z5 z6)) (x1 : Int32) (x2 : Int32) (x3 : Int32) (x4 : Int32) (x5 : Int32) (x6 : Int32) (u0 : S11) : D Pt2 (fun P => wp_X11_back_111 (k_81 P) P x1 x2 x3 x4 x5 x6 u0) := by
  unfold wp_X11_back_111
  repeat' (first | with_reducible exact Dq2 | with_reducible exact hk_81 _ _ _ _ _ _ _ | with_reducible refine D_all fun _ => ?_ | with_reducible refine D_ite ?_ ?_ | with_reducible refine D_and ?_ | with_reducible refine D_c1 (d_behind _ _) (fun _ => ?_))
theorem d_back_81 : ∀ (n : Nat) (x0 : Int32) (x1 : Int32) (x2 : Int32) (x3 : Int32) (x4 : Int32) (x5 : Int32) (x6 : S11), D Pt2 (fun P => wp_X11_back_81 P n x0 x1 x2 x3 x4 x5 x6) := by
  intro n
  induction n with
  | zero => intro x0 x1 x2 x3 x4 x5 x6; exact D_f
  | succ n ih =>
    intro x0 x1 x2 x3 x4 x5 x6
    simp only [wp_X11_back_81]
    repeat' (first | with_reducible exact Dq2 | with_reducible refine D_all fun _ => ?_ | with_reducible refine D_ite ?_ ?_ | with_reducible refine D_and ?_ | with_reducible exact ih _ _ _ _ _ _ _ | with_reducible (exact De_x fun n => d_back_133  n _ _ _ _) | with_reducible refine D_c1 (d_isUndoable _ _) (fun _ => ?_) | with_reducible refine d_back_111 (fun _ _ _ _ _ _ _ => ?_) _ _ _ _ _ _ _ | with_reducible refine D_cS (d_stepsBack _ _ _ _) (fun _ => ?_))
theorem d_back (u0 : S11) (x1 : Int32) (x2 : Int32) : D Pt2 (fun P => wp_X11_back u0 x1 x2 P) := by
  unfold wp_X11_back
  repeat' (first | with_reducible exact Dq2 | with_reducible refine D_all fun _ => ?_ | with_reducible refine D_ite ?_ ?_ | with_reducible refine D_and ?_ | with_reducible refine D_c1 (d_canGo _ _ _) (fun _ => ?_) | with_reducible refine D_c1 (d_txAt _ _) (fun _ => ?_) | with_reducible refine D_c1 (d_isIn _ _ _ _) (fun _ => ?_) | with_reducible (exact De_x fun n => d_back_81  n _ _ _ _ _ _ _))
theorem d_begins (u0 : S11) (x1 : Int32) : D Pt2 (fun P => wp_X11_begins u0 x1 P) := by
  unfold wp_X11_begins
  repeat' (first | with_reducible exact Dq2 | with_reducible refine D_all fun _ => ?_ | with_reducible refine D_ite ?_ ?_ | with_reducible refine D_and ?_ | with_reducible refine D_c1 (d_canGo _ _ _) (fun _ => ?_) | with_reducible refine D_c1 (d_isFull _) (fun _ => ?_) | with_reducible refine D_c1 (d_txAt _ _) (fun _ => ?_) | with_reducible refine D_c2 (d_laysPlain _ _ _) (fun _ _ => ?_))
theorem d_commits (u0 : S11) (x1 : Int32) : D Pt2 (fun P => wp_X11_commits u0 x1 P) := by
  unfold wp_X11_commits
  repeat' (first | with_reducible exact Dq2 | with_reducible refine D_all fun _ => ?_ | with_reducible refine D_ite ?_ ?_ | with_reducible refine D_and ?_ | with_reducible refine D_c1 (d_canGo _ _ _) (fun _ => ?_) | with_reducible refine D_c1 (d_isFull _) (fun _ => ?_) | with_reducible refine D_c1 (d_txAt _ _) (fun _ => ?_) | with_reducible refine D_c2 (d_laysPlain _ _ _) (fun _ _ => ?_) | with_reducible refine D_cS (d_flushesThrough _ _) (fun _ => ?_) | with_reducible refine D_cS (d_isGone _ _) (fun _ => ?_))
theorem d_aborts (u0 : S11) (x1 : Int32) : D Pt2 (fun P => wp_X11_aborts u0 x1 P) := by
  unfold wp_X11_aborts
  repeat' (first | with_reducible exact Dq2 | with_reducible refine D_all fun _ => ?_ | with_reducible refine D_ite ?_ ?_ | with_reducible refine D_and ?_ | with_reducible refine D_c1 (d_canGo _ _ _) (fun _ => ?_) | with_reducible refine D_c2 (d_laysPlain _ _ _) (fun _ _ => ?_) | with_reducible refine D_c1 (d_txAt _ _) (fun _ => ?_))
theorem d_opensTop (u0 : S11) (x1 : Int32) : D Pt2 (fun P => wp_X11_opensTop u0 x1 P) := by
  unfold wp_X11_opensTop
  repeat' (first | with_reducible exact Dq2 | with_reducible refine D_all fun _ => ?_ | with_reducible refine D_ite ?_ ?_ | with_reducible refine D_and ?_ | with_reducible refine D_c1 (d_canGo _ _ _) (fun _ => ?_) | with_reducible refine D_c1 (d_txAt _ _) (fun _ => ?_))
theorem d_closesTop (u0 : S11) (x1 : Int32) : D Pt2 (fun P => wp_X11_closesTop u0 x1 P) := by
  unfold wp_X11_closesTop
  repeat' (first | with_reducible exact Dq2 | with_reducible refine D_all fun _ => ?_ | with_reducible refine D_ite ?_ ?_ | with_reducible refine D_and ?_ | with_reducible refine D_c1 (d_canGo _ _ _) (fun _ => ?_) | with_reducible refine D_c1 (d_isFull _) (fun _ => ?_) | with_reducible refine D_c1 (d_txAt _ _) (fun _ => ?_) | with_reducible refine D_cS (d_opens _ _ _ _) (fun _ => ?_) | with_reducible refine D_cS (d_laysTwo _ _) (fun _ => ?_) | with_reducible refine D_c2 (d_closes _ _) (fun _ _ => ?_))
theorem d_act (u0 : S11) (x1 : Int32) (x2 : Int32) : D Pt2 (fun P => wp_X11_act u0 x1 x2 P) := by
  unfold wp_X11_act
  repeat' (first | with_reducible exact Dq2 | with_reducible refine D_all fun _ => ?_ | with_reducible refine D_ite ?_ ?_ | with_reducible refine D_and ?_ | with_reducible refine D_c2 (d_begins _ _) (fun _ _ => ?_) | with_reducible refine D_c2 (d_commits _ _) (fun _ _ => ?_) | with_reducible refine D_c2 (d_aborts _ _) (fun _ _ => ?_) | with_reducible refine D_c2 (d_opensTop _ _) (fun _ _ => ?_) | with_reducible refine D_c2 (d_closesTop _ _) (fun _ _ => ?_))
theorem d_roll_73 {k_29 : (Int32 → S11 → Prop) → Int32 → Int32 → Int32 → S11 → Prop} (hk_29 : ∀ (z0 : Int32) (z1 : Int32) (z2 : Int32) (z3 : S11), D Pt2 (fun P => k_29 P z0 z1 z2 z3)) (x1 : Int32) (x2 : Int32) (x3 : Int32) (x4 : Int32) (u0 : S11) : D Pt2 (fun P => wp_X11_roll_73 (k_29 P) P x1 x2 x3 x4 u0) := by
  unfold wp_X11_roll_73
  repeat' (first | with_reducible exact Dq2 | with_reducible exact hk_29 _ _ _ _ | with_reducible refine D_all fun _ => ?_ | with_reducible refine D_ite ?_ ?_ | with_reducible refine D_and ?_ | with_reducible refine D_c2 (d_laysPlain _ _ _) (fun _ _ => ?_) | with_reducible refine D_cS (d_isGone _ _) (fun _ => ?_) | with_reducible refine D_cS (d_stepsBack _ _ _ _) (fun _ => ?_) | with_reducible refine D_c1 (d_txAt _ _) (fun _ => ?_) | with_reducible refine D_c1 (d_two _ _) (fun _ => ?_))
theorem d_roll_48 {k_29 : (Int32 → S11 → Prop) → Int32 → Int32 → Int32 → S11 → Prop} (hk_29 : ∀ (z0 : Int32) (z1 : Int32) (z2 : Int32) (z3 : S11), D Pt2 (fun P => k_29 P z0 z1 z2 z3)) : ∀ (n : Nat) (x0 : Int32) (x1 : Int32) (x2 : Int32) (x3 : Int32) (x4 : S11), D Pt2 (fun P => wp_X11_roll_48 (k_29 P) P n x0 x1 x2 x3 x4) := by
  intro n
  induction n with
  | zero => intro x0 x1 x2 x3 x4; exact D_f
  | succ n ih =>
    intro x0 x1 x2 x3 x4
    simp only [wp_X11_roll_48]
    repeat' (first | with_reducible exact Dq2 | with_reducible exact hk_29 _ _ _ _ | with_reducible refine D_all fun _ => ?_ | with_reducible refine D_ite ?_ ?_ | with_reducible refine D_and ?_ | with_reducible exact ih _ _ _ _ _ | with_reducible refine d_roll_73 (fun _ _ _ _ => ?_) _ _ _ _ _ | with_reducible refine D_c1 (d_isUndoable _ _) (fun _ => ?_) | with_reducible refine D_c1 (d_behind _ _) (fun _ => ?_))
theorem d_roll_29 : ∀ (n : Nat) (x0 : Int32) (x1 : Int32) (x2 : Int32) (x3 : S11), D Pt2 (fun P => wp_X11_roll_29 P n x0 x1 x2 x3) := by
  intro n
  induction n with
  | zero => intro x0 x1 x2 x3; exact D_f
  | succ n ih =>
    intro x0 x1 x2 x3
    simp only [wp_X11_roll_29]
    repeat' (first | with_reducible exact Dq2 | with_reducible refine D_all fun _ => ?_ | with_reducible refine D_ite ?_ ?_ | with_reducible refine D_and ?_ | with_reducible exact ih _ _ _ _ | with_reducible refine D_c1 (d_txAt _ _) (fun _ => ?_) | with_reducible (refine De_x fun n => d_roll_48 (fun _ _ _ _ => ?_)  n _ _ _ _ _))
theorem d_roll (u0 : S11) (x1 : Int32) (x2 : Int32) : D Pt2 (fun P => wp_X11_roll u0 x1 x2 P) := by
  unfold wp_X11_roll
  repeat' (first | with_reducible exact Dq2 | with_reducible refine D_all fun _ => ?_ | with_reducible refine D_ite ?_ ?_ | with_reducible refine D_and ?_ | with_reducible refine D_c1 (d_isIn _ _ _ _) (fun _ => ?_) | with_reducible refine D_c1 (d_canGo _ _ _) (fun _ => ?_) | with_reducible (exact De_x fun n => d_roll_29  n _ _ _ _))
theorem d_checks (u0 : S11) : D Pt2 (fun P => wp_X11_checks u0 P) := by
  unfold wp_X11_checks
  repeat' (first | with_reducible exact Dq2 | with_reducible refine D_all fun _ => ?_ | with_reducible refine D_ite ?_ ?_ | with_reducible refine D_and ?_ | with_reducible refine D_c1 (d_isFull _) (fun _ => ?_) | with_reducible refine D_c2 (d_laysPlain _ _ _) (fun _ _ => ?_))
theorem d_txMany_22 {k_4 : (Int32 → Prop) → Int32 → Int32 → Prop} (hk_4 : ∀ (z0 : Int32) (z1 : Int32), D Pt1 (fun P => k_4 P z0 z1)) (u0 : S11) (x1 : Int32) (x2 : Int32) : D Pt1 (fun P => wp_X11_txMany_22 u0 (k_4 P) P x1 x2) := by
  unfold wp_X11_txMany_22
  repeat' (first | with_reducible exact Dq1 | with_reducible exact hk_4 _ _ | with_reducible refine D_all fun _ => ?_ | with_reducible refine D_ite ?_ ?_ | with_reducible refine D_and ?_)
theorem d_txMany_4 (u0 : S11) : ∀ (n : Nat) (x0 : Int32) (x1 : Int32), D Pt1 (fun P => wp_X11_txMany_4 u0 P n x0 x1) := by
  intro n
  induction n with
  | zero => intro x0 x1; exact D_f
  | succ n ih =>
    intro x0 x1
    simp only [wp_X11_txMany_4]
    repeat' (first | with_reducible exact Dq1 | with_reducible refine D_all fun _ => ?_ | with_reducible refine D_ite ?_ ?_ | with_reducible refine D_and ?_ | with_reducible exact ih _ _ | with_reducible refine D_c1 (d_isOf _ _) (fun _ => ?_) | with_reducible refine d_txMany_22 (fun _ _ => ?_) _ _ _)
theorem d_txMany (u0 : S11) : D Pt1 (fun P => wp_X11_txMany u0 P) := by
  unfold wp_X11_txMany
  repeat' (first | with_reducible exact Dq1 | with_reducible refine D_all fun _ => ?_ | with_reducible refine D_ite ?_ ?_ | with_reducible refine D_and ?_ | with_reducible (exact De_x fun n => d_txMany_4 _ n _ _))
theorem d_uncleanMany_46 {k_4 : (Int32 → Prop) → Int32 → Int32 → Prop} (hk_4 : ∀ (z0 : Int32) (z1 : Int32), D Pt1 (fun P => k_4 P z0 z1)) (u0 : S11) (x1 : Int32) (x2 : Int32) : D Pt1 (fun P => wp_X11_uncleanMany_46 u0 (k_4 P) P x1 x2) := by
  unfold wp_X11_uncleanMany_46
  repeat' (first | with_reducible exact Dq1 | with_reducible exact hk_4 _ _ | with_reducible refine D_all fun _ => ?_ | with_reducible refine D_ite ?_ ?_ | with_reducible refine D_and ?_)
theorem d_uncleanMany_4 (u0 : S11) : ∀ (n : Nat) (x0 : Int32) (x1 : Int32), D Pt1 (fun P => wp_X11_uncleanMany_4 u0 P n x0 x1) := by
  intro n
  induction n with
  | zero => intro x0 x1; exact D_f
  | succ n ih =>
    intro x0 x1
    simp only [wp_X11_uncleanMany_4]
    repeat' (first | with_reducible exact Dq1 | with_reducible refine D_all fun _ => ?_ | with_reducible refine D_ite ?_ ?_ | with_reducible refine D_and ?_ | with_reducible exact ih _ _ | with_reducible refine D_c1 (d_frameMany _) (fun _ => ?_) | with_reducible refine D_c1 (d_frameAt _ _) (fun _ => ?_) | with_reducible refine d_uncleanMany_46 (fun _ _ => ?_) _ _ _)
theorem d_uncleanMany (u0 : S11) : D Pt1 (fun P => wp_X11_uncleanMany u0 P) := by
  unfold wp_X11_uncleanMany
  repeat' (first | with_reducible exact Dq1 | with_reducible refine D_all fun _ => ?_ | with_reducible refine D_ite ?_ ?_ | with_reducible refine D_and ?_ | with_reducible (exact De_x fun n => d_uncleanMany_4 _ n _ _))
theorem d_overs_170 {k_114 : (Int32 → S11 → Prop) → Int32 → S11 → Prop} (hk_114 : ∀ (z0 : Int32) (z1 : S11), D Pt2 (fun P => k_114 P z0 z1)) (x1 : Int32) (u0 : S11) : D Pt2 (fun P => wp_X11_overs_170 (k_114 P) P x1 u0) := by
  unfold wp_X11_overs_170
  repeat' (first | with_reducible exact Dq2 | with_reducible exact hk_114 _ _ | with_reducible refine D_all fun _ => ?_ | with_reducible refine D_ite ?_ ?_ | with_reducible refine D_and ?_)
theorem d_overs_114 : ∀ (n : Nat) (x0 : Int32) (x1 : S11), D Pt2 (fun P => wp_X11_overs_114 P n x0 x1) := by
  intro n
  induction n with
  | zero => intro x0 x1; exact D_f
  | succ n ih =>
    intro x0 x1
    simp only [wp_X11_overs_114]
    repeat' (first | with_reducible exact Dq2 | with_reducible refine D_all fun _ => ?_ | with_reducible refine D_ite ?_ ?_ | with_reducible refine D_and ?_ | with_reducible exact ih _ _ | with_reducible refine D_c2 (d_closes _ _) (fun _ _ => ?_) | with_reducible refine D_cS (d_flushesThrough _ _) (fun _ => ?_) | with_reducible refine D_c1 (d_frameOf _ _) (fun _ => ?_) | with_reducible refine d_overs_170 (fun _ _ => ?_) _ _ | with_reducible refine D_c1 (d_frameAt _ _) (fun _ => ?_) | with_reducible refine D_cS (d_lays _ _) (fun _ => ?_) | with_reducible refine D_cS (d_laysTwo _ _) (fun _ => ?_))
theorem d_overs_98 {k_51 : (Int32 → S11 → Prop) → Int32 → S11 → Prop} (hk_51 : ∀ (z0 : Int32) (z1 : S11), D Pt2 (fun P => k_51 P z0 z1)) (x1 : Int32) (u0 : S11) : D Pt2 (fun P => wp_X11_overs_98 (k_51 P) P x1 u0) := by
  unfold wp_X11_overs_98
  repeat' (first | with_reducible exact Dq2 | with_reducible exact hk_51 _ _ | with_reducible refine D_all fun _ => ?_ | with_reducible refine D_ite ?_ ?_ | with_reducible refine D_and ?_)
theorem d_overs_51 : ∀ (n : Nat) (x0 : Int32) (x1 : S11), D Pt2 (fun P => wp_X11_overs_51 P n x0 x1) := by
  intro n
  induction n with
  | zero => intro x0 x1; exact D_f
  | succ n ih =>
    intro x0 x1
    simp only [wp_X11_overs_51]
    repeat' (first | with_reducible exact Dq2 | with_reducible refine D_all fun _ => ?_ | with_reducible refine D_ite ?_ ?_ | with_reducible refine D_and ?_ | with_reducible exact ih _ _ | with_reducible refine D_c1 (d_uncleanMany _) (fun _ => ?_) | with_reducible refine D_cS (d_lays _ _) (fun _ => ?_) | with_reducible (exact De_x fun n => d_overs_114  n _ _) | with_reducible refine D_c1 (d_isOf _ _) (fun _ => ?_) | with_reducible refine d_overs_98 (fun _ _ => ?_) _ _ | with_reducible refine D_c1 (d_txAt _ _) (fun _ => ?_) | with_reducible refine D_cS (d_laysTwo _ _) (fun _ => ?_))
theorem d_overs (u0 : S11) : D Pt2 (fun P => wp_X11_overs u0 P) := by
  unfold wp_X11_overs
  repeat' (first | with_reducible exact Dq2 | with_reducible refine D_all fun _ => ?_ | with_reducible refine D_ite ?_ ?_ | with_reducible refine D_and ?_ | with_reducible refine D_c1 (d_isFull _) (fun _ => ?_) | with_reducible refine D_c1 (d_txMany _) (fun _ => ?_) | with_reducible refine D_c1 (d_uncleanMany _) (fun _ => ?_) | with_reducible refine D_cS (d_opens _ _ _ _) (fun _ => ?_) | with_reducible refine D_cS (d_lays _ _) (fun _ => ?_) | with_reducible (exact De_x fun n => d_overs_51  n _ _))
theorem d_dumps_2 : ∀ (n : Nat) (x0 : Int32) (x1 : Int32) (x2 : S11), D PtS (fun P => wp_X11_dumps_2 P n x0 x1 x2) := by
  intro n
  induction n with
  | zero => intro x0 x1 x2; exact D_f
  | succ n ih =>
    intro x0 x1 x2
    simp only [wp_X11_dumps_2]
    repeat' (first | with_reducible exact DqS | with_reducible refine D_all fun _ => ?_ | with_reducible refine D_ite ?_ ?_ | with_reducible refine D_and ?_ | with_reducible exact ih _ _ _)
theorem d_dumps (u0 : S11) (x1 : Int32) : D PtS (fun P => wp_X11_dumps u0 x1 P) := by
  unfold wp_X11_dumps
  repeat' (first | with_reducible exact DqS | with_reducible refine D_all fun _ => ?_ | with_reducible refine D_ite ?_ ?_ | with_reducible refine D_and ?_ | with_reducible (exact De_x fun n => d_dumps_2  n _ _ _))
theorem d_canLose_24 (u0 : S11) : ∀ (n : Nat) (x0 : Int32) (x1 : Int32), D Pt1 (fun P => wp_X11_canLose_24 u0 P n x0 x1) := by
  intro n
  induction n with
  | zero => intro x0 x1; exact D_f
  | succ n ih =>
    intro x0 x1
    simp only [wp_X11_canLose_24]
    repeat' (first | with_reducible exact Dq1 | with_reducible refine D_all fun _ => ?_ | with_reducible refine D_ite ?_ ?_ | with_reducible refine D_and ?_ | with_reducible exact ih _ _)
theorem d_canLose (u0 : S11) (x1 : Int32) : D Pt1 (fun P => wp_X11_canLose u0 x1 P) := by
  unfold wp_X11_canLose
  repeat' (first | with_reducible exact Dq1 | with_reducible refine D_all fun _ => ?_ | with_reducible refine D_ite ?_ ?_ | with_reducible refine D_and ?_ | with_reducible refine D_c1 (d_isLostPage _ _) (fun _ => ?_) | with_reducible refine D_c1 (d_frameOf _ _) (fun _ => ?_) | with_reducible (exact De_x fun n => d_canLose_24 _ n _ _))
theorem d_loses_2 : ∀ (n : Nat) (x0 : Int32) (x1 : Int32) (x2 : S11), D PtS (fun P => wp_X11_loses_2 P n x0 x1 x2) := by
  intro n
  induction n with
  | zero => intro x0 x1 x2; exact D_f
  | succ n ih =>
    intro x0 x1 x2
    simp only [wp_X11_loses_2]
    repeat' (first | with_reducible exact DqS | with_reducible refine D_all fun _ => ?_ | with_reducible refine D_ite ?_ ?_ | with_reducible refine D_and ?_ | with_reducible exact ih _ _ _)
theorem d_loses (u0 : S11) (x1 : Int32) : D PtS (fun P => wp_X11_loses u0 x1 P) := by
  unfold wp_X11_loses
  repeat' (first | with_reducible exact DqS | with_reducible refine D_all fun _ => ?_ | with_reducible refine D_ite ?_ ?_ | with_reducible refine D_and ?_ | with_reducible (exact De_x fun n => d_loses_2  n _ _ _))
theorem d_restores_158 {k_71 : (S11 → Prop) → Int32 → Int32 → S11 → Prop} (hk_71 : ∀ (z0 : Int32) (z1 : Int32) (z2 : S11), D PtS (fun P => k_71 P z0 z1 z2)) (x1 : Int32) (x2 : Int32) (u0 : S11) : D PtS (fun P => wp_X11_restores_158 (k_71 P) P x1 x2 u0) := by
  unfold wp_X11_restores_158
  repeat' (first | with_reducible exact DqS | with_reducible exact hk_71 _ _ _ | with_reducible refine D_all fun _ => ?_ | with_reducible refine D_ite ?_ ?_ | with_reducible refine D_and ?_ | with_reducible refine D_c1 (d_logByte _ _) (fun _ => ?_))
theorem d_restores_71 : ∀ (n : Nat) (x0 : Int32) (x1 : Int32) (x2 : S11), D PtS (fun P => wp_X11_restores_71 P n x0 x1 x2) := by
  intro n
  induction n with
  | zero => intro x0 x1 x2; exact D_f
  | succ n ih =>
    intro x0 x1 x2
    simp only [wp_X11_restores_71]
    repeat' (first | with_reducible exact DqS | with_reducible refine D_all fun _ => ?_ | with_reducible refine D_ite ?_ ?_ | with_reducible refine D_and ?_ | with_reducible exact ih _ _ _ | with_reducible refine D_c1 (d_isWhole _ _) (fun _ => ?_) | with_reducible refine D_c1 (d_isChange _ _) (fun _ => ?_) | with_reducible refine d_restores_158 (fun _ _ _ => ?_) _ _ _ | with_reducible refine D_c1 (d_addressIn _ _) (fun _ => ?_) | with_reducible refine D_c1 (d_doneBy _ _ _) (fun _ => ?_))
theorem d_restores_7 : ∀ (n : Nat) (x0 : Int32) (x1 : Int32) (x2 : S11), D PtS (fun P => wp_X11_restores_7 P n x0 x1 x2) := by
  intro n
  induction n with
  | zero => intro x0 x1 x2; exact D_f
  | succ n ih =>
    intro x0 x1 x2
    simp only [wp_X11_restores_7]
    repeat' (first | with_reducible exact DqS | with_reducible refine D_all fun _ => ?_ | with_reducible refine D_ite ?_ ?_ | with_reducible refine D_and ?_ | with_reducible exact ih _ _ _ | with_reducible (exact De_x fun n => d_restores_71  n _ _ _))
theorem d_restores (u0 : S11) (x1 : Int32) : D PtS (fun P => wp_X11_restores u0 x1 P) := by
  unfold wp_X11_restores
  repeat' (first | with_reducible exact DqS | with_reducible refine D_all fun _ => ?_ | with_reducible refine D_ite ?_ ?_ | with_reducible refine D_and ?_ | with_reducible refine D_cS (d_flushesThrough _ _) (fun _ => ?_) | with_reducible (exact De_x fun n => d_restores_7  n _ _ _))
theorem d_keepsPage_121 (x1 : Int32) (x2 : Int32) (u0 : S11) : D Pt2 (fun P => wp_X11_keepsPage_121 P x1 x2 u0) := by
  unfold wp_X11_keepsPage_121
  repeat' (first | with_reducible exact Dq2 | with_reducible refine D_all fun _ => ?_ | with_reducible refine D_ite ?_ ?_ | with_reducible refine D_and ?_ | with_reducible refine D_cS (d_restores _ _) (fun _ => ?_))
theorem d_keepsPage_111 (x1 : Int32) (x2 : Int32) (u0 : S11) : D Pt2 (fun P => wp_X11_keepsPage_111 P x1 x2 u0) := by
  unfold wp_X11_keepsPage_111
  repeat' (first | with_reducible exact Dq2 | with_reducible refine D_all fun _ => ?_ | with_reducible refine D_ite ?_ ?_ | with_reducible refine D_and ?_ | with_reducible refine D_cS (d_loses _ _) (fun _ => ?_) | with_reducible refine d_keepsPage_121 _ _ _)
theorem d_keepsPage_92 (x1 : Int32) (x2 : Int32) (y0 : Int32) (u0 : S11) : D Pt2 (fun P => wp_X11_keepsPage_92 P x1 x2 y0 u0) := by
  unfold wp_X11_keepsPage_92
  repeat' (first | with_reducible exact Dq2 | with_reducible refine D_all fun _ => ?_ | with_reducible refine D_ite ?_ ?_ | with_reducible refine D_and ?_ | with_reducible refine D_cS (d_dumps _ _) (fun _ => ?_) | with_reducible refine d_keepsPage_111 _ _ _)
theorem d_keepsPage (u0 : S11) (x1 : Int32) (x2 : Int32) : D Pt2 (fun P => wp_X11_keepsPage u0 x1 x2 P) := by
  unfold wp_X11_keepsPage
  repeat' (first | with_reducible exact Dq2 | with_reducible refine D_all fun _ => ?_ | with_reducible refine D_ite ?_ ?_ | with_reducible refine D_and ?_ | with_reducible refine D_c1 (d_isIn _ _ _ _) (fun _ => ?_) | with_reducible refine D_c1 (d_frameOf _ _) (fun _ => ?_) | with_reducible refine D_c1 (d_frameAt _ _) (fun _ => ?_) | with_reducible refine D_cS (d_isWritten _ _) (fun _ => ?_) | with_reducible refine D_c1 (d_isLostPage _ _) (fun _ => ?_) | with_reducible refine d_keepsPage_92 _ _ _ _ | with_reducible refine D_c1 (d_canLose _ _) (fun _ => ?_))
theorem d_keep_70 (x2 : Int32) (u0 : S11) : D Pt2 (fun P => wp_X11_keep_70 P x2 u0) := by
  unfold wp_X11_keep_70
  repeat' (first | with_reducible exact Dq2 | with_reducible refine D_all fun _ => ?_ | with_reducible refine D_ite ?_ ?_ | with_reducible refine D_and ?_ | with_reducible refine D_cS (d_flushesThrough _ _) (fun _ => ?_))
theorem d_keep (u0 : S11) (x1 : Int32) (x2 : Int32) : D Pt2 (fun P => wp_X11_keep u0 x1 x2 P) := by
  unfold wp_X11_keep
  repeat' (first | with_reducible exact Dq2 | with_reducible refine D_all fun _ => ?_ | with_reducible refine D_ite ?_ ?_ | with_reducible refine D_and ?_ | with_reducible refine D_c1 (d_isUp _) (fun _ => ?_) | with_reducible refine D_c1 (d_isIn _ _ _ _) (fun _ => ?_) | with_reducible refine D_c2 (d_checks _) (fun _ _ => ?_) | with_reducible refine D_c2 (d_overs _) (fun _ _ => ?_) | with_reducible refine d_keep_70 _ _ | with_reducible refine D_c1 (d_isRecord _ _) (fun _ => ?_) | with_reducible refine D_c2 (d_keepsPage _ _ _) (fun _ _ => ?_))
theorem d_crashes_52 : ∀ (n : Nat) (x0 : Int32) (x1 : S11), D PtS (fun P => wp_X11_crashes_52 P n x0 x1) := by
  intro n
  induction n with
  | zero => intro x0 x1; exact D_f
  | succ n ih =>
    intro x0 x1
    simp only [wp_X11_crashes_52]
    repeat' (first | with_reducible exact DqS | with_reducible refine D_all fun _ => ?_ | with_reducible refine D_ite ?_ ?_ | with_reducible refine D_and ?_ | with_reducible exact ih _ _ | with_reducible refine D_cS (d_isGone _ _) (fun _ => ?_))
theorem d_crashes_30 : ∀ (n : Nat) (x0 : Int32) (x1 : S11), D PtS (fun P => wp_X11_crashes_30 P n x0 x1) := by
  intro n
  induction n with
  | zero => intro x0 x1; exact D_f
  | succ n ih =>
    intro x0 x1
    simp only [wp_X11_crashes_30]
    repeat' (first | with_reducible exact DqS | with_reducible refine D_all fun _ => ?_ | with_reducible refine D_ite ?_ ?_ | with_reducible refine D_and ?_ | with_reducible exact ih _ _ | with_reducible (exact De_x fun n => d_crashes_52  n _ _))
theorem d_crashes (u0 : S11) (x1 : Int32) : D PtS (fun P => wp_X11_crashes u0 x1 P) := by
  unfold wp_X11_crashes
  repeat' (first | with_reducible exact DqS | with_reducible refine D_all fun _ => ?_ | with_reducible refine D_ite ?_ ?_ | with_reducible refine D_and ?_ | with_reducible refine D_c1 (d_end1 _) (fun _ => ?_) | with_reducible refine D_c1 (d_flushed _) (fun _ => ?_) | with_reducible refine D_c1 (d_lesser _ _ _) (fun _ => ?_) | with_reducible refine D_cS (d_isEnd _ _) (fun _ => ?_) | with_reducible refine D_cS (d_isFlushed _ _) (fun _ => ?_) | with_reducible (exact De_x fun n => d_crashes_30  n _ _))
theorem d_analyses_315 {k_259 : (S11 → Prop) → Int32 → Int32 → Int32 → S11 → Prop} (hk_259 : ∀ (z0 : Int32) (z1 : Int32) (z2 : Int32) (z3 : S11), D PtS (fun P => k_259 P z0 z1 z2 z3)) (x4 : Int32) (x5 : Int32) (x6 : Int32) (u0 : S11) : D PtS (fun P => wp_X11_analyses_315 (k_259 P) P x4 x5 x6 u0) := by
  unfold wp_X11_analyses_315
  repeat' (first | with_reducible exact DqS | with_reducible exact hk_259 _ _ _ _ | with_reducible refine D_all fun _ => ?_ | with_reducible refine D_ite ?_ ?_ | with_reducible refine D_and ?_)
theorem d_analyses_306 {k_315 : (S11 → Prop) → Int32 → Int32 → Int32 → S11 → Prop} (hk_315 : ∀ (z0 : Int32) (z1 : Int32) (z2 : Int32) (z3 : S11), D PtS (fun P => k_315 P z0 z1 z2 z3)) (x4 : Int32) (x5 : Int32) (x6 : Int32) (x7 : Int32) (x8 : Int32) (u0 : S11) : D PtS (fun P => wp_X11_analyses_306 (k_315 P) P x4 x5 x6 x7 x8 u0) := by
  unfold wp_X11_analyses_306
  repeat' (first | with_reducible exact DqS | with_reducible exact hk_315 _ _ _ _ | with_reducible refine D_all fun _ => ?_ | with_reducible refine D_ite ?_ ?_ | with_reducible refine D_and ?_)
theorem d_analyses_259 : ∀ (n : Nat) (x0 : Int32) (x1 : Int32) (x2 : Int32) (x3 : S11), D PtS (fun P => wp_X11_analyses_259 P n x0 x1 x2 x3) := by
  intro n
  induction n with
  | zero => intro x0 x1 x2 x3; exact D_f
  | succ n ih =>
    intro x0 x1 x2 x3
    simp only [wp_X11_analyses_259]
    repeat' (first | with_reducible exact DqS | with_reducible refine D_all fun _ => ?_ | with_reducible refine D_ite ?_ ?_ | with_reducible refine D_and ?_ | with_reducible exact ih _ _ _ _ | with_reducible refine D_c1 (d_logByte _ _) (fun _ => ?_) | with_reducible refine D_c1 (d_two _ _) (fun _ => ?_) | with_reducible refine d_analyses_306 (fun _ _ _ _ => ?_) _ _ _ _ _ _ | with_reducible refine d_analyses_315 (fun _ _ _ _ => ?_) _ _ _ _)
theorem d_analyses_230 {k_159 : (S11 → Prop) → Int32 → Int32 → Int32 → S11 → Prop} (hk_159 : ∀ (z0 : Int32) (z1 : Int32) (z2 : Int32) (z3 : S11), D PtS (fun P => k_159 P z0 z1 z2 z3)) (x1 : Int32) (x4 : Int32) (x5 : Int32) (u0 : S11) : D PtS (fun P => wp_X11_analyses_230 (k_159 P) P x1 x4 x5 u0) := by
  unfold wp_X11_analyses_230
  repeat' (first | with_reducible exact DqS | with_reducible exact hk_159 _ _ _ _ | with_reducible refine D_all fun _ => ?_ | with_reducible refine D_ite ?_ ?_ | with_reducible refine D_and ?_)
theorem d_analyses_159 : ∀ (n : Nat) (x0 : Int32) (x1 : Int32) (x2 : Int32) (x3 : S11), D PtS (fun P => wp_X11_analyses_159 P n x0 x1 x2 x3) := by
  intro n
  induction n with
  | zero => intro x0 x1 x2 x3; exact D_f
  | succ n ih =>
    intro x0 x1 x2 x3
    simp only [wp_X11_analyses_159]
    repeat' (first | with_reducible exact DqS | with_reducible refine D_all fun _ => ?_ | with_reducible refine D_ite ?_ ?_ | with_reducible refine D_and ?_ | with_reducible exact ih _ _ _ _ | with_reducible refine D_c1 (d_logByte _ _) (fun _ => ?_) | with_reducible (exact De_x fun n => d_analyses_259  n _ _ _ _) | with_reducible refine D_c1 (d_isOf _ _) (fun _ => ?_) | with_reducible refine D_c1 (d_txAt _ _) (fun _ => ?_) | with_reducible refine D_c1 (d_two _ _) (fun _ => ?_) | with_reducible refine d_analyses_230 (fun _ _ _ _ => ?_) _ _ _ _)
theorem d_analyses_143 (x1 : Int32) (x3 : Int32) (u0 : S11) : D PtS (fun P => wp_X11_analyses_143 P x1 x3 u0) := by
  unfold wp_X11_analyses_143
  repeat' (first | with_reducible exact DqS | with_reducible refine D_all fun _ => ?_ | with_reducible refine D_ite ?_ ?_ | with_reducible refine D_and ?_ | with_reducible (exact De_x fun n => d_analyses_159  n _ _ _ _))
theorem d_analyses_105 (x1 : Int32) (x3 : Int32) (u0 : S11) : D PtS (fun P => wp_X11_analyses_105 P x1 x3 u0) := by
  unfold wp_X11_analyses_105
  repeat' (first | with_reducible exact DqS | with_reducible refine D_all fun _ => ?_ | with_reducible refine D_ite ?_ ?_ | with_reducible refine D_and ?_ | with_reducible refine D_c1 (d_isChange _ _) (fun _ => ?_) | with_reducible refine d_analyses_143 _ _ _ | with_reducible refine D_c1 (d_addressIn _ _) (fun _ => ?_))
theorem d_analyses_94 {k_105 : (S11 → Prop) → Int32 → Int32 → S11 → Prop} (hk_105 : ∀ (z0 : Int32) (z1 : Int32) (z2 : S11), D PtS (fun P => k_105 P z0 z1 z2)) (x1 : Int32) (x2 : Int32) (x3 : Int32) (u0 : S11) : D PtS (fun P => wp_X11_analyses_94 (k_105 P) P x1 x2 x3 u0) := by
  unfold wp_X11_analyses_94
  repeat' (first | with_reducible exact DqS | with_reducible exact hk_105 _ _ _ | with_reducible refine D_all fun _ => ?_ | with_reducible refine D_ite ?_ ?_ | with_reducible refine D_and ?_ | with_reducible refine D_cS (d_isGone _ _) (fun _ => ?_))
theorem d_analyses_78 {k_105 : (S11 → Prop) → Int32 → Int32 → S11 → Prop} (hk_105 : ∀ (z0 : Int32) (z1 : Int32) (z2 : S11), D PtS (fun P => k_105 P z0 z1 z2)) (x1 : Int32) (x2 : Int32) (x3 : Int32) (x4 : Int32) (u0 : S11) : D PtS (fun P => wp_X11_analyses_78 (k_105 P) P x1 x2 x3 x4 u0) := by
  unfold wp_X11_analyses_78
  repeat' (first | with_reducible exact DqS | with_reducible exact hk_105 _ _ _ | with_reducible refine D_all fun _ => ?_ | with_reducible refine D_ite ?_ ?_ | with_reducible refine D_and ?_ | with_reducible refine d_analyses_94 (fun _ _ _ => ?_) _ _ _ _)
theorem d_analyses_53 {k_105 : (S11 → Prop) → Int32 → Int32 → S11 → Prop} (hk_105 : ∀ (z0 : Int32) (z1 : Int32) (z2 : S11), D PtS (fun P => k_105 P z0 z1 z2)) (x1 : Int32) (x2 : Int32) (x3 : Int32) (x4 : Int32) (u0 : S11) : D PtS (fun P => wp_X11_analyses_53 (k_105 P) P x1 x2 x3 x4 u0) := by
  unfold wp_X11_analyses_53
  repeat' (first | with_reducible exact DqS | with_reducible exact hk_105 _ _ _ | with_reducible refine D_all fun _ => ?_ | with_reducible refine D_ite ?_ ?_ | with_reducible refine D_and ?_ | with_reducible refine d_analyses_78 (fun _ _ _ => ?_) _ _ _ _ _)
theorem d_analyses (u0 : S11) (x1 : Int32) : D PtS (fun P => wp_X11_analyses u0 x1 P) := by
  unfold wp_X11_analyses
  repeat' (first | with_reducible exact DqS | with_reducible refine D_all fun _ => ?_ | with_reducible refine D_ite ?_ ?_ | with_reducible refine D_and ?_ | with_reducible refine D_c1 (d_logByte _ _) (fun _ => ?_) | with_reducible refine d_analyses_105 _ _ _ | with_reducible refine D_c1 (d_txAt _ _) (fun _ => ?_) | with_reducible refine d_analyses_53 (fun _ _ _ => ?_) _ _ _ _ _)
theorem d_analysis_141 {k_109 : (S11 → Prop) → Int32 → S11 → Prop} (hk_109 : ∀ (z0 : Int32) (z1 : S11), D PtS (fun P => k_109 P z0 z1)) (x2 : Int32) (u0 : S11) : D PtS (fun P => wp_X11_analysis_141 (k_109 P) P x2 u0) := by
  unfold wp_X11_analysis_141
  repeat' (first | with_reducible exact DqS | with_reducible exact hk_109 _ _ | with_reducible refine D_all fun _ => ?_ | with_reducible refine D_ite ?_ ?_ | with_reducible refine D_and ?_)
theorem d_analysis_109 : ∀ (n : Nat) (x0 : Int32) (x1 : S11), D PtS (fun P => wp_X11_analysis_109 P n x0 x1) := by
  intro n
  induction n with
  | zero => intro x0 x1; exact D_f
  | succ n ih =>
    intro x0 x1
    simp only [wp_X11_analysis_109]
    repeat' (first | with_reducible exact DqS | with_reducible refine D_all fun _ => ?_ | with_reducible refine D_ite ?_ ?_ | with_reducible refine D_and ?_ | with_reducible exact ih _ _ | with_reducible refine D_c1 (d_isOf _ _) (fun _ => ?_) | with_reducible refine D_c1 (d_isIn _ _ _ _) (fun _ => ?_) | with_reducible refine d_analysis_141 (fun _ _ => ?_) _ _)
theorem d_analysis_42 : ∀ (n : Nat) (x0 : Int32) (x1 : S11), D PtS (fun P => wp_X11_analysis_42 P n x0 x1) := by
  intro n
  induction n with
  | zero => intro x0 x1; exact D_f
  | succ n ih =>
    intro x0 x1
    simp only [wp_X11_analysis_42]
    repeat' (first | with_reducible exact DqS | with_reducible refine D_all fun _ => ?_ | with_reducible refine D_ite ?_ ?_ | with_reducible refine D_and ?_ | with_reducible exact ih _ _ | with_reducible refine D_c1 (d_isWhole _ _) (fun _ => ?_) | with_reducible refine D_cS (d_isEnd _ _) (fun _ => ?_) | with_reducible refine D_cS (d_isFlushed _ _) (fun _ => ?_) | with_reducible refine D_c1 (d_lesser _ _ _) (fun _ => ?_) | with_reducible (exact De_x fun n => d_analysis_109  n _ _) | with_reducible refine D_cS (d_analyses _ _) (fun _ => ?_) | with_reducible refine D_c1 (d_logByte _ _) (fun _ => ?_))
theorem d_analysis_41 (y0 : Int32) (u0 : S11) : D PtS (fun P => wp_X11_analysis_41 P y0 u0) := by
  unfold wp_X11_analysis_41
  repeat' (first | with_reducible exact DqS | with_reducible refine D_all fun _ => ?_ | with_reducible refine D_ite ?_ ?_ | with_reducible refine D_and ?_ | with_reducible (exact De_x fun n => d_analysis_42  n _ _))
theorem d_analysis_2 : ∀ (n : Nat) (x0 : Int32) (x1 : S11), D PtS (fun P => wp_X11_analysis_2 P n x0 x1) := by
  intro n
  induction n with
  | zero => intro x0 x1; exact D_f
  | succ n ih =>
    intro x0 x1
    simp only [wp_X11_analysis_2]
    repeat' (first | with_reducible exact DqS | with_reducible refine D_all fun _ => ?_ | with_reducible refine D_ite ?_ ?_ | with_reducible refine D_and ?_ | with_reducible exact ih _ _ | with_reducible refine d_analysis_41 _ _)
theorem d_analysis (u0 : S11) : D PtS (fun P => wp_X11_analysis u0 P) := by
  unfold wp_X11_analysis
  repeat' (first | with_reducible exact DqS | with_reducible refine D_all fun _ => ?_ | with_reducible refine D_ite ?_ ?_ | with_reducible refine D_and ?_ | with_reducible (exact De_x fun n => d_analysis_2  n _ _))
theorem d_redoes_164 {k_42 : (S11 → Prop) → Int32 → S11 → Prop} (hk_42 : ∀ (z0 : Int32) (z1 : S11), D PtS (fun P => k_42 P z0 z1)) (x2 : Int32) (u0 : S11) : D PtS (fun P => wp_X11_redoes_164 (k_42 P) P x2 u0) := by
  unfold wp_X11_redoes_164
  repeat' (first | with_reducible exact DqS | with_reducible exact hk_42 _ _ | with_reducible refine D_all fun _ => ?_ | with_reducible refine D_ite ?_ ?_ | with_reducible refine D_and ?_ | with_reducible refine D_c1 (d_logByte _ _) (fun _ => ?_))
theorem d_redoes_42 : ∀ (n : Nat) (x0 : Int32) (x1 : S11), D PtS (fun P => wp_X11_redoes_42 P n x0 x1) := by
  intro n
  induction n with
  | zero => intro x0 x1; exact D_f
  | succ n ih =>
    intro x0 x1
    simp only [wp_X11_redoes_42]
    repeat' (first | with_reducible exact DqS | with_reducible refine D_all fun _ => ?_ | with_reducible refine D_ite ?_ ?_ | with_reducible refine D_and ?_ | with_reducible exact ih _ _ | with_reducible refine D_c1 (d_end1 _) (fun _ => ?_) | with_reducible refine D_c1 (d_isChange _ _) (fun _ => ?_) | with_reducible refine d_redoes_164 (fun _ _ => ?_) _ _ | with_reducible refine D_c1 (d_addressIn _ _) (fun _ => ?_) | with_reducible refine D_c2 (d_fetches _ _) (fun _ _ => ?_) | with_reducible refine D_c1 (d_doneBy _ _ _) (fun _ => ?_) | with_reducible refine D_cS (d_becomes _ _ _ _ _) (fun _ => ?_))
theorem d_redoes_34 {k_7 : (S11 → Prop) → Int32 → Int32 → S11 → Prop} (hk_7 : ∀ (z0 : Int32) (z1 : Int32) (z2 : S11), D PtS (fun P => k_7 P z0 z1 z2)) (x1 : Int32) (x2 : Int32) (u0 : S11) : D PtS (fun P => wp_X11_redoes_34 (k_7 P) P x1 x2 u0) := by
  unfold wp_X11_redoes_34
  repeat' (first | with_reducible exact DqS | with_reducible exact hk_7 _ _ _ | with_reducible refine D_all fun _ => ?_ | with_reducible refine D_ite ?_ ?_ | with_reducible refine D_and ?_)
theorem d_redoes_7 : ∀ (n : Nat) (x0 : Int32) (x1 : Int32) (x2 : S11), D PtS (fun P => wp_X11_redoes_7 P n x0 x1 x2) := by
  intro n
  induction n with
  | zero => intro x0 x1 x2; exact D_f
  | succ n ih =>
    intro x0 x1 x2
    simp only [wp_X11_redoes_7]
    repeat' (first | with_reducible exact DqS | with_reducible refine D_all fun _ => ?_ | with_reducible refine D_ite ?_ ?_ | with_reducible refine D_and ?_ | with_reducible exact ih _ _ _ | with_reducible (exact De_x fun n => d_redoes_42  n _ _) | with_reducible refine d_redoes_34 (fun _ _ _ => ?_) _ _ _ | with_reducible refine D_c1 (d_lesser _ _ _) (fun _ => ?_))
theorem d_redoes (u0 : S11) : D PtS (fun P => wp_X11_redoes u0 P) := by
  unfold wp_X11_redoes
  repeat' (first | with_reducible exact DqS | with_reducible refine D_all fun _ => ?_ | with_reducible refine D_ite ?_ ?_ | with_reducible refine D_and ?_ | with_reducible refine D_c1 (d_end1 _) (fun _ => ?_) | with_reducible (exact De_x fun n => d_redoes_7  n _ _ _))
theorem d_canWrite_19 (u0 : S11) : D Pt2 (fun P => wp_X11_canWrite_19 P u0) := by
  unfold wp_X11_canWrite_19
  repeat' (first | with_reducible exact Dq2 | with_reducible refine D_all fun _ => ?_ | with_reducible refine D_ite ?_ ?_ | with_reducible refine D_and ?_)
theorem d_canWrite (u0 : S11) : D Pt2 (fun P => wp_X11_canWrite u0 P) := by
  unfold wp_X11_canWrite
  repeat' (first | with_reducible exact Dq2 | with_reducible refine D_all fun _ => ?_ | with_reducible refine D_ite ?_ ?_ | with_reducible refine D_and ?_ | with_reducible refine d_canWrite_19 _ | with_reducible refine D_cS (d_crashes _ _) (fun _ => ?_))
theorem d_ends (u0 : S11) (x1 : Int32) : D Pt2 (fun P => wp_X11_ends u0 x1 P) := by
  unfold wp_X11_ends
  repeat' (first | with_reducible exact Dq2 | with_reducible refine D_all fun _ => ?_ | with_reducible refine D_ite ?_ ?_ | with_reducible refine D_and ?_ | with_reducible refine D_c2 (d_canWrite _) (fun _ _ => ?_) | with_reducible refine D_c2 (d_laysPlain _ _ _) (fun _ _ => ?_) | with_reducible refine D_cS (d_flushesThrough _ _) (fun _ => ?_) | with_reducible refine D_cS (d_isGone _ _) (fun _ => ?_))
theorem d_nextLoser_52 {k_4 : (Int32 → Prop) → Int32 → Int32 → Prop} (hk_4 : ∀ (z0 : Int32) (z1 : Int32), D Pt1 (fun P => k_4 P z0 z1)) (u0 : S11) (x1 : Int32) (x2 : Int32) : D Pt1 (fun P => wp_X11_nextLoser_52 u0 (k_4 P) P x1 x2) := by
  unfold wp_X11_nextLoser_52
  repeat' (first | with_reducible exact Dq1 | with_reducible exact hk_4 _ _ | with_reducible refine D_all fun _ => ?_ | with_reducible refine D_ite ?_ ?_ | with_reducible refine D_and ?_)
theorem d_nextLoser_50 {k_52 : (Int32 → Prop) → Int32 → Int32 → Prop} (hk_52 : ∀ (z0 : Int32) (z1 : Int32), D Pt1 (fun P => k_52 P z0 z1)) (u0 : S11) (x2 : Int32) : D Pt1 (fun P => wp_X11_nextLoser_50 u0 (k_52 P) P x2) := by
  unfold wp_X11_nextLoser_50
  repeat' (first | with_reducible exact Dq1 | with_reducible exact hk_52 _ _ | with_reducible refine D_all fun _ => ?_ | with_reducible refine D_ite ?_ ?_ | with_reducible refine D_and ?_)
theorem d_nextLoser_4 (u0 : S11) : ∀ (n : Nat) (x0 : Int32) (x1 : Int32), D Pt1 (fun P => wp_X11_nextLoser_4 u0 P n x0 x1) := by
  intro n
  induction n with
  | zero => intro x0 x1; exact D_f
  | succ n ih =>
    intro x0 x1
    simp only [wp_X11_nextLoser_4]
    repeat' (first | with_reducible exact Dq1 | with_reducible refine D_all fun _ => ?_ | with_reducible refine D_ite ?_ ?_ | with_reducible refine D_and ?_ | with_reducible exact ih _ _ | with_reducible refine D_c1 (d_isOf _ _) (fun _ => ?_) | with_reducible refine d_nextLoser_52 (fun _ _ => ?_) _ _ _ | with_reducible refine d_nextLoser_50 (fun _ _ => ?_) _ _ | with_reducible refine D_c1 (d_txAt _ _) (fun _ => ?_))
theorem d_nextLoser (u0 : S11) : D Pt1 (fun P => wp_X11_nextLoser u0 P) := by
  unfold wp_X11_nextLoser
  repeat' (first | with_reducible exact Dq1 | with_reducible refine D_all fun _ => ?_ | with_reducible refine D_ite ?_ ?_ | with_reducible refine D_and ?_ | with_reducible (exact De_x fun n => d_nextLoser_4 _ n _ _))
theorem d_undoes_57 (x1 : Int32) (x2 : Int32) (u0 : S11) : D Pt2 (fun P => wp_X11_undoes_57 P x1 x2 u0) := by
  unfold wp_X11_undoes_57
  repeat' (first | with_reducible exact Dq2 | with_reducible refine D_all fun _ => ?_ | with_reducible refine D_ite ?_ ?_ | with_reducible refine D_and ?_ | with_reducible refine D_c1 (d_txAt _ _) (fun _ => ?_) | with_reducible refine D_c1 (d_behind _ _) (fun _ => ?_))
theorem d_undoes (u0 : S11) (x1 : Int32) : D Pt2 (fun P => wp_X11_undoes u0 x1 P) := by
  unfold wp_X11_undoes
  repeat' (first | with_reducible exact Dq2 | with_reducible refine D_all fun _ => ?_ | with_reducible refine D_ite ?_ ?_ | with_reducible refine D_and ?_ | with_reducible refine D_c1 (d_txAt _ _) (fun _ => ?_) | with_reducible refine D_c2 (d_ends _ _) (fun _ _ => ?_) | with_reducible refine D_c1 (d_isUndoable _ _) (fun _ => ?_) | with_reducible refine d_undoes_57 _ _ _ | with_reducible refine D_c2 (d_canWrite _) (fun _ _ => ?_) | with_reducible refine D_cS (d_stepsBack _ _ _ _) (fun _ => ?_))
theorem d_recovers_128 : ∀ (n : Nat) (x0 : Int32) (x1 : S11), D PtS (fun P => wp_X11_recovers_128 P n x0 x1) := by
  intro n
  induction n with
  | zero => intro x0 x1; exact D_f
  | succ n ih =>
    intro x0 x1
    simp only [wp_X11_recovers_128]
    repeat' (first | with_reducible exact DqS | with_reducible refine D_all fun _ => ?_ | with_reducible refine D_ite ?_ ?_ | with_reducible refine D_and ?_ | with_reducible exact ih _ _ | with_reducible refine D_c2 (d_undoes _ _) (fun _ _ => ?_) | with_reducible refine D_c1 (d_nextLoser _) (fun _ => ?_))
theorem d_recovers_87 : ∀ (n : Nat) (x0 : Int32) (x1 : S11), D PtS (fun P => wp_X11_recovers_87 P n x0 x1) := by
  intro n
  induction n with
  | zero => intro x0 x1; exact D_f
  | succ n ih =>
    intro x0 x1
    simp only [wp_X11_recovers_87]
    repeat' (first | with_reducible exact DqS | with_reducible refine D_all fun _ => ?_ | with_reducible refine D_ite ?_ ?_ | with_reducible refine D_and ?_ | with_reducible exact ih _ _ | with_reducible refine D_c1 (d_nextLoser _) (fun _ => ?_) | with_reducible (exact De_x fun n => d_recovers_128  n _ _) | with_reducible refine D_c1 (d_txAt _ _) (fun _ => ?_))
theorem d_recovers_79 {k_55 : (S11 → Prop) → Int32 → S11 → Prop} (hk_55 : ∀ (z0 : Int32) (z1 : S11), D PtS (fun P => k_55 P z0 z1)) (x2 : Int32) (u0 : S11) : D PtS (fun P => wp_X11_recovers_79 (k_55 P) P x2 u0) := by
  unfold wp_X11_recovers_79
  repeat' (first | with_reducible exact DqS | with_reducible exact hk_55 _ _ | with_reducible refine D_all fun _ => ?_ | with_reducible refine D_ite ?_ ?_ | with_reducible refine D_and ?_)
theorem d_recovers_55 : ∀ (n : Nat) (x0 : Int32) (x1 : S11), D PtS (fun P => wp_X11_recovers_55 P n x0 x1) := by
  intro n
  induction n with
  | zero => intro x0 x1; exact D_f
  | succ n ih =>
    intro x0 x1
    simp only [wp_X11_recovers_55]
    repeat' (first | with_reducible exact DqS | with_reducible refine D_all fun _ => ?_ | with_reducible refine D_ite ?_ ?_ | with_reducible refine D_and ?_ | with_reducible exact ih _ _ | with_reducible (exact De_x fun n => d_recovers_87  n _ _) | with_reducible refine D_c1 (d_isOf _ _) (fun _ => ?_) | with_reducible refine D_c2 (d_ends _ _) (fun _ _ => ?_) | with_reducible refine d_recovers_79 (fun _ _ => ?_) _ _)
theorem d_recovers_39 {k_20 : (S11 → Prop) → Int32 → S11 → Prop} (hk_20 : ∀ (z0 : Int32) (z1 : S11), D PtS (fun P => k_20 P z0 z1)) (x2 : Int32) (u0 : S11) : D PtS (fun P => wp_X11_recovers_39 (k_20 P) P x2 u0) := by
  unfold wp_X11_recovers_39
  repeat' (first | with_reducible exact DqS | with_reducible exact hk_20 _ _ | with_reducible refine D_all fun _ => ?_ | with_reducible refine D_ite ?_ ?_ | with_reducible refine D_and ?_)
theorem d_recovers_20 : ∀ (n : Nat) (x0 : Int32) (x1 : S11), D PtS (fun P => wp_X11_recovers_20 P n x0 x1) := by
  intro n
  induction n with
  | zero => intro x0 x1; exact D_f
  | succ n ih =>
    intro x0 x1
    simp only [wp_X11_recovers_20]
    repeat' (first | with_reducible exact DqS | with_reducible refine D_all fun _ => ?_ | with_reducible refine D_ite ?_ ?_ | with_reducible refine D_and ?_ | with_reducible exact ih _ _ | with_reducible refine D_cS (d_analysis _) (fun _ => ?_) | with_reducible refine D_cS (d_redoes _) (fun _ => ?_) | with_reducible (exact De_x fun n => d_recovers_55  n _ _) | with_reducible refine D_c1 (d_isLostPage _ _) (fun _ => ?_) | with_reducible refine d_recovers_39 (fun _ _ => ?_) _ _ | with_reducible refine D_cS (d_restores _ _) (fun _ => ?_))
theorem d_recovers (u0 : S11) (x1 : Int32) : D PtS (fun P => wp_X11_recovers u0 x1 P) := by
  unfold wp_X11_recovers
  repeat' (first | with_reducible exact DqS | with_reducible refine D_all fun _ => ?_ | with_reducible refine D_ite ?_ ?_ | with_reducible refine D_and ?_ | with_reducible (exact De_x fun n => d_recovers_20  n _ _))
theorem d_runsLine_132 (x2 : Int32) (x3 : Int32) (u0 : S11) : D Pt2 (fun P => wp_X11_runsLine_132 P x2 x3 u0) := by
  unfold wp_X11_runsLine_132
  repeat' (first | with_reducible exact Dq2 | with_reducible refine D_all fun _ => ?_ | with_reducible refine D_ite ?_ ?_ | with_reducible refine D_and ?_ | with_reducible refine D_c2 (d_act _ _ _) (fun _ _ => ?_))
theorem d_runsLine_153 (x2 : Int32) (x3 : Int32) (u0 : S11) : D Pt2 (fun P => wp_X11_runsLine_153 P x2 x3 u0) := by
  unfold wp_X11_runsLine_153
  repeat' (first | with_reducible exact Dq2 | with_reducible refine D_all fun _ => ?_ | with_reducible refine D_ite ?_ ?_ | with_reducible refine D_and ?_ | with_reducible refine D_c2 (d_act _ _ _) (fun _ _ => ?_))
theorem d_runsLine_229 (y1 : Int32) (u0 : S11) : D Pt2 (fun P => wp_X11_runsLine_229 P y1 u0) := by
  unfold wp_X11_runsLine_229
  repeat' (first | with_reducible exact Dq2 | with_reducible refine D_all fun _ => ?_ | with_reducible refine D_ite ?_ ?_ | with_reducible refine D_and ?_ | with_reducible refine D_c2 (d_keep _ _ _) (fun _ _ => ?_))
theorem d_runsLine (u0 : S11) (x1 : Int32) : D Pt2 (fun P => wp_X11_runsLine u0 x1 P) := by
  unfold wp_X11_runsLine
  repeat' (first | with_reducible exact Dq2 | with_reducible refine D_all fun _ => ?_ | with_reducible refine D_ite ?_ ?_ | with_reducible refine D_and ?_ | with_reducible refine D_c2 (d_act _ _ _) (fun _ _ => ?_) | with_reducible refine D_c2 (d_write _ _ _ _) (fun _ _ => ?_) | with_reducible refine D_c2 (d_add _ _ _ _) (fun _ _ => ?_) | with_reducible refine D_c2 (d_save _ _) (fun _ _ => ?_) | with_reducible refine D_c2 (d_back _ _ _) (fun _ _ => ?_) | with_reducible refine d_runsLine_132 _ _ _ | with_reducible refine d_runsLine_153 _ _ _ | with_reducible refine D_c2 (d_roll _ _ _) (fun _ _ => ?_) | with_reducible refine D_c2 (d_keep _ _ _) (fun _ _ => ?_) | with_reducible refine d_runsLine_229 _ _)
end
