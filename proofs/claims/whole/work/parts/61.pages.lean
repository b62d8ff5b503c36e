/-! ===== the frame to take, the log flushed, a page written out ===== -/
section
variable {m : S11} {n : Nat → Int32} {pn : Int32} {F : Nat → Nat} {G : Nat → Int32} {b : Nat → Nat} {e f : Nat} {P : S3} {J : S2}
theorem gmS : g11_now (mS m n pn) = n := rfl
theorem held0 {u : Nat} (h : u < 65536) : nI u - 1 = -1 ↔ u = 0 := by
  refine ⟨fun z => ?_, fun z => by rw [z]; decide⟩
  have z2 : nI u = nI 0 := by rw [← Int32.sub_add_cancel (nI u) 1, z]; decide
  exact (nI_eq (by omega) (by omega)).mp z2
theorem heldp {u p : Nat} (h : u < 65536) (hp : p < 65536) : nI u - 1 = nI p ↔ u = p + 1 := by
  refine ⟨fun z => ?_, fun z => by rw [z]; exact nI_pred p⟩
  have z2 : nI u = nI (p + 1) := by rw [← Int32.sub_add_cancel (nI u) 1, z, nI_1]
  exact (nI_eq (by omega) (by omega)).mp z2
theorem x_byteNow (h : isR n F G b e f) (h5 : F 5 ≤ 8) (hb : ∀ k, F k < 65536) {a : Nat} (ha : a < 256) {Q : Int32 → Prop} (q : Q (nI (if fo F (a / 16) < F 5 then F (564 + 20 * fo F (a / 16) + a % 16) else F (16 + a)))) : wp_X11_byteNow (mS m n pn) (nI a) Q := by
  unfold wp_X11_byteNow
  rw [show nI a / 16 = nI (a / 16) from pk_div (d := 16) (by omega) (by decide) (by decide)]
  refine x_frameOf h h5 (by omega) hb ?_
  unfold foI
  by_cases c : fo F (a / 16) < F 5
  · rw [if_pos c] at q ⊢
    refine ⟨fun z => ?_, fun _ => ?_⟩
    · exact absurd (by rw [z]; decide) (nI_pos (n := fo F (a / 16)) (by omega))
    · have e1 : (560 : Int32) + 20 * nI (fo F (a / 16)) + 4 + (nI a - nI (a / 16) * 16) = nI (564 + 20 * fo F (a / 16) + a % 16) := by
        rw [frAt, ← show nI a / 16 = nI (a / 16) from pk_div (d := 16) (by omega) (by decide) (by decide), show nI a - nI a / 16 * 16 = nI (a % 16) from pk_rem (d := 16) (by omega) (by decide) (by decide)]
        show nI _ + nI 4 + _ = _
        rw [nI_add, nI_add]; congr 1; omega
      show vp_in (560 + 20 * nI (fo F (a / 16)) + 4 + (nI a - nI (a / 16) * 16)) 10700 ∧ _
      rw [e1]
      refine ⟨ivp (by omega) (by omega), ?_⟩
      rw [nI_clamp (by omega)]
      show Q (n _)
      rw [h.2.1 _ (by unfold nk; omega)]; exact q
  · rw [if_neg c] at q ⊢
    refine ⟨fun _ => ?_, fun z => absurd rfl z⟩
    have e1 : (16 : Int32) + nI a = nI (16 + a) := nI_add 16 a
    rw [e1]
    refine ⟨ivp (by omega) (by omega), ?_⟩
    rw [nI_clamp (by omega)]
    show Q (n _)
    rw [h.2.1 _ (by unfold nk; omega)]; exact q
theorem w_byteNow (h : RP P F G) (h5 : F 5 ≤ 8) (hb : ∀ k, F k < 65536) {a : Nat} (ha : a < 256) {Q : Int32 → Prop} (q : Q (nI (if fo F (a / 16) < F 5 then F (564 + 20 * fo F (a / 16) + a % 16) else F (16 + a)))) : wp_X3_byteNow P (nI a) Q := by
  unfold wp_X3_byteNow
  rw [show nI a / 16 = nI (a / 16) from pk_div (d := 16) (by omega) (by decide) (by decide)]
  refine w_frameOf h h5 (by omega) hb ?_
  obtain ⟨a1, a2, a3, a4, a5, a6, a7, a8, a9, a10⟩ := h
  unfold foI
  by_cases c : fo F (a / 16) < F 5
  · rw [if_pos c] at q ⊢
    refine ⟨fun _ => ?_, fun z => absurd (nI_pos' (by omega)) z⟩
    have e1 : nI (fo F (a / 16)) * 16 + (nI a - nI (a / 16) * 16) = nI (16 * fo F (a / 16) + a % 16) := by
      rw [← show nI a / 16 = nI (a / 16) from pk_div (d := 16) (by omega) (by decide) (by decide), show nI a - nI a / 16 * 16 = nI (a % 16) from pk_rem (d := 16) (by omega) (by decide) (by decide)]
      show nI _ * nI 16 + _ = _
      rw [pk_mul, nI_add, Nat.mul_comm]
    rw [e1]
    refine ⟨ivp (by omega) (by omega), ?_⟩
    rw [nI_clamp (by omega)]
    have := fnd_true (fun f => F (560 + 20 * f) == a / 16 + 1) (F 5) 0 (by rw [Nat.zero_add]; exact c)
    have hh : F (560 + 20 * fo F (a / 16)) = a / 16 + 1 := by unfold fo; simpa using this
    rw [(a10 (fo F (a / 16)) (by omega) (by omega)).2.2 _ (by omega)]
    exact q
  · rw [if_neg c] at q ⊢
    refine ⟨fun z => absurd z (by decide), fun _ => ⟨ivp (by omega) (by omega), ?_⟩⟩
    rw [nI_clamp (by omega), a1 a ha]; exact q
/-- the frame to take -/
def luL (F : Nat → Nat) (G : Nat → Int32) : Nat → Nat → Nat → Nat
  | 0, bst, _ => bst
  | n + 1, bst, i => if F (560 + 20 * i) = 0 then i else luL F G n (if G (563 + 20 * bst) ≤ G (563 + 20 * i) then bst else i) (i + 1)
def lu (F : Nat → Nat) (G : Nat → Int32) : Nat := luL F G (F 5) 0 0
theorem luL_lt (F : Nat → Nat) (G : Nat → Int32) (N : Nat) : ∀ k bst i, k + i ≤ N → bst < N → luL F G k bst i < N := by
  intro k
  induction k with
  | zero => intro bst i _ h; exact h
  | succ k ih =>
    intro bst i h1 h2
    unfold luL
    split
    · omega
    · refine ih _ _ (by omega) ?_
      split <;> omega
theorem lu_lt (F : Nat → Nat) (G : Nat → Int32) (h : 1 ≤ F 5) : lu F G < F 5 := luL_lt F G (F 5) (F 5) 0 0 (by omega) (by omega)
theorem x_lu_go (h : isR n F G b e f) (h5 : F 5 ≤ 8) (hb : ∀ k, F k < 65536) {Q : Int32 → Prop} : ∀ k bst i, k + i = F 5 → bst < 8 → Q (nI (luL F G k bst i)) → wp_X11_leastUsed_4 (mS m n pn) Q (k + 1) (nI bst) (nI i) := by
  intro k
  induction k with
  | zero =>
    intro bst i hi h8 q
    exact x_frameMany h (pk_le (F 5) i (fun _ => q) (fun c => by omega))
  | succ k ih =>
    intro bst i hi h8 q
    refine x_frameMany h (pk_le (F 5) i (fun _ => by omega) (fun _ => ?_))
    show vp_in (560 + 20 * nI i + 0) 10700 ∧ _
    rw [frAt0]
    refine ⟨ivp (by omega) (by omega), ?_⟩
    rw [nI_clamp (by omega)]
    have hbb := hb (560 + 20 * i)
    unfold luL at q
    refine pk_eq (F (560 + 20 * i)) 0 (fun c => ?_) (fun c => ?_) (h.2.1 _ (nk_fr (f := i) (j := 0) (by omega) (by omega) (by omega))) rfl
    · rwa [if_pos c] at q
    · rw [if_neg c] at q
      have ea : ∀ j : Nat, (560 : Int32) + 20 * nI j + 3 = nI (563 + 20 * j) := fun j => by
        rw [frAt]; show nI _ + nI 3 = _; rw [nI_add]; congr 1; omega
      show vp_in (560 + 20 * nI i + 3) 10700 ∧ vp_in (560 + 20 * nI bst + 3) 10700 ∧ _
      rw [ea, ea]
      refine ⟨ivp (by omega) (by omega), ivp (by omega) (by omega), ?_⟩
      rw [nI_clamp (by omega), nI_clamp (by omega)]
      rw [gmS, h.2.2.1 _ (gk_fr h8), h.2.2.1 _ (gk_fr (f := i) (by omega))]
      refine ⟨fun d => ?_, fun d => ?_⟩
      · rw [if_pos d] at q
        intro y hy
        rw [hy, nI_1]
        exact ih bst (i + 1) (by omega) h8 q
      · rw [if_neg d] at q
        intro y hy
        rw [hy, nI_1]
        exact ih i (i + 1) (by omega) (by omega) q
theorem x_leastUsed (h : isR n F G b e f) (h5 : F 5 ≤ 8) (hb : ∀ k, F k < 65536) {Q : Int32 → Prop} (q : Q (nI (lu F G))) : wp_X11_leastUsed (mS m n pn) Q := ⟨F 5 + 1, x_lu_go h h5 hb (F 5) 0 0 (by omega) (by omega) q⟩
theorem w_lu_go (h : RP P F G) (h5 : F 5 ≤ 8) (hb : ∀ k, F k < 65536) {Q : Int32 → Prop} : ∀ k bst i, k + i = F 5 → bst < 8 → bst = i ∨ F (560 + 20 * bst) ≠ 0 → Q (nI (luL F G k bst i)) → wp_X3_frameToTake_4 P Q (k + 1) (nI bst) (nI i) := by
  obtain ⟨a1, a2, a3, a4, a5, a6, a7, a8, a9, a10⟩ := h
  intro k
  induction k with
  | zero =>
    intro bst i hi h8 _ q
    exact pk_le (F 5) i (fun _ => q) (fun c => by omega) a6
  | succ k ih =>
    intro bst i hi h8 hd q
    refine pk_le (F 5) i (fun _ => by omega) (fun _ => pk_le 8 i (fun _ => by omega) fun _ => ?_) a6
    refine ⟨ivp (by omega) (by omega), ?_⟩
    rw [nI_clamp (by omega), a8 i (by omega)]
    have hbb := hb (560 + 20 * i)
    rw [held0 hbb]
    unfold luL at q
    refine ⟨fun c => ?_, fun c => ⟨ivp (by omega) (by omega), ivp (by omega) (by omega), ?_⟩⟩
    · rwa [if_pos c] at q
    · rw [if_neg c] at q
      have hbst : F (560 + 20 * bst) ≠ 0 := by
        rcases hd with z | hd
        · rw [z]; exact c
        · exact hd
      rw [nI_clamp (by omega), (a10 i (by omega) c).2.1, (a10 bst h8 hbst).2.1]
      refine ⟨fun d => ?_, fun d => ?_⟩
      · rw [if_pos d] at q
        intro y hy
        rw [hy, nI_1]
        exact ih bst (i + 1) (by omega) h8 (Or.inr hbst) q
      · rw [if_neg d] at q
        intro y hy
        rw [hy, nI_1]
        exact ih i (i + 1) (by omega) (by omega) (Or.inr c) q
theorem w_frameToTake (h : RP P F G) (h5 : F 5 ≤ 8) (hb : ∀ k, F k < 65536) {Q : Int32 → Prop} (q : Q (nI (lu F G))) : wp_X3_frameToTake P Q := ⟨F 5 + 1, w_lu_go h h5 hb (F 5) 0 0 (by omega) (by omega) (Or.inl rfl) q⟩
/-- FLUSHED behind the record at s at least -/
def flT (b : Nat → Nat) (f s : Nat) : Nat := max f (s + b (s + 1))
theorem isR_fl (h : isR n F G b e f) {v : Nat} (h8 : 8 ≤ v) (hv : v ≤ 8600) : isR (upd n 1 (nI (v - 8))) F G b e v := by
  obtain ⟨⟨a0, a1, a2, a3, a4, a5, a6, a7, a8⟩, h2, h3, h4, h5⟩ := h
  refine ⟨⟨?_, pk_us, a2, h8, a4, hv, fun i hi => ?_, a7, a8⟩, fun j hj => ?_, fun j hj => ?_, ?_, h5⟩
  · rw [pk_un (by omega)]; exact a0
  · rw [pk_un (by omega)]; exact a6 i hi
  · rw [pk_un (by unfold nk at hj; omega)]; exact h2 j hj
  · rw [pk_un (by unfold gk at hj; omega)]; exact h3 j hj
  · rw [pk_un (by omega)]; exact h4
theorem x_fl20 (h : isR n F G b e f) {v : Nat} (hv : v ≤ 8600) {Q : S11 → Prop} (q : ∀ n2, isR n2 F G b e (max f v) → Q (mS m n2 pn)) : wp_X11_flushesThrough_20 Q (nI v) (mS m n pn) := by
  have hf := h.1.2.2.2.2.2.1
  have hf8 := h.1.2.2.2.1
  refine x_flushed (m := mS m n pn) h.1 (pk_le v f (fun c => ?_) (fun c => ?_))
  · have := q n (by rw [Nat.max_eq_left c]; exact h)
    exact this
  · refine ⟨ivp (k := 1) (by omega) (by omega), fun u hu => ?_⟩
    rw [hu]
    have e1 : nI v - 8 = nI (v - 8) := pk_sub (b := 8) (by omega)
    rw [e1]
    exact q _ (by rw [Nat.max_eq_right (by omega)]; exact isR_fl h (by omega) hv)
theorem x_flushesThrough (h : isR n F G b e f) {s : Nat} (hs : s ≠ 0) (h1 : s + 1 < e) (h2 : s + b (s + 1) ≤ e) {Q : S11 → Prop} (q : ∀ n2, isR n2 F G b e (flT b f s) → Q (mS m n2 pn)) : wp_X11_flushesThrough (mS m n pn) (nI s) Q := by
  have he := h.1.2.2.2.2.1
  refine pk_eq s 0 (fun c => absurd c hs) (fun _ => ?_)
  rw [nI_1]
  refine x_logByte (m := mS m n pn) h.1 h1 ?_
  rw [nI_add]
  exact x_fl20 h (by omega) q
theorem x_flushesAll (h : isR n F G b e f) (hf : f ≤ e) {Q : S11 → Prop} (q : ∀ n2, isR n2 F G b e e → Q (mS m n2 pn)) : wp_X11_flushesThrough (mS m n pn) 0 Q := by
  have he := h.1.2.2.2.2.1
  refine pk_eq 0 0 (fun _ => ?_) (fun c => absurd rfl c)
  refine x_end1 (m := mS m n pn) h.1 ?_
  refine x_fl20 h (by omega) ?_
  rw [Nat.max_eq_right hf]; exact q
theorem w_flushThrough (h : isJ J b e f) {s : Nat} (hs : s < 65536) (hf : f ≤ 8600) {Q : S2 → Prop} (q : ∀ J2, isJ J2 b e (flT b f s) → Q J2) : wp_X2_flushThrough J (nI s) Q := by
  have hbs := h.2.2.2.2.1 (s + 1)
  refine w_byteAt' h (nI_1 s) (by omega) fun x ex => ?_
  rw [ex, nI_add]
  refine pk_le (s + b (s + 1)) f (fun c => ?_) (fun c => ?_) rfl h.2.1
  · refine q J ?_
    unfold flT
    rw [Nat.max_eq_left c]; exact h
  · intro J2 e2
    refine q J2 ?_
    unfold flT
    rw [Nat.max_eq_right (by omega), e2]
    exact ⟨h.1, rfl, h.2.2⟩
theorem w_flushAll (h : isJ J b e f) {Q : S2 → Prop} (q : ∀ J2, isJ J2 b e e → Q J2) : wp_X2_flushAll J Q := by
  intro J2 e2
  refine q J2 ?_
  rw [e2]
  exact ⟨h.1, h.1, h.2.2⟩
/-- the row with the page of frame fr written out -/
def wrF (F : Nat → Nat) (fr : Nat) : Nat → Nat := fun k => if k = 562 + 20 * fr then 0 else if k = 271 + F (560 + 20 * fr) then F (561 + 20 * fr) else if 16 * F (560 + 20 * fr) ≤ k ∧ k < 16 * F (560 + 20 * fr) + 16 then F (564 + 20 * fr + (k - 16 * F (560 + 20 * fr))) else F k
def wrI (F : Nat → Nat) (fr i : Nat) : Nat → Nat := fun k => if 16 * F (560 + 20 * fr) ≤ k ∧ k < 16 * F (560 + 20 * fr) + i then F (564 + 20 * fr + (k - 16 * F (560 + 20 * fr))) else F k
theorem wrI_S {fr i u : Nat} (hu : F (560 + 20 * fr) = u) (h : u ≤ 16) (hi : i < 16) : updN (wrI F fr i) (16 * u + i) (F (564 + 20 * fr + i)) = wrI F fr (i + 1) := by
  funext k
  unfold updN wrI
  rw [hu]
  by_cases c : k = 16 * u + i
  · subst c
    rw [if_pos rfl, if_pos (by omega), show 16 * u + i - 16 * u = i by omega]
  · rw [if_neg c]
    by_cases d : 16 * u ≤ k ∧ k < 16 * u + i
    · rw [if_pos d, if_pos (by omega)]
    · rw [if_neg d, if_neg (by omega)]
theorem wrI_E {fr u : Nat} (hu : F (560 + 20 * fr) = u) (h : u ≤ 16) (h1 : 1 ≤ u) (hf : fr < 8) : updN (updN (wrI F fr 16) (271 + u) (F (561 + 20 * fr))) (562 + 20 * fr) 0 = wrF F fr := by
  funext k
  unfold updN wrI wrF
  rw [hu]
theorem x_written_go {fr u : Nat} (hu : F (560 + 20 * fr) = u) (h : u ≤ 16) (h1 : 1 ≤ u) (hf : fr < 8) {Q : S11 → Prop} {f2 : Nat} (q : ∀ n2, isR n2 (wrF F fr) G b e f2 → Q (mS m n2 pn)) : ∀ k i n, k + i = 16 → isR n (wrI F fr i) G b e f2 → wp_X11_isWritten_43 Q (k + 1) (nI (560 + 20 * fr)) (nI (u - 1)) (nI i) (mS m n pn) := by
  have ea : ∀ j : Nat, nI (560 + 20 * fr) + nI j = nI (560 + 20 * fr + j) := fun j => nI_add _ _
  have wf : ∀ i j, j < 20 → i ≤ 16 → wrI F fr i (560 + 20 * fr + j) = F (560 + 20 * fr + j) := fun i j hj hi => by unfold wrI; rw [if_neg (by omega)]
  intro k
  induction k with
  | zero =>
    intro i n hi h
    obtain rfl : i = 16 := by omega
    refine pk_le 16 16 (fun _ => ?_) (fun c => by omega)
    have e1 : (272 : Int32) + nI (u - 1) = nI (271 + u) := by rw [show (272 : Int32) = nI 272 from rfl, nI_add]; congr 1; omega
    rw [e1, show nI (560 + 20 * fr) + 1 = nI (560 + 20 * fr + 1) from ea 1, show nI (560 + 20 * fr) + 2 = nI (560 + 20 * fr + 2) from ea 2, nI_clamp (by omega), nI_clamp (by omega), nI_clamp (by omega)]
    refine ⟨ivp (by omega) (by omega), ivp (by omega) (by omega), fun u1 h1 => ⟨ivp (by omega) (by omega), fun u2 h2 => ?_⟩⟩
    rw [h2, h1]
    refine q _ ?_
    have e3 := isR_wr (k := 271 + u) (x := F (561 + 20 * fr)) h (by unfold nk; omega)
    have e4 := isR_wr (k := 562 + 20 * fr) (x := 0) e3 (by unfold nk; omega)
    rw [wrI_E hu (by omega) (by omega) hf] at e4
    have e5 : n (560 + 20 * fr + 1) = nI (F (561 + 20 * fr)) := by
      rw [h.2.1 _ (nk_fr hf (by omega) (by omega)), wf 16 1 (by omega) (by omega)]; congr 2; omega
    have e6 : 562 + 20 * fr = 560 + 20 * fr + 2 := by omega
    rw [← e5, e6] at e4
    exact e4
  | succ k ih =>
    intro i n hi h
    refine pk_le 16 i (fun _ => by omega) (fun _ => ?_)
    have e1 : (16 : Int32) + 16 * nI (u - 1) + nI i = nI (16 * u + i) := by
      show nI 16 + nI 16 * nI (u - 1) + nI i = _
      rw [pk_mul, nI_add, nI_add]; congr 1; omega
    have e2 : nI (560 + 20 * fr) + 4 + nI i = nI (560 + 20 * fr + (4 + i)) := by
      rw [show nI (560 + 20 * fr) + 4 = nI (560 + 20 * fr + 4) from ea 4, nI_add]; congr 1; omega
    rw [e1, e2, nI_clamp (by omega), nI_clamp (by omega)]
    refine ⟨ivp (by omega) (by omega), ivp (by omega) (by omega), fun u1 h1 y hy => ?_⟩
    rw [hy, h1, nI_1]
    refine ih (i + 1) _ (by omega) ?_
    have e3 := isR_wr (k := 16 * u + i) (x := F (564 + 20 * fr + i)) h (by unfold nk; omega)
    rw [wrI_S hu (by omega) (by omega)] at e3
    have e5 : n (560 + 20 * fr + (4 + i)) = nI (F (564 + 20 * fr + i)) := by
      rw [h.2.1 _ (nk_fr hf (by omega) (by omega)), wf i (4 + i) (by omega) (by omega)]; congr 2; omega
    rw [← e5] at e3
    exact e3
theorem x_isWritten (h : isR n F G b e f) {fr u st : Nat} (hu : F (560 + 20 * fr) = u) (h16 : u ≤ 16) (h1 : 1 ≤ u) (hf : fr < 8) (hst : F (561 + 20 * fr) = st) (hs : st ≠ 0) (hs1 : st + 1 < e) (hs2 : st + b (st + 1) ≤ e) {Q : S11 → Prop} (q : ∀ n2, isR n2 (wrF F fr) G b e (flT b f st) → Q (mS m n2 pn)) : wp_X11_isWritten (mS m n pn) (nI fr) Q := by
  have he := h.1.2.2.2.2.1
  show vp_in (560 + 20 * nI fr + 0) 10700 ∧ _
  rw [frAt0]
  refine ⟨ivp (by omega) (by omega), fun x ex => ?_⟩
  rw [nI_clamp (by omega)] at ex
  have ex2 : x = nI (u - 1) := by
    rw [ex]
    show n (560 + 20 * fr) - 1 = _
    rw [h.2.1 _ (by unfold nk; omega), hu]
    exact pk_sub (b := 1) h1
  have e1 : (560 : Int32) + 20 * nI fr + 1 = nI (560 + 20 * fr + 1) := by rw [frAt]; exact nI_add _ 1
  rw [e1, nI_clamp (by omega), ex2, frAt]
  have e2 : n (560 + 20 * fr + 1) = nI st := by rw [h.2.1 _ (nk_fr hf (by omega) (by omega)), ← hst]; congr 2; omega
  have e3 : g11_now (mS m n pn) (560 + 20 * fr + 1) = nI st := e2
  rw [e3]
  refine ⟨ivp (by omega) (by omega), pk_le st 0 (fun c => by omega) (fun _ => ⟨ivp (by omega) (by omega), ?_⟩)⟩
  refine x_flushesThrough h hs hs1 hs2 fun n2 h2 => ⟨17, x_written_go hu h16 h1 hf q 16 0 n2 (by omega) ?_⟩
  refine isR_F h2 fun k => ?_
  unfold wrI
  rw [if_neg (by omega)]
theorem w_writeOut (h : RP P F G) (hJ : isJ J b e f) (hfl : f ≤ 8600) {fr u st : Nat} (hu : F (560 + 20 * fr) = u) (h16 : u ≤ 16) (h1 : 1 ≤ u) (hf : fr < 8) (hst : F (561 + 20 * fr) = st) (hs : st < 65536) {Q : S3 → S2 → Prop} (q : ∀ P2 J2, RP P2 (wrF F fr) G → isJ J2 b e (flT b f st) → Q P2 J2) : wp_X3_writeOut P J (nI fr) Q := by
  obtain ⟨a1, a2, a3, a4, a5, a6, a7, a8, a9, a10⟩ := h
  have hn : F (560 + 20 * fr) ≠ 0 := by omega
  unfold wp_X3_writeOut
  rw [nI_clamp (by omega)]
  refine ⟨ivp hf (by omega), fun x ex => ?_⟩
  have ex2 : x = nI (u - 1) := by rw [ex, a8 fr hf, hu]; exact pk_sub (b := 1) h1
  rw [ex2]
  refine pk_lt (u - 1) 0 (fun c => by omega) fun _ => pk_le 16 (u - 1) (fun c => by omega) fun _ => ⟨fun c => absurd c (by decide), fun _ => ⟨ivp hf (by omega), ?_⟩⟩
  rw [(a10 fr hf hn).1, hst]
  refine w_flushThrough hJ hs hfl fun J2 hJ2 => ?_
  have e1 : nI fr * 16 = nI (fr * 16) := pk_mul fr 16
  have e2 : nI (u - 1) * 16 = nI ((u - 1) * 16) := pk_mul (u - 1) 16
  have e16 : (16 : Int32).toNatClampNeg = 16 := by decide
  rw [e1, e2, nI_clamp (by omega), nI_clamp (by omega), nI_clamp (by omega), e16]
  refine ⟨⟨nI_pos (by omega), nI_pos (by omega), by decide, by omega, by omega⟩, fun P1 h1 => ⟨ivp hf (by omega), ivp (by omega) (by omega), fun P2 h2 => ⟨ivp hf (by omega), fun P3 h3 => q P3 J2 ?_ hJ2⟩⟩⟩
  rw [h3, h2, h1]
  refine ⟨fun a ha => ?_, fun p hp => ?_, fun a ha => ?_, fun a ha => ?_, a5, ?_, a7, fun g hg => ?_, fun g hg => ?_, fun g hg hn => ?_⟩
  · show va_cpy (g3_copies P) (g3_disk P) (fr * 16) ((u - 1) * 16) 16 a = _
    unfold wrF
    rw [hu, if_neg (by omega), if_neg (by omega)]
    by_cases c : 16 * u ≤ 16 + a ∧ 16 + a < 16 * u + 16
    · rw [if_pos c, pk_cpy_in (by omega) (by omega), show fr * 16 + (a - (u - 1) * 16) = 16 * fr + (a - (u - 1) * 16) by omega, (a10 fr hf hn).2.2 _ (by omega)]
      congr 2; omega
    · rw [if_neg c, pk_cpy_out (by omega)]; exact a1 a ha
  · show upd (g3_diskStamps P) (u - 1) (g3_stamps P fr) p = _
    unfold wrF
    rw [hu, if_neg (by omega)]
    by_cases c : p = u - 1
    · subst c
      rw [pk_us, if_pos (by omega)]; exact (a10 fr hf hn).1
    · rw [pk_un c, if_neg (by omega), if_neg (by omega)]; exact a2 p hp
  · unfold wrF
    rw [hu, if_neg (by omega), if_neg (by omega), if_neg (by omega)]; exact a3 a ha
  · unfold wrF
    rw [hu, if_neg (by omega), if_neg (by omega), if_neg (by omega)]; exact a4 a ha
  · unfold wrF
    rw [hu, if_neg (by omega), if_neg (by omega), if_neg (by omega)]; exact a6
  · unfold wrF
    rw [hu, if_neg (by omega), if_neg (by omega), if_neg (by omega)]; exact a8 g hg
  · show upd (g3_recs P) fr 0 g = _
    unfold wrF
    rw [hu]
    by_cases c : g = fr
    · subst c; rw [pk_us, if_pos rfl]; rfl
    · rw [pk_un c, if_neg (by omega), if_neg (by omega), if_neg (by omega)]; exact a9 g hg
  · have hw : ∀ j, j < 20 → j ≠ 2 → wrF F fr (560 + 20 * g + j) = F (560 + 20 * g + j) := fun j hj h2 => by
      unfold wrF
      rw [hu, if_neg (by omega), if_neg (by omega), if_neg (by omega)]
    have hn2 : F (560 + 20 * g) ≠ 0 := by have := hw 0 (by omega) (by omega); rw [Nat.add_zero] at this; rwa [this] at hn
    obtain ⟨c1, c2, c3⟩ := a10 g hg hn2
    refine ⟨?_, c2, fun k hk => ?_⟩
    · rw [show 561 + 20 * g = 560 + 20 * g + 1 by omega, hw 1 (by omega) (by omega), show 560 + 20 * g + 1 = 561 + 20 * g by omega]; exact c1
    · rw [show 564 + 20 * g + k = 560 + 20 * g + (4 + k) by omega, hw (4 + k) (by omega) (by omega), show 560 + 20 * g + (4 + k) = 564 + 20 * g + k by omega]; exact c3 k hk
end
