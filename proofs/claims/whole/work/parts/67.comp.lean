/-! ===== a record done in its frame; a record 2, 3 undone ===== -/
section
variable {m : S11} {n : Nat → Int32} {pn : Int32} {F : Nat → Nat} {G : Nat → Int32} {b : Nat → Nat} {e f : Nat} {P : S3} {J : S2} {Sp : Nat → Prop}
theorem isM_lay (h : isM n b e f) (ds : List Nat) : isM (layL n e ds) b e f := by
  obtain ⟨a0, a1, a2, a3, a4, a5, a6, a7, a8⟩ := h
  refine ⟨by rw [layL_lt (by omega)]; exact a0, by rw [layL_lt (by omega)]; exact a1, a2, a3, a4, a5, fun i hi => ?_, a7, a8⟩
  unfold layL
  rw [if_neg (by omega)]; exact a6 i hi
/-- the byte of a, STAMP and REC of frame fr, when a record s has been done -/
def becF (F : Nat → Nat) (fr a v s : Nat) : Nat → Nat := fun k => if k = 564 + 20 * fr + a % 16 then v else if k = 561 + 20 * fr then s else if k = 562 + 20 * fr ∧ F k = 0 then s else F k
theorem x_becomes (h : isR n F G b e f) (hb : ∀ k, F k < 65536) {fr a v s : Nat} (hf : fr < 8) (ha : a < 256) {Q : S11 → Prop} (q : ∀ n2, isR n2 (becF F fr a v s) G b e f → Q (mS m n2 pn)) : wp_X11_becomes (mS m n pn) (nI (560 + 20 * fr)) (nI a) (nI v) (nI s) Q := by
  have e0 : nI (560 + 20 * fr) + 4 + (nI a - nI a / 16 * 16) = nI (564 + 20 * fr + a % 16) := by
    rw [show nI a - nI a / 16 * 16 = nI (a % 16) from pk_rem (d := 16) (by omega) (by decide) (by decide)]
    show _ + nI 4 + _ = _
    rw [nI_add, nI_add]; congr 1; omega
  have e1 : nI (560 + 20 * fr) + 1 = nI (561 + 20 * fr) := by rw [nI_1]; congr 1; omega
  have e2 : nI (560 + 20 * fr) + 2 = nI (562 + 20 * fr) := by show _ + nI 2 = _; rw [nI_add]; congr 1; omega
  unfold wp_X11_becomes
  rw [e0, e1, e2, nI_clamp (by omega), nI_clamp (by omega), nI_clamp (by omega)]
  have hb2 := hb (562 + 20 * fr)
  have r1 := isR_wr (k := 564 + 20 * fr + a % 16) (x := v) h (by unfold nk; omega)
  have r2 := isR_wr (k := 561 + 20 * fr) (x := s) r1 (by unfold nk; omega)
  refine ⟨ivp (by omega) (by omega), fun u1 h1 => ⟨ivp (by omega) (by omega), fun u2 h2 => ⟨ivp (by omega) (by omega), ?_⟩⟩⟩
  have eu : u2 = mS m (upd (upd n (564 + 20 * fr + a % 16) (nI v)) (561 + 20 * fr) (nI s)) pn := by rw [h2, h1]
  rw [eu, gmS, r2.2.1 _ (show nk (562 + 20 * fr) by unfold nk; omega), uNn (by omega), uNn (by omega)]
  refine pk_eq (F (562 + 20 * fr)) 0 (fun c => ⟨ivp (by omega) (by omega), fun u3 h3 => ?_⟩) (fun c => ?_)
  · rw [h3]
    refine q _ (isR_F (isR_wr (k := 562 + 20 * fr) (x := s) r2 (by unfold nk; omega)) fun k => ?_)
    unfold becF updN
    by_cases c0 : k = 562 + 20 * fr
    · subst c0
      rw [if_neg (by omega), if_neg (by omega), if_pos ⟨rfl, c⟩, if_pos rfl]
    · rw [if_neg c0]
      by_cases c1 : k = 561 + 20 * fr
      · rw [if_neg (by omega), if_pos c1, if_pos c1]
      · rw [if_neg c1, if_neg c1, if_neg (show ¬ (k = 562 + 20 * fr ∧ F k = 0) from fun z => c0 z.1)]
  · refine q _ (isR_F r2 fun k => ?_)
    unfold becF updN
    by_cases c1 : k = 561 + 20 * fr
    · rw [if_neg (by omega), if_pos c1, if_pos c1]
    · rw [if_neg c1, if_neg c1, if_neg (show ¬ (k = 562 + 20 * fr ∧ F k = 0) from fun z => c (z.1 ▸ z.2))]
theorem x_doneBy (h : isM (g11_now m) b e f) {s w : Nat} (hw : w < 256) (hk : b s = 2 ∨ b s = 3 ∨ b s = 4) (hs : s + 8 ≤ e) {Q : Int32 → Prop} (q : Q (nI (dnb b s w))) : wp_X11_doneBy m (nI s) (nI w) Q := by
  have h5 := h.2.2.2.2.2.2.2.1
  have he := h.2.2.2.2.1
  have b0 := h5 s
  have r : ∀ j, nI w + nI (b (s + j)) - (nI w + nI (b (s + j))) / 256 * 256 = nI ((w + b (s + j)) % 256) := fun j => by
    have := h5 (s + j)
    rw [nI_add, rem256 (by omega)]
  unfold dnb at q
  refine x_logByte h (by omega) (pk_eq (b s) 2 (fun c => ?_) (fun c => x_logByte h (by omega) (pk_eq (b s) 3 (fun c3 => ?_) (fun c3 => ?_))))
  · rw [if_pos c] at q
    exact x_logByte' h (nI_add s 7) (by omega) q
  · rw [if_neg c, if_pos c3] at q
    refine x_logByte' h (nI_add s 6) (by omega) ?_
    rw [r 6]; exact q
  · rw [if_neg c, if_neg c3, if_pos (by omega)] at q
    have b6 := h5 (s + 6)
    refine x_logByte' h (nI_add s 6) (by omega) (pk_eq (b (s + 6)) 0 (fun c0 => ?_) (fun c0 => ?_))
    · rw [if_pos c0] at q
      exact x_logByte' h (nI_add s 7) (by omega) q
    · rw [if_neg c0] at q
      refine x_logByte' h (nI_add s 7) (by omega) ?_
      rw [r 7]; exact q
theorem w_doIn (h : RP P F G) (hJ : isJ J b e f) {fr s : Nat} (hf : fr < 8) (hn : F (560 + 20 * fr) ≠ 0) (hs : s < 2 ^ 29) (hw : ∀ k, k < 16 → F (564 + 20 * fr + k) < 256) (hb : ∀ k, F k < 65536) {Q : S3 → Prop} (q : ∀ P2, RP P2 (becF F fr (b (s + 5)) (dnb b s (F (564 + 20 * fr + b (s + 5) % 16))) s) G → Q P2) : wp_X3_doIn P J (nI fr) (nI s) Q := by
  obtain ⟨a1, a2, a3, a4, a5, a6, a7, a8, a9, a10⟩ := h
  have h5 := hJ.2.2.2.2.1 (s + 5)
  have hb2 := hb (562 + 20 * fr)
  refine w_addressAt hJ (by omega) fun x ex => ?_
  have e0 : x = nI (16 * fr + b (s + 5) % 16) := by
    rw [ex, show nI (b (s + 5)) - nI (b (s + 5)) / 16 * 16 = nI (b (s + 5) % 16) from pk_rem (d := 16) (by omega) (by decide) (by decide)]
    show nI fr * nI 16 + _ = _
    rw [pk_mul, nI_add, Nat.mul_comm]
  rw [e0, nI_clamp (by omega)]
  refine ⟨ivp (by omega) (by omega), ?_⟩
  rw [(a10 fr hf hn).2.2 _ (by omega)]
  refine w_done hJ hs (hw _ (by omega)) ⟨ivp (by omega) (by omega), fun P1 h1 => ?_⟩
  rw [nI_clamp (by omega)]
  refine ⟨ivp hf (by omega), fun P2 h2 => ⟨ivp hf (by omega), ?_⟩⟩
  have e9 : g3_recs P2 fr = nI (F (562 + 20 * fr)) := by rw [h2, h1]; exact a9 fr hf
  rw [e9]
  have bo : ∀ k, k < 560 ∨ 720 ≤ k → becF F fr (b (s + 5)) (dnb b s (F (564 + 20 * fr + b (s + 5) % 16))) s k = F k := fun k hk => by
    unfold becF
    rw [if_neg (by omega), if_neg (by omega), if_neg (by omega)]
  have bf : ∀ g j, g < 8 → j < 20 → g ≠ fr → becF F fr (b (s + 5)) (dnb b s (F (564 + 20 * fr + b (s + 5) % 16))) s (560 + 20 * g + j) = F (560 + 20 * g + j) := fun g j hg hj hne => by
    unfold becF
    rw [if_neg (by omega), if_neg (by omega), if_neg (by omega)]
  have fin : ∀ P3 : S3, g3_disk P3 = g3_disk P → g3_diskStamps P3 = g3_diskStamps P → g3_archive P3 = g3_archive P → g3_archiveStamps P3 = g3_archiveStamps P → g3_lost P3 = g3_lost P → g3_frameCount P3 = g3_frameCount P → g3_clock P3 = g3_clock P → g3_held P3 = g3_held P → g3_uses P3 = g3_uses P → g3_stamps P3 = upd (g3_stamps P) fr (nI s) → g3_copies P3 = upd (g3_copies P) (16 * fr + b (s + 5) % 16) (nI (dnb b s (F (564 + 20 * fr + b (s + 5) % 16)))) → (∀ g, g < 8 → g3_recs P3 g = nI (if g = fr ∧ F (562 + 20 * fr) = 0 then s else F (562 + 20 * g))) → Q P3 := by
    intro P3 z1 z2 z3 z4 z5 z6 z7 z8 z9 z10 z11 z12
    refine q P3 ⟨fun a ha => ?_, fun a ha => ?_, fun a ha => ?_, fun a ha => ?_, by rw [z5]; exact a5, ?_, by rw [z7]; exact a7, fun g hg => ?_, fun g hg => ?_, fun g hg hne => ?_⟩
    · rw [z1, bo _ (by omega)]; exact a1 a ha
    · rw [z2, bo _ (by omega)]; exact a2 a ha
    · rw [z3, bo _ (by omega)]; exact a3 a ha
    · rw [z4, bo _ (by omega)]; exact a4 a ha
    · rw [z6, bo _ (by omega)]; exact a6
    · rw [z8, a8 g hg]
      unfold becF
      rw [if_neg (by omega), if_neg (by omega), if_neg (by omega)]
    · rw [z12 g hg]
      unfold becF
      rw [if_neg (show ¬ 562 + 20 * g = 564 + 20 * fr + b (s + 5) % 16 by omega), if_neg (show ¬ 562 + 20 * g = 561 + 20 * fr by omega)]
      by_cases c : g = fr
      · subst c
        simp
      · rw [if_neg (show ¬ (g = fr ∧ F (562 + 20 * fr) = 0) from fun z => c z.1), if_neg (show ¬ (562 + 20 * g = 562 + 20 * fr ∧ F (562 + 20 * g) = 0) from fun z => c (by omega))]
    · rw [z9, z10, z11]
      have hne2 : F (560 + 20 * g) ≠ 0 := by
        unfold becF at hne
        rwa [if_neg (by omega), if_neg (by omega), if_neg (by omega)] at hne
      obtain ⟨c1, c2, c3⟩ := a10 g hg hne2
      by_cases c : g = fr
      · subst c
        refine ⟨?_, c2, fun k hk => ?_⟩
        · rw [pk_us]
          unfold becF
          rw [if_neg (by omega), if_pos rfl]
        · unfold becF
          by_cases d : k = b (s + 5) % 16
          · subst d; rw [pk_us, if_pos rfl]
          · rw [pk_un (by omega), if_neg (by omega), if_neg (by omega), if_neg (by omega)]; exact c3 k hk
      · refine ⟨?_, c2, fun k hk => ?_⟩
        · rw [pk_un c, show 561 + 20 * g = 560 + 20 * g + 1 by omega, bf g 1 hg (by omega) c, show 560 + 20 * g + 1 = 561 + 20 * g by omega]; exact c1
        · rw [pk_un (by omega), show 564 + 20 * g + k = 560 + 20 * g + (4 + k) by omega, bf g (4 + k) hg (by omega) c, show 560 + 20 * g + (4 + k) = 564 + 20 * g + k by omega]; exact c3 k hk
  refine pk_eq (F (562 + 20 * fr)) 0 (fun c => ⟨ivp hf (by omega), fun P3 h3 => ?_⟩) (fun c => ?_)
  · rw [h3, h2, h1]
    refine fin _ rfl rfl rfl rfl rfl rfl rfl rfl rfl rfl rfl fun g hg => ?_
    show upd (g3_recs P) fr (nI s) g = _
    by_cases d : g = fr
    · subst d; rw [pk_us, if_pos ⟨rfl, c⟩]
    · rw [pk_un d, if_neg (fun z => d z.1)]; exact a9 g hg
  · rw [h2, h1]
    refine fin _ rfl rfl rfl rfl rfl rfl rfl rfl rfl rfl rfl fun g hg => ?_
    rw [if_neg (fun z => c z.2)]; exact a9 g hg
/-- a page fetched, a record written and done in it -/
abbrev AS : Type := (Nat → Nat) × (Nat → Int32) × (Nat → Nat) × Nat × Nat
def doA (A : AS) (t a : Nat) (ds : List Nat) : AS :=
  (becF (lastF (fetF A.1 A.2.1 (a / 16)) t A.2.2.2.1) (slot A.1 A.2.1 (a / 16)) a (dnb (appB A.2.2.1 A.2.2.2.1 (sealR ds)) A.2.2.2.1 (fetF A.1 A.2.1 (a / 16) (564 + 20 * slot A.1 A.2.1 (a / 16) + a % 16))) A.2.2.2.1,
    fetG A.1 A.2.1 (a / 16), appB A.2.2.1 A.2.2.2.1 (sealR ds), A.2.2.2.1 + ds.length + 1, fetf A.1 A.2.1 A.2.2.1 A.2.2.2.2 (a / 16))
def cmpL (F : Nat → Nat) (b : Nat → Nat) (t s : Nat) : List Nat := [4, 0, t, F (703 + 18 * t) / 256, F (703 + 18 * t) % 256, b (s + 5), if b s = 2 then 0 else 1, if b s = 2 then b (s + 6) else 256 - b (s + 6), pr2 b (s + 3) / 256, pr2 b (s + 3) % 256]
def cmpA (A : AS) (t s : Nat) : AS := doA A t (A.2.2.1 (s + 5)) (cmpL A.1 A.2.2.1 t s)
end
