/-! ===== both sides: MOST and its like ===== -/
/-- a loop by a counter -/
theorem q_loop {β : Type} {F : Nat → Nat → zSg → Option (β × zSg)} {N : Nat} {Inv : Nat → zSg → Prop} {R : Option (β × zSg) → Prop} (hN : N < 1000000) (last : ∀ n g, Inv N g → R (F (n + 1) N g)) (step : ∀ n k g, k < N → Inv k g → (∀ g', Inv (k + 1) g' → R (F n (k + 1) g')) → R (F (n + 1) k g)) {s : Nat} (hs : s ≤ N) {g : zSg} (h : Inv s g) : R (F zFu s g) := by
  have key : ∀ r n k g, k + r = N → r < n → Inv k g → R (F n k g) := by
    intro r
    induction r with
    | zero =>
      intro n k g hk hn hi
      obtain ⟨m, rfl⟩ : ∃ m, n = m + 1 := ⟨n - 1, by omega⟩
      have : k = N := by omega
      subst this
      exact last m g hi
    | succ r ih =>
      intro n k g hk hn hi
      obtain ⟨m, rfl⟩ : ∃ m, n = m + 1 := ⟨n - 1, by omega⟩
      exact step m k g (by omega) hi (fun g' hi' => ih m (k + 1) g' (by omega) (by omega) hi')
  exact key (N - s) zFu s g (by omega) (by show _ < 1000000; omega) h
def mLack (C : mC) (L : mL) (c : Nat) : Nat := if (L 49).testBit c then 0 else mHvy C c - L (42 + c)
theorem mLack_le {C : mC} {L : mL} {c : Nat} (hC : mWf C) (hc : c < C.2.1) : mLack C L c ≤ 9 := by
  have := hC.hvy hc
  unfold mLack
  split <;> omega
def mSum (f : Nat → Nat) : Nat → Nat
  | 0 => 0
  | n + 1 => mSum f n + f n
theorem mSum_le {f : Nat → Nat} {n b : Nat} (h : ∀ i, i < n → f i ≤ b) : mSum f n ≤ b * n := by
  induction n with
  | zero => exact Nat.le_refl _
  | succ n ih =>
    have h1 := ih (fun i hi => h i (by omega))
    have h2 := h n (by omega)
    unfold mSum
    rw [Nat.mul_succ]
    omega
theorem mSum_0 {f : Nat → Nat} {m n : Nat} (hmn : m ≤ n) (h : ∀ i, m ≤ i → i < n → f i = 0) : mSum f n = mSum f m := by
  induction n with
  | zero => rw [show m = 0 by omega]
  | succ n ih =>
    by_cases q : m = n + 1
    · rw [q]
    · show mSum f n + f n = _
      rw [ih (by omega) (fun i h1 h2 => h i h1 (by omega)), h n (by omega) (by omega), Nat.add_zero]
section Q2
variable {C : mC} {L : mL} {lw : mLaw} {g : zSg}
theorem x_lacks {nb c a : Nat} (h : vXs nb C lw a L g) (hL : mLf nb C L) (hc : c < C.2.1) : f_X10_lacks a (Int32.ofNat c) g = some (Int32.ofNat (mLack C L c), g) := by
  have hS := h.1.2.1
  have h49 : L 49 < 64 := hL.1.2.2.2.2.1
  have hst := h.2.2.2.2.2.2.2
  have hv := h.1.hvy hc
  have hr := (hL.2.2 c hc).2
  unfold f_X10_lacks mLack
  simp (disch := omega) only [x_isCured hst.2.2.2.1, zB, qi_lit, mB_0]
  cases hb : (L 49).testBit c
  · rw [if_pos rfl]
    have := hr hb
    simp (disch := omega) only [x_heavy h.2.2.2.2.2.1, q_gS3 h.2.2.1, hst.2.1, qi_sub]
    rfl
  · rw [if_neg (by decide)]
    rfl
theorem m_lacks {nb c : Nat} (h : vMs nb C lw L g) (hL : mLf nb C L) (hc : c < C.2.1) : f_X12_lacksOf (Int32.ofNat c) g = some (Int32.ofNat (mLack C L c), g) := by
  have hS := h.1.2.1
  have h49 : L 49 < 64 := hL.1.2.2.2.2.1
  have hv := h.1.hvy hc
  have hr := (hL.2.2 c hc).2
  have hN := h.N
  have zh := m_hvy (g := g) h.2.2.2.2.1 hS hc
  rw [qi_lit] at zh
  unfold f_X12_lacksOf mLack
  simp (disch := omega) only [m_isRaw (hN 49 (by omega)), zB, qi_lit, mB_0]
  cases hb : (L 49).testBit c
  · rw [if_neg (by decide)]
    have := hr hb
    simp (disch := omega) only [zh, zB, qi_add, qi_zib, if_true, qi_ix, hN, qi_sub]
    rfl
  · rw [if_pos rfl]
    rfl
def mLks (C : mC) (L : mL) : Nat := mSum (fun c => mLack C L c) C.2.1
theorem x_lacksAll (hq : vQ C L) (h : vXs 999 C lw 39 L g) : qE sW g (f_X10_lackedByAll 39 g) (Int32.ofNat (mLks C L)) := by
  have hS := hq.1.2.1
  refine q_loop (F := fun n k g => f_X10_lackedByAll_4 39 n (Int32.ofNat (mSum (fun c => mLack C L c) k)) (Int32.ofNat k) g) (N := C.2.1) (Inv := fun _ g' => vXs 999 C lw 39 L g' ∧ qF sW g g') (R := fun o => qE sW g o (Int32.ofNat (mLks C L))) (by omega) ?_ ?_ (Nat.zero_le _) ⟨h, qF.rfl'⟩
  · intro n g' ⟨h', f⟩
    show qE sW g (fb_X10_lackedByAll_4 39 _ _ _ _) _
    unfold fb_X10_lackedByAll_4
    simp (disch := omega) only [x_secrets h'.2.2.2.2.2.1, zB, qi_le, if_pos (Nat.le_refl C.2.1)]
    exact ⟨g', rfl, f⟩
  · intro n k g' hk ⟨h', f⟩ ih
    show qE sW g (fb_X10_lackedByAll_4 39 _ _ _ _) _
    unfold fb_X10_lackedByAll_4
    simp (disch := omega) only [x_secrets h'.2.2.2.2.2.1, zB, qi_le, if_neg (show ¬ C.2.1 ≤ k by omega), x_lacks h' hq.2.1 hk, qi_lit, qi_add]
    exact ih g' ⟨h', f⟩
theorem m_lacksAll (hq : vQ C L) (h : vMs 999 C lw L g) : qE sV g (f_X12_lacksAll g) (Int32.ofNat (mLks C L)) := by
  have hS := hq.1.2.1
  refine q_loop (F := fun n k g => f_X12_lacksAll_4 n (Int32.ofNat (mSum (fun c => mLack C L c) k)) (Int32.ofNat k) g) (N := C.2.1) (Inv := fun _ g' => vMs 999 C lw L g' ∧ qF sV g g') (R := fun o => qE sV g o (Int32.ofNat (mLks C L))) (by omega) ?_ ?_ (Nat.zero_le _) ⟨h, qF.rfl'⟩
  · intro n g' ⟨h', f⟩
    show qE sV g (fb_X12_lacksAll_4 _ _ _ _) _
    unfold fb_X12_lacksAll_4
    simp (disch := omega) only [h'.2.2.2.2.1.2.2.2.2.1, qi_le, if_pos (Nat.le_refl C.2.1)]
    exact ⟨g', rfl, f⟩
  · intro n k g' hk ⟨h', f⟩ ih
    show qE sV g (fb_X12_lacksAll_4 _ _ _ _) _
    unfold fb_X12_lacksAll_4
    simp (disch := omega) only [h'.2.2.2.2.1.2.2.2.2.1, zB, qi_le, if_neg (show ¬ C.2.1 ≤ k by omega), m_lacks h' hq.2.1 hk, qi_lit, qi_add]
    exact ih g' ⟨h', f⟩
def mFoul (C : mC) (lw : mLaw) (L : mL) (n : Nat) : Nat := mCnt (fun l => decide (0 < mAir C lw L l C.2.1)) n
theorem x_foul (hq : vQ C L) (h : vXs 999 C lw 39 L g) : qE sW g (f_X10_foulCells 39 g) (Int32.ofNat (mFoul C lw L (mCells C))) := by
  have h30 := hq.1.cells
  have hS := hq.1.2.1
  refine q_loop (F := fun n k g => f_X10_foulCells_4 39 n (Int32.ofNat (mFoul C lw L k)) (Int32.ofNat k) g) (N := mCells C) (Inv := fun _ g' => vXs 999 C lw 39 L g' ∧ qF sW g g') (R := fun o => qE sW g o (Int32.ofNat (mFoul C lw L (mCells C)))) (by omega) ?_ ?_ (Nat.zero_le _) ⟨h, qF.rfl'⟩
  · intro n g' ⟨h', f⟩
    show qE sW g (fb_X10_foulCells_4 39 _ _ _ _) _
    unfold fb_X10_foulCells_4
    simp (disch := omega) only [x_cells h'.2.2.2.2.2.1, zB, qi_le, if_pos (Nat.le_refl (mCells C))]
    exact ⟨g', rfl, f⟩
  · intro n k g' hk ⟨h', f⟩ ih
    have ha := @mAir_le C lw L k C.2.1
    have hs : mFoul C lw L (k + 1) = mFoul C lw L k + (if decide (0 < mAir C lw L k C.2.1) then 1 else 0) := rfl
    show qE sW g (fb_X10_foulCells_4 39 _ _ _ _) _
    unfold fb_X10_foulCells_4 f_X10_foulCells_27
    obtain ⟨g2, ze, f2⟩ := x_airAt h' hk
    simp (disch := omega) only [x_cells h'.2.2.2.2.2.1, zB, qi_le, if_neg (show ¬ mCells C ≤ k by omega), ze, qi_lit, qi_add]
    have := ih g2 ⟨h'.fr f2, f.tr f2⟩
    by_cases q : mAir C lw L k C.2.1 ≤ 0
    · rw [if_pos q]
      rw [hs, decide_eq_false (by omega)] at this
      exact this
    · rw [if_neg q]
      rw [hs, decide_eq_true (by omega)] at this
      exact this
theorem m_foul (hq : vQ C L) (h : vMs 999 C lw L g) : qE sV g (f_X12_foul g) (Int32.ofNat (mFoul C lw L (mCells C))) := by
  have h30 := hq.1.cells
  have hS := hq.1.2.1
  refine q_loop (F := fun n k g => f_X12_foul_4 n (Int32.ofNat (mFoul C lw L k)) (Int32.ofNat k) g) (N := mCells C) (Inv := fun _ g' => vMs 999 C lw L g' ∧ qF sV g g') (R := fun o => qE sV g o (Int32.ofNat (mFoul C lw L (mCells C)))) (by omega) ?_ ?_ (Nat.zero_le _) ⟨h, qF.rfl'⟩
  · intro n g' ⟨h', f⟩
    show qE sV g (fb_X12_foul_4 _ _ _ _) _
    unfold fb_X12_foul_4
    simp (disch := omega) only [h'.2.2.2.2.1.2.2.2.2.2, qi_le, if_pos (Nat.le_refl (mCells C))]
    exact ⟨g', rfl, f⟩
  · intro n k g' hk ⟨h', f⟩ ih
    have ha := @mAir_le C lw L k C.2.1
    have hs : mFoul C lw L (k + 1) = mFoul C lw L k + (if decide (0 < mAir C lw L k C.2.1) then 1 else 0) := rfl
    show qE sV g (fb_X12_foul_4 _ _ _ _) _
    unfold fb_X12_foul_4 f_X12_foul_26
    obtain ⟨g2, ze, f2⟩ := m_airOf h' hk
    simp (disch := omega) only [h'.2.2.2.2.1.2.2.2.2.2, zB, qi_le, if_neg (show ¬ mCells C ≤ k by omega), ze, qi_lit, qi_add]
    have := ih g2 ⟨h'.fr f2, f.tr f2⟩
    by_cases q : mAir C lw L k C.2.1 ≤ 0
    · rw [if_pos q]
      rw [hs, decide_eq_false (by omega)] at this
      exact this
    · rw [if_neg q]
      rw [hs, decide_eq_true (by omega)] at this
      exact this
def mSafe (C : mC) (lw : mLaw) (L : mL) (n : Nat) : Nat := mBits (fun p => decide (mAir C lw L (L p) C.2.1 = 0)) n
theorem x_safe (hq : vQ C L) (h : vXs 999 C lw 39 L g) : qE sW g (f_X10_safePersons 39 g) (Int32.ofNat (mSafe C lw L C.1)) := by
  have hP := hq.1.1
  have hS := hq.1.2.1
  refine q_loop (F := fun n k g => f_X10_safePersons_4 39 n (Int32.ofNat (mSafe C lw L k)) (Int32.ofNat k) g) (N := C.1) (Inv := fun _ g' => vXs 999 C lw 39 L g' ∧ qF sW g g') (R := fun o => qE sW g o (Int32.ofNat (mSafe C lw L C.1))) (by omega) ?_ ?_ (Nat.zero_le _) ⟨h, qF.rfl'⟩
  · intro n g' ⟨h', f⟩
    show qE sW g (fb_X10_safePersons_4 39 _ _ _ _) _
    unfold fb_X10_safePersons_4
    simp (disch := omega) only [x_persons h'.2.2.2.2.2.1, zB, qi_le, if_pos (Nat.le_refl C.1)]
    exact ⟨g', rfl, f⟩
  · intro n k g' hk ⟨h', f⟩ ih
    have ha := @mAir_le C lw L (L k) C.2.1
    have hs : mSafe C lw L (k + 1) = mSafe C lw L k ||| (if decide (mAir C lw L (L k) C.2.1 = 0) then 1 <<< k else 0) := rfl
    show qE sW g (fb_X10_safePersons_4 39 _ _ _ _) _
    unfold fb_X10_safePersons_4 f_X10_safePersons_37
    obtain ⟨g2, ze, f2⟩ := x_airAt h' (hq.2.1.1.1 k hk)
    simp (disch := omega) only [x_persons h'.2.2.2.2.2.1, zB, qi_le, if_neg (show ¬ C.1 ≤ k by omega), q_gS1 (show (zK0 39).1 = 8 from rfl), h'.2.2.2.2.2.2.2.1, ze, qi_lit, qi_add, qi_inj, qi_shl, qi_or]
    have := ih g2 ⟨h'.fr f2, f.tr f2⟩
    by_cases q : mAir C lw L (L k) C.2.1 = 0
    · rw [if_neg (fun w => w q)]
      rw [hs, decide_eq_true q] at this
      exact this
    · rw [if_pos q]
      rw [hs, decide_eq_false q] at this
      simpa using this
theorem m_safe (hq : vQ C L) (h : vMs 999 C lw L g) : qE sV g (f_X12_safeOnes g) (Int32.ofNat (mSafe C lw L C.1)) := by
  have hP := hq.1.1
  have hS := hq.1.2.1
  refine q_loop (F := fun n k g => f_X12_safeOnes_4 n (Int32.ofNat (mSafe C lw L k)) (Int32.ofNat k) g) (N := C.1) (Inv := fun _ g' => vMs 999 C lw L g' ∧ qF sV g g') (R := fun o => qE sV g o (Int32.ofNat (mSafe C lw L C.1))) (by omega) ?_ ?_ (Nat.zero_le _) ⟨h, qF.rfl'⟩
  · intro n g' ⟨h', f⟩
    show qE sV g (fb_X12_safeOnes_4 _ _ _ _) _
    unfold fb_X12_safeOnes_4
    simp (disch := omega) only [h'.2.2.2.2.1.2.2.2.1, qi_le, if_pos (Nat.le_refl C.1)]
    exact ⟨g', rfl, f⟩
  · intro n k g' hk ⟨h', f⟩ ih
    have ha := @mAir_le C lw L (L k) C.2.1
    have hs : mSafe C lw L (k + 1) = mSafe C lw L k ||| (if decide (mAir C lw L (L k) C.2.1 = 0) then 1 <<< k else 0) := rfl
    show qE sV g (fb_X12_safeOnes_4 _ _ _ _) _
    unfold fb_X12_safeOnes_4 f_X12_safeOnes_35
    obtain ⟨g2, ze, f2⟩ := m_airOf h' (hq.2.1.1.1 k hk)
    simp (disch := omega) only [h'.2.2.2.2.1.2.2.2.1, zB, qi_le, if_neg (show ¬ C.1 ≤ k by omega), qi_lit, qi_add, Nat.zero_add, qi_zib, if_true, qi_ix, h'.N, ze, qi_inj, qi_shl, qi_or]
    have := ih g2 ⟨h'.fr f2, f.tr f2⟩
    by_cases q : mAir C lw L (L k) C.2.1 = 0
    · rw [if_neg (fun w => w q)]
      rw [hs, decide_eq_true q] at this
      exact this
    · rw [if_pos q]
      rw [hs, decide_eq_false q] at this
      simpa using this
end Q2
