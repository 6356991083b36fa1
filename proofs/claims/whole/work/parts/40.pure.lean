/-! ===== what is so, is so behind a NIGHT ===== -/
theorem mCure_lb {nb : Nat} {C : mC} {L : mL} {n : Nat} (hP : C.1 ≤ 6) (hn : n ≤ 6) (h : mLb nb C L) : mLb nb C (mCure C L n) := by
  induction n with
  | zero => exact h
  | succ n ih => exact mCur_lb (by omega) hP (ih (by omega))
theorem mCure_in {C : mC} {L : mL} {n c : Nat} (hn : n ≤ 6) (h : c < n) : (mCure C L n 48).testBit c = ((L 48).testBit c && !mDue C L c) ∧ (mCure C L n 49).testBit c = ((L 49).testBit c || mDue C L c) := by
  induction n with
  | zero => omega
  | succ n ih =>
    by_cases q : c = n
    · subst q
      obtain ⟨i1, i2⟩ := mCure_48 (C := C) (L := L) (Nat.le_refl c)
      have hb : (1 <<< c : Nat).testBit c = true := by rw [Nat.one_shiftLeft]; exact Nat.testBit_two_pow_self
      have hd := mDue_cure (C := C) (L := L) (c := c) (by omega)
      refine ⟨?_, ?_⟩
      · show (mCur C c (mCure C L c) 48).testBit c = _
        unfold mCur
        rw [hd]
        cases hD : mDue C L c
        · simp only [Bool.false_eq_true, if_false]; rw [i1]; simp
        · show (mCure C L c 48 ^^^ (mCure C L c 48 &&& 1 <<< c)).testBit c = _
          rw [Nat.testBit_xor, Nat.testBit_and, hb, Bool.and_true, Bool.xor_self]; simp
      · show (mCur C c (mCure C L c) 49).testBit c = _
        unfold mCur
        rw [hd]
        cases hD : mDue C L c
        · simp only [Bool.false_eq_true, if_false]; rw [i2]; simp
        · show (mCure C L c 49 ||| 1 <<< c).testBit c = _
          rw [Nat.testBit_or, hb, Bool.or_true, Bool.or_true]
    · obtain ⟨i1, i2⟩ := ih (by omega) (by omega)
      have hb : (1 <<< n : Nat).testBit c = false := by
        rw [Nat.one_shiftLeft, Nat.testBit_two_pow]
        exact decide_eq_false (by omega)
      refine ⟨?_, ?_⟩
      · show (mCur C n (mCure C L n) 48).testBit c = _
        unfold mCur
        split
        · show (mCure C L n 48 ^^^ (mCure C L n 48 &&& 1 <<< n)).testBit c = _
          rw [Nat.testBit_xor, Nat.testBit_and, hb, Bool.and_false, Bool.xor_false, i1]
        · exact i1
      · show (mCur C n (mCure C L n) 49).testBit c = _
        unfold mCur
        split
        · show (mCure C L n 49 ||| 1 <<< n).testBit c = _
          rw [Nat.testBit_or, hb, Bool.or_false, i2]
        · exact i2
theorem mTell_n {C : mC} {L : mL} {i : Nat} (h : i < 6 ∨ 42 ≤ i) : mTell C L i = L i := if_neg (by omega)
theorem mNight_n {C : mC} {lw : mLaw} {L : mL} {i : Nat} (h : i ≠ 52) (h2 : i ≠ 53) : mNight C lw L i = mTell C (mN2 C lw L) i := by
  unfold mNight
  rw [if_neg h, if_neg h2]
theorem mNight_lb {nb : Nat} {C : mC} {lw : mLaw} {L : mL} (hC : mWf C) (h : mLf nb C L) : mLb (nb + 1) C (mNight C lw L) := by
  have hP := hC.1
  have hS := hC.2.1
  have h1 : mLb nb C (mN1 C lw L) := mSmoke_lb hC h (Nat.le_refl _)
  have h2 : mLb nb C (mN2 C lw L) := mCure_lb hP hS h1
  have h3 : mLb nb C (mTell C (mN2 C lw L)) := by
    have := mTlS_lb (w := fun _ _ _ => true) hP h2
    rw [mTlS_all (fun _ _ _ _ _ _ _ => rfl)] at this
    exact this
  obtain ⟨z1, z2, z3, z4, z5, z6, z7, z8, z9⟩ := h3
  refine ⟨fun p hp => by rw [mNight_n (by omega) (by omega)]; exact z1 p hp, fun i q1 q2 => by rw [mNight_n (by omega) (by omega)]; exact z2 i q1 q2, fun c hc => by rw [mNight_n (by omega) (by omega)]; exact z3 c hc, by rw [mNight_n (by omega) (by omega)]; exact z4, by rw [mNight_n (by omega) (by omega)]; exact z5, by rw [mNight_n (by omega) (by omega)]; exact z6, by rw [mNight_n (by omega) (by omega)]; exact z7, ?_, ?_⟩
  · unfold mNight
    rw [if_pos rfl]
    omega
  · unfold mNight
    rw [if_neg (by omega), if_pos rfl]
    have := h.1.2.2.2.2.2.2.2.2
    omega
theorem mNight_lf {nb : Nat} {C : mC} {lw : mLaw} {L : mL} (hC : mWf C) (h : mLf nb C L) : mLf (nb + 1) C (mNight C lw L) := by
  have hS := hC.2.1
  have e48 : mNight C lw L 48 = mCure C (mN1 C lw L) C.2.1 48 := by rw [mNight_n (by omega) (by omega), mTell_n (by omega)]; rfl
  have e49 : mNight C lw L 49 = mCure C (mN1 C lw L) C.2.1 49 := by rw [mNight_n (by omega) (by omega), mTell_n (by omega)]; rfl
  have e42 : ∀ c, c < 6 → mNight C lw L (42 + c) = mN1 C lw L (42 + c) := fun c hc => by
    rw [mNight_n (by omega) (by omega), mTell_n (by omega)]
    exact mCure_n (by omega) (by omega)
  have n48 : mN1 C lw L 48 = L 48 := mSmoke_n hS (by omega)
  have n49 : mN1 C lw L 49 = L 49 := mSmoke_n hS (by omega)
  refine ⟨mNight_lb hC h, fun c hc hc2 => ?_, fun c hc => ?_⟩
  · obtain ⟨q1, q2, q3⟩ := h.2.1 c hc hc2
    obtain ⟨i1, i2⟩ := mCure_48 (C := C) (L := mN1 C lw L) hc2
    refine ⟨?_, ?_, ?_⟩
    · rw [e42 c hc]
      exact (mSmoke_n hS (by omega)).trans q1
    · rw [e48, i1, n48, q2]
    · rw [e49, i2, n49, q3]
  · obtain ⟨i1, i2⟩ := mCure_in (C := C) (L := mN1 C lw L) hS hc
    obtain ⟨q1, q2⟩ := h.2.2 c hc
    rw [e48, e49, e42 c (by omega), i1, i2, n48, n49]
    refine ⟨fun z => ?_, fun z => ?_⟩
    · cases hd : mDue C (mN1 C lw L) c
      · rw [hd, Bool.or_false] at z
        rw [q1 z]
        rfl
      · simp
    · have z1 : (L 49).testBit c = false := by
        cases hq : (L 49).testBit c
        · rfl
        · rw [hq] at z; cases z
      rw [z1, Bool.false_or] at z
      unfold mDue at z
      rw [n49, z1] at z
      have := of_decide_eq_false (show decide (mHvy C c ≤ mN1 C lw L (42 + c)) = false by simpa using z)
      omega
theorem mOrs_tb {f : Nat → Nat} {n i : Nat} : (mOrs f n).testBit i = true ↔ ∃ c, c < n ∧ (f c).testBit i = true := by
  induction n with
  | zero => simp [mOrs]
  | succ n ih =>
    unfold mOrs
    rw [Nat.testBit_or, Bool.or_eq_true, ih]
    refine ⟨fun h => ?_, fun h => ?_⟩
    · rcases h with ⟨c, h1, h2⟩ | h
      · exact ⟨c, by omega, h2⟩
      · exact ⟨n, by omega, h⟩
    · obtain ⟨c, h1, h2⟩ := h
      by_cases q : c = n
      · subst q; exact Or.inr h2
      · exact Or.inl ⟨c, by omega, h2⟩
/-- who KNOWS of one more, as the reference has it -/
def mWz (C : mC) (L L' : mL) : Nat := mBits (fun p => decide (mKb C L' p ^^^ (mKb C L' p &&& mKb C L p) ≠ 0)) C.1
theorem q_ne0 {x : Nat} : x ≠ 0 ↔ ∃ c, x.testBit c = true := by
  refine ⟨fun h => ?_, ?_⟩
  · exact Nat.exists_testBit_of_ne_zero h
  · rintro ⟨c, hc⟩ rfl
    rw [Nat.zero_testBit] at hc
    cases hc
theorem mWis_eq {C : mC} {L L' : mL} : mWis C L L' = mWz C L L' := by
  refine Nat.eq_of_testBit_eq fun p => ?_
  rw [Bool.eq_iff_iff]
  unfold mWis mWz
  rw [mOrs_tb, mBits_tb, Bool.and_eq_true, decide_eq_true_eq, decide_eq_true_eq, q_ne0]
  refine ⟨?_, ?_⟩
  · rintro ⟨c, hc, h⟩
    rw [Nat.testBit_xor, Nat.testBit_and, mKn_tb, mKn_tb] at h
    have hp : p < C.1 := by
      by_cases q : p < C.1
      · exact q
      · rw [decide_eq_false q] at h; cases h
    refine ⟨hp, c, ?_⟩
    rw [decide_eq_true hp] at h
    rw [Nat.testBit_xor, Nat.testBit_and, mKb_tb, mKb_tb, decide_eq_true hc]
    exact h
  · rintro ⟨hp, c, h⟩
    rw [Nat.testBit_xor, Nat.testBit_and, mKb_tb, mKb_tb] at h
    have hc : c < C.2.1 := by
      by_cases q : c < C.2.1
      · exact q
      · rw [decide_eq_false q] at h; cases h
    refine ⟨c, hc, ?_⟩
    rw [decide_eq_true hc] at h
    rw [Nat.testBit_xor, Nat.testBit_and, mKn_tb, mKn_tb, decide_eq_true hp]
    exact h
theorem mWz_lt {C : mC} {L L' : mL} (hC : mWf C) : mWz C L L' < 64 := Nat.lt_of_lt_of_le mBits_lt (Nat.pow_le_pow_right (by omega) hC.1 : 2 ^ C.1 ≤ 2 ^ 6)
