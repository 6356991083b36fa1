/-! ===== the class: what is CURED, told, a NIGHT whole ===== -/
theorem mCur_n {C : mC} {c i : Nat} {L : mL} (h : i ≠ 48) (h2 : i ≠ 49) : mCur C c L i = L i := by
  unfold mCur
  split
  · simp only []
    rw [if_neg h2, if_neg h]
  · rfl
theorem mCure_n {C : mC} {n i : Nat} {L : mL} (h : i ≠ 48) (h2 : i ≠ 49) : mCure C L n i = L i := by
  induction n with
  | zero => rfl
  | succ n ih => show mCur C n (mCure C L n) i = _; rw [mCur_n h h2, ih]
theorem q_andn_lt {x y : Nat} (h : x < 64) : x ^^^ (x &&& y) < 64 := by
  refine Nat.xor_lt_two_pow (n := 6) h ?_
  exact Nat.lt_of_le_of_lt Nat.and_le_left h
theorem q_or1_lt {x c : Nat} (h : x < 64) (hc : c < 6) : x ||| 1 <<< c < 64 := by
  refine Nat.or_lt_two_pow (n := 6) h ?_
  rw [Nat.one_shiftLeft]
  exact Nat.pow_lt_pow_right (by omega) hc
theorem mCur_lb {nb : Nat} {C : mC} {c : Nat} {L : mL} (hc : c < 6) (hP : C.1 ≤ 6) (h : mLb nb C L) : mLb nb C (mCur C c L) := by
  obtain ⟨h1, h2, h3, h4, h5, h6⟩ := h
  refine ⟨fun p hp => by rw [mCur_n (by omega) (by omega)]; exact h1 p hp, fun i hi hi2 => by rw [mCur_n (by omega) (by omega)]; exact h2 i hi hi2, fun q hq => by rw [mCur_n (by omega) (by omega)]; exact h3 q hq, ?_, ?_, ?_⟩
  · unfold mCur
    split
    · simp only []
      rw [if_neg (by omega), if_pos trivial]
      exact q_andn_lt h4
    · exact h4
  · unfold mCur
    split
    · simp only []
      rw [if_pos trivial]
      exact q_or1_lt h5 hc
    · exact h5
  · rw [mCur_n (by omega) (by omega), mCur_n (by omega) (by omega), mCur_n (by omega) (by omega), mCur_n (by omega) (by omega)]
    exact h6
theorem mCured_le {C : mC} {L : mL} {n : Nat} : mCured C L n ≤ n := by
  induction n with
  | zero => exact Nat.le_refl _
  | succ n ih => unfold mCured; split <;> omega
theorem x_cure_l {nb mk : Nat} {C : mC} {lw : mLaw} {a : Nat} {L : mL} {g0 : zSg} :
    ∀ (r n c : Nat) (g : zSg), vXs nb C lw a (mCure C L c) g → vBr a mk C (mCure C L c) g → qF (sN a) g0 g → c + r = C.2.1 → r < n → ∃ g', f_X10_cure_4 a n (Int32.ofNat (mCured C L c)) (Int32.ofNat c) g = some (Int32.ofNat (mCured C L C.2.1), g') ∧ vXs nb C lw a (mCure C L C.2.1) g' ∧ vBr a mk C (mCure C L C.2.1) g' ∧ qF (sN a) g0 g' := by
  intro r
  induction r with
  | zero =>
    intro n c g h hbr hf hc hn
    obtain ⟨m, rfl⟩ : ∃ m, n = m + 1 := ⟨n - 1, by omega⟩
    have hS6 := h.1.2.1
    have : c = C.2.1 := by omega
    subst this
    refine ⟨g, ?_, h, hbr, hf⟩
    show fb_X10_cure_4 a _ _ _ _ = _
    unfold fb_X10_cure_4
    simp (disch := omega) only [x_secrets h.2.2.2.2.2.1, zB, qi_le, if_pos (Nat.le_refl C.2.1)]
  | succ r ih =>
    intro n c g h hbr hf hc hn
    obtain ⟨m, rfl⟩ : ∃ m, n = m + 1 := ⟨n - 1, by omega⟩
    have hC := h.1
    have hS6 := hC.2.1
    have hP6 := hC.1
    have hst := h.2.2.2.2.2.2.2
    have hlb := h.2.2.2.2.1
    have h49 : mCure C L c 49 < 64 := hlb.2.2.2.2.1
    have hsm : mCure C L c (42 + c) ≤ 9 := hlb.2.2.1 c (by omega)
    have hhv := hC.hvy (c := c) (by omega)
    have hcd := mCured_le (C := C) (L := L) (n := c)
    have hstep : mCure C L (c + 1) = mCur C c (mCure C L c) := rfl
    have hstep2 : mCured C L (c + 1) = mCured C L c + (if mDue C (mCure C L c) c then 1 else 0) := rfl
    have same : mDue C (mCure C L c) c = false → ∃ g', f_X10_cure_4 a m (Int32.ofNat (mCured C L c)) (Int32.ofNat c + Int32.ofNat 1) g = some (Int32.ofNat (mCured C L C.2.1), g') ∧ vXs nb C lw a (mCure C L C.2.1) g' ∧ vBr a mk C (mCure C L C.2.1) g' ∧ qF (sN a) g0 g' := fun q => by
      have e1 : mCure C L (c + 1) = mCure C L c := by rw [hstep]; unfold mCur; rw [q]; rfl
      have e2 : mCured C L (c + 1) = mCured C L c := by rw [hstep2, q]; rfl
      have := ih m (c + 1) g (by rw [e1]; exact h) (by rw [e1]; exact hbr) hf (by omega) (by omega)
      rw [e2] at this
      rw [qi_add]
      exact this
    show ∃ g', fb_X10_cure_4 a _ _ _ _ = _ ∧ _
    unfold fb_X10_cure_4 f_X10_cure_71
    simp (disch := omega) only [x_secrets h.2.2.2.2.2.1, zB, qi_le, if_neg (show ¬ C.2.1 ≤ c by omega), x_isCured hst.2.2.2.1, qi_lit, mB_0]
    by_cases hq : (mCure C L c 49).testBit c = false
    · rw [if_neg (fun w => w hq)]
      simp (disch := omega) only [q_gS3 h.2.2.1, zB, hst.2.1, x_heavy h.2.2.2.2.2.1, qi_lt]
      by_cases hs : mCure C L c (42 + c) < mHvy C c
      · rw [if_pos hs]
        exact same (by unfold mDue; rw [decide_eq_false (by omega)]; simp)
      · rw [if_neg hs]
        have hdue : mDue C (mCure C L c) c = true := by unfold mDue; rw [hq, decide_eq_true (show mHvy C c ≤ mCure C L c (42 + c) by omega)]; rfl
        simp (disch := omega) only [hst.2.2.2.1, hst.2.2.1, qs_In, qi_shl, qi_or, qi_andn, qi_add]
        have s1 := hst.fld (i := 1) (v := mCure C L c 49 ||| 1 <<< c) (by omega)
        have s2 := s1.fld (i := 0) (v := mCure C L c 48 ^^^ (mCure C L c 48 &&& 1 <<< c)) (by omega)
        have e1 : mCure C L (c + 1) = mUp (mUp (mCure C L c) (48 + 1) (mCure C L c 49 ||| 1 <<< c)) (48 + 0) (mCure C L c 48 ^^^ (mCure C L c 48 &&& 1 <<< c)) := by
          rw [hstep]
          unfold mCur
          rw [hdue]
          funext i
          simp only [if_true]
          unfold mUp
          (repeat' split) <;> first | rfl | (exfalso; omega)
        have e2 : mCured C L (c + 1) = mCured C L c + 1 := by rw [hstep2, hdue]; rfl
        rw [← e1] at s2
        have f1 : qF (sSt a) g (gsI (gsI g a 5 (Int32.ofNat (mCure C L c 49 ||| 1 <<< c))) a 4 (Int32.ofNat (mCure C L c 48 ^^^ (mCure C L c 48 &&& 1 <<< c)))) := (qF.rfl'.sI (Or.inl ⟨rfl, by omega, by omega⟩)).sI (Or.inl ⟨rfl, by omega, by omega⟩)
        rw [← e2]
        exact ih m (c + 1) _ (h.st f1 (by rw [hstep]; exact mCur_lb (by omega) hP6 hlb) s2) (hbr.st hC f1 (fun i hi hi2 => by rw [hstep, mCur_n (by omega) (by omega)])) (hf.tr (f1.mono fun b k q => sN_S q)) (by omega) (by omega)
    · rw [if_pos hq]
      exact same (by unfold mDue; rw [show (mCure C L c 49).testBit c = true by simpa using hq]; rfl)
/-- what is told, when those of w are through -/
def mTlS (C : mC) (L : mL) (w : Nat → Nat → Nat → Bool) : mL := fun i => if 6 ≤ i ∧ i < 42 ∧ (i - 6) % 6 < C.2.1 ∧ (i - 6) / 6 < C.1 then min 99 (L i + mCnt (fun o => mTells C L o ((i - 6) / 6) ((i - 6) % 6) && w o ((i - 6) / 6) ((i - 6) % 6)) C.1) else L i
theorem mTlS_n {C : mC} {L : mL} {w : Nat → Nat → Nat → Bool} {i : Nat} (h : i < 6 ∨ 42 ≤ i) : mTlS C L w i = L i := if_neg (by omega)
theorem mTlS_ext {C : mC} {L : mL} {w w' : Nat → Nat → Nat → Bool} (h : ∀ o p c, o < C.1 → p < C.1 → c < C.2.1 → mTells C L o p c = true → w o p c = w' o p c) : mTlS C L w = mTlS C L w' := by
  funext i
  unfold mTlS
  by_cases q : 6 ≤ i ∧ i < 42 ∧ (i - 6) % 6 < C.2.1 ∧ (i - 6) / 6 < C.1
  · rw [if_pos q, if_pos q]
    congr 2
    refine mCnt_ext fun o ho => ?_
    cases ht : mTells C L o ((i - 6) / 6) ((i - 6) % 6)
    · rfl
    · rw [h o _ _ ho q.2.2.2 q.2.2.1 ht]
  · rw [if_neg q, if_neg q]
theorem mTlS_0 {nb : Nat} {C : mC} {L : mL} {w : Nat → Nat → Nat → Bool} (hL : mLb nb C L) (h : ∀ o p c, o < C.1 → p < C.1 → c < C.2.1 → mTells C L o p c = true → w o p c = false) : mTlS C L w = L := by
  rw [mTlS_ext (w' := fun _ _ _ => false) h]
  funext i
  unfold mTlS
  by_cases q : 6 ≤ i ∧ i < 42 ∧ (i - 6) % 6 < C.2.1 ∧ (i - 6) / 6 < C.1
  · rw [if_pos q]
    have e : ∀ n, mCnt (fun o => mTells C L o ((i - 6) / 6) ((i - 6) % 6) && false) n = 0 := fun n => by
      induction n with
      | zero => rfl
      | succ n ih => unfold mCnt; rw [ih, Bool.and_false]; rfl
    rw [e, Nat.add_zero, Nat.min_eq_right (hL.2.1 i q.1 q.2.1)]
  · rw [if_neg q]
theorem mTlS_all {C : mC} {L : mL} {w : Nat → Nat → Nat → Bool} (h : ∀ o p c, o < C.1 → p < C.1 → c < C.2.1 → mTells C L o p c = true → w o p c = true) : mTlS C L w = mTell C L := by
  rw [mTlS_ext (w' := fun _ _ _ => true) h]
  funext i
  unfold mTlS mTell mHear
  simp only [Bool.and_true]
theorem mTlS_lb {nb : Nat} {C : mC} {L : mL} {w : Nat → Nat → Nat → Bool} (hP : C.1 ≤ 6) (hL : mLb nb C L) : mLb nb C (mTlS C L w) := by
  obtain ⟨h1, h2, h3, h4⟩ := hL
  refine ⟨fun p hp => by rw [mTlS_n (by omega)]; exact h1 p hp, fun i hi hi2 => ?_, fun q hq => by rw [mTlS_n (by omega)]; exact h3 q hq, ?_⟩
  · have := h2 i hi hi2
    unfold mTlS
    split <;> omega
  · rw [mTlS_n (by omega), mTlS_n (by omega), mTlS_n (by omega), mTlS_n (by omega), mTlS_n (by omega), mTlS_n (by omega)]
    exact h4
/-- one more hears it -/
theorem mTlS_s {C : mC} {L : mL} {w w' : Nat → Nat → Nat → Bool} {t q c : Nat} (ht : t < C.1) (hq : q < C.1) (hc : c < C.2.1) (hc6 : C.2.1 ≤ 6) (hP6 : C.1 ≤ 6) (hT : mTells C L t q c = true) (h0 : w t q c = false) (h1 : w' t q c = true)
    (he : ∀ o p c', o < C.1 → p < C.1 → c' < C.2.1 → mTells C L o p c' = true → ¬ (o = t ∧ p = q ∧ c' = c) → w o p c' = w' o p c') : mTlS C L w' = mUp (mTlS C L w) (6 + 6 * q + c) (min 99 (mTlS C L w (6 + 6 * q + c) + 1)) := by
  funext i
  by_cases hi : i = 6 + 6 * q + c
  · subst hi
    rw [mUp_e]
    unfold mTlS
    have e1 : (6 + 6 * q + c - 6) / 6 = q := by omega
    have e2 : (6 + 6 * q + c - 6) % 6 = c := by omega
    rw [if_pos (by omega), if_pos (by omega), e1, e2]
    have e : mCnt (fun o => mTells C L o q c && w' o q c) C.1 = mCnt (fun o => mTells C L o q c && w o q c) C.1 + 1 := by
      refine mCnt_add ht (fun o ho hot => ?_) ?_ ?_
      · cases hh : mTells C L o q c
        · rfl
        · rw [he o q c ho hq hc hh (fun z => hot z.1)]
      · rw [h0, Bool.and_false]
      · rw [h1, hT]; rfl
    rw [e]
    omega
  · rw [mUp_n hi]
    unfold mTlS
    by_cases z : 6 ≤ i ∧ i < 42 ∧ (i - 6) % 6 < C.2.1 ∧ (i - 6) / 6 < C.1
    · rw [if_pos z, if_pos z]
      congr 2
      refine mCnt_ext fun o ho => ?_
      cases hh : mTells C L o ((i - 6) / 6) ((i - 6) % 6)
      · rfl
      · rw [he o _ _ ho z.2.2.2 z.2.2.1 hh (fun z => by omega)]
    · rw [if_neg z, if_neg z]
/-- who KNEW, behind the CURING -/
def vK9 (mk : Nat) (C : mC) (L : mL) (g : zSg) : Prop := ∀ c, c < 6 → mk.testBit c = true → g.2.1 429 c = Int32.ofNat (mKn C L c)
def mPr (x y o p : Nat) : Bool := decide ((o = x ∧ p = y) ∨ (o = y ∧ p = x))
theorem mTells_k {C : mC} {L : mL} {o p c : Nat} (h : mTells C L o p c = true) : o ≠ p ∧ L o = L p ∧ mKnows C L o c = true ∧ mKnows C L p c = false ∧ (L 49).testBit c = false := by
  unfold mTells at h
  simp only [Bool.and_eq_true, decide_eq_true_eq, Bool.not_eq_true'] at h
  exact ⟨h.1.1.1.1, h.1.1.1.2, h.1.1.2, h.1.2, h.2⟩
theorem mTells_i {C : mC} {L : mL} {o p c : Nat} (h1 : o ≠ p) (h2 : L o = L p) (h3 : mKnows C L o c = true) (h4 : mKnows C L p c = false) (h5 : (L 49).testBit c = false) : mTells C L o p c = true := by
  unfold mTells
  rw [decide_eq_true h1, decide_eq_true h2, h3, h4, h5]
  rfl
theorem q_kbit {C : mC} {L : mL} {c x : Nat} (hC : mWf C) (hx : x < C.1) : ((Int32.ofNat (mKn C L c) >>> (Int32.ofNat x &&& Int32.ofNat 31)) &&& Int32.ofNat 1 = Int32.ofNat 0) = (mKnows C L x c = false) := by
  have := hC.1
  rw [qi_bit0 (Nat.lt_trans (mKn_lt hC) (by omega)) (by omega), mKn_tb, decide_eq_true hx, Bool.true_and]
theorem x_table_l {nb mk : Nat} {C : mC} {lw : mLaw} {a : Nat} {L : mL} {g0 : zSg} {x y : Nat} {w0 : Nat → Nat → Bool} (hxy : x < y) (hy : y < C.1) (hL : mLb nb C L) (hmk : mk < 64) (hw : L x = L y) (hw1 : w0 x y = false) (hw2 : w0 y x = false) :
    ∀ (r n c : Nat) (g : zSg), vXs nb C lw a (mTlS C L (fun o p c' => w0 o p || (mPr x y o p && decide (c' < c)))) g → vBr a mk C (mTlS C L (fun o p c' => w0 o p || (mPr x y o p && decide (c' < c)))) g → vK9 mk C L g → qF (sN a) g0 g → c + r = C.2.1 → r < n →
      ∃ g', f_X10_tellAtTable_3 a n (Int32.ofNat x) (Int32.ofNat y) (Int32.ofNat (mk ^^^ (mk &&& L 49))) (Int32.ofNat c) g = some ((), g') ∧ vXs nb C lw a (mTlS C L (fun o p c' => w0 o p || (mPr x y o p && decide (c' < C.2.1)))) g' ∧ vBr a mk C (mTlS C L (fun o p c' => w0 o p || (mPr x y o p && decide (c' < C.2.1)))) g' ∧ vK9 mk C L g' ∧ qF (sN a) g0 g' := by
  intro r
  induction r with
  | zero =>
    intro n c g h hbr h9 hf hc hn
    obtain ⟨m, rfl⟩ : ∃ m, n = m + 1 := ⟨n - 1, by omega⟩
    have hS6 := h.1.2.1
    have : c = C.2.1 := by omega
    subst this
    refine ⟨g, ?_, h, hbr, h9, hf⟩
    show fb_X10_tellAtTable_3 a _ _ _ _ _ _ = _
    unfold fb_X10_tellAtTable_3
    simp (disch := omega) only [x_secrets h.2.2.2.2.2.1, zB, qi_le, if_pos (Nat.le_refl C.2.1)]
  | succ r ih =>
    intro n c g h hbr h9 hf hc hn
    obtain ⟨m, rfl⟩ : ∃ m, n = m + 1 := ⟨n - 1, by omega⟩
    have hC := h.1
    have hS6 := hC.2.1
    have hP6 := hC.1
    have hco := h.2.2.2.2.2.1
    have hcS : c < C.2.1 := by omega
    have h49 : L 49 < 64 := hL.2.2.2.2.1
    have hms : mk ^^^ (mk &&& L 49) < 64 := q_andn_lt hmk
    have hmb : (mk ^^^ (mk &&& L 49)).testBit c = (mk.testBit c && !(L 49).testBit c) := by
      rw [Nat.testBit_xor, Nat.testBit_and]
      cases mk.testBit c <;> cases (L 49).testBit c <;> rfl
    -- nobody tells anybody, or the class keeps nothing of it
    have skip : (mk.testBit c = true → mTells C L x y c = false ∧ mTells C L y x c = false) → ∃ g', f_X10_tellAtTable_3 a m (Int32.ofNat x) (Int32.ofNat y) (Int32.ofNat (mk ^^^ (mk &&& L 49))) (Int32.ofNat c + Int32.ofNat 1) g = some ((), g') ∧ vXs nb C lw a (mTlS C L (fun o p c' => w0 o p || (mPr x y o p && decide (c' < C.2.1)))) g' ∧ vBr a mk C (mTlS C L (fun o p c' => w0 o p || (mPr x y o p && decide (c' < C.2.1)))) g' ∧ vK9 mk C L g' ∧ qF (sN a) g0 g' := fun q => by
      rw [qi_add]
      refine ih m (c + 1) g (h.same (mTlS_lb hP6 hL) (fun i hi => by rw [mTlS_n hi, mTlS_n hi])) (hbr.other hC (fun c' hc' hm' p hp => ?_)) h9 hf (by omega) (by omega)
      by_cases hcc : c' < C.2.1 ∧ p < C.1
      · unfold mTlS
        have e1 : (6 + 6 * p + c' - 6) / 6 = p := by omega
        have e2 : (6 + 6 * p + c' - 6) % 6 = c' := by omega
        rw [if_pos (by omega), if_pos (by omega), e1, e2]
        congr 2
        refine mCnt_ext fun o ho => ?_
        by_cases hcc' : c' = c
        · subst hcc'
          obtain ⟨t1, t2⟩ := q hm'
          by_cases hpr : (o = x ∧ p = y) ∨ (o = y ∧ p = x)
          · rcases hpr with ⟨rfl, rfl⟩ | ⟨rfl, rfl⟩
            · rw [t1]; rfl
            · rw [t2]; rfl
          · have hpr' : mPr x y o p = false := decide_eq_false hpr
            show (mTells C L o p c' && (w0 o p || (mPr x y o p && _))) = (mTells C L o p c' && (w0 o p || (mPr x y o p && _)))
            rw [hpr']
            rfl
        · show (_ && (w0 o p || (mPr x y o p && decide (c' < c + 1)))) = (_ && (w0 o p || (mPr x y o p && decide (c' < c))))
          rw [show decide (c' < c + 1) = decide (c' < c) from decide_eq_decide.mpr ⟨fun z => by omega, fun z => by omega⟩]
      · unfold mTlS
        rw [if_neg (by omega), if_neg (by omega)]
    show ∃ g', fb_X10_tellAtTable_3 a _ _ _ _ _ _ = _ ∧ _
    unfold fb_X10_tellAtTable_3 f_X10_tellAtTable_36 f_X10_tellAtTable_59 f_X10_tellAtTable_108
    simp (disch := omega) only [x_secrets hco, zB, qi_le, if_neg (show ¬ C.2.1 ≤ c by omega), qi_lit, q_get428, Nat.reduceAdd, Nat.reduceMul, Nat.reduceSub, Nat.reduceLT, Nat.reduceEqDiff, qi_bit0, hmb]
    by_cases hm : mk.testBit c = false
    · simp only [hm, Bool.false_and, if_true, ite_self]
      exact skip (fun z => by rw [hm] at z; cases z)
    · have hm' : mk.testBit c = true := by simpa using hm
      by_cases hcu : (L 49).testBit c = true
      · simp only [hcu, Bool.not_true, Bool.and_false, if_true, ite_self]
        refine skip (fun _ => ⟨?_, ?_⟩)
        · unfold mTells; rw [hcu]; simp
        · unfold mTells; rw [hcu]; simp
      · have hcu' : (L 49).testBit c = false := by simpa using hcu
        have hv := h9 c (by omega) hm'
        simp only [hv, q_kbit hC (show x < C.1 by omega), q_kbit hC hy, hm', hcu', Bool.not_false, Bool.and_true, Bool.true_eq_false, if_false]
        cases hkx : mKnows C L x c <;> cases hky : mKnows C L y c
        · simp only [if_true]
          exact skip (fun _ => ⟨by unfold mTells; rw [hkx]; simp, by unfold mTells; rw [hky]; simp⟩)
        · -- y tells x
          have hT := mTells_i (C := C) (L := L) (o := y) (p := x) (c := c) (by omega) hw.symm hky hkx hcu'
          simp (disch := omega) only [if_true, Bool.true_eq_false, if_false, qi_inj, Nat.reduceAdd, Nat.reduceMul, Nat.reduceSub, Nat.reduceLT, Nat.reduceEqDiff]
          unfold f_X10_tellAtTable_88 f_X10_tellAtTable_108
          simp (disch := omega) only [x_nose hco, zB, qi_lit, qi_add]
          obtain ⟨g2, e2, hbr2, f2⟩ := x_breathe h.2.2.1 hC hbr (p := x) (c := c) (m := 1) (by omega) hcS hm' ((mTlS_lb hP6 hL : mLb nb C _).2.1 _ (by omega) (by omega)) (by omega)
          rw [e2]
          simp only [zB]
          have hs := mTlS_s (C := C) (L := L) (w := fun o p c' => w0 o p || (mPr x y o p && decide (c' < c))) (w' := fun o p c' => w0 o p || (mPr x y o p && decide (c' < c + 1))) (t := y) (q := x) (c := c) hy (by omega) hcS hS6 hP6 hT (by simp [hw2]) (by simp [mPr]) (fun o p c' ho hp hc' hT' hne => by
            by_cases hcc : c' = c
            · subst hcc
              have hpr : mPr x y o p = false := by
                unfold mPr
                refine decide_eq_false ?_
                rintro (⟨rfl, rfl⟩ | ⟨rfl, rfl⟩)
                · have := (mTells_k hT').2.2.1; rw [hkx] at this; cases this
                · exact hne ⟨rfl, rfl, rfl⟩
              simp [hpr]
            · congr 2
              exact decide_eq_decide.mpr ⟨fun z => by omega, fun z => by omega⟩)
          rw [← hs] at hbr2
          exact ih m (c + 1) g2 (h.br f2 (mTlS_lb hP6 hL) (fun i hi => by rw [mTlS_n hi, mTlS_n hi])) hbr2 (fun c' hc' hm'' => by rw [f2.2.1 _ _ (by have := zK0_A h.2.2.1; unfold sBr; omega)]; exact h9 c' hc' hm'') (hf.tr (f2.mono fun b k q => sN_B q)) (by omega) (by omega)
        · -- x tells y
          have hT := mTells_i (C := C) (L := L) (o := x) (p := y) (c := c) (by omega) hw hkx hky hcu'
          simp (disch := omega) only [if_true, Bool.true_eq_false, if_false, qi_inj, Nat.reduceAdd, Nat.reduceMul, Nat.reduceSub, Nat.reduceLT, Nat.reduceEqDiff]
          unfold f_X10_tellAtTable_88 f_X10_tellAtTable_108
          simp (disch := omega) only [x_nose hco, zB, qi_lit, qi_add]
          obtain ⟨g2, e2, hbr2, f2⟩ := x_breathe h.2.2.1 hC hbr (p := y) (c := c) (m := 1) (by omega) hcS hm' ((mTlS_lb hP6 hL : mLb nb C _).2.1 _ (by omega) (by omega)) (by omega)
          rw [e2]
          simp only [zB]
          have hs := mTlS_s (C := C) (L := L) (w := fun o p c' => w0 o p || (mPr x y o p && decide (c' < c))) (w' := fun o p c' => w0 o p || (mPr x y o p && decide (c' < c + 1))) (t := x) (q := y) (c := c) (by omega) hy hcS hS6 hP6 hT (by simp [hw1]) (by simp [mPr]) (fun o p c' ho hp hc' hT' hne => by
            by_cases hcc : c' = c
            · subst hcc
              have hpr : mPr x y o p = false := by
                unfold mPr
                refine decide_eq_false ?_
                rintro (⟨rfl, rfl⟩ | ⟨rfl, rfl⟩)
                · exact hne ⟨rfl, rfl, rfl⟩
                · have := (mTells_k hT').2.2.1; rw [hky] at this; cases this
              simp [hpr]
            · congr 2
              exact decide_eq_decide.mpr ⟨fun z => by omega, fun z => by omega⟩)
          rw [← hs] at hbr2
          exact ih m (c + 1) g2 (h.br f2 (mTlS_lb hP6 hL) (fun i hi => by rw [mTlS_n hi, mTlS_n hi])) hbr2 (fun c' hc' hm'' => by rw [f2.2.1 _ _ (by have := zK0_A h.2.2.1; unfold sBr; omega)]; exact h9 c' hc' hm'') (hf.tr (f2.mono fun b k q => sN_B q)) (by omega) (by omega)
        · simp only [Bool.true_eq_false, if_false, if_true]
          exact skip (fun _ => ⟨by unfold mTells; rw [hky]; simp, by unfold mTells; rw [hkx]; simp⟩)
theorem x_table {nb mk : Nat} {C : mC} {lw : mLaw} {a : Nat} {L : mL} {g0 g : zSg} {x y : Nat} {w0 : Nat → Nat → Bool} (hxy : x < y) (hy : y < C.1) (hL : mLb nb C L) (hmk : mk < 64) (hw : L x = L y) (hw1 : w0 x y = false) (hw2 : w0 y x = false)
    (h : vXs nb C lw a (mTlS C L (fun o p _ => w0 o p)) g) (hbr : vBr a mk C (mTlS C L (fun o p _ => w0 o p)) g) (h9 : vK9 mk C L g) (hf : qF (sN a) g0 g) :
    ∃ g', f_X10_tellAtTable a (Int32.ofNat x) (Int32.ofNat y) (Int32.ofNat (mk ^^^ (mk &&& L 49))) g = some ((), g') ∧ vXs nb C lw a (mTlS C L (fun o p _ => w0 o p || mPr x y o p)) g' ∧ vBr a mk C (mTlS C L (fun o p _ => w0 o p || mPr x y o p)) g' ∧ vK9 mk C L g' ∧ qF (sN a) g0 g' := by
  have e0 : mTlS C L (fun o p _ => w0 o p) = mTlS C L (fun o p c' => w0 o p || (mPr x y o p && decide (c' < 0))) := mTlS_ext fun o p c _ _ _ _ => by simp
  have e1 : mTlS C L (fun o p _ => w0 o p || mPr x y o p) = mTlS C L (fun o p c' => w0 o p || (mPr x y o p && decide (c' < C.2.1))) := mTlS_ext fun o p c _ _ hc _ => by simp [hc]
  rw [e0] at h hbr
  rw [e1]
  exact x_table_l hxy hy hL hmk hw hw1 hw2 C.2.1 zFu 0 g h hbr h9 hf (by omega) (by have := h.1.2.1; show _ < 1000000; omega)
/-- the pairs that are through: those whose first is below x, and those of x with others below y -/
def mTh (x y o p : Nat) : Bool := decide ((o < p ∧ (o < x ∨ (o = x ∧ p < y))) ∨ (p < o ∧ (p < x ∨ (p = x ∧ o < y))))
theorem x_tell29 {nb mk : Nat} {C : mC} {lw : mLaw} {a : Nat} {L : mL} {g0 : zSg} {k13 : Int32 → Int32 → zSg → Option (Unit × zSg)} {x : Nat} {Q : Unit → zSg → Prop} (hL : mLb nb C L) (hmk : mk < 64) (hx : x < C.1)
    (hk : ∀ g', vXs nb C lw a (mTlS C L (fun o p _ => mTh x C.1 o p)) g' → vBr a mk C (mTlS C L (fun o p _ => mTh x C.1 o p)) g' → vK9 mk C L g' → qF (sN a) g0 g' → qT (k13 (Int32.ofNat mk) (Int32.ofNat (x + 1)) g') Q) :
    ∀ (r n y : Nat) (g : zSg), x < y → vXs nb C lw a (mTlS C L (fun o p _ => mTh x y o p)) g → vBr a mk C (mTlS C L (fun o p _ => mTh x y o p)) g → vK9 mk C L g → qF (sN a) g0 g → y + r = C.1 → r < n → qT (f_X10_tell_29 a k13 n (Int32.ofNat mk) (Int32.ofNat x) (Int32.ofNat y) g) Q := by
  intro r
  induction r with
  | zero =>
    intro n y g hxy h hbr h9 hf hy hn
    obtain ⟨m, rfl⟩ : ∃ m, n = m + 1 := ⟨n - 1, by omega⟩
    have hP6 := h.1.1
    have : y = C.1 := by omega
    subst this
    show qT (fb_X10_tell_29 a _ _ _ _ _ _) _
    unfold fb_X10_tell_29 f_X10_tell_83
    simp (disch := omega) only [x_persons h.2.2.2.2.2.1, zB, qi_le, if_pos (Nat.le_refl C.1), qi_lit, qi_add]
    exact hk g h hbr h9 hf
  | succ r ih =>
    intro n y g hxy h hbr h9 hf hy hn
    obtain ⟨m, rfl⟩ : ∃ m, n = m + 1 := ⟨n - 1, by omega⟩
    have hC := h.1
    have hP6 := hC.1
    have hst := h.2.2.2.2.2.2.2
    have c1 : L x < 30 ∧ L y < 30 := by
      have := hL.1 x (by omega); have := hL.1 y (by omega); have := hC.cells; omega
    have e49 : g.2.1 a 5 = Int32.ofNat (L 49) := by rw [hst.2.2.2.1, mTlS_n (by omega)]
    show qT (fb_X10_tell_29 a _ _ _ _ _ _) _
    unfold fb_X10_tell_29 f_X10_tell_77
    have w1 : ∀ p, p < 6 → mTlS C L (fun o p _ => mTh x y o p) p = L p := fun p hp => mTlS_n (by omega)
    simp (disch := omega) only [x_persons h.2.2.2.2.2.1, zB, qi_le, if_neg (show ¬ C.1 ≤ y by omega), q_gS1 h.2.2.1, hst.1, w1, qi_inj]
    by_cases q : L x = L y
    · rw [if_neg (fun z => z q)]
      simp only [e49, qi_lit, qi_andn]
      obtain ⟨g2, e2, h2, hbr2, h92, hf2⟩ := x_table (w0 := mTh x y) hxy (by omega) hL hmk q (decide_eq_false (by omega)) (decide_eq_false (by omega)) h hbr h9 hf
      rw [e2]
      simp only [zB, qi_add]
      have e : mTlS C L (fun o p _ => mTh x y o p || mPr x y o p) = mTlS C L (fun o p _ => mTh x (y + 1) o p) := mTlS_ext fun o p c ho hp hc hT => by
        have hne := (mTells_k hT).1
        unfold mTh mPr
        rw [← Bool.decide_or]
        exact decide_eq_decide.mpr ⟨fun z => by omega, fun z => by omega⟩
      rw [e] at h2 hbr2
      exact ih m (y + 1) g2 (by omega) h2 hbr2 h92 hf2 (by omega) (by omega)
    · rw [if_pos q]
      simp only [qi_lit, qi_add]
      have e : mTlS C L (fun o p _ => mTh x y o p) = mTlS C L (fun o p _ => mTh x (y + 1) o p) := mTlS_ext fun o p c ho hp hc hT => by
        have hne := mTells_k hT
        unfold mTh
        refine decide_eq_decide.mpr ⟨fun z => by omega, fun z => ?_⟩
        by_cases h1 : (o = x ∧ p = y) ∨ (o = y ∧ p = x)
        · rcases h1 with ⟨rfl, rfl⟩ | ⟨rfl, rfl⟩
          · exact absurd hne.2.1 q
          · exact absurd hne.2.1.symm q
        · omega
      rw [e] at h hbr
      exact ih m (y + 1) g (by omega) h hbr h9 hf (by omega) (by omega)
theorem x_tell13 {nb mk : Nat} {C : mC} {lw : mLaw} {a : Nat} {L : mL} {g0 : zSg} (hL : mLb nb C L) (hmk : mk < 64) :
    ∀ (r n x : Nat) (g : zSg), vXs nb C lw a (mTlS C L (fun o p _ => mTh x (x + 1) o p)) g → vBr a mk C (mTlS C L (fun o p _ => mTh x (x + 1) o p)) g → vK9 mk C L g → qF (sN a) g0 g → x + r = C.1 → r < n →
      qT (f_X10_tell_13 a n (Int32.ofNat mk) (Int32.ofNat x) g) (fun _ g' => vXs nb C lw a (mTell C L) g' ∧ vBr a mk C (mTell C L) g' ∧ qF (sN a) g0 g') := by
  intro r
  induction r with
  | zero =>
    intro n x g h hbr h9 hf hx hn
    obtain ⟨m, rfl⟩ : ∃ m, n = m + 1 := ⟨n - 1, by omega⟩
    have hP6 := h.1.1
    show qT (fb_X10_tell_13 a _ _ _ _) _
    unfold fb_X10_tell_13
    simp (disch := omega) only [x_persons h.2.2.2.2.2.1, zB, qi_le, if_pos (show C.1 ≤ x by omega)]
    have e : mTlS C L (fun o p _ => mTh x (x + 1) o p) = mTell C L := mTlS_all fun o p c ho hp hc hT => by
      have := (mTells_k hT).1
      exact decide_eq_true (by omega)
    rw [e] at h hbr
    exact qT_r ⟨h, hbr, hf⟩
  | succ r ih =>
    intro n x g h hbr h9 hf hx hn
    obtain ⟨m, rfl⟩ : ∃ m, n = m + 1 := ⟨n - 1, by omega⟩
    have hP6 := h.1.1
    show qT (fb_X10_tell_13 a _ _ _ _) _
    unfold fb_X10_tell_13
    simp (disch := omega) only [x_persons h.2.2.2.2.2.1, zB, qi_le, if_neg (show ¬ C.1 ≤ x by omega), qi_lit, qi_add]
    refine x_tell29 (x := x) hL hmk (by omega) (fun g' h' hbr' h9' hf' => ?_) (C.1 - (x + 1)) zFu (x + 1) g (by omega) h hbr h9 hf (by omega) (by show _ < 1000000; omega)
    have e : mTlS C L (fun o p _ => mTh x C.1 o p) = mTlS C L (fun o p _ => mTh (x + 1) (x + 1 + 1) o p) := mTlS_ext fun o p c ho hp hc hT => by
      unfold mTh
      exact decide_eq_decide.mpr ⟨fun z => by omega, fun z => by omega⟩
    rw [e] at h' hbr'
    exact ih m (x + 1) g' h' hbr' h9' hf' (by omega) (by omega)
theorem x_tell {nb mk : Nat} {C : mC} {lw : mLaw} {a : Nat} {L : mL} {g0 g : zSg} (hmk : mk < 64) (h : vXs nb C lw a L g) (hbr : vBr a mk C L g) (hf : qF (sN a) g0 g) :
    ∃ g', f_X10_tell a (Int32.ofNat mk) g = some ((), g') ∧ vXs nb C lw a (mTell C L) g' ∧ vBr a mk C (mTell C L) g' ∧ qF (sN a) g0 g' := by
  have hL := h.2.2.2.2.1
  have hA := zK0_A h.2.2.1
  unfold f_X10_tell
  obtain ⟨g1, e1, hc1, f1⟩ := q_bec (a := 428) (b := a + 5) (n := 6) (g := g) rfl (zK0_6 h.2.2.1).2.2.1 (by omega)
  have e0 : mTlS C L (fun o p _ => mTh 0 (0 + 1) o p) = L := mTlS_0 hL fun o p c ho hp hc hT => by
    have := (mTells_k hT).1
    exact decide_eq_false (by omega)
  have h1 : vXs nb C lw a L g1 := by
    obtain ⟨q1, q2, q3, q4, q5, q6, q7, q8⟩ := h
    exact ⟨q1, q2, q3, q4, q5, q6.fr f1 (fun k => by omega) (fun k => by omega), q7.fr f1 (fun b k hb => by omega), q8.fr f1 (fun b k z1 z2 => by omega)⟩
  have hb1 : vBr a mk C L g1 := hbr.fr f1 (fun b k z1 z2 => by omega)
  have h9 : vK9 mk C L g1 := fun c hc hm => by
    rw [hc1 c hc]
    exact (hbr c hc hm).1
  have f2 : qF (sN a) g0 g1 := hf.tr (f1.mono fun b k q => by unfold sN; omega)
  obtain ⟨v, g2, e2, h2, hb2, hf2⟩ := x_tell13 hL hmk C.1 zFu 0 g1 (by rw [e0]; exact h1) (by rw [e0]; exact hb1) h9 f2 (by omega) (by have := h.1.1; show _ < 1000000; omega)
  refine ⟨g2, ?_, h2, hb2, hf2⟩
  rw [e1]
  exact e2
/-- who KNOWS of one more -/
def mOrs (f : Nat → Nat) : Nat → Nat
  | 0 => 0
  | n + 1 => mOrs f n ||| f n
def mWis (C : mC) (L L' : mL) : Nat := mOrs (fun c => mKn C L' c ^^^ (mKn C L' c &&& mKn C L c)) C.2.1
theorem x_wis_l {a : Nat} {C : mC} {g : zSg} (hC : mWf C) (ha : (zK0 a).1 = 8) (hco : vCo 3 5 C g) : ∀ (r n c : Nat) (y : Int32), c + r = C.2.1 → r < n → ∃ v, f_X10_pass_63 a n y (Int32.ofNat c) g = some (v, g) ∧ ∀ (f : Nat → Nat) , (∀ c', c' < C.2.1 → g.2.1 (a + 6) c' &&& (g.2.1 427 c' ^^^ - Int32.ofNat 1) = Int32.ofNat (f c')) → y = Int32.ofNat (mOrs f c) → v = Int32.ofNat (mOrs f C.2.1) := by
  intro r
  induction r with
  | zero =>
    intro n c y hc hn
    obtain ⟨m, rfl⟩ : ∃ m, n = m + 1 := ⟨n - 1, by omega⟩
    have hS6 := hC.2.1
    refine ⟨y, ?_, fun f _ hy => by rw [hy, show c = C.2.1 by omega]⟩
    show fb_X10_pass_63 a _ _ _ _ = _
    unfold fb_X10_pass_63
    simp (disch := omega) only [x_secrets hco, zB, qi_le, if_pos (show C.2.1 ≤ c by omega)]
  | succ r ih =>
    intro n c y hc hn
    obtain ⟨m, rfl⟩ : ∃ m, n = m + 1 := ⟨n - 1, by omega⟩
    have hS6 := hC.2.1
    obtain ⟨v, e, hv⟩ := ih m (c + 1) (y ||| (g.2.1 (a + 6) c &&& (g.2.1 427 c ^^^ - Int32.ofNat 1))) (by omega) (by omega)
    refine ⟨v, ?_, fun f hf hy => hv f hf (by rw [hy, hf c (by omega), qi_or]; rfl)⟩
    show fb_X10_pass_63 a _ _ _ _ = _
    unfold fb_X10_pass_63
    simp (disch := omega) only [x_secrets hco, zB, qi_le, if_neg (show ¬ C.2.1 ≤ c by omega), q_gS5 ha, q_get426, qi_lit, qi_add]
    exact e
def sP (a b k : Nat) : Prop := sN a b k ∨ b = 427
theorem x_pass {nb mk : Nat} {C : mC} {lw : mLaw} {a : Nat} {L : mL} {g : zSg} (hmk : mk < 64) (hnb : nb + 1 ≤ 100000) (hL : mLf nb C L) (h : vXs nb C lw a L g) (hbr : vBr a mk C L g) :
    ∃ v g', f_X10_pass a (Int32.ofNat mk) g = some (v, g') ∧ vXs (nb + 1) C lw a (mNight C lw L) g' ∧ vBr a mk C (mNight C lw L) g' ∧ qF (sP a) g g' ∧ (mk = 63 → v = Int32.ofNat (mWis C L (mNight C lw L))) := by
  have hC := h.1
  have hP6 := hC.1
  have hS6 := hC.2.1
  have hA := zK0_A h.2.2.1
  obtain ⟨g1, e1, hc1, f1⟩ := q_bec (a := 426) (b := a + 5) (n := 6) (g := g) rfl (zK0_6 h.2.2.1).2.2.1 (by omega)
  have h1 : vXs nb C lw a L g1 := by
    obtain ⟨q1, q2, q3, q4, q5, q6, q7, q8⟩ := h
    exact ⟨q1, q2, q3, q4, q5, q6.fr f1 (fun k => by omega) (fun k => by omega), q7.fr f1 (fun b k hb => by omega), q8.fr f1 (fun b k z1 z2 => by omega)⟩
  have hb1 : vBr a mk C L g1 := hbr.fr f1 (fun b k z1 z2 => by omega)
  have e51 : mUp (mSmoke C lw (L 51) L 0) 51 (L 51) = L := by
    funext i
    show mUp L 51 (L 51) i = L i
    unfold mUp
    split
    · rename_i q; rw [q]
    · rfl
  -- smoke
  obtain ⟨u, g2, e2, h2, hb2, F2⟩ : qT (f_X10_smoke a (Int32.ofNat mk) g1) (fun _ g' => vXs nb C lw a (mN1 C lw L) g' ∧ vBr a mk C (mN1 C lw L) g' ∧ qF (sN a) g1 g') := by
    unfold f_X10_smoke
    rw [show gI g1 a 7 = Int32.ofNat (mSmoke C lw (L 51) L 0 51) from h1.2.2.2.2.2.2.2.2.2.2.2.2.1]
    exact x_smoke_l hL hmk (fun g' q1 q2 q3 => ⟨q1, q2, q3⟩) C.2.1 zFu 0 g1 (by rw [e51]; exact h1) (by rw [e51]; exact hb1) qF.rfl' (by omega) (by show _ < 1000000; omega)
  obtain ⟨g3, e3, h3, hb3, F3⟩ := x_cure_l (L := mN1 C lw L) (g0 := g2) C.2.1 zFu 0 g2 h2 hb2 qF.rfl' (by omega) (by show _ < 1000000; omega)
  obtain ⟨g4, e4, h4, hb4, F4⟩ := x_tell (g0 := g3) hmk h3 hb3 qF.rfl'
  have hst := h4.2.2.2.2.2.2.2
  have hl2 := h3.2.2.2.2.1
  have n52 : mTell C (mCure C (mN1 C lw L) C.2.1) 52 = L 52 := by
    unfold mTell
    rw [if_neg (by omega), mCure_n (by omega) (by omega)]
    exact mSmoke_n hS6 (by omega)
  have n53 : mTell C (mCure C (mN1 C lw L) C.2.1) 53 = L 53 := by
    unfold mTell
    rw [if_neg (by omega), mCure_n (by omega) (by omega)]
    exact mSmoke_n hS6 (by omega)
  have hcd := mCured_le (C := C) (L := mN1 C lw L) (n := C.2.1)
  have s1 := (hst.fld (i := 4) (v := min 999 (L 52 + 2 * mCured C (mN1 C lw L) C.2.1)) (by omega)).fld (i := 5) (v := L 53 + 1) (by omega)
  have eN : mUp (mUp (mTell C (mCure C (mN1 C lw L) C.2.1)) (48 + 4) (min 999 (L 52 + 2 * mCured C (mN1 C lw L) C.2.1))) (48 + 5) (L 53 + 1) = mNight C lw L := by
    funext i
    unfold mNight mUp mN2
    by_cases q1 : i = 53
    · rw [if_pos (by omega), if_neg (by omega), if_pos q1]
    · rw [if_neg (show ¬ i = 48 + 5 by omega)]
      by_cases q2 : i = 52
      · rw [if_pos (by omega), if_pos q2]
      · rw [if_neg (show ¬ i = 48 + 4 by omega), if_neg q2, if_neg q1]
  rw [eN] at s1
  have f5 : qF (sSt a) g4 (gsI (gsI g4 a (4 + 4) (Int32.ofNat (min 999 (L 52 + 2 * mCured C (mN1 C lw L) C.2.1)))) a (4 + 5) (Int32.ofNat (L 53 + 1))) := (qF.rfl'.sI (Or.inl ⟨rfl, by omega, by omega⟩)).sI (Or.inl ⟨rfl, by omega, by omega⟩)
  have lbN : mLb (nb + 1) C (mNight C lw L) := by
    obtain ⟨z1, z2, z3, z4, z5, z6, z7, z8, z9⟩ := h4.2.2.2.2.1
    have eq : ∀ i, i ≠ 52 → i ≠ 53 → mNight C lw L i = mTell C (mCure C (mN1 C lw L) C.2.1) i := fun i q1 q2 => by
      unfold mNight mN2
      rw [if_neg q1, if_neg q2]
    refine ⟨fun p hp => by rw [eq p (by omega) (by omega)]; exact z1 p hp, fun i q1 q2 => by rw [eq i (by omega) (by omega)]; exact z2 i q1 q2, fun c hc => by rw [eq _ (by omega) (by omega)]; exact z3 c hc, by rw [eq _ (by omega) (by omega)]; exact z4, by rw [eq _ (by omega) (by omega)]; exact z5, by rw [eq _ (by omega) (by omega)]; exact z6, by rw [eq _ (by omega) (by omega)]; exact z7, ?_, ?_⟩
    · unfold mNight
      rw [if_pos rfl]
      omega
    · unfold mNight
      rw [if_neg (by omega), if_pos rfl]
      have := hL.1.2.2.2.2.2.2.2.2
      omega
  have hX := (h4.up hnb).st f5 lbN s1
  have hB : vBr a mk C (mNight C lw L) _ := hb4.st hC f5 (L' := mNight C lw L) (fun i q1 q2 => by unfold mNight mN2; rw [if_neg (by omega), if_neg (by omega)])
  have FF : qF (sN a) g1 (gsI (gsI g4 a (4 + 4) (Int32.ofNat (min 999 (L 52 + 2 * mCured C (mN1 C lw L) C.2.1)))) a (4 + 5) (Int32.ofNat (L 53 + 1))) := ((F2.tr F3).tr F4).tr (f5.mono fun b k q => sN_S q)
  obtain ⟨v, e6, hv⟩ := x_wis_l hC h.2.2.1 hX.2.2.2.2.2.1 C.2.1 zFu 0 0 (by omega) (by show _ < 1000000; omega)
  refine ⟨v, _, ?_, hX, hB, (f1.mono fun b k q => Or.inr (by omega)).tr (FF.mono fun b k q => Or.inl q), fun h63 => hv (fun c' => mKn C (mNight C lw L) c' ^^^ (mKn C (mNight C lw L) c' &&& mKn C L c')) (fun c' hc' => ?_) rfl⟩
  · have hb53 := hL.1.2.2.2.2.2.2.2.2
    have hb52 := hL.1.2.2.2.2.2.2.2.1
    have v8 : g4.2.1 a 8 = Int32.ofNat (L 52) := by rw [hst.2.2.2.2.2.2.1, n52]
    have v9 : g4.2.1 a 9 = Int32.ofNat (L 53) := by rw [hst.2.2.2.2.2.2.2, n53]
    have e3' : f_X10_cure a g2 = some (Int32.ofNat (mCured C (mN1 C lw L) C.2.1), g3) := e3
    unfold f_X10_pass
    rw [e1, qB_s, e2, qB_s, e3', qB_s, e4, qB_s]
    simp (disch := omega) only [v8, v9, qs_In, qi_lit, qi_mul, qi_add, qi_imin]
    exact e6
  · have hm : mk.testBit c' = true := by rw [h63]; exact (by decide : ∀ c : Fin 6, (63 : Nat).testBit c.val = true) ⟨c', by omega⟩
    have hm1 : c' < 6 := by omega
    rw [(hB c' hm1 hm).1, FF.2.1 427 c' (by unfold sN sW; omega), hc1 c' hm1, (hbr c' hm1 hm).1, qi_andn]
