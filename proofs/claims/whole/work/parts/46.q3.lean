/-! ===== both sides: sums of BREATHS, TABLES, who has most ===== -/
section Q3
variable {C : mC} {L : mL} {lw : mLaw} {g : zSg}
def mBrs (L : mL) (p n : Nat) : Nat := mSum (fun c => L (6 + 6 * p + c)) n
theorem mBrs_6 (hq : vQ C L) {p : Nat} (hp : p < 6) : mBrs L p 6 = mBrs L p C.2.1 := mSum_0 hq.1.2.1 fun c h1 h2 => hq.2.2 p c hp h2 (Or.inr h1)
theorem mBrs_le (hq : vQ C L) {p n : Nat} (hp : p < 6) (hn : n ≤ 6) : mBrs L p n ≤ 594 := by
  have := mSum_le (f := fun c => L (6 + 6 * p + c)) (n := n) (b := 99) (fun c hc => hq.2.1.1.2.1 _ (by omega) (by omega))
  unfold mBrs
  omega
theorem x_breathsOf {p : Nat} (hq : vQ C L) (h : vQX C L lw g) (hp : p < 6) : f_X8_breathsOf 39 (Int32.ofNat p) g = some (Int32.ofNat (mBrs L p C.2.1), g) := by
  rw [← mBrs_6 hq hp]
  refine q_loop (F := fun n k g => f_X8_breathsOf_4 39 n (Int32.ofNat p) (Int32.ofNat (mBrs L p k)) (Int32.ofNat k) g) (N := 6) (Inv := fun _ g' => g' = g) (R := fun o => o = some (Int32.ofNat (mBrs L p 6), g)) (by omega) ?_ ?_ (Nat.zero_le _) rfl
  · intro n g' e
    subst e
    show fb_X8_breathsOf_4 39 _ _ _ _ _ = _
    unfold fb_X8_breathsOf_4
    simp (disch := omega) only [qi_lit, qi_le, if_pos (Nat.le_refl 6)]
  · intro n k g' hk e ih
    subst e
    show fb_X8_breathsOf_4 39 _ _ _ _ _ = _
    unfold fb_X8_breathsOf_4
    simp (disch := omega) only [qi_lit, qi_le, if_neg (show ¬ 6 ≤ k by omega), x_breathOf h, zB, qi_add]
    exact ih g' rfl
theorem m_breathAll {p : Nat} (hq : vQ C L) (h : vMk C L g) (hp : p < 6) : f_X12_breathAll (Int32.ofNat p) g = some (Int32.ofNat (mBrs L p C.2.1), g) := by
  have hS := hq.1.2.1
  refine q_loop (F := fun n k g => f_X12_breathAll_4 n (Int32.ofNat p) (Int32.ofNat (mBrs L p k)) (Int32.ofNat k) g) (N := C.2.1) (Inv := fun _ g' => g' = g) (R := fun o => o = some (Int32.ofNat (mBrs L p C.2.1), g)) (by omega) ?_ ?_ (Nat.zero_le _) rfl
  · intro n g' e
    subst e
    show fb_X12_breathAll_4 _ _ _ _ _ = _
    unfold fb_X12_breathAll_4
    simp (disch := omega) only [h.2.1.2.2.2.2.1, qi_le, if_pos (Nat.le_refl C.2.1)]
  · intro n k g' hk e ih
    subst e
    show fb_X12_breathAll_4 _ _ _ _ _ = _
    unfold fb_X12_breathAll_4
    simp (disch := omega) only [qi_lit, h.2.1.2.2.2.2.1, qi_le, if_neg (show ¬ C.2.1 ≤ k by omega), m_breathOf h, zB, qi_add]
    exact ih g' rfl
theorem q_63 {c : Nat} (hc : c < 6) : (63 : Nat).testBit c = true := (by decide : ∀ c : Fin 6, (63 : Nat).testBit c.val = true) ⟨c, hc⟩
theorem x_knows {p c : Nat} (hC : mWf C) (h : vQX C L lw g) (hp : p < C.1) (hc : c < 6) : f_X8_knows 39 (Int32.ofNat p) (Int32.ofNat c) g = some (mB (mKnows C L p c), g) := by
  have hb := (h.2.2.2 c hc (q_63 hc)).1
  unfold f_X8_knows
  simp (disch := omega) only [q_gS5 (show (zK0 39).1 = 8 from rfl), zB, hb, qi_lit, q_kbit hC hp]
  cases mKnows C L p c <;> rfl
theorem x_knownBy {p : Nat} (hC : mWf C) (h : vQX C L lw g) (hp : p < C.1) : f_X8_knownBy 39 (Int32.ofNat p) g = some (Int32.ofNat (mKb C L p), g) := by
  have e6 : mKb C L p = mBits (fun c => mKnows C L p c) 6 := by
    refine Nat.eq_of_testBit_eq fun c => ?_
    have hS := hC.2.1
    rw [mKb_tb, mBits_tb]
    unfold mKnows
    by_cases q : c < C.2.1
    · rw [decide_eq_true q, decide_eq_true (show c < 6 by omega)]
    · rw [decide_eq_false q]; simp
  rw [e6]
  refine q_loop (F := fun n k g => f_X8_knownBy_4 39 n (Int32.ofNat p) (Int32.ofNat (mBits (fun c => mKnows C L p c) k)) (Int32.ofNat k) g) (N := 6) (Inv := fun _ g' => g' = g) (R := fun o => o = some (Int32.ofNat (mBits (fun c => mKnows C L p c) 6), g)) (by omega) ?_ ?_ (Nat.zero_le _) rfl
  · intro n g' e
    subst e
    show fb_X8_knownBy_4 39 _ _ _ _ _ = _
    unfold fb_X8_knownBy_4
    simp (disch := omega) only [qi_lit, qi_le, if_pos (Nat.le_refl 6)]
  · intro n k g' hk e ih
    subst e
    have := ih g' rfl
    rw [show mBits (fun c => mKnows C L p c) (k + 1) = mBits (fun c => mKnows C L p c) k ||| (if mKnows C L p k then 1 <<< k else 0) from rfl] at this
    show fb_X8_knownBy_4 39 _ _ _ _ _ = _
    unfold fb_X8_knownBy_4 f_X8_knownBy_25
    simp (disch := omega) only [qi_lit, qi_le, if_neg (show ¬ 6 ≤ k by omega), x_knows hC h hp, zB, mB_0, qi_add, qi_shl, qi_or]
    cases hb : mKnows C L p k
    · rw [if_pos rfl]
      rw [hb] at this
      simpa using this
    · rw [if_neg (by decide)]
      rw [hb] at this
      simpa using this
def mAll (C : mC) (L : mL) (n : Nat) : Nat := mSum (fun p => mBrs L p C.2.1) n
theorem mAll_le (hq : vQ C L) {n : Nat} (hn : n ≤ 6) : mAll C L n ≤ 3564 := by
  have := mSum_le (f := fun p => mBrs L p C.2.1) (n := n) (b := 594) (fun p hp => mBrs_le hq (by omega) hq.1.2.1)
  unfold mAll
  omega
theorem d_shares (hq : vQ C L) (x y : Int32) : ∃ v, (∀ g, vQX C L lw g → qE SX g (f_X11_shares x y g) v) ∧ (∀ g, vQM C L lw g → qE SY g (f_X12_shares x y g) v) := by
  have hP := hq.1.1
  have hS := hq.1.2.1
  by_cases q : mHas C.1 x
  · obtain ⟨p, hp, rfl⟩ := q
    by_cases q : mHas 1000 y
    · obtain ⟨k, hk, rfl⟩ := q
      have hb := mBrs_le hq (p := p) (by omega) hS
      have ha := mAll_le hq (n := C.1) hP
      have hm : k * mBrs L p C.2.1 ≤ 999 * 594 := Nat.mul_le_mul (by omega) hb
      refine ⟨Int32.ofNat (if mAll C L C.1 = 0 then 0 else k * mBrs L p C.2.1 / mAll C L C.1), fun g hg => ?_, fun g hg => ?_⟩
      · have fin : f_X11_shares_59 (Int32.ofNat p) (Int32.ofNat k) (Int32.ofNat (mAll C L C.1)) g = some (Int32.ofNat (if mAll C L C.1 = 0 then 0 else k * mBrs L p C.2.1 / mAll C L C.1), g) := by
          unfold f_X11_shares_59
          simp (disch := omega) only [qi_lit, qi_inj, x_breathsOf hq hg, zB, qi_mul, qi_div]
          by_cases z : mAll C L C.1 = 0
          · rw [if_neg (fun w => w z), if_pos z]
          · rw [if_pos z, if_neg z, if_neg z]
        unfold f_X11_shares
        simp (disch := omega) only [x_hasPerson1 hg.1 hP hp, zB, qi_lit, qi_inj, qi_lt, qi_le, if_neg (show ¬ k < 0 by omega), if_pos (show k ≤ 999 by omega), Nat.reduceAdd, Nat.reduceMul, Nat.reduceSub, Nat.reduceLT, Nat.reduceEqDiff, if_true, if_false, not_true_eq_false, not_false_eq_true, ite_true, ite_false, Nat.one_ne_zero]
        refine q_loop (F := fun n i g => f_X11_shares_29 n (Int32.ofNat p) (Int32.ofNat k) (Int32.ofNat (mAll C L i)) (Int32.ofNat i) g) (N := C.1) (Inv := fun _ g' => g' = g) (R := fun o => qE SX g o (Int32.ofNat (if mAll C L C.1 = 0 then 0 else k * mBrs L p C.2.1 / mAll C L C.1))) (by omega) ?_ ?_ (Nat.zero_le _) rfl
        · intro n g' e
          subst e
          show qE SX g' (fb_X11_shares_29 _ _ _ _ _ _) _
          unfold fb_X11_shares_29
          simp (disch := omega) only [x_persons hg.1, zB, qi_le, if_pos (Nat.le_refl C.1), fin]
          exact qE_r
        · intro n i g' hi e ih
          subst e
          show qE SX g' (fb_X11_shares_29 _ _ _ _ _ _) _
          unfold fb_X11_shares_29
          simp (disch := omega) only [x_persons hg.1, zB, qi_le, if_neg (show ¬ C.1 ≤ i by omega), x_breathsOf hq hg, qi_lit, qi_add]
          exact ih g' rfl
      · have hk' := hg.mk hq
        have fin : f_X12_shares_50 (Int32.ofNat p) (Int32.ofNat k) (Int32.ofNat (mAll C L C.1)) g = some (Int32.ofNat (if mAll C L C.1 = 0 then 0 else k * mBrs L p C.2.1 / mAll C L C.1), g) := by
          unfold f_X12_shares_50
          simp (disch := omega) only [qi_lit, qi_inj, m_breathAll hq hk', zB, qi_mul, qi_div]
          by_cases z : mAll C L C.1 = 0
          · rw [if_neg (fun w => w z), if_pos z]
          · rw [if_pos z, if_neg z, if_neg z]
        unfold f_X12_shares
        simp only [m_isPerson1 hg.1 hP hp, m_in1 (hi := 999) (n := 1000) rfl hk (by omega), zB]
        rw [if_neg (by decide), if_pos (by decide)]
        refine q_loop (F := fun n i g => f_X12_shares_26 n (Int32.ofNat p) (Int32.ofNat k) (Int32.ofNat (mAll C L i)) (Int32.ofNat i) g) (N := C.1) (Inv := fun _ g' => g' = g) (R := fun o => qE SY g o (Int32.ofNat (if mAll C L C.1 = 0 then 0 else k * mBrs L p C.2.1 / mAll C L C.1))) (by omega) ?_ ?_ (Nat.zero_le _) rfl
        · intro n g' e
          subst e
          show qE SY g' (fb_X12_shares_26 _ _ _ _ _ _) _
          unfold fb_X12_shares_26
          simp (disch := omega) only [hg.1.2.2.2.1, qi_le, if_pos (Nat.le_refl C.1), fin]
          exact qE_r
        · intro n i g' hi e ih
          subst e
          show qE SY g' (fb_X12_shares_26 _ _ _ _ _ _) _
          unfold fb_X12_shares_26
          simp (disch := omega) only [hg.1.2.2.2.1, zB, qi_le, if_neg (show ¬ C.1 ≤ i by omega), m_breathAll hq hk', qi_lit, qi_add]
          exact ih g' rfl
    · refine ⟨-1, fun g hg => ?_, fun g hg => ?_⟩
      · unfold f_X11_shares
        simp only [x_hasPerson1 hg.1 hP hp, zB]
        rw [if_neg (by decide)]
        rw [mHas_iff (by omega)] at q
        by_cases z : y < 0
        · rw [if_pos z]; exact qE_r
        · rw [if_neg z]
          have hz : Int32.ofNat 1000 ≤ y := by
            by_cases w : Int32.ofNat 1000 ≤ y
            · exact w
            · exact absurd ⟨z, w⟩ q
          have : ¬ y ≤ 999 := by
            rw [Int32.not_le, Int32.lt_iff_toInt_lt]
            rw [Int32.le_iff_toInt_le] at hz
            exact Int.lt_of_lt_of_le (by decide) hz
          rw [if_neg this]
          exact qE_r
      · unfold f_X12_shares
        simp only [m_isPerson1 hg.1 hP hp, m_in0 (hi := 999) (n := 1000) rfl q (by omega), zB]
        exact qE_r
  · refine ⟨-1, fun g hg => ?_, fun g hg => ?_⟩
    · unfold f_X11_shares
      simp only [x_hasPerson0 hg.1 hP q, zB]
      exact qE_r
    · unfold f_X12_shares
      simp only [m_isPerson0 hg.1 hP q, zB]
      exact qE_r
end Q3
