/-! ===== both sides: WORTHWHILE ===== -/
section Q7
variable {C : mC} {L : mL} {lw : mLaw} {g : zSg}
def mHt (C : mC) (s n : Nat) : Nat := mSum (fun c => if s.testBit c then mHvy C c else 0) n
def mLt (C : mC) (L : mL) (s n : Nat) : Nat := mSum (fun c => if s.testBit c then mLack C L c else 0) n
theorem mHt_le {s n : Nat} (hC : mWf C) (hn : n ≤ C.2.1) : mHt C s n ≤ 54 := by
  have hS := hC.2.1
  have := mSum_le (f := fun c => if s.testBit c then mHvy C c else 0) (n := n) (b := 9) (fun c hc => by
    have := hC.hvy (c := c) (by omega)
    show (if s.testBit c = true then mHvy C c else 0) ≤ 9
    split <;> omega)
  unfold mHt
  omega
theorem mLt_le {s n : Nat} (hC : mWf C) (hn : n ≤ C.2.1) : mLt C L s n ≤ 54 := by
  have hS := hC.2.1
  have := mSum_le (f := fun c => if s.testBit c then mLack C L c else 0) (n := n) (b := 9) (fun c hc => by
    have := mLack_le (L := L) hC (c := c) (by omega)
    show (if s.testBit c = true then mLack C L c else 0) ≤ 9
    split <;> omega)
  unfold mLt
  omega
def mCan (C : mC) (L : mL) (s : Nat) : Bool := decide (s &&& L 49 = 0) && decide (mLt C L s C.2.1 ≤ L 51)
def mBst (C : mC) (L : mL) : Nat → Nat
  | 0 => 0
  | k + 1 => if mCan C L k = true ∧ (mHt C (mBst C L k) C.2.1 < mHt C k C.2.1 ∨ (mHt C k C.2.1 = mHt C (mBst C L k) C.2.1 ∧ mPop k < mPop (mBst C L k))) then k else mBst C L k
theorem mBst_le {k : Nat} : mBst C L k ≤ k := by
  induction k with
  | zero => exact Nat.le_refl _
  | succ k ih =>
    unfold mBst
    split <;> omega
theorem mBst_1 : mBst C L 1 = 0 := by
  unfold mBst
  split
  · rfl
  · rfl
theorem x_heavyT {s : Nat} (h : vCo 3 5 C g) (hC : mWf C) (hs : s < 64) : f_X2_heavyTogether (Int32.ofNat s) g = some (Int32.ofNat (mHt C s C.2.1), g) := by
  have hS := hC.2.1
  refine q_loop (F := fun n k g => f_X2_heavyTogether_4 n (Int32.ofNat s) (Int32.ofNat (mHt C s k)) (Int32.ofNat k) g) (N := C.2.1) (Inv := fun _ g' => g' = g) (R := fun o => o = some (Int32.ofNat (mHt C s C.2.1), g)) (by omega) ?_ ?_ (Nat.zero_le _) rfl
  · intro n g' e
    subst e
    show fb_X2_heavyTogether_4 _ _ _ _ _ = _
    unfold fb_X2_heavyTogether_4
    simp (disch := omega) only [x_secrets h, zB, qi_le, if_pos (Nat.le_refl C.2.1)]
  · intro n k g' hk e ih
    subst e
    have := ih g' rfl
    rw [show mHt C s (k + 1) = mHt C s k + (if s.testBit k then mHvy C k else 0) from rfl] at this
    show fb_X2_heavyTogether_4 _ _ _ _ _ = _
    unfold fb_X2_heavyTogether_4 f_X2_heavyTogether_34
    simp (disch := omega) only [x_secrets h, zB, qi_le, if_neg (show ¬ C.2.1 ≤ k by omega), qi_lit, qi_bit0, x_heavy h, qi_add]
    cases hb : s.testBit k
    · rw [if_pos rfl]
      rw [hb] at this
      exact this
    · rw [if_neg (by decide)]
      rw [hb] at this
      exact this
theorem x_lackedBy {s : Nat} (hq : vQ C L) (h : vXs 999 C lw 39 L g) (hs : s < 64) : f_X2_lackedBy 39 (Int32.ofNat s) g = some (Int32.ofNat (mLt C L s C.2.1), g) := by
  have hS := hq.1.2.1
  have hc := h.2.2.2.2.2.1
  refine q_loop (F := fun n k g => f_X2_lackedBy_5 39 n (Int32.ofNat s) (Int32.ofNat (mLt C L s k)) (Int32.ofNat k) g) (N := C.2.1) (Inv := fun _ g' => g' = g) (R := fun o => o = some (Int32.ofNat (mLt C L s C.2.1), g)) (by omega) ?_ ?_ (Nat.zero_le _) rfl
  · intro n g' e
    subst e
    show fb_X2_lackedBy_5 39 _ _ _ _ _ = _
    unfold fb_X2_lackedBy_5
    simp (disch := omega) only [x_secrets hc, zB, qi_le, if_pos (Nat.le_refl C.2.1)]
  · intro n k g' hk e ih
    subst e
    have := ih g' rfl
    rw [show mLt C L s (k + 1) = mLt C L s k + (if s.testBit k then mLack C L k else 0) from rfl] at this
    show fb_X2_lackedBy_5 39 _ _ _ _ _ = _
    unfold fb_X2_lackedBy_5 f_X2_lackedBy_39
    simp (disch := omega) only [x_secrets hc, zB, qi_le, if_neg (show ¬ C.2.1 ≤ k by omega), qi_lit, qi_bit0, x_lacks h hq.2.1 hk, qi_add]
    cases hb : s.testBit k
    · rw [if_pos rfl]
      rw [hb] at this
      exact this
    · rw [if_neg (by decide)]
      rw [hb] at this
      exact this
theorem q_p2 {n : Nat} (hn : n ≤ 6) : 1 <<< n ≤ 64 ∧ 1 ≤ 1 <<< n := by
  rw [Nat.one_shiftLeft]
  exact ⟨Nat.pow_le_pow_right (by omega) hn, Nat.one_le_two_pow⟩
theorem x_worthiest (hq : vQ C L) (h : vXs 999 C lw 39 L g) : f_X2_worthiest 39 g = some (Int32.ofNat (mBst C L (1 <<< C.2.1)), g) := by
  have hS := hq.1.2.1
  have hc := h.2.2.2.2.2.1
  have hst := h.2.2.2.2.2.2.2
  obtain ⟨p1, p2⟩ := q_p2 hS
  have h51 : L 51 ≤ 999 := hq.2.1.1.2.2.2.2.2.2.1
  have h49 : L 49 < 64 := hq.2.1.1.2.2.2.2.1
  rw [show f_X2_worthiest 39 g = f_X2_worthiest_4 39 zFu (Int32.ofNat (mBst C L 1)) (Int32.ofNat 1) g from by rw [mBst_1]; rfl]
  refine q_loop (F := fun n k g => f_X2_worthiest_4 39 n (Int32.ofNat (mBst C L k)) (Int32.ofNat k) g) (N := 1 <<< C.2.1) (Inv := fun _ g' => g' = g) (R := fun o => o = some (Int32.ofNat (mBst C L (1 <<< C.2.1)), g)) (s := 1) (by omega) ?_ ?_ p2 rfl
  · intro n g' e
    subst e
    show fb_X2_worthiest_4 39 _ _ _ _ = _
    unfold fb_X2_worthiest_4
    simp (disch := omega) only [x_secrets hc, zB, qi_lit, qi_shl, qi_le, if_pos (Nat.le_refl (1 <<< C.2.1))]
  · intro n k g' hk e ih
    subst e
    have := ih g' rfl
    have hb := @mBst_le C L k
    rw [show mBst C L (k + 1) = (if mCan C L k = true ∧ (mHt C (mBst C L k) C.2.1 < mHt C k C.2.1 ∨ (mHt C k C.2.1 = mHt C (mBst C L k) C.2.1 ∧ mPop k < mPop (mBst C L k))) then k else mBst C L k) from rfl] at this
    have l1 := mHt_le (s := k) hq.1 (Nat.le_refl _)
    have l2 := mHt_le (s := mBst C L k) hq.1 (Nat.le_refl _)
    have l3 := mLt_le (L := L) (s := k) hq.1 (Nat.le_refl _)
    have l4 := @mPop_le k
    have l5 := @mPop_le (mBst C L k)
    have land : k &&& L 49 < 64 := Nat.lt_of_le_of_lt Nat.and_le_right h49
    have g5 : g'.2.1 39 5 = Int32.ofNat (L 49) := hst.2.2.2.1
    have g7 : g'.2.1 39 7 = Int32.ofNat (L 51) := hst.2.2.2.2.2.1
    show fb_X2_worthiest_4 39 _ _ _ _ = _
    unfold fb_X2_worthiest_4 f_X2_worthiest_76 f_X2_worthiest_78
    simp (disch := omega) only [x_secrets hc, zB, qi_lit, qi_shl, qi_le, if_neg (show ¬ 1 <<< C.2.1 ≤ k by omega), g5, g7, x_lackedBy hq h, x_heavyT hc hq.1, q_pop, qPop_eq, qi_add]
    simp (disch := omega) only [qi_and, qi_inj]
    by_cases q1 : k &&& L 49 = 0
    · rw [if_neg (fun w => w q1)]
      by_cases q2 : mLt C L k C.2.1 ≤ L 51
      · rw [if_pos q2]
        have hcan : mCan C L k = true := by unfold mCan; rw [decide_eq_true q1, decide_eq_true q2]; rfl
        have e1 : (Int32.ofNat 0 < Int32.ofNat (mHt C k C.2.1) - Int32.ofNat (mHt C (mBst C L k) C.2.1)) = (mHt C (mBst C L k) C.2.1 < mHt C k C.2.1) := by
          rw [qj_of 0, qj_of (mHt C k C.2.1), qj_of (mHt C (mBst C L k) C.2.1), qj_sub, qj_lt (by omega) (by omega) (by omega) (by omega)]
          exact propext ⟨fun w => by omega, fun w => by omega⟩
        have e2 : (Int32.ofNat (mHt C k C.2.1) - Int32.ofNat (mHt C (mBst C L k) C.2.1) = Int32.ofNat 0) = (mHt C k C.2.1 = mHt C (mBst C L k) C.2.1) := by
          rw [qj_of 0, qj_of (mHt C k C.2.1), qj_of (mHt C (mBst C L k) C.2.1), qj_sub, qj_inj (by omega) (by omega) (by omega) (by omega)]
          exact propext ⟨fun w => by omega, fun w => by omega⟩
        simp only [e1, e2]
        by_cases q3 : mHt C (mBst C L k) C.2.1 < mHt C k C.2.1
        · rw [if_pos q3]
          rw [if_pos ⟨hcan, Or.inl q3⟩] at this
          exact this
        · rw [if_neg q3]
          by_cases q4 : mHt C k C.2.1 = mHt C (mBst C L k) C.2.1
          · rw [if_neg (fun w => w q4)]
            by_cases q5 : mPop (mBst C L k) ≤ mPop k
            · rw [if_pos q5]
              rw [if_neg (fun w => by omega)] at this
              exact this
            · rw [if_neg q5]
              rw [if_pos ⟨hcan, Or.inr ⟨q4, by omega⟩⟩] at this
              exact this
          · rw [if_pos q4]
            rw [if_neg (fun w => by omega)] at this
            exact this
      · rw [if_neg q2]
        rw [if_neg (fun w => by have := w.1; unfold mCan at this; rw [decide_eq_false q2, Bool.and_false] at this; cases this)] at this
        exact this
    · rw [if_pos q1]
      rw [if_neg (fun w => by have := w.1; unfold mCan at this; rw [decide_eq_false q1, Bool.false_and] at this; cases this)] at this
      exact this
/-- in the reference: the best set, its worth -/
def vWw (C : mC) (L : mL) (k : Nat) (g : zSg) : Prop := g.2.1 526 44 = Int32.ofNat (mBst C L k) ∧ g.2.1 526 45 = Int32.ofNat (mHt C (mBst C L k) C.2.1)
theorem m_worthiest (hq : vQ C L) (h : vMs 999 C lw L g) : qT (f_X12_layWorthwhile g) (fun _ g' => vWw C L (1 <<< C.2.1) g' ∧ qF SY g g') := by
  have hS := hq.1.2.1
  obtain ⟨p1, p2⟩ := q_p2 hS
  have h51 : L 51 ≤ 999 := hq.2.1.1.2.2.2.2.2.2.1
  have h49 : L 49 < 64 := hq.2.1.1.2.2.2.2.1
  have frY : ∀ (g1 g2 : zSg), vMs 999 C lw L g1 → qF SY g1 g2 → vMs 999 C lw L g2 := fun g1 g2 h1 f => by
    obtain ⟨q1, q2, q3, q4, q5, q6, q7⟩ := h1
    exact ⟨q1, q2, q3, q4, q5.fr f (fun k => by unfold SY; omega) (fun k => by unfold SY; omega) (fun k => by unfold SY; omega) (fun k _ _ => by unfold SY; omega), q6.fr f (by unfold SY; omega) (fun b k z1 z2 => by unfold SY; omega), q7.fr f (fun k _ => by unfold SY; omega)⟩
  have f0 : qF SY g (gsI (gsI g 526 44 0) 526 45 0) := (qF.rfl'.sI (by unfold SY; omega)).sI (by unfold SY; omega)
  unfold f_X12_layWorthwhile
  refine q_loop (g := gsI (gsI g 526 44 0) 526 45 0) (F := fun n k g => f_X12_layWorthwhile_12 n (Int32.ofNat k) g) (N := 1 <<< C.2.1) (Inv := fun k g' => vMs 999 C lw L g' ∧ qF SY g g' ∧ vWw C L k g') (R := fun o => qT o (fun _ g' => vWw C L (1 <<< C.2.1) g' ∧ qF SY g g')) (s := 1) (by omega) ?_ ?_ p2 ⟨frY _ _ h f0, f0, ?_⟩
  · intro n g' ⟨h', ff, hw⟩
    show qT (fb_X12_layWorthwhile_12 _ _ _) _
    unfold fb_X12_layWorthwhile_12
    simp (disch := omega) only [h'.2.2.2.2.1.2.2.2.2.1, qi_lit, qi_shl, qi_le, if_pos (Nat.le_refl (1 <<< C.2.1))]
    exact qT_r ⟨hw, ff⟩
  · intro n k g' hk ⟨h', ff, hw⟩ ih
    have hb := @mBst_le C L k
    have l1 := mHt_le (s := k) hq.1 (Nat.le_refl _)
    have l2 := mHt_le (s := mBst C L k) hq.1 (Nat.le_refl _)
    have l3 := mLt_le (L := L) (s := k) hq.1 (Nat.le_refl _)
    have l4 := @mPop_le k
    have l5 := @mPop_le (mBst C L k)
    have land : k &&& L 49 < 64 := Nat.lt_of_le_of_lt Nat.and_le_right h49
    show qT (fb_X12_layWorthwhile_12 _ _ _) _
    unfold fb_X12_layWorthwhile_12
    simp (disch := omega) only [h'.2.2.2.2.1.2.2.2.2.1, qi_lit, qi_shl, qi_le, if_neg (show ¬ 1 <<< C.2.1 ≤ k by omega)]
    refine q_loop (F := fun m c g => f_X12_layWorthwhile_29 (f_X12_layWorthwhile_12 n) m (Int32.ofNat k) (Int32.ofNat (mLt C L k c)) (Int32.ofNat (mHt C k c)) (Int32.ofNat c) g) (N := C.2.1) (Inv := fun _ g2 => g2 = g') (R := fun o => qT o (fun _ g' => vWw C L (1 <<< C.2.1) g' ∧ qF SY g g')) (by omega) ?_ ?_ (Nat.zero_le _) rfl
    · intro m g2 e
      subst e
      have same : mBst C L (k + 1) = mBst C L k → qT (f_X12_layWorthwhile_12 n (Int32.ofNat (k + 1)) g2) (fun _ g' => vWw C L (1 <<< C.2.1) g' ∧ qF SY g g') := fun e => ih g2 ⟨h', ff, by unfold vWw; rw [e]; exact hw⟩
      have f2 : qF SY g (gsI (gsI g2 526 44 (Int32.ofNat k)) 526 45 (Int32.ofNat (mHt C k C.2.1))) := (ff.sI (by unfold SY; omega)).sI (by unfold SY; omega)
      have new : mBst C L (k + 1) = k → qT (f_X12_layWorthwhile_12 n (Int32.ofNat (k + 1)) (gsI (gsI g2 526 44 (Int32.ofNat k)) 526 45 (Int32.ofNat (mHt C k C.2.1)))) (fun _ g' => vWw C L (1 <<< C.2.1) g' ∧ qF SY g g') := fun e => ih _ ⟨frY _ _ h' ((qF.rfl'.sI (by unfold SY; omega)).sI (by unfold SY; omega)), f2, by
        unfold vWw
        rw [e]
        exact ⟨by rw [qs_In (by omega), qs_Ie], by rw [qs_Ie]⟩⟩
      have hst : mBst C L (k + 1) = (if mCan C L k = true ∧ (mHt C (mBst C L k) C.2.1 < mHt C k C.2.1 ∨ (mHt C k C.2.1 = mHt C (mBst C L k) C.2.1 ∧ mPop k < mPop (mBst C L k))) then k else mBst C L k) := rfl
      obtain ⟨w44, w45⟩ := hw
      show qT (fb_X12_layWorthwhile_29 _ _ _ _ _ _ _) _
      unfold fb_X12_layWorthwhile_29 f_X12_layWorthwhile_89 f_X12_layWorthwhile_116 f_X12_layWorthwhile_117 f_X12_layWorthwhile_154 f_X12_layWorthwhile_164
      simp (disch := omega) only [h'.2.2.2.2.1.2.2.2.2.1, qi_le, if_pos (Nat.le_refl C.2.1), h'.N, qi_lit, qi_and, qi_inj, qi_lt, w44, w45, zB, q_pop, qPop_eq, qi_add, if_true, if_false, not_true_eq_false, not_false_eq_true, ite_true, ite_false, Nat.one_ne_zero]
      by_cases q1 : k &&& L 49 = 0
      · rw [if_neg (fun w => w q1)]
        by_cases q2 : L 51 < mLt C L k C.2.1
        · rw [if_pos q2]
          exact same (by rw [hst, if_neg (fun w => by have := w.1; unfold mCan at this; rw [decide_eq_false (show ¬ mLt C L k C.2.1 ≤ L 51 by omega), Bool.and_false] at this; cases this)])
        · rw [if_neg q2]
          have hcan : mCan C L k = true := by unfold mCan; rw [decide_eq_true q1, decide_eq_true (show mLt C L k C.2.1 ≤ L 51 by omega)]; rfl
          by_cases q3 : mHt C (mBst C L k) C.2.1 < mHt C k C.2.1
          · rw [if_pos q3]
            exact new (by rw [hst, if_pos ⟨hcan, Or.inl q3⟩])
          · rw [if_neg q3]
            by_cases q4 : mHt C k C.2.1 = mHt C (mBst C L k) C.2.1
            · rw [if_neg (fun w => w q4)]
              by_cases q5 : mPop (mBst C L k) ≤ mPop k
              · rw [if_pos q5]
                exact same (by rw [hst, if_neg (fun w => by omega)])
              · rw [if_neg q5]
                exact new (by rw [hst, if_pos ⟨hcan, Or.inr ⟨q4, by omega⟩⟩])
            · rw [if_pos q4]
              exact same (by rw [hst, if_neg (fun w => by omega)])
      · rw [if_pos q1]
        exact same (by rw [hst, if_neg (fun w => by have := w.1; unfold mCan at this; rw [decide_eq_false q1, Bool.false_and] at this; cases this)])
    · intro m c g2 hc e ih2
      subst e
      have := ih2 g2 rfl
      rw [show mLt C L k (c + 1) = mLt C L k c + (if k.testBit c then mLack C L c else 0) from rfl, show mHt C k (c + 1) = mHt C k c + (if k.testBit c then mHvy C c else 0) from rfl] at this
      have zh := m_hvy (g := g2) h'.2.2.2.2.1 hS hc
      rw [qi_lit] at zh
      show qT (fb_X12_layWorthwhile_29 _ _ _ _ _ _ _) _
      unfold fb_X12_layWorthwhile_29 f_X12_layWorthwhile_58 f_X12_layWorthwhile_81
      simp (disch := omega) only [h'.2.2.2.2.1.2.2.2.2.1, qi_le, if_neg (show ¬ C.2.1 ≤ c by omega), m_has, zB, qi_lit, mB_0, m_lacks h' hq.2.1 hc, zh, qi_add]
      cases hb : k.testBit c
      · rw [if_pos rfl, if_pos rfl]
        rw [hb] at this
        exact this
      · rw [if_neg (by decide), if_neg (by decide)]
        rw [hb] at this
        exact this
  · unfold vWw
    rw [mBst_1]
    refine ⟨by rw [qs_In (by omega), qs_Ie]; rfl, ?_⟩
    rw [qs_Ie]
    have : mHt C 0 C.2.1 = 0 := mSum_0 (m := 0) (by omega) (fun i _ _ => by simp)
    rw [this]
    rfl
theorem d_worthwhile (hq : vQ C L) (x : Int32) : ∃ v, (∀ g, vQX C L lw g → qE SX g (f_X11_worthwhile x g) v) ∧ (∀ g, vQM C L lw g → qE SY g (f_X12_worthwhile x g) v) := by
  have hP := hq.1.1
  have hS := hq.1.2.1
  obtain ⟨p1, p2⟩ := q_p2 hS
  by_cases hp : 0 < C.1
  · by_cases q : mHas 2 x
    · obtain ⟨w, hw, rfl⟩ := q
      have hb : mBst C L (1 <<< C.2.1) < 64 := by
        obtain ⟨k, hk⟩ : ∃ k, 1 <<< C.2.1 = k + 1 := ⟨1 <<< C.2.1 - 1, by omega⟩
        rw [hk]
        have := @mBst_le C L k
        unfold mBst
        split <;> omega
      refine ⟨Int32.ofNat (if w = 0 then mBst C L (1 <<< C.2.1) else mHt C (mBst C L (1 <<< C.2.1)) C.2.1), fun g hg => ?_, fun g hg => ?_⟩
      · unfold f_X11_worthwhile
        simp (disch := omega) only [x_told1 hg.1 hP hp, zB, qi_lit, qi_inj, qi_lt, qi_le, if_neg (show ¬ w < 0 by omega), if_pos (show w ≤ 1 by omega), if_true, if_false, not_true_eq_false, not_false_eq_true, ite_true, ite_false, Nat.one_ne_zero, x_worthiest hq (hg.xs hq hp), x_heavyT hg.1 hq.1 hb]
        by_cases z : w = 0
        · rw [if_neg (fun t => t z), if_pos z]; exact qE_r
        · rw [if_pos z, if_neg z]; exact qE_r
      · obtain ⟨u, g2, ze, ⟨w44, w45⟩, f2⟩ := m_worthiest hq (hg.ms hq hp)
        unfold f_X12_worthwhile
        rw [if_neg (m_told1 hq hg.1 hp), m_in1 (hi := 1) (n := 2) rfl hw (by omega)]
        dsimp only [zB]
        rw [if_pos (by decide), ze]
        simp (disch := omega) only [qi_lit, qi_inj, w44, w45]
        by_cases z : w = 0
        · rw [if_neg (fun t => t z), if_pos z]; exact ⟨g2, rfl, f2⟩
        · rw [if_pos z, if_neg z]; exact ⟨g2, rfl, f2⟩
    · refine ⟨-1, fun g hg => ?_, fun g hg => ?_⟩
      · unfold f_X11_worthwhile
        simp only [x_told1 hg.1 hP hp, zB]
        rw [if_neg (by decide)]
        by_cases z : x < 0
        · rw [if_pos z]; exact qE_r
        · rw [if_neg z, if_neg (show ¬ x ≤ 1 from q_gt (n := 1) (by omega) q z)]; exact qE_r
      · unfold f_X12_worthwhile
        rw [if_neg (m_told1 hq hg.1 hp), m_in0 (hi := 1) (n := 2) rfl q (by omega)]
        exact qE_r
  · refine ⟨-1, fun g hg => ?_, fun g hg => ?_⟩
    · unfold f_X11_worthwhile
      rw [x_told0 hg.1 hP hp]
      exact qE_r
    · unfold f_X12_worthwhile
      rw [if_pos (m_told0 hq hg.1 hp)]
      exact qE_r
end Q7
