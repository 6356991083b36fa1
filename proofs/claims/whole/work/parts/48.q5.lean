/-! ===== both sides: OUT, GAME, RESTS ===== -/
def mSteps (W a b : Nat) : Nat := (((a / W : Nat) : Int) - (b / W : Nat)).natAbs + (((a % W : Nat) : Int) - (b % W : Nat)).natAbs
def mNear (C : mC) (lw : mLaw) (L : mL) (f : Nat) : Nat → Option Nat
  | 0 => none
  | k + 1 => if mAir C lw L k C.2.1 = 0 then (match mNear C lw L f k with
    | none => some k
    | some b => if mSteps (mW C) f b ≤ mSteps (mW C) f k then some b else some k) else mNear C lw L f k
theorem mNear_lt {C : mC} {lw : mLaw} {L : mL} {f k b : Nat} (h : mNear C lw L f k = some b) : b < k := by
  induction k generalizing b with
  | zero => cases h
  | succ k ih =>
    unfold mNear at h
    split at h
    · split at h
      · cases h; omega
      · rename_i b' hb'
        have := ih hb'
        split at h
        · cases h; omega
        · cases h; omega
    · have := ih h; omega
theorem mSteps_le {W a b : Nat} : mSteps W a b ≤ a + b + a + b := by
  have h1 := Nat.div_le_self a W
  have h2 := Nat.div_le_self b W
  have h3 := Nat.mod_le a W
  have h4 := Nat.mod_le b W
  unfold mSteps
  generalize a / W = x1 at *
  generalize b / W = x2 at *
  generalize a % W = x3 at *
  generalize b % W = x4 at *
  omega
section Q5
variable {C : mC} {L : mL} {lw : mLaw} {g : zSg}
theorem x_steps {a b : Nat} (h : vCo 3 5 C g) (hC : mWf C) (hw : 0 < mW C) (ha : a < 1000) (hb : b < 1000) : f_X0_steps 3 (Int32.ofNat a) (Int32.ofNat b) g = some (Int32.ofNat (mSteps (mW C) a b), g) := by
  have hw6 : mW C ≤ 6 := hC.2.2.1
  have h1 := Nat.div_le_self a (mW C)
  have h2 := Nat.div_le_self b (mW C)
  have h3 := Nat.mod_le a (mW C)
  have h4 := Nat.mod_le b (mW C)
  unfold f_X0_steps mSteps
  simp (disch := omega) only [x_rowOf h hw hw6, x_placeOf h hw hw6, zB]
  generalize a / mW C = a1 at *
  generalize b / mW C = b1 at *
  generalize a % mW C = a2 at *
  generalize b % mW C = b2 at *
  rw [qj_of a1, qj_of b1, qj_of a2, qj_of b2, qj_sub, qj_sub, qj_iabs (by omega) (by omega), qj_iabs (by omega) (by omega), ← qj_of, ← qj_of, qi_add]
theorem mOpt_m1 {o : Option Nat} (h : ∀ b, o = some b → b < 2147483648) : (mOpt o = - Int32.ofNat 1) = (o = none) := by
  cases o with
  | none => exact propext ⟨fun _ => rfl, fun _ => rfl⟩
  | some b =>
    show (Int32.ofNat b = - Int32.ofNat 1) = _
    rw [qi_ne1 (h b rfl) (by omega) (by omega)]
    exact propext ⟨fun w => w.elim, fun w => by cases w⟩
theorem vXs.w0 {nb a : Nat} (h : vXs nb C lw a L g) : 0 < mW C := by have := (h.1.2.2.2.2.2.2 h.2.1).2.2.1; omega
theorem vMs.w0 {nb : Nat} (h : vMs nb C lw L g) : 0 < mW C := by have := (h.1.2.2.2.2.2.2 h.2.1).2.2.1; omega
theorem x_near {f : Nat} (hq : vQ C L) (h : vXs 999 C lw 39 L g) (hf : f < 1000) : qE sW g (f_X2_nearestPure 39 (Int32.ofNat f) g) (mOpt (mNear C lw L f (mCells C))) := by
  have h30 := hq.1.cells
  have hS := hq.1.2.1
  refine q_loop (F := fun n k g => f_X2_nearestPure_5 39 n (Int32.ofNat f) (mOpt (mNear C lw L f k)) (Int32.ofNat k) g) (N := mCells C) (Inv := fun _ g' => vXs 999 C lw 39 L g' ∧ qF sW g g') (R := fun o => qE sW g o (mOpt (mNear C lw L f (mCells C)))) (by omega) ?_ ?_ (Nat.zero_le _) ⟨h, qF.rfl'⟩
  · intro n g' ⟨h', ff⟩
    show qE sW g (fb_X2_nearestPure_5 39 _ _ _ _ _) _
    unfold fb_X2_nearestPure_5
    simp (disch := omega) only [x_cells h'.2.2.2.2.2.1, zB, qi_le, if_pos (Nat.le_refl (mCells C))]
    exact ⟨g', rfl, ff⟩
  · intro n k g' hk ⟨h', ff⟩ ih
    have ha := @mAir_le C lw L k C.2.1
    have hst : mNear C lw L f (k + 1) = if mAir C lw L k C.2.1 = 0 then (match mNear C lw L f k with
      | none => some k
      | some b => if mSteps (mW C) f b ≤ mSteps (mW C) f k then some b else some k) else mNear C lw L f k := rfl
    have hlt : ∀ b, mNear C lw L f k = some b → b < 2147483648 := fun b hb => by have := mNear_lt hb; omega
    obtain ⟨g2, ze, f2⟩ := x_airAt h' hk
    have h2 := h'.fr f2
    have hco := h2.2.2.2.2.2.1
    have := ih g2 ⟨h2, ff.tr f2⟩
    rw [hst] at this
    show qE sW g (fb_X2_nearestPure_5 39 _ _ _ _ _) _
    unfold fb_X2_nearestPure_5 f_X2_nearestPure_60 f_X2_nearestPure_57 f_X2_nearestPure_60
    simp (disch := omega) only [x_cells h'.2.2.2.2.2.1, zB, qi_le, if_neg (show ¬ mCells C ≤ k by omega), ze, qi_lit, qi_inj, qi_add]
    by_cases q : mAir C lw L k C.2.1 = 0
    · rw [if_neg (fun w => w q)]
      rw [if_pos q] at this
      simp only [mOpt_m1 hlt]
      cases hb : mNear C lw L f k with
      | none =>
        rw [if_pos rfl]
        rw [hb] at this
        exact this
      | some b =>
        have hbk := mNear_lt hb
        rw [if_neg (fun w => by cases w)]
        rw [hb] at this
        have s1 := @mSteps_le (mW C) f k
        have s2 := @mSteps_le (mW C) f b
        have e2 : f_X0_steps 3 (Int32.ofNat f) (mOpt (some b)) g2 = some (Int32.ofNat (mSteps (mW C) f b), g2) := x_steps hco hq.1 h2.w0 hf (by omega)
        simp (disch := omega) only [x_steps hco hq.1 h2.w0 hf, e2, qi_le]
        by_cases q2 : mSteps (mW C) f b ≤ mSteps (mW C) f k
        · rw [if_pos q2]
          simp only [if_pos q2] at this
          exact this
        · rw [if_neg q2]
          simp only [if_neg q2] at this
          exact this
    · rw [if_pos q]
      rw [if_neg q] at this
      exact this
def mLeast (C : mC) (f : Nat) (o : Option Nat) : Nat := match o with
  | none => 0
  | some b => mSteps (mW C) f b
theorem m_out_l {f w : Nat} (hq : vQ C L) (h : vMs 999 C lw L g) (hf : f < 1000) (hw : w < 2) : qE sV g (f_X12_out_37 zFu (Int32.ofNat w) (Int32.ofNat f) (-1) (Int32.ofNat 0) (Int32.ofNat 0) g) (match mNear C lw L f (mCells C) with
    | none => -1
    | some b => if w = 0 then Int32.ofNat (mSteps (mW C) f b) else Int32.ofNat b) := by
  have h30 := hq.1.cells
  have hS := hq.1.2.1
  refine q_loop (F := fun n k g => f_X12_out_37 n (Int32.ofNat w) (Int32.ofNat f) (mOpt (mNear C lw L f k)) (Int32.ofNat (mLeast C f (mNear C lw L f k))) (Int32.ofNat k) g) (N := mCells C) (Inv := fun _ g' => vMs 999 C lw L g' ∧ qF sV g g') (R := fun o => qE sV g o (match mNear C lw L f (mCells C) with
    | none => -1
    | some b => if w = 0 then Int32.ofNat (mSteps (mW C) f b) else Int32.ofNat b)) (by omega) ?_ ?_ (Nat.zero_le _) ⟨h, qF.rfl'⟩
  · intro n g' ⟨h', ff⟩
    have hlt : ∀ b, mNear C lw L f (mCells C) = some b → b < 2147483648 := fun b hb => by have := mNear_lt hb; omega
    show qE sV g (fb_X12_out_37 _ _ _ _ _ _ _) _
    unfold fb_X12_out_37 f_X12_out_127
    simp (disch := omega) only [h'.2.2.2.2.1.2.2.2.2.2, qi_le, if_pos (Nat.le_refl (mCells C)), qi_lit, mOpt_m1 hlt, qi_inj]
    cases hb : mNear C lw L f (mCells C) with
    | none => rw [if_pos rfl]; exact ⟨g', rfl, ff⟩
    | some b =>
      rw [if_neg (fun z => by cases z)]
      by_cases q : w = 1
      · rw [if_neg (fun z => z q)]
        simp only [if_neg (show ¬ w = 0 by omega)]
        exact ⟨g', rfl, ff⟩
      · rw [if_pos q]
        simp only [if_pos (show w = 0 by omega)]
        exact ⟨g', rfl, ff⟩
  · intro n k g' hk ⟨h', ff⟩ ih
    have ha := @mAir_le C lw L k C.2.1
    have hw0 := h'.w0
    have hw6 : mW C ≤ 6 := hq.1.2.2.1
    have hst : mNear C lw L f (k + 1) = if mAir C lw L k C.2.1 = 0 then (match mNear C lw L f k with
      | none => some k
      | some b => if mSteps (mW C) f b ≤ mSteps (mW C) f k then some b else some k) else mNear C lw L f k := rfl
    have hlt : ∀ b, mNear C lw L f k = some b → b < 2147483648 := fun b hb => by have := mNear_lt hb; omega
    have hW : g'.2.1 540 0 = Int32.ofNat (mW C) := h'.2.2.2.2.1.1 0 (by omega)
    obtain ⟨g2, ze, f2⟩ := m_airOf h' hk
    have h2 := h'.fr f2
    have hW2 : g2.2.1 540 0 = Int32.ofNat (mW C) := h2.2.2.2.2.1.1 0 (by omega)
    have := ih g2 ⟨h2, ff.tr f2⟩
    rw [hst] at this
    have h1 := Nat.div_le_self f (mW C)
    have h2' := Nat.div_le_self k (mW C)
    have h3 := Nat.mod_le f (mW C)
    have h4 := Nat.mod_le k (mW C)
    have est : iabs (Int32.ofNat (k % mW C) - Int32.ofNat (f % mW C)) + iabs (Int32.ofNat (k / mW C) - Int32.ofNat (f / mW C)) = Int32.ofNat (mSteps (mW C) f k) := by
      unfold mSteps
      generalize f / mW C = a1 at *
      generalize k / mW C = b1 at *
      generalize f % mW C = a2 at *
      generalize k % mW C = b2 at *
      rw [qj_of a1, qj_of b1, qj_of a2, qj_of b2, qj_sub, qj_sub, qj_iabs (by omega) (by omega), qj_iabs (by omega) (by omega), ← qj_of, ← qj_of, qi_add]
      congr 1
      omega
    have hne : ¬ (mW C = 0) := by omega
    show qE sV g (fb_X12_out_37 _ _ _ _ _ _ _) _
    unfold fb_X12_out_37 f_X12_out_121 f_X12_out_113 f_X12_out_121
    simp (disch := omega) only [h'.2.2.2.2.1.2.2.2.2.2, hW, hW2, zB, qi_le, if_neg (show ¬ mCells C ≤ k by omega), ze, qi_lit, qi_inj, if_neg hne, qi_add, qi_imod, qi_div, est, mOpt_m1 hlt]
    by_cases q : mAir C lw L k C.2.1 = 0
    · rw [if_neg (fun w => w q)]
      rw [if_pos q] at this
      cases hb : mNear C lw L f k with
      | none =>
        rw [if_pos rfl]
        rw [hb] at this
        exact this
      | some b =>
        have hbk := mNear_lt hb
        rw [if_neg (fun w => by cases w)]
        rw [hb] at this
        have s1 := @mSteps_le (mW C) f k
        have s2 := @mSteps_le (mW C) f b
        have el : mLeast C f (some b) = mSteps (mW C) f b := rfl
        rw [el]
        simp (disch := omega) only [qi_le]
        by_cases q2 : mSteps (mW C) f b ≤ mSteps (mW C) f k
        · rw [if_pos q2]
          simp only [if_pos q2] at this
          exact this
        · rw [if_neg q2]
          simp only [if_neg q2] at this
          exact this
    · rw [if_pos q]
      rw [if_neg q] at this
      exact this
theorem d_out (hq : vQ C L) (x y : Int32) : ∃ v, (∀ g, vQX C L lw g → qE SX g (f_X11_out x y g) v) ∧ (∀ g, vQM C L lw g → qE SY g (f_X12_out x y g) v) := by
  have hP := hq.1.1
  have h30 := hq.1.cells
  by_cases q : mHas C.1 x
  · obtain ⟨p, hp, rfl⟩ := q
    have hl := hq.2.1.1.1 p hp
    by_cases q : mHas 2 y
    · obtain ⟨w, hw, rfl⟩ := q
      refine ⟨match mNear C lw L (L p) (mCells C) with
        | none => -1
        | some b => if w = 0 then Int32.ofNat (mSteps (mW C) (L p) b) else Int32.ofNat b, fun g hg => ?_, fun g hg => ?_⟩
      · obtain ⟨g2, ze, f2⟩ := x_near (f := L p) hq (hg.xs hq (by omega)) (by omega)
        have hlt : ∀ b, mNear C lw L (L p) (mCells C) = some b → b < 2147483648 := fun b hb => by have := mNear_lt hb; omega
        have h2 := hg.fr (f2.mono fun a k w => SX_W w)
        unfold f_X11_out
        simp (disch := omega) only [x_hasPerson1 hg.1 hP hp, zB, qi_lit, qi_inj, qi_lt, qi_le, if_neg (show ¬ w < 0 by omega), if_pos (show w ≤ 1 by omega), Nat.reduceAdd, Nat.reduceMul, Nat.reduceSub, Nat.reduceLT, Nat.reduceEqDiff, if_true, if_false, not_true_eq_false, not_false_eq_true, ite_true, ite_false, Nat.one_ne_zero, q_get40, hg.2.2.1.1, ze, mOpt_m1 hlt]
        cases hb : mNear C lw L (L p) (mCells C) with
        | none => rw [if_neg (fun z => z rfl)]; exact ⟨g2, rfl, f2.mono fun a k w => SX_W w⟩
        | some b =>
          have hbk := mNear_lt hb
          rw [if_pos (fun z => by cases z)]
          have e2 : f_X0_steps 3 (Int32.ofNat (L p)) (mOpt (some b)) g2 = some (Int32.ofNat (mSteps (mW C) (L p) b), g2) := x_steps h2.1 hq.1 (h2.xs hq (by omega)).w0 (by omega) (by omega)
          simp only [e2]
          by_cases z : w = 0
          · rw [if_neg (fun t => t z), if_pos z]; exact ⟨g2, rfl, f2.mono fun a k w => SX_W w⟩
          · rw [if_pos z, if_neg z]; exact ⟨g2, rfl, f2.mono fun a k w => SX_W w⟩
      · unfold f_X12_out
        simp only [m_isPerson1 hg.1 hP hp, m_in1 (hi := 1) (n := 2) rfl hw (by omega), zB]
        rw [if_neg (by decide), if_pos (by decide)]
        simp (disch := omega) only [qi_lit, qi_add, Nat.zero_add, qi_zib, if_true, qi_ix, hg.N]
        exact qE_m (m_out_l hq (hg.ms hq (by omega)) (by omega) hw) fun a k w => SY_V w
    · refine ⟨-1, fun g hg => ?_, fun g hg => ?_⟩
      · unfold f_X11_out
        simp only [x_hasPerson1 hg.1 hP hp, zB]
        rw [if_neg (by decide)]
        by_cases z : y < 0
        · rw [if_pos z]; exact qE_r
        · rw [if_neg z, if_neg (show ¬ y ≤ 1 from q_gt (n := 1) (by omega) q z)]; exact qE_r
      · unfold f_X12_out
        simp only [m_isPerson1 hg.1 hP hp, m_in0 (hi := 1) (n := 2) rfl q (by omega), zB]
        exact qE_r
  · refine ⟨-1, fun g hg => ?_, fun g hg => ?_⟩
    · unfold f_X11_out
      simp only [x_hasPerson0 hg.1 hP q, zB]
      exact qE_r
    · unfold f_X12_out
      simp only [m_isPerson0 hg.1 hP q, zB]
      exact qE_r
def mGo (C : mC) (l ch : Nat) : Nat := (mBes (mW C) (mH C) l ch).getD l
theorem mGo_lt {l ch : Nat} (hw : 0 < mW C) (hl : l < mCells C) : mGo C l ch < mCells C := by
  unfold mGo
  cases h : mBes (mW C) (mH C) l ch with
  | none => exact hl
  | some b => exact (mBes_some hw hl h).1
def mGain (C : mC) (lw : mLaw) (L : mL) (l lo ch cho : Nat) : Int := 9 - (mAir C lw L (mGo C l ch) C.2.1 : Int) + (if mGo C l ch = mGo C lo cho then 5 else 0) - (if ch = 4 then 0 else 1)
theorem mGain_b {l lo ch cho : Nat} (hS : C.2.1 ≤ 6) : -100 ≤ mGain C lw L l lo ch cho ∧ mGain C lw L l lo ch cho ≤ 100 := by
  have := @mAir_le C lw L (mGo C l ch) C.2.1
  unfold mGain
  split <;> split <;> omega
theorem x_beside4 {l ch : Nat} (h : vCo 3 5 C g) (hC : mWf C) (hw : 0 < mW C) (hl : l < mCells C) (hc : ch < 5) : f_X0_beside 3 (Int32.ofNat l) (Int32.ofNat ch) g = some (mOpt (mBes (mW C) (mH C) l ch), g) := by
  by_cases q : ch < 4
  · exact x_beside h hC hw hl q
  · have : ch = 4 := by omega
    subst this
    rw [x_besideN]
    · rfl
    · rintro ⟨k, hk, e⟩
      rw [qi_inj (by omega) (by omega)] at e
      omega
theorem x_goes {l ch : Nat} (h : vCo 3 5 C g) (hC : mWf C) (hw : 0 < mW C) (hl : l < mCells C) (hc : ch < 5) : f_X2_goes (Int32.ofNat l) (Int32.ofNat ch) g = some (Int32.ofNat (mGo C l ch), g) := by
  have h30 := hC.cells
  unfold f_X2_goes mGo
  rw [x_beside4 h hC hw hl hc]
  simp only [zB]
  cases hb : mBes (mW C) (mH C) l ch with
  | none => rw [if_neg (fun w => w rfl)]; rfl
  | some b =>
    have hbl : b < mCells C := (mBes_some hw hl hb).1
    have : ¬ mOpt (some b) = -1 := by
      show ¬ Int32.ofNat b = - Int32.ofNat 1
      rw [qi_ne1 (by omega) (by omega) (by omega)]
      exact fun w => w
    rw [if_pos this]
    rfl
theorem x_gain {l lo ch cho : Nat} (hq : vQ C L) (h : vXs 999 C lw 39 L g) (hl : l < mCells C) (hlo : lo < mCells C) (hc : ch < 5) (hco : cho < 5) : qE sW g (f_X2_gain 39 (Int32.ofNat l) (Int32.ofNat lo) (Int32.ofNat ch) (Int32.ofNat cho) g) (Int32.ofInt (mGain C lw L l lo ch cho)) := by
  have hS := hq.1.2.1
  have h30 := hq.1.cells
  have hw := h.w0
  have g1l := mGo_lt (ch := ch) hw hl
  have g2l := mGo_lt (ch := cho) hw hlo
  have ha := @mAir_le C lw L (mGo C l ch) C.2.1
  obtain ⟨g2, ze, f2⟩ := x_airAt h g1l
  have h2 := h.fr f2
  unfold f_X2_gain f_X2_gain_39 mGain
  simp (disch := omega) only [x_goes h.2.2.2.2.2.1 hq.1 hw hl hc, zB, ze, x_goes h2.2.2.2.2.2.1 hq.1 hw hlo hco, qi_lit, qi_inj]
  refine ⟨g2, ?_, f2⟩
  by_cases q1 : mGo C l ch = mGo C lo cho
  · by_cases q2 : ch = 4
    · rw [if_neg (fun z => z q1), if_neg (fun z => z q2), if_pos q1, if_pos q2]
      simp only [qj_of, qj_sub, qj_add]
      congr 3
      omega
    · rw [if_neg (fun z => z q1), if_pos q2, if_pos q1, if_neg q2]
      simp only [qj_of, qj_sub, qj_add]
      congr 3
  · by_cases q2 : ch = 4
    · rw [if_pos q1, if_neg (fun z => z q2), if_neg q1, if_pos q2]
      simp only [qj_of, qj_sub, qj_add]
      congr 3
      omega
    · rw [if_pos q1, if_pos q2, if_neg q1, if_neg q2]
      simp only [qj_of, qj_sub, qj_add]
      congr 3
      omega
end Q5
