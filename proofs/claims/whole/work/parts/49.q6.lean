/-! ===== both sides: GAME, RESTS ===== -/
section Q6
variable {C : mC} {L : mL} {lw : mLaw} {g : zSg}
theorem m_cellBy {p x : Nat} (hq : vQ C L) (h : vMs 999 C lw L g) (hp : p < C.1) (hx : x < 5) : f_X12_cellBy (Int32.ofNat p) (Int32.ofNat x) g = some (Int32.ofNat (mGo C (L p) x), g) := by
  have hP := hq.1.1
  have h30 := hq.1.cells
  have hl := hq.2.1.1.1 p hp
  have hw := h.w0
  unfold f_X12_cellBy f_X12_cellBy_22 mGo
  by_cases q : x = 4
  · subst q
    simp (disch := omega) only [qi_lit, qi_inj, if_true, if_false, not_true_eq_false, not_false_eq_true, ite_true, ite_false, qi_add, Nat.zero_add, qi_zib, qi_ix, h.N]
    rfl
  · simp (disch := omega) only [qi_lit, qi_inj, if_pos q, qi_add, Nat.zero_add, qi_zib, if_true, qi_ix, h.N, m_beside h.2.2.2.2.1 hq.1 hw hl (show x < 4 by omega), zB]
    cases hb : mBes (mW C) (mH C) (L p) x with
    | none => rw [if_neg (fun w => w rfl)]; rfl
    | some b =>
      have hbl : b < mCells C := (mBes_some hw hl hb).1
      have : ¬ mOpt (some b) = - Int32.ofNat 1 := by
        show ¬ Int32.ofNat b = - Int32.ofNat 1
        rw [qi_ne1 (by omega) (by omega) (by omega)]
        exact fun w => w
      rw [if_pos this]
      rfl
theorem m_gameOf {p o x y : Nat} (hq : vQ C L) (h : vMs 999 C lw L g) (hp : p < C.1) (ho : o < C.1) (hx : x < 5) (hy : y < 5) : qE sV g (f_X12_gameOf (Int32.ofNat p) (Int32.ofNat o) (Int32.ofNat x) (Int32.ofNat y) g) (Int32.ofInt (mGain C lw L (L p) (L o) x y)) := by
  have hS := hq.1.2.1
  have h30 := hq.1.cells
  have hw := h.w0
  have g1l := mGo_lt (ch := x) hw (hq.2.1.1.1 p hp)
  have g2l := mGo_lt (ch := y) hw (hq.2.1.1.1 o ho)
  have ha := @mAir_le C lw L (mGo C (L p) x) C.2.1
  obtain ⟨g2, ze, f2⟩ := m_airOf h g1l
  have h2 := h.fr f2
  unfold f_X12_gameOf f_X12_gameOf_34 f_X12_gameOf_45 mGain
  simp (disch := omega) only [m_cellBy hq h hp hx, zB, ze, m_cellBy hq h2 ho hy, qi_lit, qi_inj]
  refine ⟨g2, ?_, f2⟩
  by_cases q1 : mGo C (L p) x = mGo C (L o) y
  · by_cases q2 : x = 4
    · rw [if_neg (fun z => z q1), if_neg (fun z => z q2), if_pos q1, if_pos q2]
      simp only [qj_of, qj_sub, qj_add]
      congr 3
    · rw [if_neg (fun z => z q1), if_pos q2, if_pos q1, if_neg q2]
      simp only [qj_of, qj_sub, qj_add]
      congr 3
  · by_cases q2 : x = 4
    · rw [if_pos q1, if_neg (fun z => z q2), if_neg q1, if_pos q2]
      simp only [qj_of, qj_sub, qj_add]
      congr 3
    · rw [if_pos q1, if_pos q2, if_neg q1, if_neg q2]
      simp only [qj_of, qj_sub, qj_add]
      congr 3
def mTwo (n : Nat) (x y : Int32) : Prop := mHas n x ∧ mHas n y ∧ ¬ x = y
theorem x_hasTwo1 {p o : Nat} (h : vCo 3 5 C g) (hC : C.1 ≤ 6) (hp : p < C.1) (ho : o < C.1) (hne : p ≠ o) : f_X0_hasTwo 3 (Int32.ofNat p) (Int32.ofNat o) g = some (1, g) := by
  unfold f_X0_hasTwo
  simp (disch := omega) only [x_hasPerson1 h hC hp, x_hasPerson1 h hC ho, zB, qi_inj, if_neg hne]
  rfl
theorem x_hasTwo0 {x y : Int32} (h : vCo 3 5 C g) (hC : C.1 ≤ 6) (hq : ¬ mTwo C.1 x y) : f_X0_hasTwo 3 x y g = some (0, g) := by
  unfold f_X0_hasTwo
  by_cases q1 : mHas C.1 x
  · by_cases q2 : mHas C.1 y
    · have e : x = y := Classical.byContradiction fun w => hq ⟨q1, q2, w⟩
      obtain ⟨p, hp, rfl⟩ := q1
      obtain ⟨o, ho, rfl⟩ := q2
      simp only [x_hasPerson1 h hC hp, x_hasPerson1 h hC ho, zB, if_pos e]
      rfl
    · obtain ⟨p, hp, rfl⟩ := q1
      simp only [x_hasPerson1 h hC hp, x_hasPerson0 h hC q2, zB]
      rfl
  · simp only [x_hasPerson0 h hC q1, zB]
    rfl
theorem m_areTwo1 {p o : Nat} (h : vMo C g) (hC : C.1 ≤ 6) (hp : p < C.1) (ho : o < C.1) (hne : p ≠ o) : f_X12_areTwo (Int32.ofNat p) (Int32.ofNat o) g = some (1, g) := by
  unfold f_X12_areTwo
  simp (disch := omega) only [m_isPerson1 h hC hp, m_isPerson1 h hC ho, zB, qi_inj, if_neg hne]
  rfl
theorem m_areTwo0 {x y : Int32} (h : vMo C g) (hC : C.1 ≤ 6) (hq : ¬ mTwo C.1 x y) : f_X12_areTwo x y g = some (0, g) := by
  unfold f_X12_areTwo
  by_cases q1 : mHas C.1 x
  · by_cases q2 : mHas C.1 y
    · have e : x = y := Classical.byContradiction fun w => hq ⟨q1, q2, w⟩
      obtain ⟨p, hp, rfl⟩ := q1
      obtain ⟨o, ho, rfl⟩ := q2
      simp only [m_isPerson1 h hC hp, m_isPerson1 h hC ho, zB, if_pos e]
      rfl
    · obtain ⟨p, hp, rfl⟩ := q1
      simp only [m_isPerson1 h hC hp, m_isPerson0 h hC q2, zB]
      rfl
  · simp only [m_isPerson0 h hC q1, zB]
    rfl
theorem d_game (hq : vQ C L) (a b x y w : Int32) : ∃ v, (∀ g, vQX C L lw g → qE SX g (f_X11_game a b x y w g) v) ∧ (∀ g, vQM C L lw g → qE SY g (f_X12_game a b x y w g) v) := by
  have hP := hq.1.1
  have h30 := hq.1.cells
  by_cases q : mTwo C.1 a b
  · obtain ⟨⟨p, hp, rfl⟩, ⟨o, ho, rfl⟩, hne⟩ := q
    have hne' : p ≠ o := fun z => hne (by rw [z])
    by_cases q : mHas 5 x ∧ mHas 5 y ∧ mHas 2 w
    · obtain ⟨⟨x, hx, rfl⟩, ⟨y, hy, rfl⟩, ⟨w, hw, rfl⟩⟩ := q
      refine ⟨Int32.ofInt (if w = 0 then mGain C lw L (L p) (L o) x y else mGain C lw L (L o) (L p) y x), fun g hg => ?_, fun g hg => ?_⟩
      · have hx' := hg.xs hq (by omega)
        unfold f_X11_game
        simp (disch := omega) only [x_hasTwo1 hg.1 hP hp ho hne', zB, qi_lit, qi_inj, qi_lt, qi_le, if_neg (show ¬ x < 0 by omega), if_neg (show ¬ 4 < x by omega), if_neg (show ¬ y < 0 by omega), if_neg (show ¬ 4 < y by omega), if_neg (show ¬ w < 0 by omega), if_pos (show w ≤ 1 by omega), if_true, if_false, not_true_eq_false, not_false_eq_true, ite_true, ite_false, Nat.one_ne_zero, q_get40, hg.2.2.1.1]
        by_cases z : w = 0
        · rw [if_neg (fun t => t z), if_pos z]
          obtain ⟨g2, ze, f2⟩ := x_gain hq hx' (hq.2.1.1.1 p hp) (hq.2.1.1.1 o ho) hx hy
          rw [ze]
          exact ⟨g2, rfl, f2.mono fun a k w => SX_W w⟩
        · rw [if_pos z, if_neg z]
          obtain ⟨g2, ze, f2⟩ := x_gain hq hx' (hq.2.1.1.1 o ho) (hq.2.1.1.1 p hp) hy hx
          rw [ze]
          exact ⟨g2, rfl, f2.mono fun a k w => SX_W w⟩
      · have hm := hg.ms hq (by omega)
        unfold f_X12_game
        simp only [m_areTwo1 hg.1 hP hp ho hne', m_in1 (hi := 4) (n := 5) rfl hx (by omega), m_in1 (hi := 4) (n := 5) rfl hy (by omega), m_in1 (hi := 1) (n := 2) rfl hw (by omega), zB]
        simp (disch := omega) only [qi_lit, qi_inj, if_true, if_false, not_true_eq_false, not_false_eq_true, ite_true, ite_false, Nat.one_ne_zero]
        by_cases z : w = 0
        · rw [if_neg (fun t => t z), if_pos z]
          obtain ⟨g2, ze, f2⟩ := m_gameOf hq hm hp ho hx hy
          rw [ze]
          exact ⟨g2, rfl, f2.mono fun a k w => SY_V w⟩
        · rw [if_pos z, if_neg z]
          obtain ⟨g2, ze, f2⟩ := m_gameOf hq hm ho hp hy hx
          rw [ze]
          exact ⟨g2, rfl, f2.mono fun a k w => SY_V w⟩
    · refine ⟨-1000000, fun g hg => ?_, fun g hg => ?_⟩
      · unfold f_X11_game f_X11_game_43
        simp only [x_hasTwo1 hg.1 hP hp ho hne', zB]
        rw [if_neg (by decide)]
        by_cases z1 : x < 0
        · rw [if_pos z1]; exact qE_r
        rw [if_neg z1]
        by_cases z2 : 4 < x
        · rw [if_pos z2]; exact qE_r
        rw [if_neg z2]
        by_cases z3 : y < 0
        · rw [if_pos z3]; exact qE_r
        rw [if_neg z3]
        by_cases z4 : 4 < y
        · rw [if_pos z4]; exact qE_r
        rw [if_neg z4]
        by_cases z5 : w < 0
        · rw [if_pos z5]; exact qE_r
        rw [if_neg z5]
        by_cases z6 : w ≤ 1
        · refine absurd ⟨?_, ?_, ?_⟩ q
          · exact Classical.byContradiction fun t => z2 (q_lt' (n := 4) (by omega) t z1)
          · exact Classical.byContradiction fun t => z4 (q_lt' (n := 4) (by omega) t z3)
          · exact Classical.byContradiction fun t => (q_gt (n := 1) (by omega) t z5) z6
        · rw [if_neg z6]; exact qE_r
      · unfold f_X12_game f_X12_game_38
        simp only [m_areTwo1 hg.1 hP hp ho hne', zB]
        rw [if_neg (by decide)]
        by_cases z1 : mHas 5 x
        · obtain ⟨x, hx, rfl⟩ := z1
          rw [m_in1 (hi := 4) (n := 5) rfl hx (by omega)]
          dsimp only
          rw [if_neg (by decide)]
          by_cases z2 : mHas 5 y
          · obtain ⟨y, hy, rfl⟩ := z2
            rw [m_in1 (hi := 4) (n := 5) rfl hy (by omega)]
            dsimp only
            rw [if_neg (by decide), m_in0 (hi := 1) (n := 2) rfl (fun t => q ⟨⟨x, hx, rfl⟩, ⟨y, hy, rfl⟩, t⟩) (by omega)]
            exact qE_r
          · rw [m_in0 (hi := 4) (n := 5) rfl z2 (by omega)]
            exact qE_r
        · rw [m_in0 (hi := 4) (n := 5) rfl z1 (by omega)]
          exact qE_r
  · refine ⟨-1000000, fun g hg => ?_, fun g hg => ?_⟩
    · unfold f_X11_game
      rw [x_hasTwo0 hg.1 hP q]
      exact qE_r
    · unfold f_X12_game
      rw [m_areTwo0 hg.1 hP q]
      exact qE_r
/-- the i-th of those that are so -/
def mSc (P : Nat → Bool) (i : Int32) : Nat → Option Nat
  | 0 => none
  | k + 1 => match mSc P i k with
    | some j => some j
    | none => if P k = true ∧ Int32.ofNat (mCnt P k) = i then some k else none
theorem mSc_mono {P : Nat → Bool} {i : Int32} {k j n : Nat} (h : mSc P i k = some j) (hn : k ≤ n) : mSc P i n = some j := by
  induction n with
  | zero => rw [show k = 0 by omega] at h; exact h
  | succ n ih =>
    by_cases q : k = n + 1
    · rw [← q]; exact h
    · unfold mSc
      rw [ih (by omega)]
theorem mSc_no {P : Nat → Bool} {i : Int32} {k : Nat} (h : mSc P i k = none) (hp : ¬ (P k = true ∧ Int32.ofNat (mCnt P k) = i)) : mSc P i (k + 1) = none := by
  unfold mSc
  rw [h]
  exact if_neg hp
theorem mSc_yes {P : Nat → Bool} {i : Int32} {k n : Nat} (h : mSc P i k = none) (hp : P k = true ∧ Int32.ofNat (mCnt P k) = i) (hn : k < n) : mSc P i n = some k := by
  refine mSc_mono (k := k + 1) ?_ hn
  unfold mSc
  rw [h]
  exact if_pos hp
def mScR (P : Nat → Bool) (i : Int32) (n : Nat) (f : Nat → Int32) : Int32 := match mSc P i n with
  | some k => f k
  | none => if i = -1 then Int32.ofNat (mCnt P n) else -1
/-- a REST -/
def mRest (C : mC) (lw : mLaw) (L : mL) (p o x y : Nat) : Bool := (List.range 5).all fun k => !decide (mGain C lw L (L p) (L o) x y < mGain C lw L (L p) (L o) k y) && !decide (mGain C lw L (L o) (L p) y x < mGain C lw L (L o) (L p) k x)
def mRestN (C : mC) (lw : mLaw) (L : mL) (p o x y : Nat) : Nat → Bool
  | 0 => true
  | k + 1 => mRestN C lw L p o x y k && (!decide (mGain C lw L (L p) (L o) x y < mGain C lw L (L p) (L o) k y) && !decide (mGain C lw L (L o) (L p) y x < mGain C lw L (L o) (L p) k x))
theorem mRestN_f {p o x y k n : Nat} (h : mRestN C lw L p o x y k = false) (hn : k ≤ n) : mRestN C lw L p o x y n = false := by
  induction n with
  | zero => rw [show k = 0 by omega] at h; exact h
  | succ n ih =>
    by_cases q : k = n + 1
    · rw [← q]; exact h
    · unfold mRestN
      rw [ih (by omega)]
      rfl
theorem m_isRest {p o x y : Nat} (hq : vQ C L) (h : vMs 999 C lw L g) (hp : p < C.1) (ho : o < C.1) (hx : x < 5) (hy : y < 5) : qE sV g (f_X12_isRest (Int32.ofNat p) (Int32.ofNat o) (Int32.ofNat x) (Int32.ofNat y) g) (mB (mRestN C lw L p o x y 5)) := by
  have hS := hq.1.2.1
  have bd := fun (l lo a b : Nat) => mGain_b (C := C) (lw := lw) (L := L) (l := l) (lo := lo) (ch := a) (cho := b) hS
  refine q_loop (F := fun n k g => f_X12_isRest_3 n (Int32.ofNat p) (Int32.ofNat o) (Int32.ofNat x) (Int32.ofNat y) (Int32.ofNat k) g) (N := 5) (Inv := fun k g' => vMs 999 C lw L g' ∧ qF sV g g' ∧ mRestN C lw L p o x y k = true) (R := fun r => qE sV g r (mB (mRestN C lw L p o x y 5))) (by omega) ?_ ?_ (Nat.zero_le _) ⟨h, qF.rfl', rfl⟩
  · intro n g' ⟨h', ff, ht⟩
    show qE sV g (fb_X12_isRest_3 _ _ _ _ _ _ _) _
    unfold fb_X12_isRest_3
    simp (disch := omega) only [qi_lit, qi_lt, if_pos (show 4 < 5 by omega)]
    rw [ht]
    exact ⟨g', rfl, ff⟩
  · intro n k g' hk ⟨h', ff, ht⟩ ih
    have hst : mRestN C lw L p o x y (k + 1) = (mRestN C lw L p o x y k && (!decide (mGain C lw L (L p) (L o) x y < mGain C lw L (L p) (L o) k y) && !decide (mGain C lw L (L o) (L p) y x < mGain C lw L (L o) (L p) k x))) := rfl
    obtain ⟨g1, ze1, f1⟩ := m_gameOf hq h' hp ho hk hy
    have h1 := h'.fr f1
    obtain ⟨g2, ze2, f2⟩ := m_gameOf hq h1 hp ho hx hy
    have h2 := h1.fr f2
    obtain ⟨g3, ze3, f3⟩ := m_gameOf hq h2 ho hp hk hx
    have h3 := h2.fr f3
    obtain ⟨g4, ze4, f4⟩ := m_gameOf hq h3 ho hp hy hx
    have h4 := h3.fr f4
    have b1 := bd (L p) (L o) k y
    have b2 := bd (L p) (L o) x y
    have b3 := bd (L o) (L p) k x
    have b4 := bd (L o) (L p) y x
    show qE sV g (fb_X12_isRest_3 _ _ _ _ _ _ _) _
    unfold fb_X12_isRest_3
    simp (disch := omega) only [qi_lit, qi_lt, if_neg (show ¬ 4 < k by omega), ze1, ze2, ze3, ze4, zB, qj_lt, qj_le, qi_add]
    by_cases q1 : mGain C lw L (L p) (L o) x y < mGain C lw L (L p) (L o) k y
    · rw [if_pos q1, mRestN_f (k := k + 1) (by rw [hst, decide_eq_true q1]; simp) (by omega)]
      exact ⟨g2, rfl, (ff.tr f1).tr f2⟩
    · rw [if_neg q1]
      by_cases q2 : mGain C lw L (L o) (L p) k x ≤ mGain C lw L (L o) (L p) y x
      · rw [if_pos q2]
        exact ih g4 ⟨h4, (((ff.tr f1).tr f2).tr f3).tr f4, by rw [hst, ht, decide_eq_false q1, decide_eq_false (by omega)]; rfl⟩
      · rw [if_neg q2, mRestN_f (k := k + 1) (by rw [hst, decide_eq_true (show mGain C lw L (L o) (L p) y x < mGain C lw L (L o) (L p) k x by omega)]; simp) (by omega)]
        exact ⟨g4, rfl, (((ff.tr f1).tr f2).tr f3).tr f4⟩
theorem m_rests_l {p o : Nat} {i : Int32} (hq : vQ C L) (h : vMs 999 C lw L g) (hp : p < C.1) (ho : o < C.1) : qE sV g (f_X12_rests_22 zFu (Int32.ofNat p) (Int32.ofNat o) i (Int32.ofNat 0) (Int32.ofNat 0) g) (mScR (fun k => mRestN C lw L p o (k / 5) (k % 5) 5) i 25 (fun k => Int32.ofNat (10 * (k / 5) + k % 5))) := by
  obtain ⟨P, hPd⟩ : ∃ P, P = fun k => mRestN C lw L p o (k / 5) (k % 5) 5 := ⟨_, rfl⟩
  rw [← hPd]
  refine q_loop (F := fun n x g => f_X12_rests_22 n (Int32.ofNat p) (Int32.ofNat o) i (Int32.ofNat (mCnt P (5 * x))) (Int32.ofNat x) g) (N := 5) (Inv := fun x g' => vMs 999 C lw L g' ∧ qF sV g g' ∧ mSc P i (5 * x) = none) (R := fun r => qE sV g r (mScR P i 25 (fun k => Int32.ofNat (10 * (k / 5) + k % 5)))) (by omega) ?_ ?_ (Nat.zero_le _) ⟨h, qF.rfl', rfl⟩
  · intro n g' ⟨h', ff, ht⟩
    show qE sV g (fb_X12_rests_22 _ _ _ _ _ _ _) _
    unfold fb_X12_rests_22 f_X12_rests_80 mScR
    simp (disch := omega) only [qi_lit, qi_lt, if_pos (show 4 < 5 by omega)]
    rw [show mSc P i 25 = none from ht]
    refine ⟨g', ?_, ff⟩
    by_cases q : i = - Int32.ofNat 1
    · rw [if_neg (fun w => w q)]
      simp only []
      rw [if_pos q]
    · rw [if_pos q]
      simp only []
      rw [if_neg q]
  · intro n x g' hx ⟨h', ff, ht⟩ ih
    show qE sV g (fb_X12_rests_22 _ _ _ _ _ _ _) _
    unfold fb_X12_rests_22
    simp (disch := omega) only [qi_lit, qi_lt, if_neg (show ¬ 4 < x by omega)]
    refine q_loop (F := fun m y g => f_X12_rests_31 (f_X12_rests_22 n) m (Int32.ofNat p) (Int32.ofNat o) i (Int32.ofNat (mCnt P (5 * x + y))) (Int32.ofNat x) (Int32.ofNat y) g) (N := 5) (Inv := fun y g2 => vMs 999 C lw L g2 ∧ qF sV g g2 ∧ mSc P i (5 * x + y) = none) (R := fun r => qE sV g r (mScR P i 25 (fun k => Int32.ofNat (10 * (k / 5) + k % 5)))) (by omega) ?_ ?_ (Nat.zero_le _) ⟨h', ff, ht⟩
    · intro m g2 ⟨h2, f2, ht2⟩
      show qE sV g (fb_X12_rests_31 _ _ _ _ _ _ _ _ _) _
      unfold fb_X12_rests_31 f_X12_rests_74
      simp (disch := omega) only [qi_lit, qi_lt, if_pos (show 4 < 5 by omega), qi_add]
      exact ih g2 ⟨h2, f2, ht2⟩
    · intro m y g2 hy ⟨h2, f2, ht2⟩ ih2
      obtain ⟨g3, ze, f3⟩ := m_isRest hq h2 hp ho hx hy
      have eP : P (5 * x + y) = mRestN C lw L p o x y 5 := by
        rw [hPd]
        show mRestN C lw L p o ((5 * x + y) / 5) ((5 * x + y) % 5) 5 = _
        rw [show (5 * x + y) / 5 = x by omega, show (5 * x + y) % 5 = y by omega]
      have hc := @mCnt_le P (5 * x + y)
      have hcs : mCnt P (5 * x + (y + 1)) = mCnt P (5 * x + y) + (if P (5 * x + y) then 1 else 0) := rfl
      have := fun t => ih2 g3 ⟨h2.fr f3, f2.tr f3, t⟩
      rw [hcs, eP] at this
      show qE sV g (fb_X12_rests_31 _ _ _ _ _ _ _ _ _) _
      unfold fb_X12_rests_31 f_X12_rests_68 f_X12_rests_56
      simp (disch := omega) only [qi_lit, qi_lt, if_neg (show ¬ 4 < y by omega), ze, zB, mB_0, qi_add, qi_mul]
      cases hb : mRestN C lw L p o x y 5
      · rw [if_pos rfl]
        rw [hb] at this
        exact this (mSc_no (k := 5 * x + y) ht2 (fun w => by rw [eP, hb] at w; exact Bool.noConfusion w.1))
      · rw [if_neg (by decide)]
        rw [hb] at this
        by_cases q : Int32.ofNat (mCnt P (5 * x + y)) = i
        · rw [if_neg (fun w => w q)]
          unfold mScR
          rw [mSc_yes ht2 ⟨by rw [eP, hb], q⟩ (show 5 * x + y < 25 by omega)]
          refine ⟨g3, ?_, f2.tr f3⟩
          simp only []
          rw [show (5 * x + y) / 5 = x by omega, show (5 * x + y) % 5 = y by omega]
        · rw [if_pos q]
          exact this (mSc_no (k := 5 * x + y) ht2 (fun w => q w.2))
/-- the class's table of what each has -/
def vGa (C : mC) (lw : mLaw) (L : mL) (p o n : Nat) (g : zSg) : Prop := ∀ k, k < n → g.2.1 523 k = Int32.ofInt (mGain C lw L (L p) (L o) (k / 5) (k % 5)) ∧ g.2.1 525 k = Int32.ofInt (mGain C lw L (L o) (L p) (k % 5) (k / 5))
theorem x_isRest {p o x y : Nat} (hS : C.2.1 ≤ 6) (h : vGa C lw L p o 25 g) (hx : x < 5) (hy : y < 5) : f_X2_isRest (Int32.ofNat x) (Int32.ofNat y) g = some (mB (mRestN C lw L p o x y 5), g) := by
  have bd := fun (l lo a b : Nat) => mGain_b (C := C) (lw := lw) (L := L) (l := l) (lo := lo) (ch := a) (cho := b) hS
  have G1 : ∀ a b, a < 5 → b < 5 → g.2.1 523 (a * 5 + b) = Int32.ofInt (mGain C lw L (L p) (L o) a b) := fun a b ha hb => by
    have := (h (a * 5 + b) (by omega)).1
    rwa [show (a * 5 + b) / 5 = a by omega, show (a * 5 + b) % 5 = b by omega] at this
  have G2 : ∀ a b, a < 5 → b < 5 → g.2.1 525 (a * 5 + b) = Int32.ofInt (mGain C lw L (L o) (L p) b a) := fun a b ha hb => by
    have := (h (a * 5 + b) (by omega)).2
    rwa [show (a * 5 + b) / 5 = a by omega, show (a * 5 + b) % 5 = b by omega] at this
  unfold f_X2_isRest
  simp (disch := omega) only [qi_lit, qi_mul, qi_add, q_get522, q_get524, zB, G1 x y hx hy, G2 x y hx hy]
  refine q_loop (F := fun n k g => f_X2_isRest_30 n (Int32.ofNat x) (Int32.ofNat y) (Int32.ofInt (mGain C lw L (L p) (L o) x y)) (Int32.ofInt (mGain C lw L (L o) (L p) y x)) (Int32.ofNat k) g) (N := 5) (Inv := fun k g' => g' = g ∧ mRestN C lw L p o x y k = true) (R := fun r => r = some (mB (mRestN C lw L p o x y 5), g)) (by omega) ?_ ?_ (Nat.zero_le _) ⟨rfl, rfl⟩
  · intro n g' ⟨e, ht⟩
    subst e
    show fb_X2_isRest_30 _ _ _ _ _ _ _ = _
    unfold fb_X2_isRest_30
    simp (disch := omega) only [qi_lit, qi_le, if_pos (Nat.le_refl 5)]
    rw [ht]
    rfl
  · intro n k g' hk ⟨e, ht⟩ ih
    subst e
    have hst : mRestN C lw L p o x y (k + 1) = (mRestN C lw L p o x y k && (!decide (mGain C lw L (L p) (L o) x y < mGain C lw L (L p) (L o) k y) && !decide (mGain C lw L (L o) (L p) y x < mGain C lw L (L o) (L p) k x))) := rfl
    have b1 := bd (L p) (L o) k y
    have b2 := bd (L p) (L o) x y
    have b3 := bd (L o) (L p) k x
    have b4 := bd (L o) (L p) y x
    show fb_X2_isRest_30 _ _ _ _ _ _ _ = _
    unfold fb_X2_isRest_30
    simp (disch := omega) only [qi_lit, qi_le, if_neg (show ¬ 5 ≤ k by omega), qi_mul, qi_add, q_get522, q_get524, zB, G1 k y hk hy, G2 x k hx hk, qj_lt, qj_le]
    by_cases q1 : mGain C lw L (L p) (L o) x y < mGain C lw L (L p) (L o) k y
    · rw [if_pos q1, mRestN_f (k := k + 1) (by rw [hst, decide_eq_true q1]; simp) (by omega)]
      rfl
    · rw [if_neg q1]
      by_cases q2 : mGain C lw L (L o) (L p) k x ≤ mGain C lw L (L o) (L p) y x
      · rw [if_pos q2]
        exact ih g' ⟨rfl, by rw [hst, ht, decide_eq_false q1, decide_eq_false (by omega)]; rfl⟩
      · rw [if_neg q2, mRestN_f (k := k + 1) (by rw [hst, decide_eq_true (show mGain C lw L (L o) (L p) y x < mGain C lw L (L o) (L p) k x by omega)]; simp) (by omega)]
        rfl
theorem x_tabs {p o : Nat} {i : Int32} {R : Option (Int32 × zSg) → Prop} (hq : vQ C L) (h : vXs 999 C lw 39 L g) (hp : p < C.1) (ho : o < C.1) (hk : ∀ g', qF SX g g' → vGa C lw L p o 25 g' → R (f_X2_rest_104 39 i g')) : R (f_X2_rest_23 39 zFu i (Int32.ofNat (L p)) (Int32.ofNat (L o)) (Int32.ofNat 0) g) := by
  have hpl := hq.2.1.1.1 p hp
  have hol := hq.2.1.1.1 o ho
  have frX : ∀ (g1 g2 : zSg), vXs 999 C lw 39 L g1 → qF SX g1 g2 → vXs 999 C lw 39 L g2 := fun g1 g2 h1 f => by
    obtain ⟨q1, q2, q3, q4, q5, q6, q7, q8⟩ := h1
    exact ⟨q1, q2, q3, q4, q5, q6.fr f (fun k => by unfold SX; omega) (fun k => by unfold SX; omega), q7.fr f (fun b k hb => by unfold SX; omega), q8.fr f (fun b k z1 z2 => by unfold SX; omega)⟩
  refine q_loop (F := fun n x g => f_X2_rest_23 39 n i (Int32.ofNat (L p)) (Int32.ofNat (L o)) (Int32.ofNat x) g) (N := 5) (Inv := fun x g' => vXs 999 C lw 39 L g' ∧ qF SX g g' ∧ vGa C lw L p o (5 * x) g') (R := R) (by omega) ?_ ?_ (Nat.zero_le _) ⟨h, qF.rfl', fun k hk => by omega⟩
  · intro n g' ⟨h', ff, ht⟩
    show R (fb_X2_rest_23 39 _ _ _ _ _ _)
    unfold fb_X2_rest_23
    simp (disch := omega) only [qi_lit, qi_le, if_pos (Nat.le_refl 5)]
    exact hk g' ff ht
  · intro n x g' hx ⟨h', ff, ht⟩ ih
    show R (fb_X2_rest_23 39 _ _ _ _ _ _)
    unfold fb_X2_rest_23
    simp (disch := omega) only [qi_lit, qi_le, if_neg (show ¬ 5 ≤ x by omega)]
    refine q_loop (F := fun m y g => f_X2_rest_32 39 (f_X2_rest_23 39 n) m i (Int32.ofNat (L p)) (Int32.ofNat (L o)) (Int32.ofNat x) (Int32.ofNat y) g) (N := 5) (Inv := fun y g2 => vXs 999 C lw 39 L g2 ∧ qF SX g g2 ∧ vGa C lw L p o (5 * x + y) g2) (R := R) (by omega) ?_ ?_ (Nat.zero_le _) ⟨h', ff, ht⟩
    · intro m g2 ⟨h2, f2, ht2⟩
      show R (fb_X2_rest_32 39 _ _ _ _ _ _ _ _)
      unfold fb_X2_rest_32 f_X2_rest_98
      simp (disch := omega) only [qi_lit, qi_le, if_pos (Nat.le_refl 5), qi_add]
      exact ih g2 ⟨h2, f2, ht2⟩
    · intro m y g2 hy ⟨h2, f2, ht2⟩ ih2
      obtain ⟨g3, ze3, f3⟩ := x_gain hq h2 hpl hol hx hy
      have e3 : qF SX g2 (gsI g3 523 (x * 5 + y) (Int32.ofInt (mGain C lw L (L p) (L o) x y))) := (f3.mono fun a k w => SX_W w).sI (by unfold SX; omega)
      have h3 := frX _ _ h2 e3
      obtain ⟨g4, ze4, f4⟩ := x_gain hq h3 hol hpl hy hx
      have e4 : qF SX g2 (gsI g4 525 (x * 5 + y) (Int32.ofInt (mGain C lw L (L o) (L p) y x))) := (e3.tr (f4.mono fun a k w => SX_W w)).sI (by unfold SX; omega)
      show R (fb_X2_rest_32 39 _ _ _ _ _ _ _ _)
      unfold fb_X2_rest_32
      simp (disch := omega) only [qi_lit, qi_le, if_neg (show ¬ 5 ≤ y by omega), ze3, zB, qi_mul, qi_add, q_set522, ze4, q_set524]
      refine ih2 _ ⟨frX _ _ h2 e4, f2.tr e4, fun k hk => ?_⟩
      by_cases q : k = x * 5 + y
      · subst q
        rw [qs_In (by omega), f4.2.1 _ _ (by unfold sW; omega), qs_Ie, qs_Ie, show (x * 5 + y) / 5 = x by omega, show (x * 5 + y) % 5 = y by omega]
        exact ⟨rfl, rfl⟩
      · rw [qs_In (by omega), f4.2.1 _ _ (by unfold sW; omega), qs_In (by omega), f3.2.1 _ _ (by unfold sW; omega), qs_In (by omega), f4.2.1 _ _ (by unfold sW; omega), qs_In (by omega), f3.2.1 _ _ (by unfold sW; omega)]
        exact ht2 k (by omega)
theorem x_rests_l {p o : Nat} {i : Int32} (hS : C.2.1 ≤ 6) (h : vGa C lw L p o 25 g) : f_X2_rest_104 39 i g = some (mScR (fun k => mRestN C lw L p o (k / 5) (k % 5) 5) i 25 (fun k => Int32.ofNat (10 * (k / 5) + k % 5)), g) := by
  obtain ⟨P, hPd⟩ : ∃ P, P = fun k => mRestN C lw L p o (k / 5) (k % 5) 5 := ⟨_, rfl⟩
  rw [← hPd]
  refine q_loop (F := fun n k g => f_X2_rest_110 39 n i (Int32.ofNat (mCnt P k)) (Int32.ofNat k) g) (N := 25) (Inv := fun k g' => g' = g ∧ mSc P i k = none) (R := fun r => r = some (mScR P i 25 (fun k => Int32.ofNat (10 * (k / 5) + k % 5)), g)) (by omega) ?_ ?_ (Nat.zero_le _) ⟨rfl, rfl⟩
  · intro n g' ⟨e, ht⟩
    subst e
    show fb_X2_rest_110 39 _ _ _ _ _ = _
    unfold fb_X2_rest_110 f_X2_rest_164 mScR
    simp (disch := omega) only [qi_lit, qi_le, if_pos (Nat.le_refl 25), ht]
    by_cases q : i = - Int32.ofNat 1
    · rw [if_neg (fun w => w q), if_pos q]
    · rw [if_pos q, if_neg q]
  · intro n k g' hk ⟨e, ht⟩ ih
    subst e
    have eP : P k = mRestN C lw L p o (k / 5) (k % 5) 5 := by rw [hPd]
    have hc := @mCnt_le P k
    have hcs : mCnt P (k + 1) = mCnt P k + (if P k then 1 else 0) := rfl
    have := fun t => ih g' ⟨rfl, t⟩
    rw [hcs, eP] at this
    show fb_X2_rest_110 39 _ _ _ _ _ = _
    unfold fb_X2_rest_110 f_X2_rest_158 f_X2_rest_142
    simp (disch := omega) only [qi_lit, qi_le, if_neg (show ¬ 25 ≤ k by omega), qi_div, qi_imod, x_isRest hS h (show k / 5 < 5 by omega) (show k % 5 < 5 by omega), zB, mB_0, qi_mul, qi_add]
    cases hb : mRestN C lw L p o (k / 5) (k % 5) 5
    · rw [if_neg (fun w => w rfl)]
      rw [hb] at this
      exact this (mSc_no ht (fun w => by rw [eP, hb] at w; exact Bool.noConfusion w.1))
    · rw [if_pos (by decide)]
      rw [hb] at this
      by_cases q : Int32.ofNat (mCnt P k) = i
      · rw [if_neg (fun w => w q)]
        unfold mScR
        rw [mSc_yes ht ⟨by rw [eP, hb], q⟩ hk]
        simp only []
        rw [Nat.mul_comm]
      · rw [if_pos q]
        exact this (mSc_no ht (fun w => q w.2))
theorem d_rests (hq : vQ C L) (a b i : Int32) : ∃ v, (∀ g, vQX C L lw g → qE SX g (f_X11_rests a b i g) v) ∧ (∀ g, vQM C L lw g → qE SY g (f_X12_rests a b i g) v) := by
  have hP := hq.1.1
  have hS := hq.1.2.1
  by_cases q : mTwo C.1 a b
  · obtain ⟨⟨p, hp, rfl⟩, ⟨o, ho, rfl⟩, hne⟩ := q
    have hne' : p ≠ o := fun z => hne (by rw [z])
    refine ⟨mScR (fun k => mRestN C lw L p o (k / 5) (k % 5) 5) i 25 (fun k => Int32.ofNat (10 * (k / 5) + k % 5)), fun g hg => ?_, fun g hg => ?_⟩
    · unfold f_X11_rests f_X2_rest
      simp (disch := omega) only [x_hasTwo1 hg.1 hP hp ho hne', zB, q_gS1 (show (zK0 39).1 = 8 from rfl), hg.2.2.1.1]
      rw [if_neg (by decide)]
      have key : qE SX g (f_X2_rest_23 39 zFu i (Int32.ofNat (L p)) (Int32.ofNat (L o)) (Int32.ofNat 0) g) (mScR (fun k => mRestN C lw L p o (k / 5) (k % 5) 5) i 25 (fun k => Int32.ofNat (10 * (k / 5) + k % 5))) :=
        x_tabs (R := fun r => qE SX g r _) hq (hg.xs hq (by omega)) hp ho (fun g' f h => ⟨g', x_rests_l hS h, f⟩)
      obtain ⟨g2, ze, f2⟩ := key
      rw [show (0 : Int32) = Int32.ofNat 0 from rfl, ze]
      exact ⟨g2, rfl, f2⟩
    · unfold f_X12_rests
      simp only [m_areTwo1 hg.1 hP hp ho hne', zB]
      rw [if_neg (by decide)]
      by_cases z : -1 ≤ i
      · rw [if_pos z]
        exact qE_m (m_rests_l hq (hg.ms hq (by omega)) hp ho) fun a k w => SY_V w
      · rw [if_neg z]
        have hno : ∀ (P : Nat → Bool) k, k ≤ 25 → mSc P i k = none := fun P k hk => by
          induction k with
          | zero => rfl
          | succ k ih =>
            refine mSc_no (ih (by omega)) (fun w => z ?_)
            rw [← w.2]
            have := @mCnt_le P k
            show - Int32.ofNat 1 ≤ Int32.ofNat (mCnt P k)
            rw [qi_neg, qj_of, qj_le (by omega) (by omega) (by omega) (by omega)]
            omega
        unfold mScR
        rw [hno _ 25 (Nat.le_refl _)]
        simp only []
        rw [if_neg (fun w => z (by rw [w]; decide))]
        exact qE_r
  · refine ⟨-1, fun g hg => ?_, fun g hg => ?_⟩
    · unfold f_X11_rests
      rw [x_hasTwo0 hg.1 hP q]
      exact qE_r
    · unfold f_X12_rests
      rw [m_areTwo0 hg.1 hP q]
      exact qE_r
end Q6
