/-! ===== both sides: HEAVIES, ASK, NOTED whole ===== -/
section Q9
variable {C : mC} {L : mL} {lw : mLaw} {N : mNt}
theorem q_tx {g : zSg} (hq : vQ C L) (hp : 0 < C.1) (h : vQX C L lw g) (hn : vNtX C N g) : vTX C lw N g := ⟨hq.1, hp, h.1, h.2.1, hn⟩
theorem q_tm {g : zSg} (hq : vQ C L) (hp : 0 < C.1) (h : vQM C L lw g) (hn : vNtM N g) : vTM C lw L N g := ⟨h.ms hq hp, hn⟩
theorem mSc_neg {P : Nat → Bool} {i : Int32} (hz : ¬ -1 ≤ i) {k : Nat} (hk : k ≤ 100) : mSc P i k = none := by
  induction k with
  | zero => rfl
  | succ k ih =>
    refine mSc_no (ih (by omega)) (fun w => hz ?_)
    rw [← w.2]
    have := @mCnt_le P k
    show - Int32.ofNat 1 ≤ Int32.ofNat (mCnt P k)
    rw [qi_neg, qj_of, qj_le (by omega) (by omega) (by omega) (by omega)]
    omega
theorem m_heavies {c : Nat} {i : Int32} {g : zSg} (hq : vQ C L) (hN : mNtOk C N) (h : vTM C lw L N g) (hc : c < C.2.1) : qE sV g (f_X12_heavies (Int32.ofNat c) i g) (mScR (mP C lw N c) i 10 (fun k => Int32.ofNat k)) := by
  unfold f_X12_heavies
  simp only [m_isSecret1 h.1.2.2.2.2.1 hq.1.2.1 hc, zB]
  rw [if_neg (by decide)]
  by_cases z : -1 ≤ i
  · rw [if_pos z]
    exact m_heavies_l hN h hc
  · rw [if_neg z]
    unfold mScR
    rw [mSc_neg z (by omega)]
    simp only []
    rw [if_neg (fun w => z (by rw [w]; decide))]
    exact qE_r
theorem d_heavies (hq : vQ C L) (hN : mNtOk C N) (x i : Int32) : ∃ v, (∀ g, vQX C L lw g → vNtX C N g → qE SX g (f_X11_heavies x i g) v) ∧ (∀ g, vQM C L lw g → vNtM N g → qE SY g (f_X12_heavies x i g) v) := by
  have hS := hq.1.2.1
  by_cases q : mHas C.2.1 x
  · obtain ⟨c, hc, rfl⟩ := q
    refine ⟨mScR (mP C lw N c) i 10 (fun k => Int32.ofNat k), fun g hg hn => ?_, fun g hg hn => ?_⟩
    · unfold f_X11_heavies
      obtain ⟨g2, ze, f2⟩ := x_fitHeavy (i := i) hN (q_tx hq (hq.pos hc) hg hn) hc
      simp only [x_hasSecret1 hg.1 hS hc, zB, ze]
      exact ⟨g2, rfl, f2.mono fun a k w => SX_W w⟩
    · exact qE_m (m_heavies hq hN (q_tm hq (hq.pos hc) hg hn) hc) fun a k w => SY_V w
  · refine ⟨-1, fun g hg _ => ?_, fun g hg _ => ?_⟩
    · unfold f_X11_heavies
      rw [x_hasSecret0 hg.1 hS q]
      exact qE_r
    · unfold f_X12_heavies
      rw [m_isSecret0 hg.1 hS q]
      exact qE_r
theorem mCnt_0 {f : Nat → Bool} {n : Nat} (h : ∀ t, t < n → f t = false) : mCnt f n = 0 := by
  induction n with
  | zero => rfl
  | succ n ih =>
    unfold mCnt
    rw [ih (fun t ht => h t (by omega)), h n (by omega)]
    rfl
theorem mCnt_pos {f : Nat → Bool} {n t : Nat} (ht : t < n) (h : f t = true) : 1 ≤ mCnt f n := by
  induction n with
  | zero => omega
  | succ n ih =>
    unfold mCnt
    by_cases q : t = n
    · subst q; rw [h, if_pos rfl]; omega
    · have := ih (by omega); omega
theorem mSc_none {P : Nat → Bool} {n : Nat} (hn : n ≤ 100) (h : mSc P (Int32.ofNat 0) n = none) : mCnt P n = 0 := by
  induction n with
  | zero => rfl
  | succ n ih =>
    unfold mSc at h
    split at h
    · cases h
    · rename_i hno
      have h0 := ih (by omega) hno
      split at h
      · cases h
      · rename_i hne
        unfold mCnt
        rw [h0]
        cases hb : P n
        · rfl
        · exact absurd ⟨hb, by rw [h0]⟩ hne
theorem mBits_0 {f : Nat → Bool} {n : Nat} : mBits f n = 0 ↔ mCnt f n = 0 := by
  refine ⟨fun h => mCnt_0 fun t ht => ?_, fun h => Classical.byContradiction fun w => ?_⟩
  · have : (mBits f n).testBit t = f t := by rw [mBits_tb, decide_eq_true ht, Bool.true_and]
    rw [h, Nat.zero_testBit] at this
    exact this.symm
  · obtain ⟨c, hc⟩ := q_ne0.mp w
    rw [mBits_tb, Bool.and_eq_true, decide_eq_true_eq] at hc
    have := mCnt_pos hc.1 hc.2
    omega
theorem d_ask (hq : vQ C L) (hN : mNtOk C N) (x : Int32) : ∃ v, (∀ g, vQX C L lw g → vNtX C N g → qE SX g (f_X11_ask x g) v) ∧ (∀ g, vQM C L lw g → vNtM N g → qE SY g (f_X12_ask x g) v) := by
  have hS := hq.1.2.1
  by_cases q : mHas C.2.1 x
  · obtain ⟨c, hc, rfl⟩ := q
    by_cases z : mCnt (mP C lw N c) 10 = 0
    · refine ⟨-1, fun g hg hn => ?_, fun g hg hn => ?_⟩
      · obtain ⟨g2, ze, f2⟩ := x_fitting hN (q_tx hq (hq.pos hc) hg hn) hc
        unfold f_X11_ask f_X2_cellToAsk
        rw [mBits_0.mpr z] at ze
        simp only [x_hasSecret1 hg.1 hS hc, zB, ze]
        exact ⟨g2, rfl, f2.mono fun a k w => SX_W w⟩
      · obtain ⟨g2, ze, f2⟩ := m_heavies (i := Int32.ofNat 0) hq hN (q_tm hq (hq.pos hc) hg hn) hc
        have hno : ∀ k, k ≤ 10 → mSc (mP C lw N c) (Int32.ofNat 0) k = none := fun k hk => by
          induction k with
          | zero => rfl
          | succ k ih =>
            refine mSc_no (ih (by omega)) (fun w => ?_)
            have := mCnt_pos (n := 10) (show k < 10 by omega) w.1
            omega
        unfold mScR at ze
        rw [hno 10 (Nat.le_refl _)] at ze
        simp only [] at ze
        rw [if_neg (by decide)] at ze
        unfold f_X12_ask
        simp only [m_isSecret1 hg.1 hS hc, zB]
        rw [if_neg (by decide), show (0 : Int32) = Int32.ofNat 0 from rfl, ze]
        exact ⟨g2, rfl, f2.mono fun a k w => SY_V w⟩
    · refine ⟨mOpt (mAsk C lw N c (mCells C)), fun g hg hn => ?_, fun g hg hn => ?_⟩
      · have ht := q_tx hq (hq.pos hc) hg hn
        obtain ⟨g2, ze, f2⟩ := x_fitting hN ht hc
        obtain ⟨g3, ze3, f3⟩ := x_ask_l hN (ht.fr f2) hc
        have hne : ¬ Int32.ofNat (mBits (mP C lw N c) 10) = 0 := by
          have := @mP_lt C lw N c
          show ¬ Int32.ofNat (mBits (mP C lw N c) 10) = Int32.ofNat 0
          rw [qi_inj (by omega) (by omega), mBits_0]
          exact z
        unfold f_X11_ask f_X2_cellToAsk
        simp only [x_hasSecret1 hg.1 hS hc, zB, ze]
        rw [if_neg (by decide), if_pos hne, show (0 : Int32) = Int32.ofNat 0 from rfl, ze3]
        exact ⟨g3, rfl, (f2.tr f3).mono fun a k w => SX_W w⟩
      · have ht := q_tm hq (hq.pos hc) hg hn
        obtain ⟨g2, ze, f2⟩ := m_heavies (i := Int32.ofNat 0) hq hN ht hc
        obtain ⟨g3, ze3, f3⟩ := m_ask_l hN (ht.fr f2) hc
        have hne : ¬ mScR (mP C lw N c) (Int32.ofNat 0) 10 (fun k => Int32.ofNat k) = -1 := by
          unfold mScR
          cases hs : mSc (mP C lw N c) (Int32.ofNat 0) 10 with
          | none => exact absurd (mSc_none (by omega) hs) z
          | some k =>
            have hk : k < 10 := by
              have : ∀ n, mSc (mP C lw N c) (Int32.ofNat 0) n = some k → k < n := fun n => by
                induction n with
                | zero => intro h; cases h
                | succ n ih =>
                  intro h
                  unfold mSc at h
                  split at h
                  · rename_i j hj
                    cases h
                    have := ih hj
                    omega
                  · split at h
                    · cases h; omega
                    · cases h
              exact this 10 hs
            show ¬ Int32.ofNat k = - Int32.ofNat 1
            rw [qi_ne1 (by omega) (by omega) (by omega)]
            exact fun w => w
        unfold f_X12_ask
        simp only [m_isSecret1 hg.1 hS hc, zB]
        rw [if_neg (by decide), show (0 : Int32) = Int32.ofNat 0 from rfl, ze]
        simp only []
        rw [if_pos hne, ze3]
        exact ⟨g3, rfl, (f2.tr f3).mono fun a k w => SY_V w⟩
  · refine ⟨-1, fun g hg _ => ?_, fun g hg _ => ?_⟩
    · unfold f_X11_ask
      rw [x_hasSecret0 hg.1 hS q]
      exact qE_r
    · unfold f_X12_ask
      rw [m_isSecret0 hg.1 hS q]
      exact qE_r
def mNtAdd (N : mNt) (c l : Nat) (b : Bool) : mNt := (N.1 + 1, (fun i => if i = N.1 then c else N.2.1 i), (fun i => if i = N.1 then l else N.2.2.1 i), (fun i => if i = N.1 then b else N.2.2.2 i))
def SnX (a k : Nat) : Prop := (a = 506 ∧ k = 8) ∨ a = 517 ∨ a = 519 ∨ a = 521
def SnY (a k : Nat) : Prop := (a = 526 ∧ k = 43) ∨ a = 549 ∨ a = 550 ∨ a = 551
theorem d_noted (hq : vQ C L) (hN : mNtOk C N) (x y : Int32) (b : Bool) : ∃ v N', mNtOk C N' ∧ (∀ g, vQX C L lw g → vNtX C N g → ∃ g', f_X11_noted x y (mB b) g = some (v, g') ∧ vNtX C N' g' ∧ qF SnX g g') ∧ (∀ g, vQM C L lw g → vNtM N g → ∃ g', f_X12_noted x y (mB b) g = some (v, g') ∧ vNtM N' g' ∧ qF SnY g g') := by
  have hS := hq.1.2.1
  have h30 := hq.1.cells
  have h10 := hN.1
  by_cases q : mHas C.2.1 x
  · obtain ⟨c, hc, rfl⟩ := q
    by_cases q : mHas (mCells C) y
    · obtain ⟨l, hl, rfl⟩ := q
      by_cases q : N.1 = 10
      · refine ⟨-1, N, hN, fun g hg hn => ⟨g, ?_, hn, qF.rfl'⟩, fun g hg hn => ⟨g, ?_, hn, qF.rfl'⟩⟩
        · unfold f_X11_noted f_X2_note
          simp only [x_hasSecret1 hg.1 hS hc, x_hasCell1 hg.1 h30 hl, zB]
          rw [if_neg (by decide), if_pos (by decide), show gI g 506 8 = Int32.ofNat 10 from by rw [← q]; exact hn.1]
          rfl
        · unfold f_X12_noted
          simp only [m_isSecret1 hg.1 hS hc, m_isCell1 hg.1 h30 hl, zB]
          rw [if_neg (by decide), if_neg (by decide), if_neg (fun w => w (by rw [show gI g 526 43 = Int32.ofNat 10 from by rw [← q]; exact hn.1]; rfl))]
      · refine ⟨Int32.ofNat (N.1 + 1), mNtAdd N c l b, ⟨by show N.1 + 1 ≤ 10; omega, fun i hi => ?_⟩, fun g hg hn => ?_, fun g hg hn => ?_⟩
        · have hi' : i < N.1 + 1 := hi
          show (if i = N.1 then c else N.2.1 i) < C.2.1 ∧ (if i = N.1 then l else N.2.2.1 i) < mCells C
          by_cases z : i = N.1
          · rw [if_pos z, if_pos z]; exact ⟨hc, hl⟩
          · rw [if_neg z, if_neg z]; exact hN.2 i (by omega)
        · obtain ⟨h1, h2, h3⟩ := hn
          refine ⟨gsI (gsI (gsI (gsI g 517 N.1 (Int32.ofNat c)) 519 N.1 (Int32.ofNat l)) 521 N.1 (mB b)) 506 8 (Int32.ofNat (N.1 + 1)), ?_, ⟨by rw [qs_Ie]; rfl, fun i hi => ?_, ?_⟩, ?_⟩
          · unfold f_X11_noted f_X2_note f_X2_note_52
            simp (disch := omega) only [x_hasSecret1 hg.1 hS hc, x_hasCell1 hg.1 h30 hl, zB, h1, qi_lit, qi_inj, qi_lt, if_pos (show N.1 < 10 by omega), q_set516, q_set518, q_set520, qs_In, qs_Ie, mB_0, qi_add, if_true, if_false, not_true_eq_false, not_false_eq_true, ite_true, ite_false, Nat.one_ne_zero]
            cases b
            · rw [if_pos rfl]; rfl
            · rw [if_neg (by decide)]; rfl
          · have hi' : i < N.1 + 1 := hi
            show _ = Int32.ofNat (if i = N.1 then c else N.2.1 i) ∧ _ = Int32.ofNat (if i = N.1 then l else N.2.2.1 i) ∧ _ = mB (if i = N.1 then b else N.2.2.2 i)
            by_cases z : i = N.1
            · subst z
              rw [if_pos rfl, if_pos rfl, if_pos rfl]
              simp (disch := omega) only [qs_In, qs_Ie]
              exact ⟨trivial, trivial, trivial⟩
            · rw [if_neg z, if_neg z, if_neg z]
              simp (disch := omega) only [qs_In]
              exact h2 i (by omega)
          · exact h3.fr (S := SnX) ((((qF.rfl'.sI (by unfold SnX; omega)).sI (by unfold SnX; omega)).sI (by unfold SnX; omega)).sI (by unfold SnX; omega)) (fun b k q1 q2 => by unfold SnX; omega)
          · exact (((qF.rfl'.sI (by unfold SnX; omega)).sI (by unfold SnX; omega)).sI (by unfold SnX; omega)).sI (by unfold SnX; omega)
        · obtain ⟨h1, h2⟩ := hn
          refine ⟨gsI (gsI (gsI (gsI g 549 N.1 (Int32.ofNat c)) 550 N.1 (Int32.ofNat l)) 551 N.1 (mB b)) 526 43 (Int32.ofNat (N.1 + 1)), ?_, ⟨by rw [qs_Ie]; rfl, fun i hi => ?_⟩, ?_⟩
          · unfold f_X12_noted
            have hb01 : mB b = Int32.ofNat 0 ∨ mB b = Int32.ofNat 1 := by cases b <;> simp [mB] <;> decide
            simp (disch := omega) only [m_isSecret1 hg.1 hS hc, m_isCell1 hg.1 h30 hl, zB, h1, qi_lit, qi_inj, if_pos q, qi_zib, if_true, qi_ix, qs_In, qs_Ie, qi_add, if_true, if_false, not_true_eq_false, not_false_eq_true, ite_true, ite_false, Nat.one_ne_zero, if_pos (And.intro trivial hb01)]
          · have hi' : i < N.1 + 1 := hi
            show _ = Int32.ofNat (if i = N.1 then c else N.2.1 i) ∧ _ = Int32.ofNat (if i = N.1 then l else N.2.2.1 i) ∧ _ = mB (if i = N.1 then b else N.2.2.2 i)
            by_cases z : i = N.1
            · subst z
              rw [if_pos rfl, if_pos rfl, if_pos rfl]
              simp (disch := omega) only [qs_In, qs_Ie]
              exact ⟨trivial, trivial, trivial⟩
            · rw [if_neg z, if_neg z, if_neg z]
              simp (disch := omega) only [qs_In]
              exact h2 i (by omega)
          · exact (((qF.rfl'.sI (by unfold SnY; omega)).sI (by unfold SnY; omega)).sI (by unfold SnY; omega)).sI (by unfold SnY; omega)
    · refine ⟨-1, N, hN, fun g hg hn => ⟨g, ?_, hn, qF.rfl'⟩, fun g hg hn => ⟨g, ?_, hn, qF.rfl'⟩⟩
      · unfold f_X11_noted
        simp only [x_hasSecret1 hg.1 hS hc, x_hasCell0 hg.1 h30 q, zB]
        rfl
      · unfold f_X12_noted
        simp only [m_isSecret1 hg.1 hS hc, m_isCell0 hg.1 h30 q, zB]
        rfl
  · refine ⟨-1, N, hN, fun g hg hn => ⟨g, ?_, hn, qF.rfl'⟩, fun g hg hn => ⟨g, ?_, hn, qF.rfl'⟩⟩
    · unfold f_X11_noted
      rw [x_hasSecret0 hg.1 hS q]
      rfl
    · unfold f_X12_noted
      rw [m_isSecret0 hg.1 hS q]
      rfl
end Q9
