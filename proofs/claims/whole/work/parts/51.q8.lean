/-! ===== both sides: NOTED, HEAVIES, ASK ===== -/
/-- as told -/
def mTold (C : mC) : mL := fun i => if i < 6 then (if i < C.1 then mHome C i else 0) else if i = 50 then C.2.2 4 else if i = 51 then C.2.2 2 else if i = 52 then C.2.2 3 else 0
theorem mTold_lf {C : mC} (hC : mWf C) : mLf 0 C (mTold C) ∧ mLz C (mTold C) := by
  have hP := hC.1
  have hS := hC.2.1
  have h4 : C.2.2 4 < 4 := by
    rcases Nat.eq_zero_or_pos C.1 with q | q
    · rw [(hC.2.2.2.2.2.1 q).2.2 4 (by omega)]; omega
    · exact (hC.2.2.2.2.2.2 q).2.2.2.2.1
  have h2 := hC.2.2.2.2.1 2 (by omega)
  have h3 := hC.2.2.2.2.1 3 (by omega)
  have z : ∀ i, 6 ≤ i → i ≠ 50 → i ≠ 51 → i ≠ 52 → mTold C i = 0 := fun i q1 q2 q3 q4 => by
    unfold mTold
    rw [if_neg (by omega), if_neg q2, if_neg q3, if_neg q4]
  have e50 : mTold C 50 = C.2.2 4 := rfl
  have e51 : mTold C 51 = C.2.2 2 := rfl
  have e52 : mTold C 52 = C.2.2 3 := rfl
  refine ⟨⟨⟨fun p hp => ?_, fun i q1 q2 => by rw [z i q1 (by omega) (by omega) (by omega)]; omega, fun c hc => by rw [z _ (by omega) (by omega) (by omega) (by omega)]; omega, by rw [z 48 (by omega) (by omega) (by omega) (by omega)]; omega, by rw [z 49 (by omega) (by omega) (by omega) (by omega)]; omega, by rw [e50]; exact h4, by rw [e51]; omega, by rw [e52]; omega, by rw [z 53 (by omega) (by omega) (by omega) (by omega)]; omega⟩, fun c hc hc2 => ?_, fun c hc => ?_⟩, fun p c hp hc _ => z _ (by omega) (by omega) (by omega) (by omega)⟩
  · unfold mTold
    rw [if_pos (by omega), if_pos hp]
    exact hC.home hp
  · rw [z 49 (by omega) (by omega) (by omega) (by omega), z 48 (by omega) (by omega) (by omega) (by omega), z (42 + c) (by omega) (by omega) (by omega) (by omega)]
    simp
  · rw [z 49 (by omega) (by omega) (by omega) (by omega), z 48 (by omega) (by omega) (by omega) (by omega), z (42 + c) (by omega) (by omega) (by omega) (by omega)]
    have := hC.hvy hc
    simp
    omega
/-- NOTED: how many, SECRETS, CELLS, whether -/
abbrev mNt : Type := Nat × (Nat → Nat) × (Nat → Nat) × (Nat → Bool)
def mNtOk (C : mC) (N : mNt) : Prop := N.1 ≤ 10 ∧ ∀ i, i < N.1 → N.2.1 i < C.2.1 ∧ N.2.2.1 i < mCells C
def vNtX (C : mC) (N : mNt) (g : zSg) : Prop := g.2.1 506 8 = Int32.ofNat N.1 ∧ (∀ i, i < N.1 → g.2.1 517 i = Int32.ofNat (N.2.1 i) ∧ g.2.1 519 i = Int32.ofNat (N.2.2.1 i) ∧ g.2.1 521 i = mB (N.2.2.2 i)) ∧ vS8 507 (mTold C) g
def vNtM (N : mNt) (g : zSg) : Prop := g.2.1 526 43 = Int32.ofNat N.1 ∧ ∀ i, i < N.1 → g.2.1 549 i = Int32.ofNat (N.2.1 i) ∧ g.2.1 550 i = Int32.ofNat (N.2.2.1 i) ∧ g.2.1 551 i = mB (N.2.2.2 i)
theorem vNtX.fr {C : mC} {N : mNt} {g g' : zSg} {S : Nat → Nat → Prop} (h : vNtX C N g) (hf : qF S g g') (hS : ∀ b k, 506 ≤ b → b ≤ 521 → ¬ S b k) : vNtX C N g' :=
  ⟨(hf.2.1 _ _ (hS _ _ (by omega) (by omega))).trans h.1, fun i hi => ⟨(hf.2.1 _ _ (hS _ _ (by omega) (by omega))).trans (h.2.1 i hi).1, (hf.2.1 _ _ (hS _ _ (by omega) (by omega))).trans (h.2.1 i hi).2.1, (hf.2.1 _ _ (hS _ _ (by omega) (by omega))).trans (h.2.1 i hi).2.2⟩, h.2.2.fr hf (fun b k q1 q2 => hS b k (by omega) (by omega))⟩
theorem vNtM.fr {N : mNt} {g g' : zSg} {S : Nat → Nat → Prop} (h : vNtM N g) (hf : qF S g g') (h43 : ¬ S 526 43) (hS : ∀ b k, 549 ≤ b → b ≤ 551 → ¬ S b k) : vNtM N g' :=
  ⟨(hf.2.1 _ _ h43).trans h.1, fun i hi => ⟨(hf.2.1 _ _ (hS _ _ (by omega) (by omega))).trans (h.2 i hi).1, (hf.2.1 _ _ (hS _ _ (by omega) (by omega))).trans (h.2 i hi).2.1, (hf.2.1 _ _ (hS _ _ (by omega) (by omega))).trans (h.2 i hi).2.2⟩⟩
section Q8
variable {C : mC} {L : mL} {lw : mLaw} {g : zSg} {N : mNt}
def vTX (C : mC) (lw : mLaw) (N : mNt) (g : zSg) : Prop := mWf C ∧ 0 < C.1 ∧ vCo 3 5 C g ∧ vLx lw g ∧ vNtX C N g
def vTM (C : mC) (lw : mLaw) (L : mL) (N : mNt) (g : zSg) : Prop := vMs 999 C lw L g ∧ vNtM N g
theorem vTX.fr {g' : zSg} (h : vTX C lw N g) (hf : qF sW g g') : vTX C lw N g' :=
  ⟨h.1, h.2.1, h.2.2.1.fr hf (fun k => by unfold sW; omega) (fun k => by unfold sW; omega), h.2.2.2.1.fr hf (fun b k hb => by unfold sW; omega), h.2.2.2.2.fr hf (fun b k q1 q2 => by unfold sW; omega)⟩
theorem vTM.fr {g' : zSg} (h : vTM C lw L N g) (hf : qF sV g g') : vTM C lw L N g' := ⟨h.1.fr hf, h.2.fr hf (by unfold sV; omega) (fun b k q1 q2 => by unfold sV; omega)⟩
def mSm (C : mC) (lw : mLaw) (c l h : Nat) : Bool := decide (0 < mStr C lw c l h (C.2.2 4) 0 0 (C.2.2 2))
theorem x_smells0 {c l hv : Nat} (h : vTX C lw N g) (hc : c < C.2.1) (hl : l < mCells C) (hh : hv < 1000) : qE sW g (f_X2_smellsAsTold (Int32.ofNat c) (Int32.ofNat l) (Int32.ofNat hv) g) (mB (mSm C lw c l hv)) := by
  obtain ⟨h1, h2, h3, h4, h5⟩ := h
  have hS := h1.2.1
  have hx : vXs 0 C lw 507 (mTold C) g := ⟨h1, h2, rfl, by omega, (mTold_lf h1).1.1, h3, h4, h5.2.2⟩
  obtain ⟨g', ze, f⟩ := x_strengthAt hx hc hl hh
  have e42 : mTold C (42 + c) = 0 := by
    unfold mTold
    rw [if_neg (by omega), if_neg (by omega), if_neg (by omega), if_neg (by omega)]
  rw [show mTold C 50 = C.2.2 4 from rfl, e42, show mTold C 53 = 0 from rfl, show mTold C 51 = C.2.2 2 from rfl] at ze
  have h9 := @mStr_le C lw c l hv (C.2.2 4) 0 0 (C.2.2 2)
  unfold f_X2_smellsAsTold mSm
  simp (disch := omega) only [ze, zB, qi_lit, qi_le]
  refine ⟨g', ?_, f⟩
  by_cases q : mStr C lw c l hv (C.2.2 4) 0 0 (C.2.2 2) ≤ 0
  · rw [if_pos q, decide_eq_false (by omega)]; rfl
  · rw [if_neg q, decide_eq_true (by omega)]; rfl
theorem m_smelt {c l hv : Nat} (h : vTM C lw L N g) (hc : c < C.2.1) (hl : l < mCells C) (hh : hv < 1000) : qE sV g (f_X12_smeltTold (Int32.ofNat c) (Int32.ofNat l) (Int32.ofNat hv) g) (mB (mSm C lw c l hv)) := by
  obtain ⟨h1, h2⟩ := h
  have hC := h1.1
  have hS := hC.2.1
  have h4 := (hC.2.2.2.2.2.2 h1.2.1).2.2.2.2.1
  have h22 := hC.2.2.2.2.1 2 (by omega)
  obtain ⟨g', ze, f⟩ := m_strengthBy h1 (c := c) (l := l) (hv := hv) (w := C.2.2 4) (s := 0) (n := 0) (o := C.2.2 2) hc hl hh h4 (by omega) (by omega) (by omega)
  have h9 := @mStr_le C lw c l hv (C.2.2 4) 0 0 (C.2.2 2)
  have e4 : gI g 540 4 = Int32.ofNat (C.2.2 4) := h1.2.2.2.2.1.1 4 (by omega)
  have e2 : gI g 540 2 = Int32.ofNat (C.2.2 2) := h1.2.2.2.2.1.1 2 (by omega)
  unfold f_X12_smeltTold mSm
  rw [e4, e2, show (0 : Int32) = Int32.ofNat 0 from rfl, ze]
  simp (disch := omega) only [zB, qi_lit, qi_le]
  refine ⟨g', ?_, f⟩
  by_cases q : mStr C lw c l hv (C.2.2 4) 0 0 (C.2.2 2) ≤ 0
  · rw [if_pos q, decide_eq_false (by omega)]; rfl
  · rw [if_neg q, decide_eq_true (by omega)]; rfl
def mFit (C : mC) (lw : mLaw) (N : mNt) (c h : Nat) : Nat → Bool
  | 0 => true
  | n + 1 => mFit C lw N c h n && (!decide (N.2.1 n = c) || (mSm C lw c (N.2.2.1 n) h == N.2.2.2 n))
theorem mFit_f {c h k n : Nat} (e : mFit C lw N c h k = false) (hn : k ≤ n) : mFit C lw N c h n = false := by
  induction n with
  | zero => rw [show k = 0 by omega] at e; exact e
  | succ n ih =>
    by_cases q : k = n + 1
    · rw [← q]; exact e
    · unfold mFit
      rw [ih (by omega)]
      rfl
theorem mB_inj {a b : Bool} : (mB a = mB b) = (a = b) := by cases a <;> cases b <;> simp [mB] <;> decide
theorem x_fits {c hv : Nat} (hN : mNtOk C N) (h : vTX C lw N g) (hc : c < C.2.1) (hh : hv < 1000) : qE sW g (f_X2_fits (Int32.ofNat c) (Int32.ofNat hv) g) (mB (mFit C lw N c hv N.1)) := by
  have hS := h.1.2.1
  have hN10 := hN.1
  refine q_loop (F := fun n k g => f_X2_fits_2 n (Int32.ofNat c) (Int32.ofNat hv) (Int32.ofNat k) g) (N := N.1) (Inv := fun k g' => vTX C lw N g' ∧ qF sW g g' ∧ mFit C lw N c hv k = true) (R := fun r => qE sW g r (mB (mFit C lw N c hv N.1))) (by omega) ?_ ?_ (Nat.zero_le _) ⟨h, qF.rfl', rfl⟩
  · intro n g' ⟨h', ff, ht⟩
    show qE sW g (fb_X2_fits_2 _ _ _ _ _) _
    unfold fb_X2_fits_2
    simp (disch := omega) only [h'.2.2.2.2.1, qi_le, if_pos (Nat.le_refl N.1)]
    rw [ht]
    exact ⟨g', rfl, ff⟩
  · intro n k g' hk ⟨h', ff, ht⟩ ih
    obtain ⟨b1, b2⟩ := hN.2 k hk
    have hn := h'.2.2.2.2.2.1 k hk
    have hst : mFit C lw N c hv (k + 1) = (mFit C lw N c hv k && (!decide (N.2.1 k = c) || (mSm C lw c (N.2.2.1 k) hv == N.2.2.2 k))) := rfl
    show qE sW g (fb_X2_fits_2 _ _ _ _ _) _
    unfold fb_X2_fits_2 f_X2_fits_57 f_X2_fits_52 f_X2_fits_57
    simp (disch := omega) only [h'.2.2.2.2.1, qi_le, if_neg (show ¬ N.1 ≤ k by omega), q_get516, q_get518, hn.1, hn.2.1, zB, qi_inj, qi_lit, qi_add]
    by_cases q : N.2.1 k = c
    · rw [if_neg (fun w => w q)]
      obtain ⟨g2, ze, f2⟩ := x_smells0 h' hc (show N.2.2.1 k < mCells C from b2) hh
      have h2 := h'.fr f2
      have hn2 := (h2.2.2.2.2.2.1 k hk).2.2
      rw [ze]
      simp (disch := omega) only [q_get520, hn2, mB_0]
      have key : ∀ r : Bool, (mSm C lw c (N.2.2.1 k) hv == N.2.2.2 k) = r → qE sW g (if mB (mSm C lw c (N.2.2.1 k) hv) = mB (N.2.2.2 k) then f_X2_fits_2 n (Int32.ofNat c) (Int32.ofNat hv) (Int32.ofNat (k + 1)) g2 else some (Int32.ofNat 0, g2)) (mB (mFit C lw N c hv N.1)) := fun r hr => by
        cases r
        · have : ¬ mSm C lw c (N.2.2.1 k) hv = N.2.2.2 k := by simpa using hr
          rw [if_neg (by rw [mB_inj]; exact this), mFit_f (k := k + 1) (by rw [hst, hr, decide_eq_true q]; simp) (by omega)]
          exact ⟨g2, rfl, ff.tr f2⟩
        · have : mSm C lw c (N.2.2.1 k) hv = N.2.2.2 k := by simpa using hr
          rw [if_pos (by rw [this])]
          exact ih g2 ⟨h2, ff.tr f2, by rw [hst, ht, hr]; simp⟩
      have k2 := key _ rfl
      cases hb : N.2.2.2 k
      · rw [hb] at k2
        rw [if_pos rfl]
        simp only [mB_inj] at k2
        exact k2
      · rw [hb] at k2
        rw [if_neg (by decide)]
        exact k2
    · rw [if_pos q]
      exact ih g' ⟨h', ff, by rw [hst, ht, decide_eq_false q]; rfl⟩
theorem m_isHeavy {c hv : Nat} (hN : mNtOk C N) (h : vTM C lw L N g) (hc : c < C.2.1) (hh : hv < 1000) : qE sV g (f_X12_isHeavy (Int32.ofNat c) (Int32.ofNat hv) g) (mB (mFit C lw N c hv N.1)) := by
  have hS := h.1.1.2.1
  have hN10 := hN.1
  refine q_loop (F := fun n k g => f_X12_isHeavy_2 n (Int32.ofNat c) (Int32.ofNat hv) (Int32.ofNat k) g) (N := N.1) (Inv := fun k g' => vTM C lw L N g' ∧ qF sV g g' ∧ mFit C lw N c hv k = true) (R := fun r => qE sV g r (mB (mFit C lw N c hv N.1))) (by omega) ?_ ?_ (Nat.zero_le _) ⟨h, qF.rfl', rfl⟩
  · intro n g' ⟨h', ff, ht⟩
    show qE sV g (fb_X12_isHeavy_2 _ _ _ _ _) _
    unfold fb_X12_isHeavy_2
    simp (disch := omega) only [h'.2.1, qi_le, if_pos (Nat.le_refl N.1)]
    rw [ht]
    exact ⟨g', rfl, ff⟩
  · intro n k g' hk ⟨h', ff, ht⟩ ih
    obtain ⟨b1, b2⟩ := hN.2 k hk
    have hn := h'.2.2 k hk
    have hst : mFit C lw N c hv (k + 1) = (mFit C lw N c hv k && (!decide (N.2.1 k = c) || (mSm C lw c (N.2.2.1 k) hv == N.2.2.2 k))) := rfl
    show qE sV g (fb_X12_isHeavy_2 _ _ _ _ _) _
    unfold fb_X12_isHeavy_2 f_X12_isHeavy_43
    simp (disch := omega) only [h'.2.1, qi_le, if_neg (show ¬ N.1 ≤ k by omega), qi_zib, if_true, qi_ix, hn.1, hn.2.1, qi_inj, qi_lit, qi_add]
    by_cases q : N.2.1 k = c
    · rw [if_neg (fun w => w q)]
      obtain ⟨g2, ze, f2⟩ := m_smelt h' hc (show N.2.2.1 k < mCells C from b2) hh
      have h2 := h'.fr f2
      have hn2 := (h2.2.2 k hk).2.2
      rw [ze]
      simp (disch := omega) only [zB, hn2, mB_inj]
      by_cases hr : mSm C lw c (N.2.2.1 k) hv = N.2.2.2 k
      · rw [if_pos hr]
        exact ih g2 ⟨h2, ff.tr f2, by rw [hst, ht, hr]; simp⟩
      · rw [if_neg hr, mFit_f (k := k + 1) (by rw [hst, decide_eq_true q]; simp [hr]) (by omega)]
        exact ⟨g2, rfl, ff.tr f2⟩
    · rw [if_pos q]
      exact ih g' ⟨h', ff, by rw [hst, ht, decide_eq_false q]; rfl⟩
/-- how HEAVY it may be -/
def mP (C : mC) (lw : mLaw) (N : mNt) (c : Nat) : Nat → Bool := fun h => decide (1 ≤ h) && mFit C lw N c h N.1
theorem x_fitting {c : Nat} (hN : mNtOk C N) (h : vTX C lw N g) (hc : c < C.2.1) : qE sW g (f_X2_fitting (Int32.ofNat c) g) (Int32.ofNat (mBits (mP C lw N c) 10)) := by
  have hS := h.1.2.1
  have e1 : mBits (mP C lw N c) 1 = 0 := by
    show mBits (mP C lw N c) 0 ||| (if mP C lw N c 0 = true then 1 <<< 0 else 0) = 0
    rw [show mP C lw N c 0 = false from rfl]
    show (0 : Nat) ||| (if false = true then 1 <<< 0 else 0) = 0
    rw [if_neg (by decide), Nat.or_self]
  unfold f_X2_fitting
  rw [show (0 : Int32) = Int32.ofNat (mBits (mP C lw N c) 1) from by rw [e1]; rfl, show (1 : Int32) = Int32.ofNat 1 from rfl]
  refine q_loop (F := fun n k g => f_X2_fitting_4 n (Int32.ofNat c) (Int32.ofNat (mBits (mP C lw N c) k)) (Int32.ofNat k) g) (N := 10) (Inv := fun k g' => vTX C lw N g' ∧ qF sW g g' ∧ 1 ≤ k) (R := fun r => qE sW g r (Int32.ofNat (mBits (mP C lw N c) 10))) (s := 1) (by omega) ?_ ?_ (by omega) ⟨h, qF.rfl', Nat.le_refl _⟩
  · intro n g' ⟨h', ff, _⟩
    show qE sW g (fb_X2_fitting_4 _ _ _ _ _) _
    unfold fb_X2_fitting_4
    simp (disch := omega) only [qi_lit, qi_lt, if_pos (show 9 < 10 by omega)]
    exact ⟨g', rfl, ff⟩
  · intro n k g' hk ⟨h', ff, hk1⟩ ih
    obtain ⟨g2, ze, f2⟩ := x_fits hN h' hc (hv := k) (by omega)
    have := ih g2 ⟨h'.fr f2, ff.tr f2, by omega⟩
    rw [show mBits (mP C lw N c) (k + 1) = mBits (mP C lw N c) k ||| (if mP C lw N c k then 1 <<< k else 0) from rfl, show mP C lw N c k = mFit C lw N c k N.1 from by unfold mP; rw [decide_eq_true hk1]; rfl] at this
    show qE sW g (fb_X2_fitting_4 _ _ _ _ _) _
    unfold fb_X2_fitting_4 f_X2_fitting_25
    simp (disch := omega) only [qi_lit, qi_lt, if_neg (show ¬ 9 < k by omega), ze, zB, mB_0, qi_add, qi_shl, qi_or]
    cases hb : mFit C lw N c k N.1
    · rw [if_pos rfl]
      rw [hb] at this
      simpa using this
    · rw [if_neg (by decide)]
      rw [hb] at this
      simpa using this
theorem mP_lt {c : Nat} : mBits (mP C lw N c) 10 < 1024 := mBits_lt
theorem mP_tb {c h : Nat} (hh : h < 10) : (mBits (mP C lw N c) 10).testBit h = mP C lw N c h := by rw [mBits_tb, decide_eq_true hh, Bool.true_and]
theorem mP_pop {c : Nat} : mPop (mBits (mP C lw N c) 10) = mCnt (mP C lw N c) 10 := mCnt_ext fun i hi => mP_tb hi
theorem x_fitHeavy {c : Nat} {i : Int32} (hN : mNtOk C N) (h : vTX C lw N g) (hc : c < C.2.1) : qE sW g (f_X2_fittingHeavy (Int32.ofNat c) i g) (mScR (mP C lw N c) i 10 (fun k => Int32.ofNat k)) := by
  obtain ⟨g2, ze, f2⟩ := x_fitting hN h hc
  unfold f_X2_fittingHeavy
  rw [ze]
  dsimp only [zB]
  by_cases q : i = -1
  · rw [if_neg (fun w => w q), q_pop, qPop_eq mP_lt, mP_pop]
    have hno : ∀ k, k ≤ 10 → mSc (mP C lw N c) i k = none := fun k hk => by
      induction k with
      | zero => rfl
      | succ k ihk =>
        refine mSc_no (ihk (by omega)) (fun w => ?_)
        have := @mCnt_le (mP C lw N c) k
        have w2 := w.2
        rw [q] at w2
        have : (Int32.ofNat (mCnt (mP C lw N c) k) = - Int32.ofNat 1) = False := qi_ne1 (by omega) (by omega) (by omega)
        rw [← this]
        exact w2
    unfold mScR
    rw [hno 10 (Nat.le_refl _)]
    simp only []
    rw [if_pos q]
    exact ⟨g2, rfl, f2⟩
  · rw [if_pos q]
    by_cases q0 : i < 0
    · have hno : ∀ k, k ≤ 10 → mSc (mP C lw N c) i k = none := fun k hk => by
        induction k with
        | zero => rfl
        | succ k ihk =>
          refine mSc_no (ihk (by omega)) (fun w => ?_)
          have := @mCnt_le (mP C lw N c) k
          rw [← w.2] at q0
          have e : (Int32.ofNat (mCnt (mP C lw N c) k) < Int32.ofNat 0) = (mCnt (mP C lw N c) k < 0) := qi_lt (by omega) (by omega)
          have q1 : Int32.ofNat (mCnt (mP C lw N c) k) < Int32.ofNat 0 := q0
          rw [e] at q1
          omega
      unfold mScR
      rw [hno 10 (Nat.le_refl _)]
      simp only []
      rw [if_neg q]
      show qE sW g (fb_X2_fittingHeavy_22 _ _ _ _ _) _
      unfold fb_X2_fittingHeavy_22
      rw [if_neg (by decide), if_pos q0]
      exact ⟨g2, rfl, f2⟩
    · obtain ⟨j, hj, rfl⟩ : ∃ j, j < 2147483648 ∧ i = Int32.ofNat j := ⟨i.toNatClampNeg, Int32.toNatClampNeg_lt i, (Int32.ofNat_toNatClampNeg i (Int32.not_lt.mp q0)).symm⟩
      have e0 : mCnt (mP C lw N c) 1 = 0 := rfl
      rw [show Int32.ofNat j = Int32.ofNat (j - mCnt (mP C lw N c) 1) from by rw [e0]; rfl, show (1 : Int32) = Int32.ofNat 1 from rfl]
      rw [show Int32.ofNat (j - mCnt (mP C lw N c) 1) = Int32.ofNat j from by rw [e0]; rfl] 
      have key : qE sW g (f_X2_fittingHeavy_22 zFu (Int32.ofNat (mBits (mP C lw N c) 10)) (Int32.ofNat (j - mCnt (mP C lw N c) 1)) (Int32.ofNat 1) g2) (mScR (mP C lw N c) (Int32.ofNat j) 10 (fun k => Int32.ofNat k)) := by
        refine q_loop (F := fun n k g => f_X2_fittingHeavy_22 n (Int32.ofNat (mBits (mP C lw N c) 10)) (Int32.ofNat (j - mCnt (mP C lw N c) k)) (Int32.ofNat k) g) (N := 10) (Inv := fun k g' => g' = g2 ∧ mCnt (mP C lw N c) k ≤ j ∧ mSc (mP C lw N c) (Int32.ofNat j) k = none ∧ 1 ≤ k) (R := fun r => qE sW g r (mScR (mP C lw N c) (Int32.ofNat j) 10 (fun k => Int32.ofNat k))) (s := 1) (by omega) ?_ ?_ (by omega) ⟨rfl, Nat.zero_le _, mSc_no rfl (fun w => by cases w.1), Nat.le_refl _⟩
        · intro n g' ⟨e, hcj, ht, _⟩
          subst e
          show qE sW g (fb_X2_fittingHeavy_22 _ _ _ _ _) _
          unfold fb_X2_fittingHeavy_22 mScR
          rw [ht]
          rw [if_pos (by decide)]
          simp only []
          rw [if_neg q]
          exact ⟨g', rfl, f2⟩
        · intro n k g' hk ⟨e, hcj, ht, hk1⟩ ih
          subst e
          have hlt := @mP_lt C lw N c
          have hst : mCnt (mP C lw N c) (k + 1) = mCnt (mP C lw N c) k + (if mP C lw N c k then 1 else 0) := rfl
          show qE sW g (fb_X2_fittingHeavy_22 _ _ _ _ _) _
          unfold fb_X2_fittingHeavy_22 f_X2_fittingHeavy_54
          simp (disch := omega) only [qi_lit, qi_lt, if_neg (show ¬ 9 < k by omega), if_neg (show ¬ j - mCnt (mP C lw N c) k < 0 by omega), qi_bit0, mP_tb hk, qi_inj, qi_add]
          cases hb : mP C lw N c k
          · rw [if_pos rfl]
            have := ih g' ⟨rfl, by rw [hst, hb]; exact hcj, mSc_no ht (fun w => by rw [hb] at w; cases w.1), by omega⟩
            rw [hst, hb] at this
            exact this
          · rw [if_neg (by decide)]
            by_cases z : j - mCnt (mP C lw N c) k = 0
            · rw [if_neg (fun w => w z)]
              have e : mCnt (mP C lw N c) k = j := by omega
              unfold mScR
              rw [mSc_yes ht ⟨hb, by rw [e]⟩ hk]
              exact ⟨g', rfl, f2⟩
            · rw [if_pos z, qi_dec (by omega)]
              have := ih g' ⟨rfl, by rw [hst, hb]; simp; omega, mSc_no ht (fun w => by
                have w2 := w.2
                rw [qi_inj (by omega) hj] at w2
                omega), by omega⟩
              rw [hst, hb, if_pos rfl, ← Nat.sub_sub] at this
              exact this
      rw [e0, Nat.sub_zero] at key
      exact key
theorem m_heavies_l {c : Nat} {i : Int32} (hN : mNtOk C N) (h : vTM C lw L N g) (hc : c < C.2.1) : qE sV g (f_X12_heavies_20 zFu (Int32.ofNat c) i (Int32.ofNat 0) (Int32.ofNat 1) g) (mScR (mP C lw N c) i 10 (fun k => Int32.ofNat k)) := by
  have e0 : mCnt (mP C lw N c) 1 = 0 := rfl
  rw [show Int32.ofNat 0 = Int32.ofNat (mCnt (mP C lw N c) 1) from by rw [e0]]
  refine q_loop (F := fun n k g => f_X12_heavies_20 n (Int32.ofNat c) i (Int32.ofNat (mCnt (mP C lw N c) k)) (Int32.ofNat k) g) (N := 10) (Inv := fun k g' => vTM C lw L N g' ∧ qF sV g g' ∧ mSc (mP C lw N c) i k = none ∧ 1 ≤ k) (R := fun r => qE sV g r (mScR (mP C lw N c) i 10 (fun k => Int32.ofNat k))) (s := 1) (by omega) ?_ ?_ (by omega) ⟨h, qF.rfl', mSc_no rfl (fun w => by cases w.1), Nat.le_refl _⟩
  · intro n g' ⟨h', ff, ht, _⟩
    show qE sV g (fb_X12_heavies_20 _ _ _ _ _ _) _
    unfold fb_X12_heavies_20 f_X12_heavies_54 mScR
    rw [ht, if_pos (by decide)]
    by_cases q : i = -1
    · rw [if_neg (fun w => w q)]
      simp only []
      rw [if_pos q]
      exact ⟨g', rfl, ff⟩
    · rw [if_pos q]
      simp only []
      rw [if_neg q]
      exact ⟨g', rfl, ff⟩
  · intro n k g' hk ⟨h', ff, ht, hk1⟩ ih
    obtain ⟨g2, ze, f2⟩ := m_isHeavy hN h' hc (hv := k) (by omega)
    have hst : mCnt (mP C lw N c) (k + 1) = mCnt (mP C lw N c) k + (if mP C lw N c k then 1 else 0) := rfl
    have hPk : mP C lw N c k = mFit C lw N c k N.1 := by unfold mP; rw [decide_eq_true hk1]; rfl
    have := fun t => ih g2 ⟨h'.fr f2, ff.tr f2, t, by omega⟩
    rw [hst, hPk] at this
    show qE sV g (fb_X12_heavies_20 _ _ _ _ _ _) _
    unfold fb_X12_heavies_20 f_X12_heavies_48
    simp (disch := omega) only [qi_lit, qi_lt, if_neg (show ¬ 9 < k by omega), ze, zB, mB_0, qi_add]
    cases hb : mFit C lw N c k N.1
    · rw [if_pos rfl]
      rw [hb] at this
      exact this (mSc_no ht (fun w => by rw [hPk, hb] at w; cases w.1))
    · rw [if_neg (by decide)]
      rw [hb] at this
      by_cases z : Int32.ofNat (mCnt (mP C lw N c) k) = i
      · rw [if_neg (fun w => w z)]
        unfold mScR
        rw [mSc_yes ht ⟨by rw [hPk, hb], z⟩ hk]
        exact ⟨g2, rfl, ff.tr f2⟩
      · rw [if_pos z]
        exact this (mSc_no ht (fun w => z w.2))
/-- how many more smell it than not, of those that it may be -/
def mAp (C : mC) (lw : mLaw) (N : mNt) (c l : Nat) : Nat → Int
  | 0 => 0
  | h + 1 => mAp C lw N c l h + (if mP C lw N c h then (if mSm C lw c l h then 1 else -1) else 0)
theorem mAp_b {c l n : Nat} : -(n : Int) ≤ mAp C lw N c l n ∧ mAp C lw N c l n ≤ n := by
  induction n with
  | zero => exact ⟨by show -(0 : Int) ≤ 0; omega, by show (0 : Int) ≤ 0; omega⟩
  | succ n ih =>
    unfold mAp
    split
    · split <;> omega
    · omega
def mAsk (C : mC) (lw : mLaw) (N : mNt) (c : Nat) : Nat → Option Nat
  | 0 => none
  | k + 1 => match mAsk C lw N c k with
    | none => some k
    | some b => if (mAp C lw N c b 10).natAbs ≤ (mAp C lw N c k 10).natAbs then some b else some k
theorem mAsk_lt {c k b : Nat} (h : mAsk C lw N c k = some b) : b < k := by
  induction k generalizing b with
  | zero => cases h
  | succ k ih =>
    unfold mAsk at h
    split at h
    · cases h; omega
    · rename_i b' hb'
      have := ih hb'
      split at h
      · cases h; omega
      · cases h; omega
def mAskL (C : mC) (lw : mLaw) (N : mNt) (c : Nat) (o : Option Nat) : Nat := match o with
  | none => 0
  | some b => (mAp C lw N c b 10).natAbs
theorem x_apart {c l : Nat} (hN : mNtOk C N) (h : vTX C lw N g) (hc : c < C.2.1) (hl : l < mCells C) : qE sW g (f_X2_apart (Int32.ofNat c) (Int32.ofNat l) (Int32.ofNat (mBits (mP C lw N c) 10)) g) (Int32.ofNat (mAp C lw N c l 10).natAbs) := by
  have hS := h.1.2.1
  have h30 := h.1.cells
  have e1 : mAp C lw N c l 1 = 0 := rfl
  have hlt := @mP_lt C lw N c
  unfold f_X2_apart
  rw [show (0 : Int32) = Int32.ofInt (mAp C lw N c l 1) from by rw [e1]; rfl, show (1 : Int32) = Int32.ofNat 1 from rfl]
  refine q_loop (F := fun n k g => f_X2_apart_6 n (Int32.ofNat c) (Int32.ofNat l) (Int32.ofNat (mBits (mP C lw N c) 10)) (Int32.ofInt (mAp C lw N c l k)) (Int32.ofNat k) g) (N := 10) (Inv := fun k g' => vTX C lw N g' ∧ qF sW g g' ∧ 1 ≤ k) (R := fun r => qE sW g r (Int32.ofNat (mAp C lw N c l 10).natAbs)) (s := 1) (by omega) ?_ ?_ (by omega) ⟨h, qF.rfl', Nat.le_refl _⟩
  · intro n g' ⟨h', ff, _⟩
    have hb := @mAp_b C lw N c l 10
    show qE sW g (fb_X2_apart_6 _ _ _ _ _ _ _) _
    unfold fb_X2_apart_6 f_X2_apart_49
    rw [if_pos (by decide), qj_iabs (by omega) (by omega), ← qj_of]
    exact ⟨g', rfl, ff⟩
  · intro n k g' hk ⟨h', ff, hk1⟩ ih
    have hst : mAp C lw N c l (k + 1) = mAp C lw N c l k + (if mP C lw N c k then (if mSm C lw c l k then 1 else -1) else 0) := rfl
    show qE sW g (fb_X2_apart_6 _ _ _ _ _ _ _) _
    unfold fb_X2_apart_6 f_X2_apart_43 f_X2_apart_40 f_X2_apart_43
    simp (disch := omega) only [qi_lit, qi_lt, if_neg (show ¬ 9 < k by omega), qi_bit0, mP_tb hk, qi_add]
    cases hb : mP C lw N c k
    · rw [if_pos rfl]
      have := ih g' ⟨h', ff, by omega⟩
      rw [hst, hb, if_neg (by decide), Int.add_zero] at this
      exact this
    · rw [if_neg (by decide)]
      obtain ⟨g2, ze, f2⟩ := x_smells0 h' hc hl (hv := k) (by omega)
      have := ih g2 ⟨h'.fr f2, ff.tr f2, by omega⟩
      rw [hst, hb, if_pos rfl] at this
      rw [ze]
      simp only [zB, mB_0]
      cases hs : mSm C lw c l k
      · rw [if_pos rfl]
        rw [hs, if_neg (by decide), ← qj_add] at this
        exact this
      · rw [if_neg (by decide)]
        rw [hs, if_pos rfl, ← qj_add] at this
        exact this
theorem x_ask_l {c : Nat} (hN : mNtOk C N) (h : vTX C lw N g) (hc : c < C.2.1) : qE sW g (f_X2_cellToAsk_20 zFu (Int32.ofNat c) (Int32.ofNat (mBits (mP C lw N c) 10)) (-1) (Int32.ofNat 0) (Int32.ofNat 0) g) (mOpt (mAsk C lw N c (mCells C))) := by
  have hS := h.1.2.1
  have h30 := h.1.cells
  refine q_loop (F := fun n k g => f_X2_cellToAsk_20 n (Int32.ofNat c) (Int32.ofNat (mBits (mP C lw N c) 10)) (mOpt (mAsk C lw N c k)) (Int32.ofNat (mAskL C lw N c (mAsk C lw N c k))) (Int32.ofNat k) g) (N := mCells C) (Inv := fun _ g' => vTX C lw N g' ∧ qF sW g g') (R := fun r => qE sW g r (mOpt (mAsk C lw N c (mCells C)))) (by omega) ?_ ?_ (Nat.zero_le _) ⟨h, qF.rfl'⟩
  · intro n g' ⟨h', ff⟩
    show qE sW g (fb_X2_cellToAsk_20 _ _ _ _ _ _ _) _
    unfold fb_X2_cellToAsk_20
    simp (disch := omega) only [x_cells h'.2.2.1, zB, qi_le, if_pos (Nat.le_refl (mCells C))]
    exact ⟨g', rfl, ff⟩
  · intro n k g' hk ⟨h', ff⟩ ih
    obtain ⟨g2, ze, f2⟩ := x_apart hN h' hc hk
    have hlt : ∀ b, mAsk C lw N c k = some b → b < 2147483648 := fun b hb => by have := mAsk_lt hb; omega
    have hst : mAsk C lw N c (k + 1) = (match mAsk C lw N c k with
      | none => some k
      | some b => if (mAp C lw N c b 10).natAbs ≤ (mAp C lw N c k 10).natAbs then some b else some k) := rfl
    have := ih g2 ⟨h'.fr f2, ff.tr f2⟩
    rw [hst] at this
    show qE sW g (fb_X2_cellToAsk_20 _ _ _ _ _ _ _) _
    unfold fb_X2_cellToAsk_20 f_X2_cellToAsk_61 f_X2_cellToAsk_54 f_X2_cellToAsk_61
    simp (disch := omega) only [x_cells h'.2.2.1, zB, qi_le, if_neg (show ¬ mCells C ≤ k by omega), ze, qi_lit, mOpt_m1 hlt, qi_add]
    have ha := @mAp_b C lw N c k 10
    cases hb : mAsk C lw N c k with
    | none =>
      rw [if_pos rfl]
      rw [hb] at this
      exact this
    | some b =>
      have hb2 := @mAp_b C lw N c b 10
      rw [if_neg (fun w => by cases w)]
      rw [hb] at this
      have el : mAskL C lw N c (some b) = (mAp C lw N c b 10).natAbs := rfl
      rw [el]
      simp (disch := omega) only [qi_le]
      by_cases q2 : (mAp C lw N c b 10).natAbs ≤ (mAp C lw N c k 10).natAbs
      · rw [if_pos q2]
        simp only [if_pos q2] at this
        exact this
      · rw [if_neg q2]
        simp only [if_neg q2] at this
        exact this
theorem m_ask_l {c : Nat} (hN : mNtOk C N) (h : vTM C lw L N g) (hc : c < C.2.1) : qE sV g (f_X12_ask_27 zFu (Int32.ofNat c) (-1) (Int32.ofNat 0) (Int32.ofNat 0) g) (mOpt (mAsk C lw N c (mCells C))) := by
  have hS := h.1.1.2.1
  have h30 := h.1.1.cells
  refine q_loop (F := fun n k g => f_X12_ask_27 n (Int32.ofNat c) (mOpt (mAsk C lw N c k)) (Int32.ofNat (mAskL C lw N c (mAsk C lw N c k))) (Int32.ofNat k) g) (N := mCells C) (Inv := fun _ g' => vTM C lw L N g' ∧ qF sV g g') (R := fun r => qE sV g r (mOpt (mAsk C lw N c (mCells C)))) (by omega) ?_ ?_ (Nat.zero_le _) ⟨h, qF.rfl'⟩
  · intro n g' ⟨h', ff⟩
    show qE sV g (fb_X12_ask_27 _ _ _ _ _ _) _
    unfold fb_X12_ask_27
    simp (disch := omega) only [h'.1.2.2.2.2.1.2.2.2.2.2, qi_le, if_pos (Nat.le_refl (mCells C))]
    exact ⟨g', rfl, ff⟩
  · intro n k g' hk ⟨h', ff⟩ ih
    have hlt : ∀ b, mAsk C lw N c k = some b → b < 2147483648 := fun b hb => by have := mAsk_lt hb; omega
    have hst : mAsk C lw N c (k + 1) = (match mAsk C lw N c k with
      | none => some k
      | some b => if (mAp C lw N c b 10).natAbs ≤ (mAp C lw N c k 10).natAbs then some b else some k) := rfl
    have e1 : mAp C lw N c k 1 = 0 := rfl
    show qE sV g (fb_X12_ask_27 _ _ _ _ _ _) _
    unfold fb_X12_ask_27
    simp (disch := omega) only [h'.1.2.2.2.2.1.2.2.2.2.2, qi_le, if_neg (show ¬ mCells C ≤ k by omega)]
    rw [show (0 : Int32) = Int32.ofInt (mAp C lw N c k 1) from by rw [e1]; rfl, show (1 : Int32) = Int32.ofNat 1 from rfl]
    refine q_loop (F := fun m hv g => f_X12_ask_42 (f_X12_ask_27 n) m (Int32.ofNat c) (mOpt (mAsk C lw N c k)) (Int32.ofNat (mAskL C lw N c (mAsk C lw N c k))) (Int32.ofNat k) (Int32.ofInt (mAp C lw N c k hv)) (Int32.ofNat hv) g) (N := 10) (Inv := fun hv g2 => vTM C lw L N g2 ∧ qF sV g g2 ∧ 1 ≤ hv) (R := fun r => qE sV g r (mOpt (mAsk C lw N c (mCells C)))) (s := 1) (by omega) ?_ ?_ (by omega) ⟨h', ff, Nat.le_refl _⟩
    · intro m g2 ⟨h2, f2, _⟩
      have ha := @mAp_b C lw N c k 10
      have := ih g2 ⟨h2, f2⟩
      rw [hst] at this
      show qE sV g (fb_X12_ask_42 _ _ _ _ _ _ _ _ _) _
      unfold fb_X12_ask_42 f_X12_ask_91 f_X12_ask_105 f_X12_ask_114
      simp (disch := omega) only [qi_lit, qi_lt, if_pos (show 9 < 10 by omega), mOpt_m1 hlt, qj_iabs, qi_add]
      rw [← qj_of]
      cases hb : mAsk C lw N c k with
      | none =>
        rw [if_pos rfl]
        rw [hb] at this
        exact this
      | some b =>
        have hb2 := @mAp_b C lw N c b 10
        rw [if_neg (fun w => by cases w)]
        rw [hb] at this
        have el : mAskL C lw N c (some b) = (mAp C lw N c b 10).natAbs := rfl
        rw [el]
        simp (disch := omega) only [qi_le]
        by_cases q2 : (mAp C lw N c b 10).natAbs ≤ (mAp C lw N c k 10).natAbs
        · rw [if_pos q2]
          simp only [if_pos q2] at this
          exact this
        · rw [if_neg q2]
          simp only [if_neg q2] at this
          exact this
    · intro m hv g2 hk2 ⟨h2, f2, hk1⟩ ih2
      have hst2 : mAp C lw N c k (hv + 1) = mAp C lw N c k hv + (if mP C lw N c hv then (if mSm C lw c k hv then 1 else -1) else 0) := rfl
      have hPk : mP C lw N c hv = mFit C lw N c hv N.1 := by unfold mP; rw [decide_eq_true hk1]; rfl
      obtain ⟨g3, ze, f3⟩ := m_isHeavy hN h2 hc (hv := hv) (by omega)
      have h3 := h2.fr f3
      show qE sV g (fb_X12_ask_42 _ _ _ _ _ _ _ _ _) _
      unfold fb_X12_ask_42 f_X12_ask_82
      simp (disch := omega) only [qi_lit, qi_lt, if_neg (show ¬ 9 < hv by omega), ze, zB, mB_0, qi_add]
      cases hb : mFit C lw N c hv N.1
      · rw [if_neg (fun w => w rfl)]
        have := ih2 g3 ⟨h3, f2.tr f3, by omega⟩
        rw [hst2, hPk, hb, if_neg (by decide)] at this
        rw [show Int32.ofInt (mAp C lw N c k hv) + Int32.ofNat 0 = Int32.ofInt (mAp C lw N c k hv + 0) from by rw [qj_of, qj_add]; rfl]
        exact this
      · rw [if_pos (by decide)]
        obtain ⟨g4, ze4, f4⟩ := m_smelt h3 hc hk (hv := hv) (by omega)
        have := ih2 g4 ⟨h3.fr f4, (f2.tr f3).tr f4, by omega⟩
        rw [hst2, hPk, hb, if_pos rfl] at this
        rw [ze4]
        simp only [mB_0]
        cases hs : mSm C lw c k hv
        · rw [if_pos rfl]
          rw [hs, if_neg (by decide), ← qj_add] at this
          exact this
        · rw [if_neg (by decide)]
          rw [hs, if_pos rfl, ← qj_add] at this
          exact this
end Q8
