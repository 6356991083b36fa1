/-! ===== both sides: TABLES, MOST, a SECRET, the RULES ===== -/
theorem q_out {x : Int32} {n : Nat} (hn : n < 2147483648) (hx : ¬ mHas n x) (h0 : ¬ x < 0) : Int32.ofNat n ≤ x := by
  rw [mHas_iff hn] at hx
  by_cases w : Int32.ofNat n ≤ x
  · exact w
  · exact absurd ⟨h0, w⟩ hx
theorem q_gt {x : Int32} {n : Nat} (hn : n < 1000000) (hx : ¬ mHas (n + 1) x) (h0 : ¬ x < 0) : ¬ x ≤ Int32.ofNat n := by
  have h := q_out (by omega) hx h0
  rw [Int32.not_le]
  rw [Int32.lt_iff_toInt_lt, qj_of, qj_toInt (by omega) (by omega)]
  rw [Int32.le_iff_toInt_le, qj_of, qj_toInt (by omega) (by omega)] at h
  omega
theorem q_lt' {x : Int32} {n : Nat} (hn : n < 1000000) (hx : ¬ mHas (n + 1) x) (h0 : ¬ x < 0) : Int32.ofNat n < x := Int32.not_le.mp (q_gt hn hx h0)
theorem q_neI {x : Int32} {n k : Nat} (hx : ¬ mHas n x) (hk : k < n) : ¬ x = Int32.ofNat k := fun q => hx ⟨k, hk, q⟩
def mTr (L : mL) (x n : Nat) : Nat := mCnt (fun o => decide (x < o) && decide (L x = L o)) n
def mTp (L : mL) (p n : Nat) : Nat := mCnt (fun o => decide (L o = L p)) n
theorem mTabs_eq {L : mL} {P : Nat} (hP : P ≤ 6) : mSum (fun x => mTr L x P) P = mSum (fun p => mTp L p p) P := by
  rcases (show P = 0 ∨ P = 1 ∨ P = 2 ∨ P = 3 ∨ P = 4 ∨ P = 5 ∨ P = 6 by omega) with rfl | rfl | rfl | rfl | rfl | rfl | rfl <;> simp [mSum, mTr, mTp, mCnt] <;> omega
section Q4
variable {C : mC} {L : mL} {lw : mLaw} {g : zSg}
def mTab (C : mC) (L : mL) : Nat := mSum (fun x => mTr L x C.1) C.1
theorem mTr_le {x n : Nat} : mTr L x n ≤ n := mCnt_le
theorem mTab_le {k : Nat} (hP : C.1 ≤ 6) (hk : k ≤ 6) : mSum (fun x => mTr L x C.1) k ≤ 36 := by
  have := mSum_le (f := fun x => mTr L x C.1) (n := k) (b := 6) (fun i _ => Nat.le_trans mTr_le hP)
  omega
theorem x_tables (hq : vQ C L) (h : vXs 999 C lw 39 L g) : f_X10_tables 39 g = some (Int32.ofNat (mTab C L), g) := by
  have hP := hq.1.1
  have hc := h.2.2.2.2.2.1
  have hs := h.2.2.2.2.2.2.2.1
  have h30 := hq.1.cells
  refine q_loop (F := fun n k g => f_X10_tables_4 39 n (Int32.ofNat (mSum (fun x => mTr L x C.1) k)) (Int32.ofNat k) g) (N := C.1) (Inv := fun _ g' => g' = g) (R := fun o => o = some (Int32.ofNat (mTab C L), g)) (by omega) ?_ ?_ (Nat.zero_le _) rfl
  · intro n g' e
    subst e
    show fb_X10_tables_4 39 _ _ _ _ = _
    unfold fb_X10_tables_4
    simp (disch := omega) only [x_persons hc, zB, qi_le, if_pos (Nat.le_refl C.1)]
    rfl
  · intro n k g' hk e ih
    subst e
    have hx := hq.2.1.1.1 k hk
    show fb_X10_tables_4 39 _ _ _ _ = _
    unfold fb_X10_tables_4
    simp (disch := omega) only [x_persons hc, zB, qi_le, if_neg (show ¬ C.1 ≤ k by omega), qi_lit, qi_add]
    have e0 : mTr L k (k + 1) = 0 := by
      have : ∀ n, n ≤ k + 1 → mTr L k n = 0 := fun n hn => by
        induction n with
        | zero => rfl
        | succ n ihn =>
          show mTr L k n + (if (decide (k < n) && decide (L k = L n)) = true then 1 else 0) = 0
          rw [ihn (by omega), decide_eq_false (by omega)]
          rfl
      exact this _ (Nat.le_refl _)
    have key : (fun o => o = some (Int32.ofNat (mTab C L), g')) (f_X10_tables_20 39 (f_X10_tables_4 39 n) zFu (Int32.ofNat (mSum (fun x => mTr L x C.1) k + mTr L k (k + 1))) (Int32.ofNat k) (Int32.ofNat (k + 1)) g') := by
      refine q_loop (F := fun m y g => f_X10_tables_20 39 (f_X10_tables_4 39 n) m (Int32.ofNat (mSum (fun x => mTr L x C.1) k + mTr L k y)) (Int32.ofNat k) (Int32.ofNat y) g) (N := C.1) (Inv := fun y g2 => g2 = g' ∧ k < y) (R := fun o => o = some (Int32.ofNat (mTab C L), g')) (by omega) ?_ ?_ (show k + 1 ≤ C.1 by omega) ⟨rfl, by omega⟩
      · intro m g2 ⟨e, _⟩
        subst e
        show fb_X10_tables_20 39 _ _ _ _ _ _ = _
        unfold fb_X10_tables_20 f_X10_tables_61
        simp (disch := omega) only [x_persons hc, zB, qi_le, if_pos (Nat.le_refl C.1), qi_lit, qi_add]
        exact ih g2 rfl
      · intro m y g2 hy ⟨e, hky⟩ ih2
        subst e
        have hl := hq.2.1.1.1 y hy
        have hst : mTr L k (y + 1) = mTr L k y + (if (decide (k < y) && decide (L k = L y)) = true then 1 else 0) := rfl
        show fb_X10_tables_20 39 _ _ _ _ _ _ = _
        unfold fb_X10_tables_20 f_X10_tables_55
        have := ih2 g2 ⟨rfl, by omega⟩
        rw [hst, decide_eq_true hky, Bool.true_and, ← Nat.add_assoc] at this
        simp (disch := omega) only [x_persons hc, zB, qi_le, if_neg (show ¬ C.1 ≤ y by omega), q_gS1 (show (zK0 39).1 = 8 from rfl), hs, qi_inj, qi_lit, qi_add]
        by_cases q : L k = L y
        · rw [if_neg (fun w => w q)]
          rw [decide_eq_true q] at this
          exact this
        · rw [if_pos q]
          rw [decide_eq_false q] at this
          exact this
    rw [e0, Nat.add_zero] at key
    exact key
theorem m_tables (hq : vQ C L) (h : vMs 999 C lw L g) : f_X12_tables g = some (Int32.ofNat (mTab C L), g) := by
  have hP := hq.1.1
  have h30 := hq.1.cells
  have e : mTab C L = mSum (fun p => mTp L p p) C.1 := mTabs_eq hP
  rw [e]
  refine q_loop (F := fun n k g => f_X12_tables_4 n (Int32.ofNat (mSum (fun p => mTp L p p) k)) (Int32.ofNat k) g) (N := C.1) (Inv := fun _ g' => g' = g) (R := fun o => o = some (Int32.ofNat (mSum (fun p => mTp L p p) C.1), g)) (by omega) ?_ ?_ (Nat.zero_le _) rfl
  · intro n g' e
    subst e
    show fb_X12_tables_4 _ _ _ _ = _
    unfold fb_X12_tables_4
    simp (disch := omega) only [h.2.2.2.2.1.2.2.2.1, qi_le, if_pos (Nat.le_refl C.1)]
  · intro n k g' hk e ih
    subst e
    have hx := hq.2.1.1.1 k hk
    show fb_X12_tables_4 _ _ _ _ = _
    unfold fb_X12_tables_4
    simp (disch := omega) only [h.2.2.2.2.1.2.2.2.1, qi_le, if_neg (show ¬ C.1 ≤ k by omega), qi_lit]
    refine q_loop (F := fun m y g => f_X12_tables_14 (f_X12_tables_4 n) m (Int32.ofNat (mSum (fun p => mTp L p p) k + mTp L k y)) (Int32.ofNat k) (Int32.ofNat y) g) (N := k) (Inv := fun _ g2 => g2 = g') (R := fun o => o = some (Int32.ofNat (mSum (fun p => mTp L p p) C.1), g')) (by omega) ?_ ?_ (Nat.zero_le _) rfl
    · intro m g2 e
      subst e
      show fb_X12_tables_14 _ _ _ _ _ _ = _
      unfold fb_X12_tables_14 f_X12_tables_52
      simp (disch := omega) only [qi_le, if_pos (Nat.le_refl k), qi_lit, qi_add]
      exact ih g2 rfl
    · intro m y g2 hy e ih2
      subst e
      have hl := hq.2.1.1.1 y (by omega)
      have hst : mTp L k (y + 1) = mTp L k y + (if decide (L y = L k) = true then 1 else 0) := rfl
      have := ih2 g2 rfl
      rw [hst, ← Nat.add_assoc] at this
      show fb_X12_tables_14 _ _ _ _ _ _ = _
      unfold fb_X12_tables_14 f_X12_tables_44
      simp (disch := omega) only [qi_le, if_neg (show ¬ k ≤ y by omega), qi_lit, qi_add, Nat.zero_add, qi_zib, if_true, qi_ix, h.N, qi_inj]
      by_cases q : L k = L y
      · rw [if_neg (fun w => w q)]
        rw [decide_eq_true q.symm] at this
        exact this
      · rw [if_pos q]
        rw [decide_eq_false (fun w => q w.symm)] at this
        exact this
def mMeas (C : mC) (L : mL) (w i : Nat) : Int := if w = 0 then mPop (mKb C L i) else if w = 1 then -(mNose C i : Int) else if w = 2 then mBrs L i C.2.1 else if w = 3 then -(mPop (mKn C L i) : Int) else mHvy C i
def mBest (m : Nat → Int) : Nat → Nat
  | 0 => 0
  | k + 1 => if k = 0 then 0 else if m k ≤ m (mBest m k) then mBest m k else k
theorem mBest_lt {m : Nat → Int} {k : Nat} (h : 0 < k) : mBest m k < k := by
  induction k with
  | zero => omega
  | succ k ih =>
    unfold mBest
    split
    · omega
    · split
      · have := ih (by omega); omega
      · omega
theorem mMeas_b (hq : vQ C L) {w i : Nat} (h1 : w < 3 → i < C.1) (h2 : 3 ≤ w → i < C.2.1) : -10000 ≤ mMeas C L w i ∧ mMeas C L w i ≤ 10000 := by
  have hP := hq.1.1
  have hS := hq.1.2.1
  have z1 := @mPop_le (mKb C L i)
  have z2 := @mPop_le (mKn C L i)
  unfold mMeas
  repeat' split
  · omega
  · have := hq.1.nose (h1 (by omega)); omega
  · have := mBrs_le hq (p := i) (n := C.2.1) (by have := h1 (by omega); omega) hS; omega
  · omega
  · have := hq.1.hvy (h2 (by omega)); omega
theorem x_measure (hq : vQ C L) (h : vQX C L lw g) {w i : Nat} (hw : w < 5) (h1 : w < 3 → i < C.1) (h2 : 3 ≤ w → i < C.2.1) : f_X11_measure (Int32.ofNat w) (Int32.ofNat i) g = some (Int32.ofInt (mMeas C L w i), g) := by
  have hP := hq.1.1
  have hS := hq.1.2.1
  have hkb := mKb_lt (C := C) (L := L) (p := i) hq.1
  have hkn := mKn_lt (C := C) (L := L) (c := i) hq.1
  unfold f_X11_measure mMeas
  rcases (show w = 0 ∨ w = 1 ∨ w = 2 ∨ w = 3 ∨ w = 4 by omega) with rfl | rfl | rfl | rfl | rfl
  · have hi := h1 (by omega)
    simp (disch := omega) only [qi_lit, qi_inj, if_true, if_false, not_true_eq_false, not_false_eq_true, ite_true, ite_false, Nat.reduceAdd, Nat.reduceMul, Nat.reduceSub, Nat.reduceLT, Nat.reduceEqDiff, x_knownBy hq.1 h hi, zB, q_pop, qPop_eq]
    rw [qj_of]
  · have hi := h1 (by omega)
    simp (disch := omega) only [qi_lit, qi_inj, if_true, if_false, not_true_eq_false, not_false_eq_true, ite_true, ite_false, Nat.reduceAdd, Nat.reduceMul, Nat.reduceSub, Nat.reduceLT, Nat.reduceEqDiff, Nat.one_ne_zero, x_nose h.1, zB]
    rw [qj_of, qj_neg]
  · have hi := h1 (by omega)
    simp (disch := omega) only [qi_lit, qi_inj, if_true, if_false, not_true_eq_false, not_false_eq_true, ite_true, ite_false, Nat.reduceAdd, Nat.reduceMul, Nat.reduceSub, Nat.reduceLT, Nat.reduceEqDiff, x_breathsOf hq h, zB]
    rw [qj_of]
  · have hi := h2 (by omega)
    simp (disch := omega) only [qi_lit, qi_inj, if_true, if_false, not_true_eq_false, not_false_eq_true, ite_true, ite_false, Nat.reduceAdd, Nat.reduceMul, Nat.reduceSub, Nat.reduceLT, Nat.reduceEqDiff, q_get44, (h.2.2.2 i (by omega) (q_63 (by omega))).1, zB, q_pop, qPop_eq]
    rw [qj_of, qj_neg]
  · have hi := h2 (by omega)
    simp (disch := omega) only [qi_lit, qi_inj, if_true, if_false, not_true_eq_false, not_false_eq_true, ite_true, ite_false, Nat.reduceAdd, Nat.reduceMul, Nat.reduceSub, Nat.reduceLT, Nat.reduceEqDiff, x_heavy h.1, zB]
    rw [qj_of]
theorem x_first (hq : vQ C L) (h : vQX C L lw g) {w n : Nat} (hw : w < 5) (h1 : w < 3 → n ≤ C.1) (h2 : 3 ≤ w → n ≤ C.2.1) (hn : 1 ≤ n) (hn6 : n ≤ 6) : f_X11_firstOfMost (Int32.ofNat w) (Int32.ofNat n) g = some (Int32.ofNat (mBest (mMeas C L w) n), g) := by
  refine q_loop (F := fun m k g => f_X11_firstOfMost_5 m (Int32.ofNat w) (Int32.ofNat n) (Int32.ofNat (mBest (mMeas C L w) k)) (Int32.ofNat k) g) (N := n) (Inv := fun k g' => g' = g ∧ 1 ≤ k) (R := fun o => o = some (Int32.ofNat (mBest (mMeas C L w) n), g)) (by omega) ?_ ?_ hn ⟨rfl, Nat.le_refl _⟩
  · intro m g' ⟨e, _⟩
    subst e
    show fb_X11_firstOfMost_5 _ _ _ _ _ _ = _
    unfold fb_X11_firstOfMost_5
    simp (disch := omega) only [qi_le, if_pos (Nat.le_refl n)]
  · intro m k g' hk ⟨e, hk1⟩ ih
    subst e
    have hb := mBest_lt (m := mMeas C L w) (k := k) (by omega)
    have b1 := mMeas_b hq (w := w) (i := k) (fun z => by have := h1 z; omega) (fun z => by have := h2 z; omega)
    have b2 := mMeas_b hq (w := w) (i := mBest (mMeas C L w) k) (fun z => by have := h1 z; omega) (fun z => by have := h2 z; omega)
    have := ih g' ⟨rfl, by omega⟩
    show fb_X11_firstOfMost_5 _ _ _ _ _ _ = _
    unfold fb_X11_firstOfMost_5 f_X11_firstOfMost_30
    simp (disch := omega) only [qi_le, if_neg (show ¬ n ≤ k by omega), x_measure hq h hw (i := k) (fun z => by have := h1 z; omega) (fun z => by have := h2 z; omega), x_measure hq h hw (i := mBest (mMeas C L w) k) (fun z => by have := h1 z; omega) (fun z => by have := h2 z; omega), zB, qj_le, qi_lit, qi_add]
    rw [show mBest (mMeas C L w) (k + 1) = (if k = 0 then 0 else if mMeas C L w k ≤ mMeas C L w (mBest (mMeas C L w) k) then mBest (mMeas C L w) k else k) from rfl, if_neg (by omega)] at this
    by_cases q : mMeas C L w k ≤ mMeas C L w (mBest (mMeas C L w) k)
    · rw [if_pos q]; rw [if_pos q] at this; exact this
    · rw [if_neg q]; rw [if_neg q] at this; exact this
theorem m_topPerson (hq : vQ C L) (h : vMk C L g) {w : Nat} (hw : w < 3) (hp : 0 < C.1) : f_X12_topPerson (Int32.ofNat w) g = some (Int32.ofNat (mBest (mMeas C L w) C.1), g) := by
  have hP := hq.1.1
  have hS := hq.1.2.1
  refine q_loop (F := fun m k g => f_X12_topPerson_4 m (Int32.ofNat w) (Int32.ofNat (mBest (mMeas C L w) k)) (Int32.ofNat k) g) (N := C.1) (Inv := fun k g' => g' = g ∧ 1 ≤ k) (R := fun o => o = some (Int32.ofNat (mBest (mMeas C L w) C.1), g)) (by omega) ?_ ?_ hp ⟨rfl, Nat.le_refl _⟩
  · intro m g' ⟨e, _⟩
    subst e
    show fb_X12_topPerson_4 _ _ _ _ _ = _
    unfold fb_X12_topPerson_4
    simp (disch := omega) only [h.2.1.2.2.2.1, qi_le, if_pos (Nat.le_refl C.1)]
  · intro m k g' hk ⟨e, hk1⟩ ih
    subst e
    have hb := mBest_lt (m := mMeas C L w) (k := k) (by omega)
    have := ih g' ⟨rfl, by omega⟩
    rw [show mBest (mMeas C L w) (k + 1) = (if k = 0 then 0 else if mMeas C L w k ≤ mMeas C L w (mBest (mMeas C L w) k) then mBest (mMeas C L w) k else k) from rfl, if_neg (by omega)] at this
    show fb_X12_topPerson_4 _ _ _ _ _ = _
    unfold fb_X12_topPerson_4 f_X12_topPerson_68 f_X12_topPerson_80
    have fin : ∀ (z : Int), -100000 ≤ z → z ≤ 100000 → (z ≤ 0 ↔ mMeas C L w k ≤ mMeas C L w (mBest (mMeas C L w) k)) → (if Int32.ofInt z ≤ Int32.ofNat 0 then f_X12_topPerson_4 m (Int32.ofNat w) (Int32.ofNat (mBest (mMeas C L w) k)) (Int32.ofNat (k + 1)) g' else f_X12_topPerson_4 m (Int32.ofNat w) (Int32.ofNat k) (Int32.ofNat (k + 1)) g') = some (Int32.ofNat (mBest (mMeas C L w) C.1), g') := fun z hz1 hz2 hz => by
      simp (disch := omega) only [qj_of 0, qj_le]
      by_cases q : z ≤ ((0 : Nat) : Int)
      · rw [if_pos q]; rw [if_pos (hz.mp q)] at this; exact this
      · rw [if_neg q]; rw [if_neg (fun w => q (hz.mpr w))] at this; exact this
    simp (disch := omega) only [h.2.1.2.2.2.1, qi_le, if_neg (show ¬ C.1 ≤ k by omega), qi_lit, qi_inj, qi_add]
    rcases (show w = 0 ∨ w = 1 ∨ w = 2 by omega) with rfl | rfl | rfl
    · have z1 := @mPop_le (mKb C L k)
      have z2 := @mPop_le (mKb C L (mBest (mMeas C L 0) k))
      have y1 := mKb_lt (C := C) (L := L) (p := k) hq.1
      have y2 := mKb_lt (C := C) (L := L) (p := mBest (mMeas C L 0) k) hq.1
      simp (disch := omega) only [if_true, if_false, not_true_eq_false, not_false_eq_true, ite_true, ite_false, Nat.reduceAdd, Nat.reduceMul, Nat.reduceSub, Nat.reduceLT, Nat.reduceEqDiff, m_knownTo h (show k < C.1 by omega), m_knownTo h (show mBest (mMeas C L 0) k < C.1 by omega), zB, q_pop, qPop_eq]
      rw [qj_of (mPop _), qj_of (mPop _), qj_sub]
      exact fin _ (by omega) (by omega) (by show _ ↔ (mPop (mKb C L k) : Int) ≤ (mPop (mKb C L (mBest (mMeas C L 0) k)) : Int); omega)
    · have z1 := hq.1.nose (p := k) (by omega)
      have z2 := hq.1.nose (p := mBest (mMeas C L 1) k) (by omega)
      have n1 := m_nose (g := g') h.2.1 hP (p := k) (by omega)
      have n2 := m_nose (g := g') h.2.1 hP (p := mBest (mMeas C L 1) k) (by omega)
      rw [qi_lit] at n1 n2
      simp (disch := omega) only [if_true, if_false, not_true_eq_false, not_false_eq_true, ite_true, ite_false, Nat.reduceAdd, Nat.reduceMul, Nat.reduceSub, Nat.reduceLT, Nat.reduceEqDiff, Nat.one_ne_zero, n1, n2, zB]
      rw [qj_of (mNose _ _), qj_of (mNose _ _), qj_sub]
      exact fin _ (by omega) (by omega) (by show _ ↔ -(mNose C k : Int) ≤ -(mNose C (mBest (mMeas C L 1) k) : Int); omega)
    · have z1 := mBrs_le hq (p := k) (n := C.2.1) (by omega) hS
      have z2 := mBrs_le hq (p := mBest (mMeas C L 2) k) (n := C.2.1) (by omega) hS
      simp (disch := omega) only [if_true, if_false, not_true_eq_false, not_false_eq_true, ite_true, ite_false, Nat.reduceAdd, Nat.reduceMul, Nat.reduceSub, Nat.reduceLT, Nat.reduceEqDiff, m_breathAll hq h, zB]
      rw [qj_of (mBrs _ _ _), qj_of (mBrs _ _ _), qj_sub]
      exact fin _ (by omega) (by omega) (by show _ ↔ (mBrs L k C.2.1 : Int) ≤ (mBrs L (mBest (mMeas C L 2) k) C.2.1 : Int); omega)
theorem m_topSecret (hq : vQ C L) (h : vMk C L g) {w : Nat} (hw : w < 2) (hp : 0 < C.2.1) : f_X12_topSecret (Int32.ofNat w) g = some (Int32.ofNat (mBest (mMeas C L (w + 3)) C.2.1), g) := by
  have hP := hq.1.1
  have hS := hq.1.2.1
  refine q_loop (F := fun m k g => f_X12_topSecret_4 m (Int32.ofNat w) (Int32.ofNat (mBest (mMeas C L (w + 3)) k)) (Int32.ofNat k) g) (N := C.2.1) (Inv := fun k g' => g' = g ∧ 1 ≤ k) (R := fun o => o = some (Int32.ofNat (mBest (mMeas C L (w + 3)) C.2.1), g)) (by omega) ?_ ?_ hp ⟨rfl, Nat.le_refl _⟩
  · intro m g' ⟨e, _⟩
    subst e
    show fb_X12_topSecret_4 _ _ _ _ _ = _
    unfold fb_X12_topSecret_4
    simp (disch := omega) only [h.2.1.2.2.2.2.1, qi_le, if_pos (Nat.le_refl C.2.1)]
  · intro m k g' hk ⟨e, hk1⟩ ih
    subst e
    have hb := mBest_lt (m := mMeas C L (w + 3)) (k := k) (by omega)
    have := ih g' ⟨rfl, by omega⟩
    rw [show mBest (mMeas C L (w + 3)) (k + 1) = (if k = 0 then 0 else if mMeas C L (w + 3) k ≤ mMeas C L (w + 3) (mBest (mMeas C L (w + 3)) k) then mBest (mMeas C L (w + 3)) k else k) from rfl, if_neg (by omega)] at this
    show fb_X12_topSecret_4 _ _ _ _ _ = _
    unfold fb_X12_topSecret_4 f_X12_topSecret_49 f_X12_topSecret_61
    have fin : ∀ (z : Int), -100000 ≤ z → z ≤ 100000 → (z ≤ 0 ↔ mMeas C L (w + 3) k ≤ mMeas C L (w + 3) (mBest (mMeas C L (w + 3)) k)) → (if Int32.ofInt z ≤ Int32.ofNat 0 then f_X12_topSecret_4 m (Int32.ofNat w) (Int32.ofNat (mBest (mMeas C L (w + 3)) k)) (Int32.ofNat (k + 1)) g' else f_X12_topSecret_4 m (Int32.ofNat w) (Int32.ofNat k) (Int32.ofNat (k + 1)) g') = some (Int32.ofNat (mBest (mMeas C L (w + 3)) C.2.1), g') := fun z hz1 hz2 hz => by
      simp (disch := omega) only [qj_of 0, qj_le]
      by_cases q : z ≤ ((0 : Nat) : Int)
      · rw [if_pos q]; rw [if_pos (hz.mp q)] at this; exact this
      · rw [if_neg q]; rw [if_neg (fun w => q (hz.mpr w))] at this; exact this
    simp (disch := omega) only [h.2.1.2.2.2.2.1, qi_le, if_neg (show ¬ C.2.1 ≤ k by omega), qi_lit, qi_inj, qi_add]
    rcases (show w = 0 ∨ w = 1 by omega) with rfl | rfl
    · have z1 := @mPop_le (mKn C L k)
      have z2 := @mPop_le (mKn C L (mBest (mMeas C L (0 + 3)) k))
      have y1 := mKn_lt (C := C) (L := L) (c := k) hq.1
      have y2 := mKn_lt (C := C) (L := L) (c := mBest (mMeas C L (0 + 3)) k) hq.1
      simp (disch := omega) only [if_true, if_false, not_true_eq_false, not_false_eq_true, ite_true, ite_false, m_knownOf h (show k < C.2.1 by omega), m_knownOf h (show mBest (mMeas C L (0 + 3)) k < C.2.1 by omega), zB, q_pop, qPop_eq]
      rw [qj_of (mPop _), qj_of (mPop _), qj_sub]
      exact fin _ (by omega) (by omega) (by show _ ↔ -(mPop (mKn C L k) : Int) ≤ -(mPop (mKn C L (mBest (mMeas C L (0 + 3)) k)) : Int); omega)
    · have z1 := hq.1.hvy (c := k) (by omega)
      have z2 := hq.1.hvy (c := mBest (mMeas C L (1 + 3)) k) (by omega)
      have n1 := m_hvy (g := g') h.2.1 hS (c := k) (by omega)
      have n2 := m_hvy (g := g') h.2.1 hS (c := mBest (mMeas C L (1 + 3)) k) (by omega)
      rw [qi_lit] at n1 n2
      simp (disch := omega) only [if_true, if_false, not_true_eq_false, not_false_eq_true, ite_true, ite_false, Nat.one_ne_zero, n1, n2, zB]
      rw [qj_of (mHvy _ _), qj_of (mHvy _ _), qj_sub]
      exact fin _ (by omega) (by omega) (by show _ ↔ (mHvy C k : Int) ≤ (mHvy C (mBest (mMeas C L (1 + 3)) k) : Int); omega)
theorem x_told1 (h : vCo 3 5 C g) (hC : C.1 ≤ 6) (hp : 0 < C.1) : f_X0_isTold 3 g = some (1, g) := by rw [x_isTold h hC, if_pos hp]
theorem x_told0 (h : vCo 3 5 C g) (hC : C.1 ≤ 6) (hp : ¬ 0 < C.1) : f_X0_isTold 3 g = some (0, g) := by rw [x_isTold h hC, if_neg hp]
theorem m_told1 (hq : vQ C L) (h : vMo C g) (hp : 0 < C.1) : ¬ gI g 526 27 = 0 := by
  have h30 := hq.1.cells
  rw [show gI g 526 27 = Int32.ofNat (mCells C) from h.2.2.2.2.2]
  show ¬ Int32.ofNat (mCells C) = Int32.ofNat 0
  rw [qi_inj (by omega) (by omega), hq.cells0]
  exact fun w => w hp
theorem m_told0 (hq : vQ C L) (h : vMo C g) (hp : ¬ 0 < C.1) : gI g 526 27 = 0 := by
  rw [show gI g 526 27 = Int32.ofNat (mCells C) from h.2.2.2.2.2, hq.cells0.mpr hp]
  rfl
theorem d_most (hq : vQ C L) (x : Int32) : ∃ v, (∀ g, vQX C L lw g → qE SX g (f_X11_most x g) v) ∧ (∀ g, vQM C L lw g → qE SY g (f_X12_most x g) v) := by
  have hP := hq.1.1
  have hS := hq.1.2.1
  have h30 := hq.1.cells
  by_cases hp : 0 < C.1
  · have hs1 : 1 ≤ C.2.1 := (hq.1.2.2.2.2.2.2 hp).2.1
    by_cases q : mHas 12 x
    · obtain ⟨w, hw, rfl⟩ := q
      have X : ∀ (g : zSg), f_X11_most (Int32.ofNat w) g = f_X11_most (Int32.ofNat w) g := fun _ => rfl
      refine ⟨Int32.ofNat (if w < 3 then mBest (mMeas C L w) C.1 else if w < 5 then mBest (mMeas C L w) C.2.1 else if w = 5 then L 48 else if w = 6 then L 49 else if w = 7 then mFoul C lw L (mCells C) else if w = 8 then mTab C L else if w = 9 then mLks C L else if w = 10 then mSafe C lw L C.1 else L 50), fun g hg => ?_, fun g hg => ?_⟩
      · have hx := hg.xs hq hp
        have hst := hg.2.2.1
        unfold f_X11_most
        rw [x_told1 hg.1 hP hp]
        rcases (show w = 0 ∨ w = 1 ∨ w = 2 ∨ w = 3 ∨ w = 4 ∨ w = 5 ∨ w = 6 ∨ w = 7 ∨ w = 8 ∨ w = 9 ∨ w = 10 ∨ w = 11 by omega) with rfl | rfl | rfl | rfl | rfl | rfl | rfl | rfl | rfl | rfl | rfl | rfl <;>
        simp (disch := omega) only [zB, qi_lit, qi_inj, if_true, if_false, not_true_eq_false, not_false_eq_true, ite_true, ite_false, Nat.reduceAdd, Nat.reduceMul, Nat.reduceSub, Nat.reduceLT, Nat.reduceEqDiff, Nat.one_ne_zero, Nat.zero_ne_one, x_persons hg.1, x_secrets hg.1, x_first hq hg, hst.2.2.1, hst.2.2.2.1, hst.2.2.2.2.1, x_tables hq hx]
        all_goals first | exact qE_r | skip
        · obtain ⟨g', ze, f⟩ := x_foul hq hx
          rw [ze]; exact ⟨g', rfl, f.mono fun a k w => SX_W w⟩
        · obtain ⟨g', ze, f⟩ := x_lacksAll hq hx
          rw [ze]; exact ⟨g', rfl, f.mono fun a k w => SX_W w⟩
        · obtain ⟨g', ze, f⟩ := x_safe hq hx
          rw [ze]; exact ⟨g', rfl, f.mono fun a k w => SX_W w⟩
      · have hx := hg.ms hq hp
        have hk := hg.mk hq
        unfold f_X12_most
        rw [if_neg (m_told1 hq hg.1 hp), m_in1 (hi := 11) (n := 12) rfl hw (by omega)]
        have t0 := m_topSecret hq hk (w := 0) (by omega) hs1
        have t1 := m_topSecret hq hk (w := 1) (by omega) hs1
        rcases (show w = 0 ∨ w = 1 ∨ w = 2 ∨ w = 3 ∨ w = 4 ∨ w = 5 ∨ w = 6 ∨ w = 7 ∨ w = 8 ∨ w = 9 ∨ w = 10 ∨ w = 11 by omega) with rfl | rfl | rfl | rfl | rfl | rfl | rfl | rfl | rfl | rfl | rfl | rfl <;>
        simp (disch := omega) only [zB, qi_lit, qi_inj, if_true, if_false, not_true_eq_false, not_false_eq_true, ite_true, ite_false, Nat.reduceAdd, Nat.reduceMul, Nat.reduceSub, Nat.reduceLT, Nat.reduceEqDiff, Nat.one_ne_zero, Nat.zero_ne_one, m_topPerson hq hk, t0, t1, hg.N, m_tables hq hx]
        all_goals first | exact qE_r | skip
        · obtain ⟨g', ze, f⟩ := m_foul hq hx
          rw [ze]; exact ⟨g', rfl, f.mono fun a k w => SY_V w⟩
        · obtain ⟨g', ze, f⟩ := m_lacksAll hq hx
          rw [ze]; exact ⟨g', rfl, f.mono fun a k w => SY_V w⟩
        · obtain ⟨g', ze, f⟩ := m_safe hq hx
          rw [ze]; exact ⟨g', rfl, f.mono fun a k w => SY_V w⟩
    · refine ⟨-1, fun g hg => ?_, fun g hg => ?_⟩
      · unfold f_X11_most
        rw [x_told1 hg.1 hP hp]
        have n0 : ¬ x = 0 := q_neI (k := 0) q (by omega)
        have n1 : ¬ x = 1 := q_neI (k := 1) q (by omega)
        have n2 : ¬ x = 2 := q_neI (k := 2) q (by omega)
        have n3 : ¬ x = 3 := q_neI (k := 3) q (by omega)
        have n4 : ¬ x = 4 := q_neI (k := 4) q (by omega)
        have n5 : ¬ x = 5 := q_neI (k := 5) q (by omega)
        have n6 : ¬ x = 6 := q_neI (k := 6) q (by omega)
        have n7 : ¬ x = 7 := q_neI (k := 7) q (by omega)
        have n8 : ¬ x = 8 := q_neI (k := 8) q (by omega)
        have n9 : ¬ x = 9 := q_neI (k := 9) q (by omega)
        have n10 : ¬ x = 10 := q_neI (k := 10) q (by omega)
        have n11 : ¬ x = 11 := q_neI (k := 11) q (by omega)
        simp only [zB, if_neg n0, if_neg n1, if_neg n2, if_neg n3, if_neg n4, if_neg n5, if_neg n6, if_neg n7, if_neg n8, if_neg n9, if_neg n10, if_neg n11]
        exact qE_r
      · unfold f_X12_most
        rw [if_neg (m_told1 hq hg.1 hp), m_in0 (hi := 11) (n := 12) rfl q (by omega)]
        exact qE_r
  · refine ⟨-1, fun g hg => ?_, fun g hg => ?_⟩
    · unfold f_X11_most
      rw [x_told0 hg.1 hP hp]
      exact qE_r
    · unfold f_X12_most
      rw [if_pos (m_told0 hq hg.1 hp)]
      exact qE_r
theorem d_rule (hq : vQ C L) (x : Int32) : ∃ v, (∀ g, vQX C L lw g → qE SX g (f_X11_rule x g) v) ∧ (∀ g, vQM C L lw g → qE SY g (f_X12_rule x g) v) := by
  have hP := hq.1.1
  by_cases hp : 0 < C.1
  · by_cases q : mHas 4 x
    · obtain ⟨w, hw, rfl⟩ := q
      refine ⟨Int32.ofNat (if w = 0 then mW C else if w = 1 then mH C else if w = 2 then L 51 else L 52), fun g hg => ?_, fun g hg => ?_⟩
      · have hst := hg.2.2.1
        unfold f_X11_rule
        rw [x_told1 hg.1 hP hp]
        rcases (show w = 0 ∨ w = 1 ∨ w = 2 ∨ w = 3 by omega) with rfl | rfl | rfl | rfl <;>
        simp (disch := omega) only [zB, qi_lit, qi_inj, if_true, if_false, not_true_eq_false, not_false_eq_true, ite_true, ite_false, Nat.reduceAdd, Nat.reduceMul, Nat.reduceSub, Nat.reduceLT, Nat.reduceEqDiff, Nat.one_ne_zero, Nat.zero_ne_one, x_wide hg.1, x_rows hg.1, hst.2.2.2.2.2.1, hst.2.2.2.2.2.2.1] <;> exact qE_r
      · unfold f_X12_rule
        rw [if_neg (m_told1 hq hg.1 hp), m_in1 (hi := 3) (n := 4) rfl hw (by omega)]
        rcases (show w = 0 ∨ w = 1 ∨ w = 2 ∨ w = 3 by omega) with rfl | rfl | rfl | rfl <;>
        simp (disch := omega) only [zB, qi_lit, qi_inj, if_true, if_false, not_true_eq_false, not_false_eq_true, ite_true, ite_false, Nat.reduceAdd, Nat.reduceMul, Nat.reduceSub, Nat.reduceLT, Nat.reduceEqDiff, Nat.one_ne_zero, Nat.zero_ne_one, qi_zib, qi_ix, hg.1.1, hg.N] <;> exact qE_r
    · refine ⟨-1, fun g hg => ?_, fun g hg => ?_⟩
      · unfold f_X11_rule
        rw [x_told1 hg.1 hP hp]
        have n0 : ¬ x = 0 := q_neI (k := 0) q (by omega)
        have n1 : ¬ x = 1 := q_neI (k := 1) q (by omega)
        have n2 : ¬ x = 2 := q_neI (k := 2) q (by omega)
        have n3 : ¬ x = 3 := q_neI (k := 3) q (by omega)
        simp only [zB, if_neg n0, if_neg n1, if_neg n2, if_neg n3]
        exact qE_r
      · unfold f_X12_rule
        rw [if_neg (m_told1 hq hg.1 hp), m_in0 (hi := 3) (n := 4) rfl q (by omega)]
        exact qE_r
  · refine ⟨-1, fun g hg => ?_, fun g hg => ?_⟩
    · unfold f_X11_rule
      rw [x_told0 hg.1 hP hp]
      exact qE_r
    · unfold f_X12_rule
      rw [if_pos (m_told0 hq hg.1 hp)]
      exact qE_r
theorem d_secret (hq : vQ C L) (x y : Int32) : ∃ v, (∀ g, vQX C L lw g → qE SX g (f_X11_secret x y g) v) ∧ (∀ g, vQM C L lw g → qE SY g (f_X12_secret x y g) v) := by
  have hP := hq.1.1
  have hS := hq.1.2.1
  have h48 : L 48 < 64 := hq.2.1.1.2.2.2.1
  have h49 : L 49 < 64 := hq.2.1.1.2.2.2.2.1
  by_cases q : mHas C.2.1 x
  · obtain ⟨c, hc, rfl⟩ := q
    by_cases q : mHas 7 y
    · obtain ⟨w, hw, rfl⟩ := q
      refine ⟨Int32.ofNat (if w = 0 then mOwn C c else if w = 1 then mHvy C c else if w = 2 then mShed C c else if w = 3 then ((L 48).testBit c).toNat else if w = 4 then L (42 + c) else if w = 5 then ((L 49).testBit c).toNat else mKn C L c), fun g hg => ?_, fun g hg => ?_⟩
      · have hst := hg.2.2.1
        unfold f_X11_secret
        rw [x_hasSecret1 hg.1 hS hc]
        rcases (show w = 0 ∨ w = 1 ∨ w = 2 ∨ w = 3 ∨ w = 4 ∨ w = 5 ∨ w = 6 by omega) with rfl | rfl | rfl | rfl | rfl | rfl | rfl <;>
        simp (disch := omega) only [zB, qi_lit, qi_inj, if_true, if_false, not_true_eq_false, not_false_eq_true, ite_true, ite_false, Nat.reduceAdd, Nat.reduceMul, Nat.reduceSub, Nat.reduceLT, Nat.reduceEqDiff, Nat.one_ne_zero, Nat.zero_ne_one, x_owner hg.1, x_heavy hg.1, x_shed hg.1, x_hangs hst.2.2.1, x_isCured hst.2.2.2.1, q_get42, q_get44, hst.2.1, (hg.2.2.2 c (by omega) (q_63 (by omega))).1, mB_0]
        all_goals first | exact qE_r | skip
        · cases (L 48).testBit c
          · rw [if_pos rfl]; exact qE_r
          · rw [if_neg (by decide)]; exact qE_r
        · cases (L 49).testBit c
          · rw [if_pos rfl]; exact qE_r
          · rw [if_neg (by decide)]; exact qE_r
      · have hk := hg.mk hq
        have f0 := m_of (k := 0) hg.1 hS hc (by omega)
        have f1 := m_of (k := 1) hg.1 hS hc (by omega)
        unfold f_X12_secret
        rw [m_isSecret1 hg.1 hS hc]
        dsimp only [zB]
        rw [if_neg (by decide), m_in1 (hi := 6) (n := 7) rfl hw (by omega)]
        rcases (show w = 0 ∨ w = 1 ∨ w = 2 ∨ w = 3 ∨ w = 4 ∨ w = 5 ∨ w = 6 by omega) with rfl | rfl | rfl | rfl | rfl | rfl | rfl <;>
        simp (disch := omega) only [zB, qi_lit, qi_inj, if_true, if_false, not_true_eq_false, not_false_eq_true, ite_true, ite_false, Nat.reduceAdd, Nat.reduceMul, Nat.reduceSub, Nat.reduceLT, Nat.reduceEqDiff, Nat.one_ne_zero, Nat.zero_ne_one, f0, f1, m_shedOf hg.1 hS hc, m_hangs (hg.N 48 (by omega)), m_isRaw (hg.N 49 (by omega)), m_knownOf hk hc, qi_add, qi_zib, qi_ix, hg.N, mB_0]
        all_goals first | exact qE_r | skip
        · cases (L 48).testBit c
          · rw [if_pos rfl]; exact qE_r
          · rw [if_neg (by decide)]; exact qE_r
        · cases (L 49).testBit c
          · rw [if_neg (by decide)]; exact qE_r
          · rw [if_pos (by decide)]; exact qE_r
    · refine ⟨-1, fun g hg => ?_, fun g hg => ?_⟩
      · unfold f_X11_secret
        rw [x_hasSecret1 hg.1 hS hc]
        have n0 : ¬ y = 0 := q_neI (k := 0) q (by omega)
        have n1 : ¬ y = 1 := q_neI (k := 1) q (by omega)
        have n2 : ¬ y = 2 := q_neI (k := 2) q (by omega)
        have n3 : ¬ y = 3 := q_neI (k := 3) q (by omega)
        have n4 : ¬ y = 4 := q_neI (k := 4) q (by omega)
        have n5 : ¬ y = 5 := q_neI (k := 5) q (by omega)
        have n6 : ¬ y = 6 := q_neI (k := 6) q (by omega)
        simp only [zB, if_neg n0, if_neg n1, if_neg n2, if_neg n3, if_neg n4, if_neg n5, if_neg n6]
        exact qE_r
      · unfold f_X12_secret
        rw [m_isSecret1 hg.1 hS hc]
        dsimp only [zB]
        rw [if_neg (by decide), m_in0 (hi := 6) (n := 7) rfl q (by omega)]
        exact qE_r
  · refine ⟨-1, fun g hg => ?_, fun g hg => ?_⟩
    · unfold f_X11_secret
      rw [x_hasSecret0 hg.1 hS q]
      exact qE_r
    · unfold f_X12_secret
      rw [m_isSecret0 hg.1 hS q]
      exact qE_r
end Q4
