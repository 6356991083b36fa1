/-! ===== both sides: does the COAST stand; the COAST's TEXT ===== -/
def mAnd (f : Nat → Bool) (b : Bool) : Nat → Bool
  | 0 => b
  | n + 1 => mAnd f b n && f n
theorem mAnd_t {f : Nat → Bool} {b : Bool} : ∀ {n : Nat}, mAnd f b n = true → b = true ∧ ∀ i, i < n → f i = true
  | 0, h => ⟨h, fun i hi => by omega⟩
  | n + 1, h => by
    have h2 : (mAnd f b n && f n) = true := h
    rw [Bool.and_eq_true] at h2
    obtain ⟨h3, h4⟩ := mAnd_t h2.1
    refine ⟨h3, fun i hi => ?_⟩
    by_cases e : i = n
    · rw [e]; exact h2.2
    · exact h4 i (by omega)
def mWi (D : Nat → Nat) (o : Nat) : Bool := decide (D o < D 0 ∧ D (o + 1) < D 1)
def mStd (C : mC) : Bool := mAnd (fun c => mWi C.2.2 (23 + 4 * c + 2) && decide (C.2.2 (23 + 4 * c) < C.1)) (mAnd (fun p => mWi C.2.2 (5 + 3 * p)) (decide (2 ≤ C.1 ∧ 1 ≤ C.2.1)) C.1) C.2.1
theorem mB_and {a b : Bool} : mB a &&& mB b = mB (a && b) := by cases a <;> cases b <;> rfl
section AK
variable {T : mTk} {i : Nat} {C : mC} {g : zSg}
theorem x_isWithin {o : Nat} (h : vDX C g) (hb : ∀ k, k < 47 → C.2.2 k ≤ 99) (ho : o + 1 < 47) : f_X0_isWithin 7 (Int32.ofNat o) g = some (mB (mWi C.2.2 o), g) := by
  have get : ∀ k, k < 47 → f_X7_get 8 (Int32.ofNat k) g = some (Int32.ofNat (C.2.2 k), g) := fun k hk => by rw [q_get (a := 8) (n := 47) rfl (by decide) hk]; rw [h.2.2 k hk]
  have b1 := hb o (by omega)
  have b2 := hb (o + 1) (by omega)
  have b3 := hb 0 (by omega)
  have b4 := hb 1 (by omega)
  unfold f_X0_isWithin
  show zB (f_X7_get 8 (Int32.ofNat o) g) (fun v1 g2 => zB (f_X7_get 8 (Int32.ofNat 0) g2) (fun v4 g5 => if v4 ≤ v1 then some (0, g5) else zB (f_X7_get 8 (Int32.ofNat o + Int32.ofNat 1) g5) (fun v8 g9 => zB (f_X7_get 8 (Int32.ofNat 1) g9) (fun v11 g12 => if v11 ≤ v8 then some (0, g12) else some (1, g12))))) = _
  rw [get o (by omega), qB_s, get 0 (by omega), qB_s, qi_add, get (o + 1) (by omega), qB_s, get 1 (by omega), qB_s]
  simp (disch := omega) only [qi_le]
  unfold mWi
  by_cases q1 : C.2.2 0 ≤ C.2.2 o
  · rw [if_pos q1, decide_eq_false (by omega)]; rfl
  · by_cases q2 : C.2.2 1 ≤ C.2.2 (o + 1)
    · rw [if_neg q1, if_pos q2, decide_eq_false (by omega)]; rfl
    · rw [if_neg q1, if_neg q2, decide_eq_true (by omega)]; rfl
theorem x_stands (h : vDX C g) (hD : mDk C) : f_X0_stands 7 g = some (mB (mStd C), g) := by
  have hP := hD.1
  have hS := hD.2.1
  have hb := hD.2.2.1
  have sec : ∀ b : Bool, f_X0_stands_50 7 (mB b) g = some (mB (mAnd (fun c => mWi C.2.2 (23 + 4 * c + 2) && decide (C.2.2 (23 + 4 * c) < C.1)) b C.2.1), g) := fun b => by
    unfold f_X0_stands_50
    refine q_loop (F := fun m k g => f_X0_stands_52 7 m (mB (mAnd (fun c => mWi C.2.2 (23 + 4 * c + 2) && decide (C.2.2 (23 + 4 * c) < C.1)) b k)) (Int32.ofNat k) g) (N := C.2.1) (Inv := fun k g1 => g1 = g) (R := fun w => w = some (mB (mAnd (fun c => mWi C.2.2 (23 + 4 * c + 2) && decide (C.2.2 (23 + 4 * c) < C.1)) b C.2.1), g)) (by omega) ?_ ?_ (s := 0) (by omega) rfl
    · intro m g1 e
      subst e
      show fb_X0_stands_52 _ _ _ _ g1 = _
      unfold fb_X0_stands_52
      rw [show gI g1 7 3 = Int32.ofNat C.2.1 from h.2.1, if_pos (show Int32.ofNat C.2.1 ≤ Int32.ofNat C.2.1 by rw [qi_le (by omega) (by omega)]; exact Nat.le_refl _), mB_if]
    · intro m k g1 hk e ih
      subst e
      have ih2 := ih g1 rfl
      have b1 := hb (23 + 4 * k) (by omega)
      show fb_X0_stands_52 _ _ _ _ g1 = _
      unfold fb_X0_stands_52
      rw [show gI g1 7 3 = Int32.ofNat C.2.1 from h.2.1, if_neg (show ¬ Int32.ofNat C.2.1 ≤ Int32.ofNat k by rw [qi_le (by omega) (by omega)]; omega), show (23 : Int32) + 4 * Int32.ofNat k + 2 = Int32.ofNat (23 + 4 * k + 2) by
        show Int32.ofNat 23 + Int32.ofNat 4 * Int32.ofNat k + Int32.ofNat 2 = _
        rw [qi_mul, qi_add, qi_add], x_isWithin h hb (by omega), qB_s]
      have key : ∀ w : Bool, f_X0_stands_93 7 (f_X0_stands_52 7 m) (Int32.ofNat k) (mB w) (mB (mAnd (fun c => mWi C.2.2 (23 + 4 * c + 2) && decide (C.2.2 (23 + 4 * c) < C.1)) b k)) g1 = f_X0_stands_52 7 m (mB (mAnd (fun c => mWi C.2.2 (23 + 4 * c + 2) && decide (C.2.2 (23 + 4 * c) < C.1)) b k && w)) (Int32.ofNat (k + 1)) g1 := fun w => by
        unfold f_X0_stands_93
        rw [mB_and, show Int32.ofNat k + 1 = Int32.ofNat (k + 1) from qi_add k 1]
      have own : f_X0_owner 7 (Int32.ofNat k) g1 = some (Int32.ofNat (C.2.2 (23 + 4 * k)), g1) := by
        unfold f_X0_owner
        rw [show (23 : Int32) + 4 * Int32.ofNat k = Int32.ofNat (23 + 4 * k) by
          show Int32.ofNat 23 + Int32.ofNat 4 * Int32.ofNat k = _
          rw [qi_mul, qi_add], q_get (a := 8) (n := 47) rfl (by decide) (by omega), qB_s, h.2.2 _ (by omega)]
      have ih3 : f_X0_stands_52 7 m (mB (mAnd (fun c => mWi C.2.2 (23 + 4 * c + 2) && decide (C.2.2 (23 + 4 * c) < C.1)) b k && (mWi C.2.2 (23 + 4 * k + 2) && decide (C.2.2 (23 + 4 * k) < C.1)))) (Int32.ofNat (k + 1)) g1 = _ := ih2
      cases e1 : mWi C.2.2 (23 + 4 * k + 2) with
      | false =>
        rw [if_pos (by decide)]
        show f_X0_stands_93 7 (f_X0_stands_52 7 m) (Int32.ofNat k) (mB false) _ g1 = _
        rw [key false]
        rw [e1, Bool.false_and] at ih3
        exact ih3
      | true =>
        rw [e1, Bool.true_and] at ih3
        rw [if_neg (by decide), own, qB_s, show gI g1 7 2 = Int32.ofNat C.1 from h.1]
        simp (disch := omega) only [qi_le]
        by_cases q : C.1 ≤ C.2.2 (23 + 4 * k)
        · rw [if_pos q]
          rw [decide_eq_false (by omega)] at ih3
          show f_X0_stands_93 7 (f_X0_stands_52 7 m) (Int32.ofNat k) (mB false) _ g1 = _
          rw [key false]
          exact ih3
        · rw [if_neg q]
          rw [decide_eq_true (by omega)] at ih3
          show f_X0_stands_93 7 (f_X0_stands_52 7 m) (Int32.ofNat k) (mB true) _ g1 = _
          rw [key true]
          exact ih3
  have per : ∀ b : Bool, f_X0_stands_21 7 (mB b) g = some (mB (mAnd (fun c => mWi C.2.2 (23 + 4 * c + 2) && decide (C.2.2 (23 + 4 * c) < C.1)) (mAnd (fun p => mWi C.2.2 (5 + 3 * p)) b C.1) C.2.1), g) := fun b => by
    unfold f_X0_stands_21
    refine q_loop (F := fun m k g => f_X0_stands_24 7 m (mB (mAnd (fun p => mWi C.2.2 (5 + 3 * p)) b k)) (Int32.ofNat k) g) (N := C.1) (Inv := fun k g1 => g1 = g) (R := fun w => w = some (mB (mAnd (fun c => mWi C.2.2 (23 + 4 * c + 2) && decide (C.2.2 (23 + 4 * c) < C.1)) (mAnd (fun p => mWi C.2.2 (5 + 3 * p)) b C.1) C.2.1), g)) (by omega) ?_ ?_ (s := 0) (by omega) rfl
    · intro m g1 e
      subst e
      show fb_X0_stands_24 _ _ _ _ g1 = _
      unfold fb_X0_stands_24
      rw [show gI g1 7 2 = Int32.ofNat C.1 from h.1, if_pos (show Int32.ofNat C.1 ≤ Int32.ofNat C.1 by rw [qi_le (by omega) (by omega)]; exact Nat.le_refl _), sec]
    · intro m k g1 hk e ih
      subst e
      show fb_X0_stands_24 _ _ _ _ g1 = _
      unfold fb_X0_stands_24
      rw [show gI g1 7 2 = Int32.ofNat C.1 from h.1, if_neg (show ¬ Int32.ofNat C.1 ≤ Int32.ofNat k by rw [qi_le (by omega) (by omega)]; omega), show (5 : Int32) + 3 * Int32.ofNat k = Int32.ofNat (5 + 3 * k) by
        show Int32.ofNat 5 + Int32.ofNat 3 * Int32.ofNat k = _
        rw [qi_mul, qi_add], x_isWithin h hb (by omega), qB_s, mB_and, show Int32.ofNat k + 1 = Int32.ofNat (k + 1) from qi_add k 1]
      exact ih g1 rfl
  unfold f_X0_stands
  rw [show gI g 7 2 = Int32.ofNat C.1 from h.1, show gI g 7 3 = Int32.ofNat C.2.1 from h.2.1, show (2 : Int32) = Int32.ofNat 2 from rfl, show (1 : Int32) = Int32.ofNat 1 from rfl]
  simp (disch := omega) only [qi_lt]
  unfold mStd
  by_cases q1 : C.1 < 2
  · rw [if_pos q1, decide_eq_false (by omega)]
    exact per false
  · by_cases q2 : C.2.1 < 1
    · rw [if_neg q1, if_pos q2, decide_eq_false (by omega)]
      exact per false
    · rw [if_neg q1, if_neg q2, decide_eq_true (by omega)]
      exact per true
theorem m_isWhole (h : vDM C g) (hD : mDk C) : f_X12_isWhole g = some (mB (mStd C), g) := by
  have hP := hD.1
  have hS := hD.2.1
  have hb := hD.2.2.1
  obtain ⟨v20, v21, v37, v38, v39⟩ := h
  have w0 := v37 0 (by omega)
  have w1 := v37 1 (by omega)
  have b3 := hb 0 (by omega)
  have b4 := hb 1 (by omega)
  have sec : ∀ b : Bool, f_X12_isWhole_85 (mB b) g = some (mB (mAnd (fun c => mWi C.2.2 (23 + 4 * c + 2) && decide (C.2.2 (23 + 4 * c) < C.1)) b C.2.1), g) := fun b => by
    unfold f_X12_isWhole_85
    refine q_loop (F := fun m k g => f_X12_isWhole_87 m (mB (mAnd (fun c => mWi C.2.2 (23 + 4 * c + 2) && decide (C.2.2 (23 + 4 * c) < C.1)) b k)) (Int32.ofNat k) g) (N := C.2.1) (Inv := fun k g1 => g1 = g) (R := fun w => w = some (mB (mAnd (fun c => mWi C.2.2 (23 + 4 * c + 2) && decide (C.2.2 (23 + 4 * c) < C.1)) b C.2.1), g)) (by omega) ?_ ?_ (s := 0) (by omega) rfl
    · intro m g1 e
      subst e
      show fb_X12_isWhole_87 _ _ _ g1 = _
      unfold fb_X12_isWhole_87
      rw [show gI g1 526 21 = Int32.ofNat C.2.1 from v21, if_pos (show Int32.ofNat C.2.1 ≤ Int32.ofNat C.2.1 by rw [qi_le (by omega) (by omega)]; exact Nat.le_refl _), mB_if]
    · intro m k g1 hk e ih
      subst e
      have ih2 : f_X12_isWhole_87 m (mB (mAnd (fun c => mWi C.2.2 (23 + 4 * c + 2) && decide (C.2.2 (23 + 4 * c) < C.1)) b k && (mWi C.2.2 (23 + 4 * k + 2) && decide (C.2.2 (23 + 4 * k) < C.1)))) (Int32.ofNat (k + 1)) g1 = _ := ih g1 rfl
      have fin : ∀ w : Bool, f_X12_isWhole_159 (f_X12_isWhole_87 m) (Int32.ofNat k) (mB w) g1 = f_X12_isWhole_87 m (mB w) (Int32.ofNat (k + 1)) g1 := fun w => by
        unfold f_X12_isWhole_159
        rw [show Int32.ofNat k + 1 = Int32.ofNat (k + 1) from qi_add k 1]
      show fb_X12_isWhole_87 _ _ _ g1 = _
      unfold fb_X12_isWhole_87
      rw [show gI g1 526 21 = Int32.ofNat C.2.1 from v21, if_neg (show ¬ Int32.ofNat C.2.1 ≤ Int32.ofNat k by rw [qi_le (by omega) (by omega)]; omega)]
      generalize mAnd (fun c => mWi C.2.2 (23 + 4 * c + 2) && decide (C.2.2 (23 + 4 * c) < C.1)) b k = a at ih2 ⊢
      cases a with
      | false =>
        rw [Bool.false_and] at ih2
        rw [if_pos (by decide)]
        show f_X12_isWhole_159 _ _ (mB false) _ = _
        rw [fin]
        exact ih2
      | true =>
        rw [Bool.true_and] at ih2
        rw [if_neg (by decide)]
        have e0 : (4 : Int32) * Int32.ofNat k + 0 = Int32.ofNat (4 * k + 0) := (congrArg (· + Int32.ofNat 0) (qi_mul 4 k)).trans (qi_add _ _)
        have e2 : (4 : Int32) * Int32.ofNat k + 2 = Int32.ofNat (4 * k + 2) := (congrArg (· + Int32.ofNat 2) (qi_mul 4 k)).trans (qi_add _ _)
        have e3 : (4 : Int32) * Int32.ofNat k + 3 = Int32.ofNat (4 * k + 3) := (congrArg (· + Int32.ofNat 3) (qi_mul 4 k)).trans (qi_add _ _)
        have c0 := hb (23 + 4 * k + 0) (by omega)
        have c2 := hb (23 + 4 * k + 2) (by omega)
        have c3 := hb (23 + 4 * k + 3) (by omega)
        rw [e0, e2, e3, if_pos (qi_zib (by omega) (by omega)), if_pos (qi_zib (by omega) (by omega)), if_pos (qi_zib (by omega) (by omega)), qi_ix (by omega), qi_ix (by omega), qi_ix (by omega), show gI g1 539 (4 * k + 0) = _ from v39 k 0 hk (by omega), show gI g1 539 (4 * k + 2) = _ from v39 k 2 hk (by omega), show gI g1 539 (4 * k + 3) = _ from v39 k 3 hk (by omega), show gI g1 526 20 = _ from v20, show gI g1 537 0 = _ from w0, show gI g1 537 1 = _ from w1]
        simp (disch := omega) only [qi_le]
        by_cases q1 : C.1 ≤ C.2.2 (23 + 4 * k + 0)
        · rw [if_pos q1]
          rw [decide_eq_false (show ¬ C.2.2 (23 + 4 * k) < C.1 from fun w => absurd (show C.1 ≤ C.2.2 (23 + 4 * k) from q1) (by omega)), Bool.and_false] at ih2
          show f_X12_isWhole_159 _ _ (mB false) _ = _
          rw [fin]
          exact ih2
        · rw [if_neg q1]
          rw [decide_eq_true (show C.2.2 (23 + 4 * k) < C.1 from Nat.lt_of_not_le q1), Bool.and_true] at ih2
          unfold mWi at ih2
          by_cases q2 : C.2.2 0 ≤ C.2.2 (23 + 4 * k + 2)
          · rw [if_pos q2]
            rw [decide_eq_false (by omega)] at ih2
            show f_X12_isWhole_159 _ _ (mB false) _ = _
            rw [fin]
            exact ih2
          · rw [if_neg q2]
            by_cases q3 : C.2.2 1 ≤ C.2.2 (23 + 4 * k + 3)
            · rw [if_pos q3]
              rw [decide_eq_false (show ¬ (C.2.2 (23 + 4 * k + 2) < C.2.2 0 ∧ C.2.2 (23 + 4 * k + 2 + 1) < C.2.2 1) from fun w => absurd (show C.2.2 (23 + 4 * k + 3) < C.2.2 1 from w.2) (by omega))] at ih2
              show f_X12_isWhole_159 _ _ (mB false) _ = _
              rw [fin]
              exact ih2
            · rw [if_neg q3]
              rw [decide_eq_true (show C.2.2 (23 + 4 * k + 2) < C.2.2 0 ∧ C.2.2 (23 + 4 * k + 2 + 1) < C.2.2 1 from ⟨by omega, Nat.lt_of_not_le q3⟩)] at ih2
              show f_X12_isWhole_159 _ _ (mB true) _ = _
              rw [fin]
              exact ih2
  have per : ∀ b : Bool, f_X12_isWhole_20 (mB b) g = some (mB (mAnd (fun c => mWi C.2.2 (23 + 4 * c + 2) && decide (C.2.2 (23 + 4 * c) < C.1)) (mAnd (fun p => mWi C.2.2 (5 + 3 * p)) b C.1) C.2.1), g) := fun b => by
    unfold f_X12_isWhole_20
    refine q_loop (F := fun m k g => f_X12_isWhole_23 m (mB (mAnd (fun p => mWi C.2.2 (5 + 3 * p)) b k)) (Int32.ofNat k) g) (N := C.1) (Inv := fun k g1 => g1 = g) (R := fun w => w = some (mB (mAnd (fun c => mWi C.2.2 (23 + 4 * c + 2) && decide (C.2.2 (23 + 4 * c) < C.1)) (mAnd (fun p => mWi C.2.2 (5 + 3 * p)) b C.1) C.2.1), g)) (by omega) ?_ ?_ (s := 0) (by omega) rfl
    · intro m g1 e
      subst e
      show fb_X12_isWhole_23 _ _ _ g1 = _
      unfold fb_X12_isWhole_23
      rw [show gI g1 526 20 = Int32.ofNat C.1 from v20, if_pos (show Int32.ofNat C.1 ≤ Int32.ofNat C.1 by rw [qi_le (by omega) (by omega)]; exact Nat.le_refl _), sec]
    · intro m k g1 hk e ih
      subst e
      have ih2 : f_X12_isWhole_23 m (mB (mAnd (fun p => mWi C.2.2 (5 + 3 * p)) b k && mWi C.2.2 (5 + 3 * k))) (Int32.ofNat (k + 1)) g1 = _ := ih g1 rfl
      have fin : ∀ w : Bool, f_X12_isWhole_78 (f_X12_isWhole_23 m) (Int32.ofNat k) (mB w) g1 = f_X12_isWhole_23 m (mB w) (Int32.ofNat (k + 1)) g1 := fun w => by
        unfold f_X12_isWhole_78
        rw [show Int32.ofNat k + 1 = Int32.ofNat (k + 1) from qi_add k 1]
      show fb_X12_isWhole_23 _ _ _ g1 = _
      unfold fb_X12_isWhole_23
      rw [show gI g1 526 20 = Int32.ofNat C.1 from v20, if_neg (show ¬ Int32.ofNat C.1 ≤ Int32.ofNat k by rw [qi_le (by omega) (by omega)]; omega)]
      generalize mAnd (fun p => mWi C.2.2 (5 + 3 * p)) b k = a at ih2 ⊢
      cases a with
      | false =>
        rw [Bool.false_and] at ih2
        rw [if_pos (by decide)]
        show f_X12_isWhole_78 _ _ (mB false) _ = _
        rw [fin]
        exact ih2
      | true =>
        rw [Bool.true_and] at ih2
        rw [if_neg (by decide)]
        have e0 : (3 : Int32) * Int32.ofNat k + 0 = Int32.ofNat (3 * k + 0) := (congrArg (· + Int32.ofNat 0) (qi_mul 3 k)).trans (qi_add _ _)
        have e1 : (3 : Int32) * Int32.ofNat k + 1 = Int32.ofNat (3 * k + 1) := (congrArg (· + Int32.ofNat 1) (qi_mul 3 k)).trans (qi_add _ _)
        have c0 := hb (5 + 3 * k + 0) (by omega)
        have c1 := hb (5 + 3 * k + 1) (by omega)
        rw [e0, e1, if_pos (qi_zib (by omega) (by omega)), if_pos (qi_zib (by omega) (by omega)), qi_ix (by omega), qi_ix (by omega), show gI g1 538 (3 * k + 0) = _ from v38 k 0 hk (by omega), show gI g1 538 (3 * k + 1) = _ from v38 k 1 hk (by omega), show gI g1 537 0 = _ from w0, show gI g1 537 1 = _ from w1]
        simp (disch := omega) only [qi_le]
        unfold mWi at ih2
        by_cases q2 : C.2.2 0 ≤ C.2.2 (5 + 3 * k + 0)
        · rw [if_pos q2]
          rw [decide_eq_false (show ¬ (C.2.2 (5 + 3 * k) < C.2.2 0 ∧ C.2.2 (5 + 3 * k + 1) < C.2.2 1) from fun w => absurd (show C.2.2 0 ≤ C.2.2 (5 + 3 * k) from q2) (by omega))] at ih2
          show f_X12_isWhole_78 _ _ (mB false) _ = _
          rw [fin]
          exact ih2
        · rw [if_neg q2]
          by_cases q3 : C.2.2 1 ≤ C.2.2 (5 + 3 * k + 1)
          · rw [if_pos q3]
            rw [decide_eq_false (by omega)] at ih2
            show f_X12_isWhole_78 _ _ (mB false) _ = _
            rw [fin]
            exact ih2
          · rw [if_neg q3]
            rw [decide_eq_true (show C.2.2 (5 + 3 * k) < C.2.2 0 ∧ C.2.2 (5 + 3 * k + 1) < C.2.2 1 from ⟨Nat.lt_of_not_le q2, by omega⟩)] at ih2
            show f_X12_isWhole_78 _ _ (mB true) _ = _
            rw [fin]
            exact ih2
  unfold f_X12_isWhole
  rw [show gI g 526 20 = Int32.ofNat C.1 from v20, show gI g 526 21 = Int32.ofNat C.2.1 from v21, show (0 : Int32) = Int32.ofNat 0 from rfl, show (1 : Int32) = Int32.ofNat 1 from rfl]
  simp (disch := omega) only [qi_le]
  unfold mStd
  by_cases q1 : C.1 ≤ 1
  · rw [if_pos q1, decide_eq_false (by omega)]
    exact per false
  · by_cases q2 : C.2.1 ≤ 0
    · rw [if_neg q1, if_pos q2, decide_eq_false (by omega)]
      exact per false
    · rw [if_neg q1, if_neg q2, decide_eq_true (by omega)]
      exact per true
theorem mDk.wf (hD : mDk C) (h : mStd C = true) : mWf C := by
  obtain ⟨h1, h2, h3, h4, h5, h6⟩ := hD
  obtain ⟨a1, a2⟩ := mAnd_t h
  obtain ⟨a3, a4⟩ := mAnd_t a1
  have a5 := of_decide_eq_true a3
  have w0 := h4 0 (by omega)
  have w1 := h4 1 (by omega)
  have w4 := h4 4 (by omega)
  have q0 : mItLo (0 + 0) = 2 ∧ mItHi (0 + 0) = 6 ∧ mItLo (0 + 1) = 2 ∧ mItHi (0 + 1) = 5 ∧ mItHi (0 + 4) = 3 ∧ mItLo (5 + 2) = 1 ∧ mItHi (5 + 2) = 9 ∧ mItLo (8 + 1) = 1 ∧ mItHi (8 + 1) = 9 := by decide
  refine ⟨h1, h2, by unfold mW; omega, by unfold mH; omega, h3, fun w => by omega, fun _ => ⟨a5.1, a5.2, by unfold mW; omega, by unfold mH; omega, by omega, fun p hp => ?_, fun c hc => ?_⟩⟩
  · have b1 := of_decide_eq_true (a4 p hp)
    have b2 := h5 p 2 hp (by omega)
    unfold mW mH mNose
    exact ⟨b1.1, b1.2, by omega, by omega⟩
  · have b0 := a2 c hc
    rw [Bool.and_eq_true] at b0
    have b1 := of_decide_eq_true b0.1
    have b3 := of_decide_eq_true b0.2
    have b2 := h6 c 1 hc (by omega)
    unfold mW mH mHvy mOwn
    exact ⟨b3, by omega, by omega, b1.1, b1.2⟩
end AK
