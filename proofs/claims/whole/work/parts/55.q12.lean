/-! ===== the class: KEPT: numbers ===== -/
theorem mSmk_ge {C : mC} {lw : mLaw} {o c i : Nat} {L : mL} (h1 : 6 ≤ i) (h2 : i < 42) (h : L i ≤ 99) : L i ≤ mSmk C lw o c L i ∧ mSmk C lw o c L i ≤ 99 := by
  unfold mSmk
  split
  · show L i ≤ (if i = 51 then _ else if i = 42 + c then _ else _) ∧ (if i = 51 then _ else if i = 42 + c then _ else _) ≤ 99
    rw [if_neg (by omega), if_neg (by omega)]
    split <;> omega
  · omega
theorem mSmoke_ge {C : mC} {lw : mLaw} {o n i : Nat} {L : mL} (h1 : 6 ≤ i) (h2 : i < 42) (h : L i ≤ 99) : L i ≤ mSmoke C lw o L n i ∧ mSmoke C lw o L n i ≤ 99 := by
  induction n with
  | zero => exact ⟨Nat.le_refl _, h⟩
  | succ n ih =>
    have := @mSmk_ge C lw o n i (mSmoke C lw o L n) h1 h2 ih.2
    exact ⟨Nat.le_trans ih.1 this.1, this.2⟩
theorem mNight_ge {C : mC} {lw : mLaw} {i : Nat} {L : mL} (h1 : 6 ≤ i) (h2 : i < 42) (h : L i ≤ 99) : L i ≤ mNight C lw L i := by
  have h3 := @mSmoke_ge C lw (L 51) C.2.1 i L h1 h2 h
  have h4 : mN2 C lw L i = mSmoke C lw (L 51) L C.2.1 i := mCure_n (by omega) (by omega)
  rw [mNight_n (by omega) (by omega)]
  unfold mTell
  split
  · rw [h4]; omega
  · rw [h4]; exact h3.1
theorem mKn_st {nb c who w : Nat} {C : mC} {lw : mLaw} {L : mL} (hC : mWf C) (hL : mLf nb C L) (hc : c < 6) (h : mKn C L c &&& who ≠ 0) : mKn C (mNight C lw (mLw L w)) c &&& who ≠ 0 := by
  have hP := hC.1
  obtain ⟨p, hp⟩ := q_ne0.mp h
  refine q_ne0.mpr ⟨p, ?_⟩
  rw [Nat.testBit_and, mKn_tb, Bool.and_eq_true, Bool.and_eq_true] at *
  obtain ⟨⟨p1, p2⟩, p3⟩ := hp
  have p1' := of_decide_eq_true p1
  refine ⟨⟨p1, ?_⟩, p3⟩
  have hb := hL.1.2.1 (6 + 6 * p + c) (by omega) (by omega)
  have h2 := @mNight_ge C lw (6 + 6 * p + c) (mLw L w) (by omega) (by omega) (by rw [mLw_n (by omega)]; exact hb)
  rw [mLw_n (by omega)] at h2
  unfold mKnows at *
  rw [Bool.and_eq_true, Bool.or_eq_true, decide_eq_true_eq, decide_eq_true_eq, decide_eq_true_eq] at *
  omega
theorem q_d4 {x k : Nat} : x / 4 ^ (k + 1) = x / 4 ^ k / 4 := by rw [Nat.pow_succ, Nat.div_div_eq_div_mul]
theorem mRun_kn {c who : Nat} {C : mC} {lw : mLaw} {L : mL} (hC : mWf C) (hL : mLf 999 C L) (hc : c < 6) {d : Nat} : ∀ k y, mKn C (mRun C lw L d (y / 4 ^ k)) c &&& who ≠ 0 → mKn C (mRun C lw L (d + k) y) c &&& who ≠ 0 := by
  intro k
  induction k with
  | zero => intro y h; rwa [Nat.pow_zero, Nat.div_one] at h
  | succ k ih =>
    intro y h
    refine mKn_st hC (mRun_lf hC hL (d + k) (y / 4)) hc (ih (y / 4) ?_)
    rwa [Nat.div_div_eq_div_mul, Nat.mul_comm, ← Nat.pow_succ]
theorem mFs_skip {P : Nat → Bool} {x : Nat} : ∀ j, (∀ y, x ≤ y → y < x + j → P y = false) → mFs P (x + j) = mFs P x ∧ mCnt P (x + j) = mCnt P x := by
  intro j
  induction j with
  | zero => intro _; exact ⟨rfl, rfl⟩
  | succ j ih =>
    intro h
    obtain ⟨h1, h2⟩ := ih (fun y q1 q2 => h y q1 (by omega))
    have h3 := h (x + j) (by omega) (by omega)
    refine ⟨?_, ?_⟩
    · rw [← h1, show x + (j + 1) = x + j + 1 by omega, mFs_s, h3]
      cases mFs P (x + j) <;> rfl
    · rw [← h2]
      show mCnt P (x + j) + (if P (x + j) then 1 else 0) = _
      rw [h3]
      rfl
theorem q_mask {x k : Nat} : x ||| (2 ^ k - 1) = 2 ^ k * (x / 2 ^ k) + (2 ^ k - 1) := by
  have hk := Nat.two_pow_pos k
  refine Nat.eq_of_testBit_eq fun i => ?_
  rw [Nat.testBit_or, Nat.testBit_two_pow_sub_one, Nat.testBit_two_pow_mul_add _ (by omega), Nat.testBit_two_pow_sub_one]
  by_cases q : i < k
  · rw [if_pos q, decide_eq_true q, Bool.or_true]
  · rw [if_neg q, decide_eq_false q, Bool.or_false, Nat.testBit_div_two_pow]
    congr 1
    omega
theorem q_sdiv {x D : Nat} (hD : 0 < D) (h : (x + 1) % D ≠ 0) : (x + 1) / D = x / D := by
  have h1 := Nat.div_add_mod (x + 1) D
  have h2 := Nat.mod_lt (x + 1) hD
  have h3 : x = D * ((x + 1) / D) + ((x + 1) % D - 1) := by omega
  have h4 : x / D = (D * ((x + 1) / D) + ((x + 1) % D - 1)) / D := congrArg (· / D) h3
  have h5 : ((x + 1) % D - 1) / D = 0 := Nat.div_eq_of_lt (by omega)
  rw [h4, Nat.mul_add_div hD, h5]
  rfl
theorem q_dvd {B x a b : Nat} (hab : a ≤ b) (h : x % B ^ a ≠ 0) : x % B ^ b ≠ 0 := fun w => h (Nat.mod_eq_zero_of_dvd (Nat.dvd_trans (Nat.pow_dvd_pow B hab) (Nat.dvd_of_mod_eq_zero w)))
section Q12
variable {C : mC} {L : mL} {lw : mLaw}
theorem x_pick431 {x : Nat} {g : zSg} (hx : x < 7) : f_X8_pick 431 (Int32.ofNat x) g = some (some (443 + 9 * x), g) := by
  unfold f_X8_pick
  rw [show (zK0 431).2 = 7 from rfl]
  simp (disch := omega) only [qi_lit, qi_add, qi_mul, qi_sub, qi_lt, qi_le, qi_inj, qi_ne1, qi_ne1', qi_ix, if_neg (show ¬ x < 0 by omega), if_neg (show ¬ 7 ≤ x by omega), qi_zib, if_true]
  have : zR0 g.2.2.2 431 x = some (443 + 9 * x) := by
    unfold zR0
    rw [show (zK0 431).1 = 16 from rfl]
    show (if (431 : Nat) = 49 then (if x < 40 then some (63 + 9 * x) else none) else (if x < 7 then some (443 + 9 * x) else none)) = _
    rw [if_neg (by decide), if_pos hx]
  rw [this]
/-- the first digit that is another than the row's before -/
theorem x_fnew {x n s : Nat} (hs : s = 1 ∨ s = 2) (hn : n ≤ 6) (hx : x < 10000) {g : zSg} : ∃ f, (f ≤ n - 1 ∧ (0 < f → x % (2 ^ s) ^ (n - f) ≠ 0)) ∧ f_X3_firstNew (Int32.ofNat x) (Int32.ofNat n) (Int32.ofNat s) g = some (Int32.ofNat f, g) := by
  by_cases hn0 : n = 0
  · subst hn0
    exact ⟨0, ⟨Nat.zero_le _, fun w => by omega⟩, by rcases hs with rfl | rfl <;> rfl⟩
  unfold f_X3_firstNew
  rw [show (Int32.ofNat n - 1 : Int32) = Int32.ofNat (n - 1 - 0) by show Int32.ofNat n - Int32.ofNat 1 = _; rw [qi_sub (by omega)]; rfl]
  refine q_loop (F := fun nn t g => f_X3_firstNew_7 nn (Int32.ofNat x) (Int32.ofNat n) (Int32.ofNat s) (Int32.ofNat (n - 1 - t)) (Int32.ofNat t) g) (N := n - 1) (Inv := fun t g' => g' = g) (R := fun r => ∃ f, (f ≤ n - 1 ∧ (0 < f → x % (2 ^ s) ^ (n - f) ≠ 0)) ∧ r = some (Int32.ofNat f, g)) (by omega) ?_ ?_ (Nat.zero_le _) rfl
  · rintro nn g' rfl
    refine ⟨0, ⟨Nat.zero_le _, fun w => by omega⟩, ?_⟩
    show fb_X3_firstNew_7 _ _ _ _ _ _ _ = _
    unfold fb_X3_firstNew_7 f_X3_firstNew_41
    simp (disch := omega) only [qi_lit, qi_le, qi_imax, if_neg (show ¬ n ≤ n - 1 by omega), Nat.sub_self, Nat.le_refl, if_true, Nat.max_self]
  · rintro nn t g' ht rfl ih
    show ∃ f, _ ∧ fb_X3_firstNew_7 _ _ _ _ _ _ _ = _
    unfold fb_X3_firstNew_7 f_X3_firstNew_41
    have hs' : s < 32 := by omega
    have hst : s * t < 32 := by rcases hs with rfl | rfl <;> omega
    have em : (Int32.ofNat 1 <<< (Int32.ofNat s &&& Int32.ofNat 31)) - Int32.ofNat 1 = Int32.ofNat (2 ^ s - 1) := by
      rw [qi_shl hs', Nat.one_shiftLeft, qi_sub (Nat.two_pow_pos s)]
    have hm : x / 2 ^ (s * t) % 2 ^ s < 10000 := by rcases hs with rfl | rfl <;> omega
    simp (disch := omega) only [qi_lit, qi_le, qi_mul, if_neg (show ¬ n ≤ t by omega), if_neg (show ¬ n - 1 - t ≤ 0 by omega), qi_shr, em]
    simp (disch := omega) only [qi_and, Nat.and_two_pow_sub_one_eq_mod, Nat.shiftRight_eq_div_pow, qi_inj]
    by_cases q : x / 2 ^ (s * t) % 2 ^ s = 0
    · rw [if_neg (fun w => w q), qi_dec (by omega), Nat.sub_sub _ t 1, qi_add]
      exact ih g' rfl
    · rw [if_pos q]
      refine ⟨n - 1 - t, ⟨by omega, fun _ => ?_⟩, ?_⟩
      · rw [show n - (n - 1 - t) = t + 1 by omega, ← Nat.pow_mul, Nat.mul_add, Nat.mul_one, Nat.pow_add, Nat.mod_mul]
        have := Nat.mul_ne_zero (Nat.ne_of_gt (Nat.two_pow_pos (s * t))) q
        omega
      · rw [qi_imax (by omega) (by omega), Nat.max_eq_right (Nat.zero_le _)]
theorem x_digits {x n : Nat} (hn : n ≤ 6) (hx : x < 10000) (hx4 : x < 4 ^ n) {g : zSg} : f_X3_digits (Int32.ofNat x) (Int32.ofNat n) g = some (Int32.ofNat (mDec n x), g) := by
  unfold f_X3_digits
  have e0 : (Int32.ofNat n - 1 : Int32) = Int32.ofInt ((n : Int) - 1 - (0 : Nat)) := by
    show Int32.ofNat n - Int32.ofNat 1 = _
    rw [qj_of n, qj_of 1, qj_sub]
    congr 1
    omega
  have e1 : mDec 0 (x / 4 ^ (n - 0)) = 0 := rfl
  rw [e0, show (0 : Int32) = Int32.ofNat (mDec 0 (x / 4 ^ (n - 0))) from rfl]
  refine q_loop (F := fun nn j g => f_X3_digits_6 nn (Int32.ofNat x) (Int32.ofNat (mDec j (x / 4 ^ (n - j)))) (Int32.ofInt ((n : Int) - 1 - j)) g) (N := n) (Inv := fun t g' => g' = g) (R := fun r => r = some (Int32.ofNat (mDec n x), g)) (by omega) ?_ ?_ (Nat.zero_le _) rfl
  · rintro nn g' rfl
    show fb_X3_digits_6 _ _ _ _ _ = _
    unfold fb_X3_digits_6
    rw [Nat.sub_self, Nat.pow_zero, Nat.div_one, show (n : Int) - 1 - n = -1 by omega, if_pos (by decide)]
  · rintro nn j g' hj rfl ih
    show fb_X3_digits_6 _ _ _ _ _ = _
    unfold fb_X3_digits_6
    have ej : Int32.ofInt ((n : Int) - 1 - j) = Int32.ofNat (n - 1 - j) := by rw [qj_of]; congr 1; omega
    have e2 : Int32.ofNat (n - 1 - j) + - Int32.ofNat 1 = Int32.ofInt ((n : Int) - 1 - (j + 1 : Nat)) := by
      rw [← ej, qi_neg, qj_add]
      congr 1
      omega
    rw [ej]
    simp (disch := omega) only [qi_lit, qi_lt, if_neg (show ¬ n - 1 - j < 0 by omega), qi_mul, e2]
    rw [qi_shr (by omega) (by omega), qi_and]
    have e3 : (x >>> (2 * (n - 1 - j))) &&& 3 = x / 4 ^ (n - (j + 1)) % 4 := by
      rw [show (3 : Nat) = 2 ^ 2 - 1 from rfl, Nat.and_two_pow_sub_one_eq_mod, Nat.shiftRight_eq_div_pow, Nat.pow_mul, show n - 1 - j = n - (j + 1) by omega]
    have e4 : mDec (j + 1) (x / 4 ^ (n - (j + 1))) = mDec j (x / 4 ^ (n - j)) * 10 + x / 4 ^ (n - (j + 1)) % 4 := by
      show 10 * mDec j (x / 4 ^ (n - (j + 1)) / 4) + _ = _
      rw [← q_d4, show n - (j + 1) + 1 = n - j by omega, Nat.mul_comm]
    rw [e3, qi_add, ← e4]
    exact ih g' rfl
end Q12
