/-! ===== both sides: KEPT ===== -/
def mHg (L : mL) (c : Nat) : mL := fun i => if i = 48 then L 48 ||| (1 <<< c) else L i
theorem mHg_n {L : mL} {c i : Nat} (h : i ≠ 48) : mHg L c i = L i := if_neg h
theorem mHg_lf {nb c : Nat} {C : mC} {L : mL} (hC : mWf C) (hc : c < C.2.1) (hr : (L 49).testBit c = false) (h : mLf nb C L) : mLf nb C (mHg L c) := by
  have hP := hC.1
  have hS := hC.2.1
  obtain ⟨⟨z1, z2, z3, z4, z5, z6, z7, z8, z9⟩, q2, q3⟩ := h
  have hmk : (1 <<< c : Nat) < 64 := by rw [Nat.one_shiftLeft]; exact Nat.pow_lt_pow_right (by omega) (by omega : c < 6)
  have hb : ∀ c', c ≠ c' → (mHg L c 48).testBit c' = (L 48).testBit c' := fun c' hne => by
    show (L 48 ||| (1 <<< c)).testBit c' = _
    rw [Nat.testBit_or, q_bit1, decide_eq_false hne, Bool.or_false]
  refine ⟨⟨fun p hp => ?_, fun i h1 h2 => ?_, fun c hc => ?_, ?_, ?_, ?_, ?_, ?_, ?_⟩, fun c' h1 h2 => ?_, fun c' hc' => ?_⟩
  · rw [mHg_n (by omega)]; exact z1 p hp
  · rw [mHg_n (by omega)]; exact z2 i h1 h2
  · rw [mHg_n (by omega)]; exact z3 c hc
  · exact Nat.or_lt_two_pow (n := 6) z4 hmk
  · rw [mHg_n (by omega)]; exact z5
  · rw [mHg_n (by omega)]; exact z6
  · rw [mHg_n (by omega)]; exact z7
  · rw [mHg_n (by omega)]; exact z8
  · rw [mHg_n (by omega)]; exact z9
  · rw [mHg_n (i := 42 + c') (by omega), mHg_n (i := 49) (by omega), hb c' (by omega)]; exact q2 c' h1 h2
  · rw [mHg_n (i := 42 + c') (by omega), mHg_n (i := 49) (by omega)]
    refine ⟨fun t => ?_, (q3 c' hc').2⟩
    by_cases q : c = c'
    · subst q; rw [hr] at t; cases t
    · rw [hb c' q]; exact (q3 c' hc').1 t
theorem mKn_hg {C : mC} {L : mL} {c c' : Nat} (hP : C.1 ≤ 6) (hc : c' < 6) : mKn C (mHg L c) c' = mKn C L c' := mBits_ext fun p hp => by
  unfold mKnows
  rw [mHg_n (by omega)]
section Q14
variable {C : mC} {L : mL} {lw : mLaw}
def mKp (C : mC) (lw : mLaw) (L : mL) (c who n y : Nat) : Int32 := if y = 0 then Int32.ofNat (mCnt (mOk C lw L c who n) (4 ^ n)) else mBw n (mFs (mOk C lw L c who n) (4 ^ n))
theorem x_rows_l {n c who y : Nat} {g : zSg} (hC : mWf C) (hL : mLf 999 C L) (hc : c < C.2.1) (hr : (L 49).testBit c = false) (hwho : who < 64) (hn : n ≤ 6) (hy : y < 2) : ∀ (r nn x : Nat) (g' : zSg), 4 ^ n - x ≤ r → x ≤ 4 ^ n → r < nn → qF SX g g' → (∀ f, f ≤ n → (0 < f → x % 4 ^ (n - f) ≠ 0) → vBh C lw L n c x f g') → (y ≠ 0 → mFs (mOk C lw L c who n) x = none) → qE SX g (f_X3_rowsOfWinds_82 39 nn (Int32.ofNat c) (Int32.ofNat who) (Int32.ofNat y) (Int32.ofNat n) (443 + 9 * n) (Int32.ofNat (4 ^ n)) (Int32.ofNat (if y = 0 then mCnt (mOk C lw L c who n) x else 0)) (Int32.ofNat x) g') (mKp C lw L c who n y) := by
  have hS := hC.2.1
  have hP := hC.1
  have h46 : 4 ^ n ≤ 4 ^ 6 := Nat.pow_le_pow_right (by omega) hn
  have h46' : 4 ^ n ≤ 4096 := h46
  have h4p : 0 < 4 ^ n := Nat.pow_pos (by omega)
  obtain ⟨P, hPd⟩ : ∃ P, P = mOk C lw L c who n := ⟨_, rfl⟩
  unfold mKp
  rw [← hPd]
  intro r
  induction r with
  | zero =>
    intro nn x g' h1 h2 h3 ff hb hf
    obtain ⟨nn, rfl⟩ : ∃ f, nn = f + 1 := ⟨nn - 1, by omega⟩
    obtain rfl : x = 4 ^ n := by omega
    show qE SX g (fb_X3_rowsOfWinds_82 39 _ _ _ _ _ _ _ _ _ _) _
    unfold fb_X3_rowsOfWinds_82 f_X3_rowsOfWinds_158
    simp (disch := omega) only [qi_lit, qi_le, if_pos (Nat.le_refl (4 ^ n)), qi_inj]
    by_cases q : y = 0
    · rw [if_pos q, if_pos q, if_pos q]
      exact ⟨g', rfl, ff⟩
    · rw [if_neg q, if_neg q, hf q]
      exact ⟨g', rfl, ff⟩
  | succ r ih =>
    intro nn x g' h1 h2 h3 ff hb hf
    obtain ⟨nn, rfl⟩ : ∃ f, nn = f + 1 := ⟨nn - 1, by omega⟩
    by_cases hx : x = 4 ^ n
    · exact ih (nn + 1) x g' (by omega) h2 (by omega) ff hb hf
    have hx4 : x < 4 ^ n := by omega
    obtain ⟨f, ⟨hf1, hf2⟩, hfe⟩ := x_fnew (x := x) (n := n) (s := 2) (Or.inr rfl) hn (by omega) (g := g')
    obtain ⟨v, g2, ze2, f2, hres⟩ := x_ptk (who := who) (f := f) hL hc hwho hn (by omega) (by omega) (hb f (by omega) hf2)
    have F2 := ff.tr f2
    have hpt : f_X3_passTillKnown (Int32.ofNat x) (Int32.ofNat n) (Int32.ofNat c) (Int32.ofNat who) g' = some (Int32.ofNat v, g2) := by
      unfold f_X3_passTillKnown
      rw [show (2 : Int32) = Int32.ofNat 2 from rfl, hfe, qB_s]
      exact ze2
    have hPx : P x = ((mRun C lw L n x 49).testBit c && decide (mKn C (mRun C lw L n x) c &&& who = 0)) := by rw [hPd]; rfl
    show qE SX g (fb_X3_rowsOfWinds_82 39 _ _ _ _ _ _ _ _ _ _) _
    unfold fb_X3_rowsOfWinds_82 f_X3_rowsOfWinds_152 f_X3_rowsOfWinds_141
    rw [if_neg (by rw [qi_le (by omega) (by omega)]; omega), hpt, qB_s]
    rcases hres with ⟨rfl, hB, hk⟩ | ⟨d, hd, rfl, hB, hk⟩
    · -- the whole row
      have hbn := hB n (Nat.le_refl _)
      rw [Nat.sub_self, Nat.pow_zero, Nat.div_one] at hbn
      have h49 : mRun C lw L n x 49 < 64 := hbn.1.2.2.2.2.1.2.2.2.2.1
      have hPc : P x = (mRun C lw L n x 49).testBit c := by
        rw [hPx]
        by_cases q : n = 0
        · subst q
          show ((L 49).testBit c && _) = (L 49).testBit c
          rw [hr]; rfl
        · rw [decide_eq_true (hk (by omega)), Bool.and_true]
      have hnx : ∀ f', f' ≤ n → (0 < f' → (x + 1) % 4 ^ (n - f') ≠ 0) → vBh C lw L n c (x + 1) f' g2 := fun f' q1 q2 => hB.next q1 fun e e1 e2 => q_sdiv (Nat.pow_pos (by omega)) (q_dvd (by omega) (q2 (by omega)))
      rw [if_pos (by rw [qi_lt (by omega) (by omega)]; omega), x_isCured hbn.1.2.2.2.2.2.2.2.2.2.2.1 (by omega) (by omega), qB_s, ← hPc, show (0 : Int32) = Int32.ofNat 0 from rfl]
      simp (disch := omega) only [mB_0, qi_inj]
      cases hp : P x
      · rw [if_pos rfl, show Int32.ofNat x + 1 = Int32.ofNat (x + 1) from qi_add x 1]
        have := ih nn (x + 1) g2 (by omega) (by omega) (by omega) F2 hnx (fun q => mFs_no (hf q) hp)
        have e : (if y = 0 then mCnt P (x + 1) else 0) = (if y = 0 then mCnt P x else 0) := by
          have : mCnt P (x + 1) = mCnt P x := by show mCnt P x + (if P x then 1 else 0) = _; rw [hp]; rfl
          rw [this]
        rw [e] at this
        exact this
      · rw [if_neg (by decide)]
        by_cases q : y = 0
        · have e : mCnt P (x + 1) = mCnt P x + 1 := by show mCnt P x + (if P x then 1 else 0) = _; rw [hp]; rfl
          have := ih nn (x + 1) g2 (by omega) (by omega) (by omega) F2 hnx (fun q' => absurd q q')
          rw [if_pos q, if_pos q, e] at this
          rw [if_pos q, if_pos q, if_pos q, show Int32.ofNat x + 1 = Int32.ofNat (x + 1) from qi_add x 1, show Int32.ofNat (mCnt P x) + 1 = Int32.ofNat (mCnt P x + 1) from qi_add _ 1]
          exact this
        · rw [if_neg q, if_neg q, x_digits hn (by omega) hx4, mFs_yes (hf q) hp hx4]
          exact ⟨g2, rfl, F2⟩
    · -- some hear of it
      obtain ⟨D, hD⟩ : ∃ D, D = 4 ^ (n - (d + 1)) := ⟨_, rfl⟩
      have hD0 : 0 < D := by rw [hD]; exact Nat.pow_pos (by omega)
      have hD2 : 2 ^ (2 * (n - (d + 1))) = D := by rw [hD, Nat.pow_mul]
      have hDn : D * 4 ^ (d + 1) = 4 ^ n := by rw [hD, ← Nat.pow_add]; congr 1; omega
      have hDe : ∀ e, 0 < e → e ≤ d + 1 → 4 ^ (n - e) = D * 4 ^ (d + 1 - e) := fun e _ he => by rw [hD, ← Nat.pow_add]; congr 1; omega
      obtain ⟨z, hz⟩ : ∃ z, z = D * (x / D) + (D - 1) := ⟨_, rfl⟩
      have hxz : x ≤ z := by
        have h5 := Nat.div_add_mod x D
        have h6 := Nat.mod_lt x hD0
        omega
      have hzD : z / D = x / D := by
        have h7 : (D - 1) / D = 0 := Nat.div_eq_of_lt (by omega)
        rw [hz, Nat.mul_add_div hD0, h7]
        rfl
      have hzn : z + 1 ≤ 4 ^ n := by
        have h5 : x / D < 4 ^ (d + 1) := by
          rw [Nat.div_lt_iff_lt_mul hD0, Nat.mul_comm, hDn]
          exact hx4
        have h6 : D * (x / D + 1) ≤ D * 4 ^ (d + 1) := Nat.mul_le_mul_left D h5
        rw [hDn, Nat.mul_add, Nat.mul_one] at h6
        omega
      have hz1 : z + 1 = D * (x / D + 1) := by rw [hz, Nat.mul_add, Nat.mul_one]; omega
      have hmask : Int32.ofNat x ||| ((1 <<< (2 * (Int32.ofNat n - Int32.ofNat (d + 1)) &&& 31)) - 1) = Int32.ofNat z := by
        show Int32.ofNat x ||| ((Int32.ofNat 1 <<< (Int32.ofNat 2 * (Int32.ofNat n - Int32.ofNat (d + 1)) &&& Int32.ofNat 31)) - Int32.ofNat 1) = Int32.ofNat z
        rw [qi_sub (by omega), qi_mul, qi_shl (by omega), Nat.one_shiftLeft, qi_sub (Nat.two_pow_pos _), qi_or, q_mask, hD2, ← hz]
      have hskip : ∀ w, x ≤ w → w < x + (z + 1 - x) → P w = false := fun w w1 w2 => by
        have h8 : w / D = x / D := by
          have h9 := Nat.div_le_div_right (c := D) w1
          have h10 := Nat.div_le_div_right (c := D) (show w ≤ z by omega)
          omega
        have h11 := mRun_kn (d := d + 1) hC hL (show c < 6 by omega) (n - (d + 1)) w (by rw [← hD, h8, hD]; exact hk)
        rw [show d + 1 + (n - (d + 1)) = n by omega] at h11
        rw [hPd]
        show (_ && decide _) = false
        rw [decide_eq_false h11, Bool.and_false]
      obtain ⟨k1, k2⟩ := mFs_skip (z + 1 - x) hskip
      rw [show x + (z + 1 - x) = z + 1 by omega] at k1 k2
      have := ih nn (z + 1) g2 (by omega) hzn (by omega) F2 (fun f' q1 q2 => ?_) (fun q => by rw [k1]; exact hf q)
      · rw [k2] at this
        rw [if_neg (by rw [qi_lt (by omega) (by omega)]; omega), hmask, show Int32.ofNat z + 1 = Int32.ofNat (z + 1) from qi_add z 1]
        exact this
      · have hfd : f' ≤ d := by
          by_cases q : f' ≤ d
          · exact q
          · refine absurd ?_ (q2 (by omega))
            refine Nat.mod_eq_zero_of_dvd (Nat.dvd_trans (Nat.pow_dvd_pow 4 (show n - f' ≤ n - (d + 1) by omega)) ?_)
            rw [hz1, ← hD]
            exact ⟨_, rfl⟩
        refine hB.next (by omega) fun e e1 e2 => ?_
        rw [q_sdiv (Nat.pow_pos (by omega)) (q_dvd (show n - f' ≤ n - e by omega) (q2 (by omega))), hDe e e1 (by omega), ← Nat.div_div_eq_div_mul, ← Nat.div_div_eq_div_mul, hzD]
end Q14
