/-! ===== both sides: HANG ===== -/
section A6
variable {C : mC} {lw : mLaw} {A : mA} {g : zSg}
theorem d_hang (hC : mWf C) (h48 : A.1 48 < 64) (h49 : A.1 49 < 64) (h52 : A.1 52 ≤ 999) (hU : A.2.2.1.length ≤ 40) (x : Int32) : ∃ v A', ((∃ k, k < 5 ∧ A' = mRef A k) ∨ ∃ c a, c < C.2.1 ∧ (A.1 49).testBit c = false ∧ a ≤ 999 ∧ A' = ((mSet (mSet A.1 52 a) 48 (A.1 48 ^^^ (1 <<< c)), (mPush A A.1).2) : mA)) ∧ (∀ g, vAX C lw A g → ∃ g', f_X11_hang x g = some (v, g') ∧ vAX C lw A' g' ∧ qF sAX g g') ∧ (∀ g, vAM C lw A g → ∃ g', f_X12_hang x g = some (v, g') ∧ vAM C lw A' g' ∧ qF sAM g g') := by
  have hP := hC.1
  have hS := hC.2.1
  have refM : ∀ (k : Nat) (y : Int32) (g : zSg), k < 5 → vAM C lw A g → ∃ g', f_X12_hang_41 y (Int32.ofNat k) g = some (-1, g') ∧ vAM C lw (mRef A k) g' ∧ qF sAM g g' := fun k y g hk h => by
    obtain ⟨g', ze, h', f⟩ := h.ref hk
    refine ⟨g', ?_, h', f⟩
    unfold f_X12_hang_41
    rw [ze, qB_s, if_neg (by decide)]
  by_cases q : mHas C.2.1 x
  · obtain ⟨c, hc, rfl⟩ := q
    have hmk : (1 <<< c : Nat) < 64 := by rw [Nat.one_shiftLeft]; exact Nat.pow_lt_pow_right (by omega) (by omega : c < 6)
    have hx64 : A.1 48 ^^^ (1 <<< c) < 64 := Nat.xor_lt_two_pow (n := 6) h48 hmk
    cases hr : (A.1 49).testBit c
    · by_cases q1 : 1 ≤ A.1 52
      · have d1 : (1 : Int32) ≤ Int32.ofNat (A.1 52) := by rw [show (1 : Int32) = Int32.ofNat 1 from rfl, qi_le (by omega) (by omega)]; exact q1
        refine ⟨mB ((A.1 48 ^^^ (1 <<< c)).testBit c), _, Or.inr ⟨c, A.1 52 - 1, hc, hr, by omega, rfl⟩, fun g hg => ?_, fun g hg => ?_⟩
        · obtain ⟨g1, ze, h1, f1⟩ := hg.push
          have h2 := h1.fld (i := 52) (v := A.1 52 - 1) (by omega) hP
          have h3 := h2.fld (i := 48) (v := A.1 48 ^^^ (1 <<< c)) (by omega) hP
          refine ⟨gsI (gsI g1 39 8 (Int32.ofNat (A.1 52 - 1))) 39 4 (Int32.ofNat (A.1 48 ^^^ (1 <<< c))), ?_, h3, (f1.sI (by unfold sAX; omega)).sI (by unfold sAX; omega)⟩
          have er : f_X8_isCured 39 (Int32.ofNat c) g = some (0, g) := by rw [x_isCured hg.2.2.1.1.1.2.2.2.1 (by omega) (by omega), hr]; rfl
          have e52 : gI g1 39 8 - 1 = Int32.ofNat (A.1 52 - 1) := by
            show g1.2.1 39 8 - Int32.ofNat 1 = _
            rw [show g1.2.1 39 8 = Int32.ofNat (A.1 52) from h1.v52, qi_sub (by omega)]
          have et : f_X8_turnHanging 39 (Int32.ofNat c) (gsI g1 39 8 (Int32.ofNat (A.1 52 - 1))) = some ((), gsI (gsI g1 39 8 (Int32.ofNat (A.1 52 - 1))) 39 4 (Int32.ofNat (A.1 48 ^^^ (1 <<< c)))) := by
            unfold f_X8_turnHanging
            have e48 : gI (gsI g1 39 8 (Int32.ofNat (A.1 52 - 1))) 39 4 ^^^ (1 <<< (Int32.ofNat c &&& 31)) = Int32.ofNat (A.1 48 ^^^ (1 <<< c)) := by
              show (gsI g1 39 8 (Int32.ofNat (A.1 52 - 1))).2.1 39 4 ^^^ (Int32.ofNat 1 <<< (Int32.ofNat c &&& Int32.ofNat 31)) = _
              rw [qs_In (by omega), show g1.2.1 39 4 = Int32.ofNat (A.1 48) from h1.2.2.1.1.1.2.2.1, qi_shl (by omega), qi_xor]
            rw [e48]
          have eh : f_X8_hangs 39 (Int32.ofNat c) (gsI (gsI g1 39 8 (Int32.ofNat (A.1 52 - 1))) 39 4 (Int32.ofNat (A.1 48 ^^^ (1 <<< c)))) = some (mB ((A.1 48 ^^^ (1 <<< c)).testBit c), gsI (gsI g1 39 8 (Int32.ofNat (A.1 52 - 1))) 39 4 (Int32.ofNat (A.1 48 ^^^ (1 <<< c)))) := by
            unfold f_X8_hangs
            rw [show gI (gsI (gsI g1 39 8 (Int32.ofNat (A.1 52 - 1))) 39 4 (Int32.ofNat (A.1 48 ^^^ (1 <<< c)))) 39 4 = Int32.ofNat (A.1 48 ^^^ (1 <<< c)) from qs_Ie]
            show (if ((Int32.ofNat (A.1 48 ^^^ (1 <<< c)) >>> (Int32.ofNat c &&& Int32.ofNat 31)) &&& Int32.ofNat 1) = Int32.ofNat 0 then _ else _) = _
            simp (disch := omega) only [qi_bit0]
            cases (A.1 48 ^^^ (1 <<< c)).testBit c
            · rw [if_pos rfl]; rfl
            · rw [if_neg (by decide)]; rfl
          unfold f_X11_hang
          rw [x_hasSecret1 hg.1 hS hc, qB_s, if_pos (by decide), er, qB_s, if_pos rfl, show gI g 39 8 = Int32.ofNat (A.1 52) from hg.v52, if_pos d1, ze, qB_s, e52, et, qB_s, eh, qB_s]
          cases (A.1 48 ^^^ (1 <<< c)).testBit c
          · rw [if_pos (by decide)]; rfl
          · rw [if_neg (by decide)]; rfl
        · obtain ⟨g1, ze, h1, f1⟩ := hg.push hU
          have h2 := h1.set (i := 52) (v := A.1 52 - 1) (by omega)
          have h3 := h2.set (i := 48) (v := A.1 48 ^^^ (1 <<< c)) (by omega)
          refine ⟨gsI (gsI g1 543 52 (Int32.ofNat (A.1 52 - 1))) 543 48 (Int32.ofNat (A.1 48 ^^^ (1 <<< c))), ?_, h3, (f1.sI (by unfold sAM; omega)).sI (by unfold sAM; omega)⟩
          have e52 : gI g1 543 52 - 1 = Int32.ofNat (A.1 52 - 1) := by
            show g1.2.1 543 52 - Int32.ofNat 1 = _
            rw [show g1.2.1 543 52 = Int32.ofNat (A.1 52) from h1.vi (by omega), qi_sub (by omega)]
          have e48 : gI (gsI g1 543 52 (Int32.ofNat (A.1 52 - 1))) 543 48 ^^^ (1 <<< (Int32.ofNat c &&& 31)) = Int32.ofNat (A.1 48 ^^^ (1 <<< c)) := by
            show (gsI g1 543 52 (Int32.ofNat (A.1 52 - 1))).2.1 543 48 ^^^ (Int32.ofNat 1 <<< (Int32.ofNat c &&& Int32.ofNat 31)) = _
            rw [qs_In (by omega), show g1.2.1 543 48 = Int32.ofNat (A.1 48) from h1.vi (by omega), qi_shl (by omega), qi_xor]
          unfold f_X12_hang f_X12_hang_41 f_X12_hangs
          rw [m_isSecret1 hg.1 hS hc, qB_s, if_pos (by decide), m_isRaw (hg.vi (i := 49) (by omega)) (by omega) (by omega), hr, qB_s, if_pos (by decide), show gI g 543 52 = Int32.ofNat (A.1 52) from hg.vi (by omega), if_pos d1, m_refused0, qB_s, if_pos rfl, ze, qB_s, e52, e48]
          rw [show gI (gsI (gsI g1 543 52 (Int32.ofNat (A.1 52 - 1))) 543 48 (Int32.ofNat (A.1 48 ^^^ (1 <<< c)))) 543 48 = Int32.ofNat (A.1 48 ^^^ (1 <<< c)) from qs_Ie, m_has (by omega) (by omega), qB_s, if_pos mB_01, qB_s]
          cases (A.1 48 ^^^ (1 <<< c)).testBit c
          · rw [if_pos (by decide)]; rfl
          · rw [if_neg (by decide)]; rfl
      · have d1 : ¬ (1 : Int32) ≤ Int32.ofNat (A.1 52) := by rw [show (1 : Int32) = Int32.ofNat 1 from rfl, qi_le (by omega) (by omega)]; exact q1
        refine ⟨-1, _, Or.inl ⟨3, by omega, rfl⟩, fun g hg => ?_, fun g hg => ?_⟩
        · have er : f_X8_isCured 39 (Int32.ofNat c) g = some (0, g) := by rw [x_isCured hg.2.2.1.1.1.2.2.2.1 (by omega) (by omega), hr]; rfl
          unfold f_X11_hang
          rw [x_hasSecret1 hg.1 hS hc, qB_s, if_pos (by decide), er, qB_s, if_pos rfl, show gI g 39 8 = Int32.ofNat (A.1 52) from hg.v52, if_neg d1]
          exact hg.refz (k := 3) (by omega)
        · unfold f_X12_hang
          rw [m_isSecret1 hg.1 hS hc, qB_s, if_pos (by decide), m_isRaw (hg.vi (i := 49) (by omega)) (by omega) (by omega), hr, qB_s, if_pos (by decide), show gI g 543 52 = Int32.ofNat (A.1 52) from hg.vi (by omega), if_neg d1]
          exact refM 3 _ g (by omega) hg
    · refine ⟨-1, _, Or.inl ⟨2, by omega, rfl⟩, fun g hg => ?_, fun g hg => ?_⟩
      · have er : f_X8_isCured 39 (Int32.ofNat c) g = some (1, g) := by rw [x_isCured hg.2.2.1.1.1.2.2.2.1 (by omega) (by omega), hr]; rfl
        unfold f_X11_hang
        rw [x_hasSecret1 hg.1 hS hc, qB_s, if_pos (by decide), er, qB_s, if_neg (by decide)]
        exact hg.refz (k := 2) (by omega)
      · unfold f_X12_hang
        rw [m_isSecret1 hg.1 hS hc, qB_s, if_pos (by decide), m_isRaw (hg.vi (i := 49) (by omega)) (by omega) (by omega), hr, qB_s, if_neg (by decide)]
        exact refM 2 _ g (by omega) hg
  · refine ⟨-1, _, Or.inl ⟨0, by omega, rfl⟩, fun g hg => ?_, fun g hg => ?_⟩
    · unfold f_X11_hang
      rw [x_hasSecret0 hg.1 hS q, qB_s, if_neg (by decide)]
      exact hg.refz (k := 0) (by omega)
    · unfold f_X12_hang
      rw [m_isSecret0 hg.1 hS q, qB_s, if_neg (by decide)]
      exact refM 0 _ g (by omega) hg
end A6
