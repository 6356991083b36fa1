/-! ===== both sides: LOG ===== -/
section AA
variable {C : mC} {lw : mLaw} {A : mA}
theorem d_log (hn : A.1 53 ≤ 999) (x y : Int32) : ∃ v, (∀ g, vAX C lw A g → f_X11_log x y g = some (v, g)) ∧ (∀ g, vAM C lw A g → f_X12_log x y g = some (v, g)) := by
  obtain ⟨n, hnd⟩ : ∃ n, n = A.1 53 := ⟨_, rfl⟩
  have xl : ∀ g, vAX C lw A g → f_X6_logLength 39 g = some (Int32.ofNat (min 60 n), g) := fun g hg => by
    unfold f_X6_logLength
    have : imin 60 (gI g 39 10) = Int32.ofNat (min 60 n) := by
      show imin (Int32.ofNat 60) (g.2.1 39 10) = _
      rw [hg.2.2.1.1.2.2, ← hnd, qi_imin (by omega) (by omega)]
    rw [this]
  have a7 : ∀ g, vAM C lw A g → gI g 543 54 - 1 = Int32.ofNat (min 60 n) - Int32.ofNat 1 := fun g hg => by
    show g.2.1 543 54 - Int32.ofNat 1 = _
    rw [show g.2.1 543 54 = Int32.ofNat (min 60 n) by rw [hnd]; exact hg.2.2.1.2.1]
  by_cases q : mHas (min 60 n) x
  · obtain ⟨j, hj, rfl⟩ := q
    by_cases q2 : mHas 3 y
    · obtain ⟨k, hk, rfl⟩ := q2
      refine ⟨Int32.ofNat (A.2.1 (3 * (n - 1 - j) + k)), fun g hg => ?_, fun g hg => ?_⟩
      · have hr := hg.2.2.1.2.1 (n - 1 - j) k (by omega) (by omega) hk
        have h10 : gI g 39 10 = Int32.ofNat n := by rw [hnd]; exact hg.2.2.1.1.2.2
        unfold f_X11_log f_X6_read
        rw [xl g hg]
        simp (disch := omega) only [qi_lit, qi_lt, qi_le, zB, if_neg (show ¬ j < 0 by omega), if_neg (show ¬ min 60 n ≤ j by omega), if_neg (show ¬ k < 0 by omega), if_pos hk, h10, qi_sub, qi_imod, qi_mul, qi_add]
        rw [Nat.mul_comm ((n - 1 - j) % 100) 3, q_get50 (by omega), hr]
      · have hb := hg.2.2.1.2.2 (n - 1 - j) k (by omega) (by omega) hk
        rw [← hnd, show 0 + 55 + (3 * (n - 1 - j - (n - min 60 n)) + k) = 55 + 3 * (min 60 n - 1 - j) + k by omega] at hb
        have ei : (55 : Int32) + 3 * (Int32.ofNat (min 60 n) - Int32.ofNat 1 - Int32.ofNat j) + Int32.ofNat k = Int32.ofNat (55 + 3 * (min 60 n - 1 - j) + k) := by
          show Int32.ofNat 55 + Int32.ofNat 3 * (Int32.ofNat (min 60 n) - Int32.ofNat 1 - Int32.ofNat j) + Int32.ofNat k = _
          rw [qi_sub (by omega), qi_sub (by omega), qi_mul, qi_add, qi_add]
        unfold f_X12_log
        rw [a7 g hg, m_in1 rfl hj (by omega), qB_s, if_neg (by decide), m_in1 (hi := 2) (n := 3) rfl hk (by omega), qB_s, if_neg (by decide), a7 g hg, ei, if_pos (qi_zib (by omega) (by omega)), qi_ix (by omega)]
        rw [show gI g 543 (55 + 3 * (min 60 n - 1 - j) + k) = _ from hb]
    · refine ⟨-1, fun g hg => ?_, fun g hg => ?_⟩
      · unfold f_X11_log f_X6_read
        rw [xl g hg]
        simp (disch := omega) only [qi_lit, qi_lt, qi_le, zB, if_neg (show ¬ j < 0 by omega), if_neg (show ¬ min 60 n ≤ j by omega)]
        by_cases t : y < Int32.ofNat 0
        · rw [if_pos t]
        · rw [if_neg t, if_neg (show ¬ y < Int32.ofNat 3 from Int32.not_lt.mpr (q_out (n := 3) (by omega) q2 t))]
      · unfold f_X12_log
        rw [a7 g hg, m_in1 rfl hj (by omega), qB_s, if_neg (by decide), m_in0 (hi := 2) (n := 3) rfl q2 (by omega), qB_s, if_pos rfl]
  · refine ⟨-1, fun g hg => ?_, fun g hg => ?_⟩
    · unfold f_X11_log f_X6_read
      rw [xl g hg]
      by_cases t : x < 0
      · rw [if_pos t]
      · rw [if_neg t, qB_s, if_pos (q_out (by omega) q t)]
    · unfold f_X12_log
      rw [a7 g hg, m_in0 rfl q (by omega), qB_s, if_pos rfl]
end AA
