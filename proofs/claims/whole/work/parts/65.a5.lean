/-! ===== both sides: OAK ===== -/
section A5
variable {C : mC} {lw : mLaw} {A : mA} {g : zSg}
theorem d_oak (hC : mWf C) (h51 : A.1 51 ≤ 999) (h52 : A.1 52 ≤ 999) (hU : A.2.2.1.length ≤ 40) (hz : (mCells C = 0) ↔ ¬ 0 < C.1) (x : Int32) : ∃ v A', ((∃ k, k < 5 ∧ A' = mRef A k) ∨ ∃ a b, a ≤ 999 ∧ b ≤ 999 ∧ A' = ((mSet (mSet A.1 52 a) 51 b, (mPush A A.1).2) : mA)) ∧ (∀ g, vAX C lw A g → ∃ g', f_X11_oak x g = some (v, g') ∧ vAX C lw A' g' ∧ qF sAX g g') ∧ (∀ g, vAM C lw A g → ∃ g', f_X12_oak x g = some (v, g') ∧ vAM C lw A' g' ∧ qF sAM g g') := by
  have hP := hC.1
  have h30 := hC.cells
  have refM : ∀ (k : Nat) (y : Int32) (g : zSg), k < 5 → vAM C lw A g → ∃ g', f_X12_oak_61 y (Int32.ofNat k) g = some (-1, g') ∧ vAM C lw (mRef A k) g' ∧ qF sAM g g' := fun k y g hk h => by
    obtain ⟨g', ze, h', f⟩ := h.ref hk
    refine ⟨g', ?_, h', f⟩
    unfold f_X12_oak_61
    rw [ze, qB_s, if_neg (by decide)]
  by_cases h0 : 0 < C.1
  · have hz1 : ¬ Int32.ofNat (mCells C) = (0 : Int32) := by
      rw [show (0 : Int32) = Int32.ofNat 0 from rfl, qi_inj (by omega) (by omega)]
      exact fun w => hz.mp w h0
    rcases q_rng (x := x) (hi := 30) (by omega) with ⟨k, k1, k2, rfl⟩ | hx
    · have c1 : ¬ Int32.ofNat k < (1 : Int32) := by rw [show (1 : Int32) = Int32.ofNat 1 from rfl, qi_lt (by omega) (by omega)]; omega
      have c2 : Int32.ofNat k ≤ (30 : Int32) := by rw [show (30 : Int32) = Int32.ofNat 30 from rfl, qi_le (by omega) (by omega)]; omega
      have c2' : ¬ (30 : Int32) < Int32.ofNat k := by rw [show (30 : Int32) = Int32.ofNat 30 from rfl, qi_lt (by omega) (by omega)]; omega
      have i1 : ∀ g, f_X12_in (Int32.ofNat k) 1 30 g = some (1, g) := fun g => by unfold f_X12_in; rw [if_neg c1, if_neg c2']
      obtain ⟨c, hc⟩ : ∃ c, c = (k + 1) / 2 := ⟨_, rfl⟩
      have ec : (Int32.ofNat k + 1) / 2 = Int32.ofNat c := by
        show (Int32.ofNat k + Int32.ofNat 1) / Int32.ofNat 2 = _
        rw [qi_add, qi_div (by omega) (by omega), hc]
      have ekk : Int32.ofNat (A.1 51) + Int32.ofNat k = Int32.ofNat (A.1 51 + k) := qi_add _ _
      by_cases q1 : A.1 52 < c
      · have d1 : Int32.ofNat (A.1 52) < Int32.ofNat c := by rw [qi_lt (by omega) (by omega)]; exact q1
        refine ⟨-1, _, Or.inl ⟨3, by omega, rfl⟩, fun g hg => ?_, fun g hg => ?_⟩
        · unfold f_X11_oak f_X11_oak_65
          rw [x_isTold hg.1 hP, if_pos h0, qB_s, if_pos (by decide), if_neg c1, if_pos c2, ec, show gI g 39 8 = Int32.ofNat (A.1 52) from hg.v52, if_pos d1]
          exact hg.refz (k := 3) (by omega)
        · unfold f_X12_oak f_X12_oak_56
          rw [show gI g 526 27 = Int32.ofNat (mCells C) from hg.v27, if_pos hz1, i1, qB_s, if_pos (by decide), ec, show gI g 543 52 = Int32.ofNat (A.1 52) from hg.vi (by omega), if_pos d1]
          exact refM 3 _ g (by omega) hg
      · have d1 : ¬ Int32.ofNat (A.1 52) < Int32.ofNat c := by rw [qi_lt (by omega) (by omega)]; exact q1
        by_cases q2 : A.1 51 + k ≤ 999
        · have d2 : Int32.ofNat (A.1 51 + k) ≤ (999 : Int32) := by rw [show (999 : Int32) = Int32.ofNat 999 from rfl, qi_le (by omega) (by omega)]; exact q2
          refine ⟨Int32.ofNat (A.1 51 + k), _, Or.inr ⟨A.1 52 - c, A.1 51 + k, by omega, q2, rfl⟩, fun g hg => ?_, fun g hg => ?_⟩
          · obtain ⟨g1, ze, h1, f1⟩ := hg.push
            have h2 := h1.fld (i := 52) (v := A.1 52 - c) (by omega) hP
            have h3 := h2.fld (i := 51) (v := A.1 51 + k) (by omega) hP
            refine ⟨gsI (gsI g1 39 8 (Int32.ofNat (A.1 52 - c))) 39 7 (Int32.ofNat (A.1 51 + k)), ?_, h3, (f1.sI (by unfold sAX; omega)).sI (by unfold sAX; omega)⟩
            have e52 : gI g1 39 8 - Int32.ofNat c = Int32.ofNat (A.1 52 - c) := by
              rw [show gI g1 39 8 = Int32.ofNat (A.1 52) from h1.v52, qi_sub (by omega)]
            have e51 : gI (gsI g1 39 8 (Int32.ofNat (A.1 52 - c))) 39 7 = Int32.ofNat (A.1 51) := by
              show (gsI g1 39 8 (Int32.ofNat (A.1 52 - c))).2.1 39 7 = _
              rw [qs_In (by omega)]
              exact h1.v51
            unfold f_X11_oak
            rw [x_isTold hg.1 hP, if_pos h0, qB_s, if_pos (by decide), if_neg c1, if_pos c2, ec, show gI g 39 8 = Int32.ofNat (A.1 52) from hg.v52, if_neg d1, show gI g 39 7 = Int32.ofNat (A.1 51) from hg.v51, ekk, if_pos d2, ze, qB_s, e52, e51, ekk]
            rw [show gI (gsI (gsI g1 39 8 (Int32.ofNat (A.1 52 - c))) 39 7 (Int32.ofNat (A.1 51 + k))) 39 7 = Int32.ofNat (A.1 51 + k) from qs_Ie]
          · obtain ⟨g1, ze, h1, f1⟩ := hg.push hU
            have h2 := h1.set (i := 52) (v := A.1 52 - c) (by omega)
            have h3 := h2.set (i := 51) (v := A.1 51 + k) (by omega)
            refine ⟨gsI (gsI g1 543 52 (Int32.ofNat (A.1 52 - c))) 543 51 (Int32.ofNat (A.1 51 + k)), ?_, h3, (f1.sI (by unfold sAM; omega)).sI (by unfold sAM; omega)⟩
            have e52 : gI g1 543 52 - Int32.ofNat c = Int32.ofNat (A.1 52 - c) := by
              rw [show gI g1 543 52 = Int32.ofNat (A.1 52) from h1.vi (by omega), qi_sub (by omega)]
            have e51 : gI (gsI g1 543 52 (Int32.ofNat (A.1 52 - c))) 543 51 = Int32.ofNat (A.1 51) := by
              show (gsI g1 543 52 (Int32.ofNat (A.1 52 - c))).2.1 543 51 = _
              rw [qs_In (by omega)]
              exact h1.vi (by omega)
            unfold f_X12_oak f_X12_oak_61
            rw [show gI g 526 27 = Int32.ofNat (mCells C) from hg.v27, if_pos hz1, i1, qB_s, if_pos (by decide), ec, show gI g 543 52 = Int32.ofNat (A.1 52) from hg.vi (by omega), if_neg d1, show gI g 543 51 = Int32.ofNat (A.1 51) from hg.vi (by omega), ekk, if_pos d2, m_refused0, qB_s, if_pos rfl, ze, qB_s, e52, e51, ekk]
            rw [show gI (gsI (gsI g1 543 52 (Int32.ofNat (A.1 52 - c))) 543 51 (Int32.ofNat (A.1 51 + k))) 543 51 = Int32.ofNat (A.1 51 + k) from qs_Ie]
        · have d2 : ¬ Int32.ofNat (A.1 51 + k) ≤ (999 : Int32) := by rw [show (999 : Int32) = Int32.ofNat 999 from rfl, qi_le (by omega) (by omega)]; exact q2
          refine ⟨-1, _, Or.inl ⟨3, by omega, rfl⟩, fun g hg => ?_, fun g hg => ?_⟩
          · unfold f_X11_oak f_X11_oak_65
            rw [x_isTold hg.1 hP, if_pos h0, qB_s, if_pos (by decide), if_neg c1, if_pos c2, ec, show gI g 39 8 = Int32.ofNat (A.1 52) from hg.v52, if_neg d1, show gI g 39 7 = Int32.ofNat (A.1 51) from hg.v51, ekk, if_neg d2]
            exact hg.refz (k := 3) (by omega)
          · unfold f_X12_oak f_X12_oak_56
            rw [show gI g 526 27 = Int32.ofNat (mCells C) from hg.v27, if_pos hz1, i1, qB_s, if_pos (by decide), ec, show gI g 543 52 = Int32.ofNat (A.1 52) from hg.vi (by omega), if_neg d1, show gI g 543 51 = Int32.ofNat (A.1 51) from hg.vi (by omega), ekk, if_neg d2]
            exact refM 3 _ g (by omega) hg
    · refine ⟨-1, _, Or.inl ⟨1, by omega, rfl⟩, fun g hg => ?_, fun g hg => ?_⟩
      · have key := hg.refz (k := 1) (by omega)
        unfold f_X11_oak f_X11_oak_27
        rw [x_isTold hg.1 hP, if_pos h0, qB_s, if_pos (by decide)]
        rcases hx with hx | ⟨hx1, hx2⟩
        · rw [if_pos hx]; exact key
        · rw [if_neg hx1, if_neg (show ¬ x ≤ (30 : Int32) from Int32.not_le.mpr hx2)]; exact key
      · have key := refM 1 x g (by omega) hg
        unfold f_X12_oak f_X12_in
        rw [show gI g 526 27 = Int32.ofNat (mCells C) from hg.v27, if_pos hz1]
        rcases hx with hx | ⟨hx1, hx2⟩
        · rw [if_pos hx, qB_s, if_neg (by decide)]; exact key
        · rw [if_neg hx1, if_pos (show (30 : Int32) < x from hx2), qB_s, if_neg (by decide)]; exact key
  · have hz1 : Int32.ofNat (mCells C) = (0 : Int32) := by rw [hz.mpr h0]; rfl
    refine ⟨-1, _, Or.inl ⟨0, by omega, rfl⟩, fun g hg => ?_, fun g hg => ?_⟩
    · unfold f_X11_oak
      rw [x_isTold hg.1 hP, if_neg h0, qB_s, if_neg (by decide)]
      exact hg.refz (k := 0) (by omega)
    · unfold f_X12_oak
      rw [show gI g 526 27 = Int32.ofNat (mCells C) from hg.v27, if_neg (fun w => w hz1)]
      exact refM 0 _ g (by omega) hg
end A5
