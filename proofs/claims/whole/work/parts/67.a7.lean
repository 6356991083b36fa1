/-! ===== both sides: MOVES ===== -/
section A7
variable {C : mC} {lw : mLaw} {A : mA} {g : zSg}
theorem vAX.place {p v : Nat} (hp : p < 6) (h : vAX C lw A g) : vAX C lw (mSet A.1 p v, A.2) (gsI g 41 p (Int32.ofNat v)) := by
  have f : qF (fun a k => a = 41 ∧ k = p) g (gsI g 41 p (Int32.ofNat v)) := qF.rfl'.sI ⟨rfl, rfl⟩
  obtain ⟨h1, h2, ⟨⟨⟨s1, s2, s3, s4, s5, s6, s7, s8⟩, hb, h10⟩, hr, ⟨x, hx, x1, x2⟩, h6, hU, hI⟩, h4⟩ := h
  refine ⟨h1.fr f (fun k => by omega) (fun k => by omega), h2.fr f (fun b k hb => by omega), ?_, fun j hj => (f.2.1 _ _ (by omega)).trans (h4 j hj)⟩
  show vBX C (mSet A.1 p v) (mSet A.1 p v 53) _ _ _ _
  rw [mSet_n (by omega)]
  refine ⟨⟨⟨fun p' hp' => ?_, fun c hc => ?_, ?_, ?_, ?_, ?_, ?_, ?_⟩, fun c hc hm => ⟨?_, fun p' hp' => ?_⟩, ?_⟩, fun j k q1 q2 q3 => ?_, ⟨x, hx, ?_, ?_⟩, ?_, hU, ?_⟩
  · by_cases q : p' = p
    · subst q; rw [show (39 : Nat) + 2 = 41 from rfl, qs_Ie, mSet_e]
    · rw [qs_In (by omega), mSet_n q]; exact s1 p' hp'
  · rw [qs_In (by omega), mSet_n (by omega)]; exact s2 c hc
  · rw [qs_In (by omega), mSet_n (by omega)]; exact s3
  · rw [qs_In (by omega), mSet_n (by omega)]; exact s4
  · rw [qs_In (by omega), mSet_n (by omega)]; exact s5
  · rw [qs_In (by omega), mSet_n (by omega)]; exact s6
  · rw [qs_In (by omega), mSet_n (by omega)]; exact s7
  · rw [qs_In (by omega), mSet_n (by omega)]; exact s8
  · have : mKn C (mSet A.1 p v) c = mKn C A.1 c := mBits_ext fun p' hp' => by
      unfold mKnows
      rw [mSet_n (by omega)]
    rw [qs_In (by omega), this]; exact (hb c hc hm).1
  · rw [qs_In (by omega), mSet_n (by omega)]; exact (hb c hc hm).2 p' hp'
  · rw [qs_In (by omega)]; exact h10
  · rw [qs_In (by omega)]; exact hr j k q1 q2 q3
  · rw [qs_In (by omega)]; exact x1
  · exact x2.fr f (fun b k q1 q2 => by omega) (fun k => by omega)
  · rw [qs_In (by omega)]; exact h6
  · exact hI.fr f (by omega) (fun b k q1 q2 => by omega)
theorem d_moves (hC : mWf C) (hl : ∀ p, p < C.1 → A.1 p < mCells C) (h52 : A.1 52 ≤ 999) (hU : A.2.2.1.length ≤ 40) (x y : Int32) : ∃ v A', ((∃ k, k < 5 ∧ A' = mRef A k) ∨ ∃ p l a, p < C.1 ∧ l < mCells C ∧ a ≤ 999 ∧ A' = ((mSet (mSet A.1 52 a) p l, (mPush A A.1).2) : mA)) ∧ (∀ g, vAX C lw A g → ∃ g', f_X11_moves x y g = some (v, g') ∧ vAX C lw A' g' ∧ qF sAX g g') ∧ (∀ g, vAM C lw A g → ∃ g', f_X12_moves x y g = some (v, g') ∧ vAM C lw A' g' ∧ qF sAM g g') := by
  have hP := hC.1
  have h30 := hC.cells
  have refM : ∀ (k : Nat) (x y : Int32) (g : zSg), k < 5 → vAM C lw A g → ∃ g', f_X12_moves_59 x y (Int32.ofNat k) g = some (-1, g') ∧ vAM C lw (mRef A k) g' ∧ qF sAM g g' := fun k x y g hk h => by
    obtain ⟨g', ze, h', f⟩ := h.ref hk
    refine ⟨g', ?_, h', f⟩
    unfold f_X12_moves_59
    rw [ze, qB_s, if_neg (by decide)]
  by_cases q : mHas C.1 x
  · obtain ⟨p, hp, rfl⟩ := q
    have hw : 0 < mW C := by have := (hC.2.2.2.2.2.2 (by omega)).2.2.1; omega
    have ez : (0 : Int32) + Int32.ofNat p = Int32.ofNat p := by show Int32.ofNat 0 + Int32.ofNat p = _; rw [qi_add, Nat.zero_add]
    have hlp := hl p hp
    have xl : ∀ g, vAX C lw A g → f_X7_get 40 (Int32.ofNat p) g = some (Int32.ofNat (A.1 p), g) := fun g h => by
      rw [q_get40 (by omega), show g.2.1 41 p = Int32.ofNat (A.1 p) from h.2.2.1.1.1.1 p (by omega)]
    by_cases q2 : mHas 4 y
    · obtain ⟨w, hw4, rfl⟩ := q2
      cases hb : mBes (mW C) (mH C) (A.1 p) w with
      | none =>
        refine ⟨-1, _, Or.inl ⟨1, by omega, rfl⟩, fun g hg => ?_, fun g hg => ?_⟩
        · unfold f_X11_moves
          rw [x_hasPerson1 hg.1 hP hp, qB_s, if_pos (by decide), xl g hg, qB_s, x_beside hg.1 hC hw hlp hw4, hb, qB_s, if_neg (fun t => t rfl)]
          exact hg.refz (k := 1) (by omega)
        · unfold f_X12_moves f_X12_moves_39
          rw [m_isPerson1 hg.1 hP hp, qB_s, if_pos (by decide), m_in1 (hi := 3) (n := 4) rfl hw4 (by omega), qB_s, if_neg (by decide), ez, if_pos (qi_zib (by omega) (by omega)), qi_ix (by omega), show gI g 543 p = Int32.ofNat (A.1 p) from hg.vi (by omega), m_beside hg.1 hC hw hlp hw4, hb, qB_s, if_neg (fun t => t rfl)]
          exact refM 1 _ _ g (by omega) hg
      | some b =>
        have hbl : b < mCells C := (mBes_some hw hlp hb).1
        have hne : ¬ mOpt (some b) = (-1 : Int32) := by
          rw [show (-1 : Int32) = - Int32.ofNat 1 from rfl, mOpt_m1 (fun b' t => by cases t; omega)]
          exact fun t => by cases t
        by_cases q1 : 2 ≤ A.1 52
        · have d1 : (2 : Int32) ≤ Int32.ofNat (A.1 52) := by rw [show (2 : Int32) = Int32.ofNat 2 from rfl, qi_le (by omega) (by omega)]; exact q1
          refine ⟨Int32.ofNat b, _, Or.inr ⟨p, b, A.1 52 - 2, hp, hbl, by omega, rfl⟩, fun g hg => ?_, fun g hg => ?_⟩
          · obtain ⟨g1, ze, h1, f1⟩ := hg.push
            have h2 := h1.fld (i := 52) (v := A.1 52 - 2) (by omega) hP
            have h3 := h2.place (p := p) (v := b) (by omega)
            refine ⟨gsI (gsI g1 39 8 (Int32.ofNat (A.1 52 - 2))) 41 p (Int32.ofNat b), ?_, h3, (f1.sI (by unfold sAX; omega)).sI (by unfold sAX; omega)⟩
            have e52 : gI g1 39 8 - 2 = Int32.ofNat (A.1 52 - 2) := by
              show g1.2.1 39 8 - Int32.ofNat 2 = _
              rw [show g1.2.1 39 8 = Int32.ofNat (A.1 52) from h1.v52, qi_sub (by omega)]
            unfold f_X11_moves
            rw [x_hasPerson1 hg.1 hP hp, qB_s, if_pos (by decide), xl g hg, qB_s, x_beside hg.1 hC hw hlp hw4, hb, qB_s, if_pos hne, show gI g 39 8 = Int32.ofNat (A.1 52) from hg.v52, if_pos d1, ze, qB_s, e52, q_set40 (by omega), qB_s]
            rfl
          · obtain ⟨g1, ze, h1, f1⟩ := hg.push hU
            have h2 := h1.set (i := 52) (v := A.1 52 - 2) (by omega)
            have h3 := h2.set (i := p) (v := b) (by omega)
            refine ⟨gsI (gsI g1 543 52 (Int32.ofNat (A.1 52 - 2))) 543 p (Int32.ofNat b), ?_, h3, (f1.sI (by unfold sAM; omega)).sI (by unfold sAM; omega)⟩
            have e52 : gI g1 543 52 - 2 = Int32.ofNat (A.1 52 - 2) := by
              show g1.2.1 543 52 - Int32.ofNat 2 = _
              rw [show g1.2.1 543 52 = Int32.ofNat (A.1 52) from h1.vi (by omega), qi_sub (by omega)]
            have ep : gI (gsI g1 543 52 (Int32.ofNat (A.1 52 - 2))) 543 p = Int32.ofNat (A.1 p) := by
              show (gsI g1 543 52 (Int32.ofNat (A.1 52 - 2))).2.1 543 p = _
              rw [qs_In (by omega)]
              exact h1.vi (by omega)
            unfold f_X12_moves f_X12_moves_59
            rw [m_isPerson1 hg.1 hP hp, qB_s, if_pos (by decide), m_in1 (hi := 3) (n := 4) rfl hw4 (by omega), qB_s, if_neg (by decide), ez, if_pos (qi_zib (by omega) (by omega)), qi_ix (by omega), show gI g 543 p = Int32.ofNat (A.1 p) from hg.vi (by omega), m_beside hg.1 hC hw hlp hw4, hb, qB_s, if_pos hne, show gI g 543 52 = Int32.ofNat (A.1 52) from hg.vi (by omega), if_pos d1, m_refused0, qB_s, if_pos rfl, ze, qB_s, if_pos (qi_zib (by omega) (by omega)), e52, ep, m_beside h2.1 hC hw hlp hw4, hb, qB_s, if_pos (qi_zib (by omega) (by omega)), if_pos (qi_zib (by omega) (by omega))]
            rw [show gI (gsI (gsI g1 543 52 (Int32.ofNat (A.1 52 - 2))) 543 p (mOpt (some b))) 543 p = Int32.ofNat b from qs_Ie]
            rfl
        · have d1 : ¬ (2 : Int32) ≤ Int32.ofNat (A.1 52) := by rw [show (2 : Int32) = Int32.ofNat 2 from rfl, qi_le (by omega) (by omega)]; exact q1
          refine ⟨-1, _, Or.inl ⟨3, by omega, rfl⟩, fun g hg => ?_, fun g hg => ?_⟩
          · unfold f_X11_moves
            rw [x_hasPerson1 hg.1 hP hp, qB_s, if_pos (by decide), xl g hg, qB_s, x_beside hg.1 hC hw hlp hw4, hb, qB_s, if_pos hne, show gI g 39 8 = Int32.ofNat (A.1 52) from hg.v52, if_neg d1]
            exact hg.refz (k := 3) (by omega)
          · unfold f_X12_moves
            rw [m_isPerson1 hg.1 hP hp, qB_s, if_pos (by decide), m_in1 (hi := 3) (n := 4) rfl hw4 (by omega), qB_s, if_neg (by decide), ez, if_pos (qi_zib (by omega) (by omega)), qi_ix (by omega), show gI g 543 p = Int32.ofNat (A.1 p) from hg.vi (by omega), m_beside hg.1 hC hw hlp hw4, hb, qB_s, if_pos hne, show gI g 543 52 = Int32.ofNat (A.1 52) from hg.vi (by omega), if_neg d1]
            exact refM 3 _ _ g (by omega) hg
    · refine ⟨-1, _, Or.inl ⟨1, by omega, rfl⟩, fun g hg => ?_, fun g hg => ?_⟩
      · unfold f_X11_moves
        rw [x_hasPerson1 hg.1 hP hp, qB_s, if_pos (by decide), xl g hg, qB_s, x_besideN q2, qB_s, if_neg (fun t => t rfl)]
        exact hg.refz (k := 1) (by omega)
      · unfold f_X12_moves f_X12_moves_39
        rw [m_isPerson1 hg.1 hP hp, qB_s, if_pos (by decide), m_in0 (hi := 3) (n := 4) rfl q2 (by omega), qB_s, if_pos rfl]
        exact refM 1 _ _ g (by omega) hg
  · refine ⟨-1, _, Or.inl ⟨0, by omega, rfl⟩, fun g hg => ?_, fun g hg => ?_⟩
    · unfold f_X11_moves
      rw [x_hasPerson0 hg.1 hP q, qB_s, if_neg (by decide)]
      exact hg.refz (k := 0) (by omega)
    · unfold f_X12_moves
      rw [m_isPerson0 hg.1 hP q, qB_s, if_neg (by decide)]
      exact refM 0 _ _ g (by omega) hg
end A7
