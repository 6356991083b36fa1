/-! ===== both sides: VEERS, OAK ===== -/
section A4
variable {C : mC} {lw : mLaw} {A : mA} {g : zSg}
theorem vBX.fld {i v : Nat} {L : mL} {n : Nat} {E : Nat → Nat} {U : mU} {Im : mIm} (hi : 48 ≤ i ∧ i ≤ 52) (hP : C.1 ≤ 6) (h : vBX C L n E U Im g) : vBX C (mSet L i v) n E U Im (gsI g 39 (i - 44) (Int32.ofNat v)) := by
  have f : qF (fun a k => a = 39 ∧ k = i - 44) g (gsI g 39 (i - 44) (Int32.ofNat v)) := qF.rfl'.sI ⟨rfl, rfl⟩
  obtain ⟨⟨⟨s1, s2, s3, s4, s5, s6, s7, s8⟩, hb, h10⟩, hr, ⟨x, hx, x1, x2⟩, h6, hU, hI⟩ := h
  have hk : ∀ c, c < 6 → mKn C (mSet L i v) c = mKn C L c := fun c hc => mBits_ext fun p hp => by
    unfold mKnows
    rw [mSet_n (by omega)]
  have one : ∀ j, 48 ≤ j → j ≤ 52 → g.2.1 39 (j - 44) = Int32.ofNat (L j) → (gsI g 39 (i - 44) (Int32.ofNat v)).2.1 39 (j - 44) = Int32.ofNat (mSet L i v j) := fun j j1 j2 hj => by
    by_cases q : j = i
    · subst q; rw [qs_Ie, mSet_e]
    · rw [qs_In (by omega), mSet_n q]; exact hj
  refine ⟨⟨⟨fun p hp => ?_, fun c hc => ?_, one 48 (by omega) (by omega) s3, one 49 (by omega) (by omega) s4, one 50 (by omega) (by omega) s5, one 51 (by omega) (by omega) s6, one 52 (by omega) (by omega) s7, ?_⟩, fun c hc hm => ⟨?_, fun p hp => ?_⟩, ?_⟩, fun j k q1 q2 q3 => ?_, ⟨x, hx, ?_, ?_⟩, ?_, hU, ?_⟩
  · rw [qs_In (by omega), mSet_n (by omega)]; exact s1 p hp
  · rw [qs_In (by omega), mSet_n (by omega)]; exact s2 c hc
  · rw [qs_In (by omega), mSet_n (by omega)]; exact s8
  · rw [qs_In (by omega), hk c hc]; exact (hb c hc hm).1
  · rw [qs_In (by omega), mSet_n (by omega)]; exact (hb c hc hm).2 p hp
  · rw [qs_In (by omega)]; exact h10
  · rw [qs_In (by omega)]; exact hr j k q1 q2 q3
  · rw [qs_In (by omega)]; exact x1
  · exact x2.fr f (fun b k q1 q2 => by omega) (fun k => by omega)
  · rw [qs_In (by omega)]; exact h6
  · exact hI.fr f (by omega) (fun b k q1 q2 => by omega)
theorem vAX.fld {i v : Nat} (hi : 48 ≤ i ∧ i ≤ 52) (hP : C.1 ≤ 6) (h : vAX C lw A g) : vAX C lw (mSet A.1 i v, A.2) (gsI g 39 (i - 44) (Int32.ofNat v)) := by
  have f : qF (fun a k => a = 39 ∧ k = i - 44) g (gsI g 39 (i - 44) (Int32.ofNat v)) := qF.rfl'.sI ⟨rfl, rfl⟩
  obtain ⟨h1, h2, h3, h4⟩ := h
  refine ⟨h1.fr f (fun k => by omega) (fun k => by omega), h2.fr f (fun b k hb => by omega), ?_, fun j hj => (f.2.1 _ _ (by omega)).trans (h4 j hj)⟩
  show vBX C (mSet A.1 i v) (mSet A.1 i v 53) _ _ _ _
  rw [mSet_n (by omega)]
  exact h3.fld hi hP
theorem vAX.refz {k : Nat} (hk : k < 5) (h : vAX C lw A g) : ∃ g', (zB (f_X11_refuse (Int32.ofNat k) g) (fun v1 g2 => some (v1, g2))) = some (-1, g') ∧ vAX C lw (mRef A k) g' ∧ qF sAX g g' := by
  obtain ⟨g', ze, h', f⟩ := h.ref hk
  exact ⟨g', by rw [ze, qB_s], h', f⟩
theorem vAX.v50 (h : vAX C lw A g) : g.2.1 39 6 = Int32.ofNat (A.1 50) := h.2.2.1.1.1.2.2.2.2.1
theorem vAX.v51 (h : vAX C lw A g) : g.2.1 39 7 = Int32.ofNat (A.1 51) := h.2.2.1.1.1.2.2.2.2.2.1
theorem vAX.v52 (h : vAX C lw A g) : g.2.1 39 8 = Int32.ofNat (A.1 52) := h.2.2.1.1.1.2.2.2.2.2.2.1
theorem vAM.vi (h : vAM C lw A g) {i : Nat} (hi : i < 54) : g.2.1 543 i = Int32.ofNat (A.1 i) := by
  have := h.2.2.1.1 i hi
  rwa [show 0 + i = i by omega] at this
theorem vAM.v27 (h : vAM C lw A g) : g.2.1 526 27 = Int32.ofNat (mCells C) := h.1.2.2.2.2.2
theorem d_veers (hC : mWf C) (h50 : A.1 50 < 4) (hU : A.2.2.1.length ≤ 40) (hz : (mCells C = 0) ↔ ¬ 0 < C.1) (x : Int32) : ∃ v A', ((∃ k, k < 5 ∧ A' = mRef A k) ∨ ∃ k, k < 4 ∧ A' = ((mSet A.1 50 k, (mPush A A.1).2) : mA)) ∧ (∀ g, vAX C lw A g → ∃ g', f_X11_veers x g = some (v, g') ∧ vAX C lw A' g' ∧ qF sAX g g') ∧ (∀ g, vAM C lw A g → ∃ g', f_X12_veers x g = some (v, g') ∧ vAM C lw A' g' ∧ qF sAM g g') := by
  have hP := hC.1
  have h30 := hC.cells
  have refM : ∀ (k : Nat) (y : Int32) (g : zSg), k < 5 → vAM C lw A g → ∃ g', f_X12_veers_41 y (Int32.ofNat k) g = some (-1, g') ∧ vAM C lw (mRef A k) g' ∧ qF sAM g g' := fun k y g hk h => by
    obtain ⟨g', ze, h', f⟩ := h.ref hk
    refine ⟨g', ?_, h', f⟩
    unfold f_X12_veers_41
    rw [ze, qB_s, if_neg (by decide)]
  by_cases h0 : 0 < C.1
  · have hz1 : ¬ Int32.ofNat (mCells C) = (0 : Int32) := by
      rw [show (0 : Int32) = Int32.ofNat 0 from rfl, qi_inj (by omega) (by omega)]
      exact fun w => hz.mp w h0
    by_cases q : mHas 4 x
    · obtain ⟨k, hk, rfl⟩ := q
      have c1 : ¬ Int32.ofNat k < (0 : Int32) := by rw [show (0 : Int32) = Int32.ofNat 0 from rfl, qi_lt (by omega) (by omega)]; omega
      have c2 : Int32.ofNat k < (4 : Int32) := by rw [show (4 : Int32) = Int32.ofNat 4 from rfl, qi_lt (by omega) (by omega)]; omega
      by_cases he : k = A.1 50
      · have c3 : ¬ ¬ Int32.ofNat k = Int32.ofNat (A.1 50) := fun w => w (by rw [he])
        refine ⟨-1, _, Or.inl ⟨2, by omega, rfl⟩, fun g hg => ?_, fun g hg => ?_⟩
        · unfold f_X11_veers
          rw [x_isTold hg.1 hP, if_pos h0, qB_s, if_pos (by decide), if_neg c1, if_pos c2, show gI g 39 6 = Int32.ofNat (A.1 50) from hg.v50, if_neg c3]
          exact hg.refz (k := 2) (by omega)
        · unfold f_X12_veers
          rw [show gI g 526 27 = Int32.ofNat (mCells C) from hg.v27, if_pos hz1, m_in1 (hi := 3) (n := 4) rfl hk (by omega), qB_s, if_pos (by decide), show gI g 543 50 = Int32.ofNat (A.1 50) from hg.vi (by omega), if_neg c3]
          exact refM 2 _ g (by omega) hg
      · have c3 : ¬ Int32.ofNat k = Int32.ofNat (A.1 50) := by rw [qi_inj (by omega) (by omega)]; exact he
        refine ⟨Int32.ofNat (A.1 50), _, Or.inr ⟨k, hk, rfl⟩, fun g hg => ?_, fun g hg => ?_⟩
        · obtain ⟨g1, ze, h1, f1⟩ := hg.push
          refine ⟨gsI g1 39 6 (Int32.ofNat k), ?_, h1.fld (i := 50) (by omega) hP, f1.sI (by unfold sAX; omega)⟩
          unfold f_X11_veers
          rw [x_isTold hg.1 hP, if_pos h0, qB_s, if_pos (by decide), if_neg c1, if_pos c2, show gI g 39 6 = Int32.ofNat (A.1 50) from hg.v50, if_pos c3, ze, qB_s, show gI g1 39 6 = Int32.ofNat (A.1 50) from h1.v50]
        · obtain ⟨g1, ze, h1, f1⟩ := hg.push hU
          refine ⟨gsI g1 543 50 (Int32.ofNat k), ?_, h1.set (by omega), f1.sI (by unfold sAM; omega)⟩
          unfold f_X12_veers f_X12_veers_41
          rw [show gI g 526 27 = Int32.ofNat (mCells C) from hg.v27, if_pos hz1, m_in1 (hi := 3) (n := 4) rfl hk (by omega), qB_s, if_pos (by decide), show gI g 543 50 = Int32.ofNat (A.1 50) from hg.vi (by omega), if_pos c3, m_refused0, qB_s, if_pos rfl, ze, qB_s, show gI g1 543 50 = Int32.ofNat (A.1 50) from h1.vi (by omega)]
    · refine ⟨-1, _, Or.inl ⟨1, by omega, rfl⟩, fun g hg => ?_, fun g hg => ?_⟩
      · unfold f_X11_veers f_X11_veers_25
        rw [x_isTold hg.1 hP, if_pos h0, qB_s, if_pos (by decide)]
        by_cases t : x < 0
        · rw [if_pos t]; exact hg.refz (k := 1) (by omega)
        · rw [if_neg t, if_neg (show ¬ x < (4 : Int32) from Int32.not_lt.mpr (q_out (n := 4) (by omega) q t))]; exact hg.refz (k := 1) (by omega)
      · unfold f_X12_veers
        rw [show gI g 526 27 = Int32.ofNat (mCells C) from hg.v27, if_pos hz1, m_in0 (hi := 3) (n := 4) rfl q (by omega), qB_s, if_neg (by decide)]
        exact refM 1 _ g (by omega) hg
  · have hz1 : Int32.ofNat (mCells C) = (0 : Int32) := by rw [hz.mpr h0]; rfl
    refine ⟨-1, _, Or.inl ⟨0, by omega, rfl⟩, fun g hg => ?_, fun g hg => ?_⟩
    · unfold f_X11_veers
      rw [x_isTold hg.1 hP, if_neg h0, qB_s, if_neg (by decide)]
      exact hg.refz (k := 0) (by omega)
    · unfold f_X12_veers
      rw [show gI g 526 27 = Int32.ofNat (mCells C) from hg.v27, if_neg (fun w => w hz1)]
      exact refM 0 _ g (by omega) hg
end A4
