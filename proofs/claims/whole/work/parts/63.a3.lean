/-! ===== both sides: GIVE ===== -/
def mPush (A : mA) (L' : mL) : mA := (L', A.2.1, ((A.1, A.1 53) :: A.2.2.1).take 40, A.2.2.2.1, A.2.2.2.2)
def mRef (A : mA) (k : Nat) : mA := (A.1, A.2.1, A.2.2.1, A.2.2.2.1, mRf A.2.2.2.2 k)
section A3
variable {C : mC} {lw : mLaw} {A : mA} {g : zSg}
theorem vAX.ref {k : Nat} (hk : k < 5) (h : vAX C lw A g) : ∃ g', f_X11_refuse (Int32.ofNat k) g = some (-1, g') ∧ vAX C lw (mRef A k) g' ∧ qF sAX g g' := by
  obtain ⟨h1, h2, ⟨hs, hr, ⟨x, hx, x1, x2⟩, h6, hU, hI⟩, h4⟩ := h
  obtain ⟨g', ze, hr', f⟩ := x_refuse hk h4
  refine ⟨g', ze, ⟨h1.fr f (fun k => by omega) (fun k => by omega), h2.fr f (fun b k hb => by omega), ⟨hs.fr f (fun b k q1 q2 => by omega), fun j k q1 q2 q3 => ?_, ⟨x, hx, ?_, x2.fr f (fun b k q1 q2 => by omega) (fun k => by omega)⟩, ?_, hU, hI.fr f (by omega) (fun b k q1 q2 => by omega)⟩, hr'⟩, f.mono fun a k w => by unfold sAX; omega⟩
  · rw [f.2.1 _ _ (by omega)]; exact hr j k q1 q2 q3
  · rw [f.2.1 _ _ (by omega)]; exact x1
  · rw [f.2.1 _ _ (by omega)]; exact h6
theorem vImM.fr {Im : mIm} {g' : zSg} {S : Nat → Nat → Prop} (h : vImM Im g) (hf : qF S g g') (h47 : ¬ S 526 47) (hS : ∀ k, ¬ S 552 k) : vImM Im g' := by
  match Im, h with
  | none, h => exact (hf.2.1 _ _ h47).trans h
  | some (L, n, E), ⟨h1, h2⟩ => exact ⟨(hf.2.1 _ _ h47).trans h1, h2.cp (fun i hi => hf.2.1 _ _ (hS _))⟩
theorem vAM.ref {k : Nat} (hk : k < 5) (h : vAM C lw A g) : ∃ g', f_X12_isRefused (Int32.ofNat k) g = some (1, g') ∧ vAM C lw (mRef A k) g' ∧ qF sAM g g' := by
  obtain ⟨h1, h2, h3, h4, h5, h6, h7⟩ := h
  obtain ⟨g', ze, hr', f⟩ := m_refused1 hk h7
  exact ⟨g', ze, ⟨h1.fr f (fun k => by omega) (fun k => by omega) (fun k => by omega) (fun k _ _ => by omega), h2.fr f (by omega) (fun b k q1 q2 => by omega), h3.cp (fun i hi => f.2.1 _ _ (by omega)), (f.2.1 _ _ (by omega)).trans h4, h5.fr (fun j hj => f.2.1 _ _ (by omega)), h6.fr f (by omega) (fun k => by omega), hr'⟩, f.mono fun a k w => by unfold sAM; omega⟩
theorem vAX.push (h : vAX C lw A g) : ∃ g', f_X6_remember 39 g = some ((), g') ∧ vAX C lw (mPush A A.1) g' ∧ qF sAX g g' := by
  obtain ⟨h1, h2, h3, h4⟩ := h
  obtain ⟨g', ze, hb, f⟩ := x_rem h3
  exact ⟨g', ze, ⟨h1.fr f (fun k => by unfold sU; omega) (fun k => by unfold sU; omega), h2.fr f (fun b k hb => by unfold sU; omega), hb, fun j hj => (f.2.1 _ _ (by unfold sU; omega)).trans (h4 j hj)⟩, f.mono fun a k w => by unfold sU at w; unfold sAX; omega⟩
theorem vAM.push (hU : A.2.2.1.length ≤ 40) (h : vAM C lw A g) : ∃ g', f_X12_keep g = some ((), g') ∧ vAM C lw (mPush A A.1) g' ∧ qF sAM g g' := by
  obtain ⟨h1, h2, h3, h4, h5, h6, h7⟩ := h
  obtain ⟨g', ze, k1, k2, f⟩ := m_keep h3 h4 hU h5
  exact ⟨g', ze, ⟨h1.fr f (fun k => by omega) (fun k => by omega) (fun k => by omega) (fun k _ _ => by omega), h2.fr f (by omega) (fun b k q1 q2 => by omega), h3.cp (fun i hi => f.2.1 _ _ (by omega)), k2, k1, h6.fr f (by omega) (fun k => by omega), fun j hj => (f.2.1 _ _ (by omega)).trans (h7 j hj)⟩, f.mono fun a k w => by unfold sAM; omega⟩
theorem vAX.coins {v : Nat} (hP : C.1 ≤ 6) (h : vAX C lw A g) : vAX C lw (mSet A.1 52 v, A.2) (gsI g 39 8 (Int32.ofNat v)) := by
  have f : qF (fun a k => a = 39 ∧ k = 8) g (gsI g 39 8 (Int32.ofNat v)) := qF.rfl'.sI ⟨rfl, rfl⟩
  obtain ⟨h1, h2, h3, h4⟩ := h
  exact ⟨h1.fr f (fun k => by omega) (fun k => by omega), h2.fr f (fun b k hb => by omega), h3.coins hP, fun j hj => (f.2.1 _ _ (by omega)).trans (h4 j hj)⟩
theorem vAM.set {i v : Nat} (hi : i < 53) (h : vAM C lw A g) : vAM C lw (mSet A.1 i v, A.2) (gsI g 543 i (Int32.ofNat v)) := by
  have f : qF (fun a k => a = 543 ∧ k = i) g (gsI g 543 i (Int32.ofNat v)) := qF.rfl'.sI ⟨rfl, rfl⟩
  obtain ⟨h1, h2, h3, h4, h5, h6, h7⟩ := h
  refine ⟨h1.fr f (fun k => by omega) (fun k => by omega) (fun k => by omega) (fun k _ _ => by omega), h2.fr f (by omega) (fun b k q1 q2 => by omega), ?_, (f.2.1 _ _ (by omega)).trans h4, h5.fr (fun j hj => f.2.1 _ _ (by omega)), h6.fr f (by omega) (fun k => by omega), fun j hj => (f.2.1 _ _ (by omega)).trans (h7 j hj)⟩
  show vBlk 543 0 (mSet A.1 i v) (mSet A.1 i v 53) A.2.1 _
  rw [mSet_n (by omega)]
  exact h3.set (by omega)
theorem d_give (hC : mWf C) (h52 : A.1 52 ≤ 999) (hU : A.2.2.1.length ≤ 40) (hz : (mCells C = 0) ↔ ¬ 0 < C.1) (x : Int32) : ∃ v A', (A' = mRef A 0 ∨ A' = mRef A 1 ∨ ∃ k, k ≤ 999 ∧ A' = ((mSet A.1 52 k, (mPush A A.1).2) : mA)) ∧ (∀ g, vAX C lw A g → ∃ g', f_X11_give x g = some (v, g') ∧ vAX C lw A' g' ∧ qF sAX g g') ∧ (∀ g, vAM C lw A g → ∃ g', f_X12_give x g = some (v, g') ∧ vAM C lw A' g' ∧ qF sAM g g') := by
  have hP := hC.1
  have h30 := hC.cells
  have x52 : ∀ g, vAX C lw A g → g.2.1 39 8 = Int32.ofNat (A.1 52) := fun g h => h.2.2.1.1.1.2.2.2.2.2.2.1
  have m52 : ∀ g, vAM C lw A g → g.2.1 543 52 = Int32.ofNat (A.1 52) := fun g h => h.2.2.1.1 52 (by omega)
  have m27 : ∀ g, vAM C lw A g → g.2.1 526 27 = Int32.ofNat (mCells C) := fun g h => h.1.2.2.2.2.2
  have i1 : ∀ k, 1 ≤ k → k ≤ 50 → ∀ g, f_X12_in (Int32.ofNat k) 1 50 g = some (1, g) := fun k h1 h2 g => by
    unfold f_X12_in
    simp (disch := omega) only [qi_lit, qi_lt, if_neg (show ¬ k < 1 by omega), if_neg (show ¬ 50 < k by omega)]
  have refX : ∀ (k : Nat) (g : zSg), k < 5 → vAX C lw A g → ∃ g', (zB (f_X11_refuse (Int32.ofNat k) g) (fun v1 g2 => some (v1, g2))) = some (-1, g') ∧ vAX C lw (mRef A k) g' ∧ qF sAX g g' := fun k g hk h => by
    obtain ⟨g', ze, h', f⟩ := h.ref hk
    exact ⟨g', by rw [ze, qB_s], h', f⟩
  have refM : ∀ (k : Nat) (y : Int32) (g : zSg), k < 5 → vAM C lw A g → ∃ g', f_X12_give_42 y (Int32.ofNat k) g = some (-1, g') ∧ vAM C lw (mRef A k) g' ∧ qF sAM g g' := fun k y g hk h => by
    obtain ⟨g', ze, h', f⟩ := h.ref hk
    refine ⟨g', ?_, h', f⟩
    unfold f_X12_give_42
    rw [ze, qB_s, if_neg (by decide)]
  by_cases h0 : 0 < C.1
  · have hz1 : ¬ Int32.ofNat (mCells C) = (0 : Int32) := by
      rw [show (0 : Int32) = Int32.ofNat 0 from rfl, qi_inj (by omega) (by omega)]
      exact fun w => hz.mp w h0
    rcases q_rng (x := x) (hi := 50) (by omega) with ⟨k, k1, k2, rfl⟩ | hx
    · by_cases hle : A.1 52 + k ≤ 999
      · refine ⟨Int32.ofNat (A.1 52 + k), _, Or.inr (Or.inr ⟨A.1 52 + k, hle, rfl⟩), fun g hg => ?_, fun g hg => ?_⟩
        · obtain ⟨g1, ze, h1, f1⟩ := hg.push
          have e52 : g1.2.1 39 8 = Int32.ofNat (A.1 52) := h1.2.2.1.1.1.2.2.2.2.2.2.1
          refine ⟨gsI g1 39 8 (Int32.ofNat (A.1 52 + k)), ?_, h1.coins hP, f1.sI (by unfold sAX; omega)⟩
          unfold f_X11_give
          rw [x_isTold hg.1 hP, if_pos h0, qB_s, if_pos (by decide), show gI g 39 8 = Int32.ofNat (A.1 52) from x52 g hg]
          simp (disch := omega) only [qi_lit, qi_lt, qi_le, qi_add, if_neg (show ¬ k < 1 by omega), if_neg (show ¬ 50 < k by omega), if_pos hle, ze, zB]
          rw [show gI g1 39 8 = Int32.ofNat (A.1 52) from e52, qi_add]
          rw [show gI (gsI g1 39 8 (Int32.ofNat (A.1 52 + k))) 39 8 = Int32.ofNat (A.1 52 + k) from qs_Ie]
        · obtain ⟨g1, ze, h1, f1⟩ := hg.push hU
          have e52 : g1.2.1 543 52 = Int32.ofNat (A.1 52) := h1.2.2.1.1 52 (by omega)
          refine ⟨gsI g1 543 52 (Int32.ofNat (A.1 52 + k)), ?_, h1.set (by omega), f1.sI (by unfold sAM; omega)⟩
          unfold f_X12_give f_X12_give_42
          rw [show gI g 526 27 = Int32.ofNat (mCells C) from m27 g hg, if_pos hz1, i1 k k1 k2, qB_s, if_neg (by decide), show gI g 543 52 = Int32.ofNat (A.1 52) from m52 g hg, qi_add, if_pos (show Int32.ofNat (A.1 52 + k) ≤ (999 : Int32) by rw [show (999 : Int32) = Int32.ofNat 999 from rfl, qi_le (by omega) (by omega)]; exact hle), m_refused0, qB_s, if_pos rfl, ze, qB_s, show gI g1 543 52 = Int32.ofNat (A.1 52) from e52, qi_add]
          rw [show gI (gsI g1 543 52 (Int32.ofNat (A.1 52 + k))) 543 52 = Int32.ofNat (A.1 52 + k) from qs_Ie]
      · refine ⟨-1, _, Or.inr (Or.inl rfl), fun g hg => ?_, fun g hg => ?_⟩
        · unfold f_X11_give f_X11_give_42
          rw [x_isTold hg.1 hP, if_pos h0, qB_s, if_pos (by decide), show gI g 39 8 = Int32.ofNat (A.1 52) from x52 g hg]
          simp (disch := omega) only [qi_lit, qi_lt, qi_le, qi_add, if_neg (show ¬ k < 1 by omega), if_neg (show ¬ 50 < k by omega), if_neg hle]
          exact refX 1 g (by omega) hg
        · unfold f_X12_give f_X12_give_37
          rw [show gI g 526 27 = Int32.ofNat (mCells C) from m27 g hg, if_pos hz1, i1 k k1 k2, qB_s, if_neg (by decide), show gI g 543 52 = Int32.ofNat (A.1 52) from m52 g hg, qi_add, if_neg (show ¬ Int32.ofNat (A.1 52 + k) ≤ (999 : Int32) by rw [show (999 : Int32) = Int32.ofNat 999 from rfl, qi_le (by omega) (by omega)]; exact hle)]
          exact refM 1 _ g (by omega) hg
    · refine ⟨-1, _, Or.inr (Or.inl rfl), fun g hg => ?_, fun g hg => ?_⟩
      · have key := refX 1 g (by omega) hg
        unfold f_X11_give f_X11_give_42
        rw [x_isTold hg.1 hP, if_pos h0, qB_s, if_pos (by decide)]
        rcases hx with hx | ⟨hx1, hx2⟩
        · rw [if_pos hx]; exact key
        · rw [if_neg hx1, if_pos (show (50 : Int32) < x from hx2)]; exact key
      · have key := refM 1 x g (by omega) hg
        unfold f_X12_give f_X12_give_37 f_X12_in
        rw [show gI g 526 27 = Int32.ofNat (mCells C) from m27 g hg, if_pos hz1]
        rcases hx with hx | ⟨hx1, hx2⟩
        · rw [if_pos hx, qB_s, if_pos rfl]; exact key
        · rw [if_neg hx1, if_pos (show (50 : Int32) < x from hx2), qB_s, if_pos rfl]; exact key
  · have hz1 : Int32.ofNat (mCells C) = (0 : Int32) := by rw [hz.mpr h0]; rfl
    refine ⟨-1, _, Or.inl rfl, fun g hg => ?_, fun g hg => ?_⟩
    · unfold f_X11_give
      rw [x_isTold hg.1 hP, if_neg h0, qB_s, if_neg (by decide)]
      exact refX 0 g (by omega) hg
    · unfold f_X12_give
      rw [show gI g 526 27 = Int32.ofNat (mCells C) from m27 g hg, if_neg (fun w => w hz1)]
      exact refM 0 _ g (by omega) hg
end A3
