/-! ===== both sides: ACTS: what is kept, REFUSED, STATUS, GUSTS ===== -/
theorem mSmoke_z {C : mC} {lw : mLaw} {o n p c : Nat} {L : mL} (hp : p < 6) (hc : c < 6) (hq : C.1 ≤ p) : mSmoke C lw o L n (6 + 6 * p + c) = L (6 + 6 * p + c) := by
  induction n with
  | zero => rfl
  | succ n ih =>
    show mSmk C lw o n (mSmoke C lw o L n) (6 + 6 * p + c) = _
    unfold mSmk
    split
    · show (if 6 + 6 * p + c = 51 then _ else if 6 + 6 * p + c = 42 + n then _ else _) = _
      rw [if_neg (by omega)]
      by_cases q : 6 + 6 * p + c = 42 + n
      · omega
      · rw [if_neg q, if_neg (by omega)]
        exact ih
    · exact ih
theorem mNight_z {C : mC} {lw : mLaw} {L : mL} (hC : mWf C) (h : mLz C L) : mLz C (mNight C lw L) := by
  intro p c hp hc hq
  have hS := hC.2.1
  rw [mNight_n (by omega) (by omega)]
  have h2 : mN2 C lw L (6 + 6 * p + c) = 0 := by
    rw [show mN2 C lw L (6 + 6 * p + c) = mSmoke C lw (L 51) L C.2.1 (6 + 6 * p + c) from mCure_n (by omega) (by omega)]
    rcases hq with q | q
    · rw [mSmoke_z hp hc q]; exact h p c hp hc (Or.inl q)
    · rw [mSmoke_n hS (Or.inr (Or.inr (Or.inr ⟨by omega, by omega, by omega⟩)))]; exact h p c hp hc (Or.inr q)
  unfold mTell
  rw [if_neg (by omega)]
  exact h2
/-- how often REFUSED, and why -/
def vRX (Rf : Nat → Int32) (g : zSg) : Prop := ∀ j, j < 5 → g.2.1 38 j = Rf j
def vRM (Rf : Nat → Int32) (g : zSg) : Prop := ∀ j, j < 5 → g.2.1 544 j = Rf j
def mRf (Rf : Nat → Int32) (k : Nat) : Nat → Int32 := fun j => if j = k then Rf k + 1 else Rf j
theorem x_refuse {Rf : Nat → Int32} {k : Nat} {g : zSg} (hk : k < 5) (h : vRX Rf g) : ∃ g', f_X11_refuse (Int32.ofNat k) g = some (-1, g') ∧ vRX (mRf Rf k) g' ∧ qF (fun a j => a = 38 ∧ j < 5) g g' := by
  refine ⟨gsI g 38 k (g.2.1 38 k + 1), ?_, fun j hj => ?_, qF.rfl'.sI ⟨rfl, hk⟩⟩
  · unfold f_X11_refuse
    rw [q_add (a := 37) (n := 5) rfl (by decide) hk, qB_s]
  · unfold mRf
    by_cases q : j = k
    · subst q; rw [qs_Ie, if_pos rfl, h j hj]
    · rw [qs_In (by omega), if_neg q]; exact h j hj
theorem m_refused1 {Rf : Nat → Int32} {k : Nat} {g : zSg} (hk : k < 5) (h : vRM Rf g) : ∃ g', f_X12_isRefused (Int32.ofNat k) g = some (1, g') ∧ vRM (mRf Rf k) g' ∧ qF (fun a j => a = 544 ∧ j < 5) g g' := by
  refine ⟨gsI g 544 k (g.2.1 544 k + 1), ?_, fun j hj => ?_, qF.rfl'.sI ⟨rfl, hk⟩⟩
  · unfold f_X12_isRefused
    rcases (show k = 0 ∨ k = 1 ∨ k = 2 ∨ k = 3 ∨ k = 4 by omega) with rfl | rfl | rfl | rfl | rfl <;> rfl
  · unfold mRf
    by_cases q : j = k
    · subst q; rw [qs_Ie, if_pos rfl, h j hj]
    · rw [qs_In (by omega), if_neg q]; exact h j hj
theorem m_refused0 {g : zSg} : f_X12_isRefused (-1) g = some (0, g) := by
  unfold f_X12_isRefused
  rfl
theorem d_status (Rf : Nat → Int32) (x : Int32) : ∃ v, (∀ g, vRX Rf g → f_X11_status x g = some (v, g)) ∧ (∀ g, vRM Rf g → f_X12_status x g = some (v, g)) := by
  by_cases q : mHas 5 x
  · obtain ⟨k, hk, rfl⟩ := q
    refine ⟨Rf k, fun g hg => ?_, fun g hg => ?_⟩
    · unfold f_X11_status
      simp (disch := omega) only [qi_lit, qi_lt, qi_le, if_neg (show ¬ k < 0 by omega), if_neg (show ¬ 5 ≤ k by omega), q_get (a := 37) (n := 5) rfl (by decide) hk, zB, hg k hk]
    · unfold f_X12_status
      rw [m_in1 (hi := 4) (n := 5) rfl hk (by omega), qB_s, if_neg (by decide), if_pos (qi_zib hk (by omega)), qi_ix (by omega)]
      show some (g.2.1 544 k, g) = _
      rw [hg k hk]
  · refine ⟨-1, fun g hg => ?_, fun g hg => ?_⟩
    · unfold f_X11_status
      by_cases t : x < 0
      · rw [if_pos t]
      · rw [if_neg t, if_pos (show (5 : Int32) ≤ x from q_out (n := 5) (by omega) q t)]
    · unfold f_X12_status
      rw [m_in0 (hi := 4) (n := 5) rfl q (by omega), qB_s, if_pos rfl]
/-- GUSTS: the same number stands on both sides -/
theorem d_gusts (x u : Int32) : ∃ v w, (∀ g, g.2.1 0 13 = u → ∃ g', f_X11_gusts x g = some (v, g') ∧ g'.2.1 0 13 = w ∧ qF (fun a k => a = 0 ∧ k = 13) g g') ∧ (∀ g, g.2.1 526 31 = u → ∃ g', f_X12_gusts x g = some (v, g') ∧ g'.2.1 526 31 = w ∧ qF (fun a k => a = 526 ∧ k = 31) g g') := by
  by_cases q : mHas 10 x
  · obtain ⟨k, hk, rfl⟩ := q
    by_cases t : Int32.ofNat k = u
    · refine ⟨0, u, fun g hg => ⟨g, ?_, hg, qF.rfl'⟩, fun g hg => ⟨g, ?_, hg, qF.rfl'⟩⟩
      · unfold f_X11_gusts
        rw [if_neg (show ¬ Int32.ofNat k < (0 : Int32) by rw [show (0 : Int32) = Int32.ofNat 0 from rfl, qi_lt (by omega) (by omega)]; omega), if_neg (show ¬ (9 : Int32) < Int32.ofNat k by rw [show (9 : Int32) = Int32.ofNat 9 from rfl, qi_lt (by omega) (by omega)]; omega), show gI g 0 13 = u from hg, if_neg (fun w => w t)]
      · unfold f_X12_gusts
        rw [m_in1 (hi := 9) (n := 10) rfl hk (by omega), qB_s, if_neg (by decide), show gI g 526 31 = u from hg, if_neg (fun w => w t)]
    · refine ⟨1, Int32.ofNat k, fun g hg => ⟨gsI g 0 13 (Int32.ofNat k), ?_, qs_Ie, qF.rfl'.sI ⟨rfl, rfl⟩⟩, fun g hg => ⟨gsI g 526 31 (Int32.ofNat k), ?_, qs_Ie, qF.rfl'.sI ⟨rfl, rfl⟩⟩⟩
      · unfold f_X11_gusts
        rw [if_neg (show ¬ Int32.ofNat k < (0 : Int32) by rw [show (0 : Int32) = Int32.ofNat 0 from rfl, qi_lt (by omega) (by omega)]; omega), if_neg (show ¬ (9 : Int32) < Int32.ofNat k by rw [show (9 : Int32) = Int32.ofNat 9 from rfl, qi_lt (by omega) (by omega)]; omega), show gI g 0 13 = u from hg, if_pos t]
      · unfold f_X12_gusts
        rw [m_in1 (hi := 9) (n := 10) rfl hk (by omega), qB_s, if_neg (by decide), show gI g 526 31 = u from hg, if_pos t]
  · refine ⟨0, u, fun g hg => ⟨g, ?_, hg, qF.rfl'⟩, fun g hg => ⟨g, ?_, hg, qF.rfl'⟩⟩
    · unfold f_X11_gusts
      by_cases t : x < 0
      · rw [if_pos t]
      · rw [if_neg t, if_pos (show (9 : Int32) < x from q_lt' (n := 9) (by omega) q t)]
    · unfold f_X12_gusts
      rw [m_in0 (hi := 9) (n := 10) rfl q (by omega), qB_s, if_pos rfl]
