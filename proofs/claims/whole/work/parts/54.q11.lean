/-! ===== both sides: KEPT: what a row of WINDS does; the reference's ===== -/
def mLw (L : mL) (w : Nat) : mL := fun i => if i = 50 then w else L i
theorem mLw_n {L : mL} {w i : Nat} (h : i ≠ 50) : mLw L w i = L i := if_neg h
theorem mLw_lf {nb : Nat} {C : mC} {L : mL} {w : Nat} (hC : mWf C) (hw : w < 4) (h : mLf nb C L) : mLf nb C (mLw L w) := by
  have hP := hC.1
  have hS := hC.2.1
  obtain ⟨⟨z1, z2, z3, z4, z5, z6, z7, z8, z9⟩, q2, q3⟩ := h
  refine ⟨⟨fun p hp => ?_, fun i h1 h2 => ?_, fun c hc => ?_, ?_, ?_, ?_, ?_, ?_, ?_⟩, fun c h1 h2 => ?_, fun c hc => ?_⟩
  · rw [mLw_n (by omega)]; exact z1 p hp
  · rw [mLw_n (by omega)]; exact z2 i h1 h2
  · rw [mLw_n (by omega)]; exact z3 c hc
  · rw [mLw_n (by omega)]; exact z4
  · rw [mLw_n (by omega)]; exact z5
  · exact hw
  · rw [mLw_n (by omega)]; exact z7
  · rw [mLw_n (by omega)]; exact z8
  · rw [mLw_n (by omega)]; exact z9
  · rw [mLw_n (by omega), mLw_n (by omega), mLw_n (by omega)]; exact q2 c h1 h2
  · rw [mLw_n (by omega), mLw_n (by omega), mLw_n (by omega)]; exact q3 c hc
/-- behind k NIGHTS, the WINDS as the k lowest digits of x say -/
def mRun (C : mC) (lw : mLaw) (L : mL) : Nat → Nat → mL
  | 0, _ => L
  | k + 1, x => mNight C lw (mLw (mRun C lw L k (x / 4)) (x % 4))
theorem mRun_lf {nb : Nat} {C : mC} {lw : mLaw} {L : mL} (hC : mWf C) (h : mLf nb C L) (k x : Nat) : mLf (nb + k) C (mRun C lw L k x) := by
  induction k generalizing x with
  | zero => exact h
  | succ k ih => exact mNight_lf hC (mLw_lf hC (Nat.mod_lt _ (by omega)) (ih (x / 4)))
theorem mRun_s {C : mC} {lw : mLaw} {L : mL} {k x w : Nat} (hw : w < 4) : mRun C lw L (k + 1) (4 * x + w) = mNight C lw (mLw (mRun C lw L k x) w) := by
  show mNight C lw (mLw (mRun C lw L k ((4 * x + w) / 4)) ((4 * x + w) % 4)) = _
  rw [show (4 * x + w) / 4 = x by omega, show (4 * x + w) % 4 = w by omega]
def mDec : Nat → Nat → Nat
  | 0, _ => 0
  | k + 1, x => 10 * mDec k (x / 4) + x % 4
theorem mDec_s {k x w : Nat} (hw : w < 4) : mDec (k + 1) (4 * x + w) = 10 * mDec k x + w := by
  show 10 * mDec k ((4 * x + w) / 4) + (4 * x + w) % 4 = _
  rw [show (4 * x + w) / 4 = x by omega, show (4 * x + w) % 4 = w by omega]
theorem mDec_lt {k x : Nat} : mDec k x < 10 ^ k := by
  induction k generalizing x with
  | zero => show 0 < 1; omega
  | succ k ih =>
    have := @ih (x / 4)
    show 10 * mDec k (x / 4) + x % 4 < 10 ^ (k + 1)
    rw [Nat.pow_succ]
    omega
/-- the row is good -/
def mOk (C : mC) (lw : mLaw) (L : mL) (c who n y : Nat) : Bool := (mRun C lw L n y 49).testBit c && decide (mKn C (mRun C lw L n y) c &&& who = 0)
def mBw (n : Nat) (o : Option Nat) : Int32 := mOpt (o.map (mDec n))
theorem mBw_m1 {n : Nat} {o : Option Nat} (hn : n ≤ 6) : (mBw n o = - Int32.ofNat 1) = (o = none) := by
  cases o with
  | none => exact propext ⟨fun _ => rfl, fun _ => rfl⟩
  | some b =>
    show (Int32.ofNat (mDec n b) = - Int32.ofNat 1) = _
    have h1 := @mDec_lt n b
    have h2 : 10 ^ n ≤ 10 ^ 6 := Nat.pow_le_pow_right (by omega) hn
    rw [qi_ne1 (by omega) (by omega) (by omega)]
    exact propext ⟨fun w => w.elim, fun w => by cases w⟩
theorem mFs_s {P : Nat → Bool} {k : Nat} : mFs P (k + 1) = match mFs P k with
    | some j => some j
    | none => if P k then some k else none := rfl
/-- what the reference's try of WINDS may change -/
def sK (d a k : Nat) : Prop := (a = 526 ∧ (k = 38 ∨ k = 39)) ∨ a = 535 ∨ a = 536 ∨ a = 545 ∨ (a = 548 ∧ 54 * d ≤ k) ∨ (a = 543 ∧ k < 54)
theorem sM_K {d a k : Nat} (h : sM a k) : sK d a k := by unfold sM sV at h; unfold sK; omega
theorem vMs.frK {nb d : Nat} {C : mC} {lw : mLaw} {L : mL} {g g' : zSg} (h : vMs nb C lw L g) (f : qF (sK d) g g') (h3 : ∀ i, i < 54 → g'.2.1 543 i = g.2.1 543 i) : vMs nb C lw L g' := by
  obtain ⟨h1, h2, h4, hl, h5, h6, h7⟩ := h
  exact ⟨h1, h2, h4, hl, h5.fr f (fun k => by unfold sK; omega) (fun k => by unfold sK; omega) (fun k => by unfold sK; omega) (fun k _ _ => by unfold sK; omega), h6.fr f (by unfold sK; omega) (fun b k q1 q2 => by unfold sK; omega), fun i hi => (h3 i hi).trans (h7 i hi)⟩
theorem vMs.wind {nb w : Nat} {C : mC} {lw : mLaw} {L : mL} {g : zSg} (h : vMs nb C lw L g) (hL : mLf nb C L) (hw : w < 4) : vMs nb C lw (mLw L w) (gsI g 543 50 (Int32.ofNat w)) := by
  have f : qF (fun a k => a = 543 ∧ k = 50) g (gsI g 543 50 (Int32.ofNat w)) := qF.rfl'.sI ⟨rfl, rfl⟩
  obtain ⟨h1, h2, h4, hl, h5, h6, h7⟩ := h
  refine ⟨h1, h2, h4, (mLw_lf h1 hw hL).1, h5.fr f (fun k => by omega) (fun k => by omega) (fun k => by omega) (fun k _ _ => by omega), h6.fr f (by omega) (fun b k q1 q2 => by omega), fun i hi => ?_⟩
  by_cases q : i = 50
  · subst q
    rw [qs_Ie]
    rfl
  · rw [qs_In (by omega), mLw_n q]
    exact h7 i hi
theorem q_4p {x w m : Nat} : (4 * x + (w + 1)) * 4 ^ m = (4 * x + w + 1) * 4 ^ m := rfl
theorem q_4l {x m : Nat} : (4 * x + 4) * 4 ^ m = (x + 1) * 4 ^ (m + 1) := by
  rw [Nat.pow_succ, show 4 * x + 4 = (x + 1) * 4 by omega, Nat.mul_assoc, Nat.mul_comm 4]
theorem q_40 {x m : Nat} : (4 * x + 0) * 4 ^ m = x * 4 ^ (m + 1) := by
  rw [Nat.pow_succ, show 4 * x + 0 = x * 4 by omega, Nat.mul_assoc, Nat.mul_comm 4]
section Q11
variable {C : mC} {L : mL} {lw : mLaw}
theorem m_try {c who n : Nat} {P : Nat → Bool} (hC : mWf C) (hL : mLf 999 C L) (hc : c < C.2.1) (hwho : who < 64) (hn : n ≤ 6) (hP : P = mOk C lw L c who n) : ∀ (m k x fu : Nat) (g : zSg), k + m = n → m < fu → vMs (999 + k) C lw (mRun C lw L k x) g → g.2.1 526 38 = mBw n (mFs P (x * 4 ^ m)) → g.2.1 526 39 = Int32.ofNat (mCnt P (x * 4 ^ m)) →
    ∃ g', f_X12_tryWinds fu (Int32.ofNat k) (Int32.ofNat m) (Int32.ofNat c) (Int32.ofNat who) (Int32.ofNat (mDec k x)) g = some ((), g') ∧ qF (sK k) g g' ∧ (∀ i, i < 54 → g'.2.1 543 i = g.2.1 543 i) ∧ g'.2.1 526 38 = mBw n (mFs P ((x + 1) * 4 ^ m)) ∧ g'.2.1 526 39 = Int32.ofNat (mCnt P ((x + 1) * 4 ^ m)) := by
  have hS := hC.2.1
  intro m
  induction m with
  | zero =>
    intro k x fu g hk hfu h e38 e39
    obtain ⟨fu, rfl⟩ : ∃ f, fu = f + 1 := ⟨fu - 1, by omega⟩
    obtain rfl : k = n := by omega
    rw [Nat.pow_zero, Nat.mul_one] at e38 e39
    have h49 : mRun C lw L k x 49 < 64 := h.2.2.2.1.2.2.2.2.1
    have hk64 := @mKn_lt C (mRun C lw L k x) c
    show ∃ g', f_X12_tryWinds_b _ _ _ _ _ _ _ = _ ∧ _
    unfold f_X12_tryWinds_b
    have hPx : P x = ((mRun C lw L k x 49).testBit c && decide (mKn C (mRun C lw L k x) c &&& who = 0)) := by rw [hP]; rfl
    simp (disch := omega) only [qi_lit, if_true, if_false, not_true_eq_false, not_false_eq_true, ite_true, ite_false, m_isRaw (h.N 49 (by omega)), m_knownOf h.mk hc, zB, mB_0, qi_and]
    rw [Nat.pow_zero, Nat.mul_one]
    cases hb : (mRun C lw L k x 49).testBit c
    · have hp0 : P x = false := by rw [hPx, hb]; rfl
      rw [if_pos (by decide)]
      refine ⟨g, rfl, qF.rfl', fun i hi => rfl, ?_, ?_⟩
      · rw [e38, mFs_s, hp0]; cases mFs P x <;> rfl
      · rw [e39]; show _ = Int32.ofNat (mCnt P x + (if P x then 1 else 0)); rw [hp0]; rfl
    · rw [if_neg (by decide)]
      have hand : mKn C (mRun C lw L k x) c &&& who < 64 := Nat.lt_of_le_of_lt Nat.and_le_right hwho
      by_cases q : mKn C (mRun C lw L k x) c &&& who = 0
      · have hp1 : P x = true := by rw [hPx, hb, decide_eq_true q]; rfl
        rw [if_neg (by rw [q]; exact fun w => w rfl)]
        have key : ∀ s0, s0 = mBw k (mFs P (x + 1)) → ∃ g', f_X12_tryWinds_41 (f_X12_tryWinds fu) s0 g = some ((), g') ∧ qF (sK k) g g' ∧ (∀ i, i < 54 → g'.2.1 543 i = g.2.1 543 i) ∧ g'.2.1 526 38 = mBw k (mFs P (x + 1)) ∧ g'.2.1 526 39 = Int32.ofNat (mCnt P (x + 1)) := by
          intro s0 hs0
          refine ⟨_, rfl, (qF.rfl'.sI (by unfold sK; omega)).sI (by unfold sK; omega), fun i hi => ?_, ?_, ?_⟩
          · rw [qs_In (by omega), qs_In (by omega)]
          · rw [qs_In (by omega), qs_Ie, hs0]
          · rw [qs_Ie]
            show (gsI g 526 38 s0).2.1 526 39 + Int32.ofNat 1 = Int32.ofNat (mCnt P x + (if P x then 1 else 0))
            rw [qs_In (by omega), e39, hp1, qi_add]
            rfl
        show ∃ g', (if ¬ g.2.1 526 38 = - Int32.ofNat 1 then f_X12_tryWinds_41 (f_X12_tryWinds fu) (g.2.1 526 38) g else f_X12_tryWinds_41 (f_X12_tryWinds fu) (Int32.ofNat (mDec k x)) g) = _ ∧ _
        simp only [e38, mBw_m1 hn]
        cases hf : mFs P x with
        | none =>
          rw [if_neg (fun w => w rfl)]
          exact key _ (by rw [mFs_s, hf, hp1]; rfl)
        | some j =>
          rw [if_pos (fun w => by cases w)]
          exact key _ (by rw [mFs_s, hf])
      · have hp0 : P x = false := by rw [hPx, decide_eq_false q, Bool.and_false]
        rw [if_pos (by rw [qi_inj (by omega) (by omega)]; exact q)]
        refine ⟨g, rfl, qF.rfl', fun i hi => rfl, ?_, ?_⟩
        · rw [e38, mFs_s, hp0]; cases mFs P x <;> rfl
        · rw [e39]; show _ = Int32.ofNat (mCnt P x + (if P x then 1 else 0)); rw [hp0]; rfl
  | succ m ih =>
    intro k x fu g hk hfu h e38 e39
    obtain ⟨fu, rfl⟩ : ∃ f, fu = f + 1 := ⟨fu - 1, by omega⟩
    obtain ⟨g1, ze, ha, f1⟩ := m_aside (d := k) (g := g) (by omega)
    have F1 : qF (sK k) g g1 := f1.mono fun a j w => by unfold sK; omega
    have e543 : ∀ i, i < 54 → g1.2.1 543 i = g.2.1 543 i := fun i hi => f1.2.1 _ _ (by omega)
    show ∃ g', f_X12_tryWinds_b _ _ _ _ _ _ _ = _ ∧ _
    unfold f_X12_tryWinds_b
    rw [show (0 : Int32) = Int32.ofNat 0 from rfl, if_pos (show ¬ Int32.ofNat (m + 1) = Int32.ofNat 0 by rw [qi_inj (by omega) (by omega)]; omega), ze]
    show ∃ g', f_X12_tryWinds_63 (f_X12_tryWinds fu) zFu (Int32.ofNat k) (Int32.ofNat (m + 1)) (Int32.ofNat c) (Int32.ofNat who) (Int32.ofNat (mDec k x)) (Int32.ofNat 0) g1 = _ ∧ _
    refine q_loop (F := fun nn w g => f_X12_tryWinds_63 (f_X12_tryWinds fu) nn (Int32.ofNat k) (Int32.ofNat (m + 1)) (Int32.ofNat c) (Int32.ofNat who) (Int32.ofNat (mDec k x)) (Int32.ofNat w) g) (N := 4) (Inv := fun w g' => vMs (999 + k) C lw (mRun C lw L k x) g' ∧ qF (sK k) g g' ∧ (∀ i, i < 54 → g'.2.1 548 (54 * k + i) = g.2.1 543 i) ∧ (∀ i, i < 54 → g'.2.1 543 i = g.2.1 543 i) ∧ g'.2.1 526 38 = mBw n (mFs P ((4 * x + w) * 4 ^ m)) ∧ g'.2.1 526 39 = Int32.ofNat (mCnt P ((4 * x + w) * 4 ^ m))) (R := fun o => ∃ g', o = some ((), g') ∧ qF (sK k) g g' ∧ (∀ i, i < 54 → g'.2.1 543 i = g.2.1 543 i) ∧ g'.2.1 526 38 = mBw n (mFs P ((x + 1) * 4 ^ (m + 1))) ∧ g'.2.1 526 39 = Int32.ofNat (mCnt P ((x + 1) * 4 ^ (m + 1)))) (by omega) ?_ ?_ (Nat.zero_le _) ⟨h.frK F1 e543, F1, ha, e543, by rw [q_40, ← e38]; exact f1.2.1 _ _ (by omega), by rw [q_40, ← e39]; exact f1.2.1 _ _ (by omega)⟩
    · intro nn g' ⟨h', ff, h548, h543, c38, c39⟩
      rw [q_4l] at c38 c39
      exact ⟨g', rfl, ff, h543, c38, c39⟩
    · intro nn w g' hw ⟨h', ff, h548, h543, c38, c39⟩ ih2
      obtain ⟨v, g2, ze2, h2, f2⟩ := m_live (by omega) (mLw_lf hC hw (mRun_lf hC hL k x)) (h'.wind (mRun_lf hC hL k x) hw)
      rw [← mRun_s hw] at h2
      have f2' : qF (sK (k + 1)) g' g2 := (qF.rfl'.sI (by unfold sK; omega)).tr (f2.mono fun a j q => sM_K q)
      obtain ⟨g3, ze3, f3, -, r38, r39⟩ := ih (k + 1) (4 * x + w) fu g2 (by omega) (by omega) h2 (by rw [← c38]; exact (f2.2.1 _ _ (by unfold sM sV; omega)).trans (qs_In (by omega))) (by rw [← c39]; exact (f2.2.1 _ _ (by unfold sM sV; omega)).trans (qs_In (by omega)))
      obtain ⟨g4, ze4, hb4, f4⟩ := m_tback (d := k) (g := g3) (by omega)
      have F3 : qF (sK (k + 1)) g' g3 := f2'.tr f3
      have b543 : ∀ i, i < 54 → g4.2.1 543 i = g.2.1 543 i := fun i hi => by
        rw [hb4 i hi, F3.2.1 _ _ (by unfold sK; omega)]
        exact h548 i hi
      have F4 : qF (sK k) g' g4 := (F3.mono fun a j q => by unfold sK at *; omega).tr (f4.mono fun a j q => by unfold sK; omega)
      show ∃ g', fb_X12_tryWinds_63 _ _ _ _ _ _ _ _ _ = _ ∧ _
      unfold fb_X12_tryWinds_63
      simp (disch := omega) only [qi_lit, qi_le, if_neg (show ¬ 4 ≤ w by omega), ze2, zB, qi_add, qi_mul, qi_sub, Nat.add_sub_cancel]
      rw [← mDec_s hw, ze3]
      simp only [ze4]
      exact ih2 g4 ⟨h'.frK F4 (fun i hi => (b543 i hi).trans (h543 i hi).symm), ff.tr F4, fun i hi => by rw [f4.2.1 _ _ (by omega), F3.2.1 _ _ (by unfold sK; omega)]; exact h548 i hi, b543, (f4.2.1 _ _ (by omega)).trans r38, (f4.2.1 _ _ (by omega)).trans r39⟩
end Q11
