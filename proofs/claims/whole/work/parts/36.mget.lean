/-! ===== the reference: what a COAST is asked, STRENGTH ===== -/
def vMo (C : mC) (g : zSg) : Prop := (∀ k, k < 5 → g.2.1 540 k = Int32.ofNat (C.2.2 k)) ∧ (∀ p k, p < C.1 → k < 3 → g.2.1 541 (3 * p + k) = Int32.ofNat (C.2.2 (5 + 3 * p + k))) ∧ (∀ c k, c < C.2.1 → k < 4 → g.2.1 542 (4 * c + k) = Int32.ofNat (C.2.2 (23 + 4 * c + k))) ∧ g.2.1 526 25 = Int32.ofNat C.1 ∧ g.2.1 526 26 = Int32.ofNat C.2.1 ∧ g.2.1 526 27 = Int32.ofNat (mCells C)
def vN (L : mL) (g : zSg) : Prop := ∀ i, i < 54 → g.2.1 543 i = Int32.ofNat (L i)
theorem vMo.fr {C : mC} {g g' : zSg} {S : Nat → Nat → Prop} (h : vMo C g) (hf : qF S g g') (h1 : ∀ k, ¬ S 540 k) (h2 : ∀ k, ¬ S 541 k) (h3 : ∀ k, ¬ S 542 k) (h4 : ∀ k, 25 ≤ k → k ≤ 27 → ¬ S 526 k) : vMo C g' :=
  ⟨fun k hk => (hf.2.1 _ _ (h1 _)).trans (h.1 k hk), fun p k hp hk => (hf.2.1 _ _ (h2 _)).trans (h.2.1 p k hp hk), fun p k hp hk => (hf.2.1 _ _ (h3 _)).trans (h.2.2.1 p k hp hk), (hf.2.1 _ _ (h4 _ (by omega) (by omega))).trans h.2.2.2.1, (hf.2.1 _ _ (h4 _ (by omega) (by omega))).trans h.2.2.2.2.1, (hf.2.1 _ _ (h4 _ (by omega) (by omega))).trans h.2.2.2.2.2⟩
theorem vN.fr {L : mL} {g g' : zSg} {S : Nat → Nat → Prop} (h : vN L g) (hf : qF S g g') (h1 : ∀ k, k < 54 → ¬ S 543 k) : vN L g' := fun i hi => (hf.2.1 _ _ (h1 i hi)).trans (h i hi)
theorem vN.up {L : mL} {g : zSg} {i v : Nat} (h : vN L g) : vN (mUp L i v) (gsI g 543 i (Int32.ofNat v)) := fun j hj => by
  by_cases q : j = i
  · subst q; rw [qs_Ie, mUp_e]
  · rw [qs_In (by omega), mUp_n q]; exact h j hj
/-- the same rows of the LAW n -/
def vLe (n : Nat) (g g' : zSg) : Prop := (∀ k, 520 * n ≤ k → k < 520 * n + 520 → g'.2.1 528 k = g.2.1 528 k ∧ g'.2.1 529 k = g.2.1 529 k) ∧ g'.2.1 531 n = g.2.1 531 n ∧ ∀ k, 140 * n ≤ k → k < 140 * n + 140 → g'.2.1 532 k = g.2.1 532 k ∧ g'.2.1 533 k = g.2.1 533 k ∧ g'.2.1 534 k = g.2.1 534 k
def vLm (lw : mLaw) (g : zSg) : Prop := mLwOk lw ∧ ((g.2.1 526 30 = -1 ∧ ∀ k f n v t o, lw k f n v t o = (k : Int) - f) ∨ (∃ m, g.2.1 526 30 = Int32.ofNat m ∧ m < 4 ∧ ∀ g' : zSg, vLe m g g' → ∀ k f n v t o, k < 1000 → f < 1000 → n < 1000 → v < 1000 → t < 1000 → o < 1000 → g'.2.1 535 0 = Int32.ofNat k → g'.2.1 535 1 = Int32.ofNat f → g'.2.1 535 2 = Int32.ofNat n → g'.2.1 535 3 = Int32.ofNat v → g'.2.1 535 4 = Int32.ofNat t → g'.2.1 535 5 = Int32.ofNat o → qE (fun b _ => b = 536) g' (f_X12_worthOf (Int32.ofNat m) g') (Int32.ofInt (lw k f n v t o))))
def sV (a _k : Nat) : Prop := a = 535 ∨ a = 536
theorem vLe.fr {n : Nat} {g g' g'' : zSg} {S : Nat → Nat → Prop} (h : vLe n g' g'') (hf : qF S g g') (hS : ∀ b k, 528 ≤ b → b ≤ 534 → ¬ S b k) : vLe n g g'' :=
  ⟨fun k h1 h2 => ⟨(h.1 k h1 h2).1.trans (hf.2.1 _ _ (hS _ _ (by omega) (by omega))), (h.1 k h1 h2).2.trans (hf.2.1 _ _ (hS _ _ (by omega) (by omega)))⟩, h.2.1.trans (hf.2.1 _ _ (hS _ _ (by omega) (by omega))), fun k h1 h2 => ⟨(h.2.2 k h1 h2).1.trans (hf.2.1 _ _ (hS _ _ (by omega) (by omega))), (h.2.2 k h1 h2).2.1.trans (hf.2.1 _ _ (hS _ _ (by omega) (by omega))), (h.2.2 k h1 h2).2.2.trans (hf.2.1 _ _ (hS _ _ (by omega) (by omega)))⟩⟩
theorem vLm.fr {lw : mLaw} {g g' : zSg} {S : Nat → Nat → Prop} (h : vLm lw g) (hf : qF S g g') (h30 : ¬ S 526 30) (hS : ∀ b k, 528 ≤ b → b ≤ 534 → ¬ S b k) : vLm lw g' := by
  refine ⟨h.1, ?_⟩
  rcases h.2 with ⟨h1, h2⟩ | ⟨m, h1, h2, h3⟩
  · exact Or.inl ⟨(hf.2.1 _ _ h30).trans h1, h2⟩
  · exact Or.inr ⟨m, (hf.2.1 _ _ h30).trans h1, h2, fun g2 e => h3 g2 (e.fr hf hS)⟩
def vMs (nb : Nat) (C : mC) (lw : mLaw) (L : mL) (g : zSg) : Prop := mWf C ∧ 0 < C.1 ∧ nb ≤ 100000 ∧ mLb nb C L ∧ vMo C g ∧ vLm lw g ∧ vN L g
theorem vMs.N {nb : Nat} {C : mC} {lw : mLaw} {L : mL} {g : zSg} (h : vMs nb C lw L g) : ∀ i, i < 54 → g.2.1 543 i = Int32.ofNat (L i) := h.2.2.2.2.2.2
theorem vMs.fr {nb : Nat} {C : mC} {lw : mLaw} {L : mL} {g g' : zSg} (h : vMs nb C lw L g) (hf : qF sV g g') : vMs nb C lw L g' := by
  obtain ⟨h1, h2, h3, h4, h5, h6, h7⟩ := h
  exact ⟨h1, h2, h3, h4, h5.fr hf (fun k => by unfold sV; omega) (fun k => by unfold sV; omega) (fun k => by unfold sV; omega) (fun k _ _ => by unfold sV; omega), h6.fr hf (by unfold sV; omega) (fun b k q1 q2 => by unfold sV; omega), h7.fr hf (fun k _ => by unfold sV; omega)⟩
section MG
variable {C : mC} {g : zSg}
theorem m_in1 {n k : Nat} {hi : Int32} (hhi : hi = Int32.ofNat n - Int32.ofNat 1) (hk : k < n) (hn : n < 2147483648) : f_X12_in (Int32.ofNat k) 0 hi g = some (1, g) := by
  subst hhi
  unfold f_X12_in
  rw [qi_sub (by omega)]
  simp (disch := omega) only [qi_lit, qi_lt, if_neg (show ¬ k < 0 by omega), if_neg (show ¬ n - 1 < k by omega)]
theorem m_in0 {n : Nat} {x hi : Int32} (hhi : hi = Int32.ofNat n - Int32.ofNat 1) (hx : ¬ mHas n x) (hn : n < 2147483648) : f_X12_in x 0 hi g = some (0, g) := by
  subst hhi
  unfold f_X12_in
  rw [mHas_iff hn] at hx
  by_cases h1 : x < 0
  · rw [if_pos h1]
  · rw [if_neg h1]
    have h2 : Int32.ofNat n ≤ x := by
      by_cases h2 : Int32.ofNat n ≤ x
      · exact h2
      · exact absurd ⟨h1, h2⟩ hx
    have h3 : Int32.ofNat n - Int32.ofNat 1 < x := by
      rw [Int32.lt_iff_toInt_lt, qj_of, qj_of, qj_sub, qj_toInt (by omega) (by omega)]
      rw [Int32.le_iff_toInt_le, qj_of, qj_toInt (by omega) (by omega)] at h2
      omega
    rw [if_pos h3]
theorem m_isPerson1 {p : Nat} (h : vMo C g) (hC : C.1 ≤ 6) (hp : p < C.1) : f_X12_isPerson (Int32.ofNat p) g = some (1, g) := by
  unfold f_X12_isPerson
  rw [show gI g 526 25 - 1 = Int32.ofNat C.1 - Int32.ofNat 1 from by show g.2.1 526 25 - Int32.ofNat 1 = _; rw [h.2.2.2.1], m_in1 rfl hp (by omega)]
  rfl
theorem m_isPerson0 {x : Int32} (h : vMo C g) (hC : C.1 ≤ 6) (hp : ¬ mHas C.1 x) : f_X12_isPerson x g = some (0, g) := by
  unfold f_X12_isPerson
  rw [show gI g 526 25 - 1 = Int32.ofNat C.1 - Int32.ofNat 1 from by show g.2.1 526 25 - Int32.ofNat 1 = _; rw [h.2.2.2.1], m_in0 rfl hp (by omega)]
  rfl
theorem m_isSecret1 {p : Nat} (h : vMo C g) (hC : C.2.1 ≤ 6) (hp : p < C.2.1) : f_X12_isSecret (Int32.ofNat p) g = some (1, g) := by
  unfold f_X12_isSecret
  rw [show gI g 526 26 - 1 = Int32.ofNat C.2.1 - Int32.ofNat 1 from by show g.2.1 526 26 - Int32.ofNat 1 = _; rw [h.2.2.2.2.1], m_in1 rfl hp (by omega)]
  rfl
theorem m_isSecret0 {x : Int32} (h : vMo C g) (hC : C.2.1 ≤ 6) (hp : ¬ mHas C.2.1 x) : f_X12_isSecret x g = some (0, g) := by
  unfold f_X12_isSecret
  rw [show gI g 526 26 - 1 = Int32.ofNat C.2.1 - Int32.ofNat 1 from by show g.2.1 526 26 - Int32.ofNat 1 = _; rw [h.2.2.2.2.1], m_in0 rfl hp (by omega)]
  rfl
theorem m_isCell1 {p : Nat} (h : vMo C g) (hC : mCells C ≤ 30) (hp : p < mCells C) : f_X12_isCell (Int32.ofNat p) g = some (1, g) := by
  unfold f_X12_isCell
  rw [show gI g 526 27 - 1 = Int32.ofNat (mCells C) - Int32.ofNat 1 from by show g.2.1 526 27 - Int32.ofNat 1 = _; rw [h.2.2.2.2.2], m_in1 rfl hp (by omega)]
  rfl
theorem m_isCell0 {x : Int32} (h : vMo C g) (hC : mCells C ≤ 30) (hp : ¬ mHas (mCells C) x) : f_X12_isCell x g = some (0, g) := by
  unfold f_X12_isCell
  rw [show gI g 526 27 - 1 = Int32.ofNat (mCells C) - Int32.ofNat 1 from by show g.2.1 526 27 - Int32.ofNat 1 = _; rw [h.2.2.2.2.2], m_in0 rfl hp (by omega)]
  rfl
theorem m_ofPerson {p k : Nat} (h : vMo C g) (hC : C.1 ≤ 6) (hp : p < C.1) (hk : k < 3) : f_X12_ofPerson (Int32.ofNat p) (Int32.ofNat k) g = some (Int32.ofNat (C.2.2 (5 + 3 * p + k)), g) := by
  unfold f_X12_ofPerson
  simp (disch := omega) only [qi_lit, qi_mul, qi_add, qi_zib, qi_ix, if_true, h.2.1]
theorem m_of {c k : Nat} (h : vMo C g) (hC : C.2.1 ≤ 6) (hc : c < C.2.1) (hk : k < 4) : f_X12_of (Int32.ofNat c) (Int32.ofNat k) g = some (Int32.ofNat (C.2.2 (23 + 4 * c + k)), g) := by
  unfold f_X12_of
  simp (disch := omega) only [qi_lit, qi_mul, qi_add, qi_zib, qi_ix, if_true, h.2.2.1]
theorem m_nose {p : Nat} (h : vMo C g) (hC : C.1 ≤ 6) (hp : p < C.1) : f_X12_ofPerson (Int32.ofNat p) 2 g = some (Int32.ofNat (mNose C p), g) := m_ofPerson h hC hp (k := 2) (by omega)
theorem m_own {c : Nat} (h : vMo C g) (hC : C.2.1 ≤ 6) (hc : c < C.2.1) : f_X12_of (Int32.ofNat c) 0 g = some (Int32.ofNat (mOwn C c), g) := m_of h hC hc (k := 0) (by omega)
theorem m_hvy {c : Nat} (h : vMo C g) (hC : C.2.1 ≤ 6) (hc : c < C.2.1) : f_X12_of (Int32.ofNat c) 1 g = some (Int32.ofNat (mHvy C c), g) := m_of h hC hc (k := 1) (by omega)
theorem m_shedOf {c : Nat} (h : vMo C g) (hC : C.2.1 ≤ 6) (hc : c < C.2.1) : f_X12_shedOf (Int32.ofNat c) g = some (Int32.ofNat (mShed C c), g) := by
  unfold f_X12_shedOf
  rw [show (3 : Int32) = Int32.ofNat 3 from rfl, show (2 : Int32) = Int32.ofNat 2 from rfl, m_of h hC hc (k := 3) (by omega), qB_s, m_of h hC hc (k := 2) (by omega), qB_s]
  show some (g.2.1 540 0 * _ + _, g) = _
  rw [h.1 0 (by omega), qi_mul, qi_add, Nat.mul_comm]
  rfl
theorem m_has {a k : Nat} (ha : a < 2147483648) (hk : k < 32) : f_X12_has (Int32.ofNat a) (Int32.ofNat k) g = some (mB (a.testBit k), g) := by
  unfold f_X12_has
  simp only [qi_lit, qi_bit1 ha hk]
  cases a.testBit k <;> rfl
theorem mB_01 {b : Bool} : mB b = 0 ∨ mB b = 1 := by cases b <;> simp [mB]
theorem q_dm {w q r : Nat} (hr : r < w) : (w * q + r) / w = q ∧ (w * q + r) % w = r := by
  have hw : 0 < w := by omega
  refine ⟨?_, ?_⟩
  · rw [Nat.mul_add_div hw, Nat.div_eq_of_lt hr, Nat.add_zero]
  · rw [Nat.mul_add_mod, Nat.mod_eq_of_lt hr]
theorem m_in0J {a : Int} {n : Nat} (ha : -1000 ≤ a) (ha2 : a < 1000000) (hn : n < 1000000) : f_X12_in (Int32.ofInt a) 0 (Int32.ofNat n - Int32.ofNat 1) g = some (mB (decide (0 ≤ a ∧ a < n)), g) := by
  have h1 : (Int32.ofInt a < 0) = (a < 0) := qj_lt (b := 0) (by omega) (by omega) (by omega) (by omega)
  have h2 : (Int32.ofNat n - Int32.ofNat 1 < Int32.ofInt a) = ((n : Int) - (1 : Nat) < a) := by rw [qj_of, qj_of, qj_sub, qj_lt (by omega) (by omega) (by omega) (by omega)]
  unfold f_X12_in
  simp only [h1, h2]
  by_cases q1 : a < 0
  · rw [if_pos q1, decide_eq_false (by omega)]; rfl
  · by_cases q2 : (n : Int) - (1 : Nat) < a
    · rw [if_neg q1, if_pos q2, decide_eq_false (by omega)]; rfl
    · rw [if_neg q1, if_neg q2, decide_eq_true (by omega)]; rfl
theorem m_bes55 {W H y : Nat} {x dy : Int} (hW : g.2.1 540 0 = Int32.ofNat W) (hH : g.2.1 540 1 = Int32.ofNat H) (hW6 : W < 1000) (hH6 : H < 1000) (hy : y < 1000) (h1 : -10 ≤ x) (h2 : x < 1000) (h3 : -10 ≤ dy) (h4 : dy < 1000) : f_X12_beside_55 (Int32.ofInt x) (Int32.ofInt dy) (Int32.ofNat y) g = some (if (0 ≤ x ∧ x < W) ∧ (0 ≤ (y : Int) + dy ∧ (y : Int) + dy < H) then Int32.ofInt (W * (y + dy) + x) else -1, g) := by
  have e1 : gI g 540 0 - 1 = Int32.ofNat W - Int32.ofNat 1 := by show g.2.1 540 0 - Int32.ofNat 1 = _; rw [hW]
  have e2 : gI g 540 1 - 1 = Int32.ofNat H - Int32.ofNat 1 := by show g.2.1 540 1 - Int32.ofNat 1 = _; rw [hH]
  have e3 : Int32.ofNat y + Int32.ofInt dy = Int32.ofInt ((y : Int) + dy) := by rw [qj_of, qj_add]
  unfold f_X12_beside_55
  rw [e1, m_in0J (by omega) (by omega) (by omega), e3]
  simp only [zB]
  by_cases q1 : 0 ≤ x ∧ x < (W : Int)
  · rw [decide_eq_true q1, if_neg (by decide), e2, m_in0J (by omega) (by omega) (by omega)]
    simp only []
    by_cases q2 : 0 ≤ (y : Int) + dy ∧ (y : Int) + dy < (H : Int)
    · rw [decide_eq_true q2, if_neg (by decide), if_pos ⟨q1, q2⟩, show gI g 540 0 = Int32.ofNat W from hW, qj_of, qj_mul, qj_add]
    · rw [decide_eq_false q2, if_pos (by decide), if_neg (fun w => q2 w.2)]
  · rw [decide_eq_false q1, if_pos (by decide), if_neg (fun w => q1 w.1)]
theorem m_beside {l w : Nat} (h : vMo C g) (hC : mWf C) (hw : 0 < mW C) (hl : l < mCells C) (hw4 : w < 4) : f_X12_beside (Int32.ofNat l) (Int32.ofNat w) g = some (mOpt (mBes (mW C) (mH C) l w), g) := by
  have hw6 : mW C ≤ 6 := hC.2.2.1
  have hh5 : mH C ≤ 5 := hC.2.2.2.1
  have hl30 := hC.cells
  have hW : g.2.1 540 0 = Int32.ofNat (mW C) := h.1 0 (by omega)
  have hH : g.2.1 540 1 = Int32.ofNat (mH C) := h.1 1 (by omega)
  have hm : l % mW C < mW C := Nat.mod_lt _ hw
  have hdm : mW C * (l / mW C) + l % mW C = l := Nat.div_add_mod l (mW C)
  have hy : l / mW C < mH C := Nat.div_lt_of_lt_mul hl
  have hnz : ¬ mW C = 0 := by omega
  have h55 : ∀ (x dy : Int), -10 ≤ x → x < 1000 → -10 ≤ dy → dy < 1000 → f_X12_beside_55 (Int32.ofInt x) (Int32.ofInt dy) (Int32.ofNat (l / mW C)) g = some (if (0 ≤ x ∧ x < mW C) ∧ (0 ≤ ((l / mW C : Nat) : Int) + dy ∧ ((l / mW C : Nat) : Int) + dy < mH C) then Int32.ofInt (mW C * ((l / mW C : Nat) + dy) + x) else -1, g) := fun x dy q1 q2 q3 q4 => m_bes55 hW hH (by omega) (by omega) (by omega) q1 q2 q3 q4
  have hd0 : ∀ (a b : Int32), (if gI g 540 0 = 0 then (none : Option (Int32 × zSg)) else some (a, g)) = some (a, g) := fun a b => by
    rw [if_neg]
    show ¬ g.2.1 540 0 = Int32.ofNat 0
    rw [hW, qi_inj (by omega) (by omega)]
    exact hnz
  have hne : ¬ gI g 540 0 = 0 := by
    show ¬ g.2.1 540 0 = Int32.ofNat 0
    rw [hW, qi_inj (by omega) (by omega)]
    exact hnz
  have em : imod (Int32.ofNat l) (gI g 540 0) = Int32.ofInt ((l % mW C : Nat) : Int) := by rw [show gI g 540 0 = Int32.ofNat (mW C) from hW, qi_imod (by omega) (by omega), qj_of]
  have ed : Int32.ofNat l / gI g 540 0 = Int32.ofNat (l / mW C) := by rw [show gI g 540 0 = Int32.ofNat (mW C) from hW, qi_div (by omega) (by omega)]
  have fin : ∀ (z : Int) (n : Nat), z = n → some (Int32.ofInt z, g) = some (mOpt (some n), g) := fun z n q => by rw [q]; show _ = some (Int32.ofNat n, g); rw [qj_of]
  have c1 : (1 : Int32) = Int32.ofInt 1 := rfl
  have c0 : (0 : Int32) = Int32.ofInt 0 := rfl
  have cm : (-1 : Int32) = Int32.ofInt (-1) := rfl
  have way : ∀ k : Nat, k < 4 → (Int32.ofNat w = (OfNat.ofNat k : Int32)) = (w = k) := fun k hk => qi_inj (by omega) (by omega)
  have w0 : (Int32.ofNat w = 0) = (w = 0) := qi_inj (b := 0) (by omega) (by omega)
  have w1 : (Int32.ofNat w = 1) = (w = 1) := qi_inj (b := 1) (by omega) (by omega)
  have w2 : (Int32.ofNat w = 2) = (w = 2) := qi_inj (b := 2) (by omega) (by omega)
  have w3 : (Int32.ofNat w = 3) = (w = 3) := qi_inj (b := 3) (by omega) (by omega)
  unfold f_X12_beside f_X12_beside_27
  simp only [if_neg hne, em, ed, w0, w1, w2, w3]
  unfold mBes
  generalize l / mW C = ly at *
  generalize l % mW C = lx at *
  rcases (show w = 0 ∨ w = 1 ∨ w = 2 ∨ w = 3 by omega) with rfl | rfl | rfl | rfl
  · simp only [if_true, if_false, not_true_eq_false, not_false_eq_true, ite_true, ite_false, Nat.reduceAdd, Nat.reduceMul, Nat.reduceSub, Nat.reduceLT, Nat.reduceEqDiff, Nat.zero_ne_one, Nat.one_ne_zero]
    rw [c0, cm, qj_add, h55 _ _ (by omega) (by omega) (by omega) (by omega)]
    by_cases q : 0 < ly
    · rw [if_pos (by omega), if_pos q]
      refine fin _ _ ?_
      obtain ⟨z, rfl⟩ : ∃ z, ly = z + 1 := ⟨ly - 1, by omega⟩
      rw [Nat.mul_add] at hdm
      rw [show ((z + 1 : Nat) : Int) + -1 = z by omega]
      omega
    · rw [if_neg (by omega), if_neg q]; rfl
  · simp only [if_true, if_false, not_true_eq_false, not_false_eq_true, ite_true, ite_false, Nat.reduceAdd, Nat.reduceMul, Nat.reduceSub, Nat.reduceLT, Nat.reduceEqDiff, Nat.zero_ne_one, Nat.one_ne_zero]
    rw [c0, c1, qj_add, h55 _ _ (by omega) (by omega) (by omega) (by omega)]
    by_cases q : lx + 1 < mW C
    · rw [if_pos (by omega), if_pos q]
      refine fin _ _ ?_
      rw [Int.add_zero]
      omega
    · rw [if_neg (by omega), if_neg q]; rfl
  · simp only [if_true, if_false, not_true_eq_false, not_false_eq_true, ite_true, ite_false, Nat.reduceAdd, Nat.reduceMul, Nat.reduceSub, Nat.reduceLT, Nat.reduceEqDiff, Nat.zero_ne_one, Nat.one_ne_zero]
    rw [c0, c1, qj_add, h55 _ _ (by omega) (by omega) (by omega) (by omega)]
    by_cases q : ly + 1 < mH C
    · rw [if_pos (by omega), if_pos q]
      refine fin _ _ ?_
      rw [Int.mul_add]
      omega
    · rw [if_neg (by omega), if_neg q]; rfl
  · simp only [if_true, if_false, not_true_eq_false, not_false_eq_true, ite_true, ite_false, Nat.reduceAdd, Nat.reduceMul, Nat.reduceSub, Nat.reduceLT, Nat.reduceEqDiff, Nat.zero_ne_one, Nat.one_ne_zero]
    rw [c0, cm, qj_add, h55 _ _ (by omega) (by omega) (by omega) (by omega)]
    by_cases q : 0 < lx
    · rw [if_pos (by omega), if_pos q]
      refine fin _ _ ?_
      rw [Int.add_zero]
      omega
    · rw [if_neg (by omega), if_neg q]; rfl
/-- one CELL nearer -/
theorem mBes_some {W H s w s' : Nat} (hW : 0 < W) (hs : s < W * H) (e : mBes W H s w = some s') : s' < W * H ∧ (w = 0 → s' / W + 1 = s / W ∧ s' % W = s % W) ∧ (w = 1 → s' / W = s / W ∧ s' % W = s % W + 1) ∧ (w = 2 → s' / W = s / W + 1 ∧ s' % W = s % W) ∧ (w = 3 → s' / W = s / W ∧ s' % W + 1 = s % W) := by
  have hdm : W * (s / W) + s % W = s := Nat.div_add_mod s W
  have hm : s % W < W := Nat.mod_lt _ hW
  have hy : s / W < H := Nat.div_lt_of_lt_mul hs
  have key : ∀ q r, r < W → q < H → W * q + r < W * H := fun q r hr hq => by
    have h1 : W * (q + 1) ≤ W * H := Nat.mul_le_mul_left W hq
    rw [Nat.mul_add, Nat.mul_one] at h1
    omega
  unfold mBes at e
  split at e
  · split at e
    · have : s' = W * (s / W - 1) + s % W := by
        have h1 := Option.some.inj e
        obtain ⟨q, hq⟩ : ∃ q, s / W = q + 1 := ⟨s / W - 1, by omega⟩
        rw [hq] at hdm ⊢
        rw [Nat.mul_add, Nat.mul_one] at hdm
        rw [show q + 1 - 1 = q from rfl]
        omega
      obtain ⟨d1, d2⟩ := q_dm (w := W) (q := s / W - 1) (r := s % W) hm
      rw [← this] at d1 d2
      exact ⟨by rw [this]; exact key _ _ hm (by omega), fun _ => ⟨by omega, d2⟩, fun _ => by omega, fun _ => by omega, fun _ => by omega⟩
    · cases e
  · split at e
    · split at e
      · have : s' = W * (s / W) + (s % W + 1) := by have h1 := Option.some.inj e; omega
        obtain ⟨d1, d2⟩ := q_dm (w := W) (q := s / W) (r := s % W + 1) (by omega)
        rw [← this] at d1 d2
        exact ⟨by rw [this]; exact key _ _ (by omega) hy, fun _ => by omega, fun _ => ⟨d1, d2⟩, fun _ => by omega, fun _ => by omega⟩
      · cases e
    · split at e
      · split at e
        · have : s' = W * (s / W + 1) + s % W := by have h1 := Option.some.inj e; rw [Nat.mul_add, Nat.mul_one]; omega
          obtain ⟨d1, d2⟩ := q_dm (w := W) (q := s / W + 1) (r := s % W) hm
          rw [← this] at d1 d2
          exact ⟨by rw [this]; exact key _ _ hm (by omega), fun _ => by omega, fun _ => by omega, fun _ => ⟨d1, d2⟩, fun _ => by omega⟩
        · cases e
      · split at e
        · split at e
          · have : s' = W * (s / W) + (s % W - 1) := by have h1 := Option.some.inj e; omega
            obtain ⟨d1, d2⟩ := q_dm (w := W) (q := s / W) (r := s % W - 1) (by omega)
            rw [← this] at d1 d2
            exact ⟨by rw [this]; exact key _ _ (by omega) hy, fun _ => by omega, fun _ => by omega, fun _ => by omega, fun _ => ⟨d1, by omega⟩⟩
          · cases e
        · cases e
def mLeft (W H s w : Nat) : Nat := if w = 0 then s / W else if w = 1 then W - 1 - s % W else if w = 2 then H - 1 - s / W else s % W
theorem m_offShed_l {l w : Nat} (h : vMo C g) (hC : mWf C) (hw : 0 < mW C) (hl : l < mCells C) (hw4 : w < 4) : ∀ (r n s f : Nat), s < mCells C → mLeft (mW C) (mH C) s w ≤ r → r + 1 < n → f + r < 1000 → f_X12_offShed_10 n (Int32.ofNat l) (Int32.ofNat w) (Int32.ofNat s) (Int32.ofNat f) g = some (match mOff (mW C) s l w with
    | none => -1
    | some k => Int32.ofNat (f + k), g) := by
  intro r
  have hl30 := hC.cells
  have hWle : mW C ≤ 6 := hC.2.2.1
  induction r with
  | zero =>
    intro n s f hs hr hn hf
    obtain ⟨m, rfl⟩ : ∃ m, n = m + 2 := ⟨n - 2, by omega⟩
    show fb_X12_offShed_10 _ _ _ _ _ _ = _
    unfold fb_X12_offShed_10 f_X12_offShed_37
    simp (disch := omega) only [qi_lit, qi_ne1, if_false, qi_inj, not_false_eq_true, if_true]
    have hlw : l % mW C < mW C := Nat.mod_lt _ hw
    have hsw : s % mW C < mW C := Nat.mod_lt _ hw
    have hly : l / mW C < mH C := Nat.div_lt_of_lt_mul hl
    have hsy : s / mW C < mH C := Nat.div_lt_of_lt_mul hs
    have hdl : mW C * (l / mW C) + l % mW C = l := Nat.div_add_mod l (mW C)
    have hds : mW C * (s / mW C) + s % mW C = s := Nat.div_add_mod s (mW C)
    have zp1 : (0 : Int) ≤ ((l / mW C : Nat) : Int) := Int.natCast_nonneg _
    have zp2 : (0 : Int) ≤ ((s / mW C : Nat) : Int) := Int.natCast_nonneg _
    by_cases q : s = l
    · subst q
      rw [if_pos rfl]
      have e : mOff (mW C) s s w = some 0 := by
        unfold mOff
        repeat' split
        all_goals first | (congr 1; omega) | (exfalso; omega)
      rw [e]
      rfl
    · rw [if_neg q]
      have hne : ¬ (l / mW C = s / mW C ∧ l % mW C = s % mW C) := fun z => q (by rw [← hdl, ← hds, z.1, z.2])
      have hb : mBes (mW C) (mH C) s w = none := by
        unfold mLeft at hr
        unfold mBes
        repeat' split
        all_goals first | rfl | (exfalso; (repeat' split at hr) <;> omega)
      rw [m_beside h hC hw hs hw4, hb, qB_s]
      have ho : mOff (mW C) s l w = none := by
        unfold mLeft at hr
        unfold mOff
        repeat' split
        all_goals first | rfl | (exfalso; (repeat' split at hr) <;> omega)
      rw [ho]
      rfl
  | succ r ih =>
    intro n s f hs hr hn hf
    obtain ⟨m, rfl⟩ : ∃ m, n = m + 2 := ⟨n - 2, by omega⟩
    show fb_X12_offShed_10 _ _ _ _ _ _ = _
    unfold fb_X12_offShed_10 f_X12_offShed_37
    simp (disch := omega) only [qi_lit, qi_ne1, if_false, qi_inj, not_false_eq_true, if_true]
    have hlw : l % mW C < mW C := Nat.mod_lt _ hw
    have hsw : s % mW C < mW C := Nat.mod_lt _ hw
    have hly : l / mW C < mH C := Nat.div_lt_of_lt_mul hl
    have hsy : s / mW C < mH C := Nat.div_lt_of_lt_mul hs
    have hdl : mW C * (l / mW C) + l % mW C = l := Nat.div_add_mod l (mW C)
    have hds : mW C * (s / mW C) + s % mW C = s := Nat.div_add_mod s (mW C)
    have zp1 : (0 : Int) ≤ ((l / mW C : Nat) : Int) := Int.natCast_nonneg _
    have zp2 : (0 : Int) ≤ ((s / mW C : Nat) : Int) := Int.natCast_nonneg _
    by_cases q : s = l
    · subst q
      rw [if_pos rfl]
      have e : mOff (mW C) s s w = some 0 := by
        unfold mOff
        repeat' split
        all_goals first | (congr 1; omega) | (exfalso; omega)
      rw [e]
      rfl
    · rw [if_neg q]
      have hne : ¬ (l / mW C = s / mW C ∧ l % mW C = s % mW C) := fun z => q (by rw [← hdl, ← hds, z.1, z.2])
      rw [m_beside h hC hw hs hw4, qB_s]
      cases hb : mBes (mW C) (mH C) s w with
      | none =>
        have ho : mOff (mW C) s l w = none := by
          unfold mBes at hb
          unfold mOff
          repeat' split at hb
          all_goals first | (cases hb; done) | skip
          all_goals (repeat' split) <;> first | rfl | (exfalso; omega)
        rw [ho]
        rfl
      | some s' =>
        obtain ⟨b1, b2, b3, b4, b5⟩ := mBes_some hw hs hb
        rw [qi_add]
        show f_X12_offShed_10 (m + 1) (Int32.ofNat l) (Int32.ofNat w) (Int32.ofNat s') (Int32.ofNat (f + 1)) g = _
        have hlw' : s' % mW C < mW C := Nat.mod_lt _ hw
        have hly' : s' / mW C < mH C := Nat.div_lt_of_lt_mul b1
        rw [ih (m + 1) s' (f + 1) b1 (by unfold mLeft at hr ⊢; (repeat' split at hr) <;> (repeat' split) <;> omega) (by omega) (by omega)]
        have ho : mOff (mW C) s l w = (mOff (mW C) s' l w).map (fun k => k + 1) := by
          unfold mOff
          rcases (show w = 0 ∨ w = 1 ∨ w = 2 ∨ w = 3 by omega) with rfl | rfl | rfl | rfl <;> simp only [Nat.reduceAdd, Nat.reduceMul, Nat.reduceSub, Nat.reduceLT, Nat.reduceEqDiff, if_true, if_false, not_true_eq_false, not_false_eq_true, ite_true, ite_false]
          · obtain ⟨c1, c2⟩ := b2 rfl
            by_cases z : l % mW C = s' % mW C ∧ l / mW C ≤ s' / mW C
            · rw [if_pos z, if_pos (by omega)]; simp only [Option.map_some]; congr 1; omega
            · rw [if_neg z, if_neg (by omega)]; rfl
          · obtain ⟨c1, c2⟩ := b3 rfl
            by_cases z : l / mW C = s' / mW C ∧ s' % mW C ≤ l % mW C
            · rw [if_pos z, if_pos (by omega)]; simp only [Option.map_some]; congr 1; omega
            · rw [if_neg z, if_neg (by omega)]; rfl
          · obtain ⟨c1, c2⟩ := b4 rfl
            by_cases z : l % mW C = s' % mW C ∧ s' / mW C ≤ l / mW C
            · rw [if_pos z, if_pos (by omega)]; simp only [Option.map_some]; congr 1; omega
            · rw [if_neg z, if_neg (by omega)]; rfl
          · obtain ⟨c1, c2⟩ := b5 rfl
            by_cases z : l / mW C = s' / mW C ∧ l % mW C ≤ s' % mW C
            · rw [if_pos z, if_pos (by omega)]; simp only [Option.map_some]; congr 1; omega
            · rw [if_neg z, if_neg (by omega)]; rfl
        rw [ho]
        cases mOff (mW C) s' l w with
        | none => rfl
        | some k => show some (Int32.ofNat (f + 1 + k), g) = some (Int32.ofNat (f + (k + 1)), g); rw [show f + 1 + k = f + (k + 1) by omega]
theorem m_offShed {c l w : Nat} (h : vMo C g) (hC : mWf C) (hw : 0 < mW C) (hc : c < C.2.1) (hl : l < mCells C) (hw4 : w < 4) : f_X12_offShed (Int32.ofNat c) (Int32.ofNat l) (Int32.ofNat w) g = some (mOpt (mOff (mW C) (mShed C c) l w), g) := by
  have hs := hC.shed hc
  have h30 := hC.cells
  have hle : mLeft (mW C) (mH C) (mShed C c) w ≤ 30 := by
    have h1 : mShed C c / mW C ≤ mShed C c := Nat.div_le_self _ _
    have h2 : mShed C c % mW C ≤ mShed C c := Nat.mod_le _ _
    have h3 : mW C ≤ 6 := hC.2.2.1
    have h4 : mH C ≤ 5 := hC.2.2.2.1
    have zp1 : (0 : Int) ≤ ((mShed C c / mW C : Nat) : Int) := Int.natCast_nonneg _
    unfold mLeft
    repeat' split
    all_goals omega
  unfold f_X12_offShed
  rw [m_shedOf h hC.2.1 hc, qB_s]
  have e := m_offShed_l h hC hw hl hw4 30 zFu (mShed C c) 0 hs hle (by show _ < 1000000; omega) (by omega)
  rw [show (0 : Int32) = Int32.ofNat 0 from rfl, e]
  cases mOff (mW C) (mShed C c) l w with
  | none => rfl
  | some k => show some (Int32.ofNat (0 + k), g) = some (Int32.ofNat k, g); rw [Nat.zero_add]
end MG
