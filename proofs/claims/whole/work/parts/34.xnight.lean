/-! ===== the class: a NIGHT ===== -/
def mUp (L : mL) (i v : Nat) : mL := fun j => if j = i then v else L j
theorem mUp_e {L : mL} {i v : Nat} : mUp L i v i = v := if_pos rfl
theorem mUp_n {L : mL} {i v j : Nat} (h : j ≠ i) : mUp L i v j = L j := if_neg h
theorem mKn_lt {C : mC} {L : mL} {c : Nat} (hC : mWf C) : mKn C L c < 64 := Nat.lt_of_lt_of_le mBits_lt (Nat.pow_le_pow_right (by omega) hC.1 : 2 ^ C.1 ≤ 2 ^ 6)
theorem mKn_tb {C : mC} {L : mL} {c i : Nat} : (mKn C L c).testBit i = (decide (i < C.1) && mKnows C L i c) := mBits_tb
theorem mKn_up {C : mC} {L : mL} {p c c' v : Nat} (hp : p < C.1) (hc6 : c < 6) (hc : c < C.2.1) (hc' : c' < 6) (hv : L (6 + 6 * p + c) ≤ v) : mKn C (mUp L (6 + 6 * p + c) v) c' = if c' = c ∧ mNose C p ≤ v then mKn C L c' ||| (1 <<< p) else mKn C L c' := by
  refine Nat.eq_of_testBit_eq fun i => ?_
  have hk : mKnows C (mUp L (6 + 6 * p + c) v) i c' = if c' = c ∧ i = p then (decide (mOwn C c = p) || decide (mNose C p ≤ v)) else mKnows C L i c' := by
    unfold mKnows
    by_cases hi : c' = c ∧ i = p
    · obtain ⟨rfl, rfl⟩ := hi
      rw [mUp_e, if_pos ⟨rfl, rfl⟩, decide_eq_true hc, Bool.true_and]
    · rw [mUp_n (by omega), if_neg hi]
  rw [mKn_tb, hk]
  by_cases h1 : c' = c
  · subst h1
    by_cases h2 : i = p
    · subst h2
      rw [if_pos ⟨rfl, rfl⟩]
      by_cases h3 : mNose C i ≤ v
      · rw [if_pos ⟨rfl, h3⟩, Nat.testBit_or, Nat.one_shiftLeft, Nat.testBit_two_pow_self, decide_eq_true hp, decide_eq_true h3]
        simp
      · rw [if_neg (fun w => h3 w.2), mKn_tb]
        unfold mKnows
        rw [decide_eq_true hc, Bool.true_and, decide_eq_false h3, decide_eq_false (show ¬ mNose C i ≤ L (6 + 6 * i + c') by omega)]
    · rw [if_neg (fun w => h2 w.2)]
      by_cases h3 : mNose C p ≤ v
      · rw [if_pos ⟨rfl, h3⟩, Nat.testBit_or, mKn_tb, Nat.one_shiftLeft, Nat.testBit_two_pow, decide_eq_false (show ¬ p = i from fun w => h2 w.symm), Bool.or_false]
      · rw [if_neg (fun w => h3 w.2), mKn_tb]
  · rw [if_neg (fun w => h1 w.1), if_neg (fun w => h1 w.1), mKn_tb]
def sBr (a b _k : Nat) : Prop := b = a + 6 ∨ b = a + 8
theorem x_breathe {a mk : Nat} {C : mC} {L : mL} {g : zSg} {p c m : Nat} (ha : (zK0 a).1 = 8) (hC : mWf C) (h : vBr a mk C L g) (hp : p < C.1) (hc : c < C.2.1) (hmk : mk.testBit c = true) (hb : L (6 + 6 * p + c) ≤ 99) (hm : m ≤ 99) :
    ∃ g', f_X8_breathe a (Int32.ofNat p) (Int32.ofNat c) (Int32.ofNat m) (Int32.ofNat (mNose C p)) g = some ((), g') ∧ vBr a mk C (mUp L (6 + 6 * p + c) (min 99 (L (6 + 6 * p + c) + m))) g' ∧ qF (sBr a) g g' := by
  have hP := hC.1
  have hS := hC.2.1
  have hk := h c (by omega) hmk
  have hv := hk.2 p (by omega)
  have hn := hC.nose hp
  have hkb : mKn C L c < 64 := mKn_lt hC
  have e1 : Int32.ofNat p * 6 + Int32.ofNat c = Int32.ofNat (6 * p + c) := by
    show Int32.ofNat p * Int32.ofNat 6 + Int32.ofNat c = _
    rw [qi_mul, qi_add, Nat.mul_comm]
  obtain ⟨v, hv'⟩ : ∃ v, v = min 99 (L (6 + 6 * p + c) + m) := ⟨_, rfl⟩
  have hvl : L (6 + 6 * p + c) ≤ v := by omega
  have e2 : imin 99 (Int32.ofNat (L (6 + 6 * p + c)) + Int32.ofNat m) = Int32.ofNat v := by
    rw [qi_add, hv']
    exact qi_imin (a := 99) (by omega) (by omega)
  rw [← hv']
  have hup := fun c' (hc' : c' < 6) => mKn_up (C := C) (L := L) (p := p) (c := c) (c' := c') (v := v) hp (by omega) hc hc' hvl
  unfold f_X8_breathe
  rw [e1]
  simp (disch := omega) only [q_gS7 ha, q_sS7 ha, zB, hv, e2, qi_lt]
  by_cases hnv : v < mNose C p
  · rw [if_pos hnv]
    refine ⟨_, rfl, ?_, qF.rfl'.sI (Or.inr rfl)⟩
    intro c' hc' hm'
    refine ⟨?_, fun p' hp' => ?_⟩
    · rw [qs_In (by omega), (h c' hc' hm').1, hup c' hc', if_neg (by omega)]
    · by_cases q : p' = p ∧ c' = c
      · obtain ⟨rfl, rfl⟩ := q
        rw [qs_Ie, mUp_e]
      · rw [qs_In (by omega), mUp_n (by omega), (h c' hc' hm').2 p' hp']
  · rw [if_neg hnv]
    simp (disch := omega) only [q_gS5 ha, q_sS5 ha, zB, qs_In, hk.1, qi_lit, qi_shl, qi_or]
    refine ⟨_, rfl, ?_, (qF.rfl'.sI (Or.inr rfl)).sI (Or.inl rfl)⟩
    intro c' hc' hm'
    refine ⟨?_, fun p' hp' => ?_⟩
    · by_cases q : c' = c
      · subst q
        rw [qs_Ie, hup c' hc', if_pos ⟨rfl, by omega⟩]
      · rw [qs_In (by omega), qs_In (by omega), (h c' hc' hm').1, hup c' hc', if_neg (by omega)]
    · by_cases q : p' = p ∧ c' = c
      · obtain ⟨rfl, rfl⟩ := q
        rw [qs_In (by omega), qs_Ie, mUp_e]
      · rw [qs_In (by omega), qs_In (by omega), mUp_n (by omega), (h c' hc' hm').2 p' hp']
theorem vXs.up {nb : Nat} {C : mC} {lw : mLaw} {a : Nat} {L : mL} {g : zSg} (h : vXs nb C lw a L g) (hn : nb + 1 ≤ 100000) : vXs (nb + 1) C lw a L g := by
  obtain ⟨h1, h2, h3, h4, ⟨z1, z2, z3, z4, z5, z6, z7, z8, z9⟩, h6⟩ := h
  exact ⟨h1, h2, h3, hn, ⟨z1, z2, z3, z4, z5, z6, z7, z8, by omega⟩, h6⟩
/-- what a NIGHT may change at a State -/
def sN (a b k : Nat) : Prop := sW b k ∨ (a ≤ b ∧ b ≤ a + 8 ∧ ¬ (b = a ∧ k = 10)) ∨ b = 429
/-- BREATHS of c for the first p PERSONS -/
def mSmP (C : mC) (lw : mLaw) (o c : Nat) (L : mL) (p : Nat) : mL := fun i => if 6 ≤ i ∧ i < 42 ∧ (i - 6) % 6 = c ∧ (i - 6) / 6 < p then min 99 (L i + mStrL C lw L o c (L ((i - 6) / 6))) else L i
theorem mSmP_0 {C : mC} {lw : mLaw} {o c : Nat} {L : mL} : mSmP C lw o c L 0 = L := by
  funext i
  unfold mSmP
  rw [if_neg (by omega)]
theorem mSmP_s {C : mC} {lw : mLaw} {o c : Nat} {L : mL} {p : Nat} (hc : c < 6) (hp : p < 6) : mSmP C lw o c L (p + 1) = mUp (mSmP C lw o c L p) (6 + 6 * p + c) (min 99 (L (6 + 6 * p + c) + mStrL C lw L o c (L p))) := by
  funext i
  unfold mSmP mUp
  by_cases q : i = 6 + 6 * p + c
  · subst q
    rw [if_pos (by omega), if_pos rfl, show (6 + 6 * p + c - 6) / 6 = p by omega]
  · rw [if_neg q]
    by_cases q2 : 6 ≤ i ∧ i < 42 ∧ (i - 6) % 6 = c ∧ (i - 6) / 6 < p
    · rw [if_pos (by omega)]; exact (if_pos q2).symm
    · rw [if_neg (by omega)]; exact (if_neg q2).symm
theorem mSmP_n {C : mC} {lw : mLaw} {o c : Nat} {L : mL} {p i : Nat} (h : i < 6 ∨ 42 ≤ i ∨ (i - 6) % 6 ≠ c ∨ p ≤ (i - 6) / 6) : mSmP C lw o c L p i = L i := if_neg (by omega)
theorem mSmP_str {C : mC} {lw : mLaw} {o o' c c' l : Nat} {L : mL} {p : Nat} : mStrL C lw (mSmP C lw o c L p) o' c' l = mStrL C lw L o' c' l := by
  unfold mStrL
  rw [mSmP_n (by omega), mSmP_n (by omega), mSmP_n (by omega)]
theorem mSmP_lb {nb : Nat} {C : mC} {lw : mLaw} {o c : Nat} {L : mL} {p : Nat} (hP : C.1 ≤ 6) (h : mLb nb C L) : mLb nb C (mSmP C lw o c L p) := by
  obtain ⟨h1, h2, h3, h4⟩ := h
  refine ⟨fun q hq => by rw [mSmP_n (by omega)]; exact h1 q hq, fun i hi hi2 => ?_, fun q hq => by rw [mSmP_n (by omega)]; exact h3 q hq, ?_⟩
  · unfold mSmP
    split
    · omega
    · exact h2 i hi hi2
  · rw [mSmP_n (by omega), mSmP_n (by omega), mSmP_n (by omega), mSmP_n (by omega), mSmP_n (by omega), mSmP_n (by omega)]
    exact h4
theorem sN_W {a b k : Nat} (h : sW b k) : sN a b k := Or.inl h
theorem sN_B {a b k : Nat} (h : sBr a b k) : sN a b k := Or.inr (Or.inl ⟨by unfold sBr at h; omega, by unfold sBr at h; omega, by unfold sBr at h; omega⟩)
/-- the BREATHS leave all else of a State alone -/
theorem vXs.br {nb : Nat} {C : mC} {lw : mLaw} {a : Nat} {L L' : mL} {g g' : zSg} (h : vXs nb C lw a L g) (hf : qF (sBr a) g g') (hl : mLb nb C L') (he : ∀ i, (i < 6 ∨ 42 ≤ i) → L' i = L i) : vXs nb C lw a L' g' := by
  obtain ⟨h1, h2, h3, h4, -, h6, h7, h8⟩ := h
  have hA := zK0_A h3
  refine ⟨h1, h2, h3, h4, hl, h6.fr hf (fun k => by unfold sBr; omega) (fun k => by unfold sBr; omega), h7.fr hf (fun b k hb => by unfold sBr; omega), ?_⟩
  refine ⟨fun p hp => ?_, fun p hp => ?_, ?_⟩
  · rw [hf.2.1 _ _ (by unfold sBr; omega), h8.1 p hp, he _ (by omega)]
  · rw [hf.2.1 _ _ (by unfold sBr; omega), h8.2.1 p hp, he _ (by omega)]
  · rw [hf.2.1 _ _ (by unfold sBr; omega), hf.2.1 _ _ (by unfold sBr; omega), hf.2.1 _ _ (by unfold sBr; omega), hf.2.1 _ _ (by unfold sBr; omega), hf.2.1 _ _ (by unfold sBr; omega), hf.2.1 _ _ (by unfold sBr; omega), he _ (by omega), he _ (by omega), he _ (by omega), he _ (by omega), he _ (by omega), he _ (by omega)]
    exact h8.2.2
theorem x_smoke_in {nb mk : Nat} {C : mC} {lw : mLaw} {a : Nat} {L : mL} {c : Nat} {y2 y3 : Int32} {k8 : Int32 → Int32 → Int32 → zSg → Option (Unit × zSg)} {g0 : zSg} {Q : Unit → zSg → Prop} (hc : c < C.2.1) (hmk : mk.testBit c = true)
    (hL : mLb nb C L) (hk : ∀ g', vXs nb C lw a (mSmP C lw (L 51) c L C.1) g' → vBr a mk C (mSmP C lw (L 51) c L C.1) g' → qF (sN a) g0 g' → qT (f_X10_smoke_129 a k8 y2 y3 (Int32.ofNat c) g') Q) :
    ∀ (r n p : Nat) (g : zSg), vXs nb C lw a (mSmP C lw (L 51) c L p) g → vBr a mk C (mSmP C lw (L 51) c L p) g → qF (sN a) g0 g → p + r = C.1 → r < n → qT (f_X10_smoke_65 a k8 n y2 y3 (Int32.ofNat c) (Int32.ofNat C.1) (Int32.ofNat p) g) Q := by
  intro r
  induction r with
  | zero =>
    intro n p g h hbr hf hp hn
    obtain ⟨m, rfl⟩ : ∃ m, n = m + 1 := ⟨n - 1, by omega⟩
    have hP6 : C.1 ≤ 6 := h.1.1
    have : p = C.1 := by omega
    subst this
    show qT (fb_X10_smoke_65 a k8 _ _ _ _ _ _ _) _
    unfold fb_X10_smoke_65
    simp (disch := omega) only [qi_le, if_pos (Nat.le_refl C.1)]
    exact hk g h hbr hf
  | succ r ih =>
    intro n p g h hbr hf hp hn
    obtain ⟨m, rfl⟩ : ∃ m, n = m + 1 := ⟨n - 1, by omega⟩
    have hP6 : C.1 ≤ 6 := h.1.1
    have hS6 : C.2.1 ≤ 6 := h.1.2.1
    have hco := h.2.2.2.2.2.1
    have hst := h.2.2.2.2.2.2.2
    have hLp : mSmP C lw (L 51) c L p p = L p := mSmP_n (by omega)
    have hlc : L p < mCells C := hL.1 p (by omega)
    show qT (fb_X10_smoke_65 a k8 _ _ _ _ _ _ _) _
    unfold fb_X10_smoke_65 f_X10_smoke_123
    simp (disch := omega) only [qi_le, if_neg (show ¬ C.1 ≤ p by omega), q_gS1 h.2.2.1, zB, hst.1, hLp, x_heavy hco]
    obtain ⟨g1, e1, f1⟩ := x_str h (c := c) hc hlc
    have e51 : mSmP C lw (L 51) c L p 51 = L 51 := mSmP_n (by omega)
    rw [e51, mSmP_str] at e1
    rw [e1]
    have h' := h.fr f1
    have hbr' := hbr.fr f1 (fun b k q1 q2 => by have := zK0_A h.2.2.1; unfold sW; omega)
    have hf' := hf.tr (f1.mono fun b k q => sN_W q)
    have hs9 : mStrL C lw L (L 51) c (L p) ≤ 9 := mStr_le
    have hold : mSmP C lw (L 51) c L p (6 + 6 * p + c) = L (6 + 6 * p + c) := mSmP_n (by omega)
    have h99 : L (6 + 6 * p + c) ≤ 99 := hL.2.1 _ (by omega) (by omega)
    have hsp := mSmP_s (C := C) (lw := lw) (o := L 51) (c := c) (L := L) (p := p) (by omega) (by omega)
    simp (disch := omega) only [zB, qi_lit, qi_le, qi_add]
    by_cases q : mStrL C lw L (L 51) c (L p) ≤ 0
    · rw [if_pos q]
      have e0 : mSmP C lw (L 51) c L (p + 1) = mSmP C lw (L 51) c L p := by
        rw [hsp, show mStrL C lw L (L 51) c (L p) = 0 by omega, Nat.add_zero, Nat.min_eq_right h99]
        funext i
        unfold mUp
        split
        · rename_i hi; rw [hi, hold]
        · rfl
      exact ih m (p + 1) g1 (by rw [e0]; exact h') (by rw [e0]; exact hbr') hf' (by omega) (by omega)
    · rw [if_neg q]
      simp (disch := omega) only [x_nose h'.2.2.2.2.2.1, zB]
      obtain ⟨g2, e2, hbr2, f2⟩ := x_breathe h.2.2.1 h.1 hbr' (p := p) (c := c) (m := mStrL C lw L (L 51) c (L p)) (by omega) hc hmk (by rw [hold]; exact h99) (by omega)
      rw [e2]
      simp only [zB]
      rw [hold, ← hsp] at hbr2
      exact ih m (p + 1) g2 (h'.br f2 (mSmP_lb hP6 hL) (fun i hi => by rw [mSmP_n (by omega), mSmP_n (by omega)])) hbr2 (hf'.tr (f2.mono fun b k q => sN_B q)) (by omega) (by omega)
theorem vBr.other {a mk : Nat} {C : mC} {L L' : mL} {g : zSg} (h : vBr a mk C L g) (hC : mWf C) (e : ∀ c, c < 6 → mk.testBit c = true → ∀ p, p < 6 → L' (6 + 6 * p + c) = L (6 + 6 * p + c)) : vBr a mk C L' g := by
  intro c hc hm
  obtain ⟨h1, h2⟩ := h c hc hm
  have hP := hC.1
  refine ⟨?_, fun p hp => by rw [h2 p hp, e c hc hm p hp]⟩
  rw [h1]
  congr 1
  refine mBits_ext fun i hi => ?_
  unfold mKnows
  rw [e c hc hm i (by omega)]
theorem vXs.same {nb : Nat} {C : mC} {lw : mLaw} {a : Nat} {L L' : mL} {g : zSg} (h : vXs nb C lw a L g) (hl : mLb nb C L') (he : ∀ i, (i < 6 ∨ 42 ≤ i) → L' i = L i) : vXs nb C lw a L' g := h.br qF.rfl' hl he
theorem mSmk_n {C : mC} {lw : mLaw} {o c i : Nat} {L : mL} (h : i ≠ 51) (h2 : i ≠ 42 + c) (h3 : i < 6 ∨ 42 ≤ i ∨ (i - 6) % 6 ≠ c) : mSmk C lw o c L i = L i := by
  unfold mSmk
  split
  · simp only []
    rw [if_neg h, if_neg h2, if_neg (by omega)]
  · rfl
theorem mSmoke_n {C : mC} {lw : mLaw} {o n i : Nat} {L : mL} (hn : n ≤ 6) (h : i < 6 ∨ (48 ≤ i ∧ i ≠ 51) ∨ (42 + n ≤ i ∧ i < 48) ∨ (6 ≤ i ∧ i < 42 ∧ n ≤ (i - 6) % 6)) : mSmoke C lw o L n i = L i := by
  induction n with
  | zero => rfl
  | succ n ih =>
    show mSmk C lw o n (mSmoke C lw o L n) i = _
    rw [mSmk_n (by omega) (by omega) (by omega), ih (by omega) (by omega)]
theorem mSmk_lb {nb : Nat} {C : mC} {lw : mLaw} {o c : Nat} {L : mL} (hc : c < 6) (hP : C.1 ≤ 6) (h : mLb nb C L) (h9 : (L 48).testBit c = true → L (42 + c) < 9) : mLb nb C (mSmk C lw o c L) := by
  obtain ⟨h1, h2, h3, h4, h5, h6, h7, h8⟩ := h
  refine ⟨fun p hp => by rw [mSmk_n (by omega) (by omega) (by omega)]; exact h1 p hp, fun i hi hi2 => ?_, fun q hq => ?_, by rw [mSmk_n (by omega) (by omega) (by omega)]; exact h4, by rw [mSmk_n (by omega) (by omega) (by omega)]; exact h5, by rw [mSmk_n (by omega) (by omega) (by omega)]; exact h6, ?_, by rw [mSmk_n (by omega) (by omega) (by omega), mSmk_n (by omega) (by omega) (by omega)]; exact h8⟩
  · have := h2 i hi hi2
    unfold mSmk
    split
    · simp only []
      rw [if_neg (by omega), if_neg (by omega)]
      split <;> omega
    · exact this
  · have := h3 q hq
    unfold mSmk
    split
    · rename_i hh
      simp only [Bool.and_eq_true] at hh
      have := h9 hh.1
      simp only []
      rw [if_neg (by omega)]
      split
      · omega
      · rw [if_neg (by omega)]; exact h3 q hq
    · exact this
  · unfold mSmk
    split
    · simp only []
      rw [if_pos trivial]
      omega
    · exact h7
theorem mSmoke_lb {nb : Nat} {C : mC} {lw : mLaw} {o n : Nat} {L : mL} (hC : mWf C) (h : mLf nb C L) (hn : n ≤ C.2.1) : mLb nb C (mSmoke C lw o L n) := by
  have hS := hC.2.1
  induction n with
  | zero => exact h.1
  | succ n ih =>
    refine mSmk_lb (by omega) hC.1 (ih (by omega)) (fun q => ?_)
    rw [mSmoke_n (by omega) (by omega)] at q
    rw [mSmoke_n (by omega) (by omega)]
    have h1 := h.2.2 n (by omega)
    have h2 := hC.hvy (c := n) (by omega)
    cases hb : (L 49).testBit n
    · have := h1.2 hb; omega
    · have := h1.1 hb; rw [this] at q; cases q
theorem mSmoke_51 {C : mC} {lw : mLaw} {o n : Nat} {L : mL} : mSmoke C lw o L n 51 ≤ L 51 := by
  induction n with
  | zero => exact Nat.le_refl _
  | succ n ih =>
    show mSmk C lw o n (mSmoke C lw o L n) 51 ≤ _
    unfold mSmk
    split
    · simp only []
      rw [if_pos trivial]
      omega
    · exact ih
theorem mUp51_str {C : mC} {lw : mLaw} {o' v c l : Nat} {L : mL} (hc : c < 6) : mStrL C lw (mUp L 51 v) o' c l = mStrL C lw L o' c l := by
  unfold mStrL
  rw [mUp_n (by omega), mUp_n (by omega), mUp_n (by omega)]
theorem mUp51_lb {nb v : Nat} {C : mC} {L : mL} (hP : C.1 ≤ 6) (h : mLb nb C L) (hv : v ≤ 999) : mLb nb C (mUp L 51 v) := by
  obtain ⟨h1, h2, h3, h4, h5, h6, h7, h8⟩ := h
  refine ⟨fun p hp => by rw [mUp_n (by omega)]; exact h1 p hp, fun i hi hi2 => by rw [mUp_n (by omega)]; exact h2 i hi hi2, fun q hq => by rw [mUp_n (by omega)]; exact h3 q hq, ?_⟩
  rw [mUp_n (by omega), mUp_n (by omega), mUp_n (by omega), mUp_e, mUp_n (by omega), mUp_n (by omega)]
  exact ⟨h4, h5, h6, hv, h8⟩
/-- one SECRET has SMOKED: as the class has it, OAK aside -/
theorem mSmk_x {C : mC} {lw : mLaw} {o c : Nat} {L : mL} (hc : c < 6) (hP : C.1 ≤ 6) (hh : (L 48).testBit c = true) (ho : 0 < L 51) : mUp (mSmk C lw o c L) 51 o = mUp (mSmP C lw o c (mUp L 51 o) C.1) (42 + c) (L (42 + c) + 1) := by
  have hb : ((L 48).testBit c && decide (0 < L 51)) = true := by rw [hh, decide_eq_true ho]; rfl
  funext i
  unfold mSmk
  rw [if_pos hb]
  by_cases h1 : i = 51
  · subst h1
    rw [mUp_e, mUp_n (by omega), mSmP_n (by omega), mUp_e]
  · rw [mUp_n h1]
    rw [if_neg h1]
    by_cases h2 : i = 42 + c
    · subst h2
      rw [if_pos rfl, mUp_e]
    · rw [if_neg h2, mUp_n h2]
      unfold mSmP
      by_cases h3 : 6 ≤ i ∧ i < 42 ∧ (i - 6) % 6 = c ∧ (i - 6) / 6 < C.1
      · rw [if_pos h3, if_pos h3, mUp51_str hc, mUp_n h1, mUp_n (by omega)]
      · rw [if_neg h3, if_neg h3, mUp_n h1]
theorem mSmk_f {C : mC} {lw : mLaw} {o c : Nat} {L : mL} (h : ¬ ((L 48).testBit c = true ∧ 0 < L 51)) : mSmk C lw o c L = L := by
  unfold mSmk
  rw [if_neg (fun w => h (by rw [Bool.and_eq_true, decide_eq_true_eq] at w; exact w))]
/-- a State's other numbers are written -/
theorem vS8.smoked {a c v : Nat} {L : mL} {g : zSg} (h : vS8 a L g) (hc : c < 6) : vS8 a (mUp L (42 + c) v) (gsI g (a + 4) c (Int32.ofNat v)) := by
  refine ⟨fun p hp => ?_, fun q hq => ?_, ?_⟩
  · rw [qs_In (by omega), mUp_n (by omega)]; exact h.1 p hp
  · by_cases e : q = c
    · subst e; rw [qs_Ie, mUp_e]
    · rw [qs_In (by omega), mUp_n (by omega)]; exact h.2.1 q hq
  · rw [qs_In (by omega), qs_In (by omega), qs_In (by omega), qs_In (by omega), qs_In (by omega), qs_In (by omega), mUp_n (by omega), mUp_n (by omega), mUp_n (by omega), mUp_n (by omega), mUp_n (by omega), mUp_n (by omega)]
    exact h.2.2
theorem vS8.fld {a i v : Nat} {L : mL} {g : zSg} (h : vS8 a L g) (hi : i < 6) : vS8 a (mUp L (48 + i) v) (gsI g a (4 + i) (Int32.ofNat v)) := by
  have hf : ∀ j, j < 6 → g.2.1 a (4 + j) = Int32.ofNat (L (48 + j)) → (gsI g a (4 + i) (Int32.ofNat v)).2.1 a (4 + j) = Int32.ofNat (mUp L (48 + i) v (48 + j)) := fun j hj e => by
    by_cases q : j = i
    · subst q; rw [qs_Ie, mUp_e]
    · rw [qs_In (by omega), mUp_n (by omega)]; exact e
  exact ⟨fun p hp => by rw [qs_In (by omega), mUp_n (by omega)]; exact h.1 p hp, fun q hq => by rw [qs_In (by omega), mUp_n (by omega)]; exact h.2.1 q hq, hf 0 (by omega) h.2.2.1, hf 1 (by omega) h.2.2.2.1, hf 2 (by omega) h.2.2.2.2.1, hf 3 (by omega) h.2.2.2.2.2.1, hf 4 (by omega) h.2.2.2.2.2.2.1, hf 5 (by omega) h.2.2.2.2.2.2.2⟩
def sSt (a b k : Nat) : Prop := b = a ∧ 4 ≤ k ∧ k ≤ 9 ∨ b = a + 4 ∨ b = a + 2
theorem vXs.st {nb : Nat} {C : mC} {lw : mLaw} {a : Nat} {L L' : mL} {g g' : zSg} (h : vXs nb C lw a L g) (hf : qF (sSt a) g g') (hl : mLb nb C L') (hs : vS8 a L' g') : vXs nb C lw a L' g' := by
  obtain ⟨h1, h2, h3, h4, -, h6, h7, h8⟩ := h
  have hA := zK0_A h3
  exact ⟨h1, h2, h3, h4, hl, h6.fr hf (fun k => by unfold sSt; omega) (fun k => by unfold sSt; omega), h7.fr hf (fun b k hb => by unfold sSt; omega), hs⟩
theorem vBr.st {a mk : Nat} {C : mC} {L L' : mL} {g g' : zSg} (h : vBr a mk C L g) (hC : mWf C) (hf : qF (sSt a) g g') (he : ∀ i, 6 ≤ i → i < 42 → L' i = L i) : vBr a mk C L' g' := by
  refine vBr.other (L := L) (fun c hc hm => ?_) hC (fun c hc _ p hp => he _ (by omega) (by omega))
  obtain ⟨h1, h2⟩ := h c hc hm
  exact ⟨(hf.2.1 _ _ (by unfold sSt; omega)).trans h1, fun p hp => (hf.2.1 _ _ (by unfold sSt; omega)).trans (h2 p hp)⟩
theorem sN_S {a b k : Nat} (h : sSt a b k) : sN a b k := Or.inr (Or.inl ⟨by unfold sSt at h; omega, by unfold sSt at h; omega, by unfold sSt at h; omega⟩)
theorem x_smoke_l {nb mk : Nat} {C : mC} {lw : mLaw} {a : Nat} {L : mL} {g0 : zSg} {Q : Unit → zSg → Prop} (hL : mLf nb C L) (hmk : mk < 64)
    (hQ : ∀ g', vXs nb C lw a (mSmoke C lw (L 51) L C.2.1) g' → vBr a mk C (mSmoke C lw (L 51) L C.2.1) g' → qF (sN a) g0 g' → Q () g') :
    ∀ (r n c : Nat) (g : zSg), vXs nb C lw a (mUp (mSmoke C lw (L 51) L c) 51 (L 51)) g → vBr a mk C (mUp (mSmoke C lw (L 51) L c) 51 (L 51)) g → qF (sN a) g0 g → c + r = C.2.1 → r < n → qT (f_X10_smoke_8 a n (Int32.ofNat mk) (Int32.ofNat (mSmoke C lw (L 51) L c 51)) (Int32.ofNat c) g) Q := by
  intro r
  induction r with
  | zero =>
    intro n c g h hbr hf hc hn
    obtain ⟨m, rfl⟩ : ∃ m, n = m + 1 := ⟨n - 1, by omega⟩
    have hC := h.1
    have hS6 := hC.2.1
    have : c = C.2.1 := by omega
    subst this
    show qT (fb_X10_smoke_8 a _ _ _ _ _) _
    unfold fb_X10_smoke_8 f_X10_smoke_145
    simp (disch := omega) only [x_secrets h.2.2.2.2.2.1, zB, qi_le, if_pos (Nat.le_refl C.2.1)]
    have hlb := mSmoke_lb (lw := lw) (o := L 51) hC hL (Nat.le_refl _)
    have e : mUp (mUp (mSmoke C lw (L 51) L C.2.1) 51 (L 51)) 51 (mSmoke C lw (L 51) L C.2.1 51) = mSmoke C lw (L 51) L C.2.1 := by
      funext i
      unfold mUp
      by_cases q : i = 51
      · rw [if_pos q, q]
      · rw [if_neg q, if_neg q]
    have hs := h.2.2.2.2.2.2.2.fld (i := 3) (v := mSmoke C lw (L 51) L C.2.1 51) (by omega)
    rw [e] at hs
    have f1 : qF (sSt a) g (gsI g a 7 (Int32.ofNat (mSmoke C lw (L 51) L C.2.1 51))) := qF.rfl'.sI (Or.inl ⟨rfl, by omega, by omega⟩)
    exact qT_r (hQ _ (h.st f1 hlb hs) (hbr.st hC f1 (fun i hi hi2 => by rw [mUp_n (by omega)])) (hf.tr (f1.mono fun b k q => sN_S q)))
  | succ r ih =>
    intro n c g h hbr hf hc hn
    obtain ⟨m, rfl⟩ : ∃ m, n = m + 1 := ⟨n - 1, by omega⟩
    have hC := h.1
    have hS6 := hC.2.1
    have hP6 := hC.1
    have h51 : mSmoke C lw (L 51) L c 51 ≤ 999 := Nat.le_trans mSmoke_51 hL.1.2.2.2.2.2.2.1
    have hlbc := mSmoke_lb (lw := lw) (o := L 51) (n := c) hC hL (by omega)
    have hlbs := mSmoke_lb (lw := lw) (o := L 51) (n := c + 1) hC hL (by omega)
    have h48 : mSmoke C lw (L 51) L c 48 = L 48 := mSmoke_n (by omega) (by omega)
    have h48' : mUp (mSmoke C lw (L 51) L c) 51 (L 51) 48 = L 48 := by rw [mUp_n (by omega), h48]
    have hst := h.2.2.2.2.2.2.2
    have ha48 : g.2.1 a 4 = Int32.ofNat (L 48) := by rw [hst.2.2.1, h48']
    have hl48 : L 48 < 64 := hL.1.2.2.2.1
    have hstep : mSmoke C lw (L 51) L (c + 1) = mSmk C lw (L 51) c (mSmoke C lw (L 51) L c) := rfl
    show qT (fb_X10_smoke_8 a _ _ _ _ _) _
    unfold fb_X10_smoke_8 f_X10_smoke_139
    simp (disch := omega) only [x_secrets h.2.2.2.2.2.1, zB, qi_le, if_neg (show ¬ C.2.1 ≤ c by omega), x_hangs ha48, qi_lit, mB_0, qi_bit0]
    have skip : ¬ ((L 48).testBit c = true ∧ 0 < mSmoke C lw (L 51) L c 51) → qT (f_X10_smoke_8 a m (Int32.ofNat mk) (Int32.ofNat (mSmoke C lw (L 51) L c 51)) (Int32.ofNat c + Int32.ofNat 1) g) Q := fun q => by
      have e : mSmoke C lw (L 51) L (c + 1) = mSmoke C lw (L 51) L c := by rw [hstep]; exact mSmk_f (by rw [h48]; exact q)
      have := ih m (c + 1) g (by rw [e]; exact h) (by rw [e]; exact hbr) hf (by omega) (by omega)
      rw [e] at this
      rw [qi_add]
      exact this
    by_cases hh : (L 48).testBit c = false
    · rw [if_pos hh]
      exact skip (fun w => by rw [w.1] at hh; cases hh)
    · rw [if_neg hh]
      have hh' : (L 48).testBit c = true := by simpa using hh
      by_cases ho : 1 ≤ mSmoke C lw (L 51) L c 51
      · rw [if_pos ho]
        have hx := mSmk_x (C := C) (lw := lw) (o := L 51) (c := c) (L := mSmoke C lw (L 51) L c) (by omega) hP6 (by rw [h48]; exact hh') ho
        have hsm : mSmoke C lw (L 51) L c (42 + c) = L (42 + c) := mSmoke_n (by omega) (by omega)
        have h51' : mSmoke C lw (L 51) L (c + 1) 51 = mSmoke C lw (L 51) L c 51 - 1 := by
          rw [hstep]
          unfold mSmk
          rw [if_pos (by rw [h48, hh', decide_eq_true (show 0 < mSmoke C lw (L 51) L c 51 from ho)]; rfl)]
          simp only []
          rw [if_pos trivial]
        have e51 : mUp (mSmoke C lw (L 51) L c) 51 (L 51) 51 = L 51 := mUp_e
        have hlbm := mUp51_lb hP6 hlbc (v := L 51) hL.1.2.2.2.2.2.2.1
        have hsm9 : L (42 + c) ≤ 9 := hL.1.2.2.1 c (by omega)
        -- behind the BREATHS
        have fin : ∀ g', vXs nb C lw a (mSmP C lw (L 51) c (mUp (mSmoke C lw (L 51) L c) 51 (L 51)) C.1) g' → vBr a mk C (mSmP C lw (L 51) c (mUp (mSmoke C lw (L 51) L c) 51 (L 51)) C.1) g' → qF (sN a) g0 g' → qT (f_X10_smoke_129 a (f_X10_smoke_8 a m) (Int32.ofNat mk) (Int32.ofNat (mSmoke C lw (L 51) L c 51 - 1)) (Int32.ofNat c) g') Q := by
          intro g' h' hbr' hf'
          unfold f_X10_smoke_129 f_X10_smoke_139
          have hst' := h'.2.2.2.2.2.2.2
          have hsv : g'.2.1 (a + 4) c = Int32.ofNat (L (42 + c)) := by rw [hst'.2.1 c (by omega), mSmP_n (by omega), mUp_n (by omega), hsm]
          simp (disch := omega) only [q_aS3 h.2.2.1, zB, hsv, qi_lit, qi_add]
          have hs := hst'.smoked (c := c) (v := L (42 + c) + 1) (by omega)
          rw [← hsm, ← hx, hsm, ← hstep] at hs
          have f1 : qF (sSt a) g' (gsI g' (a + 4) c (Int32.ofNat (L (42 + c) + 1))) := qF.rfl'.sI (Or.inr (Or.inl rfl))
          rw [← h51']
          refine ih m (c + 1) _ (h'.st f1 (mUp51_lb hP6 hlbs hL.1.2.2.2.2.2.2.1) hs) (hbr'.st hC f1 (fun i hi hi2 => ?_)) (hf'.tr (f1.mono fun b k q => sN_S q)) (by omega) (by omega)
          rw [hstep, hx, mUp_n (by omega)]
        simp (disch := omega) only [qi_dec]
        unfold f_X10_smoke_60
        by_cases hm : mk.testBit c = false
        · rw [if_pos hm]
          show qT (fb_X10_smoke_65 a _ _ _ _ _ _ _ g) Q
          unfold fb_X10_smoke_65
          simp (disch := omega) only [qi_lit, qi_le, if_pos (Nat.le_refl 0)]
          refine fin g (h.same (mSmP_lb hP6 hlbm) (fun i hi => mSmP_n (by omega))) (hbr.other hC (fun c' hc' hm' p hp => mSmP_n ?_)) hf
          refine Or.inr (Or.inr (Or.inl (fun q => ?_)))
          have : c' = c := by omega
          rw [this, hm] at hm'
          cases hm'
        · rw [if_neg hm]
          have hm' : mk.testBit c = true := by simpa using hm
          simp only [x_persons h.2.2.2.2.2.1, zB]
          refine x_smoke_in (L := mUp (mSmoke C lw (L 51) L c) 51 (L 51)) (g0 := g0) (by omega) hm' hlbm (fun g' q1 q2 q3 => fin g' (by rw [e51] at q1; exact q1) (by rw [e51] at q2; exact q2) q3) C.1 zFu 0 g (by rw [mSmP_0]; exact h) (by rw [mSmP_0]; exact hbr) hf (by omega) (by show _ < 1000000; omega)
      · rw [if_neg ho]
        exact skip (fun w => ho w.2)
