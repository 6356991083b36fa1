/-! ===== the reference: STRENGTH, AIR, who KNOWS ===== -/
theorem m_hangs {n c : Nat} {g : zSg} (h : g.2.1 543 48 = Int32.ofNat n) (hn : n < 2147483648) (hc : c < 32) : f_X12_hangs (Int32.ofNat c) g = some (mB (n.testBit c), g) := by
  unfold f_X12_hangs
  rw [show gI g 543 48 = Int32.ofNat n from h, m_has hn hc, qB_s, if_pos mB_01]
theorem m_isRaw {n c : Nat} {g : zSg} (h : g.2.1 543 49 = Int32.ofNat n) (hn : n < 2147483648) (hc : c < 32) : f_X12_isRaw (Int32.ofNat c) g = some (mB (!n.testBit c), g) := by
  unfold f_X12_isRaw
  rw [show gI g 543 49 = Int32.ofNat n from h, m_has hn hc, qB_s]
  cases n.testBit c
  · rw [if_neg (fun w => w rfl)]; rfl
  · rw [if_pos (by decide)]; rfl
theorem m_strengthBy {nb : Nat} {C : mC} {lw : mLaw} {L : mL} {g : zSg} (h : vMs nb C lw L g) {c l hv w s n o : Nat} (hc : c < C.2.1) (hl : l < mCells C) (hh : hv < 1000) (hw4 : w < 4) (hs : s < 1000) (hn : n < 2147483648) (ho : o < 1000) : qE sV g (f_X12_strengthBy (Int32.ofNat c) (Int32.ofNat l) (Int32.ofNat hv) (Int32.ofNat w) (Int32.ofNat s) (Int32.ofNat n) (Int32.ofNat o) g) (Int32.ofNat (mStr C lw c l hv w s n o)) := by
  obtain ⟨h1, h2, h3, h4, h5, h6, h7⟩ := h
  have hw0 : 0 < mW C := by have := (h1.2.2.2.2.2.2 h2).2.2.1; omega
  unfold f_X12_strengthBy mStr
  rw [m_offShed h5 h1 hw0 hc hl hw4, qB_s]
  cases hoff : mOff (mW C) (mShed C c) l w with
  | none =>
    show qE sV g (if ¬ (-1 : Int32) = -1 then _ else some ((0 : Int32), g)) _
    rw [if_neg (fun q => q rfl)]
    exact qE_r
  | some f =>
    have hf : f < 1000 := by
      have hd : ∀ x : Nat, x < mCells C → x / mW C < 1000 ∧ x % mW C < 1000 := fun x hx => by
        have := h1.cells
        have e1 := Nat.div_le_self x (mW C)
        have e2 := Nat.mod_le x (mW C)
        omega
      have d1 := hd _ (h1.shed hc)
      have d2 := hd _ hl
      unfold mOff at hoff
      generalize mShed C c / mW C = z1 at hoff d1
      generalize mShed C c % mW C = z2 at hoff d1
      generalize l / mW C = z3 at hoff d2
      generalize l % mW C = z4 at hoff d2
      repeat' split at hoff
      all_goals first | (cases hoff; done) | (have := Option.some.inj hoff; omega)
    simp only [show mOpt (some f) = Int32.ofNat f from rfl]
    show qE sV g (if ¬ Int32.ofNat f = - Int32.ofNat 1 then _ else some ((0 : Int32), g)) _
    simp (disch := omega) only [qi_ne1, if_true, if_false, not_true_eq_false, not_false_eq_true, ite_true, ite_false]
    rcases h6 with ⟨hlw, ⟨hn1, hn2⟩ | ⟨m, hm, hm4, hrun⟩⟩
    · rw [if_pos hn1]
      unfold f_X12_strengthBy_92
      rw [qj_of hv, qj_of f, qj_sub, q_clamp (by omega) (by omega), hn2]
      exact qE_r
    · simp (disch := omega) only [hm, qi_lit, qi_ne1, if_false, qs_In, qi_imod]
      have hmod : n % 100 < 1000 := by omega
      have F : qF sV g (gsI (gsI (gsI (gsI (gsI (gsI g 535 0 (Int32.ofNat hv)) 535 1 (Int32.ofNat f)) 535 2 (Int32.ofNat s)) 535 3 (Int32.ofNat w)) 535 4 (Int32.ofNat (n % 100))) 535 5 (Int32.ofNat o)) :=
        (((((qF.rfl'.sI (Or.inl rfl)).sI (Or.inl rfl)).sI (Or.inl rfl)).sI (Or.inl rfl)).sI (Or.inl rfl)).sI (Or.inl rfl)
      have hle : vLe m g (gsI (gsI (gsI (gsI (gsI (gsI g 535 0 (Int32.ofNat hv)) 535 1 (Int32.ofNat f)) 535 2 (Int32.ofNat s)) 535 3 (Int32.ofNat w)) 535 4 (Int32.ofNat (n % 100))) 535 5 (Int32.ofNat o)) := by
        refine ⟨fun k _ _ => ⟨?_, ?_⟩, ?_, fun k _ _ => ⟨?_, ?_, ?_⟩⟩ <;> simp (disch := omega) only [qs_In]
      obtain ⟨g2, e2, f2⟩ := hrun (gsI (gsI (gsI (gsI (gsI (gsI g 535 0 (Int32.ofNat hv)) 535 1 (Int32.ofNat f)) 535 2 (Int32.ofNat s)) 535 3 (Int32.ofNat w)) 535 4 (Int32.ofNat (n % 100))) 535 5 (Int32.ofNat o)) hle hv f s w (n % 100) o hh hf hs (by omega) hmod ho
        (by simp (disch := omega) only [qs_In, qs_Ie]) (by simp (disch := omega) only [qs_In, qs_Ie]) (by simp (disch := omega) only [qs_In, qs_Ie]) (by simp (disch := omega) only [qs_In, qs_Ie]) (by simp (disch := omega) only [qs_In, qs_Ie]) (by simp (disch := omega) only [qs_In, qs_Ie])
      rw [e2]
      show qE sV g (f_X12_strengthBy_92 _ g2) _
      unfold f_X12_strengthBy_92
      have hr := hlw hv f s w (n % 100) o hh hf hs (by omega) hmod ho
      rw [q_clamp (by omega) (by omega)]
      exact ⟨g2, rfl, F.tr (f2.mono fun b' k q => by unfold sV; omega)⟩
theorem m_str {nb : Nat} {C : mC} {lw : mLaw} {L : mL} {g : zSg} (h : vMs nb C lw L g) {c l o : Nat} (hc : c < C.2.1) (hl : l < mCells C) (ho : o < 1000) : qE sV g (f_X12_strengthNow (Int32.ofNat c) (Int32.ofNat l) (Int32.ofNat o) g) (Int32.ofNat (mStrL C lw L o c l)) := by
  have h1 := h.1
  have hb := h.2.2.2.1
  have hN := h.N
  have hS := h1.2.1
  have hhv := h1.hvy hc
  unfold f_X12_strengthNow
  rw [m_hvy h.2.2.2.2.1 hS hc, qB_s]
  simp (disch := omega) only [qi_lit, qi_add, qi_zib, qi_ix, if_true, hN]
  obtain ⟨g', e, f⟩ := m_strengthBy h (c := c) (l := l) (hv := mHvy C c) (w := L 50) (s := L (42 + c)) (n := L 53) (o := o) hc hl (by omega) hb.2.2.2.2.2.1 (by have := hb.2.2.1 c (by omega); omega) (by have := hb.2.2.2.2.2.2.2.2; have := h.2.2.1; omega) ho
  rw [e]
  exact ⟨g', rfl, f⟩
theorem m_airOf_l {nb : Nat} {C : mC} {lw : mLaw} {L : mL} {l : Nat} (hl : l < mCells C) : ∀ (r n c : Nat) (g : zSg), vMs nb C lw L g → c + r = C.2.1 → r < n → qE sV g (f_X12_airOf_4 n (Int32.ofNat l) (Int32.ofNat (mAir C lw L l c)) (Int32.ofNat c) g) (Int32.ofNat (mAir C lw L l C.2.1)) := by
  intro r
  induction r with
  | zero =>
    intro n c g h hc hn
    obtain ⟨m, rfl⟩ : ∃ m, n = m + 1 := ⟨n - 1, by omega⟩
    have hC6 : C.2.1 ≤ 6 := h.1.2.1
    show qE sV g (fb_X12_airOf_4 _ _ _ _ _) _
    unfold fb_X12_airOf_4
    simp (disch := omega) only [h.2.2.2.2.1.2.2.2.2.1, qi_le, if_pos (show C.2.1 ≤ c by omega)]
    rw [show c = C.2.1 by omega]
    exact qE_r
  | succ r ih =>
    intro n c g h hc hn
    obtain ⟨m, rfl⟩ : ∃ m, n = m + 1 := ⟨n - 1, by omega⟩
    have hC6 : C.2.1 ≤ 6 := h.1.2.1
    have hb := h.2.2.2.1
    have hN := h.N
    have ha := @mAir_le C lw L l c
    show qE sV g (fb_X12_airOf_4 _ _ _ _ _) _
    unfold fb_X12_airOf_4 f_X12_airOf_38
    have h48 : L 48 < 64 := hb.2.2.2.1
    have h51 : L 51 ≤ 999 := hb.2.2.2.2.2.2.1
    simp (disch := omega) only [h.2.2.2.2.1.2.2.2.2.1, qi_le, if_neg (show ¬ C.2.1 ≤ c by omega), m_hangs (hN 48 (by omega)), zB, qi_lit, mB_0, hN]
    have hstep : mAir C lw L l (c + 1) = mAir C lw L l c + (if (L 48).testBit c then mStrL C lw L (L 51) c l else 0) := rfl
    by_cases hb : (L 48).testBit c = false
    · rw [if_pos hb]
      have e : mAir C lw L l (c + 1) = mAir C lw L l c := by rw [hstep, if_neg (by simp [hb])]; rfl
      have := ih m (c + 1) g h (by omega) (by omega)
      rw [e] at this
      simpa only [qi_add, Nat.add_zero] using this
    · rw [if_neg hb]
      have hb2 : (L 48).testBit c = true := by simpa using hb
      obtain ⟨g1, e1, f1⟩ := m_str h (c := c) (o := L 51) (by omega) hl (by omega)
      rw [e1]
      simp only [zB, qi_add]
      have e : mAir C lw L l (c + 1) = mAir C lw L l c + mStrL C lw L (L 51) c l := by rw [hstep, if_pos hb2]
      rw [← e]
      exact qE_tr f1 (ih m (c + 1) g1 (h.fr f1) (by omega) (by omega))
theorem m_airOf {nb : Nat} {C : mC} {lw : mLaw} {L : mL} {g : zSg} (h : vMs nb C lw L g) {l : Nat} (hl : l < mCells C) : qE sV g (f_X12_airOf (Int32.ofNat l) g) (Int32.ofNat (mAir C lw L l C.2.1)) :=
  m_airOf_l hl C.2.1 zFu 0 g h (by omega) (by have := h.1.2.1; show _ < 1000000; omega)
/-- who KNOWS what: nothing of LAWS is asked -/
def vMk (C : mC) (L : mL) (g : zSg) : Prop := mWf C ∧ vMo C g ∧ vN L g ∧ ∀ i, 6 ≤ i → i < 42 → L i ≤ 99
theorem vMs.mk {nb : Nat} {C : mC} {lw : mLaw} {L : mL} {g : zSg} (h : vMs nb C lw L g) : vMk C L g := ⟨h.1, h.2.2.2.2.1, h.2.2.2.2.2.2, h.2.2.2.1.2.1⟩
theorem m_breathOf {C : mC} {L : mL} {g : zSg} {p c : Nat} (h : vMk C L g) (hp : p < 6) (hc : c < 6) : f_X12_breathOf (Int32.ofNat p) (Int32.ofNat c) g = some (Int32.ofNat (L (6 + 6 * p + c)), g) := by
  unfold f_X12_breathOf
  simp (disch := omega) only [qi_lit, qi_mul, qi_add, qi_zib, qi_ix, if_true, h.2.2.1 (6 + 6 * p + c)]
theorem m_knows {C : mC} {L : mL} {g : zSg} {p c : Nat} (h : vMk C L g) (hp : p < C.1) (hc : c < C.2.1) : f_X12_knows (Int32.ofNat p) (Int32.ofNat c) g = some (mB (mKnows C L p c), g) := by
  have hP := h.1.1
  have hS := h.1.2.1
  have ho := h.1.hvy hc
  have hn := h.1.nose hp
  have hb := h.2.2.2 (6 + 6 * p + c) (by omega) (by omega)
  unfold f_X12_knows mKnows
  rw [m_own h.2.1 hS hc, qB_s]
  simp (disch := omega) only [qi_inj]
  rw [decide_eq_true hc, Bool.true_and]
  by_cases q : mOwn C c = p
  · rw [if_pos q, decide_eq_true q]; rfl
  · rw [if_neg q, m_breathOf h (by omega) (by omega), qB_s, m_nose h.2.1 hP hp, qB_s, decide_eq_false q, Bool.false_or]
    simp (disch := omega) only [qi_lt]
    by_cases q2 : L (6 + 6 * p + c) < mNose C p
    · rw [if_pos q2, decide_eq_false (by omega)]; rfl
    · rw [if_neg q2, decide_eq_true (by omega)]; rfl
theorem m_knownTo_l {C : mC} {L : mL} {g : zSg} {p : Nat} (h : vMk C L g) (hp : p < C.1) : ∀ (r n c : Nat), c + r = C.2.1 → r < n → f_X12_knownTo_4 n (Int32.ofNat p) (Int32.ofNat (mBits (fun c => mKnows C L p c) c)) (Int32.ofNat c) g = some (Int32.ofNat (mKb C L p), g) := by
  intro r
  have hS := h.1.2.1
  induction r with
  | zero =>
    intro n c hc hn
    obtain ⟨m, rfl⟩ : ∃ m, n = m + 1 := ⟨n - 1, by omega⟩
    show fb_X12_knownTo_4 _ _ _ _ _ = _
    unfold fb_X12_knownTo_4
    simp (disch := omega) only [h.2.1.2.2.2.2.1, qi_le, if_pos (show C.2.1 ≤ c by omega)]
    rw [show c = C.2.1 by omega]
    rfl
  | succ r ih =>
    intro n c hc hn
    obtain ⟨m, rfl⟩ : ∃ m, n = m + 1 := ⟨n - 1, by omega⟩
    show fb_X12_knownTo_4 _ _ _ _ _ = _
    unfold fb_X12_knownTo_4 f_X12_knownTo_29
    simp (disch := omega) only [h.2.1.2.2.2.2.1, qi_le, if_neg (show ¬ C.2.1 ≤ c by omega), m_knows h hp (show c < C.2.1 by omega), zB, qi_lit, mB_0, qi_shl, qi_or, qi_add]
    have := ih m (c + 1) (by omega) (by omega)
    unfold mBits at this
    cases hk : mKnows C L p c
    · rw [hk] at this; simpa using this
    · rw [hk] at this; simpa using this
theorem m_knownTo {C : mC} {L : mL} {g : zSg} {p : Nat} (h : vMk C L g) (hp : p < C.1) : f_X12_knownTo (Int32.ofNat p) g = some (Int32.ofNat (mKb C L p), g) :=
  m_knownTo_l h hp C.2.1 zFu 0 (by omega) (by have := h.1.2.1; show _ < 1000000; omega)
theorem m_knownOf_l {C : mC} {L : mL} {g : zSg} {c : Nat} (h : vMk C L g) (hc : c < C.2.1) : ∀ (r n p : Nat), p + r = C.1 → r < n → f_X12_knownOf_4 n (Int32.ofNat c) (Int32.ofNat (mBits (fun p => mKnows C L p c) p)) (Int32.ofNat p) g = some (Int32.ofNat (mKn C L c), g) := by
  intro r
  have hS := h.1.2.1
  have hP := h.1.1
  induction r with
  | zero =>
    intro n p hp hn
    obtain ⟨m, rfl⟩ : ∃ m, n = m + 1 := ⟨n - 1, by omega⟩
    show fb_X12_knownOf_4 _ _ _ _ _ = _
    unfold fb_X12_knownOf_4
    simp (disch := omega) only [h.2.1.2.2.2.1, qi_le, if_pos (show C.1 ≤ p by omega)]
    rw [show p = C.1 by omega]
    rfl
  | succ r ih =>
    intro n p hp hn
    obtain ⟨m, rfl⟩ : ∃ m, n = m + 1 := ⟨n - 1, by omega⟩
    show fb_X12_knownOf_4 _ _ _ _ _ = _
    unfold fb_X12_knownOf_4 f_X12_knownOf_29
    simp (disch := omega) only [h.2.1.2.2.2.1, qi_le, if_neg (show ¬ C.1 ≤ p by omega), m_knows h (show p < C.1 by omega) hc, zB, qi_lit, mB_0, qi_shl, qi_or, qi_add]
    have := ih m (p + 1) (by omega) (by omega)
    unfold mBits at this
    cases hk : mKnows C L p c
    · rw [hk] at this; simpa using this
    · rw [hk] at this; simpa using this
theorem m_knownOf {C : mC} {L : mL} {g : zSg} {c : Nat} (h : vMk C L g) (hc : c < C.2.1) : f_X12_knownOf (Int32.ofNat c) g = some (Int32.ofNat (mKn C L c), g) :=
  m_knownOf_l h hc C.1 zFu 0 (by omega) (by have := h.1.1; show _ < 1000000; omega)
theorem m_breathe {C : mC} {L : mL} {g : zSg} {p c m : Nat} (h : vMk C L g) (hp : p < 6) (hc : c < 6) (hm : m ≤ 99) : f_X12_breathe (Int32.ofNat p) (Int32.ofNat c) (Int32.ofNat m) g = some ((), gsI g 543 (6 + 6 * p + c) (Int32.ofNat (min 99 (L (6 + 6 * p + c) + m)))) := by
  have hb := h.2.2.2 (6 + 6 * p + c) (by omega) (by omega)
  unfold f_X12_breathe
  rw [m_breathOf h hp hc, qB_s]
  simp (disch := omega) only [qi_lit, qi_mul, qi_add, qi_zib, qi_ix, if_true, qi_imin]
