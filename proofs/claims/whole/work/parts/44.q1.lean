/-! ===== both sides: what is asked, as now ===== -/
/-- no BREATH of what is not there -/
def mLz (C : mC) (L : mL) : Prop := ∀ p c, p < 6 → c < 6 → (C.1 ≤ p ∨ C.2.1 ≤ c) → L (6 + 6 * p + c) = 0
def vQ (C : mC) (L : mL) : Prop := mWf C ∧ mLf 999 C L ∧ mLz C L
def vQX (C : mC) (L : mL) (lw : mLaw) (g : zSg) : Prop := vCo 3 5 C g ∧ vLx lw g ∧ vS8 39 L g ∧ vBr 39 63 C L g
def vQM (C : mC) (L : mL) (lw : mLaw) (g : zSg) : Prop := vMo C g ∧ vLm lw g ∧ vN L g
/-- scratch of the class, of the reference -/
def SX (a _k : Nat) : Prop := a = 425 ∨ a = 21 ∨ a = 26 ∨ a = 31 ∨ a = 36 ∨ a = 427 ∨ a = 429 ∨ (433 ≤ a ∧ a ≤ 505) ∨ a = 523 ∨ a = 525
def SY (a k : Nat) : Prop := (a = 526 ∧ (k = 0 ∨ k = 38 ∨ k = 39 ∨ k = 44 ∨ k = 45)) ∨ a = 535 ∨ a = 536 ∨ a = 545 ∨ a = 546 ∨ a = 548
theorem SX_W {a k : Nat} (h : sW a k) : SX a k := by unfold sW at h; unfold SX; omega
theorem SY_V {a k : Nat} (h : sV a k) : SY a k := by unfold sV at h; unfold SY; omega
theorem vQX.fr {C : mC} {L : mL} {lw : mLaw} {g g' : zSg} (h : vQX C L lw g) (hf : qF SX g g') : vQX C L lw g' :=
  ⟨h.1.fr hf (fun k => by unfold SX; omega) (fun k => by unfold SX; omega), h.2.1.fr hf (fun b k hb => by unfold SX; omega), h.2.2.1.fr hf (fun b k q1 q2 => by unfold SX; omega), h.2.2.2.fr hf (fun b k q1 q2 => by unfold SX; omega)⟩
theorem vQM.fr {C : mC} {L : mL} {lw : mLaw} {g g' : zSg} (h : vQM C L lw g) (hf : qF SY g g') : vQM C L lw g' :=
  ⟨h.1.fr hf (fun k => by unfold SY; omega) (fun k => by unfold SY; omega) (fun k => by unfold SY; omega) (fun k _ _ => by unfold SY; omega), h.2.1.fr hf (by unfold SY; omega) (fun b k q1 q2 => by unfold SY; omega), h.2.2.fr hf (fun k _ => by unfold SY; omega)⟩
theorem vQ.pos {C : mC} {L : mL} (h : vQ C L) {c : Nat} (hc : c < C.2.1) : 0 < C.1 := by
  rcases Nat.eq_zero_or_pos C.1 with q | q
  · have := (h.1.2.2.2.2.2.1 q).1; omega
  · exact q
theorem vQ.posl {C : mC} {L : mL} (h : vQ C L) {l : Nat} (hl : l < mCells C) : 0 < C.1 := by
  rcases Nat.eq_zero_or_pos C.1 with q | q
  · have := (h.1.2.2.2.2.2.1 q).2.1
    unfold mCells at hl
    rw [this, Nat.zero_mul] at hl
    omega
  · exact q
theorem vQ.cells0 {C : mC} {L : mL} (h : vQ C L) : (mCells C = 0) ↔ ¬ 0 < C.1 := by
  refine ⟨fun e q => ?_, fun q => ?_⟩
  · obtain ⟨-, -, h3, h4, -⟩ := h.1.2.2.2.2.2.2 q
    have : 2 * 2 ≤ mW C * mH C := Nat.mul_le_mul h3 h4
    unfold mCells at e
    omega
  · unfold mCells
    rw [(h.1.2.2.2.2.2.1 (by omega)).2.1, Nat.zero_mul]
theorem vQX.xs {C : mC} {L : mL} {lw : mLaw} {g : zSg} (h : vQX C L lw g) (hq : vQ C L) (hp : 0 < C.1) : vXs 999 C lw 39 L g := ⟨hq.1, hp, rfl, by omega, hq.2.1.1, h.1, h.2.1, h.2.2.1⟩
theorem vQM.ms {C : mC} {L : mL} {lw : mLaw} {g : zSg} (h : vQM C L lw g) (hq : vQ C L) (hp : 0 < C.1) : vMs 999 C lw L g := ⟨hq.1, hp, by omega, hq.2.1.1, h.1, h.2.1, h.2.2⟩
theorem vQM.mk {C : mC} {L : mL} {lw : mLaw} {g : zSg} (h : vQM C L lw g) (hq : vQ C L) : vMk C L g := ⟨hq.1, h.1, h.2.2, hq.2.1.1.2.1⟩
theorem vQM.N {C : mC} {L : mL} {lw : mLaw} {g : zSg} (h : vQM C L lw g) : ∀ i, i < 54 → g.2.1 543 i = Int32.ofNat (L i) := h.2.2
theorem qE_b {α β : Type} {S : Nat → Nat → Prop} {g : zSg} {o : Option (α × zSg)} {k : α → zSg → Option (β × zSg)} {v : α} {w : β} (h : qE S g o v) (hk : ∀ g', qF S g g' → qE S g' (k v g') w) : qE S g (zB o k) w := by
  obtain ⟨g', rfl, f⟩ := h
  exact qE_tr f (hk g' f)
theorem qE_m {α : Type} {S S' : Nat → Nat → Prop} {g : zSg} {o : Option (α × zSg)} {v : α} (h : qE S g o v) (hi : ∀ a k, S a k → S' a k) : qE S' g o v := by
  obtain ⟨g', e, f⟩ := h
  exact ⟨g', e, f.mono hi⟩
section Q1
variable {C : mC} {L : mL} {lw : mLaw}
theorem x_hasBoth1 {g : zSg} {p c : Nat} (h : vCo 3 5 C g) (hC : mWf C) (hp : p < C.1) (hc : c < C.2.1) : f_X0_hasBoth 3 (Int32.ofNat p) (Int32.ofNat c) g = some (1, g) := by
  unfold f_X0_hasBoth
  simp only [x_hasPerson1 h hC.1 hp, x_hasSecret1 h hC.2.1 hc, zB]
  rfl
theorem x_hasBoth0 {g : zSg} {x y : Int32} (h : vCo 3 5 C g) (hC : mWf C) (hq : ¬ (mHas C.1 x ∧ mHas C.2.1 y)) : f_X0_hasBoth 3 x y g = some (0, g) := by
  unfold f_X0_hasBoth
  by_cases q1 : mHas C.1 x
  · obtain ⟨p, hp, rfl⟩ := q1
    simp only [x_hasPerson1 h hC.1 hp, x_hasSecret0 h hC.2.1 (fun w => hq ⟨⟨p, hp, rfl⟩, w⟩), zB]
    rfl
  · simp only [x_hasPerson0 h hC.1 q1, zB]
    rfl
theorem d_air (hq : vQ C L) (x : Int32) : ∃ v, (∀ g, vQX C L lw g → qE SX g (f_X11_air x g) v) ∧ (∀ g, vQM C L lw g → qE SY g (f_X12_air x g) v) := by
  have h30 := hq.1.cells
  by_cases q : mHas (mCells C) x
  · obtain ⟨l, hl, rfl⟩ := q
    refine ⟨Int32.ofNat (mAir C lw L l C.2.1), fun g hg => ?_, fun g hg => ?_⟩
    · unfold f_X11_air
      simp only [x_hasCell1 hg.1 h30 hl, zB]
      rw [if_neg (by decide)]
      obtain ⟨g', ze, f⟩ := x_airAt (hg.xs hq (hq.posl hl)) hl
      rw [ze]
      exact ⟨g', rfl, f.mono fun a k w => SX_W w⟩
    · unfold f_X12_air
      simp only [m_isCell1 hg.1 h30 hl, zB]
      rw [if_neg (by decide)]
      obtain ⟨g', ze, f⟩ := m_airOf (hg.ms hq (hq.posl hl)) hl
      rw [ze]
      exact ⟨g', rfl, f.mono fun a k w => SY_V w⟩
  · refine ⟨-1, fun g hg => ?_, fun g hg => ?_⟩
    · unfold f_X11_air
      simp only [x_hasCell0 hg.1 h30 q, zB]
      exact qE_r
    · unfold f_X12_air
      simp only [m_isCell0 hg.1 h30 q, zB]
      exact qE_r
theorem d_strength (hq : vQ C L) (x y : Int32) : ∃ v, (∀ g, vQX C L lw g → qE SX g (f_X11_strength x y g) v) ∧ (∀ g, vQM C L lw g → qE SY g (f_X12_strength x y g) v) := by
  have h30 := hq.1.cells
  have hS := hq.1.2.1
  have ho : L 51 ≤ 999 := hq.2.1.1.2.2.2.2.2.2.1
  by_cases q : mHas C.2.1 x
  · obtain ⟨c, hc, rfl⟩ := q
    by_cases q : mHas (mCells C) y
    · obtain ⟨l, hl, rfl⟩ := q
      refine ⟨Int32.ofNat (mStrL C lw L (L 51) c l), fun g hg => ?_, fun g hg => ?_⟩
      · unfold f_X11_strength
        simp (disch := omega) only [x_hasSecret1 hg.1 hS hc, x_hasCell1 hg.1 h30 hl, x_heavy hg.1, zB]
        obtain ⟨g', ze, f⟩ := x_str (hg.xs hq (hq.posl hl)) hc hl
        rw [if_neg (by decide), if_pos (by decide), ze]
        exact ⟨g', rfl, f.mono fun a k w => SX_W w⟩
      · unfold f_X12_strength
        simp only [m_isSecret1 hg.1 hS hc, m_isCell1 hg.1 h30 hl, zB]
        obtain ⟨g', ze, f⟩ := m_str (o := L 51) (hg.ms hq (hq.posl hl)) hc hl (by omega)
        rw [if_neg (by decide), if_neg (by decide), show gI g 543 51 = Int32.ofNat (L 51) from hg.N 51 (by omega), ze]
        exact ⟨g', rfl, f.mono fun a k w => SY_V w⟩
    · refine ⟨-1, fun g hg => ?_, fun g hg => ?_⟩
      · unfold f_X11_strength
        simp only [x_hasSecret1 hg.1 hS hc, x_hasCell0 hg.1 h30 q, zB]
        exact qE_r
      · unfold f_X12_strength
        simp only [m_isSecret1 hg.1 hS hc, m_isCell0 hg.1 h30 q, zB]
        exact qE_r
  · refine ⟨-1, fun g hg => ?_, fun g hg => ?_⟩
    · unfold f_X11_strength
      simp only [x_hasSecret0 hg.1 hS q, zB]
      exact qE_r
    · unfold f_X12_strength
      simp only [m_isSecret0 hg.1 hS q, zB]
      exact qE_r
def mSmell (C : mC) (lw : mLaw) (L : mL) (c n : Nat) : Nat := mBits (fun l => decide (0 < mStrL C lw L (L 51) c l)) n
theorem x_smells_l {c : Nat} (hq : vQ C L) (hc : c < C.2.1) : ∀ (r n l : Nat) (g : zSg), vXs 999 C lw 39 L g → l + r = mCells C → r < n → qE sW g (f_X10_smellingCells_5 39 n (Int32.ofNat c) (Int32.ofNat (mSmell C lw L c l)) (Int32.ofNat l) g) (Int32.ofNat (mSmell C lw L c (mCells C))) := by
  have h30 := hq.1.cells
  have hS := hq.1.2.1
  intro r
  induction r with
  | zero =>
    intro n l g h hl hn
    obtain ⟨m, rfl⟩ : ∃ m, n = m + 1 := ⟨n - 1, by omega⟩
    have : l = mCells C := by omega
    subst this
    show qE sW g (fb_X10_smellingCells_5 39 _ _ _ _ _) _
    unfold fb_X10_smellingCells_5
    simp (disch := omega) only [x_cells h.2.2.2.2.2.1, zB, qi_le, if_pos (Nat.le_refl (mCells C))]
    exact qE_r
  | succ r ih =>
    intro n l g h hl hn
    obtain ⟨m, rfl⟩ : ∃ m, n = m + 1 := ⟨n - 1, by omega⟩
    show qE sW g (fb_X10_smellingCells_5 39 _ _ _ _ _) _
    unfold fb_X10_smellingCells_5 f_X10_smellingCells_43
    simp (disch := omega) only [x_cells h.2.2.2.2.2.1, zB, qi_le, if_neg (show ¬ mCells C ≤ l by omega), x_heavy h.2.2.2.2.2.1]
    obtain ⟨g', ze, f⟩ := x_str h (c := c) (l := l) hc (by omega)
    rw [ze]
    refine qE_tr f ?_
    have hs9 : mStrL C lw L (L 51) c l ≤ 9 := mStr_le
    have := ih m (l + 1) g' (h.fr f) (by omega) (by omega)
    rw [show mSmell C lw L c (l + 1) = mSmell C lw L c l ||| (if decide (0 < mStrL C lw L (L 51) c l) then 1 <<< l else 0) from rfl] at this
    simp (disch := omega) only [qi_lit, qi_le, qi_shl, qi_or, qi_add]
    by_cases q : mStrL C lw L (L 51) c l ≤ 0
    · rw [if_pos q]
      rw [decide_eq_false (show ¬ 0 < mStrL C lw L (L 51) c l by omega)] at this
      simpa using this
    · rw [if_neg q]
      rw [decide_eq_true (show 0 < mStrL C lw L (L 51) c l by omega)] at this
      simpa using this
theorem m_smells_l {c : Nat} (hq : vQ C L) (hc : c < C.2.1) : ∀ (r n l : Nat) (g : zSg), vMs 999 C lw L g → l + r = mCells C → r < n → qE sV g (f_X12_smells_14 n (Int32.ofNat c) (Int32.ofNat (mSmell C lw L c l)) (Int32.ofNat l) g) (Int32.ofNat (mSmell C lw L c (mCells C))) := by
  have h30 := hq.1.cells
  have hS := hq.1.2.1
  have ho : L 51 ≤ 999 := hq.2.1.1.2.2.2.2.2.2.1
  intro r
  induction r with
  | zero =>
    intro n l g h hl hn
    obtain ⟨m, rfl⟩ : ∃ m, n = m + 1 := ⟨n - 1, by omega⟩
    have : l = mCells C := by omega
    subst this
    show qE sV g (fb_X12_smells_14 _ _ _ _ _) _
    unfold fb_X12_smells_14
    simp (disch := omega) only [h.2.2.2.2.1.2.2.2.2.2, qi_le, if_pos (Nat.le_refl (mCells C))]
    exact qE_r
  | succ r ih =>
    intro n l g h hl hn
    obtain ⟨m, rfl⟩ : ∃ m, n = m + 1 := ⟨n - 1, by omega⟩
    show qE sV g (fb_X12_smells_14 _ _ _ _ _) _
    unfold fb_X12_smells_14 f_X12_smells_46
    simp (disch := omega) only [h.2.2.2.2.1.2.2.2.2.2, qi_le, if_neg (show ¬ mCells C ≤ l by omega), h.N]
    obtain ⟨g', ze, f⟩ := m_str h (c := c) (l := l) (o := L 51) hc (by omega) (by omega)
    rw [ze]
    refine qE_tr f ?_
    have hs9 : mStrL C lw L (L 51) c l ≤ 9 := mStr_le
    have := ih m (l + 1) g' (h.fr f) (by omega) (by omega)
    rw [show mSmell C lw L c (l + 1) = mSmell C lw L c l ||| (if decide (0 < mStrL C lw L (L 51) c l) then 1 <<< l else 0) from rfl] at this
    simp (disch := omega) only [zB, qi_lit, qi_le, qi_shl, qi_or, qi_add]
    by_cases q : mStrL C lw L (L 51) c l ≤ 0
    · rw [if_pos q]
      rw [decide_eq_false (show ¬ 0 < mStrL C lw L (L 51) c l by omega)] at this
      simpa using this
    · rw [if_neg q]
      rw [decide_eq_true (show 0 < mStrL C lw L (L 51) c l by omega)] at this
      simpa using this
theorem d_smells (hq : vQ C L) (x : Int32) : ∃ v, (∀ g, vQX C L lw g → qE SX g (f_X11_smells x g) v) ∧ (∀ g, vQM C L lw g → qE SY g (f_X12_smells x g) v) := by
  have h30 := hq.1.cells
  have hS := hq.1.2.1
  by_cases q : mHas C.2.1 x
  · obtain ⟨c, hc, rfl⟩ := q
    refine ⟨Int32.ofNat (mSmell C lw L c (mCells C)), fun g hg => ?_, fun g hg => ?_⟩
    · unfold f_X11_smells
      simp only [x_hasSecret1 hg.1 hS hc, zB]
      obtain ⟨g', ze, f⟩ := x_smells_l (lw := lw) hq hc (mCells C) zFu 0 g (hg.xs hq (hq.pos hc)) (by omega) (by show _ < 1000000; omega)
      have ze' : f_X10_smellingCells 39 (Int32.ofNat c) g = some (Int32.ofNat (mSmell C lw L c (mCells C)), g') := ze
      rw [if_neg (by decide), ze']
      exact ⟨g', rfl, f.mono fun a k w => SX_W w⟩
    · unfold f_X12_smells
      simp only [m_isSecret1 hg.1 hS hc, zB]
      rw [if_pos (by decide)]
      exact qE_m (m_smells_l (lw := lw) hq hc (mCells C) zFu 0 g (hg.ms hq (hq.pos hc)) (by omega) (by show _ < 1000000; omega)) fun a k w => SY_V w
  · refine ⟨-1, fun g hg => ?_, fun g hg => ?_⟩
    · unfold f_X11_smells
      simp only [x_hasSecret0 hg.1 hS q, zB]
      exact qE_r
    · unfold f_X12_smells
      simp only [m_isSecret0 hg.1 hS q, zB]
      exact qE_r
theorem x_breathOf {g : zSg} {p c : Nat} (h : vQX C L lw g) (hp : p < 6) (hc : c < 6) : f_X8_breathOf 39 (Int32.ofNat p) (Int32.ofNat c) g = some (Int32.ofNat (L (6 + 6 * p + c)), g) := by
  have hb := h.2.2.2 c hc ((by decide : ∀ c : Fin 6, (63 : Nat).testBit c.val = true) ⟨c, hc⟩)
  have e1 : Int32.ofNat p * 6 + Int32.ofNat c = Int32.ofNat (6 * p + c) := by
    show Int32.ofNat p * Int32.ofNat 6 + Int32.ofNat c = _
    rw [qi_mul, qi_add, Nat.mul_comm]
  unfold f_X8_breathOf
  rw [e1]
  simp (disch := omega) only [q_gS7 (show (zK0 39).1 = 8 from rfl), zB, hb.2]
theorem d_breath (hq : vQ C L) (x y : Int32) : ∃ v, (∀ g, vQX C L lw g → qE SX g (f_X11_breath x y g) v) ∧ (∀ g, vQM C L lw g → qE SY g (f_X12_breath x y g) v) := by
  have hP := hq.1.1
  have hS := hq.1.2.1
  by_cases q : mHas C.1 x ∧ mHas C.2.1 y
  · obtain ⟨⟨p, hp, rfl⟩, ⟨c, hc, rfl⟩⟩ := q
    refine ⟨Int32.ofNat (L (6 + 6 * p + c)), fun g hg => ?_, fun g hg => ?_⟩
    · unfold f_X11_breath
      simp (disch := omega) only [x_hasBoth1 hg.1 hq.1 hp hc, x_breathOf hg, zB]
      exact qE_r
    · unfold f_X12_breath
      simp (disch := omega) only [m_isPerson1 hg.1 hP hp, m_isSecret1 hg.1 hS hc, m_breathOf (hg.mk hq), zB]
      exact qE_r
  · refine ⟨-1, fun g hg => ?_, fun g hg => ?_⟩
    · unfold f_X11_breath
      simp only [x_hasBoth0 hg.1 hq.1 q, zB]
      exact qE_r
    · unfold f_X12_breath
      by_cases q1 : mHas C.1 x
      · obtain ⟨p, hp, rfl⟩ := q1
        simp only [m_isPerson1 hg.1 hP hp, m_isSecret0 hg.1 hS (fun w => q ⟨⟨p, hp, rfl⟩, w⟩), zB]
        exact qE_r
      · simp only [m_isPerson0 hg.1 hP q1, zB]
        exact qE_r
end Q1
