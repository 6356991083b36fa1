/-! ===== both sides: SOON, READY ===== -/
def mIt (C : mC) (lw : mLaw) (L : mL) : Nat → mL
  | 0 => L
  | n + 1 => mNight C lw (mIt C lw L n)
theorem mIt_lf {nb : Nat} {C : mC} {lw : mLaw} {L : mL} (hC : mWf C) (h : mLf nb C L) (n : Nat) : mLf (nb + n) C (mIt C lw L n) := by
  induction n with
  | zero => exact h
  | succ n ih => exact mNight_lf hC ih
/-- the first that is so -/
def mFs (P : Nat → Bool) : Nat → Option Nat
  | 0 => none
  | k + 1 => match mFs P k with
    | some j => some j
    | none => if P k then some k else none
theorem mFs_mono {P : Nat → Bool} {k j n : Nat} (h : mFs P k = some j) (hn : k ≤ n) : mFs P n = some j := by
  induction n with
  | zero => rw [show k = 0 by omega] at h; exact h
  | succ n ih =>
    by_cases q : k = n + 1
    · rw [← q]; exact h
    · unfold mFs
      rw [ih (by omega)]
theorem mFs_no {P : Nat → Bool} {k : Nat} (h : mFs P k = none) (hp : P k = false) : mFs P (k + 1) = none := by
  unfold mFs
  rw [h, hp]
  rfl
theorem mFs_yes {P : Nat → Bool} {k n : Nat} (h : mFs P k = none) (hp : P k = true) (hn : k < n) : mFs P n = some k := by
  refine mFs_mono (k := k + 1) ?_ hn
  unfold mFs
  rw [h, hp]
  rfl
theorem q_bit1 {c c' : Nat} : (1 <<< c : Nat).testBit c' = decide (c = c') := by rw [Nat.one_shiftLeft, Nat.testBit_two_pow]
theorem vBr.sub {a mk mk' : Nat} {C : mC} {L : mL} {g : zSg} (h : vBr a mk C L g) (hs : ∀ c, c < 6 → mk'.testBit c = true → mk.testBit c = true) : vBr a mk' C L g := fun c hc hm => h c hc (hs c hc hm)
section Q10
variable {C : mC} {L : mL} {lw : mLaw}
theorem x_becB {a b mk : Nat} {g : zSg} (ha : (zK0 a).1 = 8) (hb : (zK0 b).1 = 8) (hab : a + 8 < b ∨ b + 8 < a) (h : vS8 b L g) (hbr : vBr b mk C L g) : ∃ g', f_X8_become a b g = some ((), g') ∧ vS8 a L g' ∧ vBr a mk C L g' ∧ qF (fun c _ => a ≤ c ∧ c ≤ a + 8) g g' := by
  obtain ⟨g', ze, c1, c2, c3, c4, c5, hf⟩ := x_becS (g := g) ha hb hab
  obtain ⟨s1, s2, s3, s4, s5, s6, s7, s8⟩ := h
  exact ⟨g', ze, ⟨fun p hp => (c1 p hp).trans (s1 p hp), fun c hc => (c2 c hc).trans (s2 c hc), (c5 4 (by omega) (by omega)).trans s3, (c5 5 (by omega) (by omega)).trans s4, (c5 6 (by omega) (by omega)).trans s5, (c5 7 (by omega) (by omega)).trans s6, (c5 8 (by omega) (by omega)).trans s7, (c5 9 (by omega) (by omega)).trans s8⟩, fun c hc hm => ⟨(c3 c hc).trans (hbr c hc hm).1, fun p hp => (c4 _ (by omega)).trans ((hbr c hc hm).2 p hp)⟩, hf⟩
theorem x_knowsA {a mk p c : Nat} {g : zSg} (ha : (zK0 a).1 = 8) (hC : mWf C) (h : vBr a mk C L g) (hm : mk.testBit c = true) (hp : p < C.1) (hc : c < 6) : f_X8_knows a (Int32.ofNat p) (Int32.ofNat c) g = some (mB (mKnows C L p c), g) := by
  have hb := (h c hc hm).1
  unfold f_X8_knows
  simp (disch := omega) only [q_gS5 ha, zB, hb, qi_lit, q_kbit hC hp]
  cases mKnows C L p c <;> rfl
theorem sP_X {a : Nat} (ha : 434 ≤ a ∧ a ≤ 497) {b k : Nat} (h : sP a b k) : SX b k := by
  unfold sP sN sW at h
  unfold SX
  omega
theorem x_soon_l {p c : Nat} {g : zSg} (hq : vQ C L) (hp : p < C.1) (hc : c < C.2.1) (h : vQX C L lw g) : qE SX g (f_X3_nightsTillKnown 39 (Int32.ofNat p) (Int32.ofNat c) g) (mOpt (mFs (fun i => mKnows C (mIt C lw L i) p c) 100)) := by
  have hS := hq.1.2.1
  have hP := hq.1.1
  obtain ⟨g1, ze, hs1, hb1, f1⟩ := x_becB (a := 434) rfl (show (zK0 39).1 = 8 from rfl) (by omega) h.2.2.1 h.2.2.2
  have F1 : qF SX g g1 := f1.mono fun b k w => by unfold SX; omega
  have h1 := h.fr F1
  have hx1 : vXs 999 C lw 434 L g1 := ⟨hq.1, by omega, rfl, by omega, hq.2.1.1, h1.1, h1.2.1, hs1⟩
  have hmk : (1 <<< c : Nat) < 64 := by rw [Nat.one_shiftLeft]; exact Nat.pow_lt_pow_right (by omega) (by omega : c < 6)
  have hbit : (1 <<< c : Nat).testBit c = true := by rw [q_bit1, decide_eq_true rfl]
  unfold f_X3_nightsTillKnown
  rw [ze]
  show qE SX g (f_X3_nightsTillKnown_11 39 zFu (Int32.ofNat p) (Int32.ofNat c) (Int32.ofNat 0) g1) _
  refine q_loop (F := fun n k g => f_X3_nightsTillKnown_11 39 n (Int32.ofNat p) (Int32.ofNat c) (Int32.ofNat k) g) (N := 100) (Inv := fun k g' => vXs (999 + k) C lw 434 (mIt C lw L k) g' ∧ vBr 434 (1 <<< c) C (mIt C lw L k) g' ∧ qF SX g g' ∧ mFs (fun i => mKnows C (mIt C lw L i) p c) k = none) (R := fun r => qE SX g r (mOpt (mFs (fun i => mKnows C (mIt C lw L i) p c) 100))) (by omega) ?_ ?_ (Nat.zero_le _) ⟨hx1, hb1.sub (fun c' hc' _ => q_63 hc'), F1, rfl⟩
  · intro n g' ⟨h', hb', ff, ht⟩
    show qE SX g (fb_X3_nightsTillKnown_11 39 _ _ _ _ _) _
    unfold fb_X3_nightsTillKnown_11
    rw [if_pos (by decide), ht]
    exact ⟨g', rfl, ff⟩
  · intro n k g' hk ⟨h', hb', ff, ht⟩ ih
    show qE SX g (fb_X3_nightsTillKnown_11 39 _ _ _ _ _) _
    unfold fb_X3_nightsTillKnown_11
    simp (disch := omega) only [qi_lit, qi_lt, if_neg (show ¬ 99 < k by omega), x_knowsA (show (zK0 434).1 = 8 from rfl) hq.1 hb' hbit hp (show c < 6 by omega), zB, mB_0]
    cases hk2 : mKnows C (mIt C lw L k) p c
    · rw [if_pos rfl]
      obtain ⟨v, g2, ze2, h2, hb2, f2, -⟩ := x_pass (mk := 1 <<< c) hmk (by omega) (mIt_lf hq.1 hq.2.1 k) h' hb'
      rw [qi_shl (by omega), ze2]
      simp only [qi_add]
      exact ih g2 ⟨h2, hb2, ff.tr (f2.mono fun b k w => sP_X (by omega) w), mFs_no ht hk2⟩
    · rw [if_neg (by decide), mFs_yes ht hk2 hk]
      exact ⟨g', rfl, ff⟩
theorem x_ready_l {c : Nat} {g : zSg} (hq : vQ C L) (hc : c < C.2.1) (h : vQX C L lw g) : qE SX g (f_X3_nightsTillCured 39 (Int32.ofNat c) g) (mOpt (mFs (fun i => (mIt C lw L i 49).testBit c) 100)) := by
  have hS := hq.1.2.1
  have hP := hq.1.1
  have hp := hq.pos hc
  obtain ⟨g1, ze, hs1, hb1, f1⟩ := x_becB (a := 434) rfl (show (zK0 39).1 = 8 from rfl) (by omega) h.2.2.1 h.2.2.2
  have F1 : qF SX g g1 := f1.mono fun b k w => by unfold SX; omega
  have h1 := h.fr F1
  have hx1 : vXs 999 C lw 434 L g1 := ⟨hq.1, hp, rfl, by omega, hq.2.1.1, h1.1, h1.2.1, hs1⟩
  unfold f_X3_nightsTillCured
  rw [ze]
  show qE SX g (f_X3_nightsTillCured_10 39 zFu (Int32.ofNat c) (Int32.ofNat 0) g1) _
  refine q_loop (F := fun n k g => f_X3_nightsTillCured_10 39 n (Int32.ofNat c) (Int32.ofNat k) g) (N := 100) (Inv := fun k g' => vXs (999 + k) C lw 434 (mIt C lw L k) g' ∧ vBr 434 0 C (mIt C lw L k) g' ∧ qF SX g g' ∧ mFs (fun i => (mIt C lw L i 49).testBit c) k = none) (R := fun r => qE SX g r (mOpt (mFs (fun i => (mIt C lw L i 49).testBit c) 100))) (by omega) ?_ ?_ (Nat.zero_le _) ⟨hx1, hb1.sub (fun c' hc' _ => q_63 hc'), F1, rfl⟩
  · intro n g' ⟨h', hb', ff, ht⟩
    show qE SX g (fb_X3_nightsTillCured_10 39 _ _ _ _) _
    unfold fb_X3_nightsTillCured_10
    rw [if_pos (by decide), ht]
    exact ⟨g', rfl, ff⟩
  · intro n k g' hk ⟨h', hb', ff, ht⟩ ih
    have h49 : mIt C lw L k 49 < 64 := h'.2.2.2.2.1.2.2.2.2.1
    show qE SX g (fb_X3_nightsTillCured_10 39 _ _ _ _) _
    unfold fb_X3_nightsTillCured_10
    simp (disch := omega) only [qi_lit, qi_lt, if_neg (show ¬ 99 < k by omega), x_isCured h'.2.2.2.2.2.2.2.2.2.2.1, zB, mB_0]
    cases hk2 : (mIt C lw L k 49).testBit c
    · rw [if_pos rfl]
      obtain ⟨v, g2, ze2, h2, hb2, f2, -⟩ := x_pass (mk := 0) (by omega) (by omega) (mIt_lf hq.1 hq.2.1 k) h' hb'
      rw [ze2]
      simp only [qi_add]
      exact ih g2 ⟨h2, hb2, ff.tr (f2.mono fun b k w => sP_X (by omega) w), mFs_no ht hk2⟩
    · rw [if_neg (by decide), mFs_yes ht hk2 hk]
      exact ⟨g', rfl, ff⟩
theorem m_aside {d : Nat} {g : zSg} (hd : d < 8) : ∃ g', f_X12_putAside (Int32.ofNat d) g = some ((), g') ∧ (∀ i, i < 54 → g'.2.1 548 (54 * d + i) = g.2.1 543 i) ∧ qF (fun a k => a = 548 ∧ 54 * d ≤ k ∧ k < 54 * d + 54) g g' := by
  obtain ⟨u, g1, ze, h1, h2⟩ : qT (f_X12_putAside (Int32.ofNat d) g) (fun _ g' => (∀ i, i < 54 → g'.2.1 548 (54 * d + i) = g.2.1 543 i) ∧ qF (fun a k => a = 548 ∧ 54 * d ≤ k ∧ k < 54 * d + 54) g g') :=
    m_aside_l (g0 := g) hd (fun g' hc hf => qT_r ⟨fun i hi => by rw [hc i hi, Nat.zero_add], hf⟩) 54 zFu 0 g (by omega) (by show _ < 1000000; omega) (fun i hi => by omega) qF.rfl'
  exact ⟨g1, ze, h1, h2⟩
theorem m_tback {d : Nat} {g : zSg} (hd : d < 8) : ∃ g', f_X12_takeBack (Int32.ofNat d) g = some ((), g') ∧ (∀ i, i < 54 → g'.2.1 543 i = g.2.1 548 (54 * d + i)) ∧ qF (fun a k => a = 543 ∧ k < 54) g g' := by
  obtain ⟨u, g1, ze, h1, h2⟩ : qT (f_X12_takeBack (Int32.ofNat d) g) (fun _ g' => (∀ i, i < 54 → g'.2.1 543 i = g.2.1 548 (54 * d + i)) ∧ qF (fun a k => a = 543 ∧ k < 54) g g') :=
    m_tback_l (g0 := g) hd (fun g' hc hf => qT_r ⟨fun i hi => by have := hc i hi; rwa [Nat.zero_add] at this, hf.mono fun a k w => ⟨w.1, by omega⟩⟩) 54 zFu 0 g (by omega) (by show _ < 1000000; omega) (fun i hi => by omega) qF.rfl'
  exact ⟨g1, ze, h1, h2⟩
/-- the reference's trials: all that they may change -/
def SZ (a k : Nat) : Prop := SY a k ∨ (a = 543 ∧ k < 54)
theorem sM_Z {a k : Nat} (h : sM a k) : SZ a k := by
  unfold sM sV at h
  unfold SZ SY
  omega
/-- behind a trial all is as it was -/
theorem q_back {g g1 : zSg} (f : qF SZ g g1) (h : ∀ i, i < 54 → g1.2.1 543 i = g.2.1 543 i) : qF SY g g1 := by
  refine ⟨f.1, fun a k q => ?_, fun a k q => ?_, f.2.2.2⟩
  · by_cases z : a = 543 ∧ k < 54
    · obtain ⟨rfl, hk⟩ := z; exact h k hk
    · exact f.2.1 a k (fun w => w.elim q z)
  · refine f.2.2.1 a k (fun w => ?_)
    rcases w.1 with w1 | w1
    · exact q ⟨w1, w.2⟩
    · have := w.2
      unfold qJc at this
      omega
theorem m_soon_l {p c : Nat} {g : zSg} (hq : vQ C L) (hp : p < C.1) (hc : c < C.2.1) (h : vQM C L lw g) : qE SY g (zB (f_X12_putAside (Int32.ofNat 0) g) (fun v9 g10 => f_X12_soon_25 zFu (Int32.ofNat p) (Int32.ofNat c) (Int32.ofNat 0) g10)) (mOpt (mFs (fun i => mKnows C (mIt C lw L i) p c) 100)) := by
  have hS := hq.1.2.1
  have hP := hq.1.1
  obtain ⟨P, hPd⟩ : ∃ P, P = fun i => mKnows C (mIt C lw L i) p c := ⟨_, rfl⟩
  rw [← hPd]
  obtain ⟨g1, ze, ha, f1⟩ := m_aside (d := 0) (g := g) (by omega)
  have F1 : qF SY g g1 := f1.mono fun a k w => by unfold SY; omega
  have h1 := (h.fr F1).ms hq (by omega)
  rw [ze]
  show qE SY g (f_X12_soon_25 zFu (Int32.ofNat p) (Int32.ofNat c) (Int32.ofNat 0) g1) _
  -- the end: taken back
  have fin : ∀ (k : Nat) (g' : zSg) (b : Bool), k < 100 → vMs (999 + k) C lw (mIt C lw L k) g' → qF SZ g g' → (∀ i, i < 54 → g'.2.1 548 i = g.2.1 543 i) → P k = b → (if b then mFs P 100 = some k else mFs P 100 = none) → qE SY g (f_X12_soon_51 (Int32.ofNat p) (Int32.ofNat c) (Int32.ofNat k) g') (mOpt (mFs P 100)) := by
    intro k g' b hk h' ff h548 hb hr
    have hkn : mKnows C (mIt C lw L k) p c = b := by rw [← hb, hPd]
    obtain ⟨g2, ze2, hb2, f2⟩ := m_tback (d := 0) (g := g') (by omega)
    have F2 : qF SY g g2 := q_back (ff.tr (f2.mono fun a k w => Or.inr w)) (fun i hi => by
      rw [hb2 i hi, show 54 * 0 + i = i by omega]
      exact h548 i hi)
    unfold f_X12_soon_51
    rw [m_knows h'.mk hp hc, hkn, show (0 : Int32) = Int32.ofNat 0 from rfl]
    simp only [zB, ze2, mB_0]
    cases b
    · rw [if_pos rfl]
      rw [if_neg (by decide)] at hr
      rw [hr]
      exact ⟨g2, rfl, F2⟩
    · rw [if_neg (by decide)]
      rw [if_pos rfl] at hr
      rw [hr]
      exact ⟨g2, rfl, F2⟩
  refine q_loop (F := fun n k g => f_X12_soon_25 n (Int32.ofNat p) (Int32.ofNat c) (Int32.ofNat k) g) (N := 99) (Inv := fun k g' => vMs (999 + k) C lw (mIt C lw L k) g' ∧ qF SZ g g' ∧ (∀ i, i < 54 → g'.2.1 548 i = g.2.1 543 i) ∧ mFs P k = none) (R := fun r => qE SY g r (mOpt (mFs P 100))) (by omega) ?_ ?_ (Nat.zero_le _) ⟨h1, F1.mono fun a k w => Or.inl w, fun i hi => by have := ha i hi; rwa [show 54 * 0 + i = i by omega] at this, rfl⟩
  · intro n g' ⟨h', ff, h548, ht⟩
    show qE SY g (fb_X12_soon_25 _ _ _ _ _) _
    unfold fb_X12_soon_25
    simp (disch := omega) only [qi_lit, qi_le, if_pos (Nat.le_refl 99)]
    refine fin 99 g' (P 99) (by omega) h' ff h548 rfl ?_
    cases hb : P 99
    · rw [if_neg (by decide)]; exact mFs_no ht hb
    · rw [if_pos rfl]; exact mFs_yes ht hb (by omega)
  · intro n k g' hk ⟨h', ff, h548, ht⟩ ih
    have hkn : mKnows C (mIt C lw L k) p c = P k := by rw [hPd]
    show qE SY g (fb_X12_soon_25 _ _ _ _ _) _
    unfold fb_X12_soon_25
    simp (disch := omega) only [qi_lit, qi_le, if_neg (show ¬ 99 ≤ k by omega), m_knows h'.mk hp hc, zB, mB_0, hkn]
    cases hb : P k
    · rw [if_neg (fun w => w rfl)]
      obtain ⟨v, g2, ze2, h2, f2⟩ := m_live (by omega) (mIt_lf hq.1 hq.2.1 k) h'
      rw [ze2]
      simp only [qi_add]
      exact ih g2 ⟨h2, ff.tr (f2.mono fun a k w => sM_Z w), fun i hi => by rw [f2.2.1 _ _ (by unfold sM sV; omega)]; exact h548 i hi, mFs_no ht hb⟩
    · rw [if_pos (by decide)]
      exact fin k g' true (by omega) h' ff h548 hb (by rw [if_pos rfl]; exact mFs_yes ht hb (by omega))
theorem m_ready_l {c : Nat} {g : zSg} (hq : vQ C L) (hc : c < C.2.1) (h : vQM C L lw g) : qE SY g (zB (f_X12_putAside (Int32.ofNat 0) g) (fun v5 g6 => f_X12_ready_17 zFu (Int32.ofNat c) (Int32.ofNat 0) g6)) (mOpt (mFs (fun i => (mIt C lw L i 49).testBit c) 100)) := by
  have hS := hq.1.2.1
  have hP := hq.1.1
  have hp := hq.pos hc
  obtain ⟨P, hPd⟩ : ∃ P, P = fun i => (mIt C lw L i 49).testBit c := ⟨_, rfl⟩
  rw [← hPd]
  obtain ⟨g1, ze, ha, f1⟩ := m_aside (d := 0) (g := g) (by omega)
  have F1 : qF SY g g1 := f1.mono fun a k w => by unfold SY; omega
  have h1 := (h.fr F1).ms hq hp
  rw [ze]
  show qE SY g (f_X12_ready_17 zFu (Int32.ofNat c) (Int32.ofNat 0) g1) _
  have fin : ∀ (k : Nat) (g' : zSg) (b : Bool), k < 100 → vMs (999 + k) C lw (mIt C lw L k) g' → qF SZ g g' → (∀ i, i < 54 → g'.2.1 548 i = g.2.1 543 i) → P k = b → (if b then mFs P 100 = some k else mFs P 100 = none) → qE SY g (f_X12_ready_42 (Int32.ofNat c) (Int32.ofNat k) g') (mOpt (mFs P 100)) := by
    intro k g' b hk h' ff h548 hb hr
    have h49 : mIt C lw L k 49 < 64 := h'.2.2.2.1.2.2.2.2.1
    have hkn : (mIt C lw L k 49).testBit c = b := by rw [← hb, hPd]
    obtain ⟨g2, ze2, hb2, f2⟩ := m_tback (d := 0) (g := g') (by omega)
    have F2 : qF SY g g2 := q_back (ff.tr (f2.mono fun a k w => Or.inr w)) (fun i hi => by
      rw [hb2 i hi, show 54 * 0 + i = i by omega]
      exact h548 i hi)
    unfold f_X12_ready_42 f_X12_ready_55
    rw [m_isRaw (h'.N 49 (by omega)) (by omega) (by omega), hkn, show (0 : Int32) = Int32.ofNat 0 from rfl]
    simp only [zB, ze2, mB_0]
    cases b
    · rw [if_pos (by decide), if_pos trivial]
      rw [if_neg (by decide)] at hr
      rw [hr]
      exact ⟨g2, rfl, F2⟩
    · rw [if_neg (by decide), if_neg (by decide)]
      rw [if_pos rfl] at hr
      rw [hr]
      exact ⟨g2, rfl, F2⟩
  refine q_loop (F := fun n k g => f_X12_ready_17 n (Int32.ofNat c) (Int32.ofNat k) g) (N := 99) (Inv := fun k g' => vMs (999 + k) C lw (mIt C lw L k) g' ∧ qF SZ g g' ∧ (∀ i, i < 54 → g'.2.1 548 i = g.2.1 543 i) ∧ mFs P k = none) (R := fun r => qE SY g r (mOpt (mFs P 100))) (by omega) ?_ ?_ (Nat.zero_le _) ⟨h1, F1.mono fun a k w => Or.inl w, fun i hi => by have := ha i hi; rwa [show 54 * 0 + i = i by omega] at this, rfl⟩
  · intro n g' ⟨h', ff, h548, ht⟩
    show qE SY g (fb_X12_ready_17 _ _ _ _) _
    unfold fb_X12_ready_17
    simp (disch := omega) only [qi_lit, qi_le, if_pos (Nat.le_refl 99)]
    refine fin 99 g' (P 99) (by omega) h' ff h548 rfl ?_
    cases hb : P 99
    · rw [if_neg (by decide)]; exact mFs_no ht hb
    · rw [if_pos rfl]; exact mFs_yes ht hb (by omega)
  · intro n k g' hk ⟨h', ff, h548, ht⟩ ih
    have h49 : mIt C lw L k 49 < 64 := h'.2.2.2.1.2.2.2.2.1
    have hkn : (mIt C lw L k 49).testBit c = P k := by rw [hPd]
    show qE SY g (fb_X12_ready_17 _ _ _ _) _
    unfold fb_X12_ready_17
    simp (disch := omega) only [qi_lit, qi_le, if_neg (show ¬ 99 ≤ k by omega), m_isRaw (h'.N 49 (by omega)), zB, mB_0, hkn]
    cases hb : P k
    · rw [if_neg (by decide)]
      obtain ⟨v, g2, ze2, h2, f2⟩ := m_live (by omega) (mIt_lf hq.1 hq.2.1 k) h'
      rw [ze2]
      simp only [qi_add]
      exact ih g2 ⟨h2, ff.tr (f2.mono fun a k w => sM_Z w), fun i hi => by rw [f2.2.1 _ _ (by unfold sM sV; omega)]; exact h548 i hi, mFs_no ht hb⟩
    · rw [if_pos (by decide)]
      exact fin k g' true (by omega) h' ff h548 hb (by rw [if_pos rfl]; exact mFs_yes ht hb (by omega))
theorem d_soon (hq : vQ C L) (x y : Int32) : ∃ v, (∀ g, vQX C L lw g → qE SX g (f_X11_soon x y g) v) ∧ (∀ g, vQM C L lw g → qE SY g (f_X12_soon x y g) v) := by
  have hS := hq.1.2.1
  have hP := hq.1.1
  by_cases q : mHas C.1 x ∧ mHas C.2.1 y
  · obtain ⟨⟨p, hp, rfl⟩, ⟨c, hc, rfl⟩⟩ := q
    refine ⟨mOpt (mFs (fun i => mKnows C (mIt C lw L i) p c) 100), fun g hg => ?_, fun g hg => ?_⟩
    · obtain ⟨g2, ze, f2⟩ := x_soon_l hq hp hc hg
      unfold f_X11_soon
      rw [x_hasBoth1 hg.1 hq.1 hp hc]
      dsimp only [zB]
      rw [if_neg (by decide), ze]
      exact ⟨g2, rfl, f2⟩
    · have key := m_soon_l hq hp hc hg
      unfold f_X12_soon
      rw [m_isPerson1 hg.1 hP hp, qB_s, if_neg (by decide), m_isSecret1 hg.1 hS hc, qB_s, if_pos (by decide), show (0 : Int32) = Int32.ofNat 0 from rfl]
      exact key
  · refine ⟨-1, fun g hg => ?_, fun g hg => ?_⟩
    · unfold f_X11_soon
      rw [x_hasBoth0 hg.1 hq.1 q]
      exact qE_r
    · unfold f_X12_soon
      by_cases q1 : mHas C.1 x
      · obtain ⟨p, hp, rfl⟩ := q1
        rw [m_isPerson1 hg.1 hP hp]
        dsimp only [zB]
        rw [if_neg (by decide), m_isSecret0 hg.1 hS (fun w => q ⟨⟨p, hp, rfl⟩, w⟩)]
        exact qE_r
      · rw [m_isPerson0 hg.1 hP q1]
        exact qE_r
theorem d_ready (hq : vQ C L) (x : Int32) : ∃ v, (∀ g, vQX C L lw g → qE SX g (f_X11_ready x g) v) ∧ (∀ g, vQM C L lw g → qE SY g (f_X12_ready x g) v) := by
  have hS := hq.1.2.1
  by_cases q : mHas C.2.1 x
  · obtain ⟨c, hc, rfl⟩ := q
    refine ⟨mOpt (mFs (fun i => (mIt C lw L i 49).testBit c) 100), fun g hg => ?_, fun g hg => ?_⟩
    · obtain ⟨g2, ze, f2⟩ := x_ready_l hq hc hg
      unfold f_X11_ready
      rw [x_hasSecret1 hg.1 hS hc]
      dsimp only [zB]
      rw [if_neg (by decide), ze]
      exact ⟨g2, rfl, f2⟩
    · have key := m_ready_l hq hc hg
      unfold f_X12_ready
      rw [m_isSecret1 hg.1 hS hc, qB_s, if_pos (by decide), show (0 : Int32) = Int32.ofNat 0 from rfl]
      exact key
  · refine ⟨-1, fun g hg => ?_, fun g hg => ?_⟩
    · unfold f_X11_ready
      rw [x_hasSecret0 hg.1 hS q]
      exact qE_r
    · unfold f_X12_ready
      rw [m_isSecret0 hg.1 hS q]
      exact qE_r
end Q10
