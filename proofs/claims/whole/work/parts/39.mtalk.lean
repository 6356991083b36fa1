/-! ===== the reference: TABLES, a NIGHT whole ===== -/
theorem mUp_self {L : mL} {i : Nat} : mUp L i (L i) = L := by
  funext j
  unfold mUp
  split
  · rename_i q; rw [q]
  · rfl
def vKw (C : mC) (L : mL) (g : zSg) : Prop := ∀ p, p < C.1 → g.2.1 545 p = Int32.ofNat (mKb C L p)
theorem mKb_lt {C : mC} {L : mL} {p : Nat} (hC : mWf C) : mKb C L p < 64 := Nat.lt_of_lt_of_le mBits_lt (Nat.pow_le_pow_right (by omega) hC.2.1 : 2 ^ C.2.1 ≤ 2 ^ 6)
theorem mKb_tb {C : mC} {L : mL} {c i : Nat} : (mKb C L i).testBit c = (decide (c < C.2.1) && mKnows C L i c) := mBits_tb
def mTv (p o c o' p' c' : Nat) : Bool := decide (p' < p ∨ (p' = p ∧ (o' < o ∨ (o' = o ∧ c' < c))))
theorem m_talk_c {nb hd p o : Nat} {C : mC} {lw : mLaw} {L : mL} {k29 : Int32 → zSg → Option (Unit × zSg)} {k39 : Int32 → Int32 → zSg → Option (Unit × zSg)} {g0 : zSg} {Q : Unit → zSg → Prop} (hp : p < C.1) (ho : o < C.1) (hL : mLb nb C L) (hh : hd < 64) (hbit : ∀ c, c < C.2.1 → hd.testBit c = mTells C L o p c)
    (hk : ∀ g', vMs nb C lw (mTlS C L (mTv p o C.2.1)) g' → vKw C L g' → qF sM g0 g' → qT (k39 (Int32.ofNat p) (Int32.ofNat (o + 1)) g') Q) :
    ∀ (r n c : Nat) (g : zSg), vMs nb C lw (mTlS C L (mTv p o c)) g → vKw C L g → qF sM g0 g → c + r = C.2.1 → r < n → qT (f_X12_talkAll_104 k29 k39 n (Int32.ofNat p) (Int32.ofNat o) (Int32.ofNat hd) (Int32.ofNat c) g) Q := by
  intro r
  induction r with
  | zero =>
    intro n c g h hw hf hc hn
    obtain ⟨m, rfl⟩ : ∃ m, n = m + 1 := ⟨n - 1, by omega⟩
    have hS6 := h.1.2.1
    have : c = C.2.1 := by omega
    subst this
    show qT (fb_X12_talkAll_104 _ _ _ _ _ _ _ _) _
    unfold fb_X12_talkAll_104 f_X12_talkAll_140
    simp (disch := omega) only [h.2.2.2.2.1.2.2.2.2.1, qi_le, if_pos (Nat.le_refl C.2.1), qi_lit, qi_add]
    exact hk g h hw hf
  | succ r ih =>
    intro n c g h hw hf hc hn
    obtain ⟨m, rfl⟩ : ∃ m, n = m + 1 := ⟨n - 1, by omega⟩
    have hP6 := h.1.1
    have hS6 := h.1.2.1
    have hlb : ∀ w, mLb nb C (mTlS C L w) := fun w => mTlS_lb hP6 hL
    have ho99 := (hlb (mTv p o c)).2.1 (6 + 6 * p + c) (by omega) (by omega)
    have hw' : ∀ x, vKw C L (gsI g 543 (6 + 6 * p + c) x) := fun x q hq => by rw [qs_In (by omega)]; exact hw q hq
    show qT (fb_X12_talkAll_104 _ _ _ _ _ _ _ _) _
    unfold fb_X12_talkAll_104 f_X12_talkAll_131
    simp (disch := omega) only [h.2.2.2.2.1.2.2.2.2.1, qi_le, if_neg (show ¬ C.2.1 ≤ c by omega), qi_lit, m_has, zB, mB_0, hbit c, m_breathe h.mk, qi_add]
    cases hT : mTells C L o p c
    · rw [if_pos rfl]
      have ze : mTlS C L (mTv p o (c + 1)) = mTlS C L (mTv p o c) := mTlS_ext fun o' p' c' _ _ _ hT' => by
        by_cases q : o' = o ∧ p' = p ∧ c' = c
        · obtain ⟨rfl, rfl, rfl⟩ := q
          rw [hT] at hT'; cases hT'
        · unfold mTv
          exact decide_eq_decide.mpr ⟨fun z => by omega, fun z => by omega⟩
      have z0 : min 99 (mTlS C L (mTv p o c) (6 + 6 * p + c) + 0) = mTlS C L (mTv p o c) (6 + 6 * p + c) := by omega
      rw [z0]
      have h2 := h.up (i := 6 + 6 * p + c) (v := mTlS C L (mTv p o c) (6 + 6 * p + c)) (by rw [mUp_self]; exact hlb _)
      rw [mUp_self] at h2
      exact ih m (c + 1) _ (h2.rw' ze.symm) (hw' _) (hf.sI (Or.inr (Or.inl ⟨rfl, by omega⟩))) (by omega) (by omega)
    · rw [if_neg (by decide)]
      have hs := mTlS_s (C := C) (L := L) (w := mTv p o c) (w' := mTv p o (c + 1)) (t := o) (q := p) (c := c) ho hp (by omega) hS6 hP6 hT (decide_eq_false (by omega)) (decide_eq_true (by omega)) (fun o' p' c' _ _ _ _ hne => by
        unfold mTv
        exact decide_eq_decide.mpr ⟨fun z => by omega, fun z => by omega⟩)
      have h2 := h.up (i := 6 + 6 * p + c) (v := min 99 (mTlS C L (mTv p o c) (6 + 6 * p + c) + 1)) (by rw [← hs]; exact hlb _)
      exact ih m (c + 1) _ (h2.rw' hs.symm) (hw' _) (hf.sI (Or.inr (Or.inl ⟨rfl, by omega⟩))) (by omega) (by omega)
theorem m_talk_o {nb p : Nat} {C : mC} {lw : mLaw} {L : mL} {k29 : Int32 → zSg → Option (Unit × zSg)} {g0 : zSg} {Q : Unit → zSg → Prop} (hp : p < C.1) (hL : mLb nb C L)
    (hk : ∀ g', vMs nb C lw (mTlS C L (mTv p C.1 0)) g' → vKw C L g' → qF sM g0 g' → qT (k29 (Int32.ofNat (p + 1)) g') Q) :
    ∀ (r n o : Nat) (g : zSg), vMs nb C lw (mTlS C L (mTv p o 0)) g → vKw C L g → qF sM g0 g → o + r = C.1 → r < n → qT (f_X12_talkAll_39 k29 n (Int32.ofNat p) (Int32.ofNat o) g) Q := by
  intro r
  induction r with
  | zero =>
    intro n o g h hw hf hc hn
    obtain ⟨m, rfl⟩ : ∃ m, n = m + 1 := ⟨n - 1, by omega⟩
    have hP6 := h.1.1
    have : o = C.1 := by omega
    subst this
    show qT (fb_X12_talkAll_39 _ _ _ _ _) _
    unfold fb_X12_talkAll_39 f_X12_talkAll_146
    simp (disch := omega) only [h.2.2.2.2.1.2.2.2.1, qi_le, if_pos (Nat.le_refl C.1), qi_lit, qi_add]
    exact hk g h hw hf
  | succ r ih =>
    intro n o g h hw hf hc hn
    obtain ⟨m, rfl⟩ : ∃ m, n = m + 1 := ⟨n - 1, by omega⟩
    have hC := h.1
    have hP6 := hC.1
    have hS6 := hC.2.1
    have hN := h.N
    have c1 : L p < 30 ∧ L o < 30 := by
      have := hL.1 p (by omega); have := hL.1 o (by omega); have := hC.cells; omega
    have w1 : ∀ q, q < 6 → mTlS C L (mTv p o 0) q = L q := fun q hq => mTlS_n (by omega)
    have w49 : mTlS C L (mTv p o 0) 49 = L 49 := mTlS_n (by omega)
    have next : ∀ hd, hd < 64 → (∀ c, c < C.2.1 → hd.testBit c = mTells C L o p c) → qT (f_X12_talkAll_104 k29 (f_X12_talkAll_39 k29 m) zFu (Int32.ofNat p) (Int32.ofNat o) (Int32.ofNat hd) (Int32.ofNat 0) g) Q := fun hd hh hb =>
      m_talk_c (g0 := g0) hp (by omega) hL hh hb (fun g' h' hw' hf' => ih m (o + 1) g' (h'.rw' (mTlS_ext fun o' p' c' _ _ hc' _ => by
        unfold mTv
        exact decide_eq_decide.mpr ⟨fun z => by omega, fun z => by omega⟩)) hw' hf' (by omega) (by omega)) C.2.1 zFu 0 g h hw hf (by omega) (by show _ < 1000000; omega)
    have none' : (∀ c, c < C.2.1 → mTells C L o p c = false) → qT (f_X12_talkAll_104 k29 (f_X12_talkAll_39 k29 m) zFu (Int32.ofNat p) (Int32.ofNat o) (Int32.ofNat 0) (Int32.ofNat 0) g) Q := fun q => next 0 (by omega) (fun c hc' => by rw [q c hc', Nat.zero_testBit])
    show qT (fb_X12_talkAll_39 _ _ _ _ _) _
    unfold fb_X12_talkAll_39 f_X12_talkAll_99 f_X12_talkAll_100
    simp (disch := omega) only [h.2.2.2.2.1.2.2.2.1, qi_le, if_neg (show ¬ C.1 ≤ o by omega), qi_lit, qi_inj, qi_add, Nat.zero_add, qi_zib, if_true, qi_ix, hN, w1, w49, hw p hp, hw o (show o < C.1 by omega), qi_andn]
    by_cases q : o = p
    · rw [if_pos q]
      exact none' (fun c _ => by unfold mTells; rw [decide_eq_false (fun w => w q)]; rfl)
    · rw [if_neg q]
      by_cases q2 : L p = L o
      · rw [if_neg (fun w => w q2)]
        refine next _ (q_andn_lt (q_andn_lt (mKb_lt hC))) (fun c hc' => ?_)
        rw [Nat.testBit_xor, Nat.testBit_and, Nat.testBit_xor, Nat.testBit_and, mKb_tb, mKb_tb, decide_eq_true hc']
        unfold mTells
        rw [decide_eq_true q, decide_eq_true q2.symm]
        cases mKnows C L o c <;> cases mKnows C L p c <;> cases (L 49).testBit c <;> rfl
      · rw [if_pos q2]
        exact none' (fun c _ => by unfold mTells; rw [decide_eq_false (show ¬ L o = L p from fun w => q2 w.symm), Bool.and_false]; rfl)
theorem m_talk_p {nb : Nat} {C : mC} {lw : mLaw} {L : mL} {g0 : zSg} (hL : mLb nb C L) :
    ∀ (r n p : Nat) (g : zSg), vMs nb C lw (mTlS C L (mTv p 0 0)) g → vKw C L g → qF sM g0 g → p + r = C.1 → r < n → qT (f_X12_talkAll_29 n (Int32.ofNat p) g) (fun _ g' => vMs nb C lw (mTell C L) g' ∧ qF sM g0 g') := by
  intro r
  induction r with
  | zero =>
    intro n p g h hw hf hc hn
    obtain ⟨m, rfl⟩ : ∃ m, n = m + 1 := ⟨n - 1, by omega⟩
    have hP6 := h.1.1
    show qT (fb_X12_talkAll_29 _ _ _) _
    unfold fb_X12_talkAll_29
    simp (disch := omega) only [h.2.2.2.2.1.2.2.2.1, qi_le, if_pos (show C.1 ≤ p by omega)]
    exact qT_r ⟨h.rw' (mTlS_all fun o' p' c' _ hp' _ _ => decide_eq_true (by omega)), hf⟩
  | succ r ih =>
    intro n p g h hw hf hc hn
    obtain ⟨m, rfl⟩ : ∃ m, n = m + 1 := ⟨n - 1, by omega⟩
    have hP6 := h.1.1
    show qT (fb_X12_talkAll_29 _ _ _) _
    unfold fb_X12_talkAll_29
    simp (disch := omega) only [h.2.2.2.2.1.2.2.2.1, qi_le, if_neg (show ¬ C.1 ≤ p by omega)]
    refine m_talk_o (g0 := g0) (by omega) hL (fun g' h' hw' hf' => ih m (p + 1) g' (h'.rw' (mTlS_ext fun o' p' c' ho' _ _ _ => ?_)) hw' hf' (by omega) (by omega)) C.1 zFu 0 g h hw hf (by omega) (by show _ < 1000000; omega)
    unfold mTv
    exact decide_eq_decide.mpr ⟨fun z => by omega, fun z => by omega⟩
theorem m_talk_k {nb : Nat} {C : mC} {lw : mLaw} {L : mL} {g0 : zSg} (hL : mLb nb C L) :
    ∀ (r n p : Nat) (g : zSg), vMs nb C lw L g → (∀ q, q < p → g.2.1 545 q = Int32.ofNat (mKb C L q)) → qF sM g0 g → p + r = C.1 → r < n → qT (f_X12_talkAll_2 n (Int32.ofNat p) g) (fun _ g' => vMs nb C lw (mTell C L) g' ∧ qF sM g0 g') := by
  intro r
  induction r with
  | zero =>
    intro n p g h hw hf hc hn
    obtain ⟨m, rfl⟩ : ∃ m, n = m + 1 := ⟨n - 1, by omega⟩
    have hP6 := h.1.1
    show qT (fb_X12_talkAll_2 _ _ _) _
    unfold fb_X12_talkAll_2 f_X12_talkAll_27
    simp (disch := omega) only [h.2.2.2.2.1.2.2.2.1, qi_le, if_pos (show C.1 ≤ p by omega)]
    exact m_talk_p hL C.1 zFu 0 g (h.rw' (mTlS_0 hL fun o' p' c' _ _ _ _ => decide_eq_false (by omega)).symm) (fun q hq => hw q (by omega)) hf (by omega) (by show _ < 1000000; omega)
  | succ r ih =>
    intro n p g h hw hf hc hn
    obtain ⟨m, rfl⟩ : ∃ m, n = m + 1 := ⟨n - 1, by omega⟩
    have hP6 := h.1.1
    show qT (fb_X12_talkAll_2 _ _ _) _
    unfold fb_X12_talkAll_2
    simp (disch := omega) only [h.2.2.2.2.1.2.2.2.1, qi_le, if_neg (show ¬ C.1 ≤ p by omega), m_knownTo h.mk (show p < C.1 by omega), zB, qi_zib, if_true, qi_ix, qi_lit, qi_add]
    have f : qF (fun a _ => a = 545) g (gsI g 545 p (Int32.ofNat (mKb C L p))) := qF.rfl'.sI rfl
    have h2 : vMs nb C lw L (gsI g 545 p (Int32.ofNat (mKb C L p))) := by
      obtain ⟨h1, h2, h3, h4, h5, h6, h7⟩ := h
      exact ⟨h1, h2, h3, h4, h5.fr f (fun k => by omega) (fun k => by omega) (fun k => by omega) (fun k _ _ => by omega), h6.fr f (by omega) (fun b k q1 q2 => by omega), h7.fr f (fun k _ => by omega)⟩
    refine ih m (p + 1) _ h2 (fun q hq => ?_) (hf.sI (Or.inr (Or.inr rfl))) (by omega) (by omega)
    by_cases z : q = p
    · subst z; rw [qs_Ie]
    · rw [qs_In (by omega)]; exact hw q (by omega)
theorem m_live {nb : Nat} {C : mC} {lw : mLaw} {L : mL} {g : zSg} (hnb : nb + 1 ≤ 100000) (hL : mLf nb C L) (h : vMs nb C lw L g) : ∃ v g', f_X12_live g = some (v, g') ∧ vMs (nb + 1) C lw (mNight C lw L) g' ∧ qF sM g g' := by
  have hC := h.1
  have hP6 := hC.1
  have hS6 := hC.2.1
  have h51 : L 51 ≤ 999 := hL.1.2.2.2.2.2.2.1
  obtain ⟨u1, g1, ze1, h1, f1⟩ : qT (f_X12_smokeAll g) (fun _ g' => vMs nb C lw (mSmoke C lw (L 51) L C.2.1) g' ∧ qF sM g g') := by
    unfold f_X12_smokeAll
    rw [show gI g 543 51 = Int32.ofNat (L 51) from h.2.2.2.2.2.2 51 (by omega)]
    exact m_smoke_l hL h51 C.2.1 zFu 0 g h qF.rfl' (by omega) (by show _ < 1000000; omega)
  obtain ⟨g2, ze2, h2, f2⟩ := m_cure_l (o := L 51) (g0 := g) hL C.2.1 zFu 0 g1 h1 f1 (by omega) (by show _ < 1000000; omega)
  have hl2 := h2.2.2.2.1
  obtain ⟨u3, g3, ze3, h3, f3⟩ := m_talk_k (g0 := g) hl2 C.1 zFu 0 g2 h2 (fun q hq => by omega) f2 (by omega) (by show _ < 1000000; omega)
  have ze2' : f_X12_cureAll g1 = some (Int32.ofNat (mCured C (mN1 C lw L) C.2.1), g2) := ze2
  have ze3' : f_X12_talkAll g2 = some (u3, g3) := ze3
  have hN := h3.N
  have n52 : mTell C (mCure C (mSmoke C lw (L 51) L C.2.1) C.2.1) 52 = L 52 := by
    unfold mTell
    rw [if_neg (by omega), mCure_n (by omega) (by omega)]
    exact mSmoke_n hS6 (by omega)
  have n53 : mTell C (mCure C (mSmoke C lw (L 51) L C.2.1) C.2.1) 53 = L 53 := by
    unfold mTell
    rw [if_neg (by omega), mCure_n (by omega) (by omega)]
    exact mSmoke_n hS6 (by omega)
  have hcd := mCured_le (C := C) (L := mN1 C lw L) (n := C.2.1)
  have b52 := hL.1.2.2.2.2.2.2.2.1
  have b53 := hL.1.2.2.2.2.2.2.2.2
  have g52 : g3.2.1 543 52 = Int32.ofNat (L 52) := by rw [hN 52 (by omega), n52]
  have g53 : g3.2.1 543 53 = Int32.ofNat (L 53) := by rw [hN 53 (by omega), n53]
  have lb3 := h3.2.2.2.1
  generalize hT : mTell C (mCure C (mSmoke C lw (L 51) L C.2.1) C.2.1) = LT at *
  have eN : mUp (mUp LT 52 (min 999 (L 52 + 2 * mCured C (mN1 C lw L) C.2.1))) 53 (L 53 + 1) = mNight C lw L := by
    funext i
    unfold mNight mUp mN2 mN1
    rw [hT]
    (repeat' split) <;> first | rfl | (exfalso; omega)
  obtain ⟨z1, z2, z3, z4, z5, z6, z7, z8, z9⟩ := lb3
  have lbA : mLb (nb + 1) C (mUp LT 52 (min 999 (L 52 + 2 * mCured C (mN1 C lw L) C.2.1))) := by
    refine ⟨fun p hp => by rw [mUp_n (by omega)]; exact z1 p hp, fun i q1 q2 => by rw [mUp_n (by omega)]; exact z2 i q1 q2, fun c hc => by rw [mUp_n (by omega)]; exact z3 c hc, ?_⟩
    rw [mUp_n (by omega), mUp_n (by omega), mUp_n (by omega), mUp_n (by omega), mUp_e, mUp_n (by omega)]
    exact ⟨z4, z5, z6, z7, by omega, by omega⟩
  have lbB : mLb (nb + 1) C (mUp (mUp LT 52 (min 999 (L 52 + 2 * mCured C (mN1 C lw L) C.2.1))) 53 (L 53 + 1)) := by
    obtain ⟨y1, y2, y3, y4, y5, y6, y7, y8, y9⟩ := lbA
    refine ⟨fun p hp => by rw [mUp_n (by omega)]; exact y1 p hp, fun i q1 q2 => by rw [mUp_n (by omega)]; exact y2 i q1 q2, fun c hc => by rw [mUp_n (by omega)]; exact y3 c hc, ?_⟩
    rw [mUp_n (show 48 ≠ 53 by omega), mUp_n (show 49 ≠ 53 by omega), mUp_n (show 50 ≠ 53 by omega), mUp_n (show 51 ≠ 53 by omega), mUp_n (show 52 ≠ 53 by omega), mUp_e (i := 53)]
    exact ⟨y4, y5, y6, y7, y8, by omega⟩
  have h3' : vMs (nb + 1) C lw LT g3 := by
    obtain ⟨q1, q2, q3, q4, q5⟩ := h3
    exact ⟨q1, q2, hnb, ⟨z1, z2, z3, z4, z5, z6, z7, z8, by omega⟩, q5⟩
  have h4 := (h3'.up lbA).up lbB
  refine ⟨Int32.ofNat (mCured C (mN1 C lw L) C.2.1), _, ?_, h4.rw' eN, (f3.sI (Or.inr (Or.inl ⟨rfl, by omega⟩))).sI (Or.inr (Or.inl ⟨rfl, by omega⟩))⟩
  unfold f_X12_live
  simp only [ze1, zB, ze2', ze3']
  simp (disch := omega) only [g52, g53, qs_In, qi_lit, qi_mul, qi_add, qi_imin]
