/-! ===== the reference: a NIGHT ===== -/
def sM (a k : Nat) : Prop := sV a k ∨ (a = 543 ∧ k < 54) ∨ a = 545
theorem sM_V {a k : Nat} (h : sV a k) : sM a k := Or.inl h
theorem vMs.up {nb : Nat} {C : mC} {lw : mLaw} {L : mL} {g : zSg} {i v : Nat} (h : vMs nb C lw L g) (hl : mLb nb C (mUp L i v)) : vMs nb C lw (mUp L i v) (gsI g 543 i (Int32.ofNat v)) := by
  obtain ⟨h1, h2, h3, -, h5, h6, h7⟩ := h
  have f : qF (fun a _ => a = 543) g (gsI g 543 i (Int32.ofNat v)) := qF.rfl'.sI rfl
  exact ⟨h1, h2, h3, hl, h5.fr f (fun k => by omega) (fun k => by omega) (fun k => by omega) (fun k _ _ => by omega), h6.fr f (by omega) (fun b k q1 q2 => by omega), h7.up⟩
theorem vMs.rw' {nb : Nat} {C : mC} {lw : mLaw} {L L' : mL} {g : zSg} (h : vMs nb C lw L g) (e : L = L') : vMs nb C lw L' g := e ▸ h
theorem mSmk_m {C : mC} {lw : mLaw} {o c : Nat} {L : mL} (hc : c < 6) (hP : C.1 ≤ 6) (hh : (L 48).testBit c = true) (ho : 0 < L 51) : mSmk C lw o c L = mUp (mSmP C lw o c (mUp L 51 (L 51 - 1)) C.1) (42 + c) (L (42 + c) + 1) := by
  have hb : ((L 48).testBit c && decide (0 < L 51)) = true := by rw [hh, decide_eq_true ho]; rfl
  funext i
  unfold mSmk
  rw [if_pos hb]
  by_cases h1 : i = 51
  · subst h1
    rw [mUp_n (by omega), mSmP_n (by omega), mUp_e]
    rfl
  · rw [if_neg h1]
    by_cases h2 : i = 42 + c
    · subst h2
      rw [if_pos rfl, mUp_e]
    · rw [if_neg h2, mUp_n h2]
      unfold mSmP
      by_cases h3 : 6 ≤ i ∧ i < 42 ∧ (i - 6) % 6 = c ∧ (i - 6) / 6 < C.1
      · rw [if_pos h3, if_pos h3, mUp51_str hc, mUp_n h1, mUp_n (by omega)]
      · rw [if_neg h3, if_neg h3, mUp_n h1]
theorem m_smoke_in {nb o c : Nat} {C : mC} {lw : mLaw} {L : mL} {k10 : Int32 → Int32 → zSg → Option (Unit × zSg)} {g0 : zSg} {Q : Unit → zSg → Prop} (hc : c < C.2.1) (ho : o ≤ 999)
    (hL : mLb nb C L) (hk : ∀ g', vMs nb C lw (mSmP C lw o c L C.1) g' → qF sM g0 g' → qT (f_X12_smokeAll_83 k10 (Int32.ofNat o) (Int32.ofNat c) g') Q) :
    ∀ (r n p : Nat) (g : zSg), vMs nb C lw (mSmP C lw o c L p) g → qF sM g0 g → p + r = C.1 → r < n → qT (f_X12_smokeAll_49 k10 n (Int32.ofNat o) (Int32.ofNat c) (Int32.ofNat p) g) Q := by
  intro r
  induction r with
  | zero =>
    intro n p g h hf hp hn
    obtain ⟨m, rfl⟩ : ∃ m, n = m + 1 := ⟨n - 1, by omega⟩
    have hP6 := h.1.1
    have : p = C.1 := by omega
    subst this
    show qT (fb_X12_smokeAll_49 _ _ _ _ _ _) _
    unfold fb_X12_smokeAll_49
    simp (disch := omega) only [h.2.2.2.2.1.2.2.2.1, qi_le, if_pos (Nat.le_refl C.1)]
    exact hk g h hf
  | succ r ih =>
    intro n p g h hf hp hn
    obtain ⟨m, rfl⟩ : ∃ m, n = m + 1 := ⟨n - 1, by omega⟩
    have hP6 := h.1.1
    have hS6 := h.1.2.1
    have hN := h.N
    have hLp : mSmP C lw o c L p p = L p := mSmP_n (by omega)
    have hlc : L p < mCells C := hL.1 p (by omega)
    show qT (fb_X12_smokeAll_49 _ _ _ _ _ _) _
    unfold fb_X12_smokeAll_49
    simp (disch := omega) only [h.2.2.2.2.1.2.2.2.1, qi_le, if_neg (show ¬ C.1 ≤ p by omega), qi_lit, qi_add, Nat.zero_add, qi_zib, if_true, qi_ix, hN, hLp]
    obtain ⟨g1, ze1, f1⟩ := m_str h (c := c) (o := o) hc hlc (by omega)
    rw [mSmP_str] at ze1
    have h' := h.fr f1
    have hs9 : mStrL C lw L o c (L p) ≤ 9 := mStr_le
    have hold : mSmP C lw o c L p (6 + 6 * p + c) = L (6 + 6 * p + c) := mSmP_n (by omega)
    have hsp := mSmP_s (C := C) (lw := lw) (o := o) (c := c) (L := L) (p := p) (by omega) (by omega)
    have zb := m_breathe h'.mk (p := p) (c := c) (m := mStrL C lw L o c (L p)) (by omega) (by omega) (by omega)
    rw [hold] at zb
    simp only [ze1, zB, zb]
    have h2 := h'.up (i := 6 + 6 * p + c) (v := min 99 (L (6 + 6 * p + c) + mStrL C lw L o c (L p))) (by rw [← hsp]; exact mSmP_lb hP6 hL)
    rw [← hsp] at h2
    exact ih m (p + 1) _ h2 ((hf.tr (f1.mono fun a k q => sM_V q)).sI (Or.inr (Or.inl ⟨rfl, by omega⟩))) (by omega) (by omega)
theorem m_smoke_l {nb o : Nat} {C : mC} {lw : mLaw} {L : mL} {g0 : zSg} (hL : mLf nb C L) (ho : o ≤ 999) :
    ∀ (r n c : Nat) (g : zSg), vMs nb C lw (mSmoke C lw o L c) g → qF sM g0 g → c + r = C.2.1 → r < n → qT (f_X12_smokeAll_10 n (Int32.ofNat o) (Int32.ofNat c) g) (fun _ g' => vMs nb C lw (mSmoke C lw o L C.2.1) g' ∧ qF sM g0 g') := by
  intro r
  induction r with
  | zero =>
    intro n c g h hf hc hn
    obtain ⟨m, rfl⟩ : ∃ m, n = m + 1 := ⟨n - 1, by omega⟩
    have hS6 := h.1.2.1
    have : c = C.2.1 := by omega
    subst this
    show qT (fb_X12_smokeAll_10 _ _ _ _) _
    unfold fb_X12_smokeAll_10
    simp (disch := omega) only [h.2.2.2.2.1.2.2.2.2.1, qi_le, if_pos (Nat.le_refl C.2.1)]
    exact qT_r ⟨h, hf⟩
  | succ r ih =>
    intro n c g h hf hc hn
    obtain ⟨m, rfl⟩ : ∃ m, n = m + 1 := ⟨n - 1, by omega⟩
    have hC := h.1
    have hP6 := hC.1
    have hS6 := hC.2.1
    have hN := h.N
    have hlbc := mSmoke_lb (lw := lw) (o := o) (n := c) hC hL (by omega)
    have hlbs := mSmoke_lb (lw := lw) (o := o) (n := c + 1) hC hL (by omega)
    have h48 : mSmoke C lw o L c 48 = L 48 := mSmoke_n (by omega) (by omega)
    have h51 : mSmoke C lw o L c 51 ≤ 999 := hlbc.2.2.2.2.2.2.1
    have hl48 : L 48 < 64 := hL.1.2.2.2.1
    have g48 : g.2.1 543 48 = Int32.ofNat (L 48) := by rw [hN 48 (by omega), h48]
    have hstep : mSmoke C lw o L (c + 1) = mSmk C lw o c (mSmoke C lw o L c) := rfl
    show qT (fb_X12_smokeAll_10 _ _ _ _) _
    unfold fb_X12_smokeAll_10 f_X12_smokeAll_96
    simp (disch := omega) only [h.2.2.2.2.1.2.2.2.2.1, qi_le, if_neg (show ¬ C.2.1 ≤ c by omega), m_hangs g48, zB, qi_lit, mB_0, hN 51, qi_add]
    have skip : ¬ ((L 48).testBit c = true ∧ 0 < mSmoke C lw o L c 51) → qT (f_X12_smokeAll_10 m (Int32.ofNat o) (Int32.ofNat (c + 1)) g) (fun _ g' => vMs nb C lw (mSmoke C lw o L C.2.1) g' ∧ qF sM g0 g') := fun q =>
      ih m (c + 1) g (h.rw' (by rw [hstep]; exact (mSmk_f (by rw [h48]; exact q)).symm)) hf (by omega) (by omega)
    by_cases hh : (L 48).testBit c = false
    · rw [if_pos hh]
      exact skip (fun w => by rw [w.1] at hh; cases hh)
    · rw [if_neg hh]
      have hh' : (L 48).testBit c = true := by simpa using hh
      by_cases hq : mSmoke C lw o L c 51 ≤ 0
      · rw [if_pos hq]
        exact skip (fun w => by omega)
      · rw [if_neg hq]
        have hx := mSmk_m (C := C) (lw := lw) (o := o) (c := c) (L := mSmoke C lw o L c) (by omega) hP6 (by rw [h48]; exact hh') (by omega)
        have hsm : mSmoke C lw o L c (42 + c) = L (42 + c) := mSmoke_n (by omega) (by omega)
        have hlbm := mUp51_lb hP6 hlbc (v := mSmoke C lw o L c 51 - 1) (by omega)
        have hsm9 : L (42 + c) ≤ 9 := hL.1.2.2.1 c (by omega)
        rw [qi_sub (by omega)]
        refine m_smoke_in (L := mUp (mSmoke C lw o L c) 51 (mSmoke C lw o L c 51 - 1)) (g0 := g0) (by omega) ho hlbm (fun g' h' hf' => ?_) C.1 zFu 0 _ (by rw [mSmP_0]; exact h.up hlbm) (hf.sI (Or.inr (Or.inl ⟨rfl, by omega⟩))) (by omega) (by show _ < 1000000; omega)
        have hN' := h'.N
        have e42 : mSmP C lw o c (mUp (mSmoke C lw o L c) 51 (mSmoke C lw o L c 51 - 1)) C.1 (42 + c) = L (42 + c) := by rw [mSmP_n (by omega), mUp_n (by omega), hsm]
        unfold f_X12_smokeAll_83 f_X12_smokeAll_96
        simp (disch := omega) only [qi_lit, qi_add, qi_zib, if_true, qi_ix, hN', e42]
        rw [hsm, ← hstep] at hx
        exact ih m (c + 1) _ ((h'.up (i := 42 + c) (v := L (42 + c) + 1) (by rw [← hx]; exact hlbs)).rw' hx.symm) (hf'.sI (Or.inr (Or.inl ⟨rfl, by omega⟩))) (by omega) (by omega)
/-- who is CURED hangs: the reference asks just those -/
theorem mDue_hangs {nb : Nat} {C : mC} {lw : mLaw} {L : mL} {o c : Nat} (hC : mWf C) (hL : mLf nb C L) (hc : c < C.2.1) : mDue C (mSmoke C lw o L C.2.1) c = ((L 48).testBit c && decide (mHvy C c ≤ mSmoke C lw o L C.2.1 (42 + c))) := by
  have hS := hC.2.1
  have h49 : mSmoke C lw o L C.2.1 49 = L 49 := mSmoke_n hS (by omega)
  obtain ⟨h1, h2⟩ := hL.2.2 c hc
  unfold mDue
  rw [h49]
  cases hq : (L 48).testBit c
  · cases hz : (L 49).testBit c
    · have hlt := h2 hz
      have hk : ∀ n, n ≤ 6 → mSmoke C lw o L n (42 + c) = L (42 + c) := fun n hn => by
        induction n with
        | zero => rfl
        | succ n ih =>
          show mSmk C lw o n (mSmoke C lw o L n) (42 + c) = _
          by_cases hnc : n = c
          · subst hnc
            rw [mSmk_f (fun w => by rw [mSmoke_n (by omega) (by omega), hq] at w; exact Bool.noConfusion w.1), ih (by omega)]
          · rw [mSmk_n (by omega) (by omega) (by omega), ih (by omega)]
      rw [hk _ hS, decide_eq_false (by omega)]
      rfl
    · rfl
  · cases hz : (L 49).testBit c
    · rfl
    · have := h1 hz; rw [hq] at this; cases this
theorem mCure_48 {C : mC} {L : mL} {n c : Nat} (h : n ≤ c) : (mCure C L n 48).testBit c = (L 48).testBit c ∧ (mCure C L n 49).testBit c = (L 49).testBit c := by
  induction n with
  | zero => exact ⟨rfl, rfl⟩
  | succ n ih =>
    obtain ⟨i1, i2⟩ := ih (by omega)
    have hb : (1 <<< n : Nat).testBit c = false := by
      rw [Nat.one_shiftLeft, Nat.testBit_two_pow]
      exact decide_eq_false (by omega)
    refine ⟨?_, ?_⟩
    · show (mCur C n (mCure C L n) 48).testBit c = _
      unfold mCur
      split
      · show (mCure C L n 48 ^^^ (mCure C L n 48 &&& 1 <<< n)).testBit c = _
        rw [Nat.testBit_xor, Nat.testBit_and, hb, Bool.and_false, Bool.xor_false, i1]
      · exact i1
    · show (mCur C n (mCure C L n) 49).testBit c = _
      unfold mCur
      split
      · show (mCure C L n 49 ||| 1 <<< n).testBit c = _
        rw [Nat.testBit_or, hb, Bool.or_false, i2]
      · exact i2
theorem mDue_cure {C : mC} {L : mL} {c : Nat} (hc : c < 6) : mDue C (mCure C L c) c = mDue C L c := by
  unfold mDue
  rw [(mCure_48 (Nat.le_refl c)).2, mCure_n (by omega) (by omega)]
theorem m_cure_l {nb o : Nat} {C : mC} {lw : mLaw} {L : mL} {g0 : zSg} (hL : mLf nb C L) :
    ∀ (r n c : Nat) (g : zSg), vMs nb C lw (mCure C (mSmoke C lw o L C.2.1) c) g → qF sM g0 g → c + r = C.2.1 → r < n → ∃ g', f_X12_cureAll_4 n (Int32.ofNat (mCured C (mSmoke C lw o L C.2.1) c)) (Int32.ofNat c) g = some (Int32.ofNat (mCured C (mSmoke C lw o L C.2.1) C.2.1), g') ∧ vMs nb C lw (mCure C (mSmoke C lw o L C.2.1) C.2.1) g' ∧ qF sM g0 g' := by
  intro r
  induction r with
  | zero =>
    intro n c g h hf hc hn
    obtain ⟨m, rfl⟩ : ∃ m, n = m + 1 := ⟨n - 1, by omega⟩
    have hS6 := h.1.2.1
    have : c = C.2.1 := by omega
    subst this
    refine ⟨g, ?_, h, hf⟩
    show fb_X12_cureAll_4 _ _ _ _ = _
    unfold fb_X12_cureAll_4
    simp (disch := omega) only [h.2.2.2.2.1.2.2.2.2.1, qi_le, if_pos (Nat.le_refl C.2.1)]
  | succ r ih =>
    intro n c g h hf hc hn
    obtain ⟨m, rfl⟩ : ∃ m, n = m + 1 := ⟨n - 1, by omega⟩
    have hC := h.1
    have hP6 := hC.1
    have hS6 := hC.2.1
    have hN := h.N
    have hdue := mDue_hangs (lw := lw) (o := o) hC hL (c := c) (by omega)
    have hL48 : mSmoke C lw o L C.2.1 48 = L 48 := mSmoke_n hS6 (by omega)
    generalize hLS : mSmoke C lw o L C.2.1 = LS at *
    have hlb := h.2.2.2.1
    have h48 : mCure C LS c 48 < 64 := hlb.2.2.2.1
    have h49 : mCure C LS c 49 < 64 := hlb.2.2.2.2.1
    have hsm : mCure C LS c (42 + c) ≤ 9 := hlb.2.2.1 c (by omega)
    have hsm' : mCure C LS c (42 + c) = LS (42 + c) := mCure_n (by omega) (by omega)
    have hhv := hC.hvy (c := c) (by omega)
    have hcd := mCured_le (C := C) (L := LS) (n := c)
    have hb48 : (mCure C LS c 48).testBit c = (L 48).testBit c := by rw [(mCure_48 (Nat.le_refl c)).1, hL48]
    have hdc : mDue C (mCure C LS c) c = ((L 48).testBit c && decide (mHvy C c ≤ LS (42 + c))) := by rw [mDue_cure (by omega), hdue]
    have hstep : mCure C LS (c + 1) = mCur C c (mCure C LS c) := rfl
    have hstep2 : mCured C LS (c + 1) = mCured C LS c + (if mDue C (mCure C LS c) c then 1 else 0) := rfl
    have same : mDue C (mCure C LS c) c = false → ∃ g', f_X12_cureAll_4 m (Int32.ofNat (mCured C LS c)) (Int32.ofNat (c + 1)) g = some (Int32.ofNat (mCured C LS C.2.1), g') ∧ vMs nb C lw (mCure C LS C.2.1) g' ∧ qF sM g0 g' := fun q => by
      have ze1 : mCure C LS (c + 1) = mCure C LS c := by rw [hstep]; unfold mCur; rw [q]; rfl
      have ze2 : mCured C LS (c + 1) = mCured C LS c := by rw [hstep2, q]; rfl
      have := ih m (c + 1) g (h.rw' ze1.symm) hf (by omega) (by omega)
      rw [ze2] at this
      exact this
    show ∃ g', fb_X12_cureAll_4 _ _ _ _ = _ ∧ _
    unfold fb_X12_cureAll_4 f_X12_cureAll_69
    simp (disch := omega) only [h.2.2.2.2.1.2.2.2.2.1, qi_le, if_neg (show ¬ C.2.1 ≤ c by omega), m_hangs (hN 48 (by omega)), zB, qi_lit, mB_0, qi_add, qi_zib, if_true, hb48]
    by_cases hq : (L 48).testBit c = false
    · rw [if_pos hq]
      exact same (by rw [hdc, hq]; rfl)
    · rw [if_neg hq]
      have hq' : (L 48).testBit c = true := by simpa using hq
      have zh := m_hvy (g := g) h.2.2.2.2.1 hS6 (c := c) (by omega)
      rw [qi_lit] at zh
      simp (disch := omega) only [zh, zB, qi_ix, hN, hsm', qi_lt]
      by_cases hs : LS (42 + c) < mHvy C c
      · rw [if_pos hs]
        exact same (by rw [hdc, decide_eq_false (by omega), Bool.and_false])
      · rw [if_neg hs]
        have hd : mDue C (mCure C LS c) c = true := by rw [hdc, hq', decide_eq_true (by omega)]; rfl
        simp (disch := omega) only [hN, qs_In, qi_shl, qi_or, qi_andn]
        have ze1 : mCure C LS (c + 1) = mUp (mUp (mCure C LS c) 49 (mCure C LS c 49 ||| 1 <<< c)) 48 (mCure C LS c 48 ^^^ (mCure C LS c 48 &&& 1 <<< c)) := by
          rw [hstep]
          unfold mCur
          rw [hd]
          funext i
          simp only [if_true]
          unfold mUp
          (repeat' split) <;> first | rfl | (exfalso; omega)
        have ze2 : mCured C LS (c + 1) = mCured C LS c + 1 := by rw [hstep2, hd]; rfl
        have hlb1 : mLb nb C (mUp (mCure C LS c) 49 (mCure C LS c 49 ||| 1 <<< c)) := by
          obtain ⟨z1, z2, z3, z4, z5, z6⟩ := hlb
          refine ⟨fun p hp => by rw [mUp_n (by omega)]; exact z1 p hp, fun i q1 q2 => by rw [mUp_n (by omega)]; exact z2 i q1 q2, fun c hc => by rw [mUp_n (by omega)]; exact z3 c hc, by rw [mUp_n (by omega)]; exact z4, by rw [mUp_e]; exact q_or1_lt z5 (by omega), ?_⟩
          rw [mUp_n (by omega), mUp_n (by omega), mUp_n (by omega), mUp_n (by omega)]
          exact z6
        have h2 := (h.up (i := 49) (v := mCure C LS c 49 ||| 1 <<< c) hlb1).up (i := 48) (v := mCure C LS c 48 ^^^ (mCure C LS c 48 &&& 1 <<< c)) (by rw [← ze1, hstep]; exact mCur_lb (by omega) hP6 hlb)
        rw [← ze2]
        exact ih m (c + 1) _ (h2.rw' ze1.symm) ((hf.sI (Or.inr (Or.inl ⟨rfl, by omega⟩))).sI (Or.inr (Or.inl ⟨rfl, by omega⟩))) (by omega) (by omega)
