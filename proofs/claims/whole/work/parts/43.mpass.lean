/-! ===== the reference: a NIGHT with its LOG ===== -/
theorem m_log135 {q w c49 o : Nat} {g : zSg} (h54 : g.2.1 543 54 = Int32.ofNat q) (hq : q ≤ 59) (h49 : g.2.1 543 49 = Int32.ofNat c49) (hc : c49 < 64) (h51 : g.2.1 543 51 = Int32.ofNat o) : f_X12_passNight_135 (Int32.ofNat w) g = some ((), gsI (gsI (gsI (gsI g 543 (55 + 3 * q) (Int32.ofNat w)) 543 (55 + 3 * q + 1) (Int32.ofNat (mPop c49))) 543 (55 + 3 * q + 2) (Int32.ofNat o)) 543 54 (Int32.ofNat (q + 1))) := by
  unfold f_X12_passNight_135
  simp (disch := omega) only [h54, qi_lit, qi_mul, qi_add, qi_zib, if_true, qi_ix, q_pop, zB, qs_In, h49, qPop_eq, h51]
theorem m_log91 {w : Int32} {g0 : zSg} {Q : Unit → zSg → Prop} (hk : ∀ g', (∀ i, i < 177 → g'.2.1 543 (55 + i) = g0.2.1 543 (55 + i + 3)) → qF (fun b j => b = 543 ∧ 55 ≤ j) g0 g' → qT (f_X12_passNight_124 w g') Q) : ∀ (r n k : Nat) (g : zSg), k + r = 180 → 3 ≤ k → r < n → (∀ i, i + 3 < k → g.2.1 543 (55 + i) = g0.2.1 543 (55 + i + 3)) → (∀ i, k ≤ i + 3 → g.2.1 543 (55 + i) = g0.2.1 543 (55 + i)) → qF (fun b j => b = 543 ∧ 55 ≤ j) g0 g → qT (f_X12_passNight_91 n w (Int32.ofNat k) g) Q := by
  intro r
  induction r with
  | zero =>
    intro n k g hk2 hk3 hn hc hd hf
    obtain ⟨m, rfl⟩ : ∃ m, n = m + 1 := ⟨n - 1, by omega⟩
    show qT (fb_X12_passNight_91 _ _ _ _) _
    unfold fb_X12_passNight_91
    simp (disch := omega) only [qi_lit, qi_le, if_pos (show 180 ≤ k by omega)]
    exact hk g (fun i hi => hc i (by omega)) hf
  | succ r ih =>
    intro n k g hk2 hk3 hn hc hd hf
    obtain ⟨m, rfl⟩ : ∃ m, n = m + 1 := ⟨n - 1, by omega⟩
    show qT (fb_X12_passNight_91 _ _ _ _) _
    unfold fb_X12_passNight_91
    simp (disch := omega) only [qi_lit, qi_le, if_neg (show ¬ 180 ≤ k by omega), qi_add, qi_sub, qi_zib, if_true, qi_ix]
    refine ih m (k + 1) _ (by omega) (by omega) (by omega) (fun i hi => ?_) (fun i hi => ?_) (hf.sI ⟨rfl, by omega⟩)
    · by_cases q : i + 3 = k
      · rw [show 55 + i = 55 + k - 3 by omega, qs_Ie]
        exact (hd k (by omega)).trans (congrArg (g0.2.1 543) (by omega))
      · rw [qs_In (by omega)]
        exact hc i (by omega)
    · rw [qs_In (by omega)]
      exact hd i (by omega)
/-- a row more of the LOG -/
theorem m_log77 {L : mL} {n w : Nat} {E : Nat → Nat} {g : zSg} (h : vBlk 543 0 L n E g) (h49 : L 49 < 64) : ∃ g', f_X12_passNight_77 (Int32.ofNat w) g = some ((), g') ∧ vBlk 543 0 L (n + 1) (mLg E n w (mPop (L 49)) (L 51)) g' ∧ qF (fun a k => a = 543 ∧ 54 ≤ k) g g' := by
  obtain ⟨b1, b2, b3⟩ := h
  have c49 : g.2.1 543 49 = Int32.ofNat (L 49) := by have := b1 49 (by omega); rwa [Nat.zero_add] at this
  have c51 : g.2.1 543 51 = Int32.ofNat (L 51) := by have := b1 51 (by omega); rwa [Nat.zero_add] at this
  rw [Nat.zero_add] at b2
  have old : ∀ i, i ≠ 3 * n → i ≠ 3 * n + 1 → i ≠ 3 * n + 2 → mLg E n w (mPop (L 49)) (L 51) i = E i := fun i q1 q2 q3 => by
    unfold mLg
    rw [if_neg q1, if_neg q2, if_neg q3]
  have new0 : mLg E n w (mPop (L 49)) (L 51) (3 * n + 0) = w := if_pos rfl
  have new1 : mLg E n w (mPop (L 49)) (L 51) (3 * n + 1) = mPop (L 49) := by
    unfold mLg
    rw [if_neg (by omega), if_pos rfl]
  have new2 : mLg E n w (mPop (L 49)) (L 51) (3 * n + 2) = L 51 := by
    unfold mLg
    rw [if_neg (by omega), if_neg (by omega), if_pos rfl]
  -- with the rows at their places, the new one is written at q
  have fin : ∀ (g1 : zSg) (q : Nat), q ≤ 59 → q + 1 = min 60 (n + 1) → g1.2.1 543 54 = Int32.ofNat q → (∀ i, i < 54 → g1.2.1 543 i = Int32.ofNat (L i)) → (∀ j k, j < n → n + 1 ≤ j + 60 → k < 3 → g1.2.1 543 (55 + (3 * (j - (n + 1 - (q + 1))) + k)) = Int32.ofNat (E (3 * j + k))) → qF (fun a k => a = 543 ∧ 54 ≤ k) g g1 → ∃ g', f_X12_passNight_135 (Int32.ofNat w) g1 = some ((), g') ∧ vBlk 543 0 L (n + 1) (mLg E n w (mPop (L 49)) (L 51)) g' ∧ qF (fun a k => a = 543 ∧ 54 ≤ k) g g' := by
    intro g1 q hq hq2 h54 hL hE hf
    refine ⟨_, m_log135 h54 hq (hL 49 (by omega)) h49 (hL 51 (by omega)), ⟨fun i hi => ?_, ?_, fun j k q1 q2 q3 => ?_⟩, (((hf.sI ⟨rfl, by omega⟩).sI ⟨rfl, by omega⟩).sI ⟨rfl, by omega⟩).sI ⟨rfl, by omega⟩⟩
    · rw [Nat.zero_add, qs_In (by omega), qs_In (by omega), qs_In (by omega), qs_In (by omega)]
      exact hL i hi
    · rw [Nat.zero_add, qs_Ie, ← hq2]
    · rw [← hq2, Nat.zero_add, qs_In (by omega)]
      by_cases z : j = n
      · subst z
        rw [show j - (j + 1 - (q + 1)) = q by omega]
        rcases (show k = 0 ∨ k = 1 ∨ k = 2 by omega) with rfl | rfl | rfl
        · rw [qs_In (by omega), qs_In (by omega), show 55 + (3 * q + 0) = 55 + 3 * q by omega, qs_Ie, new0]
        · rw [qs_In (by omega), show 55 + (3 * q + 1) = 55 + 3 * q + 1 by omega, qs_Ie, new1]
        · rw [show 55 + (3 * q + 2) = 55 + 3 * q + 2 by omega, qs_Ie, new2]
      · rw [qs_In (by omega), qs_In (by omega), qs_In (by omega), hE j k (by omega) (by omega) q3, old _ (by omega) (by omega) (by omega)]
  unfold f_X12_passNight_77
  rw [show gI g 543 54 = Int32.ofNat (min 60 n) from b2]
  have hm : (Int32.ofNat (min 60 n) = 60) = (min 60 n = 60) := qi_inj (b := 60) (by omega) (by omega)
  by_cases q : min 60 n = 60
  · rw [if_neg (fun w' => w' (hm ▸ q))]
    obtain ⟨u, g2, ze, z⟩ : qT (f_X12_passNight_91 zFu (Int32.ofNat w) (Int32.ofNat 3) g) (fun _ g' => vBlk 543 0 L (n + 1) (mLg E n w (mPop (L 49)) (L 51)) g' ∧ qF (fun a k => a = 543 ∧ 54 ≤ k) g g') := by
      refine m_log91 (g0 := g) (fun g' hc hf => ?_) 177 zFu 3 g (by omega) (by omega) (by show _ < 1000000; omega) (fun i hi => by omega) (fun i hi => rfl) qF.rfl'
      unfold f_X12_passNight_124
      have e54 : g'.2.1 543 54 = Int32.ofNat 60 := by rw [hf.2.1 _ _ (by omega), b2, q]
      rw [show gI g' 543 54 - 1 = Int32.ofNat 59 from by show g'.2.1 543 54 - Int32.ofNat 1 = _; rw [e54]; rfl]
      obtain ⟨g3, ze3, hb3, hf3⟩ := fin (gsI g' 543 54 (Int32.ofNat 59)) 59 (by omega) (by omega) qs_Ie (fun i hi => by rw [qs_In (by omega), hf.2.1 _ _ (by omega)]; have := b1 i hi; rwa [Nat.zero_add] at this) (fun j k q1 q2 q3 => by
        rw [qs_In (by omega), hc _ (by omega)]
        have := b3 j k q1 (by omega) q3
        rw [Nat.zero_add, q] at this
        rw [← this]
        exact congrArg (g.2.1 543) (by omega)) ((hf.mono fun b k w' => ⟨w'.1, by omega⟩).sI ⟨rfl, by omega⟩)
      exact ⟨(), g3, ze3, hb3, hf3⟩
    exact ⟨g2, ze, z⟩
  · rw [if_pos (fun w' => q (hm ▸ w'))]
    refine fin g (min 60 n) (by omega) (by omega) b2 (fun i hi => by have := b1 i hi; rwa [Nat.zero_add] at this) (fun j k q1 q2 q3 => ?_) qF.rfl'
    have := b3 j k q1 (by omega) q3
    rw [Nat.zero_add] at this
    rw [← this]
    exact congrArg (g.2.1 543) (by omega)
def sMp (a k : Nat) : Prop := sV a k ∨ a = 543 ∨ a = 545 ∨ a = 546
theorem m_wiser_l {nb : Nat} {C : mC} {lw : mLaw} {L L' : mL} {g : zSg} {Q : Unit → zSg → Prop} (h : vMs nb C lw L' g) (hb : ∀ p, p < C.1 → g.2.1 546 p = Int32.ofNat (mKb C L p)) (hk : qT (f_X12_passNight_77 (Int32.ofNat (mWz C L L')) g) Q) : ∀ (r n p : Nat), p + r = C.1 → r < n → qT (f_X12_passNight_36 n (Int32.ofNat (mBits (fun p => decide (mKb C L' p ^^^ (mKb C L' p &&& mKb C L p) ≠ 0)) p)) (Int32.ofNat p) g) Q := by
  intro r
  have hC := h.1
  have hP6 := hC.1
  induction r with
  | zero =>
    intro n p hp hn
    obtain ⟨m, rfl⟩ : ∃ m, n = m + 1 := ⟨n - 1, by omega⟩
    have : p = C.1 := by omega
    subst this
    show qT (fb_X12_passNight_36 _ _ _ _) _
    unfold fb_X12_passNight_36
    simp (disch := omega) only [h.2.2.2.2.1.2.2.2.1, qi_le, if_pos (Nat.le_refl C.1)]
    exact hk
  | succ r ih =>
    intro n p hp hn
    obtain ⟨m, rfl⟩ : ∃ m, n = m + 1 := ⟨n - 1, by omega⟩
    have hlt : mKb C L' p ^^^ (mKb C L' p &&& mKb C L p) < 64 := q_andn_lt (mKb_lt hC)
    have := ih m (p + 1) (by omega) (by omega)
    unfold mBits at this
    show qT (fb_X12_passNight_36 _ _ _ _) _
    unfold fb_X12_passNight_36 f_X12_passNight_69
    simp (disch := omega) only [h.2.2.2.2.1.2.2.2.1, qi_le, if_neg (show ¬ C.1 ≤ p by omega), m_knownTo h.mk (show p < C.1 by omega), zB, qi_zib, if_true, qi_ix, hb p (show p < C.1 by omega), qi_lit, qi_andn, qi_inj, qi_add, qi_shl, qi_or]
    by_cases q : mKb C L' p ^^^ (mKb C L' p &&& mKb C L p) = 0
    · rw [if_pos q]
      rw [decide_eq_false (fun w => w q)] at this
      simpa using this
    · rw [if_neg q]
      rw [decide_eq_true q] at this
      simpa using this
theorem m_before_l {nb : Nat} {C : mC} {lw : mLaw} {L : mL} {g0 : zSg} {Q : Unit → zSg → Prop} (hk : ∀ g', vMs nb C lw L g' → (∀ p, p < C.1 → g'.2.1 546 p = Int32.ofNat (mKb C L p)) → qF (fun a _ => a = 546) g0 g' → qT (f_X12_passNight_27 g') Q) : ∀ (r n p : Nat) (g : zSg), vMs nb C lw L g → (∀ q, q < p → g.2.1 546 q = Int32.ofNat (mKb C L q)) → qF (fun a _ => a = 546) g0 g → p + r = C.1 → r < n → qT (f_X12_passNight_2 n (Int32.ofNat p) g) Q := by
  intro r
  induction r with
  | zero =>
    intro n p g h hb hf hp hn
    obtain ⟨m, rfl⟩ : ∃ m, n = m + 1 := ⟨n - 1, by omega⟩
    have hP6 := h.1.1
    show qT (fb_X12_passNight_2 _ _ _) _
    unfold fb_X12_passNight_2
    simp (disch := omega) only [h.2.2.2.2.1.2.2.2.1, qi_le, if_pos (show C.1 ≤ p by omega)]
    exact hk g h (fun q hq => hb q (by omega)) hf
  | succ r ih =>
    intro n p g h hb hf hp hn
    obtain ⟨m, rfl⟩ : ∃ m, n = m + 1 := ⟨n - 1, by omega⟩
    have hP6 := h.1.1
    show qT (fb_X12_passNight_2 _ _ _) _
    unfold fb_X12_passNight_2
    simp (disch := omega) only [h.2.2.2.2.1.2.2.2.1, qi_le, if_neg (show ¬ C.1 ≤ p by omega), m_knownTo h.mk (show p < C.1 by omega), zB, qi_zib, if_true, qi_ix, qi_lit, qi_add]
    have f : qF (fun a _ => a = 546) g (gsI g 546 p (Int32.ofNat (mKb C L p))) := qF.rfl'.sI rfl
    have h2 : vMs nb C lw L (gsI g 546 p (Int32.ofNat (mKb C L p))) := by
      obtain ⟨h1, h2, h3, h4, h5, h6, h7⟩ := h
      exact ⟨h1, h2, h3, h4, h5.fr f (fun k => by omega) (fun k => by omega) (fun k => by omega) (fun k _ _ => by omega), h6.fr f (by omega) (fun b k q1 q2 => by omega), h7.fr f (fun k _ => by omega)⟩
    refine ih m (p + 1) _ h2 (fun q hq => ?_) (hf.tr f) (by omega) (by omega)
    by_cases z : q = p
    · subst z; rw [qs_Ie]
    · rw [qs_In (by omega)]; exact hb q (by omega)
theorem m_passNight {nb n : Nat} {C : mC} {lw : mLaw} {L : mL} {E : Nat → Nat} {g : zSg} (hnb : nb + 1 ≤ 100000) (hL : mLf nb C L) (h : vMs nb C lw L g) (hB : vBlk 543 0 L n E g) :
    ∃ g', f_X12_passNight g = some ((), g') ∧ vMs (nb + 1) C lw (mNight C lw L) g' ∧ vBlk 543 0 (mNight C lw L) (n + 1) (mLg E n (mWz C L (mNight C lw L)) (mPop (mNight C lw L 49)) (mNight C lw L 51)) g' ∧ qF sMp g g' := by
  have hP6 := h.1.1
  have key : qT (f_X12_passNight_2 zFu (Int32.ofNat 0) g) (fun _ g' => vMs (nb + 1) C lw (mNight C lw L) g' ∧ vBlk 543 0 (mNight C lw L) (n + 1) (mLg E n (mWz C L (mNight C lw L)) (mPop (mNight C lw L 49)) (mNight C lw L 51)) g' ∧ qF sMp g g') := by
    refine m_before_l (g0 := g) (fun g1 h1 hb1 f1 => ?_) C.1 zFu 0 g h (fun q hq => by omega) qF.rfl' (by omega) (by show _ < 1000000; omega)
    obtain ⟨v, g2, ze2, h2, f2⟩ := m_live hnb hL h1
    unfold f_X12_passNight_27
    rw [ze2]
    show qT (f_X12_passNight_36 zFu (Int32.ofNat 0) (Int32.ofNat 0) g2) _
    have hb2 : ∀ p, p < C.1 → g2.2.1 546 p = Int32.ofNat (mKb C L p) := fun p hp => by rw [f2.2.1 _ _ (by unfold sM sV; omega)]; exact hb1 p hp
    have hB2 : vBlk 543 0 (mNight C lw L) n E g2 := by
      refine ⟨fun i hi => by rw [Nat.zero_add]; exact h2.2.2.2.2.2.2 i hi, ?_, fun j k q1 q2 q3 => ?_⟩
      · rw [f2.2.1 _ _ (by unfold sM sV; omega), f1.2.1 _ _ (by omega)]
        exact hB.2.1
      · rw [f2.2.1 _ _ (by unfold sM sV; omega), f1.2.1 _ _ (by omega)]
        exact hB.2.2 j k q1 q2 q3
    obtain ⟨g3, ze3, hB3, f3⟩ := m_log77 (w := mWz C L (mNight C lw L)) hB2 h2.2.2.2.1.2.2.2.2.1
    refine m_wiser_l (L := L) h2 hb2 ⟨(), g3, ze3, ?_, hB3, ?_⟩ C.1 zFu 0 (by omega) (by show _ < 1000000; omega)
    · obtain ⟨q1, q2, q3, q4, q5, q6, q7⟩ := h2
      exact ⟨q1, q2, q3, q4, q5.fr f3 (fun k => by omega) (fun k => by omega) (fun k => by omega) (fun k _ _ => by omega), q6.fr f3 (by omega) (fun b k z1 z2 => by omega), q7.fr f3 (fun k _ => by omega)⟩
    · refine ((f1.mono fun a k w => by unfold sMp; omega).tr (f2.mono fun a k w => ?_)).tr ?_
      · unfold sM at w; unfold sMp; rcases w with w | w | w
        · exact Or.inl w
        · exact Or.inr (Or.inl w.1)
        · exact Or.inr (Or.inr (Or.inl w))
      · exact f3.mono fun a k w => Or.inr (Or.inl w.1)
  obtain ⟨u, g', ze, z⟩ := key
  exact ⟨g', ze, z⟩
