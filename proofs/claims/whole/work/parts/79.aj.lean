/-! ===== both sides: a CLAUSE of the COAST, joined ===== -/
section AJ
variable {T : mTk} {i : Nat} {C : mC}
theorem rowPt {a o many : Nat} {D R : Nat → Nat} {g g' : zSg} (hin : ∀ k, k < many → g'.2.1 a (o + k) = Int32.ofNat (R k)) (hout : ∀ k, ¬ (o ≤ k ∧ k < o + many) → g'.2.1 a k = g.2.1 a k) {k : Nat} (hk : g.2.1 a k = Int32.ofNat (D k)) : g'.2.1 a k = Int32.ofNat (mPt D o many R k) := by
  by_cases q : o ≤ k ∧ k < o + many
  · have := hin (k - o) (by omega)
    rw [show o + (k - o) = k by omega] at this
    unfold mPt
    rw [if_pos q]
    exact this
  · rw [mPt_o q, hout k q]
    exact hk
theorem d_clauseS (hT : mTpOk T) (hD : mDk C) (hi : i ≤ T.1) (hA1 : mAt T (mSk T i) = 115) : ∃ ok P C', P ≤ T.1 ∧ (ok = true → i + 1 ≤ P ∧ mSk T P = P ∧ mDk C') ∧
    (∀ g, vTpX T g → g.2.1 1 2 = Int32.ofNat i → vDX C g → g.2.1 6 2 = mB false → ∃ g', f_X1_clause g = some (mB ok, g') ∧ g'.2.1 1 2 = Int32.ofNat P ∧ (ok = true → vDX C' g' ∧ g'.2.1 6 2 = mB true) ∧ qF sCX g g') ∧
    (∀ n g, vTpM T g → g.2.1 526 3 = Int32.ofNat i → g.2.1 526 4 = -1 → vDM C g → ∃ g', f_X12_readCoast_49 (n + 1) (mB false) 1 g = f_X12_readCoast_214 (f_X12_readCoast_49 n) (mB true) g' ∧ (ok = true → g'.2.1 526 4 = -1 ∧ g'.2.1 526 3 = Int32.ofNat P ∧ vDM C' g') ∧ (ok = false → vBad T P g') ∧ qF sCM g g') := by
  have h240 := hT.1
  have hjg := mSk_ge (T := T) (i := i)
  have hjT : mSk T i < T.1 := (mAt_in hT).mp (by omega)
  obtain ⟨ok, P, R, c1, c2, c3, c4, cX, cM⟩ := d_items (first := 0) (many := 5) (cl := 115) hT (Or.inl ⟨rfl, rfl, rfl⟩) hjT
  refine ⟨ok, P, (C.1, C.2.1, mPt C.2.2 0 5 R), c1, fun w => ⟨by omega, c4 w, hD.put0 c3⟩, ?_, ?_⟩
  · intro g h hp hd hr
    obtain ⟨g1, ze1, p1, f1⟩ := x_next hT h hp hi
    have F1 : qF sCX g (gsI g1 6 2 1) := (f1.mono (S' := sCX) fun a k w => Or.inl w).sI (Or.inr (Or.inl ⟨rfl, rfl⟩))
    have hv := h.fr F1 (by unfold sCX; omega) (fun k => by unfold sCX; omega)
    obtain ⟨g2, ze2, p2, r2, f2⟩ := cX 0 (gsI g1 6 2 1) (by omega) hv ((qs_In (by omega)).trans p1)
    have ze3 : f_X1_items 0 5 0 (gsI g1 6 2 1) = some (mB ok, g2) := ze2
    have F2 : qF sCX g g2 := F1.tr (f2.mono fun a k w => by unfold sIX at w; unfold sCX; omega)
    have out : ∀ a k, ¬ sIX 0 5 a k → ¬ sTX a k → ¬ (a = 6 ∧ k = 2) → g2.2.1 a k = g.2.1 a k := fun a k q1 q2 q3 => by rw [f2.2.1 _ _ q1, qs_In q3, f1.2.1 _ _ q2]
    refine ⟨g2, ?_, p2, fun w => ⟨⟨?_, ?_, fun k hk => ?_⟩, ?_⟩, F2⟩
    · unfold f_X1_clause
      rw [ze1, qB_s, hA1, if_neg (by decide), if_neg (by decide), if_pos (by decide), if_pos (show gI g1 6 2 = 0 from (f1.2.1 _ _ (by unfold sTX; omega)).trans hr), ze3, qB_s, mB_if]
    · exact (out 7 2 (by unfold sIX; omega) (by unfold sTX; omega) (by omega)).trans hd.1
    · exact (out 7 3 (by unfold sIX; omega) (by unfold sTX; omega) (by omega)).trans hd.2.1
    · exact rowPt (r2 w) (fun k q => out 9 k (by unfold sIX; omega) (by unfold sTX; omega) (by omega)) (hd.2.2 k hk)
    · exact (f2.2.1 _ _ (by unfold sIX; omega)).trans qs_Ie
  · intro n g h hp hw hd
    obtain ⟨g1, ze1, p1, f1⟩ := m_look hT h hp (by omega)
    have F1 : qF sCM g (gsI g1 526 3 (Int32.ofNat (mSk T i + 1))) := (f1.mono (S' := sCM) fun a k w => by unfold sCM; omega).sI (Or.inl ⟨rfl, Or.inl rfl⟩)
    have hv := h.fr F1 (by unfold sCM; omega) (fun k => by unfold sCM; omega)
    have e115 : mAtM T (mSk T i) = Int32.ofNat 115 := by rw [mAtM_eq hT (by omega) (by omega)]; exact hA1
    obtain ⟨g2, ze2, a1, a2, f2⟩ := cM 537 0 (gsI g1 526 3 (Int32.ofNat (mSk T i + 1))) (by decide) (by decide) (by omega) hv qs_Ie ((qs_In (by omega)).trans ((f1.2.1 _ _ (by omega)).trans hw))
    have ze3 : f_X12_items 537 115 0 5 (gsI g1 526 3 (Int32.ofNat (mSk T i + 1))) = some ((), g2) := ze2
    have F2 : qF sCM g g2 := F1.tr (f2.mono fun a k w => by unfold sIM at w; unfold sCM; omega)
    have out : ∀ a k, ¬ sIM 537 0 5 a k → g2.2.1 a k = g.2.1 a k := fun a k q1 => by
      rw [f2.2.1 _ _ q1]
      have : ¬ (a = 526 ∧ k = 3) := fun w => q1 (by unfold sIM; omega)
      rw [qs_In this, f1.2.1 _ _ this]
    refine ⟨g2, ?_, fun w => ⟨(a1 w).1, (a1 w).2.1, ?_, ?_, fun k hk => ?_, fun p k q1 q2 => ?_, fun c k q1 q2 => ?_⟩, a2, F2⟩
    · show fb_X12_readCoast_49 _ _ _ _ = _
      unfold fb_X12_readCoast_49
      rw [if_neg (by decide), if_neg (fun w => w hw), ze1, qB_s, e115, if_neg (by decide), if_neg (by decide), show gI g1 526 3 + 1 = Int32.ofNat (mSk T i + 1) by rw [show gI g1 526 3 = Int32.ofNat (mSk T i) from p1]; exact qi_add _ 1]
      show zB (f_X12_items 537 115 0 5 (gsI g1 526 3 (Int32.ofNat (mSk T i + 1)))) _ = _
      rw [ze3, qB_s]
      rfl
    · exact (out _ _ (by unfold sIM; omega)).trans hd.1
    · exact (out _ _ (by unfold sIM; omega)).trans hd.2.1
    · have := (a1 w).2.2 k hk
      rw [Nat.zero_add] at this
      show _ = Int32.ofNat (mPt C.2.2 0 5 R k)
      have e := mPt_i (D := C.2.2) (R := R) (o := 0) hk
      rw [Nat.zero_add] at e
      rw [e]
      exact this
    · show _ = Int32.ofNat (mPt C.2.2 0 5 R _)
      rw [mPt_o (by omega), out _ _ (by unfold sIM; omega)]
      exact hd.2.2.2.1 p k q1 q2
    · show _ = Int32.ofNat (mPt C.2.2 0 5 R _)
      rw [mPt_o (by omega), out _ _ (by unfold sIM; omega)]
      exact hd.2.2.2.2 c k q1 q2
theorem d_clauseP (hT : mTpOk T) (hD : mDk C) (hi : i ≤ T.1) (hA1 : mAt T (mSk T i) = 112) (hP : C.1 < 6) : ∃ ok P C', P ≤ T.1 ∧ (ok = true → i + 1 ≤ P ∧ mSk T P = P ∧ mDk C') ∧
    (∀ g x, vTpX T g → g.2.1 1 2 = Int32.ofNat i → vDX C g → g.2.1 6 2 = x → ∃ g', f_X1_clause g = some (mB ok, g') ∧ g'.2.1 1 2 = Int32.ofNat P ∧ (ok = true → vDX C' g' ∧ g'.2.1 6 2 = x) ∧ qF sCX g g') ∧
    (∀ n x g, vTpM T g → g.2.1 526 3 = Int32.ofNat i → g.2.1 526 4 = -1 → vDM C g → ∃ g', f_X12_readCoast_49 (n + 1) x 1 g = f_X12_readCoast_214 (f_X12_readCoast_49 n) x g' ∧ (ok = true → g'.2.1 526 4 = -1 ∧ g'.2.1 526 3 = Int32.ofNat P ∧ vDM C' g') ∧ (ok = false → vBad T P g') ∧ qF sCM g g') := by
  have h240 := hT.1
  have hjg := mSk_ge (T := T) (i := i)
  have hjT : mSk T i < T.1 := (mAt_in hT).mp (by omega)
  obtain ⟨ok, P, R, c1, c2, c3, c4, cX, cM⟩ := d_items (first := 5) (many := 3) (cl := 112) hT (Or.inr (Or.inl ⟨rfl, rfl, rfl⟩)) hjT
  refine ⟨ok, P, (C.1 + 1, C.2.1, mPt C.2.2 (5 + 3 * C.1) 3 R), c1, fun w => ⟨by omega, c4 w, hD.putP hP c3⟩, ?_, ?_⟩
  · intro g x h hp hd hr
    obtain ⟨g1, ze1, p1, f1⟩ := x_next hT h hp hi
    have e72 : g1.2.1 7 2 = Int32.ofNat C.1 := (f1.2.1 _ _ (by unfold sTX; omega)).trans hd.1
    have F1 : qF sCX g (gsI g1 7 2 (Int32.ofNat (C.1 + 1))) := (f1.mono (S' := sCX) fun a k w => Or.inl w).sI (Or.inr (Or.inr (Or.inl ⟨rfl, Or.inr (Or.inl rfl)⟩)))
    have hv := h.fr F1 (by unfold sCX; omega) (fun k => by unfold sCX; omega)
    obtain ⟨g2, ze2, p2, r2, f2⟩ := cX (5 + 3 * C.1) (gsI g1 7 2 (Int32.ofNat (C.1 + 1))) (by omega) hv ((qs_In (by omega)).trans p1)
    have ze3 : f_X1_items 5 3 (Int32.ofNat (5 + 3 * C.1)) (gsI g1 7 2 (Int32.ofNat (C.1 + 1))) = some (mB ok, g2) := ze2
    have F2 : qF sCX g g2 := F1.tr (f2.mono fun a k w => by unfold sIX at w; unfold sCX; omega)
    have out : ∀ a k, ¬ sIX (5 + 3 * C.1) 3 a k → ¬ sTX a k → ¬ (a = 7 ∧ k = 2) → g2.2.1 a k = g.2.1 a k := fun a k q1 q2 q3 => by rw [f2.2.1 _ _ q1, qs_In q3, f1.2.1 _ _ q2]
    refine ⟨g2, ?_, p2, fun w => ⟨⟨?_, ?_, fun k hk => ?_⟩, ?_⟩, F2⟩
    · have ea : f_X0_addPerson 7 g1 = some (Int32.ofNat (5 + 3 * C.1), gsI g1 7 2 (Int32.ofNat (C.1 + 1))) := by
        unfold f_X0_addPerson
        rw [show gI g1 7 2 + 1 = Int32.ofNat (C.1 + 1) by rw [show gI g1 7 2 = Int32.ofNat C.1 from e72]; exact qi_add _ 1, show gI (gsI g1 7 2 (Int32.ofNat (C.1 + 1))) 7 2 = Int32.ofNat (C.1 + 1) from qs_Ie]
        rw [show (5 : Int32) + 3 * (Int32.ofNat (C.1 + 1) - 1) = Int32.ofNat (5 + 3 * C.1) by
          show Int32.ofNat 5 + Int32.ofNat 3 * (Int32.ofNat (C.1 + 1) - Int32.ofNat 1) = _
          rw [qi_sub (by omega), qi_mul, qi_add, Nat.add_sub_cancel]]
      unfold f_X1_clause f_X0_persons
      rw [ze1, qB_s, hA1, if_neg (by decide), if_pos (by decide), qB_s, show gI g1 7 2 = Int32.ofNat C.1 from e72, if_pos (show Int32.ofNat C.1 < (6 : Int32) by rw [show (6 : Int32) = Int32.ofNat 6 from rfl, qi_lt (by omega) (by omega)]; exact hP), ea, qB_s, ze3, qB_s, mB_if]
    · exact (f2.2.1 _ _ (by unfold sIX; omega)).trans qs_Ie
    · exact (out 7 3 (by unfold sIX; omega) (by unfold sTX; omega) (by omega)).trans hd.2.1
    · exact rowPt (r2 w) (fun k q => out 9 k (by unfold sIX; omega) (by unfold sTX; omega) (by omega)) (hd.2.2 k hk)
    · exact (out 6 2 (by unfold sIX; omega) (by unfold sTX; omega) (by omega)).trans hr
  · intro n x g h hp hw hd
    obtain ⟨g1, ze1, p1, f1⟩ := m_look hT h hp (by omega)
    have F1 : qF sCM g (gsI g1 526 3 (Int32.ofNat (mSk T i + 1))) := (f1.mono (S' := sCM) fun a k w => by unfold sCM; omega).sI (Or.inl ⟨rfl, Or.inl rfl⟩)
    have hv := h.fr F1 (by unfold sCM; omega) (fun k => by unfold sCM; omega)
    have e112 : mAtM T (mSk T i) = Int32.ofNat 112 := by rw [mAtM_eq hT (by omega) (by omega)]; exact hA1
    have e20 : g1.2.1 526 20 = Int32.ofNat C.1 := (f1.2.1 _ _ (by omega)).trans hd.1
    obtain ⟨g2, ze2, a1, a2, f2⟩ := cM 538 (3 * C.1) (gsI g1 526 3 (Int32.ofNat (mSk T i + 1))) (by show 3 * C.1 + 3 ≤ 18; omega) (by decide) (by omega) hv qs_Ie ((qs_In (by omega)).trans ((f1.2.1 _ _ (by omega)).trans hw))
    have ze3 : f_X12_items 538 112 (Int32.ofNat (3 * C.1)) 3 (gsI g1 526 3 (Int32.ofNat (mSk T i + 1))) = some ((), g2) := ze2
    have F2 : qF sCM g g2 := F1.tr (f2.mono fun a k w => by unfold sIM at w; unfold sCM; omega)
    have out : ∀ a k, ¬ sIM 538 (3 * C.1) 3 a k → g2.2.1 a k = g.2.1 a k := fun a k q1 => by
      rw [f2.2.1 _ _ q1]
      have : ¬ (a = 526 ∧ k = 3) := fun w => q1 (by unfold sIM; omega)
      rw [qs_In this, f1.2.1 _ _ this]
    have e20' : g2.2.1 526 20 = Int32.ofNat C.1 := (out _ _ (by unfold sIM; omega)).trans hd.1
    refine ⟨gsI g2 526 20 (Int32.ofNat (C.1 + 1)), ?_, fun w => ⟨(qs_In (by omega)).trans (a1 w).1, (qs_In (by omega)).trans (a1 w).2.1, qs_Ie, ?_, fun k hk => ?_, fun p k q1 q2 => ?_, fun c k q1 q2 => ?_⟩, fun w => ?_, F2.sI (Or.inl ⟨rfl, by omega⟩)⟩
    · show fb_X12_readCoast_49 _ _ _ _ = _
      unfold fb_X12_readCoast_49 f_X12_readCoast_102
      rw [if_neg (by decide), if_neg (fun w => w hw), ze1, qB_s, e112, if_pos (by decide), if_neg (by decide), show gI g1 526 20 = Int32.ofNat C.1 from e20, if_neg (show ¬ (6 : Int32) ≤ Int32.ofNat C.1 by rw [show (6 : Int32) = Int32.ofNat 6 from rfl, qi_le (by omega) (by omega)]; omega), show gI g1 526 3 + 1 = Int32.ofNat (mSk T i + 1) by rw [show gI g1 526 3 = Int32.ofNat (mSk T i) from p1]; exact qi_add _ 1]
      show zB (f_X12_items 538 112 (Int32.ofNat 3 * gI (gsI g1 526 3 (Int32.ofNat (mSk T i + 1))) 526 20) 3 (gsI g1 526 3 (Int32.ofNat (mSk T i + 1)))) _ = _
      rw [show gI (gsI g1 526 3 (Int32.ofNat (mSk T i + 1))) 526 20 = Int32.ofNat C.1 from (qs_In (by omega)).trans e20, qi_mul, ze3, qB_s, show gI g2 526 20 + 1 = Int32.ofNat (C.1 + 1) by rw [show gI g2 526 20 = Int32.ofNat C.1 from e20']; exact qi_add _ 1]
    · rw [qs_In (by omega)]
      exact (out _ _ (by unfold sIM; omega)).trans hd.2.1
    · show _ = Int32.ofNat (mPt C.2.2 (5 + 3 * C.1) 3 R _)
      rw [mPt_o (by omega), qs_In (by omega), out _ _ (by unfold sIM; omega)]
      exact hd.2.2.1 k hk
    · show _ = Int32.ofNat (mPt C.2.2 (5 + 3 * C.1) 3 R _)
      have q1 : p < C.1 + 1 := q1
      rw [qs_In (by omega)]
      by_cases e : p = C.1
      · subst e
        rw [mPt_i q2]
        exact (a1 w).2.2 k q2
      · rw [mPt_o (by omega), out _ _ (by unfold sIM; omega)]
        exact hd.2.2.2.1 p k (by omega) q2
    · show _ = Int32.ofNat (mPt C.2.2 (5 + 3 * C.1) 3 R _)
      rw [mPt_o (by omega), qs_In (by omega), out _ _ (by unfold sIM; omega)]
      exact hd.2.2.2.2 c k q1 q2
    · exact (a2 w).fr (S := fun a k => a = 526 ∧ k = 20) (qF.rfl'.sI ⟨rfl, rfl⟩) (by omega) (by omega)
theorem d_clauseC (hT : mTpOk T) (hD : mDk C) (hi : i ≤ T.1) (hA1 : mAt T (mSk T i) = 99) (hP : C.2.1 < 6) : ∃ ok P C', P ≤ T.1 ∧ (ok = true → i + 1 ≤ P ∧ mSk T P = P ∧ mDk C') ∧
    (∀ g x, vTpX T g → g.2.1 1 2 = Int32.ofNat i → vDX C g → g.2.1 6 2 = x → ∃ g', f_X1_clause g = some (mB ok, g') ∧ g'.2.1 1 2 = Int32.ofNat P ∧ (ok = true → vDX C' g' ∧ g'.2.1 6 2 = x) ∧ qF sCX g g') ∧
    (∀ n x g, vTpM T g → g.2.1 526 3 = Int32.ofNat i → g.2.1 526 4 = -1 → vDM C g → ∃ g', f_X12_readCoast_49 (n + 1) x 1 g = f_X12_readCoast_214 (f_X12_readCoast_49 n) x g' ∧ (ok = true → g'.2.1 526 4 = -1 ∧ g'.2.1 526 3 = Int32.ofNat P ∧ vDM C' g') ∧ (ok = false → vBad T P g') ∧ qF sCM g g') := by
  have h240 := hT.1
  have hjg := mSk_ge (T := T) (i := i)
  have hjT : mSk T i < T.1 := (mAt_in hT).mp (by omega)
  have hP6 := hD.1
  obtain ⟨ok, P, R, c1, c2, c3, c4, cX, cM⟩ := d_items (first := 8) (many := 4) (cl := 99) hT (Or.inr (Or.inr ⟨rfl, rfl, rfl⟩)) hjT
  refine ⟨ok, P, (C.1, C.2.1 + 1, mPt C.2.2 (23 + 4 * C.2.1) 4 R), c1, fun w => ⟨by omega, c4 w, hD.putS hP c3⟩, ?_, ?_⟩
  · intro g x h hp hd hr
    obtain ⟨g1, ze1, p1, f1⟩ := x_next hT h hp hi
    have e72 : g1.2.1 7 3 = Int32.ofNat C.2.1 := (f1.2.1 _ _ (by unfold sTX; omega)).trans hd.2.1
    have F1 : qF sCX g (gsI g1 7 3 (Int32.ofNat (C.2.1 + 1))) := (f1.mono (S' := sCX) fun a k w => Or.inl w).sI (Or.inr (Or.inr (Or.inl ⟨rfl, Or.inr (Or.inr rfl)⟩)))
    have hv := h.fr F1 (by unfold sCX; omega) (fun k => by unfold sCX; omega)
    obtain ⟨g2, ze2, p2, r2, f2⟩ := cX (23 + 4 * C.2.1) (gsI g1 7 3 (Int32.ofNat (C.2.1 + 1))) (by omega) hv ((qs_In (by omega)).trans p1)
    have ze3 : f_X1_items 8 4 (Int32.ofNat (23 + 4 * C.2.1)) (gsI g1 7 3 (Int32.ofNat (C.2.1 + 1))) = some (mB ok, g2) := ze2
    have F2 : qF sCX g g2 := F1.tr (f2.mono fun a k w => by unfold sIX at w; unfold sCX; omega)
    have out : ∀ a k, ¬ sIX (23 + 4 * C.2.1) 4 a k → ¬ sTX a k → ¬ (a = 7 ∧ k = 3) → g2.2.1 a k = g.2.1 a k := fun a k q1 q2 q3 => by rw [f2.2.1 _ _ q1, qs_In q3, f1.2.1 _ _ q2]
    refine ⟨g2, ?_, p2, fun w => ⟨⟨?_, ?_, fun k hk => ?_⟩, ?_⟩, F2⟩
    · have ea : f_X0_addSecret 7 g1 = some (Int32.ofNat (23 + 4 * C.2.1), gsI g1 7 3 (Int32.ofNat (C.2.1 + 1))) := by
        unfold f_X0_addSecret
        rw [show gI g1 7 3 + 1 = Int32.ofNat (C.2.1 + 1) by rw [show gI g1 7 3 = Int32.ofNat C.2.1 from e72]; exact qi_add _ 1, show gI (gsI g1 7 3 (Int32.ofNat (C.2.1 + 1))) 7 3 = Int32.ofNat (C.2.1 + 1) from qs_Ie]
        rw [show (23 : Int32) + 4 * (Int32.ofNat (C.2.1 + 1) - 1) = Int32.ofNat (23 + 4 * C.2.1) by
          show Int32.ofNat 23 + Int32.ofNat 4 * (Int32.ofNat (C.2.1 + 1) - Int32.ofNat 1) = _
          rw [qi_sub (by omega), qi_mul, qi_add, Nat.add_sub_cancel]]
      unfold f_X1_clause f_X0_secrets
      rw [ze1, qB_s, hA1, if_pos (by decide), qB_s, show gI g1 7 3 = Int32.ofNat C.2.1 from e72, if_pos (show Int32.ofNat C.2.1 < (6 : Int32) by rw [show (6 : Int32) = Int32.ofNat 6 from rfl, qi_lt (by omega) (by omega)]; exact hP), ea, qB_s, ze3, qB_s, mB_if]
    · exact (out 7 2 (by unfold sIX; omega) (by unfold sTX; omega) (by omega)).trans hd.1
    · exact (f2.2.1 _ _ (by unfold sIX; omega)).trans qs_Ie
    · exact rowPt (r2 w) (fun k q => out 9 k (by unfold sIX; omega) (by unfold sTX; omega) (by omega)) (hd.2.2 k hk)
    · exact (out 6 2 (by unfold sIX; omega) (by unfold sTX; omega) (by omega)).trans hr
  · intro n x g h hp hw hd
    obtain ⟨g1, ze1, p1, f1⟩ := m_look hT h hp (by omega)
    have F1 : qF sCM g (gsI g1 526 3 (Int32.ofNat (mSk T i + 1))) := (f1.mono (S' := sCM) fun a k w => by unfold sCM; omega).sI (Or.inl ⟨rfl, Or.inl rfl⟩)
    have hv := h.fr F1 (by unfold sCM; omega) (fun k => by unfold sCM; omega)
    have e112 : mAtM T (mSk T i) = Int32.ofNat 99 := by rw [mAtM_eq hT (by omega) (by omega)]; exact hA1
    have e20 : g1.2.1 526 21 = Int32.ofNat C.2.1 := (f1.2.1 _ _ (by omega)).trans hd.2.1
    obtain ⟨g2, ze2, a1, a2, f2⟩ := cM 539 (4 * C.2.1) (gsI g1 526 3 (Int32.ofNat (mSk T i + 1))) (by show 4 * C.2.1 + 4 ≤ 24; omega) (by decide) (by omega) hv qs_Ie ((qs_In (by omega)).trans ((f1.2.1 _ _ (by omega)).trans hw))
    have ze3 : f_X12_items 539 99 (Int32.ofNat (4 * C.2.1)) 4 (gsI g1 526 3 (Int32.ofNat (mSk T i + 1))) = some ((), g2) := ze2
    have F2 : qF sCM g g2 := F1.tr (f2.mono fun a k w => by unfold sIM at w; unfold sCM; omega)
    have out : ∀ a k, ¬ sIM 539 (4 * C.2.1) 4 a k → g2.2.1 a k = g.2.1 a k := fun a k q1 => by
      rw [f2.2.1 _ _ q1]
      have : ¬ (a = 526 ∧ k = 3) := fun w => q1 (by unfold sIM; omega)
      rw [qs_In this, f1.2.1 _ _ this]
    have e20' : g2.2.1 526 21 = Int32.ofNat C.2.1 := (out _ _ (by unfold sIM; omega)).trans hd.2.1
    refine ⟨gsI g2 526 21 (Int32.ofNat (C.2.1 + 1)), ?_, fun w => ⟨(qs_In (by omega)).trans (a1 w).1, (qs_In (by omega)).trans (a1 w).2.1, ?_, qs_Ie, fun k hk => ?_, fun p k q1 q2 => ?_, fun c k q1 q2 => ?_⟩, fun w => ?_, F2.sI (Or.inl ⟨rfl, by omega⟩)⟩
    · show fb_X12_readCoast_49 _ _ _ _ = _
      unfold fb_X12_readCoast_49 f_X12_readCoast_102 f_X12_readCoast_156
      rw [if_neg (by decide), if_neg (fun w => w hw), ze1, qB_s, e112, if_pos (by decide), if_pos (by decide), if_neg (by decide), show gI g1 526 21 = Int32.ofNat C.2.1 from e20, if_neg (show ¬ (6 : Int32) ≤ Int32.ofNat C.2.1 by rw [show (6 : Int32) = Int32.ofNat 6 from rfl, qi_le (by omega) (by omega)]; omega), show gI g1 526 3 + 1 = Int32.ofNat (mSk T i + 1) by rw [show gI g1 526 3 = Int32.ofNat (mSk T i) from p1]; exact qi_add _ 1]
      show zB (f_X12_items 539 99 (Int32.ofNat 4 * gI (gsI g1 526 3 (Int32.ofNat (mSk T i + 1))) 526 21) 4 (gsI g1 526 3 (Int32.ofNat (mSk T i + 1)))) _ = _
      rw [show gI (gsI g1 526 3 (Int32.ofNat (mSk T i + 1))) 526 21 = Int32.ofNat C.2.1 from (qs_In (by omega)).trans e20, qi_mul, ze3, qB_s, show gI g2 526 21 + 1 = Int32.ofNat (C.2.1 + 1) by rw [show gI g2 526 21 = Int32.ofNat C.2.1 from e20']; exact qi_add _ 1]
    · rw [qs_In (by omega)]
      exact (out _ _ (by unfold sIM; omega)).trans hd.1
    · show _ = Int32.ofNat (mPt C.2.2 (23 + 4 * C.2.1) 4 R _)
      rw [mPt_o (by omega), qs_In (by omega), out _ _ (by unfold sIM; omega)]
      exact hd.2.2.1 k hk
    · show _ = Int32.ofNat (mPt C.2.2 (23 + 4 * C.2.1) 4 R _)
      have q1 : p < C.1 := q1
      rw [mPt_o (by omega), qs_In (by omega), out _ _ (by unfold sIM; omega)]
      exact hd.2.2.2.1 p k q1 q2
    · show _ = Int32.ofNat (mPt C.2.2 (23 + 4 * C.2.1) 4 R _)
      have q1 : c < C.2.1 + 1 := q1
      rw [qs_In (by omega)]
      by_cases e : c = C.2.1
      · subst e
        rw [mPt_i q2]
        exact (a1 w).2.2 k q2
      · rw [mPt_o (by omega), out _ _ (by unfold sIM; omega)]
        exact hd.2.2.2.2 c k (by omega) q2
    · exact (a2 w).fr (S := fun a k => a = 526 ∧ k = 21) (qF.rfl'.sI ⟨rfl, rfl⟩) (by omega) (by omega)
theorem d_clause (hT : mTpOk T) (hD : mDk C) (hi : i ≤ T.1) (rl : Bool) : ∃ ok P C' rl', P ≤ T.1 ∧ (ok = true → i + 1 ≤ P ∧ mSk T P = P ∧ mDk C') ∧
    (∀ g, vTpX T g → g.2.1 1 2 = Int32.ofNat i → vDX C g → g.2.1 6 2 = mB rl → ∃ g', f_X1_clause g = some (mB ok, g') ∧ g'.2.1 1 2 = Int32.ofNat P ∧ (ok = true → vDX C' g' ∧ g'.2.1 6 2 = mB rl') ∧ qF sCX g g') ∧
    (∀ n g, vTpM T g → g.2.1 526 3 = Int32.ofNat i → g.2.1 526 4 = -1 → vDM C g → ∃ g', f_X12_readCoast_49 (n + 1) (mB rl) 1 g = f_X12_readCoast_214 (f_X12_readCoast_49 n) (mB rl') g' ∧ (ok = true → g'.2.1 526 4 = -1 ∧ g'.2.1 526 3 = Int32.ofNat P ∧ vDM C' g') ∧ (ok = false → vBad T P g') ∧ qF sCM g g') := by
  have h240 := hT.1
  have hP6 := hD.1
  have hS6 := hD.2.1
  have hjl := mSk_le (T := T) hi
  by_cases hA : mAt T (mSk T i) = 115 ∧ rl = false
  · obtain ⟨hA, rfl⟩ := hA
    obtain ⟨ok, P, C', c1, c2, cX, cM⟩ := d_clauseS hT hD hi hA
    exact ⟨ok, P, C', true, c1, c2, cX, cM⟩
  by_cases hB : mAt T (mSk T i) = 112 ∧ C.1 < 6
  · obtain ⟨ok, P, C', c1, c2, cX, cM⟩ := d_clauseP hT hD hi hB.1 hB.2
    exact ⟨ok, P, C', rl, c1, c2, fun g => cX g (mB rl), fun n => cM n (mB rl)⟩
  by_cases hE : mAt T (mSk T i) = 99 ∧ C.2.1 < 6
  · obtain ⟨ok, P, C', c1, c2, cX, cM⟩ := d_clauseC hT hD hi hE.1 hE.2
    exact ⟨ok, P, C', rl, c1, c2, fun g => cX g (mB rl), fun n => cM n (mB rl)⟩
  have hlt := mAt_lt (i := mSk T i) hT
  refine ⟨false, mSk T i, C, rl, hjl, fun w => (by cases w), ?_, ?_⟩
  · intro g h hp hd hr
    obtain ⟨g1, ze1, p1, f1⟩ := x_next hT h hp hi
    refine ⟨g1, ?_, p1, fun w => (by cases w), f1.mono fun a k w => Or.inl w⟩
    have e2 : gI g1 7 2 = Int32.ofNat C.1 := (f1.2.1 _ _ (by unfold sTX; omega)).trans hd.1
    have e3 : gI g1 7 3 = Int32.ofNat C.2.1 := (f1.2.1 _ _ (by unfold sTX; omega)).trans hd.2.1
    have e6 : gI g1 6 2 = mB rl := (f1.2.1 _ _ (by unfold sTX; omega)).trans hr
    unfold f_X1_clause f_X0_secrets f_X0_persons
    rw [ze1, qB_s]
    generalize mAt T (mSk T i) = c at *
    by_cases q1 : c = 99
    · subst q1
      rw [if_pos (by decide), qB_s, e3, if_neg (show ¬ Int32.ofNat C.2.1 < (6 : Int32) by rw [show (6 : Int32) = Int32.ofNat 6 from rfl, qi_lt (by omega) (by omega)]; omega)]
      rfl
    by_cases q2 : c = 112
    · subst q2
      rw [if_neg (by decide), if_pos (by decide), qB_s, e2, if_neg (show ¬ Int32.ofNat C.1 < (6 : Int32) by rw [show (6 : Int32) = Int32.ofNat 6 from rfl, qi_lt (by omega) (by omega)]; omega)]
      rfl
    rw [if_neg (show ¬ Int32.ofNat c = (99 : Int32) from q_ne (d := 99) (by omega) (by omega) q1), if_neg (show ¬ Int32.ofNat c = (112 : Int32) from q_ne (d := 112) (by omega) (by omega) q2)]
    by_cases q3 : c = 115
    · subst q3
      have : rl = true := by cases rl with | true => rfl | false => exact absurd ⟨rfl, rfl⟩ hA
      subst this
      rw [if_pos (by decide), e6, if_neg (by decide)]
      rfl
    · rw [if_neg (show ¬ Int32.ofNat c = (115 : Int32) from q_ne (d := 115) (by omega) (by omega) q3)]
      rfl
  · intro n g h hp hw hd
    obtain ⟨g1, ze1, p1, f1⟩ := m_look hT h hp (by omega)
    have e2 : gI g1 526 20 = Int32.ofNat C.1 := (f1.2.1 _ _ (by omega)).trans hd.1
    have e3 : gI g1 526 21 = Int32.ofNat C.2.1 := (f1.2.1 _ _ (by omega)).trans hd.2.1
    have ew : g1.2.1 526 4 = -1 := (f1.2.1 _ _ (by omega)).trans hw
    have k1 : ∀ y3 : Int32, (y3 = 99 → ¬ C.2.1 < 6) → f_X12_readCoast_156 (f_X12_readCoast_49 n) (mB rl) y3 g1 = f_X12_readCoast_210 (f_X12_readCoast_49 n) (mB rl) g1 := fun y3 hy => by
      unfold f_X12_readCoast_156
      by_cases q : y3 = 99
      · rw [if_neg (fun w => w q), e3, if_pos (show (6 : Int32) ≤ Int32.ofNat C.2.1 by rw [show (6 : Int32) = Int32.ofNat 6 from rfl, qi_le (by omega) (by omega)]; have := hy q; omega)]
      · rw [if_pos q]
    have k2 : ∀ y3 : Int32, (y3 = 99 → ¬ C.2.1 < 6) → (y3 = 112 → ¬ C.1 < 6) → f_X12_readCoast_102 (f_X12_readCoast_49 n) (mB rl) y3 g1 = f_X12_readCoast_210 (f_X12_readCoast_49 n) (mB rl) g1 := fun y3 hy hy2 => by
      unfold f_X12_readCoast_102
      by_cases q : y3 = 112
      · rw [if_neg (fun w => w q), e2, if_pos (show (6 : Int32) ≤ Int32.ofNat C.1 by rw [show (6 : Int32) = Int32.ofNat 6 from rfl, qi_le (by omega) (by omega)]; have := hy2 q; omega), k1 y3 hy]
      · rw [if_pos q, k1 y3 hy]
    have k3 := k2 (mAtM T (mSk T i)) (fun w => by
      have w : mAtM T (mSk T i) = Int32.ofNat 99 := w
      rw [mAtM_eq hT (by omega) (by omega)] at w
      exact fun q => hE ⟨w, q⟩) (fun w => by
      have w : mAtM T (mSk T i) = Int32.ofNat 112 := w
      rw [mAtM_eq hT (by omega) (by omega)] at w
      exact fun q => hB ⟨w, q⟩)
    refine ⟨gsI g1 526 4 (Int32.ofNat (mSk T i)), ?_, fun w => (by cases w), fun _ => Or.inl qs_Ie, (f1.mono fun a k w => by unfold sCM; omega).sI (Or.inl ⟨rfl, by omega⟩)⟩
    have k4 : f_X12_readCoast_210 (f_X12_readCoast_49 n) (mB rl) g1 = f_X12_readCoast_214 (f_X12_readCoast_49 n) (mB rl) (gsI g1 526 4 (Int32.ofNat (mSk T i))) := by
      unfold f_X12_readCoast_210
      rw [m_bad ew p1, qB_s]
    show fb_X12_readCoast_49 _ _ _ _ = _
    unfold fb_X12_readCoast_49
    rw [if_neg (by decide), if_neg (fun w => w hw), ze1, qB_s]
    by_cases q : mAtM T (mSk T i) = 115
    · rw [if_neg (fun w => w q)]
      have q2 : mAtM T (mSk T i) = Int32.ofNat 115 := q
      rw [mAtM_eq hT (by omega) (by omega)] at q2
      have : rl = true := by cases rl with | true => rfl | false => exact absurd ⟨q2, rfl⟩ hA
      rw [if_pos (show ¬ mB rl = 0 by rw [this]; decide), k3, k4]
    · rw [if_pos q, k3, k4]
end AJ
