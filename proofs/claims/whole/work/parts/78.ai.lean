/-! ===== both sides: a CLAUSE of the COAST ===== -/
def vDX (C : mC) (g : zSg) : Prop := g.2.1 7 2 = Int32.ofNat C.1 ∧ g.2.1 7 3 = Int32.ofNat C.2.1 ∧ ∀ k, k < 47 → g.2.1 9 k = Int32.ofNat (C.2.2 k)
def vDM (C : mC) (g : zSg) : Prop := g.2.1 526 20 = Int32.ofNat C.1 ∧ g.2.1 526 21 = Int32.ofNat C.2.1 ∧ (∀ k, k < 5 → g.2.1 537 k = Int32.ofNat (C.2.2 k)) ∧ (∀ p k, p < C.1 → k < 3 → g.2.1 538 (3 * p + k) = Int32.ofNat (C.2.2 (5 + 3 * p + k))) ∧ ∀ c k, c < C.2.1 → k < 4 → g.2.1 539 (4 * c + k) = Int32.ofNat (C.2.2 (23 + 4 * c + k))
def mDk (C : mC) : Prop := C.1 ≤ 6 ∧ C.2.1 ≤ 6 ∧ (∀ k, k < 47 → C.2.2 k ≤ 99) ∧ (∀ k, k < 5 → mItLo (0 + k) ≤ C.2.2 k ∧ C.2.2 k ≤ mItHi (0 + k)) ∧ (∀ p k, p < C.1 → k < 3 → mItLo (5 + k) ≤ C.2.2 (5 + 3 * p + k) ∧ C.2.2 (5 + 3 * p + k) ≤ mItHi (5 + k)) ∧ ∀ c k, c < C.2.1 → k < 4 → mItLo (8 + k) ≤ C.2.2 (23 + 4 * c + k) ∧ C.2.2 (23 + 4 * c + k) ≤ mItHi (8 + k)
def mPt (D : Nat → Nat) (o many : Nat) (R : Nat → Nat) : Nat → Nat := fun k => if o ≤ k ∧ k < o + many then R (k - o) else D k
theorem mPt_i {D R : Nat → Nat} {o many k : Nat} (h : k < many) : mPt D o many R (o + k) = R k := by
  unfold mPt
  rw [if_pos ⟨by omega, by omega⟩, show o + k - o = k by omega]
theorem mPt_o {D R : Nat → Nat} {o many k : Nat} (h : ¬ (o ≤ k ∧ k < o + many)) : mPt D o many R k = D k := if_neg h
def sCX (a k : Nat) : Prop := (a = 1 ∧ k = 2) ∨ (a = 6 ∧ k = 2) ∨ (a = 7 ∧ (k = 1 ∨ k = 2 ∨ k = 3)) ∨ a = 9
def sCM (a k : Nat) : Prop := (a = 526 ∧ (k = 3 ∨ k = 4 ∨ k = 20 ∨ k = 21)) ∨ a = 537 ∨ a = 538 ∨ a = 539
section AI
variable {T : mTk} {i : Nat} {g : zSg} {C : mC}
theorem x_fill {first many o : Nat} (hk : first + many ≤ 12) (ho : o + many ≤ 47) : ∃ g', f_X1_fillIn (Int32.ofNat first) (Int32.ofNat many) (Int32.ofNat o) g = some ((), g') ∧ (∀ k, k < many → g'.2.1 9 (o + k) = Int32.ofNat (mItU (first + k))) ∧ qF (fun a k => a = 9 ∧ o ≤ k ∧ k < o + many) g g' := by
  unfold f_X1_fillIn
  refine q_loop (F := fun m k g => f_X1_fillIn_3 m (Int32.ofNat first) (Int32.ofNat many) (Int32.ofNat o) (Int32.ofNat k) g) (N := many) (Inv := fun k g1 => (∀ q, q < k → g1.2.1 9 (o + q) = Int32.ofNat (mItU (first + q))) ∧ qF (fun a k => a = 9 ∧ o ≤ k ∧ k < o + many) g g1) (R := fun w => ∃ g', w = some ((), g') ∧ (∀ k, k < many → g'.2.1 9 (o + k) = Int32.ofNat (mItU (first + k))) ∧ qF (fun a k => a = 9 ∧ o ≤ k ∧ k < o + many) g g') (by omega) ?_ ?_ (s := 0) (by omega) ⟨fun q hq => by omega, qF.rfl'⟩
  · intro m g1 ⟨h1, f1⟩
    refine ⟨g1, ?_, h1, f1⟩
    show fb_X1_fillIn_3 _ _ _ _ _ g1 = _
    unfold fb_X1_fillIn_3
    rw [if_pos (show Int32.ofNat many ≤ Int32.ofNat many by rw [qi_le (by omega) (by omega)]; exact Nat.le_refl _)]
  · intro m k g1 hkm ⟨h1, f1⟩ ih
    show ∃ g', fb_X1_fillIn_3 _ _ _ _ _ g1 = _ ∧ _
    unfold fb_X1_fillIn_3
    rw [if_neg (show ¬ Int32.ofNat many ≤ Int32.ofNat k by rw [qi_le (by omega) (by omega)]; omega), qi_add, show (3 : Int32) = Int32.ofNat 3 from rfl, x_item (by omega) (by omega), qB_s, qi_add, q_set (a := 8) (n := 47) rfl (by decide) (by omega), qB_s, show Int32.ofNat k + 1 = Int32.ofNat (k + 1) from qi_add k 1]
    refine ih _ ⟨fun q hq => ?_, f1.sI ⟨rfl, by omega, by omega⟩⟩
    by_cases e : q = k
    · subst e; exact qs_Ie
    · rw [qs_In (by omega)]; exact h1 q (by omega)
theorem m_fill {first many cl b o : Nat} (hk : mKd first many cl) (ho : o + many ≤ (zK0 b).2) (hz : (zK0 b).2 ≤ 100) (hb : 530 ≤ b) : ∃ g', f_X12_items b (Int32.ofNat cl) (Int32.ofNat o) (Int32.ofNat many) g = f_X12_items_28 b (Int32.ofNat cl) (Int32.ofNat o) g' ∧ (∀ k, k < many → g'.2.1 b (o + k) = Int32.ofNat (mItU (first + k))) ∧ qF (fun a k => a = b ∧ o ≤ k ∧ k < o + many) g g' := by
  have hkb := hk.b
  unfold f_X12_items
  refine q_loop (F := fun m k g => f_X12_items_3 b m (Int32.ofNat cl) (Int32.ofNat o) (Int32.ofNat many) (Int32.ofNat k) g) (N := many) (Inv := fun k g1 => (∀ q, q < k → g1.2.1 b (o + q) = Int32.ofNat (mItU (first + q))) ∧ qF (fun a k => a = b ∧ o ≤ k ∧ k < o + many) g g1) (R := fun w => ∃ g', w = f_X12_items_28 b (Int32.ofNat cl) (Int32.ofNat o) g' ∧ (∀ k, k < many → g'.2.1 b (o + k) = Int32.ofNat (mItU (first + k))) ∧ qF (fun a k => a = b ∧ o ≤ k ∧ k < o + many) g g') (by omega) ?_ ?_ (s := 0) (by omega) ⟨fun q hq => by omega, qF.rfl'⟩
  · intro m g1 ⟨h1, f1⟩
    refine ⟨g1, ?_, h1, f1⟩
    show fb_X12_items_3 _ _ _ _ _ _ g1 = _
    unfold fb_X12_items_3
    rw [if_pos (show Int32.ofNat many ≤ Int32.ofNat many by rw [qi_le (by omega) (by omega)]; exact Nat.le_refl _)]
  · intro m k g1 hkm ⟨h1, f1⟩ ih
    show ∃ g', fb_X12_items_3 _ _ _ _ _ _ g1 = _ ∧ _
    unfold fb_X12_items_3
    rw [if_neg (show ¬ Int32.ofNat many ≤ Int32.ofNat k by rw [qi_le (by omega) (by omega)]; omega), m_usual hk hkm, qB_s, qi_add, if_pos (qi_zib (by omega) (by omega)), qi_ix (by omega), show Int32.ofNat k + 1 = Int32.ofNat (k + 1) from qi_add k 1]
    refine ih _ ⟨fun q hq => ?_, f1.sI ⟨rfl, by omega, by omega⟩⟩
    by_cases e : q = k
    · subst e; exact qs_Ie
    · rw [qs_In (by omega)]; exact h1 q (by omega)
theorem d_items {first many cl : Nat} (hT : mTpOk T) (hk : mKd first many cl) (hi : i < T.1) : ∃ ok P R, P ≤ T.1 ∧ i + 1 ≤ P ∧ mRk first many R ∧ (ok = true → mSk T P = P) ∧
    (∀ o g, o + many ≤ 47 → vTpX T g → g.2.1 1 2 = Int32.ofNat i → ∃ g', f_X1_items (Int32.ofNat first) (Int32.ofNat many) (Int32.ofNat o) g = some (mB ok, g') ∧ g'.2.1 1 2 = Int32.ofNat P ∧ (ok = true → ∀ k, k < many → g'.2.1 9 (o + k) = Int32.ofNat (R k)) ∧ qF (sIX o many) g g') ∧
    (∀ b o g, o + many ≤ (zK0 b).2 → (zK0 b).2 ≤ 100 → 530 ≤ b → vTpM T g → g.2.1 526 3 = Int32.ofNat (i + 1) → g.2.1 526 4 = -1 → ∃ g', f_X12_items b (Int32.ofNat cl) (Int32.ofNat o) (Int32.ofNat many) g = some ((), g') ∧ (ok = true → g'.2.1 526 4 = -1 ∧ g'.2.1 526 3 = Int32.ofNat P ∧ ∀ k, k < many → g'.2.1 b (o + k) = Int32.ofNat (R k)) ∧ (ok = false → vBad T P g') ∧ qF (sIM b o many) g g') := by
  have h240 := hT.1
  have hkb := hk.b
  have hU : mRk first many (fun k => mItU (first + k)) := fun k hk => by have := mIt_b (first + k) (by omega); exact ⟨this.2.2.2.1, this.2.2.2.2⟩
  have hc0 : mCnt (fun q => (0 : Nat).testBit q) many = 0 := by
    have : ∀ n, mCnt (fun q => (0 : Nat).testBit q) n = 0 := fun n => by
      induction n with
      | zero => rfl
      | succ n ih => unfold mCnt; rw [ih, if_neg (by rw [Nat.zero_testBit]; decide)]
    exact this many
  obtain ⟨ok, P, R, c1, c2, c3, c4, cX, cM⟩ := d_items_l (first := first) (many := many) (cl := cl) hT hk (T.1 - (i + 1)) (i + 1) 0 0 _ (by omega) (Nat.le_refl _) (Nat.two_pow_pos _) hc0 hU
  refine ⟨ok, P, R, c1, c2, c3, c4, ?_, ?_⟩
  · intro o g ho h hp
    have F1 : qF (sIX o many) g (gsI g 1 2 (Int32.ofNat (i + 1))) := qF.rfl'.sI (Or.inl ⟨rfl, rfl⟩)
    obtain ⟨g2, ze2, r2, f2⟩ := x_fill (g := gsI g 1 2 (Int32.ofNat (i + 1))) (first := first) hkb.1 ho
    have F2 : qF (sIX o many) g g2 := F1.tr (f2.mono fun a k w => Or.inr w)
    obtain ⟨g3, ze3, p3, r3, f3⟩ := cX o zFu g2 ho (by show _ < 1000000; omega) (h.fr F2 (by unfold sIX; omega) (fun k => by unfold sIX; omega)) ((f2.2.1 _ _ (by omega)).trans qs_Ie) r2
    refine ⟨g3, ?_, p3, r3, F2.tr f3⟩
    unfold f_X1_items f_X9_skip
    rw [qB_s, show gI g 1 2 + 1 = Int32.ofNat (i + 1) by rw [show gI g 1 2 = Int32.ofNat i from hp]; exact qi_add i 1, ze2, qB_s]
    exact ze3
  · intro b o g ho hz hb h hp hw
    obtain ⟨g1, ze1, r1, f1⟩ := m_fill (g := g) hk ho hz hb
    have F1 : qF (sIM b o many) g g1 := f1.mono fun a k w => Or.inr w
    have hv1 := h.fr F1 (by unfold sIM; omega) (fun k => by unfold sIM; omega)
    obtain ⟨g2, ze2, p2, f2⟩ := m_look hT hv1 ((f1.2.1 _ _ (by omega)).trans hp) (by omega)
    have F2 : qF (sIM b o many) g g2 := F1.tr (f2.mono fun a k w => Or.inl ⟨w.1, Or.inl w.2⟩)
    obtain ⟨g3, ze3, a1, a2, f3⟩ := cM b o zFu g2 ho hz hb (by show _ < 1000000; omega) (h.fr F2 (by unfold sIM; omega) (fun k => by unfold sIM; omega)) p2 (by rw [f2.2.1 _ _ (by omega), f1.2.1 _ _ (by omega)]; exact hw) (fun k hk => (f2.2.1 _ _ (by omega)).trans (r1 k hk))
    refine ⟨g3, ?_, a1, a2, F2.tr f3⟩
    rw [ze1]
    unfold f_X12_items_28
    rw [ze2, qB_s, m_itemOf hk hT, qB_s]
    exact ze3
theorem mDk.put0 {R : Nat → Nat} (h : mDk C) (hR : mRk 0 5 R) : mDk (C.1, C.2.1, mPt C.2.2 0 5 R) := by
  obtain ⟨h1, h2, h3, h4, h5, h6⟩ := h
  refine ⟨h1, h2, fun k hk => ?_, fun k hk => ?_, fun p k hp hk => ?_, fun c k hc hk => ?_⟩
  · show mPt C.2.2 0 5 R k ≤ 99
    unfold mPt
    split
    · rename_i q
      have := hR (k - 0) (by omega)
      have := mIt_b (0 + (k - 0)) (by omega)
      omega
    · exact h3 k hk
  · show mItLo (0 + k) ≤ mPt C.2.2 0 5 R k ∧ mPt C.2.2 0 5 R k ≤ mItHi (0 + k)
    have e := mPt_i (D := C.2.2) (R := R) (o := 0) hk
    rw [Nat.zero_add] at e
    rw [e]
    exact hR k hk
  · show mItLo _ ≤ mPt C.2.2 0 5 R _ ∧ mPt C.2.2 0 5 R _ ≤ _
    have hp : p < C.1 := hp
    rw [mPt_o (by omega)]
    exact h5 p k hp hk
  · show mItLo _ ≤ mPt C.2.2 0 5 R _ ∧ mPt C.2.2 0 5 R _ ≤ _
    rw [mPt_o (by omega)]
    exact h6 c k hc hk
theorem mDk.putP {R : Nat → Nat} (h : mDk C) (hP : C.1 < 6) (hR : mRk 5 3 R) : mDk (C.1 + 1, C.2.1, mPt C.2.2 (5 + 3 * C.1) 3 R) := by
  obtain ⟨h1, h2, h3, h4, h5, h6⟩ := h
  refine ⟨hP, h2, fun k hk => ?_, fun k hk => ?_, fun p k hp hk => ?_, fun c k hc hk => ?_⟩
  · show mPt C.2.2 (5 + 3 * C.1) 3 R k ≤ 99
    unfold mPt
    split
    · rename_i q
      have := hR (k - (5 + 3 * C.1)) (by omega)
      have := mIt_b (5 + (k - (5 + 3 * C.1))) (by omega)
      omega
    · exact h3 k hk
  · show mItLo _ ≤ mPt C.2.2 (5 + 3 * C.1) 3 R _ ∧ mPt C.2.2 (5 + 3 * C.1) 3 R _ ≤ _
    rw [mPt_o (by omega)]
    exact h4 k hk
  · show mItLo _ ≤ mPt C.2.2 (5 + 3 * C.1) 3 R _ ∧ mPt C.2.2 (5 + 3 * C.1) 3 R _ ≤ _
    have hp : p < C.1 + 1 := hp
    by_cases e : p = C.1
    · subst e
      rw [mPt_i hk]
      exact hR k hk
    · rw [mPt_o (by omega)]
      exact h5 p k (by omega) hk
  · show mItLo _ ≤ mPt C.2.2 (5 + 3 * C.1) 3 R _ ∧ mPt C.2.2 (5 + 3 * C.1) 3 R _ ≤ _
    rw [mPt_o (by omega)]
    exact h6 c k hc hk
theorem mDk.putS {R : Nat → Nat} (h : mDk C) (hS : C.2.1 < 6) (hR : mRk 8 4 R) : mDk (C.1, C.2.1 + 1, mPt C.2.2 (23 + 4 * C.2.1) 4 R) := by
  obtain ⟨h1, h2, h3, h4, h5, h6⟩ := h
  refine ⟨h1, hS, fun k hk => ?_, fun k hk => ?_, fun p k hp hk => ?_, fun c k hc hk => ?_⟩
  · show mPt C.2.2 (23 + 4 * C.2.1) 4 R k ≤ 99
    unfold mPt
    split
    · rename_i q
      have := hR (k - (23 + 4 * C.2.1)) (by omega)
      have := mIt_b (8 + (k - (23 + 4 * C.2.1))) (by omega)
      omega
    · exact h3 k hk
  · show mItLo _ ≤ mPt C.2.2 (23 + 4 * C.2.1) 4 R _ ∧ mPt C.2.2 (23 + 4 * C.2.1) 4 R _ ≤ _
    rw [mPt_o (by omega)]
    exact h4 k hk
  · show mItLo _ ≤ mPt C.2.2 (23 + 4 * C.2.1) 4 R _ ∧ mPt C.2.2 (23 + 4 * C.2.1) 4 R _ ≤ _
    have hp : p < C.1 := hp
    rw [mPt_o (by omega)]
    exact h5 p k hp hk
  · show mItLo _ ≤ mPt C.2.2 (23 + 4 * C.2.1) 4 R _ ∧ mPt C.2.2 (23 + 4 * C.2.1) 4 R _ ≤ _
    have hc : c < C.2.1 + 1 := hc
    by_cases e : c = C.2.1
    · subst e
      rw [mPt_i hk]
      exact hR k hk
    · rw [mPt_o (by omega)]
      exact h6 c k (by omega) hk
theorem vBad.fr {S : Nat → Nat → Prop} {f : Nat} {g' : zSg} (h : vBad T f g) (hf : qF S g g') (h1 : ¬ S 526 3) (h2 : ¬ S 526 4) : vBad T f g' := by
  unfold vBad at h ⊢
  rw [hf.2.1 _ _ h1, hf.2.1 _ _ h2]
  exact h
theorem mB_if {b : Bool} {g : zSg} : (if mB b = 0 ∨ mB b = 1 then some (mB b, g) else none) = some (mB b, g) := if_pos mB_01
theorem m_214b {n f : Nat} {y : Int32} (hT : mTpOk T) (h : vTpM T g) (hf : f ≤ T.1) (hb : vBad T f g) : ∃ g', f_X12_readCoast_214 (f_X12_readCoast_49 (n + 1)) y g = some (Int32.ofNat f, g') ∧ qF sTM g g' := by
  have h240 := hT.1
  have end_ : ∀ g1 : zSg, qF sTM g g1 → vBad T f g1 → ∃ g', f_X12_readCoast_235 (f_X12_readCoast_49 (n + 1)) y g1 = some (Int32.ofNat f, g') ∧ qF sTM g g' := by
    intro g1 f1 hb1
    have hv1 := h.fr f1 (by unfold sTM; omega) (fun k => by unfold sTM; omega)
    unfold f_X12_readCoast_235 f_X12_readCoast_236 f_X12_readCoast_251
    rw [if_pos rfl]
    show ∃ g', fb_X12_readCoast_49 _ _ _ _ = _ ∧ _
    unfold fb_X12_readCoast_49
    rw [if_pos rfl]
    unfold f_X12_readCoast_258
    rcases hb1 with hb1 | ⟨b1, b2, b3, b4, b5⟩
    · have e4 : (gsI g1 526 3 (gI g1 526 3 + 0)).2.1 526 4 = Int32.ofNat f := (qs_In (by omega)).trans hb1
      rw [if_pos (show ¬ gI (gsI g1 526 3 (gI g1 526 3 + 0)) 526 4 = (-1 : Int32) by rw [show gI (gsI g1 526 3 (gI g1 526 3 + 0)) 526 4 = Int32.ofNat f from e4]; exact qi_ne_m1 (by omega))]
      refine ⟨gsI g1 526 3 (gI g1 526 3 + 0), ?_, f1.sI ⟨rfl, Or.inl rfl⟩⟩
      unfold f_X12_readCoast_285
      rw [show gI (gsI g1 526 3 (gI g1 526 3 + 0)) 526 4 = Int32.ofNat f from e4]
    · rw [show gI g1 526 3 + 0 = Int32.ofNat f by rw [show gI g1 526 3 = Int32.ofNat f from b2]; exact qi_add f 0]
      have F2 : qF sTM g (gsI g1 526 3 (Int32.ofNat f)) := f1.sI ⟨rfl, Or.inl rfl⟩
      have e4 : (gsI g1 526 3 (Int32.ofNat f)).2.1 526 4 = -1 := (qs_In (by omega)).trans b1
      obtain ⟨g3, ze3, p3, f3⟩ := m_look hT (h.fr F2 (by unfold sTM; omega) (fun k => by unfold sTM; omega)) (qs_Ie (g := g1) (a := 526) (k := 3) (x := Int32.ofNat f)) (by omega)
      have es : mSk T f = f := mSk_n (fun w => by unfold mAt at b5; rw [if_pos w.1] at b5; exact b5 w.2)
      have ne : mAt T f ≠ 0 := (mAt_in hT).mpr b3
      rw [es] at ze3 p3
      have e43 : g3.2.1 526 4 = -1 := (f3.2.1 _ _ (by omega)).trans e4
      rw [if_neg (fun w => w e4), ze3, qB_s, if_pos (show ¬ mAtM T f = -1 by rw [mAtM_end hT]; exact ne)]
      unfold f_X12_readCoast_281 f_X12_readCoast_285
      rw [m_bad e43 p3, qB_s, show gI (gsI g3 526 4 (Int32.ofNat f)) 526 4 = Int32.ofNat f from qs_Ie]
      exact ⟨_, rfl, (F2.tr (f3.mono fun a k w => ⟨w.1, Or.inl w.2⟩)).sI ⟨rfl, Or.inr rfl⟩⟩
  unfold f_X12_readCoast_214
  rcases hb with hb1 | ⟨b1, b2, b3, b4, b5⟩
  · rw [if_pos (show ¬ gI g 526 4 = (-1 : Int32) by rw [show gI g 526 4 = Int32.ofNat f from hb1]; exact qi_ne_m1 (by omega))]
    exact end_ g qF.rfl' (Or.inl hb1)
  · have es : mSk T f = f := mSk_n (fun w => by unfold mAt at b5; rw [if_pos w.1] at b5; exact b5 w.2)
    obtain ⟨g3, ze3, p3, f3⟩ := m_look hT h b2 (by omega)
    rw [es] at ze3 p3
    rw [if_neg (fun w => w b1), ze3, qB_s, if_pos (mAtM_ne (i := f) (c := 59) (x := 59) hT rfl (by omega) (by omega) b4)]
    exact end_ g3 (f3.mono fun a k w => ⟨w.1, Or.inl w.2⟩) (Or.inr ⟨(f3.2.1 _ _ (by omega)).trans b1, p3, b3, b4, b5⟩)
end AI
