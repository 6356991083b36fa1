/-! ===== both sides: a CLAUSE's ITEMS ===== -/
def vBad (T : mTk) (f : Nat) (g : zSg) : Prop := g.2.1 526 4 = Int32.ofNat f ∨ (g.2.1 526 4 = -1 ∧ g.2.1 526 3 = Int32.ofNat f ∧ f < T.1 ∧ mAt T f ≠ 59 ∧ mAt T f ≠ 32)
def sIX (at_ many a k : Nat) : Prop := (a = 1 ∧ k = 2) ∨ (a = 9 ∧ at_ ≤ k ∧ k < at_ + many)
def sIM (b o many a k : Nat) : Prop := (a = 526 ∧ (k = 3 ∨ k = 4)) ∨ (a = b ∧ o ≤ k ∧ k < o + many)
def mRk (first many : Nat) (R : Nat → Nat) : Prop := ∀ k, k < many → mItLo (first + k) ≤ R k ∧ R k ≤ mItHi (first + k)
section AH
variable {T : mTk}
theorem qi_ne_m1 {n : Nat} (h : n < 100000) : ¬ Int32.ofNat n = (-1 : Int32) := by
  show ¬ (_ = - Int32.ofNat 1)
  rw [qi_ne1 (by omega) (by omega) (by omega)]
  exact not_false
theorem d_items_l {first many cl : Nat} (hT : mTpOk T) (hk : mKd first many cl) : ∀ (r i seen cnt : Nat) (R : Nat → Nat), i ≤ T.1 → T.1 - i ≤ r → seen < 2 ^ many → mCnt (fun q => seen.testBit q) many = cnt → mRk first many R → ∃ ok P R', P ≤ T.1 ∧ i ≤ P ∧ mRk first many R' ∧ (ok = true → mSk T P = P) ∧
    (∀ at_ n g, at_ + many ≤ 47 → r < n → vTpX T g → g.2.1 1 2 = Int32.ofNat i → (∀ k, k < many → g.2.1 9 (at_ + k) = Int32.ofNat (R k)) → ∃ g', f_X1_items_20 n (Int32.ofNat first) (Int32.ofNat many) (Int32.ofNat at_) (Int32.ofNat seen) (Int32.ofNat cnt) g = some (mB ok, g') ∧ g'.2.1 1 2 = Int32.ofNat P ∧ (ok = true → ∀ k, k < many → g'.2.1 9 (at_ + k) = Int32.ofNat (R' k)) ∧ qF (sIX at_ many) g g') ∧
    (∀ b o n g, o + many ≤ (zK0 b).2 → (zK0 b).2 ≤ 100 → 530 ≤ b → r < n → vTpM T g → g.2.1 526 3 = Int32.ofNat (mSk T i) → g.2.1 526 4 = -1 → (∀ k, k < many → g.2.1 b (o + k) = Int32.ofNat (R k)) → ∃ g', f_X12_items_41 b n (Int32.ofNat cl) (Int32.ofNat o) (Int32.ofNat seen) (mOpt (mFd first (mAt T (mSk T i)) many)) g = some ((), g') ∧ (ok = true → g'.2.1 526 4 = -1 ∧ g'.2.1 526 3 = Int32.ofNat P ∧ ∀ k, k < many → g'.2.1 b (o + k) = Int32.ofNat (R' k)) ∧ (ok = false → vBad T P g') ∧ qF (sIM b o many) g g') := by
  have h240 := hT.1
  have hkb := hk.b
  intro r
  induction r with
  | zero =>
    intro i seen cnt R hi hr hs hc hR
    have e : i = T.1 := by omega
    subst e
    have es : mSk T T.1 = T.1 := mSk_n (fun q => by omega)
    have ea : mAt T T.1 = 0 := if_neg (Nat.lt_irrefl _)
    have hno : mFd first (mAt T T.1) many = none := mFd_no fun t ht w => by
      have := mIt_b (first + t) (by omega)
      rw [ea] at w
      omega
    have hcn : cnt ≤ many := by rw [← hc]; exact mCnt_le
    refine ⟨true, T.1, R, Nat.le_refl _, Nat.le_refl _, hR, fun _ => es, ?_, ?_⟩
    · intro at_ n g ha hn h hp hrow
      obtain ⟨n, rfl⟩ : ∃ n', n = n' + 1 := ⟨n - 1, by omega⟩
      obtain ⟨g1, ze1, p1, f1⟩ := x_next hT h hp (Nat.le_refl _)
      rw [es] at ze1 p1
      refine ⟨g1, ?_, p1, fun _ k hk => (f1.2.1 _ _ (by unfold sTX; omega)).trans (hrow k hk), f1.mono fun a k w => Or.inl w⟩
      show fb_X1_items_20 _ _ _ _ _ _ g = _
      unfold fb_X1_items_20
      rw [if_neg (show ¬ Int32.ofNat many < Int32.ofNat cnt by rw [qi_lt (by omega) (by omega)]; omega), ze1, qB_s, x_find (by omega) (by have := mAt_lt (i := T.1) hT; omega), qB_s, hno, if_neg (fun w => w rfl)]
      rfl
    · intro b o n g ho hz hb hn h hp hw hrow
      obtain ⟨n, rfl⟩ : ∃ n', n = n' + 1 := ⟨n - 1, by omega⟩
      rw [es] at hp ⊢
      rw [hno]
      refine ⟨g, ?_, fun _ => ⟨hw, hp, hrow⟩, fun w => (by cases w), qF.rfl'⟩
      show fb_X12_items_41 _ _ _ _ _ _ g = _
      unfold fb_X12_items_41
      rw [if_neg (fun w => w hw), if_pos (show mOpt none = -1 from rfl)]
  | succ r ih =>
    intro i seen cnt R hi hr hs hc hR
    have hcn : cnt ≤ many := by rw [← hc]; exact mCnt_le
    have hjl := mSk_le (T := T) hi
    have hjg := mSk_ge (T := T) (i := i)
    have hs2 : seen < 32 := Nat.lt_of_lt_of_le hs (Nat.pow_le_pow_right (n := 2) (by omega) hkb.2.1)
    cases hfd : mFd first (mAt T (mSk T i)) many with
    | none =>
      refine ⟨true, mSk T i, R, hjl, hjg, hR, fun _ => mSk_id, ?_, ?_⟩
      · intro at_ n g ha hn h hp hrow
        obtain ⟨n, rfl⟩ : ∃ n', n = n' + 1 := ⟨n - 1, by omega⟩
        obtain ⟨g1, ze1, p1, f1⟩ := x_next hT h hp hi
        refine ⟨g1, ?_, p1, fun _ k hk => (f1.2.1 _ _ (by unfold sTX; omega)).trans (hrow k hk), f1.mono fun a k w => Or.inl w⟩
        show fb_X1_items_20 _ _ _ _ _ _ g = _
        unfold fb_X1_items_20
        rw [if_neg (show ¬ Int32.ofNat many < Int32.ofNat cnt by rw [qi_lt (by omega) (by omega)]; omega), ze1, qB_s, x_find (by omega) (by have := mAt_lt (i := mSk T i) hT; omega), qB_s, hfd, if_neg (fun w => w rfl)]
        rfl
      · intro b o n g ho hz hb hn h hp hw hrow
        obtain ⟨n, rfl⟩ : ∃ n', n = n' + 1 := ⟨n - 1, by omega⟩
        refine ⟨g, ?_, fun _ => ⟨hw, hp, hrow⟩, fun w => (by cases w), qF.rfl'⟩
        show fb_X12_items_41 _ _ _ _ _ _ g = _
        unfold fb_X12_items_41
        rw [if_neg (fun w => w hw), if_pos (show mOpt none = -1 from rfl)]
    | some k =>
      obtain ⟨hkm, hkl⟩ := mFd_lt hfd
      have hib := mIt_b (first + k) (by omega)
      have hin : mSk T i < T.1 := (mAt_in (i := mSk T i) hT).mp (by omega)
      have hx32 : (1 : Int32) <<< (Int32.ofNat k &&& 31) = Int32.ofNat (1 <<< k) := qi_shl (a := 1) (by omega)
      by_cases hb : seen.testBit k = true
      · refine ⟨false, mSk T i, R, hjl, hjg, hR, fun w => (by cases w), ?_, ?_⟩
        · intro at_ n g ha hn h hp hrow
          obtain ⟨n, rfl⟩ : ∃ n', n = n' + 1 := ⟨n - 1, by omega⟩
          obtain ⟨g1, ze1, p1, f1⟩ := x_next hT h hp hi
          refine ⟨g1, ?_, p1, fun w => (by cases w), f1.mono fun a k w => Or.inl w⟩
          show fb_X1_items_20 _ _ _ _ _ _ g = _
          unfold fb_X1_items_20
          rw [if_neg (show ¬ Int32.ofNat many < Int32.ofNat cnt by rw [qi_lt (by omega) (by omega)]; omega), ze1, qB_s, x_find (by omega) (by have := mAt_lt (i := mSk T i) hT; omega), qB_s, hfd]
          show (if ¬ Int32.ofNat k = (-1 : Int32) then (if ((Int32.ofNat seen >>> (Int32.ofNat k &&& 31)) &&& 1) = 0 then _ else _) else _) = _
          rw [if_pos (qi_ne_m1 (by omega)), if_neg]
          · rfl
          · show ¬ ((Int32.ofNat seen >>> (Int32.ofNat k &&& Int32.ofNat 31)) &&& Int32.ofNat 1) = Int32.ofNat 0
            rw [qi_bit0 (by omega) (by omega), hb]
            decide
        · intro b o n g ho hz hb2 hn h hp hw hrow
          obtain ⟨n, rfl⟩ : ∃ n', n = n' + 1 := ⟨n - 1, by omega⟩
          refine ⟨g, ?_, fun w => (by cases w), fun _ => Or.inr ⟨hw, hp, hin, by omega, mSk_32⟩, qF.rfl'⟩
          show fb_X12_items_41 _ _ _ _ _ (Int32.ofNat k) g = _
          unfold fb_X12_items_41
          rw [if_neg (fun w => w hw), if_neg (qi_ne_m1 (by omega)), m_has (by omega) (by omega), qB_s, hb, if_pos (by decide)]
      · have hb : seen.testBit k = false := by cases e : seen.testBit k with | true => exact absurd e hb | false => rfl
        have hnp := mNoP_le (j := mSk T (mSk T i + 1)) (lo := mItLo (first + k)) (hi := mItHi (first + k)) hT (mSk_le (by omega))
        have hsg := mSk_ge (T := T) (i := mSk T i + 1)
        have hb9 : ∀ q, q ≠ k → (seen ||| (1 <<< k)).testBit q = seen.testBit q := fun q hq => by
          rw [Nat.testBit_or, Nat.one_shiftLeft, Nat.testBit_two_pow, decide_eq_false (fun w => hq w.symm), Bool.or_false]
        have hbk : (seen ||| (1 <<< k)).testBit k = true := by rw [Nat.testBit_or, Nat.one_shiftLeft, Nat.testBit_two_pow, decide_eq_true rfl, Bool.or_true]
        have hs3 : seen ||| (1 <<< k) < 2 ^ many := Nat.or_lt_two_pow hs (by rw [Nat.one_shiftLeft]; exact Nat.pow_lt_pow_right (by omega) hkm)
        have hc3 : mCnt (fun q => (seen ||| (1 <<< k)).testBit q) many = cnt + 1 := by
          rw [← hc]
          exact mCnt_add hkm (fun q _ hq => (hb9 q hq).symm) hb hbk
        have goX : ∀ at_ n g, at_ + many ≤ 47 → vTpX T g → g.2.1 1 2 = Int32.ofNat i → (∀ k, k < many → g.2.1 9 (at_ + k) = Int32.ofNat (R k)) → ∃ g3, g3.2.1 1 2 = Int32.ofNat (mNoP T (mSk T (mSk T i + 1)) (mItLo (first + k)) (mItHi (first + k))) ∧ vTpX T g3 ∧ (mNo T (mSk T (mSk T i + 1)) (mItLo (first + k)) (mItHi (first + k)) = true → ∀ q, q < many → g3.2.1 9 (at_ + q) = Int32.ofNat (if q = k then mVal T (mSk T (mSk T i + 1)) (mNq T (mSk T (mSk T i + 1)) 2) else R q)) ∧ qF (sIX at_ many) g g3 ∧ f_X1_items_20 (n + 1) (Int32.ofNat first) (Int32.ofNat many) (Int32.ofNat at_) (Int32.ofNat seen) (Int32.ofNat cnt) g = (if mNo T (mSk T (mSk T i + 1)) (mItLo (first + k)) (mItHi (first + k)) = true then f_X1_items_20 n (Int32.ofNat first) (Int32.ofNat many) (Int32.ofNat at_) (Int32.ofNat (seen ||| (1 <<< k))) (Int32.ofNat (cnt + 1)) g3 else some (0, g3)) := by
          intro at_ n g ha h hp hrow
          obtain ⟨g1, ze1, p1, f1⟩ := x_next hT h hp hi
          have hv1 := h.fr f1 (by unfold sTX; omega) (fun k => by unfold sTX; omega)
          have F2 : qF sTX g (gsI g1 1 2 (Int32.ofNat (mSk T i + 1))) := f1.sI ⟨rfl, rfl⟩
          have hv2 := h.fr F2 (by unfold sTX; omega) (fun k => by unfold sTX; omega)
          obtain ⟨g3, ze3, p3, r3, f3⟩ := x_num (i := mSk T i + 1) (it := first + k) (at_ := at_ + k) (by omega) (by omega) hT hv2 qs_Ie (by omega)
          have F3 : qF (sIX at_ many) g g3 := (F2.mono fun a k w => Or.inl w).tr (f3.mono fun a k2 w => by show sIX at_ many a k2; unfold sTX at w; unfold sIX; omega)
          refine ⟨g3, p3, h.fr F3 (by unfold sIX; omega) (fun k => by unfold sIX; omega), fun w q hq => ?_, F3, ?_⟩
          · by_cases e : q = k
            · subst e; rw [if_pos rfl]; exact r3 w
            · rw [if_neg e, f3.2.1 _ _ (by unfold sTX; omega), F2.2.1 _ _ (by unfold sTX; omega)]; exact hrow q hq
          · show fb_X1_items_20 _ _ _ _ _ _ g = _
            unfold fb_X1_items_20
            rw [if_neg (show ¬ Int32.ofNat many < Int32.ofNat cnt by rw [qi_lt (by omega) (by omega)]; omega), ze1, qB_s, x_find (by omega) (by have := mAt_lt (i := mSk T i) hT; omega), qB_s, hfd]
            show (if ¬ Int32.ofNat k = (-1 : Int32) then (if ((Int32.ofNat seen >>> (Int32.ofNat k &&& 31)) &&& 1) = 0 then _ else _) else _) = _
            rw [if_pos (qi_ne_m1 (by omega)), if_pos]
            · unfold f_X9_skip
              show zB (f_X1_number (Int32.ofNat first + Int32.ofNat k) (Int32.ofNat at_ + Int32.ofNat k) (gsI g1 1 2 (gI g1 1 2 + 1))) (fun v13 g14 => if ¬ v13 = 0 then f_X1_items_20 n (Int32.ofNat first) (Int32.ofNat many) (Int32.ofNat at_) (Int32.ofNat seen ||| (1 <<< (Int32.ofNat k &&& 31))) (Int32.ofNat cnt + 1) g14 else some (0, g14)) = _
              rw [show gI g1 1 2 + 1 = Int32.ofNat (mSk T i + 1) by rw [show gI g1 1 2 = Int32.ofNat (mSk T i) from p1]; exact qi_add _ 1, qi_add, qi_add, ze3, qB_s, hx32, qi_or, show Int32.ofNat cnt + 1 = Int32.ofNat (cnt + 1) from qi_add cnt 1]
              cases mNo T (mSk T (mSk T i + 1)) (mItLo (first + k)) (mItHi (first + k)) with
              | true => rw [if_pos (by decide), if_pos rfl]
              | false => rw [if_neg (by decide), if_neg (by decide)]
            · show ((Int32.ofNat seen >>> (Int32.ofNat k &&& Int32.ofNat 31)) &&& Int32.ofNat 1) = Int32.ofNat 0
              rw [qi_bit0 (by omega) (by omega)]
              exact hb
        have goM : ∀ b o n g, o + many ≤ (zK0 b).2 → (zK0 b).2 ≤ 100 → 530 ≤ b → vTpM T g → g.2.1 526 3 = Int32.ofNat (mSk T i) → g.2.1 526 4 = -1 → (∀ k, k < many → g.2.1 b (o + k) = Int32.ofNat (R k)) → ∃ g3, vTpM T g3 ∧ qF (sIM b o many) g g3 ∧ (mNo T (mSk T (mSk T i + 1)) (mItLo (first + k)) (mItHi (first + k)) = true → g3.2.1 526 4 = -1 ∧ g3.2.1 526 3 = Int32.ofNat (mSk T (mNoP T (mSk T (mSk T i + 1)) (mItLo (first + k)) (mItHi (first + k)))) ∧ (∀ q, q < many → g3.2.1 b (o + q) = Int32.ofNat (if q = k then mVal T (mSk T (mSk T i + 1)) (mNq T (mSk T (mSk T i + 1)) 2) else R q)) ∧ f_X12_items_41 b (n + 1) (Int32.ofNat cl) (Int32.ofNat o) (Int32.ofNat seen) (Int32.ofNat k) g = f_X12_items_41 b n (Int32.ofNat cl) (Int32.ofNat o) (Int32.ofNat (seen ||| (1 <<< k))) (mOpt (mFd first (mAt T (mSk T (mNoP T (mSk T (mSk T i + 1)) (mItLo (first + k)) (mItHi (first + k))))) many)) g3) ∧ (mNo T (mSk T (mSk T i + 1)) (mItLo (first + k)) (mItHi (first + k)) = false → g3.2.1 526 4 = Int32.ofNat (mNoP T (mSk T (mSk T i + 1)) (mItLo (first + k)) (mItHi (first + k))) ∧ f_X12_items_41 b (n + 1) (Int32.ofNat cl) (Int32.ofNat o) (Int32.ofNat seen) (Int32.ofNat k) g = f_X12_items_41 b n (Int32.ofNat cl) (Int32.ofNat o) (Int32.ofNat (seen ||| (1 <<< k))) (-1) g3) := by
          intro b o n g ho hz hb2 h hp hw hrow
          have F1 : qF (sIM b o many) g (gsI g 526 3 (Int32.ofNat (mSk T i + 1))) := qF.rfl'.sI (Or.inl ⟨rfl, Or.inl rfl⟩)
          have hv1 : vTpM T (gsI g 526 3 (Int32.ofNat (mSk T i + 1))) := h.fr F1 (by unfold sIM; omega) (fun k => by unfold sIM; omega)
          obtain ⟨g2, x, ze2, a1, a2, f2⟩ := m_num (i := mSk T i + 1) (lo := mItLo (first + k)) (hi := mItHi (first + k)) (by omega) (by omega) hT hv1 qs_Ie ((qs_In (by omega)).trans hw) (by omega)
          have F2 : qF (sIM b o many) g g2 := F1.tr (f2.mono fun a k w => Or.inl w)
          have F3 : qF (sIM b o many) g (gsI g2 b (o + k) x) := F2.sI (Or.inr ⟨rfl, by omega, by omega⟩)
          have hv3 := h.fr F3 (by unfold sIM; omega) (fun k => by unfold sIM; omega)
          have h4 : (gsI g2 b (o + k) x).2.1 526 4 = g2.2.1 526 4 := qs_In (by omega)
          have hrow3 : ∀ q, q < many → (gsI g2 b (o + k) x).2.1 b (o + q) = if q = k then x else Int32.ofNat (R q) := fun q hq => by
            by_cases e : q = k
            · subst e; rw [if_pos rfl]; exact qs_Ie
            · rw [if_neg e, qs_In (by omega), f2.2.1 _ _ (by unfold sTM; omega), qs_In (by omega)]; exact hrow q hq
          have eq1 : f_X12_items_41 b (n + 1) (Int32.ofNat cl) (Int32.ofNat o) (Int32.ofNat seen) (Int32.ofNat k) g = (if ¬ (gI (gsI g2 b (o + k) x) 526 4) = (-1) then f_X12_items_41 b n (Int32.ofNat cl) (Int32.ofNat o) (Int32.ofNat (seen ||| (1 <<< k))) (-1) (gsI g2 b (o + k) x) else zB (f_X12_look (gsI g2 b (o + k) x)) (fun v18 g19 => zB (f_X12_itemOf (Int32.ofNat cl) v18 g19) (fun v21 g22 => f_X12_items_41 b n (Int32.ofNat cl) (Int32.ofNat o) (Int32.ofNat (seen ||| (1 <<< k))) v21 g22))) := by
            show fb_X12_items_41 _ _ _ _ _ (Int32.ofNat k) g = _
            unfold fb_X12_items_41 f_X12_items_126
            rw [if_neg (fun w => w hw), if_neg (qi_ne_m1 (by omega)), m_has (by omega) (by omega), qB_s, hb, if_neg (by decide), show gI g 526 3 + 1 = Int32.ofNat (mSk T i + 1) by rw [show gI g 526 3 = Int32.ofNat (mSk T i) from hp]; exact qi_add _ 1, m_low hk hkm, qB_s, m_high hk hkm, qB_s, ze2, qB_s, qi_add, if_pos (qi_zib (by omega) (by omega)), qi_ix (by omega), hx32, qi_or]
          cases hno : mNo T (mSk T (mSk T i + 1)) (mItLo (first + k)) (mItHi (first + k)) with
          | true =>
            obtain ⟨b1, b2, b3⟩ := a1 hno
            have hp3 : (gsI g2 b (o + k) x).2.1 526 3 = Int32.ofNat (mNoP T (mSk T (mSk T i + 1)) (mItLo (first + k)) (mItHi (first + k))) := (qs_In (by omega)).trans b2
            obtain ⟨g4, ze4, p4, f4⟩ := m_look hT hv3 hp3 (by omega)
            have F4 : qF (sIM b o many) g g4 := F3.tr (f4.mono fun a k w => Or.inl ⟨w.1, Or.inl w.2⟩)
            refine ⟨g4, h.fr F4 (by unfold sIM; omega) (fun k => by unfold sIM; omega), F4, fun _ => ⟨?_, p4, fun q hq => ?_, ?_⟩, fun w => (by cases w)⟩
            · rw [f4.2.1 _ _ (by omega), h4]; exact b3
            · rw [f4.2.1 _ _ (by omega), hrow3 q hq, b1]
              by_cases e : q = k
              · rw [if_pos e, if_pos e]
              · rw [if_neg e, if_neg e]
            · rw [eq1, if_neg (fun w => w (h4.trans b3)), ze4, qB_s, m_itemOf hk hT, qB_s]
          | false =>
            have b1 := a2 hno
            refine ⟨_, hv3, F3, fun w => (by cases w), fun _ => ⟨h4.trans b1, ?_⟩⟩
            rw [eq1, if_pos]
            rw [show gI (gsI g2 b (o + k) x) 526 4 = _ from h4.trans b1]
            exact qi_ne_m1 (by omega)
        cases hno : mNo T (mSk T (mSk T i + 1)) (mItLo (first + k)) (mItHi (first + k)) with
        | false =>
          refine ⟨false, mNoP T (mSk T (mSk T i + 1)) (mItLo (first + k)) (mItHi (first + k)), R, hnp.1, ?_, hR, fun w => (by cases w), ?_, ?_⟩
          · unfold mNoP mNp
            rw [hno, if_neg (by decide)]
            split
            · omega
            · split <;> omega
          · intro at_ n g ha hn h hp hrow
            obtain ⟨n, rfl⟩ : ∃ n', n = n' + 1 := ⟨n - 1, by omega⟩
            obtain ⟨g3, p3, hv3, r3, f3, ze⟩ := goX at_ n g ha h hp hrow
            rw [hno, if_neg (by decide)] at ze
            exact ⟨g3, ze, p3, fun w => (by cases w), f3⟩
          · intro b o n g ho hz hb2 hn h hp hw hrow
            obtain ⟨n, rfl⟩ : ∃ n', n = n' + 1 := ⟨n - 1, by omega⟩
            obtain ⟨n, rfl⟩ : ∃ n', n = n' + 1 := ⟨n - 1, by omega⟩
            obtain ⟨g3, hv3, f3, -, a2⟩ := goM b o (n + 1) g ho hz hb2 h hp hw hrow
            obtain ⟨b1, ze⟩ := a2 hno
            refine ⟨g3, ?_, fun w => (by cases w), fun _ => Or.inl b1, f3⟩
            show f_X12_items_41 b (n + 1 + 1) (Int32.ofNat cl) (Int32.ofNat o) (Int32.ofNat seen) (Int32.ofNat k) g = _
            rw [ze]
            show fb_X12_items_41 _ _ _ _ _ _ g3 = _
            unfold fb_X12_items_41
            rw [if_pos]
            rw [show gI g3 526 4 = _ from b1]
            exact qi_ne_m1 (by omega)
        | true =>
          have hnp2 := hnp.2 hno
          have hR2 : mRk first many (fun q => if q = k then mVal T (mSk T (mSk T i + 1)) (mNq T (mSk T (mSk T i + 1)) 2) else R q) := fun q hq => by
            by_cases e : q = k
            · subst e
              have := of_decide_eq_true hno
              show mItLo _ ≤ (if q = q then _ else _) ∧ (if q = q then _ else _) ≤ _
              rw [if_pos rfl]
              exact ⟨this.2.2.1, this.2.2.2⟩
            · show mItLo _ ≤ (if q = k then _ else _) ∧ (if q = k then _ else _) ≤ _
              rw [if_neg e]
              exact hR q hq
          obtain ⟨ok, P, R', c1, c2, c3, c4, cX, cM⟩ := ih (mNoP T (mSk T (mSk T i + 1)) (mItLo (first + k)) (mItHi (first + k))) (seen ||| (1 <<< k)) (cnt + 1) _ hnp.1 (by omega) hs3 hc3 hR2
          refine ⟨ok, P, R', c1, by omega, c3, c4, ?_, ?_⟩
          · intro at_ n g ha hn h hp hrow
            obtain ⟨n, rfl⟩ : ∃ n', n = n' + 1 := ⟨n - 1, by omega⟩
            obtain ⟨g3, p3, hv3, r3, f3, ze⟩ := goX at_ n g ha h hp hrow
            rw [hno, if_pos rfl] at ze
            obtain ⟨g4, ze4, d1, d2, d3⟩ := cX at_ n g3 ha (by omega) hv3 p3 (r3 hno)
            exact ⟨g4, ze.trans ze4, d1, d2, f3.tr d3⟩
          · intro b o n g ho hz hb2 hn h hp hw hrow
            obtain ⟨n, rfl⟩ : ∃ n', n = n' + 1 := ⟨n - 1, by omega⟩
            obtain ⟨g3, hv3, f3, a1, -⟩ := goM b o n g ho hz hb2 h hp hw hrow
            obtain ⟨b1, b2, b3, ze⟩ := a1 hno
            obtain ⟨g4, ze4, d1, d2, d3⟩ := cM b o n g3 ho hz hb2 (by omega) hv3 b2 b1 b3
            exact ⟨g4, ze.trans ze4, d1, d2, f3.tr d3⟩
end AH
