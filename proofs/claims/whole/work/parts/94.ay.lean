/-! ===== both sides: a LAW's TEXT ===== -/
def rV (ok : Bool) (P : Nat) : Int32 := if ok = true then -1 else Int32.ofNat P
def sRM (t a k : Nat) : Prop := (a = 526 ∧ (k = 3 ∨ k = 4 ∨ k = 5 ∨ k = 14)) ∨ ((a = 530 ∨ a = 531) ∧ k = t) ∨ ((a = 528 ∨ a = 529) ∧ 520 * t ≤ k ∧ k < 520 * t + 520) ∨ ((a = 532 ∨ a = 533 ∨ a = 534) ∧ 140 * t ≤ k ∧ k < 140 * t + 140)
theorem sRM_Q {t l y a k : Nat} (hy : y < 140) (h : sQM t l (140 * t + y) a k) : sRM t a k := by unfold sQM sLM at h; unfold sRM; omega
def rlX (T : mTk) (i : Nat) (ok : Bool) (P : Nat) (cv cv' : mCv) : Prop := ∀ n cnt g l, T.1 - i + 1 < n → cnt + (T.1 - i) ≤ 240 → vTpX T g → g.2.1 1 2 = Int32.ofNat i → l ≤ i → g.2.1 11 2 = Int32.ofNat l → xCls (g.2.1 13) 0 l cv → ∃ g' l', f_X5_read_21 n 1 (Int32.ofNat cnt) g = some (rV ok P, g') ∧ (ok = true → g'.2.1 11 2 = Int32.ofNat l' ∧ l' ≤ 256 ∧ xCls (g'.2.1 13) 0 l' cv') ∧ qF (sLX 0) g g'
def rlM (T : mTk) (i : Nat) (ok : Bool) (P : Nat) (cv cv' : mCv) : Prop := ∀ n g t l y, T.1 - i + 1 < n → t < 5 → vTpM T g → vAtM i 0 t l g → l ≤ i → 4 * y ≤ i + 1 → g.2.1 531 t = Int32.ofNat y → mCls t y l g cv → ∃ g' l' y', f_X12_readLaw_9 n g = some (rV ok P, g') ∧ (ok = true → l' ≤ 520 ∧ y' ≤ 140 ∧ g'.2.1 531 t = Int32.ofNat y' ∧ mCls t y' l' g' cv') ∧ qF (sRM t) g g'
section AY
variable {T : mTk} {g : zSg}
theorem x_55 {i : Nat} (hT : mTpOk T) (h : vTpX T g) (hp : g.2.1 1 2 = Int32.ofNat i) (hi : i ≤ T.1) : ∃ g', f_X5_read_55 1 g = some (rV (decide (mAt T (mSk T i) = 0)) (mSk T i), g') ∧ qF sTX g g' := by
  have h240 := hT.1
  have hlt := mAt_lt (i := mSk T i) hT
  obtain ⟨g1, ze, p1, f1⟩ := x_next hT h hp hi
  refine ⟨g1, ?_, f1⟩
  unfold f_X5_read_55 f_X5_read_73 f_X9_place rV
  rw [if_neg (show ¬ (1 : Int32) = 0 by decide), ze, qB_s]
  by_cases q : mAt T (mSk T i) = 0
  · rw [if_neg (show ¬ ¬ Int32.ofNat (mAt T (mSk T i)) = 0 from fun w => w (congrArg Int32.ofNat q)), decide_eq_true q, if_pos rfl]
  · rw [if_pos (show ¬ Int32.ofNat (mAt T (mSk T i)) = (0 : Int32) from q_ne (d := 0) (by omega) (by omega) q), qB_s, decide_eq_false q, if_neg (by decide), show gI g1 1 2 = Int32.ofNat (mSk T i) from p1]
theorem m_43w {P : Nat} (hw : g.2.1 526 4 = Int32.ofNat P) (hP : P < 1000) : f_X12_readLaw_43 g = some (Int32.ofNat P, g) := by
  unfold f_X12_readLaw_43 f_X12_atEnd f_X12_atEnd_20
  rw [if_pos (show ¬ gI g 526 4 = (-1 : Int32) by rw [show gI g 526 4 = _ from hw]; exact qi_ne_m1 (by omega)), qB_s, show gI g 526 4 = _ from hw]
theorem m_43 {i t l : Nat} (hT : mTpOk T) (h : vTpM T g) (ha : vAtM i 0 t l g) (hi : i ≤ T.1) : ∃ g', f_X12_readLaw_43 g = some (rV (decide (mAt T (mSk T i) = 0)) (mSk T i), g') ∧ qF (fun a k => a = 526 ∧ (k = 3 ∨ k = 4)) g g' := by
  have h240 := hT.1
  have hjl := mSk_le (T := T) hi
  obtain ⟨g1, ze, p1, f1⟩ := m_look hT h ha.1 (by omega)
  have e4 : g1.2.1 526 4 = -1 := (f1.2.1 _ _ (by omega)).trans ha.2.1
  have F1 : qF (fun a k => a = 526 ∧ (k = 3 ∨ k = 4)) g g1 := f1.mono fun a k w => ⟨w.1, Or.inl w.2⟩
  unfold f_X12_readLaw_43 f_X12_atEnd f_X12_atEnd_20 rV
  rw [if_neg (fun w => w ha.2.1), ze, qB_s]
  by_cases q : mAt T (mSk T i) = 0
  · rw [if_pos ((mAtM_end hT).mpr q), qB_s, decide_eq_true q, if_pos rfl, show gI g1 526 4 = -1 from e4]
    exact ⟨g1, rfl, F1⟩
  · rw [if_neg (fun w => q ((mAtM_end hT).mp w)), m_bad e4 p1, qB_s, decide_eq_false q, if_neg (by decide)]
    refine ⟨gsI g1 526 4 (Int32.ofNat (mSk T i)), ?_, F1.sI ⟨rfl, Or.inr rfl⟩⟩
    show some (gI (gsI g1 526 4 (Int32.ofNat (mSk T i))) 526 4, gsI g1 526 4 (Int32.ofNat (mSk T i))) = _
    rw [show gI (gsI g1 526 4 (Int32.ofNat (mSk T i))) 526 4 = Int32.ofNat (mSk T i) from qs_Ie]
theorem d_rl_end {i : Nat} {cv : mCv} (hT : mTpOk T) (hi : i ≤ T.1) (hc : mAt T (mSk T i) ≠ 59) : rlX T i (decide (mAt T (mSk T i) = 0)) (mSk T i) cv cv ∧ rlM T i (decide (mAt T (mSk T i) = 0)) (mSk T i) cv cv := by
  have h240 := hT.1
  have hjl := mSk_le (T := T) hi
  refine ⟨?_, ?_⟩
  · intro n cnt g l hn hcn h hp hl h11 hs
    obtain ⟨n, rfl⟩ : ∃ n', n = n' + 1 := ⟨n - 1, by omega⟩
    show ∃ g' l', fb_X5_read_21 _ 1 (Int32.ofNat cnt) g = _ ∧ _
    unfold fb_X5_read_21
    rw [if_neg (show ¬ (1 : Int32) = 0 by decide)]
    by_cases hcc : (240 : Int32) ≤ Int32.ofNat cnt
    · obtain ⟨g1, ze, f1⟩ := x_55 hT h hp hi
      rw [if_pos hcc, ze]
      exact ⟨g1, l, rfl, fun _ => ⟨(f1.2.1 _ _ (by unfold sTX; omega)).trans h11, by omega, hs.cp fun k _ _ => f1.2.1 _ _ (by unfold sTX; omega)⟩, f1.mono fun a k w => sLX_T w⟩
    · obtain ⟨g1, ze1, p1, f1⟩ := x_take (c := 59) hT h hp hi (by omega)
      rw [if_neg hc] at p1
      rw [decide_eq_false hc] at ze1
      have hv1 : vTpX T g1 := h.fr f1 (by unfold sTX; omega) (fun k => by unfold sTX; omega)
      obtain ⟨g2, ze2, f2⟩ := x_55 hT hv1 p1 hjl
      rw [mSk_id] at ze2
      have f12 : qF sTX g g2 := f1.tr f2
      rw [if_neg hcc, show (59 : Int32) = Int32.ofNat 59 from rfl, ze1, qB_s, if_pos (by decide), ze2]
      exact ⟨g2, l, rfl, fun _ => ⟨(f12.2.1 _ _ (by unfold sTX; omega)).trans h11, by omega, hs.cp fun k _ _ => f12.2.1 _ _ (by unfold sTX; omega)⟩, f12.mono fun a k w => sLX_T w⟩
  · intro n g t l y hn ht h ha hl hy h31 hs
    obtain ⟨n, rfl⟩ : ∃ n', n = n' + 1 := ⟨n - 1, by omega⟩
    obtain ⟨g1, ze1, p1, f1⟩ := m_look hT h ha.1 (by omega)
    have b1 : vAtM (mSk T i) 0 t l g1 := ⟨p1, (f1.2.1 _ _ (by omega)).trans ha.2.1, (f1.2.1 _ _ (by omega)).trans ha.2.2.1, (f1.2.1 _ _ (by omega)).trans ha.2.2.2.1, (f1.2.1 _ _ (by omega)).trans ha.2.2.2.2⟩
    obtain ⟨g2, ze2, f2⟩ := m_43 hT (h.fr f1 (by omega) (fun k => by omega)) b1 hjl
    rw [mSk_id] at ze2
    have f12 : qF (fun a k => a = 526 ∧ (k = 3 ∨ k = 4)) g g2 := (f1.mono fun a k w => ⟨w.1, Or.inl w.2⟩).tr f2
    refine ⟨g2, l, y, ?_, fun _ => ⟨by omega, by omega, (f12.2.1 _ _ (by omega)).trans h31, hs.cp (fun k _ => ⟨f12.2.1 _ _ (by omega), f12.2.1 _ _ (by omega)⟩) (fun q _ => ⟨f12.2.1 _ _ (by omega), f12.2.1 _ _ (by omega), f12.2.1 _ _ (by omega)⟩)⟩, f12.mono fun a k w => by unfold sRM; omega⟩
    show fb_X12_readLaw_9 _ g = _
    unfold fb_X12_readLaw_9
    rw [if_neg (fun w => w ha.2.1), ze1, qB_s, if_pos (mAtM_ne (i := (mSk T i)) (c := 59) (x := 59) hT rfl (by omega) (by omega) hc)]
    exact ze2
theorem d_rl (hT : mTpOk T) : ∀ (r i : Nat) (cv : mCv), T.1 - i ≤ r → i ≤ T.1 → kOk cv → ∃ (ok : Bool) (P : Nat) (cv' : mCv), P ≤ T.1 ∧ kOk cv' ∧ rlX T i ok P cv cv' ∧ rlM T i ok P cv cv' := by
  have h240 := hT.1
  intro r
  induction r with
  | zero =>
    intro i cv hr hi hk
    have hc : mAt T (mSk T i) ≠ 59 := fun w => by
      have h1 := (mAt_in (i := mSk T i) hT).mp (by omega)
      have h2 := mSk_ge (T := T) (i := i)
      omega
    exact ⟨_, _, cv, mSk_le hi, hk, (d_rl_end hT hi hc).1, (d_rl_end hT hi hc).2⟩
  | succ r ih =>
    intro i cv hr hi hk
    by_cases hc : mAt T (mSk T i) = 59
    · have hin : mSk T i < T.1 := (mAt_in hT).mp (by omega)
      have hjg := mSk_ge (T := T) (i := i)
      have em : mAtM T (mSk T i) = Int32.ofNat 59 := by rw [mAtM_eq hT (by omega) (by omega)]; exact hc
      obtain ⟨ok1, P1, cv1, a1, a2, a3, hX, hM⟩ := d_clauseL (i := mSk T i + 1) hT (by omega)
      have xgo : ∀ n cnt g l, cnt + (T.1 - i) ≤ 240 → vTpX T g → g.2.1 1 2 = Int32.ofNat i → g.2.1 11 2 = Int32.ofNat l → ∃ g1, f_X5_read_21 (n + 1) 1 (Int32.ofNat cnt) g = zB (f_X5_clause g1) (fun v7 g8 => f_X5_read_21 n v7 (Int32.ofNat (cnt + 1)) g8) ∧ vTpX T g1 ∧ g1.2.1 1 2 = Int32.ofNat (mSk T i + 1) ∧ g1.2.1 11 2 = Int32.ofNat l ∧ qF (sLX l) g g1 := fun n cnt g l hcn h hp h11 => by
        obtain ⟨g1, ze1, p1, f1⟩ := x_take (c := 59) hT h hp hi (by omega)
        rw [if_pos hc] at p1
        rw [decide_eq_true hc] at ze1
        refine ⟨g1, ?_, h.fr f1 (by unfold sTX; omega) (fun k => by unfold sTX; omega), p1, (f1.2.1 _ _ (by unfold sTX; omega)).trans h11, f1.mono fun a k w => sLX_T w⟩
        show fb_X5_read_21 _ 1 (Int32.ofNat cnt) g = _
        unfold fb_X5_read_21
        rw [if_neg (show ¬ (1 : Int32) = 0 by decide), if_neg (show ¬ (240 : Int32) ≤ Int32.ofNat cnt by rw [show (240 : Int32) = Int32.ofNat 240 from rfl, qi_le (by omega) (by omega)]; omega), show (59 : Int32) = Int32.ofNat 59 from rfl, ze1, qB_s, if_neg (by decide), show Int32.ofNat cnt + 1 = Int32.ofNat (cnt + 1) from qi_add cnt 1]
      have mgo : ∀ n g t l, vTpM T g → vAtM i 0 t l g → ∃ g1, f_X12_readLaw_9 (n + 1) g = zB (f_X12_clause g1) (fun v6 g7 => f_X12_readLaw_9 n g7) ∧ vTpM T g1 ∧ vAtM (mSk T i + 1) 0 t l g1 ∧ qF (fun a k => a = 526 ∧ k = 3) g g1 := fun n g t l h ha => by
        obtain ⟨g1, ze1, p1, f1⟩ := m_look hT h ha.1 (by omega)
        have F : qF (fun a k => a = 526 ∧ k = 3) g (gsI g1 526 3 (Int32.ofNat (mSk T i + 1))) := f1.sI ⟨rfl, rfl⟩
        refine ⟨gsI g1 526 3 (Int32.ofNat (mSk T i + 1)), ?_, h.fr F (by omega) (fun k => by omega), ⟨qs_Ie, (F.2.1 _ _ (by omega)).trans ha.2.1, (F.2.1 _ _ (by omega)).trans ha.2.2.1, (F.2.1 _ _ (by omega)).trans ha.2.2.2.1, (F.2.1 _ _ (by omega)).trans ha.2.2.2.2⟩, F⟩
        show fb_X12_readLaw_9 _ g = _
        unfold fb_X12_readLaw_9
        rw [if_neg (fun w => w ha.2.1), ze1, qB_s, if_neg (show ¬ ¬ mAtM T (mSk T i) = 59 from fun w => w em), show gI g1 526 3 + 1 = Int32.ofNat (mSk T i + 1) by rw [show gI g1 526 3 = Int32.ofNat (mSk T i) from p1]; exact qi_add _ 1]
      cases ok1 with
      | false =>
        refine ⟨false, P1, mNone, a1, kOk.nil, ?_, ?_⟩
        · intro n cnt g l hn hcn h hp hl h11 hs
          obtain ⟨n, rfl⟩ : ∃ n', n = n' + 1 + 1 := ⟨n - 2, by omega⟩
          obtain ⟨g1, ze, hv1, p1, q1, f1⟩ := xgo (n + 1) cnt g l hcn h hp h11
          obtain ⟨g2, l', ze2, p2, -, f2⟩ := hX g1 l hv1 p1 (by omega) q1
          refine ⟨g2, 0, ?_, fun w => (by cases w), f1.zX.tr f2⟩
          rw [ze, ze2, qB_s]
          show fb_X5_read_21 _ (mB false) _ g2 = _
          unfold fb_X5_read_21 f_X5_read_55 f_X5_read_73 f_X9_place
          rw [if_pos (show mB false = 0 from rfl), if_pos (show mB false = 0 from rfl), qB_s, show gI g2 1 2 = Int32.ofNat P1 from p2]
          rfl
        · intro n g t l y hn ht h ha hl hy h31 hs
          obtain ⟨n, rfl⟩ : ∃ n', n = n' + 1 + 1 := ⟨n - 2, by omega⟩
          obtain ⟨g1, ze, hv1, b1, f1⟩ := mgo (n + 1) g t l h ha
          obtain ⟨g2, l', ze2, -, r2, f2⟩ := hM g1 t l y ht (by omega) hv1 b1 (by omega) ((f1.2.1 _ _ (by omega)).trans h31)
          have e4 := r2 rfl
          refine ⟨g2, 0, 0, ?_, fun w => (by cases w), (f1.mono fun a k w => by unfold sRM; omega).tr (f2.mono fun a k w => sRM_Q (by omega) w)⟩
          rw [ze, ze2, qB_s]
          show fb_X12_readLaw_9 _ g2 = _
          unfold fb_X12_readLaw_9
          rw [if_pos (show ¬ gI g2 526 4 = (-1 : Int32) by rw [show gI g2 526 4 = _ from e4]; exact qi_ne_m1 (by omega))]
          exact m_43w e4 (by omega)
      | true =>
        have a2 := a2 rfl
        obtain ⟨ok, P, cv', c1, c2, cX, cM⟩ := ih P1 (mThen cv cv1) (by omega) a1 (hk.thn a3)
        refine ⟨ok, P, cv', c1, c2, ?_, ?_⟩
        · intro n cnt g l hn hcn h hp hl h11 hs
          obtain ⟨n, rfl⟩ : ∃ n', n = n' + 1 := ⟨n - 1, by omega⟩
          obtain ⟨g1, ze, hv1, p1, q1, f1⟩ := xgo n cnt g l hcn h hp h11
          obtain ⟨g2, l1, ze2, p2, r2, f2⟩ := hX g1 l hv1 p1 (by omega) q1
          obtain ⟨r3, r4, r5⟩ := r2 rfl
          have F2 : qF (sLX l) g g2 := f1.tr f2
          have s2 : xCls (g2.2.1 13) 0 l cv := hs.cp fun k _ k2 => F2.2.1 _ _ (by unfold sLX; omega)
          obtain ⟨g3, l', ze3, r6, f3⟩ := cX n (cnt + 1) g2 l1 (by omega) (by omega) (h.l F2) p2 r4 r3 (s2.seq r5)
          refine ⟨g3, l', ?_, r6, F2.zX.tr f3⟩
          rw [ze, ze2, qB_s]
          exact ze3
        · intro n g t l y hn ht h ha hl hy h31 hs
          obtain ⟨n, rfl⟩ : ∃ n', n = n' + 1 := ⟨n - 1, by omega⟩
          obtain ⟨g1, ze, hv1, b1, f1⟩ := mgo n g t l h ha
          obtain ⟨g2, l1, ze2, r1, -, f2⟩ := hM g1 t l y ht (by omega) hv1 b1 (by omega) ((f1.2.1 _ _ (by omega)).trans h31)
          obtain ⟨r2, r3, r4, r5⟩ := r1 rfl
          have f2' : qF (sQM t l (140 * t + y)) g1 g2 := f2
          have F2 : qF (sQM t l (140 * t + y)) g g2 := (f1.mono fun a k w => sQM_L (sLM_T w)).tr f2'
          have s2 : mCls t y l g2 cv := hs.cp (fun k hk => ⟨F2.2.1 _ _ (by unfold sQM sLM; omega), F2.2.1 _ _ (by unfold sQM sLM; omega)⟩) (fun q hq => ⟨F2.2.1 _ _ (by unfold sQM sLM; omega), F2.2.1 _ _ (by unfold sQM sLM; omega), F2.2.1 _ _ (by unfold sQM sLM; omega)⟩)
          obtain ⟨g3, l', y', ze3, r6, f3⟩ := cM n g2 t l1 (y + 1) (by omega) ht (h.q F2) r2 r3 (by omega) r4 (s2.snoc r5 ht (by omega) (by omega))
          refine ⟨g3, l', y', ?_, r6, (F2.mono fun a k w => sRM_Q (by omega) w).tr f3⟩
          rw [ze, ze2, qB_s]
          exact ze3
    · exact ⟨_, _, cv, mSk_le hi, hk, (d_rl_end hT hi hc).1, (d_rl_end hT hi hc).2⟩
theorem d_read (hT : mTpOk T) : ∃ (ok : Bool) (P : Nat) (cv : mCv), P ≤ T.1 ∧ kOk cv ∧
    (∀ g, vTpX T g → ∃ g' l', f_X5_read g = some (rV ok P, g') ∧ (ok = true → g'.2.1 11 2 = Int32.ofNat l' ∧ l' ≤ 256 ∧ xCls (g'.2.1 13) 0 l' cv) ∧ qF (sLX 0) g g') ∧
    (∀ g t, t < 5 → vTpM T g → ∃ g' l' y', f_X12_readLaw (Int32.ofNat t) g = some (rV ok P, g') ∧ (ok = true → l' ≤ 520 ∧ y' ≤ 140 ∧ g'.2.1 531 t = Int32.ofNat y' ∧ mCls t y' l' g' cv) ∧ qF (sRM t) g g') := by
  have h240 := hT.1
  obtain ⟨ok1, P1, cv1, a1, a2, a3, hX, hM⟩ := d_clauseL (i := 0) hT (by omega)
  have xh : ∀ g, vTpX T g → ∃ g1, f_X5_read g = zB (f_X5_clause g1) (fun v7 g8 => f_X5_read_21 zFu v7 0 g8) ∧ vTpX T g1 ∧ g1.2.1 1 2 = Int32.ofNat 0 ∧ g1.2.1 11 2 = Int32.ofNat 0 ∧ qF (sLX 0) g g1 := fun g h => by
    have F : qF (sLX 0) g (gsI (gsI g 1 2 0) 11 2 0) := (qF.rfl'.sI (by unfold sLX; omega)).sI (by unfold sLX; omega)
    refine ⟨gsI (gsI g 1 2 0) 11 2 0, ?_, h.l F, (qs_In (by omega)).trans qs_Ie, qs_Ie, F⟩
    unfold f_X5_read f_X9_rewind f_X4_clear
    rw [qB_s, qB_s]
  have mh : ∀ g t, t < 5 → vTpM T g → ∃ g1, f_X12_readLaw (Int32.ofNat t) g = zB (f_X12_clause g1) (fun v4 g5 => f_X12_readLaw_9 zFu g5) ∧ vTpM T g1 ∧ vAtM 0 0 t 0 g1 ∧ g1.2.1 531 t = Int32.ofNat 0 ∧ qF (sRM t) g g1 := fun g t ht h => by
    have F : qF (sRM t) g (gsI (gsI (gsI (gsI (gsI (gsI g 526 14 (Int32.ofNat t)) 526 3 0) 526 4 (-1)) 526 5 0) 530 t 0) 531 t 0) := (((((qF.rfl'.sI (by unfold sRM; omega)).sI (by unfold sRM; omega)).sI (by unfold sRM; omega)).sI (by unfold sRM; omega)).sI (by unfold sRM; omega)).sI (by unfold sRM; omega)
    refine ⟨_, ?_, h.fr F (by unfold sRM; omega) (fun k => by unfold sRM; omega), ⟨?_, ?_, ?_, ?_, ?_⟩, qs_Ie, F⟩
    · unfold f_X12_readLaw f_X12_open
      rw [if_pos (qi_zib ht (by omega)), if_pos (qi_zib ht (by omega)), qi_ix (by omega), qB_s]
    · rw [qs_In (by omega), qs_In (by omega), qs_In (by omega), qs_In (by omega), qs_Ie]; rfl
    · rw [qs_In (by omega), qs_In (by omega), qs_In (by omega), qs_Ie]
    · rw [qs_In (by omega), qs_In (by omega), qs_Ie]; rfl
    · rw [qs_In (by omega), qs_In (by omega), qs_In (by omega), qs_In (by omega), qs_In (by omega), qs_Ie]
    · rw [qs_In (by omega), qs_Ie]; rfl
  cases ok1 with
  | false =>
    refine ⟨false, P1, mNone, a1, kOk.nil, ?_, ?_⟩
    · intro g h
      obtain ⟨g1, ze, hv1, p1, q1, f1⟩ := xh g h
      obtain ⟨g2, l', ze2, p2, -, f2⟩ := hX g1 0 hv1 p1 (Nat.le_refl _) q1
      refine ⟨g2, 0, ?_, fun w => (by cases w), f1.tr f2⟩
      rw [ze, ze2, qB_s]
      show fb_X5_read_21 (f_X5_read_21 999999) (mB false) 0 g2 = _
      unfold fb_X5_read_21 f_X5_read_55 f_X5_read_73 f_X9_place
      rw [if_pos (show mB false = 0 from rfl), if_pos (show mB false = 0 from rfl), qB_s, show gI g2 1 2 = Int32.ofNat P1 from p2]
      rfl
    · intro g t ht h
      obtain ⟨g1, ze, hv1, b1, c31, f1⟩ := mh g t ht h
      obtain ⟨g2, l', ze2, -, r2, f2⟩ := hM g1 t 0 0 ht (by omega) hv1 b1 (Nat.le_refl _) c31
      have e4 := r2 rfl
      refine ⟨g2, 0, 0, ?_, fun w => (by cases w), f1.tr (f2.mono fun a k w => sRM_Q (by omega) w)⟩
      rw [ze, ze2, qB_s]
      show fb_X12_readLaw_9 (f_X12_readLaw_9 999999) g2 = _
      unfold fb_X12_readLaw_9
      rw [if_pos (show ¬ gI g2 526 4 = (-1 : Int32) by rw [show gI g2 526 4 = _ from e4]; exact qi_ne_m1 (by omega))]
      exact m_43w e4 (by omega)
  | true =>
    have a2 := a2 rfl
    obtain ⟨ok, P, cv', c1, c2, cX, cM⟩ := d_rl hT (T.1 - P1) P1 (mThen mNone cv1) (Nat.le_refl _) a1 (kOk.nil.thn a3)
    refine ⟨ok, P, cv', c1, c2, ?_, ?_⟩
    · intro g h
      obtain ⟨g1, ze, hv1, p1, q1, f1⟩ := xh g h
      obtain ⟨g2, l1, ze2, p2, r2, f2⟩ := hX g1 0 hv1 p1 (Nat.le_refl _) q1
      obtain ⟨r3, r4, r5⟩ := r2 rfl
      have F2 : qF (sLX 0) g g2 := f1.tr f2
      obtain ⟨g3, l', ze3, r6, f3⟩ := cX zFu 0 g2 l1 (by show _ < 1000000; omega) (by omega) (h.l F2) p2 r4 r3 ((xCls.nil (K := g2.2.1 13) (s := 0)).seq r5)
      refine ⟨g3, l', ?_, r6, F2.tr f3⟩
      rw [ze, ze2, qB_s]
      exact ze3
    · intro g t ht h
      obtain ⟨g1, ze, hv1, b1, c31, f1⟩ := mh g t ht h
      obtain ⟨g2, l1, ze2, r1, -, f2⟩ := hM g1 t 0 0 ht (by omega) hv1 b1 (Nat.le_refl _) c31
      obtain ⟨r2, r3, r4, r5⟩ := r1 rfl
      have F2 : qF (sRM t) g g2 := f1.tr (f2.mono fun a k w => sRM_Q (by omega) w)
      obtain ⟨g3, l', y', ze3, r6, f3⟩ := cM zFu g2 t l1 1 (by show _ < 1000000; omega) ht (h.fr F2 (by unfold sRM; omega) (fun k => by unfold sRM; omega)) r2 r3 (by omega) r4 ((mCls.nil (t := t) (R := g2)).snoc r5 ht (by omega) (by omega))
      refine ⟨g3, l', y', ?_, r6, F2.tr f3⟩
      rw [ze, ze2, qB_s]
      exact ze3
end AY
