/-! ===== both sides: a LAW's TEXT: signs and atoms ===== -/
def sLX (l a k : Nat) : Prop := (a = 1 ∧ k = 2) ∨ (a = 11 ∧ k = 2) ∨ (a = 13 ∧ l ≤ k)
def sLM (t l a k : Nat) : Prop := (a = 526 ∧ (k = 3 ∨ k = 4 ∨ k = 5)) ∨ (a = 530 ∧ k = t) ∨ ((a = 528 ∨ a = 529) ∧ 520 * t + l ≤ k ∧ k < 520 * t + 520)
def vAtM (i d t l : Nat) (g : zSg) : Prop := g.2.1 526 3 = Int32.ofNat i ∧ g.2.1 526 4 = -1 ∧ g.2.1 526 5 = Int32.ofNat d ∧ g.2.1 526 14 = Int32.ofNat t ∧ g.2.1 530 t = Int32.ofNat l
def vFl (P t fb : Nat) (g : zSg) : Prop := g.2.1 526 4 = Int32.ofNat P ∧ g.2.1 526 14 = Int32.ofNat t ∧ ∃ l, l ≤ fb ∧ g.2.1 530 t = Int32.ofNat l
def jX (T : mTk) (d w : Nat) (X : Int32 → zSg → Option (Int32 × zSg)) (i : Nat) (ok : Bool) (P k : Nat) (v : mV) : Prop := ∀ g l, vTpX T g → g.2.1 1 2 = Int32.ofNat i → l ≤ i → g.2.1 11 2 = Int32.ofNat l → ∃ g', X (Int32.ofNat d) g = some (mB ok, g') ∧ g'.2.1 1 2 = Int32.ofNat P ∧ (ok = true → g'.2.1 11 2 = Int32.ofNat (l + k) ∧ xSeg (g'.2.1 13) l (l + k) w v) ∧ qF (sLX (cond ok l 0)) g g'
def jM (T : mTk) (d w fb : Nat) (M : zSg → Option (Unit × zSg)) (i : Nat) (ok : Bool) (P k : Nat) (v : mV) : Prop := ∀ g t l, t < 5 → vTpM T g → vAtM i d t l g → l ≤ i → ∃ g', M g = some ((), g') ∧ (ok = true → vAtM P d t (l + k) g' ∧ mSeg t (g'.2.1 528) (g'.2.1 529) l (l + k) w v) ∧ (ok = false → vFl P t fb g') ∧ qF (sLM t (cond ok l 0)) g g'
/-- both read the same here, and mean the same by it -/
def jN (T : mTk) (d w fb : Nat) (tv : Bool) (X : Int32 → zSg → Option (Int32 × zSg)) (M : zSg → Option (Unit × zSg)) : Prop := ∀ i, i ≤ T.1 → ∃ (ok : Bool) (P k : Nat) (v : mV), P ≤ T.1 ∧ (ok = true → i + k ≤ P ∧ 1 ≤ k ∧ mVb v ∧ (tv = true → mVt v)) ∧ jX T d w X i ok P k v ∧ jM T d w fb M i ok P k v
theorem vTpX.l {T : mTk} {l : Nat} {g g' : zSg} (h : vTpX T g) (hf : qF (sLX l) g g') : vTpX T g' := h.fr hf (by unfold sLX; omega) (fun k => by unfold sLX; omega)
theorem vTpM.l {T : mTk} {t l : Nat} {g g' : zSg} (h : vTpM T g) (hf : qF (sLM t l) g g') : vTpM T g' := h.fr hf (by unfold sLM; omega) (fun k => by unfold sLM; omega)
theorem qF.zX {l : Nat} {g g' : zSg} (h : qF (sLX l) g g') : qF (sLX 0) g g' := h.mono fun a k w => by unfold sLX at w ⊢; omega
theorem qF.zM {t l : Nat} {g g' : zSg} (h : qF (sLM t l) g g') : qF (sLM t 0) g g' := h.mono fun a k w => by unfold sLM at w ⊢; omega
theorem sLX_T {l a k : Nat} (h : sTX a k) : sLX l a k := Or.inl h
theorem sLM_T {t l a k : Nat} (h : a = 526 ∧ k = 3) : sLM t l a k := Or.inl ⟨h.1, Or.inl h.2⟩
section AQ
variable {T : mTk} {g : zSg}
theorem x_addc {l : Nat} {x : Int32} (h : g.2.1 11 2 = Int32.ofNat l) (hl : l < 256) : f_X4_add 11 x g = some ((), gsI (gsI g 13 l x) 11 2 (Int32.ofNat (l + 1))) := by
  unfold f_X4_add
  rw [show gI g 11 2 = Int32.ofNat l from h, if_neg (show ¬ (256 : Int32) ≤ Int32.ofNat l by rw [show (256 : Int32) = Int32.ofNat 256 from rfl, qi_le (by omega) (by omega)]; omega), show f_X7_set (11 + 1) (Int32.ofNat l) x g = some ((), gsI g 13 l x) from q_set (a := 12) (n := 256) rfl (by decide) hl, qB_s, show gI (gsI g 13 l x) 11 2 + 1 = Int32.ofNat (l + 1) by rw [show gI (gsI g 13 l x) 11 2 = Int32.ofNat l from (qs_In (by omega)).trans h]; exact qi_add l 1]
theorem m_put {t l : Nat} {x y : Int32} (ht : g.2.1 526 14 = Int32.ofNat t) (ht5 : t < 5) (h : g.2.1 530 t = Int32.ofNat l) (hl : l < 520) : ∃ g', f_X12_put x y g = some ((), g') ∧ g'.2.1 528 (520 * t + l) = x ∧ g'.2.1 529 (520 * t + l) = y ∧ g'.2.1 530 t = Int32.ofNat (l + 1) ∧ qF (fun a k => (a = 530 ∧ k = t) ∨ ((a = 528 ∨ a = 529) ∧ k = 520 * t + l)) g g' := by
  have z5 : zib (Int32.ofNat t) 5 = true := qi_zib ht5 (by omega)
  have zl : zib (Int32.ofNat (520 * t + l)) 2600 = true := qi_zib (by omega) (by omega)
  have e14 : gI g 526 14 = Int32.ofNat t := ht
  have e30 : gI g 530 t = Int32.ofNat l := h
  have ea : (520 : Int32) * Int32.ofNat t + Int32.ofNat l = Int32.ofNat (520 * t + l) := (congrArg (· + Int32.ofNat l) (qi_mul 520 t)).trans (qi_add _ _)
  have et : ix (Int32.ofNat t) = t := qi_ix (by omega)
  have el : ix (Int32.ofNat (520 * t + l)) = 520 * t + l := qi_ix (by omega)
  have b14 : gI (gsI g 528 (520 * t + l) x) 526 14 = Int32.ofNat t := (qs_In (by omega)).trans ht
  have b30 : gI (gsI g 528 (520 * t + l) x) 530 t = Int32.ofNat l := (qs_In (by omega)).trans h
  have c14 : gI (gsI (gsI g 528 (520 * t + l) x) 529 (520 * t + l) y) 526 14 = Int32.ofNat t := (qs_In (by omega)).trans b14
  have c30 : gI (gsI (gsI g 528 (520 * t + l) x) 529 (520 * t + l) y) 530 t = Int32.ofNat l := (qs_In (by omega)).trans b30
  refine ⟨gsI (gsI (gsI g 528 (520 * t + l) x) 529 (520 * t + l) y) 530 t (Int32.ofNat (l + 1)), ?_, ?_, ?_, qs_Ie, ((qF.rfl'.sI (Or.inr ⟨Or.inl rfl, rfl⟩)).sI (Or.inr ⟨Or.inr rfl, rfl⟩)).sI (Or.inl ⟨rfl, rfl⟩)⟩
  · unfold f_X12_put
    simp only [e14, et, e30, ea, el, b14, b30, c14, c30, z5, zl, if_true]
    rw [show Int32.ofNat l + 1 = Int32.ofNat (l + 1) from qi_add l 1]
  · rw [qs_In (by omega), qs_In (by omega), qs_Ie]
  · rw [qs_In (by omega), qs_Ie]
def mLet (c : Nat) : Option Nat := if c = 107 then some 0 else if c = 102 then some 1 else if c = 110 then some 2 else if c = 118 then some 3 else if c = 116 then some 4 else if c = 111 then some 5 else none
theorem mLet_x : ∀ c, c < 256 → ¬ i2ch (Int32.ofNat c) < 0 ∧ zidx (i2ch (Int32.ofNat c)) = mOpt (mLet c) := fun c hc => of_decide_eq_true (List.all_eq_true.mp (by decide +kernel : (List.range 256).all (fun c => decide (¬ i2ch (Int32.ofNat c) < 0 ∧ zidx (i2ch (Int32.ofNat c)) = mOpt (mLet c))) = true) c (List.mem_range.mpr hc))
theorem mLet_lt {c j : Nat} (h : mLet c = some j) : j < 6 ∧ 97 ≤ c := by
  unfold mLet at h
  repeat' split at h
  all_goals first | (cases h; done) | (have := Option.some.inj h; omega)
theorem m_letterOf {i : Nat} (hT : mTpOk T) : f_X12_letterOf (mAtM T i) g = some (mOpt (mLet (mAt T i)), g) := by
  by_cases hi : i < T.1
  · have hb := hT.2 i hi
    rw [show mAtM T i = Int32.ofNat (T.2 i) from if_pos hi, show mAt T i = T.2 i from if_pos hi]
    generalize T.2 i = c at hb
    have nn : ∀ (d : Nat) (x : Int32), x = Int32.ofNat d → d < 256 → c ≠ d → ¬ Int32.ofNat c = x := fun d x hx hd h w => q_ne (by omega) (by omega) h (w.trans hx)
    by_cases h1 : c = 107
    · subst h1; rfl
    by_cases h2 : c = 102
    · subst h2; rfl
    by_cases h3 : c = 110
    · subst h3; rfl
    by_cases h4 : c = 118
    · subst h4; rfl
    by_cases h5 : c = 116
    · subst h5; rfl
    by_cases h6 : c = 111
    · subst h6; rfl
    unfold f_X12_letterOf mLet
    rw [if_pos (nn 107 107 rfl (by omega) h1), if_pos (nn 102 102 rfl (by omega) h2), if_pos (nn 110 110 rfl (by omega) h3), if_pos (nn 118 118 rfl (by omega) h4), if_pos (nn 116 116 rfl (by omega) h5), if_pos (nn 111 111 rfl (by omega) h6), if_neg h1, if_neg h2, if_neg h3, if_neg h4, if_neg h5, if_neg h6]
    rfl
  · rw [show mAtM T i = -1 from if_neg hi, show mAt T i = 0 from if_neg hi]
    rfl
theorem m_plain {j : Nat} (hT : mTpOk T) (h : vTpM T g) (hp : g.2.1 526 3 = Int32.ofNat j) (hw : g.2.1 526 4 = -1) (hj : j ≤ T.1) : ∃ g' q, q ≤ 4 ∧ mNd T j q = q ∧ f_X12_plainNumber g = some (Int32.ofNat (mVal T j q), g') ∧ ((mNq T j 4 = q ∧ g'.2.1 526 3 = Int32.ofNat (j + q) ∧ g'.2.1 526 4 = -1) ∨ (mNq T j 4 = 5 ∧ g'.2.1 526 4 = Int32.ofNat (j + 4))) ∧ qF sTM g g' := by
  have h240 := hT.1
  have key : ∀ r n t g1, t + r = 4 → r < n → mNd T j t = t → g1.2.1 526 3 = Int32.ofNat (j + t) → g1.2.1 526 4 = -1 → qF sTM g g1 → ∃ g' q, q ≤ 4 ∧ mNd T j q = q ∧ f_X12_plainNumber_4 n (Int32.ofNat (mVal T j t)) (Int32.ofNat t) g1 = some (Int32.ofNat (mVal T j q), g') ∧ ((mNq T j 4 = q ∧ g'.2.1 526 3 = Int32.ofNat (j + q) ∧ g'.2.1 526 4 = -1) ∨ (mNq T j 4 = 5 ∧ g'.2.1 526 4 = Int32.ofNat (j + 4))) ∧ qF sTM g g' := by
    intro r
    induction r with
    | zero =>
      intro n t g1 h1 h2 h3 h4 h5 f
      obtain ⟨n, rfl⟩ : ∃ n', n = n' + 1 := ⟨n - 1, by omega⟩
      have e : t = 4 := by omega
      subst e
      have hv := h.fr f (by unfold sTM; omega) (fun k => by unfold sTM; omega)
      cases hd : mDg (mAt T (j + 4)) with
      | true =>
        refine ⟨gsI g1 526 4 (Int32.ofNat (j + 4)), 4, by omega, h3, ?_, Or.inr ⟨mNd_go h3 hd, qs_Ie⟩, f.sI ⟨rfl, Or.inr rfl⟩⟩
        show fb_X12_plainNumber_4 _ _ _ g1 = _
        unfold fb_X12_plainNumber_4 f_X12_plainNumber_48
        rw [if_pos (by decide), m_here hT hv h4 (by omega), qB_s, m_isDigit hT, qB_s, hd, if_neg (by decide), m_bad h5 h4, qB_s]
      | false =>
        refine ⟨g1, 4, by omega, h3, ?_, Or.inl ⟨mNd_stop h3 hd 5 (by omega), h4, h5⟩, f⟩
        show fb_X12_plainNumber_4 _ _ _ g1 = _
        unfold fb_X12_plainNumber_4 f_X12_plainNumber_48
        rw [if_pos (by decide), m_here hT hv h4 (by omega), qB_s, m_isDigit hT, qB_s, hd, if_pos (by decide)]
    | succ r ih =>
      intro n t g1 h1 h2 h3 h4 h5 f
      obtain ⟨n, rfl⟩ : ∃ n', n = n' + 1 := ⟨n - 1, by omega⟩
      have hv := h.fr f (by unfold sTM; omega) (fun k => by unfold sTM; omega)
      have hv9 := mVal_9999 h3 (by omega)
      have n4 : ¬ (4 : Int32) ≤ Int32.ofNat t := by rw [show (4 : Int32) = Int32.ofNat 4 from rfl, qi_le (by omega) (by omega)]; omega
      cases hd : mDg (mAt T (j + t)) with
      | true =>
        have hdb := mDg_b hd
        obtain ⟨g', q, k1, k2, ze, k3, f'⟩ := ih n (t + 1) (gsI g1 526 3 (Int32.ofNat (j + (t + 1)))) (by omega) (by omega) (mNd_go h3 hd) qs_Ie ((qs_In (by omega)).trans h5) (f.sI ⟨rfl, Or.inl rfl⟩)
        refine ⟨g', q, k1, k2, ?_, k3, f'⟩
        show fb_X12_plainNumber_4 _ _ _ g1 = _
        unfold fb_X12_plainNumber_4
        rw [if_neg n4, m_here hT hv h4 (by omega), qB_s, m_isDigit hT, qB_s, hd, if_neg (by decide), m_here hT hv h4 (by omega), qB_s, mAtM_d hd, show gI g1 526 3 + 1 = Int32.ofNat (j + (t + 1)) by rw [show gI g1 526 3 = Int32.ofNat (j + t) from h4]; exact qi_add (j + t) 1, show Int32.ofNat t + 1 = Int32.ofNat (t + 1) from qi_add t 1]
        rw [show (10 : Int32) * Int32.ofNat (mVal T j t) + Int32.ofNat (mAt T (j + t)) - 48 = Int32.ofNat (mVal T j (t + 1)) by
          show Int32.ofNat 10 * Int32.ofNat (mVal T j t) + Int32.ofNat (mAt T (j + t)) - Int32.ofNat 48 = Int32.ofNat (mVal T j t * 10 + (mAt T (j + t) - 48))
          rw [qi_mul, qi_add, qi_sub (by omega)]
          congr 1
          omega]
        exact ze
      | false =>
        refine ⟨g1, t, by omega, h3, ?_, Or.inl ⟨mNd_stop h3 hd 5 (by omega), h4, h5⟩, f⟩
        show fb_X12_plainNumber_4 _ _ _ g1 = _
        unfold fb_X12_plainNumber_4 f_X12_plainNumber_48
        rw [if_neg n4, m_here hT hv h4 (by omega), qB_s, m_isDigit hT, qB_s, hd, if_pos (by decide), m_here hT hv h4 (by omega), qB_s, m_isDigit hT, qB_s, hd, if_pos (by decide)]
  exact key 4 zFu 0 g (by omega) (by show _ < 1000000; omega) rfl hp hw qF.rfl'
theorem m_opens {i d t l : Nat} (h : vAtM i d t l g) (hd : d < 6) : f_X12_opens g = some ((), gsI (gsI g 526 5 (Int32.ofNat (d + 1))) 526 3 (Int32.ofNat (i + 1))) := by
  unfold f_X12_opens f_X12_opens_13
  rw [show gI g 526 5 = Int32.ofNat d from h.2.2.1, if_pos (show ¬ Int32.ofNat d = (6 : Int32) from q_ne (d := 6) (by omega) (by omega) (by omega)), show Int32.ofNat d + 1 = Int32.ofNat (d + 1) from qi_add d 1, show gI (gsI g 526 5 (Int32.ofNat (d + 1))) 526 3 + 1 = Int32.ofNat (i + 1) by rw [show gI (gsI g 526 5 (Int32.ofNat (d + 1))) 526 3 = Int32.ofNat i from (qs_In (by omega)).trans h.1]; exact qi_add i 1]
theorem m_opens6 {i t l : Nat} (h : vAtM i 6 t l g) (hi : i < 100000) : ∃ g', f_X12_opens g = some ((), g') ∧ g'.2.1 526 4 = Int32.ofNat i ∧ qF (fun a k => a = 526 ∧ (k = 3 ∨ k = 4 ∨ k = 5)) g g' := by
  unfold f_X12_opens f_X12_opens_13
  rw [show gI g 526 5 = Int32.ofNat 6 from h.2.2.1, if_neg (fun w => w rfl), m_bad h.2.1 h.1, qB_s]
  exact ⟨_, rfl, by rw [qs_In (by omega), qs_In (by omega), qs_Ie], ((qF.rfl'.sI (by omega)).sI (by omega)).sI (by omega)⟩
theorem m_closes1 {i d t l c : Nat} (hT : mTpOk T) (hv : vTpM T g) (h : vAtM i (d + 1) t l g) (hi : i ≤ T.1) (hc : 1 ≤ c) (hc2 : c < 256) (hd : d < 100) : ∃ g', f_X12_closes (Int32.ofNat c) g = some ((), g') ∧ (mAt T (mSk T i) = c → vAtM (mSk T i + 1) d t l g') ∧ (mAt T (mSk T i) ≠ c → g'.2.1 526 4 = Int32.ofNat (mSk T i)) ∧ qF (fun a k => a = 526 ∧ (k = 3 ∨ k = 4 ∨ k = 5)) g g' := by
  have h240 := hT.1
  obtain ⟨g1, ze, p1, f1⟩ := m_look hT hv h.1 (by omega)
  have F1 : qF (fun a k => a = 526 ∧ (k = 3 ∨ k = 4 ∨ k = 5)) g g1 := f1.mono fun a k w => ⟨w.1, Or.inl w.2⟩
  have e4 : g1.2.1 526 4 = -1 := (f1.2.1 _ _ (by omega)).trans h.2.1
  have e5 : g1.2.1 526 5 = Int32.ofNat (d + 1) := (f1.2.1 _ _ (by omega)).trans h.2.2.1
  have hq : (mAtM T (mSk T i) = Int32.ofNat c) = (mAt T (mSk T i) = c) := mAtM_eq hT hc hc2
  unfold f_X12_closes f_X12_closes_20
  rw [if_neg (fun w => w h.2.1), ze, qB_s]
  by_cases q : mAt T (mSk T i) = c
  · rw [if_pos (hq.mpr q), show gI g1 526 3 + 1 = Int32.ofNat (mSk T i + 1) by rw [show gI g1 526 3 = Int32.ofNat (mSk T i) from p1]; exact qi_add _ 1, show gI (gsI g1 526 3 (Int32.ofNat (mSk T i + 1))) 526 5 - 1 = Int32.ofNat d by rw [show gI (gsI g1 526 3 (Int32.ofNat (mSk T i + 1))) 526 5 = Int32.ofNat (d + 1) from (qs_In (by omega)).trans e5]; exact qi_sub (a := d + 1) (b := 1) (by omega)]
    refine ⟨_, rfl, fun _ => ⟨(qs_In (by omega)).trans qs_Ie, ?_, qs_Ie, ?_, ?_⟩, fun w => absurd q w, (F1.sI (by omega)).sI (by omega)⟩
    · rw [qs_In (by omega), qs_In (by omega)]; exact e4
    · rw [qs_In (by omega), qs_In (by omega), f1.2.1 _ _ (by omega)]; exact h.2.2.2.1
    · rw [qs_In (by omega), qs_In (by omega), f1.2.1 _ _ (by omega)]; exact h.2.2.2.2
  · rw [if_neg (fun w => q (hq.mp w)), m_bad e4 p1, qB_s]
    refine ⟨_, rfl, fun w => absurd w q, fun _ => ?_, ((F1.sI (by omega)).sI (by omega)).sI (by omega)⟩
    rw [qs_In (by omega), qs_In (by omega), qs_Ie]
theorem m_closes0 {P : Nat} {c : Int32} (h : g.2.1 526 4 = Int32.ofNat P) (hP : P < 100000) : ∃ g', f_X12_closes c g = some ((), g') ∧ g'.2.1 526 4 = Int32.ofNat P ∧ qF (fun a k => a = 526 ∧ (k = 3 ∨ k = 5)) g g' := by
  unfold f_X12_closes f_X12_closes_20
  rw [if_pos (show ¬ gI g 526 4 = (-1 : Int32) by rw [show gI g 526 4 = Int32.ofNat P from h]; exact qi_ne_m1 hP)]
  exact ⟨_, rfl, by rw [qs_In (by omega), qs_In (by omega)]; exact h, (qF.rfl'.sI (by omega)).sI (by omega)⟩
theorem vFl.fr {P t fb fb' : Nat} {S : Nat → Nat → Prop} {g' : zSg} (h : vFl P t fb g) (hf : qF S g g') (h1 : g'.2.1 526 4 = Int32.ofNat P) (h2 : ¬ S 526 14) (h3 : ¬ S 530 t) (hfb : fb ≤ fb') : vFl P t fb' g' := by
  obtain ⟨a, b, l, hl, c⟩ := h
  exact ⟨h1, (hf.2.1 _ _ h2).trans b, l, by omega, (hf.2.1 _ _ h3).trans c⟩
theorem d_atom {d fbS fb : Nat} {rsX : Int32 → zSg → Option (Int32 × zSg)} {rsM : zSg → Option (Unit × zSg)} (hT : mTpOk T) (hd : d ≤ 6) (hS : d < 6 → jN T (d + 1) (13 - 2 * d) fbS false rsX rsM) (hf : 241 ≤ fb) (hf2 : fbS ≤ fb) : jN T d (13 - 2 * d) fb false (f_X5_atom rsX) (f_X12_atom rsM) := by
  intro i hi
  have h240 := hT.1
  have hjl := mSk_le (T := T) hi
  have hjg := mSk_ge (T := T) (i := i)
  have hlt := mAt_lt (i := mSk T i) hT
  by_cases hc : mAt T (mSk T i) = 91
  · have hin : mSk T i < T.1 := (mAt_in hT).mp (by omega)
    have e91 : mAtM T (mSk T i) = Int32.ofNat 91 := by rw [mAtM_eq hT (by omega) (by omega)]; exact hc
    have x0 : ∀ g l, vTpX T g → g.2.1 1 2 = Int32.ofNat i → g.2.1 11 2 = Int32.ofNat l → ∃ g1, f_X5_atom rsX (Int32.ofNat d) g = (if Int32.ofNat d < (6 : Int32) then zB (rsX (Int32.ofNat (d + 1)) (gsI g1 1 2 (Int32.ofNat (mSk T i + 1)))) (fun v28 g29 => if v28 = 0 then some (0, g29) else zB (f_X9_take (Int32.ofNat 93) g29) (fun v32 g33 => if v32 = 0 then some (0, g33) else some (1, g33))) else some (0, g1)) ∧ g1.2.1 1 2 = Int32.ofNat (mSk T i) ∧ g1.2.1 11 2 = Int32.ofNat l ∧ qF (sLX l) g g1 := fun g l h hp h11 => by
      obtain ⟨g1, ze1, p1, f1⟩ := x_next hT h hp hi
      refine ⟨g1, ?_, p1, (f1.2.1 _ _ (by unfold sTX; omega)).trans h11, f1.mono fun a k w => sLX_T w⟩
      unfold f_X5_atom f_X9_skip
      rw [ze1, qB_s, hc, if_neg (by decide), qB_s, show gI g1 1 2 + 1 = Int32.ofNat (mSk T i + 1) by rw [show gI g1 1 2 = Int32.ofNat (mSk T i) from p1]; exact qi_add _ 1, show Int32.ofNat d + 1 = Int32.ofNat (d + 1) from qi_add d 1]
      rfl
    have m0 : ∀ g, vTpM T g → g.2.1 526 3 = Int32.ofNat i → ∃ g1, f_X12_atom rsM g = zB (f_X12_opens g1) (fun v16 g17 => if ¬ (gI g17 526 4) = (-1) then some ((), g17) else zB (rsM g17) (fun v20 g21 => zB (f_X12_closes (Int32.ofNat 93) g21) (fun v23 g24 => some ((), g24)))) ∧ g1.2.1 526 3 = Int32.ofNat (mSk T i) ∧ qF (fun a k => a = 526 ∧ k = 3) g g1 := fun g h hp => by
      obtain ⟨g1, ze1, p1, f1⟩ := m_look hT h hp (by omega)
      refine ⟨g1, ?_, p1, f1⟩
      unfold f_X12_atom
      rw [ze1, qB_s, m_isDigit hT, qB_s, hc, if_pos (by decide), m_letterOf hT, qB_s, hc, e91, if_pos (by decide), if_neg (fun w => w rfl)]
      rfl
    by_cases h6 : d < 6
    · obtain ⟨ok1, P1, k1, v1, c1, c2, cX, cM⟩ := hS h6 (mSk T i + 1) (by omega)
      cases ok1 with
      | false =>
        refine ⟨false, P1, 0, v1, c1, fun w => (by cases w), ?_, ?_⟩
        · intro g l h hp hl h11
          obtain ⟨g1, ze, p1, q1, f1⟩ := x0 g l h hp h11
          have F2 : qF (sLX l) g (gsI g1 1 2 (Int32.ofNat (mSk T i + 1))) := f1.sI (Or.inl ⟨rfl, rfl⟩)
          obtain ⟨g3, ze3, p3, -, f3⟩ := cX (gsI g1 1 2 (Int32.ofNat (mSk T i + 1))) l (h.l F2) qs_Ie (by omega) ((qs_In (by omega)).trans q1)
          refine ⟨g3, ?_, p3, fun w => (by cases w), F2.zX.tr f3⟩
          rw [ze, if_pos (by rw [show (6 : Int32) = Int32.ofNat 6 from rfl, qi_lt (by omega) (by omega)]; exact h6), ze3, qB_s, if_pos (by decide)]
          rfl
        · intro g t l ht h ha hl
          obtain ⟨g1, ze, p1, f1⟩ := m0 g h ha.1
          have F1 : qF (sLM t l) g g1 := f1.mono fun a k w => sLM_T w
          have ha1 : vAtM (mSk T i) d t l g1 := ⟨p1, (f1.2.1 _ _ (by omega)).trans ha.2.1, (f1.2.1 _ _ (by omega)).trans ha.2.2.1, (f1.2.1 _ _ (by omega)).trans ha.2.2.2.1, (f1.2.1 _ _ (by omega)).trans ha.2.2.2.2⟩
          have zo := m_opens ha1 h6
          have F2 : qF (sLM t l) g (gsI (gsI g1 526 5 (Int32.ofNat (d + 1))) 526 3 (Int32.ofNat (mSk T i + 1))) := (F1.sI (Or.inl ⟨rfl, by omega⟩)).sI (Or.inl ⟨rfl, by omega⟩)
          have ha2 : vAtM (mSk T i + 1) (d + 1) t l (gsI (gsI g1 526 5 (Int32.ofNat (d + 1))) 526 3 (Int32.ofNat (mSk T i + 1))) := ⟨qs_Ie, by rw [qs_In (by omega), qs_In (by omega)]; exact ha1.2.1, by rw [qs_In (by omega), qs_Ie], by rw [qs_In (by omega), qs_In (by omega)]; exact ha1.2.2.2.1, by rw [qs_In (by omega), qs_In (by omega)]; exact ha1.2.2.2.2⟩
          obtain ⟨g3, ze3, -, a3, f3⟩ := cM _ t l ht (h.l F2) ha2 (by omega)
          have fl := a3 rfl
          obtain ⟨g4, ze4, p4, f4⟩ := m_closes0 (c := Int32.ofNat 93) fl.1 (by omega)
          refine ⟨g4, ?_, fun w => (by cases w), fun _ => fl.fr f4 p4 (by omega) (by omega) hf2, F2.zM.tr (f3.tr (f4.mono fun a k w => Or.inl ⟨w.1, by omega⟩))⟩
          rw [ze, zo, qB_s, if_neg (fun w => w ha2.2.1), ze3, qB_s, ze4, qB_s]
      | true =>
        obtain ⟨c3, c4, c5, -⟩ := c2 rfl
        have hjl2 := mSk_le (T := T) c1
        have hjg2 := mSk_ge (T := T) (i := P1)
        by_cases h93 : mAt T (mSk T P1) = 93
        · have hin2 : mSk T P1 < T.1 := (mAt_in hT).mp (by omega)
          refine ⟨true, mSk T P1 + 1, k1, v1, by omega, fun _ => ⟨by omega, c4, c5, fun w => (by cases w)⟩, ?_, ?_⟩
          · intro g l h hp hl h11
            obtain ⟨g1, ze, p1, q1, f1⟩ := x0 g l h hp h11
            have F2 : qF (sLX l) g (gsI g1 1 2 (Int32.ofNat (mSk T i + 1))) := f1.sI (Or.inl ⟨rfl, rfl⟩)
            obtain ⟨g3, ze3, p3, a3, f3⟩ := cX (gsI g1 1 2 (Int32.ofNat (mSk T i + 1))) l (h.l F2) qs_Ie (by omega) ((qs_In (by omega)).trans q1)
            obtain ⟨g4, ze4, p4, f4⟩ := x_take (c := 93) hT ((h.l F2).l f3) p3 c1 (by omega)
            rw [if_pos h93] at p4
            rw [decide_eq_true h93] at ze4
            refine ⟨g4, ?_, p4, fun w => ⟨(f4.2.1 _ _ (by unfold sTX; omega)).trans (a3 rfl).1, (a3 rfl).2.cp fun k _ _ => f4.2.1 _ _ (by unfold sTX; omega)⟩, F2.tr (f3.tr (f4.mono fun a k w => sLX_T w))⟩
            rw [ze, if_pos (by rw [show (6 : Int32) = Int32.ofNat 6 from rfl, qi_lt (by omega) (by omega)]; exact h6), ze3, qB_s, if_neg (by decide), ze4, qB_s, if_neg (by decide)]
            rfl
          · intro g t l ht h ha hl
            obtain ⟨g1, ze, p1, f1⟩ := m0 g h ha.1
            have F1 : qF (sLM t l) g g1 := f1.mono fun a k w => sLM_T w
            have ha1 : vAtM (mSk T i) d t l g1 := ⟨p1, (f1.2.1 _ _ (by omega)).trans ha.2.1, (f1.2.1 _ _ (by omega)).trans ha.2.2.1, (f1.2.1 _ _ (by omega)).trans ha.2.2.2.1, (f1.2.1 _ _ (by omega)).trans ha.2.2.2.2⟩
            have zo := m_opens ha1 h6
            have F2 : qF (sLM t l) g (gsI (gsI g1 526 5 (Int32.ofNat (d + 1))) 526 3 (Int32.ofNat (mSk T i + 1))) := (F1.sI (Or.inl ⟨rfl, by omega⟩)).sI (Or.inl ⟨rfl, by omega⟩)
            have ha2 : vAtM (mSk T i + 1) (d + 1) t l (gsI (gsI g1 526 5 (Int32.ofNat (d + 1))) 526 3 (Int32.ofNat (mSk T i + 1))) := ⟨qs_Ie, by rw [qs_In (by omega), qs_In (by omega)]; exact ha1.2.1, by rw [qs_In (by omega), qs_Ie], by rw [qs_In (by omega), qs_In (by omega)]; exact ha1.2.2.2.1, by rw [qs_In (by omega), qs_In (by omega)]; exact ha1.2.2.2.2⟩
            obtain ⟨g3, ze3, a3, -, f3⟩ := cM _ t l ht (h.l F2) ha2 (by omega)
            obtain ⟨b1, b2⟩ := a3 rfl
            obtain ⟨g4, ze4, p4, -, f4⟩ := m_closes1 (c := 93) hT ((h.l F2).l f3) b1 c1 (by omega) (by omega) (by omega)
            refine ⟨g4, ?_, fun _ => ⟨p4 h93, b2.cp fun k _ _ => ⟨f4.2.1 _ _ (by omega), f4.2.1 _ _ (by omega)⟩⟩, fun w => (by cases w), F2.tr (f3.tr (f4.mono fun a k w => Or.inl w))⟩
            rw [ze, zo, qB_s, if_neg (fun w => w ha2.2.1), ze3, qB_s, ze4, qB_s]
        · refine ⟨false, mSk T P1, 0, v1, hjl2, fun w => (by cases w), ?_, ?_⟩
          · intro g l h hp hl h11
            obtain ⟨g1, ze, p1, q1, f1⟩ := x0 g l h hp h11
            have F2 : qF (sLX l) g (gsI g1 1 2 (Int32.ofNat (mSk T i + 1))) := f1.sI (Or.inl ⟨rfl, rfl⟩)
            obtain ⟨g3, ze3, p3, a3, f3⟩ := cX (gsI g1 1 2 (Int32.ofNat (mSk T i + 1))) l (h.l F2) qs_Ie (by omega) ((qs_In (by omega)).trans q1)
            obtain ⟨g4, ze4, p4, f4⟩ := x_take (c := 93) hT ((h.l F2).l f3) p3 c1 (by omega)
            rw [if_neg h93] at p4
            rw [decide_eq_false h93] at ze4
            refine ⟨g4, ?_, p4, fun w => (by cases w), (F2.tr (f3.tr (f4.mono fun a k w => sLX_T w))).zX⟩
            rw [ze, if_pos (by rw [show (6 : Int32) = Int32.ofNat 6 from rfl, qi_lt (by omega) (by omega)]; exact h6), ze3, qB_s, if_neg (by decide), ze4, qB_s, if_pos (by decide)]
            rfl
          · intro g t l ht h ha hl
            obtain ⟨g1, ze, p1, f1⟩ := m0 g h ha.1
            have F1 : qF (sLM t l) g g1 := f1.mono fun a k w => sLM_T w
            have ha1 : vAtM (mSk T i) d t l g1 := ⟨p1, (f1.2.1 _ _ (by omega)).trans ha.2.1, (f1.2.1 _ _ (by omega)).trans ha.2.2.1, (f1.2.1 _ _ (by omega)).trans ha.2.2.2.1, (f1.2.1 _ _ (by omega)).trans ha.2.2.2.2⟩
            have zo := m_opens ha1 h6
            have F2 : qF (sLM t l) g (gsI (gsI g1 526 5 (Int32.ofNat (d + 1))) 526 3 (Int32.ofNat (mSk T i + 1))) := (F1.sI (Or.inl ⟨rfl, by omega⟩)).sI (Or.inl ⟨rfl, by omega⟩)
            have ha2 : vAtM (mSk T i + 1) (d + 1) t l (gsI (gsI g1 526 5 (Int32.ofNat (d + 1))) 526 3 (Int32.ofNat (mSk T i + 1))) := ⟨qs_Ie, by rw [qs_In (by omega), qs_In (by omega)]; exact ha1.2.1, by rw [qs_In (by omega), qs_Ie], by rw [qs_In (by omega), qs_In (by omega)]; exact ha1.2.2.2.1, by rw [qs_In (by omega), qs_In (by omega)]; exact ha1.2.2.2.2⟩
            obtain ⟨g3, ze3, a3, -, f3⟩ := cM _ t l ht (h.l F2) ha2 (by omega)
            obtain ⟨b1, b2⟩ := a3 rfl
            obtain ⟨g4, ze4, -, p4, f4⟩ := m_closes1 (c := 93) hT ((h.l F2).l f3) b1 c1 (by omega) (by omega) (by omega)
            refine ⟨g4, ?_, fun w => (by cases w), fun _ => ⟨p4 h93, (f4.2.1 _ _ (by omega)).trans b1.2.2.2.1, l + k1, by omega, (f4.2.1 _ _ (by omega)).trans b1.2.2.2.2⟩, (F2.tr (f3.tr (f4.mono fun a k w => Or.inl w))).zM⟩
            rw [ze, zo, qB_s, if_neg (fun w => w ha2.2.1), ze3, qB_s, ze4, qB_s]
    · have e6 : d = 6 := by omega
      subst e6
      refine ⟨false, mSk T i, 0, fun _ => 0, hjl, fun w => (by cases w), ?_, ?_⟩
      · intro g l h hp hl h11
        obtain ⟨g1, ze, p1, q1, f1⟩ := x0 g l h hp h11
        refine ⟨g1, ?_, p1, fun w => (by cases w), f1.zX⟩
        rw [ze, if_neg (by decide)]
        rfl
      · intro g t l ht h ha hl
        obtain ⟨g1, ze, p1, f1⟩ := m0 g h ha.1
        have ha1 : vAtM (mSk T i) 6 t l g1 := ⟨p1, (f1.2.1 _ _ (by omega)).trans ha.2.1, (f1.2.1 _ _ (by omega)).trans ha.2.2.1, (f1.2.1 _ _ (by omega)).trans ha.2.2.2.1, (f1.2.1 _ _ (by omega)).trans ha.2.2.2.2⟩
        obtain ⟨g2, ze2, p2, f2⟩ := m_opens6 ha1 (by omega)
        refine ⟨g2, ?_, fun w => (by cases w), fun _ => ⟨p2, (f2.2.1 _ _ (by omega)).trans ha1.2.2.2.1, l, by omega, (f2.2.1 _ _ (by omega)).trans ha1.2.2.2.2⟩, (f1.mono fun a k w => sLM_T w).tr (f2.mono fun a k w => Or.inl w)⟩
        rw [ze, ze2, qB_s, if_pos (show ¬ gI g2 526 4 = (-1 : Int32) by rw [show gI g2 526 4 = _ from p2]; exact qi_ne_m1 (by omega))]
  have n91 : ¬ Int32.ofNat (mAt T (mSk T i)) = (91 : Int32) := q_ne (d := 91) (by omega) (by omega) hc
  have n91m : ¬ mAtM T (mSk T i) = (91 : Int32) := mAtM_ne (c := 91) hT rfl (by omega) (by omega) hc
  cases hdg : mDg (mAt T (mSk T i)) with
  | true =>
    have hin : mSk T i < T.1 := (mAt_in hT).mp (by have := mDg_b hdg; omega)
    have hq1 : 1 ≤ mNq T (mSk T i) 4 := by
      rcases Nat.eq_zero_or_pos (mNq T (mSk T i) 4) with q | q
      · exfalso
        have k1 : mNd T (mSk T i) 1 = 1 := mNd_go (t := 0) rfl hdg
        have : ∀ m, 1 ≤ mNd T (mSk T i) (m + 1) := fun m => by
          induction m with
          | zero => exact Nat.le_of_eq k1.symm
          | succ m ih =>
            show 1 ≤ (if mNd T (mSk T i) (m + 1) = m + 1 ∧ mDg (mAt T (mSk T i + (m + 1))) = true then m + 1 + 1 else mNd T (mSk T i) (m + 1))
            split <;> omega
        have h5 := this 4
        have : mNd T (mSk T i) (4 + 1) = 0 := q
        omega
      · exact q
    have hq5 := mNq_le (T := T) (j := mSk T i) (md := 4)
    have hqin : mSk T i + mNq T (mSk T i) 4 ≤ T.1 := mNd_in hT mNd_self hq1
    have x0 : ∀ g l, vTpX T g → g.2.1 1 2 = Int32.ofNat i → l ≤ i → g.2.1 11 2 = Int32.ofNat l → ∃ g2, f_X5_atom rsX (Int32.ofNat d) g = (if mNv T (mSk T i) 4 = (-1) then some (0, gsI (gsI g2 13 l (mNv T (mSk T i) 4)) 11 2 (Int32.ofNat (l + 1))) else some (1, gsI (gsI g2 13 l (mNv T (mSk T i) 4)) 11 2 (Int32.ofNat (l + 1)))) ∧ g2.2.1 1 2 = Int32.ofNat (mNp T (mSk T i) 4) ∧ qF sTX g g2 := fun g l h hp hl h11 => by
      obtain ⟨g1, ze1, p1, f1⟩ := x_next hT h hp hi
      obtain ⟨g2, ze2, p2, f2⟩ := x_number (md := 4) hT (h.fr f1 (by unfold sTX; omega) (fun k => by unfold sTX; omega)) p1 hjl (by omega)
      have F := f1.tr f2
      refine ⟨g2, ?_, p2, F⟩
      unfold f_X5_atom
      rw [ze1, qB_s, if_pos n91, x_isDigit (by omega), qB_s, hdg, if_neg (by decide), show (4 : Int32) = Int32.ofNat 4 from rfl, ze2, qB_s, x_addc ((F.2.1 _ _ (by unfold sTX; omega)).trans h11) (by omega), qB_s]
    have m0 : ∀ g t l, t < 5 → vTpM T g → vAtM i d t l g → l ≤ i → ∃ g2 g3 q, q ≤ 4 ∧ mNd T (mSk T i) q = q ∧ ((mNq T (mSk T i) 4 = q ∧ g2.2.1 526 3 = Int32.ofNat (mSk T i + q) ∧ g2.2.1 526 4 = -1) ∨ (mNq T (mSk T i) 4 = 5 ∧ g2.2.1 526 4 = Int32.ofNat (mSk T i + 4))) ∧ f_X12_atom rsM g = some ((), g3) ∧ g3.2.1 528 (520 * t + l) = 0 ∧ g3.2.1 529 (520 * t + l) = Int32.ofNat (mVal T (mSk T i) q) ∧ g3.2.1 530 t = Int32.ofNat (l + 1) ∧ qF sTM g g2 ∧ qF (fun a k => (a = 530 ∧ k = t) ∨ ((a = 528 ∨ a = 529) ∧ k = 520 * t + l)) g2 g3 := fun g t l ht h ha hl => by
      obtain ⟨g1, ze1, p1, f1⟩ := m_look hT h ha.1 (by omega)
      have hv1 := h.fr f1 (by omega) (fun k => by omega)
      obtain ⟨g2, q, k1, k2, ze2, k3, f2⟩ := m_plain hT hv1 p1 ((f1.2.1 _ _ (by omega)).trans ha.2.1) hjl
      have F2 : qF sTM g g2 := (f1.mono fun a k w => ⟨w.1, Or.inl w.2⟩).tr f2
      obtain ⟨g3, ze3, a1, a2, a3, f3⟩ := m_put (x := 0) (y := Int32.ofNat (mVal T (mSk T i) q)) ((F2.2.1 _ _ (by unfold sTM; omega)).trans ha.2.2.2.1) ht ((F2.2.1 _ _ (by unfold sTM; omega)).trans ha.2.2.2.2) (by omega)
      refine ⟨g2, g3, q, k1, k2, k3, ?_, a1, a2, a3, F2, f3⟩
      unfold f_X12_atom
      rw [ze1, qB_s, m_isDigit hT, qB_s, hdg, if_neg (by decide), ze2, qB_s, ze3, qB_s]
    by_cases h4 : mNq T (mSk T i) 4 ≤ 4
    · have hv9 := mVal_9999 (T := T) (i := mSk T i) mNd_self h4
      have ev : mNv T (mSk T i) 4 = Int32.ofNat (mVal T (mSk T i) (mNq T (mSk T i) 4)) := if_pos ⟨hq1, h4⟩
      have ep : mNp T (mSk T i) 4 = mSk T i + mNq T (mSk T i) 4 := if_pos h4
      have hv9' : mVal T (mSk T i) (mNq T (mSk T i) 4) < 10000 := hv9
      refine ⟨true, mSk T i + mNq T (mSk T i) 4, 1, fun _ => (mVal T (mSk T i) (mNq T (mSk T i) 4) : Int), hqin, fun _ => ⟨by omega, Nat.le_refl _, fun r hr => (by show -1000000 ≤ (mVal T (mSk T i) (mNq T (mSk T i) 4) : Int) ∧ (mVal T (mSk T i) (mNq T (mSk T i) 4) : Int) ≤ 1000000; omega), fun w => (by cases w)⟩, ?_, ?_⟩
      · intro g l h hp hl h11
        obtain ⟨g2, ze, p2, f2⟩ := x0 g l h hp hl h11
        rw [ev, if_neg (qi_ne_m1 (by omega))] at ze
        rw [ep] at p2
        refine ⟨_, ze, by rw [qs_In (by omega), qs_In (by omega)]; exact p2, fun _ => ⟨qs_Ie, (xSeg_num (n := mVal T (mSk T i) (mNq T (mSk T i) 4)) ?_ hv9').up (by omega)⟩, ((f2.mono fun a k w => sLX_T w).sI (Or.inr (Or.inr ⟨rfl, Nat.le_refl _⟩))).sI (Or.inr (Or.inl ⟨rfl, rfl⟩))⟩
        rw [qs_In (by omega), qs_Ie]
      · intro g t l ht h ha hl
        obtain ⟨g2, g3, q, k1, k2, k3, ze, a1, a2, a3, f2, f3⟩ := m0 g t l ht h ha hl
        rcases k3 with ⟨e1, e2, e3⟩ | ⟨e1, e2⟩
        · subst e1
          refine ⟨g3, ze, fun _ => ⟨⟨?_, ?_, ?_, ?_, a3⟩, (mSeg_num (n := mVal T (mSk T i) (mNq T (mSk T i) 4)) a1 a2 ht).up (by omega)⟩, fun w => (by cases w), (f2.mono fun a k w => Or.inl ⟨w.1, by have := w.2; omega⟩).tr (f3.mono fun a k w => by show sLM t l a k; unfold sLM; omega)⟩
          · rw [f3.2.1 _ _ (by omega)]; exact e2
          · rw [f3.2.1 _ _ (by omega)]; exact e3
          · rw [f3.2.1 _ _ (by omega), f2.2.1 _ _ (by unfold sTM; omega)]; exact ha.2.2.1
          · rw [f3.2.1 _ _ (by omega), f2.2.1 _ _ (by unfold sTM; omega)]; exact ha.2.2.2.1
        · omega
    · have eq5 : mNq T (mSk T i) 4 = 5 := by omega
      have ev : mNv T (mSk T i) 4 = -1 := if_neg (by omega)
      have ep : mNp T (mSk T i) 4 = mSk T i + 4 := if_neg h4
      refine ⟨false, mSk T i + 4, 0, fun _ => 0, by omega, fun w => (by cases w), ?_, ?_⟩
      · intro g l h hp hl h11
        obtain ⟨g2, ze, p2, f2⟩ := x0 g l h hp hl h11
        rw [ev, if_pos rfl] at ze
        rw [ep] at p2
        exact ⟨_, ze, by rw [qs_In (by omega), qs_In (by omega)]; exact p2, fun w => (by cases w), qF.zX (l := l) <| ((f2.mono fun a k w => sLX_T w).sI (Or.inr (Or.inr ⟨rfl, Nat.le_refl _⟩))).sI (Or.inr (Or.inl ⟨rfl, rfl⟩))⟩
      · intro g t l ht h ha hl
        obtain ⟨g2, g3, q, k1, k2, k3, ze, a1, a2, a3, f2, f3⟩ := m0 g t l ht h ha hl
        rcases k3 with ⟨e1, e2, e3⟩ | ⟨e1, e2⟩
        · omega
        · refine ⟨g3, ze, fun w => (by cases w), fun _ => ⟨?_, ?_, l + 1, by omega, a3⟩, qF.zM (l := l) <| (f2.mono fun a k w => Or.inl ⟨w.1, by have := w.2; omega⟩).tr (f3.mono fun a k w => by show sLM t l a k; unfold sLM; omega)⟩
          · rw [f3.2.1 _ _ (by omega)]; exact e2
          · rw [f3.2.1 _ _ (by omega), f2.2.1 _ _ (by unfold sTM; omega)]; exact ha.2.2.2.1
  | false =>
    obtain ⟨y1, y2⟩ := mLet_x (mAt T (mSk T i)) hlt
    cases hlet : mLet (mAt T (mSk T i)) with
    | none =>
      rw [hlet] at y2
      refine ⟨false, mSk T i, 0, fun _ => 0, hjl, fun w => (by cases w), ?_, ?_⟩
      · intro g l h hp hl h11
        obtain ⟨g1, ze1, p1, f1⟩ := x_next hT h hp hi
        refine ⟨g1, ?_, p1, fun w => (by cases w), f1.mono fun a k w => sLX_T w⟩
        unfold f_X5_atom
        rw [ze1, qB_s, if_pos n91, x_isDigit (by omega), qB_s, hdg, if_pos (by decide), if_pos y1, y2, if_neg (by decide)]
        rfl
      · intro g t l ht h ha hl
        obtain ⟨g1, ze1, p1, f1⟩ := m_look hT h ha.1 (by omega)
        have e4 : g1.2.1 526 4 = -1 := (f1.2.1 _ _ (by omega)).trans ha.2.1
        refine ⟨gsI g1 526 4 (Int32.ofNat (mSk T i)), ?_, fun w => (by cases w), fun _ => ⟨qs_Ie, ?_, l, by omega, ?_⟩, (f1.mono fun a k w => sLM_T w).sI (Or.inl ⟨rfl, by omega⟩)⟩
        · unfold f_X12_atom
          rw [ze1, qB_s, m_isDigit hT, qB_s, hdg, if_pos (by decide), m_letterOf hT, qB_s, hlet, if_pos (by decide), if_pos n91m, m_bad e4 p1, qB_s]
        · rw [qs_In (by omega), f1.2.1 _ _ (by omega)]; exact ha.2.2.2.1
        · rw [qs_In (by omega), f1.2.1 _ _ (by omega)]; exact ha.2.2.2.2
    | some j =>
      obtain ⟨hj6, hj97⟩ := mLet_lt hlet
      have hin : mSk T i < T.1 := (mAt_in hT).mp (by omega)
      rw [hlet] at y2
      have y2 : zidx (i2ch (Int32.ofNat (mAt T (mSk T i)))) = Int32.ofNat j := y2
      refine ⟨true, mSk T i + 1, 1, fun r => (r j : Int), by omega, fun _ => ⟨by omega, Nat.le_refl _, fun r hr => (by show -1000000 ≤ (r j : Int) ∧ (r j : Int) ≤ 1000000; have := hr j hj6; omega), fun w => (by cases w)⟩, ?_, ?_⟩
      · intro g l h hp hl h11
        obtain ⟨g1, ze1, p1, f1⟩ := x_next hT h hp hi
        have e11 : (gsI g1 1 2 (Int32.ofNat (mSk T i + 1))).2.1 11 2 = Int32.ofNat l := (qs_In (by omega)).trans ((f1.2.1 _ _ (by unfold sTX; omega)).trans h11)
        refine ⟨gsI (gsI (gsI g1 1 2 (Int32.ofNat (mSk T i + 1))) 13 l (-1 - Int32.ofNat j)) 11 2 (Int32.ofNat (l + 1)), ?_, by rw [qs_In (by omega), qs_In (by omega), qs_Ie], fun _ => ⟨qs_Ie, (xSeg_let (j := j) ?_ hj6).up (by omega)⟩, (((f1.mono fun a k w => sLX_T w).sI (Or.inl ⟨rfl, rfl⟩)).sI (Or.inr (Or.inr ⟨rfl, Nat.le_refl _⟩))).sI (Or.inr (Or.inl ⟨rfl, rfl⟩))⟩
        · unfold f_X5_atom f_X9_skip
          rw [ze1, qB_s, if_pos n91, x_isDigit (by omega), qB_s, hdg, if_pos (by decide), if_pos y1, y2, if_pos (show (0 : Int32) ≤ Int32.ofNat j by rw [show (0 : Int32) = Int32.ofNat 0 from rfl, qi_le (by omega) (by omega)]; omega), qB_s, show gI g1 1 2 + 1 = Int32.ofNat (mSk T i + 1) by rw [show gI g1 1 2 = Int32.ofNat (mSk T i) from p1]; exact qi_add _ 1, x_addc e11 (by omega), qB_s]
          rfl
        · rw [qs_In (by omega), qs_Ie]
          show Int32.ofInt (-1) - Int32.ofNat j = _
          rw [qj_of, qj_sub]
      · intro g t l ht h ha hl
        obtain ⟨g1, ze1, p1, f1⟩ := m_look hT h ha.1 (by omega)
        have F2 : qF (fun a k => a = 526 ∧ k = 3) g (gsI g1 526 3 (Int32.ofNat (mSk T i + 1))) := f1.sI ⟨rfl, rfl⟩
        obtain ⟨g3, ze3, a1, a2, a3, f3⟩ := m_put (g := gsI g1 526 3 (Int32.ofNat (mSk T i + 1))) (x := 1) (y := Int32.ofNat j) ((F2.2.1 _ _ (by omega)).trans ha.2.2.2.1) ht ((F2.2.1 _ _ (by omega)).trans ha.2.2.2.2) (by omega)
        refine ⟨g3, ?_, fun _ => ⟨⟨?_, ?_, ?_, ?_, a3⟩, (mSeg_let (j := j) a1 a2 hj6 ht).up (by omega)⟩, fun w => (by cases w), (F2.mono fun a k w => sLM_T w).tr (f3.mono fun a k w => by show sLM t l a k; unfold sLM; omega)⟩
        · unfold f_X12_atom
          rw [ze1, qB_s, m_isDigit hT, qB_s, hdg, if_pos (by decide), m_letterOf hT, qB_s, hlet, if_neg (show ¬ mOpt (some j) = (-1 : Int32) from qi_ne_m1 (n := j) (by omega)), show gI g1 526 3 + 1 = Int32.ofNat (mSk T i + 1) by rw [show gI g1 526 3 = Int32.ofNat (mSk T i) from p1]; exact qi_add _ 1, m_letterOf hT, qB_s, hlet, show mOpt (some j) = Int32.ofNat j from rfl, ze3, qB_s]
        · rw [f3.2.1 _ _ (by omega), qs_Ie]
        · rw [f3.2.1 _ _ (by omega), F2.2.1 _ _ (by omega)]; exact ha.2.1
        · rw [f3.2.1 _ _ (by omega), F2.2.1 _ _ (by omega)]; exact ha.2.2.1
        · rw [f3.2.1 _ _ (by omega), F2.2.1 _ _ (by omega)]; exact ha.2.2.2.1
end AQ
