/-! ===== both sides: the TAPE: signs, blanks, numbers ===== -/
abbrev mTk : Type := Nat × (Nat → Nat)
def mTpOk (T : mTk) : Prop := T.1 ≤ 240 ∧ ∀ i, i < T.1 → 1 ≤ T.2 i ∧ T.2 i ≤ 255
def vTpX (T : mTk) (g : zSg) : Prop := g.2.1 1 1 = Int32.ofNat T.1 ∧ ∀ i, i < T.1 → g.2.1 2 i = Int32.ofNat (T.2 i)
def vTpM (T : mTk) (g : zSg) : Prop := g.2.1 526 2 = Int32.ofNat T.1 ∧ ∀ i, i < T.1 → g.2.1 527 i = Int32.ofNat (T.2 i)
theorem vTpX.fr {T : mTk} {S : Nat → Nat → Prop} {g g' : zSg} (h : vTpX T g) (hf : qF S g g') (h1 : ¬ S 1 1) (h2 : ∀ k, ¬ S 2 k) : vTpX T g' := ⟨(hf.2.1 _ _ h1).trans h.1, fun i hi => (hf.2.1 _ _ (h2 i)).trans (h.2 i hi)⟩
theorem vTpM.fr {T : mTk} {S : Nat → Nat → Prop} {g g' : zSg} (h : vTpM T g) (hf : qF S g g') (h1 : ¬ S 526 2) (h2 : ∀ k, ¬ S 527 k) : vTpM T g' := ⟨(hf.2.1 _ _ h1).trans h.1, fun i hi => (hf.2.1 _ _ (h2 i)).trans (h.2 i hi)⟩
def mAt (T : mTk) (i : Nat) : Nat := if i < T.1 then T.2 i else 0
def mAtM (T : mTk) (i : Nat) : Int32 := if i < T.1 then Int32.ofNat (T.2 i) else -1
def mDg (c : Nat) : Bool := decide (48 ≤ c ∧ c ≤ 57)
theorem mDg_b {c : Nat} (h : mDg c = true) : 48 ≤ c ∧ c ≤ 57 := of_decide_eq_true h
def mSkF (T : mTk) : Nat → Nat → Nat
  | 0, i => i
  | r + 1, i => if i < T.1 ∧ T.2 i = 32 then mSkF T r (i + 1) else i
def mSk (T : mTk) (i : Nat) : Nat := mSkF T (T.1 - i) i
section AF
variable {T : mTk} {i : Nat}
theorem mAt_lt (h : mTpOk T) : mAt T i < 256 := by
  unfold mAt
  split
  · rename_i q; have := h.2 i q; omega
  · omega
theorem mAt_in (h : mTpOk T) : mAt T i ≠ 0 ↔ i < T.1 := by
  unfold mAt
  split
  · rename_i q; have := h.2 i q; omega
  · omega
theorem mAtM_eq {c : Nat} (h : mTpOk T) (hc : 1 ≤ c) (hc2 : c < 256) : (mAtM T i = Int32.ofNat c) = (mAt T i = c) := by
  unfold mAtM mAt
  split
  · rename_i q; have := h.2 i q; exact qi_inj (by omega) (by omega)
  · rw [show (-1 : Int32) = - Int32.ofNat 1 from rfl, qi_ne1' (by omega) (by omega) (by omega)]; exact (eq_false (by omega)).symm
theorem mAtM_end (h : mTpOk T) : (mAtM T i = -1) = (mAt T i = 0) := by
  unfold mAtM mAt
  split
  · rename_i q
    have := h.2 i q
    show (Int32.ofNat (T.2 i) = - Int32.ofNat 1) = _
    rw [qi_ne1 (by omega) (by omega) (by omega)]; exact (eq_false (by omega)).symm
  · exact propext ⟨fun _ => rfl, fun _ => rfl⟩
theorem mSk_b (h1 : i < T.1) (h2 : T.2 i = 32) : mSk T i = mSk T (i + 1) := by
  unfold mSk
  rw [show T.1 - i = (T.1 - (i + 1)) + 1 by omega]
  show (if i < T.1 ∧ T.2 i = 32 then mSkF T (T.1 - (i + 1)) (i + 1) else i) = _
  rw [if_pos ⟨h1, h2⟩]
theorem mSk_n (h : ¬ (i < T.1 ∧ T.2 i = 32)) : mSk T i = i := by
  unfold mSk
  cases T.1 - i with
  | zero => rfl
  | succ r =>
    show (if i < T.1 ∧ T.2 i = 32 then mSkF T r (i + 1) else i) = _
    rw [if_neg h]
theorem mSk_sp : ∀ (r i : Nat), T.1 - i ≤ r → i ≤ mSk T i ∧ (i ≤ T.1 → mSk T i ≤ T.1) ∧ ¬ (mSk T i < T.1 ∧ T.2 (mSk T i) = 32)
  | 0, i, h => by rw [mSk_n (fun q => by omega)]; exact ⟨Nat.le_refl _, fun q => q, fun q => by omega⟩
  | r + 1, i, h => by
    by_cases q : i < T.1 ∧ T.2 i = 32
    · rw [mSk_b q.1 q.2]
      obtain ⟨h1, h2, h3⟩ := mSk_sp r (i + 1) (by omega)
      exact ⟨by omega, fun _ => h2 (by omega), h3⟩
    · rw [mSk_n q]; exact ⟨Nat.le_refl _, fun w => w, q⟩
theorem mSk_ge : i ≤ mSk T i := (mSk_sp _ i (Nat.le_refl _)).1
theorem mSk_le (h : i ≤ T.1) : mSk T i ≤ T.1 := (mSk_sp _ i (Nat.le_refl _)).2.1 h
theorem mSk_id : mSk T (mSk T i) = mSk T i := mSk_n (mSk_sp _ i (Nat.le_refl _)).2.2
theorem mSk_32 : mAt T (mSk T i) ≠ 32 := by
  have h := (mSk_sp (T := T) _ i (Nat.le_refl _)).2.2
  unfold mAt
  split
  · rename_i q; exact fun w => h ⟨q, w⟩
  · omega
/-- the places that the reading of a sign changes -/
def sTX (a k : Nat) : Prop := a = 1 ∧ k = 2
def sTM (a k : Nat) : Prop := a = 526 ∧ (k = 3 ∨ k = 4)
theorem x_next {g : zSg} (hT : mTpOk T) (h : vTpX T g) (hi : g.2.1 1 2 = Int32.ofNat i) (hn : i ≤ T.1) : ∃ g', f_X9_next g = some (Int32.ofNat (mAt T (mSk T i)), g') ∧ g'.2.1 1 2 = Int32.ofNat (mSk T i) ∧ qF sTX g g' := by
  have h240 := hT.1
  have key : ∀ r m j, T.1 - j ≤ r → r < m → j ≤ T.1 → f_X9_next_5 m (Int32.ofNat j) g = some (Int32.ofNat (mAt T (mSk T j)), gsI g 1 2 (Int32.ofNat (mSk T j))) := by
    intro r
    induction r with
    | zero =>
      intro m j h1 h2 h3
      obtain ⟨m, rfl⟩ : ∃ m', m = m' + 1 := ⟨m - 1, by omega⟩
      have e : j = T.1 := by omega
      subst e
      show fb_X9_next_5 _ _ g = _
      unfold fb_X9_next_5 f_X9_next_55
      rw [show gI g 1 1 = Int32.ofNat T.1 from h.1, if_neg (show ¬ Int32.ofNat T.1 < (0 : Int32) by rw [show (0 : Int32) = Int32.ofNat 0 from rfl, qi_lt (by omega) (by omega)]; omega), if_pos (show Int32.ofNat T.1 ≤ Int32.ofNat T.1 by rw [qi_le (by omega) (by omega)]; exact Nat.le_refl _), mSk_n (fun q => by omega)]
      unfold mAt
      rw [if_neg (Nat.lt_irrefl _)]
      rfl
    | succ r ih =>
      intro m j h1 h2 h3
      obtain ⟨m, rfl⟩ : ∃ m', m = m' + 1 := ⟨m - 1, by omega⟩
      by_cases hj : j < T.1
      · have hb := hT.2 j hj
        show fb_X9_next_5 _ _ g = _
        unfold fb_X9_next_5
        rw [show gI g 1 1 = Int32.ofNat T.1 from h.1, if_neg (show ¬ Int32.ofNat j < (0 : Int32) by rw [show (0 : Int32) = Int32.ofNat 0 from rfl, qi_lt (by omega) (by omega)]; omega), if_neg (show ¬ Int32.ofNat T.1 ≤ Int32.ofNat j by rw [qi_le (by omega) (by omega)]; omega), if_neg (show ¬ (240 : Int32) ≤ Int32.ofNat j by rw [show (240 : Int32) = Int32.ofNat 240 from rfl, qi_le (by omega) (by omega)]; omega), if_pos (qi_zib (by omega) (by omega)), qi_ix (by omega), show gI g 2 j = Int32.ofNat (T.2 j) from h.2 j hj]
        by_cases q : T.2 j = 32
        · rw [if_pos (by rw [q]; rfl), show Int32.ofNat j + 1 = Int32.ofNat (j + 1) from qi_add j 1, ih m (j + 1) (by omega) (by omega) (by omega), mSk_b hj q]
        · rw [if_neg (show ¬ Int32.ofNat (T.2 j) = (32 : Int32) by rw [show (32 : Int32) = Int32.ofNat 32 from rfl, qi_inj (by omega) (by omega)]; exact q)]
          unfold f_X9_next_37
          rw [if_pos (qi_zib (by omega) (by omega)), qi_ix (by omega), mSk_n (fun w => q w.2), show gI (gsI g 1 2 (Int32.ofNat j)) 2 j = Int32.ofNat (T.2 j) from (qs_In (by omega)).trans (h.2 j hj)]
          unfold mAt
          rw [if_pos hj]
      · have e : j = T.1 := by omega
        subst e
        show fb_X9_next_5 _ _ g = _
        unfold fb_X9_next_5 f_X9_next_55
        rw [show gI g 1 1 = Int32.ofNat T.1 from h.1, if_neg (show ¬ Int32.ofNat T.1 < (0 : Int32) by rw [show (0 : Int32) = Int32.ofNat 0 from rfl, qi_lt (by omega) (by omega)]; omega), if_pos (show Int32.ofNat T.1 ≤ Int32.ofNat T.1 by rw [qi_le (by omega) (by omega)]; exact Nat.le_refl _), mSk_n (fun q => by omega)]
        unfold mAt
        rw [if_neg (Nat.lt_irrefl _)]
        rfl
  refine ⟨gsI g 1 2 (Int32.ofNat (mSk T i)), ?_, qs_Ie, qF.rfl'.sI ⟨rfl, rfl⟩⟩
  unfold f_X9_next
  rw [show gI g 1 2 = Int32.ofNat i from hi]
  exact key (T.1 - i) zFu i (Nat.le_refl _) (by show _ < 1000000; omega) hn
theorem x_here {g : zSg} (hT : mTpOk T) (h : vTpX T g) (hi : g.2.1 1 2 = Int32.ofNat i) (hn : i < 100000) : f_X9_here g = some (Int32.ofNat (mAt T i), g) := by
  have h240 := hT.1
  unfold f_X9_here
  rw [show gI g 1 1 = Int32.ofNat T.1 from h.1, show gI g 1 2 = Int32.ofNat i from hi, if_neg (show ¬ Int32.ofNat i < (0 : Int32) by rw [show (0 : Int32) = Int32.ofNat 0 from rfl, qi_lt (by omega) (by omega)]; omega)]
  unfold mAt
  by_cases hj : i < T.1
  · rw [if_neg (show ¬ Int32.ofNat T.1 ≤ Int32.ofNat i by rw [qi_le (by omega) (by omega)]; omega), if_neg (show ¬ (240 : Int32) ≤ Int32.ofNat i by rw [show (240 : Int32) = Int32.ofNat 240 from rfl, qi_le (by omega) (by omega)]; omega), if_pos (qi_zib (by omega) (by omega)), qi_ix (by omega), show gI g 2 i = Int32.ofNat (T.2 i) from h.2 i hj, if_pos hj]
  · rw [if_pos (show Int32.ofNat T.1 ≤ Int32.ofNat i by rw [qi_le (by omega) (by omega)]; omega), if_neg hj]
    rfl
theorem x_isDigit {c : Nat} {g : zSg} (hc : c < 100000) : f_X9_isDigit (Int32.ofNat c) g = some (mB (mDg c), g) := by
  unfold f_X9_isDigit mDg
  have w1 : (Int32.ofNat c < (48 : Int32)) = (c < 48) := qi_lt (a := c) (b := 48) (by omega) (by omega)
  have w2 : ((57 : Int32) < Int32.ofNat c) = (57 < c) := qi_lt (a := 57) (b := c) (by omega) (by omega)
  simp only [w1, w2]
  by_cases h1 : c < 48
  · rw [if_pos h1, decide_eq_false (by omega)]; rfl
  · by_cases h2 : 57 < c
    · rw [if_neg h1, if_pos h2, decide_eq_false (by omega)]; rfl
    · rw [if_neg h1, if_neg h2, decide_eq_true (by omega)]; rfl
theorem m_here {g : zSg} (hT : mTpOk T) (h : vTpM T g) (hi : g.2.1 526 3 = Int32.ofNat i) (hn : i < 100000) : f_X12_here g = some (mAtM T i, g) := by
  have h240 := hT.1
  unfold f_X12_here
  rw [show gI g 526 2 = Int32.ofNat T.1 from h.1, show gI g 526 3 = Int32.ofNat i from hi]
  unfold mAtM
  by_cases hj : i < T.1
  · rw [if_neg (show ¬ Int32.ofNat T.1 ≤ Int32.ofNat i by rw [qi_le (by omega) (by omega)]; omega), if_pos (qi_zib (by omega) (by omega)), qi_ix (by omega), show gI g 527 i = Int32.ofNat (T.2 i) from h.2 i hj, if_pos hj]
  · rw [if_pos (show Int32.ofNat T.1 ≤ Int32.ofNat i by rw [qi_le (by omega) (by omega)]; omega), if_neg hj]
theorem m_look {g : zSg} (hT : mTpOk T) (h : vTpM T g) (hi : g.2.1 526 3 = Int32.ofNat i) (hn : i < 100000) : ∃ g', f_X12_look g = some (mAtM T (mSk T i), g') ∧ g'.2.1 526 3 = Int32.ofNat (mSk T i) ∧ qF (fun a k => a = 526 ∧ k = 3) g g' := by
  have h240 := hT.1
  have key : ∀ r m j g1, T.1 - j ≤ r → r < m → j < 100000 → g1.2.1 526 3 = Int32.ofNat j → qF (fun a k => a = 526 ∧ k = 3) g g1 → ∃ g', f_X12_look_0 m g1 = some (mAtM T (mSk T j), g') ∧ g'.2.1 526 3 = Int32.ofNat (mSk T j) ∧ qF (fun a k => a = 526 ∧ k = 3) g g' := by
    intro r
    induction r with
    | zero =>
      intro m j g1 h1 h2 h3 h4 f
      obtain ⟨m, rfl⟩ : ∃ m', m = m' + 1 := ⟨m - 1, by omega⟩
      have hv := h.fr f (by omega) (fun k => by omega)
      refine ⟨g1, ?_, ?_, f⟩
      · show fb_X12_look_0 _ g1 = _
        unfold fb_X12_look_0 f_X12_look_22
        rw [m_here hT hv h4 h3, qB_s, mSk_n (fun q => by omega), if_pos (show ¬ mAtM T j = 32 by unfold mAtM; rw [if_neg (by omega)]; decide), m_here hT hv h4 h3, qB_s]
      · rw [mSk_n (fun q => by omega)]; exact h4
    | succ r ih =>
      intro m j g1 h1 h2 h3 h4 f
      obtain ⟨m, rfl⟩ : ∃ m', m = m' + 1 := ⟨m - 1, by omega⟩
      have hv := h.fr f (by omega) (fun k => by omega)
      by_cases q : j < T.1 ∧ T.2 j = 32
      · obtain ⟨g', ze, p, f'⟩ := ih m (j + 1) (gsI g1 526 3 (Int32.ofNat (j + 1))) (by omega) (by omega) (by omega) qs_Ie (f.sI ⟨rfl, rfl⟩)
        refine ⟨g', ?_, by rw [mSk_b q.1 q.2]; exact p, f'⟩
        show fb_X12_look_0 _ g1 = _
        unfold fb_X12_look_0
        rw [m_here hT hv h4 h3, qB_s, if_neg (show ¬ ¬ mAtM T j = 32 from fun w => w (by unfold mAtM; rw [if_pos q.1, q.2]; rfl)), show gI g1 526 3 + 1 = Int32.ofNat (j + 1) by rw [show gI g1 526 3 = Int32.ofNat j from h4]; exact qi_add j 1, ze, mSk_b q.1 q.2]
      · refine ⟨g1, ?_, ?_, f⟩
        · show fb_X12_look_0 _ g1 = _
          unfold fb_X12_look_0 f_X12_look_22
          rw [m_here hT hv h4 h3, qB_s, mSk_n q, if_pos, m_here hT hv h4 h3, qB_s]
          show ¬ mAtM T j = Int32.ofNat 32
          rw [mAtM_eq hT (by omega) (by omega)]
          unfold mAt
          split
          · rename_i w; exact fun w2 => q ⟨w, w2⟩
          · omega
        · rw [mSk_n q]; exact h4
  exact key (T.1 - i) zFu i g (Nat.le_refl _) (by show _ < 1000000; omega) hn hi qF.rfl'
theorem m_isDigit {g : zSg} (hT : mTpOk T) : f_X12_isDigit (mAtM T i) g = some (mB (mDg (mAt T i)), g) := by
  unfold mAtM mAt
  split
  · rename_i q
    have := hT.2 i q
    unfold f_X12_isDigit mDg
    have w1 : (Int32.ofNat (T.2 i) < (48 : Int32)) = (T.2 i < 48) := qi_lt (a := T.2 i) (b := 48) (by omega) (by omega)
    have w2 : ((57 : Int32) < Int32.ofNat (T.2 i)) = (57 < T.2 i) := qi_lt (a := 57) (b := T.2 i) (by omega) (by omega)
    simp only [w1, w2]
    by_cases h1 : T.2 i < 48
    · rw [if_pos h1, decide_eq_false (by omega)]; rfl
    · by_cases h2 : 57 < T.2 i
      · rw [if_neg h1, if_pos h2, decide_eq_false (by omega)]; rfl
      · rw [if_neg h1, if_neg h2, decide_eq_true (by omega)]; rfl
  · rfl
theorem m_bad {p : Nat} {g : zSg} (hw : g.2.1 526 4 = -1) (hp : g.2.1 526 3 = Int32.ofNat p) : f_X12_bad g = some ((), gsI g 526 4 (Int32.ofNat p)) := by
  unfold f_X12_bad f_X12_bad_20
  rw [show gI g 526 4 = -1 from hw, if_neg (fun w => w rfl), show gI g 526 3 = Int32.ofNat p from hp]
end AF
/-! ===== numbers ===== -/
def mNd (T : mTk) (i : Nat) : Nat → Nat
  | 0 => 0
  | m + 1 => if mNd T i m = m ∧ mDg (mAt T (i + m)) = true then m + 1 else mNd T i m
def mVal (T : mTk) (i : Nat) : Nat → Nat
  | 0 => 0
  | t + 1 => mVal T i t * 10 + (mAt T (i + t) - 48)
def mNq (T : mTk) (i md : Nat) : Nat := mNd T i (md + 1)
def mNv (T : mTk) (i md : Nat) : Int32 := if 1 ≤ mNq T i md ∧ mNq T i md ≤ md then Int32.ofNat (mVal T i (mNq T i md)) else -1
def mNp (T : mTk) (i md : Nat) : Nat := if mNq T i md ≤ md then i + mNq T i md else i + md
section AFN
variable {T : mTk} {i t : Nat}
theorem mNd_le : ∀ {m : Nat}, mNd T i m ≤ m
  | 0 => Nat.le_refl _
  | m + 1 => by
    have := mNd_le (m := m)
    show (if mNd T i m = m ∧ mDg (mAt T (i + m)) = true then m + 1 else mNd T i m) ≤ m + 1
    split <;> omega
theorem mNd_go (h : mNd T i t = t) (hd : mDg (mAt T (i + t)) = true) : mNd T i (t + 1) = t + 1 := if_pos ⟨h, hd⟩
theorem mNd_pre (h : mNd T i (t + 1) = t + 1) : mNd T i t = t ∧ mDg (mAt T (i + t)) = true := by
  by_cases q : mNd T i t = t ∧ mDg (mAt T (i + t)) = true
  · exact q
  · have h2 : (if mNd T i t = t ∧ mDg (mAt T (i + t)) = true then t + 1 else mNd T i t) = t + 1 := h
    rw [if_neg q] at h2
    have := mNd_le (T := T) (i := i) (m := t)
    omega
theorem mNd_stop (h : mNd T i t = t) (hd : mDg (mAt T (i + t)) = false) : ∀ m, t ≤ m → mNd T i m = t
  | 0, hm => by
    have : t = 0 := by omega
    subst this
    exact h
  | m + 1, hm => by
    by_cases q : t = m + 1
    · rw [← q]; exact h
    · have ih := mNd_stop h hd m (by omega)
      show (if mNd T i m = m ∧ mDg (mAt T (i + m)) = true then m + 1 else mNd T i m) = t
      rw [if_neg, ih]
      intro w
      have e : t = m := ih.symm.trans w.1
      rw [← e, hd] at w
      cases w.2
theorem mVal_lt : ∀ {t : Nat}, mNd T i t = t → mVal T i t < 10 ^ t
  | 0, _ => Nat.one_pos
  | t + 1, h => by
    obtain ⟨h1, h2⟩ := mNd_pre h
    have h3 := mVal_lt h1
    have h4 := mDg_b h2
    show mVal T i t * 10 + (mAt T (i + t) - 48) < 10 ^ (t + 1)
    rw [Nat.pow_succ]
    omega
theorem mNd_in (hT : mTpOk T) : ∀ {t : Nat}, mNd T i t = t → 0 < t → i + t ≤ T.1
  | t + 1, h, _ => by
    obtain ⟨h1, h2⟩ := mNd_pre h
    have h4 := mDg_b h2
    have := (mAt_in (i := i + t) hT).mp (by omega)
    omega
theorem mNd_self : ∀ {m : Nat}, mNd T i (mNd T i m) = mNd T i m
  | 0 => rfl
  | m + 1 => by
    by_cases q : mNd T i m = m ∧ mDg (mAt T (i + m)) = true
    · have e : mNd T i (m + 1) = m + 1 := if_pos q
      rw [e, e]
    · have e : mNd T i (m + 1) = mNd T i m := if_neg q
      rw [e]; exact mNd_self
theorem mVal_9999 {t : Nat} (h : mNd T i t = t) (ht : t ≤ 4) : mVal T i t < 10000 := Nat.lt_of_lt_of_le (mVal_lt h) (Nat.pow_le_pow_right (n := 10) (by omega) ht)
theorem x_number {md : Nat} {g : zSg} (hT : mTpOk T) (h : vTpX T g) (hi : g.2.1 1 2 = Int32.ofNat i) (hn : i ≤ T.1) (hmd : md ≤ 4) : ∃ g', f_X9_number (Int32.ofNat md) g = some (mNv T i md, g') ∧ g'.2.1 1 2 = Int32.ofNat (mNp T i md) ∧ qF sTX g g' := by
  have h240 := hT.1
  have key : ∀ r n t g1, t + r = md → r < n → mNd T i t = t → g1.2.1 1 2 = Int32.ofNat (i + t) → qF sTX g g1 → ∃ g', f_X9_number_7 n (Int32.ofNat md) (Int32.ofNat (mVal T i t)) (Int32.ofNat t) (Int32.ofNat t) g1 = some (mNv T i md, g') ∧ g'.2.1 1 2 = Int32.ofNat (mNp T i md) ∧ qF sTX g g' := by
    intro r
    induction r with
    | zero =>
      intro n t g1 h1 h2 h3 h4 f
      obtain ⟨n, rfl⟩ : ∃ n', n = n' + 1 := ⟨n - 1, by omega⟩
      have e : t = md := by omega
      subst e
      have hv := h.fr f (by unfold sTX; omega) (fun k => by unfold sTX; omega)
      refine ⟨g1, ?_, ?_, f⟩
      · show fb_X9_number_7 _ _ _ _ _ g1 = _
        unfold fb_X9_number_7 f_X9_number_62
        rw [if_neg (show ¬ Int32.ofNat t < Int32.ofNat t by rw [qi_lt (by omega) (by omega)]; omega), x_here hT hv h4 (by omega), qB_s, x_isDigit (by have := mAt_lt (i := i + t) hT; omega), qB_s]
        cases hd : mDg (mAt T (i + t)) with
        | true =>
          rw [if_neg (by decide), if_neg (fun w => w rfl)]
          unfold mNv mNq
          rw [mNd_go h3 hd, if_neg (by omega)]
        | false =>
          rw [if_pos (by decide)]
          unfold mNv mNq
          rw [mNd_stop h3 hd (t + 1) (by omega)]
          by_cases q : t = 0
          · subst q
            rw [if_neg (by decide), if_neg (by omega)]
          · rw [if_pos (show ¬ Int32.ofNat t = (0 : Int32) by rw [show (0 : Int32) = Int32.ofNat 0 from rfl, qi_inj (by omega) (by omega)]; exact q), if_pos (by omega)]
      · rw [h4]
        unfold mNp mNq
        split
        · rename_i q
          have := mNd_le (T := T) (i := i) (m := t + 1)
          cases hd : mDg (mAt T (i + t)) with
          | true => rw [mNd_go h3 hd] at q; omega
          | false => rw [mNd_stop h3 hd (t + 1) (by omega)]
        · rfl
    | succ r ih =>
      intro n t g1 h1 h2 h3 h4 f
      obtain ⟨n, rfl⟩ : ∃ n', n = n' + 1 := ⟨n - 1, by omega⟩
      have hv := h.fr f (by unfold sTX; omega) (fun k => by unfold sTX; omega)
      have hv9 := mVal_9999 h3 (by omega)
      cases hd : mDg (mAt T (i + t)) with
      | true =>
        have hdb := mDg_b hd
        obtain ⟨g', ze, p, f'⟩ := ih n (t + 1) (gsI g1 1 2 (Int32.ofNat (i + (t + 1)))) (by omega) (by omega) (mNd_go h3 hd) qs_Ie (f.sI ⟨rfl, rfl⟩)
        refine ⟨g', ?_, p, f'⟩
        show fb_X9_number_7 _ _ _ _ _ g1 = _
        unfold fb_X9_number_7
        rw [if_neg (show ¬ Int32.ofNat md < Int32.ofNat t by rw [qi_lt (by omega) (by omega)]; omega), x_here hT hv h4 (by omega), qB_s, x_isDigit (by omega), qB_s, hd, if_neg (by decide), if_pos (show ¬ Int32.ofNat t = Int32.ofNat md by rw [qi_inj (by omega) (by omega)]; omega), x_here hT hv h4 (by omega), qB_s]
        rw [show gI g1 1 2 + 1 = Int32.ofNat (i + (t + 1)) by rw [show gI g1 1 2 = Int32.ofNat (i + t) from h4]; exact qi_add (i + t) 1, show Int32.ofNat t + 1 = Int32.ofNat (t + 1) from qi_add t 1]
        rw [show Int32.ofNat (mVal T i t) * 10 + Int32.ofNat (mAt T (i + t)) - 48 = Int32.ofNat (mVal T i (t + 1)) by
          show Int32.ofNat (mVal T i t) * Int32.ofNat 10 + Int32.ofNat (mAt T (i + t)) - Int32.ofNat 48 = Int32.ofNat (mVal T i t * 10 + (mAt T (i + t) - 48))
          rw [qi_mul, qi_add, qi_sub (by omega)]
          congr 1
          omega]
        exact ze
      | false =>
        refine ⟨g1, ?_, ?_, f⟩
        · show fb_X9_number_7 _ _ _ _ _ g1 = _
          unfold fb_X9_number_7 f_X9_number_62
          rw [if_neg (show ¬ Int32.ofNat md < Int32.ofNat t by rw [qi_lt (by omega) (by omega)]; omega), x_here hT hv h4 (by omega), qB_s, x_isDigit (by have := mAt_lt (i := i + t) hT; omega), qB_s, hd, if_pos (by decide)]
          unfold mNv mNq
          rw [mNd_stop h3 hd (md + 1) (by omega)]
          by_cases q : t = 0
          · subst q
            rw [if_neg (by decide), if_neg (by omega)]
          · rw [if_pos (show ¬ Int32.ofNat t = (0 : Int32) by rw [show (0 : Int32) = Int32.ofNat 0 from rfl, qi_inj (by omega) (by omega)]; exact q), if_pos (by omega)]
        · rw [h4]
          unfold mNp mNq
          rw [mNd_stop h3 hd (md + 1) (by omega), if_pos (by omega)]
  exact key md zFu 0 g (by omega) (by show _ < 1000000; omega) rfl hi qF.rfl'
end AFN
