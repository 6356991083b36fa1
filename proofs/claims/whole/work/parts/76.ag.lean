/-! ===== both sides: an ITEM's number ===== -/
theorem mAtM_ne {T : mTk} {i c : Nat} {x : Int32} (hT : mTpOk T) (hx : x = Int32.ofNat c) (hc : 1 ≤ c) (hc2 : c < 256) (h : mAt T i ≠ c) : ¬ mAtM T i = x := fun w => h ((mAtM_eq hT hc hc2).mp (w.trans hx))
def mIL : List Nat := [119, 104, 111, 107, 118, 120, 121, 110, 97, 107, 120, 121]
def mILo : List Nat := [2, 2, 0, 0, 0, 0, 0, 1, 0, 1, 0, 0]
def mIHi : List Nat := [6, 5, 99, 99, 3, 5, 4, 9, 5, 9, 5, 4]
def mIUs : List Nat := [5, 4, 30, 20, 1, 0, 0, 3, 0, 3, 0, 0]
def mItL (k : Nat) : Nat := (mIL[k]?).getD 0
def mItLo (k : Nat) : Nat := (mILo[k]?).getD 0
def mItHi (k : Nat) : Nat := (mIHi[k]?).getD 0
def mItU (k : Nat) : Nat := (mIUs[k]?).getD 0
def mItW (k w : Nat) : Nat := if w = 0 then mItL k else if w = 1 then mItLo k else if w = 2 then mItHi k else mItU k
theorem mIt_b : ∀ k, k < 12 → mItL k < 256 ∧ 97 ≤ mItL k ∧ mItHi k ≤ 99 ∧ mItLo k ≤ mItU k ∧ mItU k ≤ mItHi k := by decide
theorem mIt_z : ∀ k, k < 12 → ∀ w, w < 4 → zitem (k * 4 + w) = Int32.ofNat (mItW k w) := by decide +kernel
def mKd (first many cl : Nat) : Prop := (first = 0 ∧ many = 5 ∧ cl = 115) ∨ (first = 5 ∧ many = 3 ∧ cl = 112) ∨ (first = 8 ∧ many = 4 ∧ cl = 99)
theorem mKd.b {first many cl : Nat} (h : mKd first many cl) : first + many ≤ 12 ∧ many ≤ 5 ∧ 1 ≤ many := by unfold mKd at h; omega
def mFd (first c : Nat) : Nat → Option Nat
  | 0 => none
  | t + 1 => match mFd first c t with
    | some r => some r
    | none => if mItL (first + t) = c then some t else none
section AG
variable {T : mTk} {i : Nat} {g : zSg}
theorem x_item {k w : Nat} (hk : k < 12) (hw : w < 4) : f_X1_item (Int32.ofNat k) (Int32.ofNat w) g = some (Int32.ofNat (mItW k w), g) := by
  unfold f_X1_item
  rw [show Int32.ofNat k * 4 + Int32.ofNat w = Int32.ofNat (k * 4 + w) from (congrArg (· + Int32.ofNat w) (qi_mul k 4)).trans (qi_add (k * 4) w), if_neg (show ¬ Int32.ofNat (k * 4 + w) < (0 : Int32) by rw [show (0 : Int32) = Int32.ofNat 0 from rfl, qi_lt (by omega) (by omega)]; omega), if_neg (show ¬ (48 : Int32) ≤ Int32.ofNat (k * 4 + w) by rw [show (48 : Int32) = Int32.ofNat 48 from rfl, qi_le (by omega) (by omega)]; omega), if_pos (qi_zib (by omega) (by omega)), qi_ix (by omega), mIt_z k hk w hw]
theorem mFd_up {first c n r : Nat} (h : mFd first c n = some r) : ∀ d, mFd first c (n + d) = some r
  | 0 => h
  | d + 1 => by
    show (match mFd first c (n + d) with
      | some r => some r
      | none => if mItL (first + (n + d)) = c then some (n + d) else none) = some r
    rw [mFd_up h d]
theorem mFd_lt {first c r : Nat} : ∀ {n : Nat}, mFd first c n = some r → r < n ∧ mItL (first + r) = c
  | n + 1, h => by
    cases e : mFd first c n with
    | some r' =>
      have h2 := mFd_up e 1
      have : r' = r := Option.some.inj (h2.symm.trans h)
      subst this
      have := mFd_lt e
      exact ⟨by omega, this.2⟩
    | none =>
      have h2 : (match mFd first c n with
        | some r => some r
        | none => if mItL (first + n) = c then some n else none) = some r := h
      rw [e] at h2
      have h3 : (if mItL (first + n) = c then some n else none) = some r := h2
      split at h3
      · rename_i q
        have := Option.some.inj h3
        subst this
        exact ⟨by omega, q⟩
      · cases h3
theorem mFd_no {first c : Nat} : ∀ {n : Nat}, (∀ t, t < n → mItL (first + t) ≠ c) → mFd first c n = none
  | 0, _ => rfl
  | n + 1, h => by
    show (match mFd first c n with
      | some r => some r
      | none => if mItL (first + n) = c then some n else none) = none
    rw [mFd_no (fun t ht => h t (by omega))]
    show (if mItL (first + n) = c then some n else none) = none
    rw [if_neg (h n (by omega))]
theorem x_find {first many c : Nat} (hk : first + many ≤ 12) (hc : c < 100000) : f_X1_find (Int32.ofNat first) (Int32.ofNat many) (Int32.ofNat c) g = some (mOpt (mFd first c many), g) := by
  unfold f_X1_find
  refine q_loop (F := fun m k g => f_X1_find_2 m (Int32.ofNat first) (Int32.ofNat many) (Int32.ofNat c) (Int32.ofNat k) g) (N := many) (Inv := fun k g1 => g1 = g ∧ mFd first c k = none) (R := fun o => o = some (mOpt (mFd first c many), g)) (by omega) ?_ ?_ (s := 0) (by omega) ⟨rfl, rfl⟩
  · intro m g1 ⟨e, h⟩
    subst e
    show fb_X1_find_2 _ _ _ _ _ g1 = _
    unfold fb_X1_find_2
    rw [if_pos (show Int32.ofNat many ≤ Int32.ofNat many by rw [qi_le (by omega) (by omega)]; exact Nat.le_refl _), h]
    rfl
  · intro m k g1 hkm ⟨e, h⟩ ih
    subst e
    have hb := mIt_b (first + k) (by omega)
    show fb_X1_find_2 _ _ _ _ _ g1 = _
    unfold fb_X1_find_2
    rw [if_neg (show ¬ Int32.ofNat many ≤ Int32.ofNat k by rw [qi_le (by omega) (by omega)]; omega), qi_add, show (0 : Int32) = Int32.ofNat 0 from rfl, x_item (by omega) (by omega), qB_s]
    show (if ¬ Int32.ofNat (mItL (first + k)) = Int32.ofNat c then _ else _) = _
    have e1 : mFd first c (k + 1) = if mItL (first + k) = c then some k else none := by
      show (match mFd first c k with
        | some r => some r
        | none => if mItL (first + k) = c then some k else none) = _
      rw [h]
    by_cases q : mItL (first + k) = c
    · rw [if_neg (fun w => w (by rw [q]))]
      rw [if_pos q] at e1
      have := mFd_up e1 (many - (k + 1))
      rw [show k + 1 + (many - (k + 1)) = many by omega] at this
      rw [this]
      rfl
    · rw [if_pos (by rw [qi_inj (by omega) (by omega)]; exact q), show Int32.ofNat k + 1 = Int32.ofNat (k + 1) from qi_add k 1]
      rw [if_neg q] at e1
      exact ih g1 ⟨rfl, e1⟩
theorem q_ne {c d : Nat} (hc : c < 100000) (hd : d < 100000) (h : c ≠ d) : ¬ Int32.ofNat c = Int32.ofNat d := by rw [qi_inj (by omega) (by omega)]; exact h
theorem m_itemOf {first many cl : Nat} (hk : mKd first many cl) (hT : mTpOk T) : f_X12_itemOf (Int32.ofNat cl) (mAtM T i) g = some (mOpt (mFd first (mAt T i) many), g) := by
  by_cases hi : i < T.1
  · have hb := hT.2 i hi
    have e1 : mAtM T i = Int32.ofNat (T.2 i) := if_pos hi
    have e2 : mAt T i = T.2 i := if_pos hi
    rw [e1, e2]
    generalize T.2 i = c at hb
    have nn : ∀ (d : Nat) (x : Int32), x = Int32.ofNat d → d < 256 → c ≠ d → ¬ Int32.ofNat c = x := fun d x hx hd h w => q_ne (by omega) (by omega) h (w.trans hx)
    rcases hk with ⟨rfl, rfl, rfl⟩ | ⟨rfl, rfl, rfl⟩ | ⟨rfl, rfl, rfl⟩
    · by_cases h1 : c = 119
      · subst h1; rfl
      by_cases h2 : c = 104
      · subst h2; rfl
      by_cases h3 : c = 111
      · subst h3; rfl
      by_cases h4 : c = 107
      · subst h4; rfl
      by_cases h5 : c = 118
      · subst h5; rfl
      unfold f_X12_itemOf
      rw [if_neg (by decide), if_pos (by decide), if_pos (nn 119 119 rfl (by omega) h1), if_pos (nn 104 104 rfl (by omega) h2), if_pos (nn 111 111 rfl (by omega) h3), if_pos (nn 107 107 rfl (by omega) h4), if_pos (nn 118 118 rfl (by omega) h5), mFd_no]
      · rfl
      · intro t ht
        rcases (show t = 0 ∨ t = 1 ∨ t = 2 ∨ t = 3 ∨ t = 4 by omega) with rfl | rfl | rfl | rfl | rfl
        · exact fun w => h1 w.symm
        · exact fun w => h2 w.symm
        · exact fun w => h3 w.symm
        · exact fun w => h4 w.symm
        · exact fun w => h5 w.symm
    · by_cases h1 : c = 120
      · subst h1; rfl
      by_cases h2 : c = 121
      · subst h2; rfl
      by_cases h3 : c = 110
      · subst h3; rfl
      unfold f_X12_itemOf
      rw [if_pos (by decide), if_pos (nn 120 120 rfl (by omega) h1), if_pos (nn 121 121 rfl (by omega) h2), if_pos (nn 110 110 rfl (by omega) h3), mFd_no]
      · rfl
      · intro t ht
        rcases (show t = 0 ∨ t = 1 ∨ t = 2 by omega) with rfl | rfl | rfl
        · exact fun w => h1 w.symm
        · exact fun w => h2 w.symm
        · exact fun w => h3 w.symm
    · by_cases h1 : c = 97
      · subst h1; rfl
      by_cases h2 : c = 107
      · subst h2; rfl
      by_cases h3 : c = 120
      · subst h3; rfl
      by_cases h4 : c = 121
      · subst h4; rfl
      unfold f_X12_itemOf
      rw [if_neg (by decide), if_neg (by decide), if_pos (nn 97 97 rfl (by omega) h1), if_pos (nn 107 107 rfl (by omega) h2), if_pos (nn 120 120 rfl (by omega) h3), if_pos (nn 121 121 rfl (by omega) h4), mFd_no]
      · rfl
      · intro t ht
        rcases (show t = 0 ∨ t = 1 ∨ t = 2 ∨ t = 3 by omega) with rfl | rfl | rfl | rfl
        · exact fun w => h1 w.symm
        · exact fun w => h2 w.symm
        · exact fun w => h3 w.symm
        · exact fun w => h4 w.symm
  · have e1 : mAtM T i = -1 := if_neg hi
    have e2 : mAt T i = 0 := if_neg hi
    rw [e1, e2]
    rcases hk with ⟨rfl, rfl, rfl⟩ | ⟨rfl, rfl, rfl⟩ | ⟨rfl, rfl, rfl⟩ <;> rfl
theorem m_low {first many cl k : Nat} (hk : mKd first many cl) (h : k < many) : f_X12_lowest (Int32.ofNat cl) (Int32.ofNat k) g = some (Int32.ofNat (mItLo (first + k)), g) := by
  rcases hk with ⟨rfl, rfl, rfl⟩ | ⟨rfl, rfl, rfl⟩ | ⟨rfl, rfl, rfl⟩
  · rcases (show k = 0 ∨ k = 1 ∨ k = 2 ∨ k = 3 ∨ k = 4 by omega) with rfl | rfl | rfl | rfl | rfl <;> rfl
  · rcases (show k = 0 ∨ k = 1 ∨ k = 2 by omega) with rfl | rfl | rfl <;> rfl
  · rcases (show k = 0 ∨ k = 1 ∨ k = 2 ∨ k = 3 by omega) with rfl | rfl | rfl | rfl <;> rfl
theorem m_high {first many cl k : Nat} (hk : mKd first many cl) (h : k < many) : f_X12_highest (Int32.ofNat cl) (Int32.ofNat k) g = some (Int32.ofNat (mItHi (first + k)), g) := by
  rcases hk with ⟨rfl, rfl, rfl⟩ | ⟨rfl, rfl, rfl⟩ | ⟨rfl, rfl, rfl⟩
  · rcases (show k = 0 ∨ k = 1 ∨ k = 2 ∨ k = 3 ∨ k = 4 by omega) with rfl | rfl | rfl | rfl | rfl <;> rfl
  · rcases (show k = 0 ∨ k = 1 ∨ k = 2 by omega) with rfl | rfl | rfl <;> rfl
  · rcases (show k = 0 ∨ k = 1 ∨ k = 2 ∨ k = 3 by omega) with rfl | rfl | rfl | rfl <;> rfl
theorem m_usual {first many cl k : Nat} (hk : mKd first many cl) (h : k < many) : f_X12_usual (Int32.ofNat cl) (Int32.ofNat k) g = some (Int32.ofNat (mItU (first + k)), g) := by
  rcases hk with ⟨rfl, rfl, rfl⟩ | ⟨rfl, rfl, rfl⟩ | ⟨rfl, rfl, rfl⟩
  · rcases (show k = 0 ∨ k = 1 ∨ k = 2 ∨ k = 3 ∨ k = 4 by omega) with rfl | rfl | rfl | rfl | rfl <;> rfl
  · rcases (show k = 0 ∨ k = 1 ∨ k = 2 by omega) with rfl | rfl | rfl <;> rfl
  · rcases (show k = 0 ∨ k = 1 ∨ k = 2 ∨ k = 3 by omega) with rfl | rfl | rfl | rfl <;> rfl
def mNo (T : mTk) (j lo hi : Nat) : Bool := decide (1 ≤ mNq T j 2 ∧ mNq T j 2 ≤ 2 ∧ lo ≤ mVal T j (mNq T j 2) ∧ mVal T j (mNq T j 2) ≤ hi)
def mNoP (T : mTk) (j lo hi : Nat) : Nat := if mNo T j lo hi then j + mNq T j 2 else if 1 ≤ mNq T j 2 ∧ mNq T j 2 ≤ 2 then j + mNq T j 2 - 1 else mNp T j 2
theorem mNq_le {T : mTk} {j md : Nat} : mNq T j md ≤ md + 1 := mNd_le
theorem mNoP_le {T : mTk} {j lo hi : Nat} (hT : mTpOk T) (hj : j ≤ T.1) : mNoP T j lo hi ≤ T.1 ∧ (mNo T j lo hi = true → j + 1 ≤ mNoP T j lo hi) := by
  have h1 : j + mNq T j 2 ≤ T.1 := by
    rcases Nat.eq_zero_or_pos (mNq T j 2) with q | q
    · omega
    · exact mNd_in hT mNd_self q
  have h2 := mNq_le (T := T) (j := j) (md := 2)
  unfold mNoP mNp
  refine ⟨?_, fun w => ?_⟩
  · split
    · exact h1
    · split
      · omega
      · split <;> omega
  · rw [if_pos w]
    have := (of_decide_eq_true w).1
    omega
theorem x_num {it at_ : Nat} (hit : it < 12) (hat : at_ < 47) (hT : mTpOk T) (h : vTpX T g) (hi : g.2.1 1 2 = Int32.ofNat i) (hn : i ≤ T.1) : ∃ g', f_X1_number (Int32.ofNat it) (Int32.ofNat at_) g = some (mB (mNo T (mSk T i) (mItLo it) (mItHi it)), g') ∧ g'.2.1 1 2 = Int32.ofNat (mNoP T (mSk T i) (mItLo it) (mItHi it)) ∧ (mNo T (mSk T i) (mItLo it) (mItHi it) = true → g'.2.1 9 at_ = Int32.ofNat (mVal T (mSk T i) (mNq T (mSk T i) 2))) ∧ qF (fun a k => sTX a k ∨ (a = 9 ∧ k = at_)) g g' := by
  have h240 := hT.1
  have hb := mIt_b it hit
  obtain ⟨g1, ze1, p1, f1⟩ := x_next hT h hi hn
  have hv1 := h.fr f1 (by unfold sTX; omega) (fun k => by unfold sTX; omega)
  have hj := mSk_le (T := T) hn
  generalize mSk T i = j at *
  obtain ⟨g2, ze2, p2, f2⟩ := x_number (md := 2) hT hv1 p1 hj (by omega)
  have F := (f1.tr f2).mono (S' := fun a k => sTX a k ∨ (a = 9 ∧ k = at_)) (fun a k w => Or.inl w)
  have hq9 : mVal T j (mNq T j 2) < 10000 ∨ 4 < mNq T j 2 := by
    by_cases q : mNq T j 2 ≤ 4
    · exact Or.inl (mVal_9999 mNd_self q)
    · exact Or.inr (by omega)
  unfold f_X1_number
  rw [ze1, qB_s, show (2 : Int32) = Int32.ofNat 2 from rfl, ze2, qB_s]
  by_cases hq : 1 ≤ mNq T j 2 ∧ mNq T j 2 ≤ 2
  · have e : mNv T j 2 = Int32.ofNat (mVal T j (mNq T j 2)) := if_pos hq
    have e2 : mNp T j 2 = j + mNq T j 2 := if_pos hq.2
    rw [e2] at p2
    rw [e, if_pos (show ¬ Int32.ofNat (mVal T j (mNq T j 2)) = (-1 : Int32) by show ¬ (_ = - Int32.ofNat 1); rw [qi_ne1 (by omega) (by omega) (by omega)]; exact not_false), show (1 : Int32) = Int32.ofNat 1 from rfl, x_item hit (by omega), qB_s]
    show ∃ g', (if Int32.ofNat (mVal T j (mNq T j 2)) < Int32.ofNat (mItLo it) then _ else _) = _ ∧ _
    by_cases c1 : mVal T j (mNq T j 2) < mItLo it
    · have en : mNo T j (mItLo it) (mItHi it) = false := decide_eq_false (by omega)
      have ep : mNoP T j (mItLo it) (mItHi it) = j + mNq T j 2 - 1 := by unfold mNoP; rw [en, if_neg (by decide), if_pos hq]
      rw [en, ep, if_pos (by rw [qi_lt (by omega) (by omega)]; exact c1)]
      refine ⟨gsI g2 1 2 (Int32.ofNat (j + mNq T j 2 - 1)), ?_, qs_Ie, fun w => (by cases w), F.sI (Or.inl ⟨rfl, rfl⟩)⟩
      unfold f_X1_number_42 f_X9_stepBack
      rw [show gI g2 1 2 - 1 = Int32.ofNat (j + mNq T j 2 - 1) by rw [show gI g2 1 2 = Int32.ofNat (j + mNq T j 2) from p2]; exact qi_sub (a := j + mNq T j 2) (b := 1) (by omega), qB_s]
      rfl
    · rw [if_neg (by rw [qi_lt (by omega) (by omega)]; exact c1), x_item hit (by omega), qB_s]
      show ∃ g', (if Int32.ofNat (mVal T j (mNq T j 2)) ≤ Int32.ofNat (mItHi it) then _ else _) = _ ∧ _
      by_cases c2 : mVal T j (mNq T j 2) ≤ mItHi it
      · have en : mNo T j (mItLo it) (mItHi it) = true := decide_eq_true ⟨hq.1, hq.2, by omega, c2⟩
        have ep : mNoP T j (mItLo it) (mItHi it) = j + mNq T j 2 := by unfold mNoP; rw [en, if_pos rfl]
        rw [en, ep, if_pos (by rw [qi_le (by omega) (by omega)]; exact c2), q_set (a := 8) (n := 47) rfl (by decide) hat, qB_s]
        exact ⟨_, rfl, (qs_In (by omega)).trans p2, fun _ => qs_Ie, F.sI (Or.inr ⟨rfl, rfl⟩)⟩
      · have en : mNo T j (mItLo it) (mItHi it) = false := decide_eq_false (by omega)
        have ep : mNoP T j (mItLo it) (mItHi it) = j + mNq T j 2 - 1 := by unfold mNoP; rw [en, if_neg (by decide), if_pos hq]
        rw [en, ep, if_neg (by rw [qi_le (by omega) (by omega)]; exact c2)]
        refine ⟨gsI g2 1 2 (Int32.ofNat (j + mNq T j 2 - 1)), ?_, qs_Ie, fun w => (by cases w), F.sI (Or.inl ⟨rfl, rfl⟩)⟩
        unfold f_X1_number_42 f_X9_stepBack
        rw [show gI g2 1 2 - 1 = Int32.ofNat (j + mNq T j 2 - 1) by rw [show gI g2 1 2 = Int32.ofNat (j + mNq T j 2) from p2]; exact qi_sub (a := j + mNq T j 2) (b := 1) (by omega), qB_s]
        rfl
  · have e : mNv T j 2 = -1 := if_neg hq
    have en : mNo T j (mItLo it) (mItHi it) = false := decide_eq_false (by omega)
    have ep : mNoP T j (mItLo it) (mItHi it) = mNp T j 2 := by unfold mNoP; rw [en, if_neg (by decide), if_neg hq]
    rw [e, en, ep, if_neg (fun w => w rfl)]
    exact ⟨g2, rfl, p2, fun w => (by cases w), F⟩
theorem mAtM_d (hd : mDg (mAt T i) = true) : mAtM T i = Int32.ofNat (mAt T i) := by
  have := mDg_b hd
  unfold mAtM
  unfold mAt at this ⊢
  split
  · rfl
  · rename_i q; rw [if_neg q] at this; omega
theorem m_inN {v lo hi : Nat} (hv : v < 100000) (hl : lo < 100000) (hh : hi < 100000) : f_X12_in (Int32.ofNat v) (Int32.ofNat lo) (Int32.ofNat hi) g = some (mB (decide (lo ≤ v ∧ v ≤ hi)), g) := by
  unfold f_X12_in
  have w1 : (Int32.ofNat v < Int32.ofNat lo) = (v < lo) := qi_lt (by omega) (by omega)
  have w2 : (Int32.ofNat hi < Int32.ofNat v) = (hi < v) := qi_lt (by omega) (by omega)
  simp only [w1, w2]
  by_cases h1 : v < lo
  · rw [if_pos h1, decide_eq_false (by omega)]; rfl
  · by_cases h2 : hi < v
    · rw [if_neg h1, if_pos h2, decide_eq_false (by omega)]; rfl
    · rw [if_neg h1, if_neg h2, decide_eq_true (by omega)]; rfl
theorem m_num67 {v q lo hi : Nat} (hq : q = 1 ∨ q = 2) (hqd : mNd T i q = q) (hv : v = mVal T i q) (hlo : lo < 100) (hhi : hi < 100) (hT : mTpOk T) (h : vTpM T g) (hi_ : g.2.1 526 3 = Int32.ofNat (i + q)) (hw : g.2.1 526 4 = -1) (hn : i ≤ T.1) (hq3 : q = 1 → mDg (mAt T (i + q)) = false) : ∃ g' x, f_X12_number_67 (Int32.ofNat lo) (Int32.ofNat hi) (Int32.ofNat v) g = some (x, g') ∧ (mNo T i lo hi = true → x = Int32.ofNat (mVal T i (mNq T i 2)) ∧ g'.2.1 526 3 = Int32.ofNat (mNoP T i lo hi) ∧ g'.2.1 526 4 = -1) ∧ (mNo T i lo hi = false → g'.2.1 526 4 = Int32.ofNat (mNoP T i lo hi)) ∧ qF sTM g g' := by
  have h240 := hT.1
  have hv9 := mVal_9999 hqd (by omega)
  unfold f_X12_number_67
  rw [m_here hT h hi_ (by omega), qB_s, m_isDigit hT, qB_s]
  cases hd : mDg (mAt T (i + q)) with
  | false =>
    have eq_ : mNq T i 2 = q := mNd_stop hqd hd 3 (by omega)
    rw [if_pos (by decide), m_inN (by omega) (by omega) (by omega), qB_s]
    unfold mNoP mNo
    rw [eq_, ← hv]
    by_cases c : lo ≤ v ∧ v ≤ hi
    · have e2 : decide (1 ≤ q ∧ q ≤ 2 ∧ lo ≤ v ∧ v ≤ hi) = true := decide_eq_true ⟨by omega, by omega, c.1, c.2⟩
      rw [e2, decide_eq_true c, if_pos (by decide)]
      exact ⟨g, _, rfl, fun _ => ⟨rfl, by rw [if_pos rfl]; exact hi_, hw⟩, fun w => (by cases w), qF.rfl'⟩
    · have e2 : decide (1 ≤ q ∧ q ≤ 2 ∧ lo ≤ v ∧ v ≤ hi) = false := decide_eq_false (by omega)
      rw [e2, decide_eq_false c, if_neg (by decide), show gI g 526 3 - 1 = Int32.ofNat (i + q - 1) by rw [show gI g 526 3 = Int32.ofNat (i + q) from hi_]; exact qi_sub (a := i + q) (b := 1) (by omega)]
      rw [m_bad (p := i + q - 1) ((qs_In (by omega)).trans hw) qs_Ie, qB_s]
      exact ⟨_, _, rfl, fun w => (by cases w), fun _ => by rw [if_neg (by decide), if_pos ⟨by omega, by omega⟩]; exact qs_Ie, (qF.rfl'.sI ⟨rfl, Or.inl rfl⟩).sI ⟨rfl, Or.inr rfl⟩⟩
  | true =>
    have hq2 : q = 2 := by
      rcases hq with q1 | q2
      · rw [hq3 q1] at hd; cases hd
      · exact q2
    subst hq2
    have eq_ : mNq T i 2 = 3 := mNd_go hqd hd
    have e2 : mNo T i lo hi = false := by unfold mNo; rw [eq_]; exact decide_eq_false (by omega)
    have e3 : mNoP T i lo hi = i + 2 := by
      unfold mNoP mNp
      rw [e2, eq_, if_neg (by decide), if_neg (by omega), if_neg (by omega)]
    rw [if_neg (by decide), m_bad hw hi_, qB_s, e2, e3]
    exact ⟨_, _, rfl, fun w => (by cases w), fun _ => qs_Ie, qF.rfl'.sI ⟨rfl, Or.inr rfl⟩⟩
theorem m_num {lo hi : Nat} (hlo : lo < 100) (hhi : hi < 100) (hT : mTpOk T) (h : vTpM T g) (hi_ : g.2.1 526 3 = Int32.ofNat i) (hw : g.2.1 526 4 = -1) (hn : i ≤ T.1) : ∃ g' x, f_X12_number (Int32.ofNat lo) (Int32.ofNat hi) g = some (x, g') ∧ (mNo T (mSk T i) lo hi = true → x = Int32.ofNat (mVal T (mSk T i) (mNq T (mSk T i) 2)) ∧ g'.2.1 526 3 = Int32.ofNat (mNoP T (mSk T i) lo hi) ∧ g'.2.1 526 4 = -1) ∧ (mNo T (mSk T i) lo hi = false → g'.2.1 526 4 = Int32.ofNat (mNoP T (mSk T i) lo hi)) ∧ qF sTM g g' := by
  have h240 := hT.1
  obtain ⟨g1, ze1, p1, f1⟩ := m_look hT h hi_ (by omega)
  have hv1 := h.fr f1 (by omega) (fun k => by omega)
  have hw1 : g1.2.1 526 4 = -1 := (f1.2.1 _ _ (by omega)).trans hw
  have F1 : qF sTM g g1 := f1.mono fun a k w => ⟨w.1, Or.inl w.2⟩
  have hj := mSk_le (T := T) hn
  generalize mSk T i = j at *
  unfold f_X12_number
  rw [ze1, qB_s, m_isDigit hT, qB_s]
  cases d0 : mDg (mAt T j) with
  | false =>
    have eq_ : mNq T j 2 = 0 := mNd_stop (t := 0) rfl d0 3 (by omega)
    have e2 : mNo T j lo hi = false := by unfold mNo; rw [eq_]; exact decide_eq_false (by omega)
    have e3 : mNoP T j lo hi = j := by
      unfold mNoP mNp
      rw [e2, eq_, if_neg (by decide), if_neg (by omega), if_pos (by omega)]
      rfl
    rw [if_neg (by decide), m_bad hw1 p1, qB_s, e2, e3]
    exact ⟨_, _, rfl, fun w => (by cases w), fun _ => qs_Ie, F1.sI ⟨rfl, Or.inr rfl⟩⟩
  | true =>
    have b0 := mDg_b d0
    rw [if_pos (by decide), m_here hT hv1 p1 (by omega), qB_s, show gI g1 526 3 + 1 = Int32.ofNat (j + 1) by rw [show gI g1 526 3 = Int32.ofNat j from p1]; exact qi_add j 1]
    have hv2 : vTpM T (gsI g1 526 3 (Int32.ofNat (j + 1))) := hv1.fr (S := sTM) (qF.rfl'.sI ⟨rfl, Or.inl rfl⟩) (by unfold sTM; omega) (fun k => by unfold sTM; omega)
    have hw2 : (gsI g1 526 3 (Int32.ofNat (j + 1))).2.1 526 4 = -1 := (qs_In (by omega)).trans hw1
    have F2 : qF sTM g (gsI g1 526 3 (Int32.ofNat (j + 1))) := F1.sI ⟨rfl, Or.inl rfl⟩
    have k1 : mNd T j 1 = 1 := mNd_go (t := 0) rfl d0
    have ev1 : mVal T j 1 = mAt T j - 48 := by show 0 * 10 + (mAt T j - 48) = _; omega
    rw [m_here hT hv2 qs_Ie (by omega), qB_s, m_isDigit hT, qB_s, mAtM_d d0, show Int32.ofNat (mAt T j) - 48 = Int32.ofNat (mVal T j 1) by rw [ev1]; exact qi_sub b0.1]
    cases d1 : mDg (mAt T (j + 1)) with
    | false =>
      rw [if_pos (by decide)]
      obtain ⟨g', x, ze, a1, a2, f⟩ := m_num67 (q := 1) (Or.inl rfl) k1 rfl hlo hhi hT hv2 qs_Ie hw2 hj (fun _ => d1)
      exact ⟨g', x, ze, a1, a2, F2.tr f⟩
    | true =>
      have b1 := mDg_b d1
      have k2 : mNd T j 2 = 2 := mNd_go k1 d1
      have ev2 : mVal T j 2 = mVal T j 1 * 10 + (mAt T (j + 1) - 48) := rfl
      rw [if_neg (by decide), m_here hT hv2 qs_Ie (by omega), qB_s, mAtM_d d1, show gI (gsI g1 526 3 (Int32.ofNat (j + 1))) 526 3 + 1 = Int32.ofNat (j + 2) by rw [show gI (gsI g1 526 3 (Int32.ofNat (j + 1))) 526 3 = Int32.ofNat (j + 1) from qs_Ie]; exact qi_add (j + 1) 1, show (10 : Int32) * Int32.ofNat (mVal T j 1) + Int32.ofNat (mAt T (j + 1)) - 48 = Int32.ofNat (mVal T j 2) by
        show Int32.ofNat 10 * Int32.ofNat (mVal T j 1) + Int32.ofNat (mAt T (j + 1)) - Int32.ofNat 48 = _
        rw [ev2, qi_mul, qi_add, qi_sub (by omega)]
        congr 1
        omega]
      have F3 : qF sTM (gsI g1 526 3 (Int32.ofNat (j + 1))) (gsI (gsI g1 526 3 (Int32.ofNat (j + 1))) 526 3 (Int32.ofNat (j + 2))) := qF.rfl'.sI ⟨rfl, Or.inl rfl⟩
      obtain ⟨g', x, ze, a1, a2, f⟩ := m_num67 (q := 2) (Or.inr rfl) k2 rfl hlo hhi hT (hv2.fr F3 (by unfold sTM; omega) (fun k => by unfold sTM; omega)) qs_Ie ((qs_In (by omega)).trans hw2) hj (fun w => by omega)
      exact ⟨g', x, ze, a1, a2, F2.tr (F3.tr f)⟩
end AG
