/-! ===== the reference: what is kept ===== -/
/-- how it was, with its LOG, at a row's place -/
def vBlk (A o : Nat) (L : mL) (n : Nat) (E : Nat → Nat) (g : zSg) : Prop := (∀ i, i < 54 → g.2.1 A (o + i) = Int32.ofNat (L i)) ∧ g.2.1 A (o + 54) = Int32.ofNat (min 60 n) ∧ ∀ j k, j < n → n ≤ j + 60 → k < 3 → g.2.1 A (o + 55 + (3 * (j - (n - min 60 n)) + k)) = Int32.ofNat (E (3 * j + k))
theorem vBlk.cp {A B o o' n : Nat} {L : mL} {E : Nat → Nat} {g g' : zSg} (h : vBlk A o L n E g) (hc : ∀ i, i < 235 → g'.2.1 B (o' + i) = g.2.1 A (o + i)) : vBlk B o' L n E g' := by
  refine ⟨fun i hi => (hc i (by omega)).trans (h.1 i hi), (hc 54 (by omega)).trans h.2.1, fun j k q1 q2 q3 => ?_⟩
  have := hc (55 + (3 * (j - (n - min 60 n)) + k)) (by omega)
  rw [show o' + 55 + (3 * (j - (n - min 60 n)) + k) = o' + (55 + (3 * (j - (n - min 60 n)) + k)) by omega, this, show o + (55 + (3 * (j - (n - min 60 n)) + k)) = o + 55 + (3 * (j - (n - min 60 n)) + k) by omega]
  exact h.2.2 j k q1 q2 q3
theorem m_undo_l {g0 : zSg} {a : Nat} {Q : Int32 → zSg → Prop} (ha : a < 40) (h35 : g0.2.1 526 35 = Int32.ofNat a) (hk : ∀ g', (∀ i, i < 235 → g'.2.1 543 (0 + i) = g0.2.1 547 (235 * a + i)) → qF (fun b j => b = 543 ∧ 0 ≤ j ∧ j < 0 + 235) g0 g' → qT (f_X12_undo_55 g') Q) : ∀ (r n k : Nat) (g : zSg), k + r = 235 → r < n → (∀ i, i < k → g.2.1 543 (0 + i) = g0.2.1 547 (235 * a + i)) → qF (fun b j => b = 543 ∧ 0 ≤ j ∧ j < 0 + 235) g0 g → qT (f_X12_undo_21 n (Int32.ofNat k) g) Q := by
  intro r
  induction r with
  | zero =>
    intro n k g hk2 hn hc hf
    obtain ⟨m, rfl⟩ : ∃ m, n = m + 1 := ⟨n - 1, by omega⟩
    show qT (fb_X12_undo_21 _ _ _) _
    unfold fb_X12_undo_21
    simp (disch := omega) only [qi_lit, qi_le, if_pos (show 235 ≤ k by omega)]
    exact hk g (fun i hi => hc i (by omega)) hf
  | succ r ih =>
    intro n k g hk2 hn hc hf
    obtain ⟨m, rfl⟩ : ∃ m, n = m + 1 := ⟨n - 1, by omega⟩
    have h35' : g.2.1 526 35 = Int32.ofNat a := (hf.2.1 _ _ (by omega)).trans h35
    show qT (fb_X12_undo_21 _ _ _) _
    unfold fb_X12_undo_21
    simp (disch := omega) only [qi_lit, qi_le, if_neg (show ¬ 235 ≤ k by omega), qi_add, qi_mul, qi_zib, if_true, qi_ix, h35']
    refine ih m (k + 1) _ (by omega) (by omega) (fun i hi => ?_) ?_
    · by_cases q : i = k
      · subst q
        (try simp only [Nat.zero_add])
        rw [qs_Ie]
        exact hf.2.1 _ _ (by omega)
      · rw [qs_In (by omega)]
        exact hc i (by omega)
    · exact hf.sI ⟨rfl, by omega, by omega⟩
theorem m_image_l {g0 : zSg} {Q : Int32 → zSg → Prop} (hk : ∀ g', (∀ i, i < 235 → g'.2.1 552 (0 + i) = g0.2.1 543 (0 + i)) → qF (fun b j => b = 552 ∧ 0 ≤ j ∧ j < 0 + 235) g0 g' → qT (f_X12_image_36 g') Q) : ∀ (r n k : Nat) (g : zSg), k + r = 235 → r < n → (∀ i, i < k → g.2.1 552 (0 + i) = g0.2.1 543 (0 + i)) → qF (fun b j => b = 552 ∧ 0 ≤ j ∧ j < 0 + 235) g0 g → qT (f_X12_image_11 n (Int32.ofNat k) g) Q := by
  intro r
  induction r with
  | zero =>
    intro n k g hk2 hn hc hf
    obtain ⟨m, rfl⟩ : ∃ m, n = m + 1 := ⟨n - 1, by omega⟩
    show qT (fb_X12_image_11 _ _ _) _
    unfold fb_X12_image_11
    simp (disch := omega) only [qi_lit, qi_le, if_pos (show 235 ≤ k by omega)]
    exact hk g (fun i hi => hc i (by omega)) hf
  | succ r ih =>
    intro n k g hk2 hn hc hf
    obtain ⟨m, rfl⟩ : ∃ m, n = m + 1 := ⟨n - 1, by omega⟩
    show qT (fb_X12_image_11 _ _ _) _
    unfold fb_X12_image_11
    simp (disch := omega) only [qi_lit, qi_le, if_neg (show ¬ 235 ≤ k by omega), qi_add, qi_mul, qi_zib, if_true, qi_ix]
    refine ih m (k + 1) _ (by omega) (by omega) (fun i hi => ?_) ?_
    · by_cases q : i = k
      · subst q
        (try simp only [Nat.zero_add])
        rw [qs_Ie]
        exact hf.2.1 _ _ (by omega)
      · rw [qs_In (by omega)]
        exact hc i (by omega)
    · exact hf.sI ⟨rfl, by omega, by omega⟩
theorem m_back_l {g0 : zSg} {Q : Int32 → zSg → Prop} (hk : ∀ g', (∀ i, i < 235 → g'.2.1 543 (0 + i) = g0.2.1 552 (0 + i)) → qF (fun b j => b = 543 ∧ 0 ≤ j ∧ j < 0 + 235) g0 g' → qT (f_X12_back_36 g') Q) : ∀ (r n k : Nat) (g : zSg), k + r = 235 → r < n → (∀ i, i < k → g.2.1 543 (0 + i) = g0.2.1 552 (0 + i)) → qF (fun b j => b = 543 ∧ 0 ≤ j ∧ j < 0 + 235) g0 g → qT (f_X12_back_11 n (Int32.ofNat k) g) Q := by
  intro r
  induction r with
  | zero =>
    intro n k g hk2 hn hc hf
    obtain ⟨m, rfl⟩ : ∃ m, n = m + 1 := ⟨n - 1, by omega⟩
    show qT (fb_X12_back_11 _ _ _) _
    unfold fb_X12_back_11
    simp (disch := omega) only [qi_lit, qi_le, if_pos (show 235 ≤ k by omega)]
    exact hk g (fun i hi => hc i (by omega)) hf
  | succ r ih =>
    intro n k g hk2 hn hc hf
    obtain ⟨m, rfl⟩ : ∃ m, n = m + 1 := ⟨n - 1, by omega⟩
    show qT (fb_X12_back_11 _ _ _) _
    unfold fb_X12_back_11
    simp (disch := omega) only [qi_lit, qi_le, if_neg (show ¬ 235 ≤ k by omega), qi_add, qi_mul, qi_zib, if_true, qi_ix]
    refine ih m (k + 1) _ (by omega) (by omega) (fun i hi => ?_) ?_
    · by_cases q : i = k
      · subst q
        (try simp only [Nat.zero_add])
        rw [qs_Ie]
        exact hf.2.1 _ _ (by omega)
      · rw [qs_In (by omega)]
        exact hc i (by omega)
    · exact hf.sI ⟨rfl, by omega, by omega⟩
theorem m_aside_l {g0 : zSg} {d : Nat} {Q : Unit → zSg → Prop} (hd : d < 8) (hk : ∀ g', (∀ i, i < 54 → g'.2.1 548 (54 * d + i) = g0.2.1 543 (0 + i)) → qF (fun b j => b = 548 ∧ 54 * d ≤ j ∧ j < 54 * d + 54) g0 g' → qT (some ((), g')) Q) : ∀ (r n k : Nat) (g : zSg), k + r = 54 → r < n → (∀ i, i < k → g.2.1 548 (54 * d + i) = g0.2.1 543 (0 + i)) → qF (fun b j => b = 548 ∧ 54 * d ≤ j ∧ j < 54 * d + 54) g0 g → qT (f_X12_putAside_2 n (Int32.ofNat d) (Int32.ofNat k) g) Q := by
  intro r
  induction r with
  | zero =>
    intro n k g hk2 hn hc hf
    obtain ⟨m, rfl⟩ : ∃ m, n = m + 1 := ⟨n - 1, by omega⟩
    show qT (fb_X12_putAside_2 _ _ _ _) _
    unfold fb_X12_putAside_2
    simp (disch := omega) only [qi_lit, qi_le, if_pos (show 54 ≤ k by omega)]
    exact hk g (fun i hi => hc i (by omega)) hf
  | succ r ih =>
    intro n k g hk2 hn hc hf
    obtain ⟨m, rfl⟩ : ∃ m, n = m + 1 := ⟨n - 1, by omega⟩
    show qT (fb_X12_putAside_2 _ _ _ _) _
    unfold fb_X12_putAside_2
    simp (disch := omega) only [qi_lit, qi_le, if_neg (show ¬ 54 ≤ k by omega), qi_add, qi_mul, qi_zib, if_true, qi_ix]
    refine ih m (k + 1) _ (by omega) (by omega) (fun i hi => ?_) ?_
    · by_cases q : i = k
      · subst q
        (try simp only [Nat.zero_add])
        rw [qs_Ie]
        exact hf.2.1 _ _ (by omega)
      · rw [qs_In (by omega)]
        exact hc i (by omega)
    · exact hf.sI ⟨rfl, by omega, by omega⟩
theorem m_tback_l {g0 : zSg} {d : Nat} {Q : Unit → zSg → Prop} (hd : d < 8) (hk : ∀ g', (∀ i, i < 54 → g'.2.1 543 (0 + i) = g0.2.1 548 (54 * d + i)) → qF (fun b j => b = 543 ∧ 0 ≤ j ∧ j < 0 + 54) g0 g' → qT (some ((), g')) Q) : ∀ (r n k : Nat) (g : zSg), k + r = 54 → r < n → (∀ i, i < k → g.2.1 543 (0 + i) = g0.2.1 548 (54 * d + i)) → qF (fun b j => b = 543 ∧ 0 ≤ j ∧ j < 0 + 54) g0 g → qT (f_X12_takeBack_2 n (Int32.ofNat d) (Int32.ofNat k) g) Q := by
  intro r
  induction r with
  | zero =>
    intro n k g hk2 hn hc hf
    obtain ⟨m, rfl⟩ : ∃ m, n = m + 1 := ⟨n - 1, by omega⟩
    show qT (fb_X12_takeBack_2 _ _ _ _) _
    unfold fb_X12_takeBack_2
    simp (disch := omega) only [qi_lit, qi_le, if_pos (show 54 ≤ k by omega)]
    exact hk g (fun i hi => hc i (by omega)) hf
  | succ r ih =>
    intro n k g hk2 hn hc hf
    obtain ⟨m, rfl⟩ : ∃ m, n = m + 1 := ⟨n - 1, by omega⟩
    show qT (fb_X12_takeBack_2 _ _ _ _) _
    unfold fb_X12_takeBack_2
    simp (disch := omega) only [qi_lit, qi_le, if_neg (show ¬ 54 ≤ k by omega), qi_add, qi_mul, qi_zib, if_true, qi_ix]
    refine ih m (k + 1) _ (by omega) (by omega) (fun i hi => ?_) ?_
    · by_cases q : i = k
      · subst q
        (try simp only [Nat.zero_add])
        rw [qs_Ie]
        exact hf.2.1 _ _ (by omega)
      · rw [qs_In (by omega)]
        exact hc i (by omega)
    · exact hf.sI ⟨rfl, by omega, by omega⟩
theorem m_keep_l {a : Nat} {g0 : zSg} (ha : a < 40) : ∀ (r n k : Nat) (g : zSg), k + r = 235 → r < n → g.2.1 526 35 = Int32.ofNat a → (∀ i, i < k → g.2.1 547 (235 * a + i) = g0.2.1 543 i) → qF (fun b j => b = 547 ∧ 235 * a ≤ j) g0 g → ∃ g', f_X12_keep_54 n (Int32.ofNat k) g = some ((), gsI g' 526 35 (Int32.ofNat (a + 1))) ∧ (∀ i, i < 235 → g'.2.1 547 (235 * a + i) = g0.2.1 543 i) ∧ qF (fun b j => b = 547 ∧ 235 * a ≤ j) g0 g' := by
  intro r
  induction r with
  | zero =>
    intro n k g hk hn h35 hc hf
    obtain ⟨m, rfl⟩ : ∃ m, n = m + 1 := ⟨n - 1, by omega⟩
    refine ⟨g, ?_, fun i hi => hc i (by omega), hf⟩
    show fb_X12_keep_54 _ _ _ = _
    unfold fb_X12_keep_54 f_X12_keep_88
    simp (disch := omega) only [qi_lit, qi_le, if_pos (show 235 ≤ k by omega), h35, qi_add]
  | succ r ih =>
    intro n k g hk hn h35 hc hf
    obtain ⟨m, rfl⟩ : ∃ m, n = m + 1 := ⟨n - 1, by omega⟩
    show ∃ g', fb_X12_keep_54 _ _ _ = _ ∧ _
    unfold fb_X12_keep_54
    simp (disch := omega) only [qi_lit, qi_le, if_neg (show ¬ 235 ≤ k by omega), h35, qi_add, qi_mul, qi_zib, if_true, qi_ix]
    refine ih m (k + 1) _ (by omega) (by omega) (by rw [qs_In (by omega)]; exact h35) (fun i hi => ?_) (hf.sI ⟨rfl, by omega⟩)
    by_cases q : i = k
    · subst q
      rw [qs_Ie]
      exact hf.2.1 _ _ (by omega)
    · rw [qs_In (by omega)]
      exact hc i (by omega)
theorem m_shift_l {g0 : zSg} {Q : Unit → zSg → Prop} (hk : ∀ g', (∀ i, i < 9165 → g'.2.1 547 i = g0.2.1 547 (i + 235)) → qF (fun b _ => b = 547) g0 g' → qT (f_X12_keep_42 g') Q) : ∀ (r n k : Nat) (g : zSg), k + r = 9400 → 235 ≤ k → r < n → (∀ i, i + 235 < k → g.2.1 547 i = g0.2.1 547 (i + 235)) → (∀ i, k ≤ i + 235 → g.2.1 547 i = g0.2.1 547 i) → qF (fun b _ => b = 547) g0 g → qT (f_X12_keep_13 n (Int32.ofNat k) g) Q := by
  intro r
  induction r with
  | zero =>
    intro n k g hk2 hk3 hn hc hd hf
    obtain ⟨m, rfl⟩ : ∃ m, n = m + 1 := ⟨n - 1, by omega⟩
    show qT (fb_X12_keep_13 _ _ _) _
    unfold fb_X12_keep_13
    simp (disch := omega) only [qi_lit, qi_le, if_pos (show 9400 ≤ k by omega)]
    exact hk g (fun i hi => hc i (by omega)) hf
  | succ r ih =>
    intro n k g hk2 hk3 hn hc hd hf
    obtain ⟨m, rfl⟩ : ∃ m, n = m + 1 := ⟨n - 1, by omega⟩
    obtain ⟨z, rfl⟩ : ∃ z, k = z + 235 := ⟨k - 235, by omega⟩
    show qT (fb_X12_keep_13 _ _ _) _
    unfold fb_X12_keep_13
    simp (disch := omega) only [qi_lit, qi_le, if_neg (show ¬ 9400 ≤ z + 235 by omega), qi_add, qi_sub, Nat.add_sub_cancel, qi_zib, if_true, qi_ix]
    refine ih m (z + 235 + 1) _ (by omega) (by omega) (by omega) (fun i hi => ?_) (fun i hi => ?_) (hf.sI rfl)
    · by_cases q : i = z
      · subst q
        rw [qs_Ie]
        exact hd (i + 235) (by omega)
      · rw [qs_In (by omega)]
        exact hc i (by omega)
    · rw [qs_In (by omega)]
      exact hd i (by omega)
/-- ACTS kept, the latest at the highest place -/
def vKp : mU → (Nat → Nat) → zSg → Prop
  | [], _, _ => True
  | (L, m) :: U, E, g => vBlk 547 (235 * U.length) L m E g ∧ vKp U E g
theorem vKp.fr {U : mU} {E : Nat → Nat} {g g' : zSg} (h : vKp U E g) (hf : ∀ j, j < 235 * U.length → g'.2.1 547 j = g.2.1 547 j) : vKp U E g' := by
  induction U with
  | nil => trivial
  | cons q U ih =>
    obtain ⟨L, m⟩ := q
    rw [List.length_cons] at hf
    exact ⟨h.1.cp (fun i hi => hf _ (by omega)), ih h.2 (fun j hj => hf j (by omega))⟩
/-- the eldest goes -/
theorem vKp.shift {E : Nat → Nat} {g g' : zSg} (hf : ∀ j, j < 9165 → g'.2.1 547 j = g.2.1 547 (j + 235)) : ∀ (U : mU) (k : Nat), U.length = k + 1 → k ≤ 39 → vKp U E g → vKp (U.take k) E g'
  | [], k, hl, _, _ => by rw [List.length_nil] at hl; omega
  | (L, m) :: U, 0, hl, _, _ => trivial
  | (L, m) :: U, k + 1, hl, hk, h => by
    rw [List.length_cons] at hl
    have hl2 : (U.take k).length = k := by rw [List.length_take]; omega
    refine ⟨?_, vKp.shift hf U k (by omega) (by omega) h.2⟩
    show vBlk 547 (235 * (U.take k).length) L m E g'
    refine h.1.cp (fun i hi => ?_)
    rw [hl2, show U.length = k + 1 by omega, hf _ (by omega)]
    exact congrArg (g.2.1 547) (by omega)
theorem m_keep {L : mL} {n : Nat} {E : Nat → Nat} {U : mU} {g : zSg} (h : vBlk 543 0 L n E g) (h35 : g.2.1 526 35 = Int32.ofNat U.length) (hU : U.length ≤ 40) (hk : vKp U E g) :
    ∃ g', f_X12_keep g = some ((), g') ∧ vKp (((L, n) :: U).take 40) E g' ∧ g'.2.1 526 35 = Int32.ofNat (((L, n) :: U).take 40).length ∧ qF (fun a k => a = 547 ∨ (a = 526 ∧ k = 35)) g g' := by
  unfold f_X12_keep
  rw [show gI g 526 35 = Int32.ofNat U.length from h35]
  simp (disch := omega) only [qi_lit, qi_inj]
  by_cases q : U.length = 40
  · rw [if_neg (fun w => w q)]
    obtain ⟨u, g1, ze1, z⟩ : qT (f_X12_keep_13 zFu (Int32.ofNat 235) g) (fun _ g' => vKp (U.take 39) E g' ∧ vBlk 547 (235 * 39) L n E g' ∧ g'.2.1 526 35 = Int32.ofNat 40 ∧ qF (fun a k => a = 547 ∨ (a = 526 ∧ k = 35)) g g') := by
      refine m_shift_l (fun g' hc hf => ?_) 9165 zFu 235 g (by omega) (by omega) (by show _ < 1000000; omega) (fun i hi => by omega) (fun i hi => rfl) qF.rfl'
      unfold f_X12_keep_42 f_X12_keep_52
      have e35 : g'.2.1 526 35 = Int32.ofNat 40 := by rw [hf.2.1 _ _ (by omega), h35, q]
      rw [show gI g' 526 35 - 1 = Int32.ofNat 39 from by show g'.2.1 526 35 - Int32.ofNat 1 = _; rw [e35]; rfl]
      obtain ⟨g2, ze2, hc2, hf2⟩ := m_keep_l (a := 39) (g0 := gsI g' 526 35 (Int32.ofNat 39)) (by omega) 235 zFu 0 (gsI g' 526 35 (Int32.ofNat 39)) (by omega) (by show _ < 1000000; omega) qs_Ie (fun i hi => by omega) qF.rfl'
      refine ⟨(), _, ze2, ?_, ?_, ?_, ?_⟩
      · have hs := vKp.shift (g := g) (g' := gsI g' 526 35 (Int32.ofNat 39)) (fun j hj => by rw [qs_In (by omega)]; exact hc j hj) U 39 (by omega) (Nat.le_refl _) hk
        refine hs.fr (fun j hj => ?_)
        rw [List.length_take] at hj
        rw [qs_In (by omega), hf2.2.1 _ _ (by omega)]
      · refine h.cp (fun i hi => ?_)
        rw [qs_In (by omega), hc2 i hi, qs_In (by omega), hf.2.1 _ _ (by omega), Nat.zero_add]
      · rw [qs_Ie]
      · exact ((((hf.mono fun b k w => Or.inl w).sI (Or.inr ⟨rfl, rfl⟩)).tr (hf2.mono fun b k w => Or.inl w.1)).sI (Or.inr ⟨rfl, rfl⟩))
    obtain ⟨z1, z2, z3, z4⟩ := z
    have hl : (U.take 39).length = 39 := by rw [List.length_take]; omega
    refine ⟨g1, ze1, ?_, ?_, z4⟩
    · show vBlk 547 (235 * (U.take 39).length) L n E g1 ∧ vKp (U.take 39) E g1
      rw [hl]
      exact ⟨z2, z1⟩
    · rw [z3, List.length_take, List.length_cons, q]
      rfl
  · rw [if_pos q]
    unfold f_X12_keep_52
    obtain ⟨g2, ze2, hc2, hf2⟩ := m_keep_l (a := U.length) (g0 := g) (by omega) 235 zFu 0 g (by omega) (by show _ < 1000000; omega) h35 (fun i hi => by omega) qF.rfl'
    have ht : ((L, n) :: U).take 40 = (L, n) :: U := List.take_of_length_le (by rw [List.length_cons]; omega)
    refine ⟨_, ze2, ?_, ?_, (hf2.mono fun b k w => Or.inl w.1).sI (Or.inr ⟨rfl, rfl⟩)⟩
    · rw [ht]
      refine ⟨h.cp (fun i hi => ?_), hk.fr (fun j hj => ?_)⟩
      · rw [qs_In (by omega), hc2 i hi, Nat.zero_add]
      · rw [qs_In (by omega), hf2.2.1 _ _ (by omega)]
    · rw [qs_Ie, ht, List.length_cons]
theorem m_undo0 {g : zSg} (h35 : g.2.1 526 35 = Int32.ofNat 0) : f_X12_undo g = some (-1, g) := by
  unfold f_X12_undo
  rw [show gI g 526 35 = Int32.ofNat 0 from h35, if_neg (fun w => w rfl)]
theorem m_undo {L : mL} {m : Nat} {E : Nat → Nat} {U : mU} {g : zSg} (h35 : g.2.1 526 35 = Int32.ofNat (U.length + 1)) (hU : U.length + 1 ≤ 40) (hk : vKp ((L, m) :: U) E g) :
    ∃ g', f_X12_undo g = some (Int32.ofNat U.length, g') ∧ vBlk 543 0 L m E g' ∧ vKp U E g' ∧ g'.2.1 526 35 = Int32.ofNat U.length ∧ qF (fun a k => (a = 543 ∧ k < 235) ∨ (a = 526 ∧ k = 35)) g g' := by
  obtain ⟨k1, k2⟩ := hk
  unfold f_X12_undo
  rw [show gI g 526 35 = Int32.ofNat (U.length + 1) from h35]
  have hne : ¬ Int32.ofNat (U.length + 1) = 0 := by
    show ¬ Int32.ofNat (U.length + 1) = Int32.ofNat 0
    rw [qi_inj (by omega) (by omega)]
    omega
  rw [if_pos hne, show Int32.ofNat (U.length + 1) - 1 = Int32.ofNat U.length from by show Int32.ofNat (U.length + 1) - Int32.ofNat 1 = _; rw [qi_sub (by omega)]; rfl]
  obtain ⟨v, g1, ze1, z⟩ : qT (f_X12_undo_21 zFu (Int32.ofNat 0) (gsI g 526 35 (Int32.ofNat U.length))) (fun v g' => v = Int32.ofNat U.length ∧ vBlk 543 0 L m E g' ∧ vKp U E g' ∧ g'.2.1 526 35 = Int32.ofNat U.length ∧ qF (fun a k => (a = 543 ∧ k < 235) ∨ (a = 526 ∧ k = 35)) g g') := by
    refine m_undo_l (a := U.length) (g0 := gsI g 526 35 (Int32.ofNat U.length)) (by omega) qs_Ie (fun g' hc hf => ?_) 235 zFu 0 _ (by omega) (by show _ < 1000000; omega) (fun i hi => by omega) qF.rfl'
    have e35 : g'.2.1 526 35 = Int32.ofNat U.length := by rw [hf.2.1 _ _ (by omega), qs_Ie]
    refine ⟨_, _, rfl, e35, k1.cp (fun i hi => ?_), k2.fr (fun j hj => ?_), e35, ?_⟩
    · rw [hc i hi, qs_In (by omega)]
    · rw [hf.2.1 _ _ (by omega), qs_In (by omega)]
    · exact (qF.rfl'.sI (Or.inr ⟨rfl, rfl⟩)).tr (hf.mono fun b k w => Or.inl ⟨w.1, by omega⟩)
  obtain ⟨rfl, z⟩ := z
  exact ⟨g1, ze1, z⟩
def vImM (Im : mIm) (g : zSg) : Prop := match Im with
  | none => g.2.1 526 47 = Int32.ofNat 0
  | some (L, n, E) => g.2.1 526 47 = Int32.ofNat 1 ∧ vBlk 552 0 L n E g
theorem m_image {L : mL} {n : Nat} {E : Nat → Nat} {g : zSg} (h : vBlk 543 0 L n E g) : ∃ g', f_X12_image_11 zFu (Int32.ofNat 0) g = some (Int32.ofNat (L 53), g') ∧ vImM (some (L, n, E)) g' ∧ qF (fun a k => a = 552 ∨ (a = 526 ∧ k = 47)) g g' := by
  obtain ⟨v, g1, ze1, z⟩ : qT (f_X12_image_11 zFu (Int32.ofNat 0) g) (fun v g' => v = Int32.ofNat (L 53) ∧ vImM (some (L, n, E)) g' ∧ qF (fun a k => a = 552 ∨ (a = 526 ∧ k = 47)) g g') := by
    refine m_image_l (g0 := g) (fun g' hc hf => ?_) 235 zFu 0 g (by omega) (by show _ < 1000000; omega) (fun i hi => by omega) qF.rfl'
    unfold f_X12_image_36
    refine ⟨_, _, rfl, ?_, ⟨qs_Ie, h.cp (fun i hi => ?_)⟩, (hf.mono fun b k w => Or.inl w.1).sI (Or.inr ⟨rfl, rfl⟩)⟩
    · show (gsI g' 526 47 1).2.1 543 53 = _
      rw [qs_In (by omega), hf.2.1 _ _ (by omega)]
      exact h.1 53 (by omega)
    · rw [qs_In (by omega)]
      exact hc i hi
  obtain ⟨rfl, z⟩ := z
  exact ⟨g1, ze1, z⟩
theorem m_back0 {g : zSg} (h : vImM none g) : f_X12_back g = some (-1, g) := by
  unfold f_X12_back
  rw [if_neg (fun w => w h)]
theorem m_back {L : mL} {n : Nat} {E : Nat → Nat} {g : zSg} (h : vImM (some (L, n, E)) g) : ∃ g', f_X12_back g = some (Int32.ofNat (L 53), g') ∧ vBlk 543 0 L n E g' ∧ g'.2.1 526 35 = Int32.ofNat 0 ∧ qF (fun a k => (a = 543 ∧ k < 235) ∨ (a = 526 ∧ k = 35)) g g' := by
  obtain ⟨h1, h2⟩ := h
  unfold f_X12_back
  have hne : ¬ gI g 526 47 = 0 := by rw [show gI g 526 47 = Int32.ofNat 1 from h1]; decide
  rw [if_pos hne]
  obtain ⟨v, g1, ze1, z⟩ : qT (f_X12_back_11 zFu (Int32.ofNat 0) g) (fun v g' => v = Int32.ofNat (L 53) ∧ vBlk 543 0 L n E g' ∧ g'.2.1 526 35 = Int32.ofNat 0 ∧ qF (fun a k => (a = 543 ∧ k < 235) ∨ (a = 526 ∧ k = 35)) g g') := by
    refine m_back_l (g0 := g) (fun g' hc hf => ?_) 235 zFu 0 g (by omega) (by show _ < 1000000; omega) (fun i hi => by omega) qF.rfl'
    unfold f_X12_back_36
    have hb : vBlk 543 0 L n E g' := h2.cp hc
    refine ⟨_, _, rfl, ?_, hb.cp (fun i hi => by rw [qs_In (by omega)]), qs_Ie, (hf.mono fun b k w => Or.inl ⟨w.1, by omega⟩).sI (Or.inr ⟨rfl, rfl⟩)⟩
    show (gsI g' 526 35 0).2.1 543 53 = _
    rw [qs_In (by omega)]
    exact hb.1 53 (by omega)
  obtain ⟨rfl, z⟩ := z
  exact ⟨g1, ze1, z⟩
