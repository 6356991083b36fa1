/-! ===== both sides: the COAST is taken ===== -/
theorem mTold_z {C : mC} {i : Nat} (h1 : 6 ≤ i) (h2 : i < 50 ∨ 53 ≤ i) : mTold C i = 0 := by
  unfold mTold
  rw [if_neg (by omega), if_neg (by omega), if_neg (by omega), if_neg (by omega)]
theorem mTold_kn {C : mC} {c : Nat} (hC : mWf C) (hc : c < 6) : mKn C (mTold C) c = if c < C.2.1 then 1 <<< mOwn C c else 0 := by
  have hP := hC.1
  refine Nat.eq_of_testBit_eq fun i => ?_
  unfold mKn
  rw [mBits_tb]
  unfold mKnows
  by_cases q : c < C.2.1
  · rw [if_pos q, decide_eq_true q, Bool.true_and, Nat.one_shiftLeft, Nat.testBit_two_pow]
    by_cases hi : i < C.1
    · have hn := hC.nose hi
      rw [decide_eq_true hi, Bool.true_and, mTold_z (i := 6 + 6 * i + c) (by omega) (by omega), decide_eq_false (show ¬ mNose C i ≤ 0 by omega), Bool.or_false]
    · have ho := (hC.hvy q).2.2
      rw [decide_eq_false hi, Bool.false_and, decide_eq_false (by omega)]
  · rw [if_neg q, decide_eq_false q, Bool.false_and, Bool.and_false, Nat.zero_testBit]
section AM
variable {C : mC} {g : zSg}
theorem x_becC (h : vDX C g) (hb : ∀ k, k < 47 → C.2.2 k ≤ 99) : ∃ g', f_X0_become 3 7 g = some ((), g') ∧ vCo 3 5 C g' ∧ qF (fun a k => (a = 3 ∧ (k = 1 ∨ k = 2 ∨ k = 3)) ∨ a = 5) g g' := by
  obtain ⟨g1, ze1, r1, f1⟩ := q_bec (a := 4) (b := 8) (n := 47) (g := g) rfl rfl (by decide)
  have e0 : f_X7_get 4 0 g1 = some (g1.2.1 5 0, g1) := q_get (a := 4) (j := 0) (n := 47) rfl (by decide) (by omega)
  have r : ∀ k, k < 47 → g1.2.1 5 k = Int32.ofNat (C.2.2 k) := fun k hk => (r1 k hk).trans (h.2.2 k hk)
  have e2 : g1.2.1 7 2 = Int32.ofNat C.1 := (f1.2.1 _ _ (by omega)).trans h.1
  have e3 : g1.2.1 7 3 = Int32.ofNat C.2.1 := (f1.2.1 _ _ (by omega)).trans h.2.1
  have x2 : gI (gsI g1 3 1 (g1.2.1 5 0)) 7 2 = Int32.ofNat C.1 := (qs_In (by omega)).trans e2
  have x3 : gI (gsI (gsI g1 3 1 (g1.2.1 5 0)) 3 2 (Int32.ofNat C.1)) 7 3 = Int32.ofNat C.2.1 := (qs_In (by omega)).trans ((qs_In (by omega)).trans e3)
  refine ⟨gsI (gsI (gsI g1 3 1 (g1.2.1 5 0)) 3 2 (Int32.ofNat C.1)) 3 3 (Int32.ofNat C.2.1), ?_, ⟨?_, ?_, qs_Ie, fun k hk => ?_⟩, (((f1.mono fun a k w => Or.inr w).sI (Or.inl ⟨rfl, by omega⟩)).sI (Or.inl ⟨rfl, by omega⟩)).sI (Or.inl ⟨rfl, by omega⟩)⟩
  · unfold f_X0_become
    rw [ze1, qB_s, e0, qB_s, x2, x3]
  · rw [qs_In (by omega), qs_In (by omega), qs_Ie]; exact r 0 (by omega)
  · rw [qs_In (by omega), qs_Ie]
  · rw [qs_In (by omega), qs_In (by omega), qs_In (by omega)]; exact r k hk
theorem x_begin (hC : mWf C) (h : vCo 3 5 C g) : ∃ g', f_X10_begin 39 g = some ((), g') ∧ vSt 39 C (mTold C) 0 g' ∧ qF (fun a _ => 39 ≤ a ∧ a ≤ 47) g g' := by
  have hP := hC.1
  have hS := hC.2.1
  obtain ⟨g1, ze1, r1, f1⟩ := x_clear (a := 40) (n := 6) (g := g) rfl (by decide)
  obtain ⟨g2, ze2, r2, f2⟩ := x_clear (a := 42) (n := 6) (g := g1) rfl (by decide)
  obtain ⟨g3, ze3, r3, f3⟩ := x_clear (a := 44) (n := 6) (g := g2) rfl (by decide)
  obtain ⟨g4, ze4, r4, f4⟩ := x_clear (a := 46) (n := 36) (g := g3) rfl (by decide)
  have F4 : qF (fun a _ => 39 ≤ a ∧ a ≤ 47) g g4 := (((f1.mono fun a k w => by omega).tr (f2.mono fun a k w => by omega)).tr (f3.mono fun a k w => by omega)).tr (f4.mono fun a k w => by omega)
  have s41 : ∀ q, q < 6 → g4.2.1 41 q = Int32.ofNat 0 := fun q hq => by rw [f4.2.1 _ _ (by omega), f3.2.1 _ _ (by omega), f2.2.1 _ _ (by omega)]; exact r1 q hq
  have s43 : ∀ q, q < 6 → g4.2.1 43 q = Int32.ofNat 0 := fun q hq => by rw [f4.2.1 _ _ (by omega), f3.2.1 _ _ (by omega)]; exact r2 q hq
  have s45 : ∀ q, q < 6 → g4.2.1 45 q = Int32.ofNat 0 := fun q hq => by rw [f4.2.1 _ _ (by omega)]; exact r3 q hq
  obtain ⟨g5, hg5⟩ : ∃ g5, g5 = gsI (gsI (gsI (gsI g4 39 4 0) 39 5 0) 39 9 0) 39 10 0 := ⟨_, rfl⟩
  have F5 : qF (fun a _ => 39 ≤ a ∧ a ≤ 47) g g5 := by rw [hg5]; exact (((F4.sI (by omega)).sI (by omega)).sI (by omega)).sI (by omega)
  have hc5 : vCo 3 5 C g5 := h.fr F5 (fun k => by omega) (fun k => by omega)
  have gt : ∀ k (g' : zSg), k < 47 → vCo 3 5 C g' → f_X7_get 4 (Int32.ofNat k) g' = some (Int32.ofNat (C.2.2 k), g') := fun k g' hk hc => by rw [q_get (a := 4) (n := 47) rfl (by decide) hk]; rw [hc.2.2.2 k hk]
  obtain ⟨g6, hg6⟩ : ∃ g6, g6 = gsI (gsI (gsI g5 39 6 (Int32.ofNat (C.2.2 4))) 39 7 (Int32.ofNat (C.2.2 2))) 39 8 (Int32.ofNat (C.2.2 3)) := ⟨_, rfl⟩
  have F6 : qF (fun a _ => 39 ≤ a ∧ a ≤ 47) g g6 := by rw [hg6]; exact ((F5.sI (by omega)).sI (by omega)).sI (by omega)
  have hc6 : vCo 3 5 C g6 := h.fr F6 (fun k => by omega) (fun k => by omega)
  have o6 : ∀ a k, a ≠ 39 → g6.2.1 a k = g4.2.1 a k := fun a k q => by rw [hg6, qs_In (by omega), qs_In (by omega), qs_In (by omega), hg5, qs_In (by omega), qs_In (by omega), qs_In (by omega), qs_In (by omega)]
  -- SECRETS
  have secs : ∀ g7 : zSg, vCo 3 5 C g7 → (∀ q, q < 6 → g7.2.1 45 q = Int32.ofNat 0) → ∃ g', f_X10_begin_72 39 g7 = some ((), g') ∧ (∀ c, c < 6 → g'.2.1 45 c = Int32.ofNat (if c < C.2.1 then 1 <<< mOwn C c else 0)) ∧ qF (fun a _ => a = 45) g7 g' := by
    intro g7 hc7 z7
    unfold f_X10_begin_72
    have hfin : ∀ g1 : zSg, (∀ c, c < 6 → g1.2.1 45 c = Int32.ofNat (if c < C.2.1 then 1 <<< mOwn C c else 0)) → qF (fun a _ => a = 45) g7 g1 → ∃ g', f_X10_begin_74 39 zFu (Int32.ofNat C.2.1) g1 = some ((), g') ∧ (∀ c, c < 6 → g'.2.1 45 c = Int32.ofNat (if c < C.2.1 then 1 <<< mOwn C c else 0)) ∧ qF (fun a _ => a = 45) g7 g' := fun g1 h1 f1 => by
      refine ⟨g1, ?_, h1, f1⟩
      show fb_X10_begin_74 39 (f_X10_begin_74 39 999999) (Int32.ofNat C.2.1) g1 = _
      unfold fb_X10_begin_74
      rw [x_secrets (hc7.fr f1 (fun k => by omega) (fun k => by omega)), qB_s, if_pos (show Int32.ofNat C.2.1 ≤ Int32.ofNat C.2.1 by rw [qi_le (by omega) (by omega)]; exact Nat.le_refl _)]
    refine q_loop (F := fun m k g => f_X10_begin_74 39 m (Int32.ofNat k) g) (N := C.2.1) (Inv := fun k g1 => (∀ c, c < 6 → g1.2.1 45 c = Int32.ofNat (if c < k then 1 <<< mOwn C c else 0)) ∧ qF (fun a _ => a = 45) g7 g1) (R := fun w => ∃ g', w = some ((), g') ∧ (∀ c, c < 6 → g'.2.1 45 c = Int32.ofNat (if c < C.2.1 then 1 <<< mOwn C c else 0)) ∧ qF (fun a _ => a = 45) g7 g') (by omega) ?_ ?_ (s := 0) (by omega) ⟨fun c hc => by rw [if_neg (by omega)]; exact z7 c hc, qF.rfl'⟩
    · intro m g1 ⟨h1, f1⟩
      refine ⟨g1, ?_, h1, f1⟩
      show fb_X10_begin_74 _ _ _ g1 = _
      unfold fb_X10_begin_74
      rw [x_secrets (hc7.fr f1 (fun k => by omega) (fun k => by omega)), qB_s, if_pos (show Int32.ofNat C.2.1 ≤ Int32.ofNat C.2.1 by rw [qi_le (by omega) (by omega)]; exact Nat.le_refl _)]
    · intro m k g1 hk ⟨h1, f1⟩ ih
      have hc1 := hc7.fr f1 (fun k => by omega) (fun k => by omega)
      have ho := (hC.hvy hk).2.2
      have e45 : g1.2.1 45 k = Int32.ofNat 0 := by have := h1 k (by omega); rwa [if_neg (Nat.lt_irrefl _)] at this
      show ∃ g', fb_X10_begin_74 _ _ _ g1 = _ ∧ _
      unfold fb_X10_begin_74 f_X8_learn
      rw [x_secrets hc1, qB_s, if_neg (show ¬ Int32.ofNat C.2.1 ≤ Int32.ofNat k by rw [qi_le (by omega) (by omega)]; omega), x_owner hc1 (by omega), qB_s, q_get (a := 44) (n := 6) rfl (by decide) (by omega), qB_s, q_set (a := 44) (n := 6) rfl (by decide) (by omega), qB_s]
      show ∃ g', f_X10_begin_74 39 m (Int32.ofNat k + 1) (gsI g1 45 k (g1.2.1 45 k ||| 1 <<< (Int32.ofNat (mOwn C k) &&& 31))) = _ ∧ _
      rw [show Int32.ofNat k + 1 = Int32.ofNat (k + 1) from qi_add k 1]
      refine ih _ ⟨fun c hc => ?_, f1.sI rfl⟩
      by_cases e : c = k
      · subst e
        rw [qs_Ie, if_pos (by omega), e45, show (1 : Int32) <<< (Int32.ofNat (mOwn C c) &&& 31) = Int32.ofNat (1 <<< mOwn C c) from qi_shl (a := 1) (by omega), qi_or, Nat.zero_or]
      · rw [qs_In (by omega), h1 c hc]
        by_cases q : c < k
        · rw [if_pos q, if_pos (by omega)]
        · rw [if_neg q, if_neg (by omega)]
  have pers : ∃ g', f_X10_begin_39 39 zFu 0 g6 = some ((), g') ∧ (∀ q, q < 6 → g'.2.1 41 q = Int32.ofNat (if q < C.1 then mHome C q else 0)) ∧ (∀ c, c < 6 → g'.2.1 45 c = Int32.ofNat (if c < C.2.1 then 1 <<< mOwn C c else 0)) ∧ qF (fun a _ => a = 41 ∨ a = 45) g6 g' := by
    refine q_loop (F := fun m k g => f_X10_begin_39 39 m (Int32.ofNat k) g) (N := C.1) (Inv := fun k g1 => (∀ q, q < 6 → g1.2.1 41 q = Int32.ofNat (if q < k then mHome C q else 0)) ∧ qF (fun a _ => a = 41) g6 g1) (R := fun w => ∃ g', w = some ((), g') ∧ (∀ q, q < 6 → g'.2.1 41 q = Int32.ofNat (if q < C.1 then mHome C q else 0)) ∧ (∀ c, c < 6 → g'.2.1 45 c = Int32.ofNat (if c < C.2.1 then 1 <<< mOwn C c else 0)) ∧ qF (fun a _ => a = 41 ∨ a = 45) g6 g') (by omega) ?_ ?_ (s := 0) (by omega) ⟨fun q hq => by rw [if_neg (by omega), o6 _ _ (by omega)]; exact s41 q hq, qF.rfl'⟩
    · intro m g1 ⟨h1, f1⟩
      have hc1 := hc6.fr f1 (fun k => by omega) (fun k => by omega)
      obtain ⟨g', ze, k1, f'⟩ := secs g1 hc1 (fun q hq => by rw [f1.2.1 _ _ (by omega), o6 _ _ (by omega)]; exact s45 q hq)
      refine ⟨g', ?_, fun q hq => (f'.2.1 _ _ (by omega)).trans (h1 q hq), k1, (f1.mono fun a k w => Or.inl w).tr (f'.mono fun a k w => Or.inr w)⟩
      show fb_X10_begin_39 _ _ _ g1 = _
      unfold fb_X10_begin_39
      rw [x_persons hc1, qB_s, if_pos (show Int32.ofNat C.1 ≤ Int32.ofNat C.1 by rw [qi_le (by omega) (by omega)]; exact Nat.le_refl _)]
      exact ze
    · intro m k g1 hk ⟨h1, f1⟩ ih
      have hc1 := hc6.fr f1 (fun k => by omega) (fun k => by omega)
      show ∃ g', fb_X10_begin_39 _ _ _ g1 = _ ∧ _
      unfold fb_X10_begin_39
      rw [x_persons hc1, qB_s, if_neg (show ¬ Int32.ofNat C.1 ≤ Int32.ofNat k by rw [qi_le (by omega) (by omega)]; omega), x_home hc1 (by omega), qB_s, q_set (a := 40) (n := 6) rfl (by decide) (by omega), qB_s, show Int32.ofNat k + 1 = Int32.ofNat (k + 1) from qi_add k 1]
      refine ih _ ⟨fun q hq => ?_, f1.sI rfl⟩
      by_cases e : q = k
      · subst e; rw [qs_Ie, if_pos (by omega)]
      · rw [qs_In (by omega), h1 q hq]
        by_cases q2 : q < k
        · rw [if_pos q2, if_pos (by omega)]
        · rw [if_neg q2, if_neg (by omega)]
  obtain ⟨g7, ze7, k1, k2, f7⟩ := pers
  have F7 : qF (fun a _ => 39 ≤ a ∧ a ≤ 47) g g7 := F6.tr (f7.mono fun a k w => by omega)
  have o7 : ∀ k, g7.2.1 39 k = g6.2.1 39 k := fun k => f7.2.1 _ _ (by omega)
  have n39 : ∀ k, k ≠ 6 → k ≠ 7 → k ≠ 8 → g6.2.1 39 k = g5.2.1 39 k := fun k q1 q2 q3 => by rw [hg6, qs_In (by omega), qs_In (by omega), qs_In (by omega)]
  refine ⟨g7, ?_, ⟨⟨fun p hp => ?_, fun c hc => ?_, ?_, ?_, ?_, ?_, ?_, ?_⟩, fun c hc _ => ⟨?_, fun p hp => ?_⟩, ?_⟩, F7⟩
  · unfold f_X10_begin f_X8_clear f_X0_windTold f_X0_oakTold f_X0_coinsTold
    rw [ze1, qB_s, ze2, qB_s, ze3, qB_s, ze4, qB_s]
    show zB (zB (f_X7_get 4 4 (gsI (gsI (gsI (gsI g4 39 4 0) 39 5 0) 39 9 0) 39 10 0)) (fun v1 g2 => some (v1, g2))) _ = _
    rw [← hg5]
    rw [show f_X7_get 4 4 g5 = _ from gt 4 g5 (by omega) hc5, qB_s]
    show zB (zB (f_X7_get 4 2 (gsI g5 39 6 (Int32.ofNat (C.2.2 4)))) (fun v1 g2 => some (v1, g2))) _ = _
    rw [show f_X7_get 4 2 (gsI g5 39 6 (Int32.ofNat (C.2.2 4))) = _ from gt 2 _ (by omega) (h.fr (F5.sI (by omega)) (fun k => by omega) (fun k => by omega)), qB_s]
    show zB (zB (f_X7_get 4 3 (gsI (gsI g5 39 6 (Int32.ofNat (C.2.2 4))) 39 7 (Int32.ofNat (C.2.2 2)))) (fun v1 g2 => some (v1, g2))) _ = _
    rw [show f_X7_get 4 3 (gsI (gsI g5 39 6 (Int32.ofNat (C.2.2 4))) 39 7 (Int32.ofNat (C.2.2 2))) = _ from gt 3 _ (by omega) (h.fr ((F5.sI (by omega)).sI (by omega)) (fun k => by omega) (fun k => by omega)), qB_s]
    show f_X10_begin_39 39 zFu 0 (gsI (gsI (gsI g5 39 6 (Int32.ofNat (C.2.2 4))) 39 7 (Int32.ofNat (C.2.2 2))) 39 8 (Int32.ofNat (C.2.2 3))) = _
    rw [← hg6]
    exact ze7
  · rw [k1 p hp]
    unfold mTold
    rw [if_pos hp]
  · show g7.2.1 43 c = _
    rw [f7.2.1 _ _ (by omega), o6 _ _ (by omega), s43 c hc, mTold_z (by omega) (by omega)]
  · rw [o7, n39 _ (by omega) (by omega) (by omega), hg5, qs_In (by omega), qs_In (by omega), qs_In (by omega), qs_Ie, mTold_z (by omega) (by omega)]; rfl
  · rw [o7, n39 _ (by omega) (by omega) (by omega), hg5, qs_In (by omega), qs_In (by omega), qs_Ie, mTold_z (by omega) (by omega)]; rfl
  · rw [o7, hg6, qs_In (by omega), qs_In (by omega), qs_Ie]; rfl
  · rw [o7, hg6, qs_In (by omega), qs_Ie]; rfl
  · rw [o7, hg6, qs_Ie]; rfl
  · rw [o7, n39 _ (by omega) (by omega) (by omega), hg5, qs_In (by omega), qs_Ie, mTold_z (by omega) (by omega)]; rfl
  · show g7.2.1 45 c = _
    rw [k2 c hc, mTold_kn hC hc]
  · show g7.2.1 47 (6 * p + c) = _
    rw [f7.2.1 _ _ (by omega), o6 _ _ (by omega), r4 _ (by omega), mTold_z (by omega) (by omega)]
  · rw [o7, n39 _ (by omega) (by omega) (by omega), hg5, qs_Ie]; rfl
def sKX (a k : Nat) : Prop := (a = 1 ∧ k = 1) ∨ a = 3 ∨ a = 5 ∨ (39 ≤ a ∧ a ≤ 47) ∨ (a = 48 ∧ (k = 4 ∨ k = 6)) ∨ (506 ≤ a ∧ a ≤ 515)
theorem x_takeCoast (hC : mWf C) (h : vDX C g) : ∃ g', f_X11_takeCoast g = some (Int32.ofNat (mCells C), g') ∧ g'.2.1 1 1 = Int32.ofNat 0 ∧ vCo 3 5 C g' ∧ vSt 39 C (mTold C) 0 g' ∧ g'.2.1 48 4 = Int32.ofNat 0 ∧ g'.2.1 48 6 = Int32.ofNat 0 ∧ g'.2.1 506 8 = Int32.ofNat 0 ∧ vS8 507 (mTold C) g' ∧ qF sKX g g' := by
  have F1 : qF sKX g (gsI g 1 1 0) := qF.rfl'.sI (Or.inl ⟨rfl, rfl⟩)
  have hd1 : vDX C (gsI g 1 1 0) := ⟨(qs_In (by omega)).trans h.1, (qs_In (by omega)).trans h.2.1, fun k hk => (qs_In (by omega)).trans (h.2.2 k hk)⟩
  obtain ⟨g2, ze2, c2, f2⟩ := x_becC hd1 hC.2.2.2.2.1
  have F2 : qF sKX g g2 := F1.tr (f2.mono fun a k w => by unfold sKX; omega)
  obtain ⟨g3, ze3, s3, f3⟩ := x_begin hC c2
  have F3 : qF sKX g g3 := F2.tr (f3.mono fun a k w => by unfold sKX; omega)
  have c3 : vCo 3 5 C g3 := c2.fr f3 (fun k => by omega) (fun k => by omega)
  have f4 : qF (fun a _ => a = 48) g3 (gsI (gsI g3 48 4 0) 48 6 0) := qF.sI (S := fun a _ => a = 48) (qF.sI (S := fun a _ => a = 48) qF.rfl' rfl) rfl
  have F4 : qF sKX g (gsI (gsI g3 48 4 0) 48 6 0) := (F3.sI (by unfold sKX; omega)).sI (by unfold sKX; omega)
  have s4 : vSt 39 C (mTold C) 0 (gsI (gsI g3 48 4 0) 48 6 0) := s3.fr f4 (fun b k q1 q2 => by omega)
  obtain ⟨g5, ze5, s5, f5⟩ := x_bec (a := 507) (b := 39) rfl rfl (by omega) s4
  have f6 : qF (fun a _ => a = 506) g5 (gsI g5 506 8 0) := qF.rfl'.sI rfl
  have F6 : qF sKX g (gsI g5 506 8 0) := (F4.tr (f5.mono fun a k w => by unfold sKX; omega)).sI (by unfold sKX; omega)
  have f36 : qF (fun a _ => a = 48 ∨ (506 ≤ a ∧ a ≤ 515)) g3 (gsI g5 506 8 0) := ((f4.mono fun a k w => Or.inl w).tr (f5.mono fun a k w => Or.inr (by omega))).sI (Or.inr (by omega))
  have c6 : vCo 3 5 C (gsI g5 506 8 0) := c3.fr f36 (fun k => by omega) (fun k => by omega)
  refine ⟨gsI g5 506 8 0, ?_, ?_, c6, s3.fr f36 (fun b k q1 q2 => by omega), ?_, ?_, qs_Ie, s5.1.fr f6 (fun b k q1 q2 => by omega), F6⟩
  · unfold f_X11_takeCoast f_X9_cutTo f_X1_draft f_X6_forget f_X2_forget
    rw [qB_s, qB_s]
    show (if (zK0 7).1 = 0 then zB (f_X0_become 3 7 (gsI g 1 1 0)) _ else none) = _
    rw [if_pos (by decide), ze2, qB_s, ze3, qB_s, qB_s]
    show zB (zB (f_X8_become 507 39 (gsI (gsI g3 48 4 0) 48 6 0)) (fun v1 g2 => some ((), gsI g2 506 8 0))) _ = _
    rw [ze5, qB_s]
    show zB (f_X0_cells 3 (gsI g5 506 8 0)) _ = _
    rw [x_cells c6, qB_s]
  · rw [qs_In (by omega), f5.2.1 _ _ (by omega), qs_In (by omega), qs_In (by omega), f3.2.1 _ _ (by omega), f2.2.1 _ _ (by omega), qs_Ie]; rfl
  · rw [qs_In (by omega), f5.2.1 _ _ (by omega), qs_In (by omega), qs_Ie]; rfl
  · rw [qs_In (by omega), f5.2.1 _ _ (by omega), qs_Ie]; rfl
theorem m_copy {F : (Int32 → zSg → Option (Int32 × zSg)) → Int32 → zSg → Option (Int32 × zSg)} {G : Nat → Int32 → zSg → Option (Int32 × zSg)} {fin : zSg → Option (Int32 × zSg)} {src dst n : Nat} (hG : ∀ m y g, G (m + 1) y g = F (G m) y g) (hF : ∀ kk y g, F kk y g = if Int32.ofNat n ≤ y then fin g else (if zib y n = true then (if zib y n = true then kk (y + 1) (gsI g dst (ix y) (gI g src (ix y))) else none) else none)) (hn : n < 1000) (hsd : src ≠ dst) (g : zSg) : ∃ g', G zFu 0 g = fin g' ∧ (∀ k, k < n → g'.2.1 dst k = g.2.1 src k) ∧ qF (fun a _ => a = dst) g g' := by
  refine q_loop (F := fun m k g => G m (Int32.ofNat k) g) (N := n) (Inv := fun k g1 => (∀ q, q < k → g1.2.1 dst q = g.2.1 src q) ∧ qF (fun a _ => a = dst) g g1) (R := fun w => ∃ g', w = fin g' ∧ (∀ k, k < n → g'.2.1 dst k = g.2.1 src k) ∧ qF (fun a _ => a = dst) g g') (by omega) ?_ ?_ (s := 0) (by omega) ⟨fun q hq => by omega, qF.rfl'⟩
  · intro m g1 ⟨h1, f1⟩
    refine ⟨g1, ?_, h1, f1⟩
    show G (m + 1) (Int32.ofNat n) g1 = _
    rw [hG, hF, if_pos (show Int32.ofNat n ≤ Int32.ofNat n by rw [qi_le (by omega) (by omega)]; exact Nat.le_refl _)]
  · intro m k g1 hk ⟨h1, f1⟩ ih
    show ∃ g', G (m + 1) (Int32.ofNat k) g1 = _ ∧ _
    rw [hG, hF, if_neg (show ¬ Int32.ofNat n ≤ Int32.ofNat k by rw [qi_le (by omega) (by omega)]; omega), if_pos (qi_zib (by omega) (by omega)), if_pos (qi_zib (by omega) (by omega)), qi_ix (by omega), show Int32.ofNat k + 1 = Int32.ofNat (k + 1) from qi_add k 1]
    refine ih _ ⟨fun q hq => ?_, f1.sI rfl⟩
    by_cases e : q = k
    · subst e; rw [qs_Ie]; exact f1.2.1 _ _ (fun w => hsd w)
    · rw [qs_In (by omega)]; exact h1 q (by omega)
def sKM (a k : Nat) : Prop := (a = 526 ∧ (k = 25 ∨ k = 26 ∨ k = 27 ∨ k = 35 ∨ k = 43 ∨ k = 47)) ∨ a = 540 ∨ a = 541 ∨ a = 542 ∨ a = 543
theorem m_takeCoast {E : Nat → Nat} (hC : mWf C) (h : vDM C g) : ∃ g', f_X12_takeCoast g = some (Int32.ofNat (mCells C), g') ∧ vMo C g' ∧ vBlk 543 0 (mTold C) 0 E g' ∧ g'.2.1 526 43 = Int32.ofNat 0 ∧ g'.2.1 526 35 = Int32.ofNat 0 ∧ g'.2.1 526 47 = Int32.ofNat 0 ∧ qF sKM g g' := by
  have hP := hC.1
  have hS := hC.2.1
  obtain ⟨v20, v21, v37, v38, v39⟩ := h
  obtain ⟨g0, hg0⟩ : ∃ g0, g0 = gsI (gsI g 526 25 (Int32.ofNat C.1)) 526 26 (Int32.ofNat C.2.1) := ⟨_, rfl⟩
  have F0 : qF sKM g g0 := by rw [hg0]; exact (qF.rfl'.sI (by unfold sKM; omega)).sI (by unfold sKM; omega)
  obtain ⟨g1, ze1, r1, f1⟩ := m_copy (F := fb_X12_takeCoast_18) (G := f_X12_takeCoast_18) (fin := f_X12_takeCoast_41) (src := 537) (dst := 540) (n := 5) (fun m y g => rfl) (fun kk y g => rfl) (by omega) (by omega) g0
  have a0 : g1.2.1 540 0 = Int32.ofNat (C.2.2 0) := by rw [r1 0 (by omega), hg0, qs_In (by omega), qs_In (by omega)]; exact v37 0 (by omega)
  have a1 : g1.2.1 540 1 = Int32.ofNat (C.2.2 1) := by rw [r1 1 (by omega), hg0, qs_In (by omega), qs_In (by omega)]; exact v37 1 (by omega)
  obtain ⟨g2, hg2⟩ : ∃ g2, g2 = gsI g1 526 27 (Int32.ofNat (mCells C)) := ⟨_, rfl⟩
  obtain ⟨g3, ze3, r3, f3⟩ := m_copy (F := fb_X12_takeCoast_60) (G := f_X12_takeCoast_60) (fin := f_X12_takeCoast_84) (src := 538) (dst := 541) (n := 18) (fun m y g => rfl) (fun kk y g => rfl) (by omega) (by omega) g2
  obtain ⟨g4, ze4, r4, f4⟩ := m_copy (F := fb_X12_takeCoast_86) (G := f_X12_takeCoast_86) (fin := f_X12_takeCoast_110) (src := 539) (dst := 542) (n := 24) (fun m y g => rfl) (fun kk y g => rfl) (by omega) (by omega) g3
  have zero : ∃ g', f_X12_takeCoast_112 zFu 0 g4 = f_X12_takeCoast_132 g' ∧ (∀ k, k < 235 → g'.2.1 543 k = Int32.ofNat 0) ∧ qF (fun a _ => a = 543) g4 g' := by
    refine q_loop (F := fun m k g => f_X12_takeCoast_112 m (Int32.ofNat k) g) (N := 235) (Inv := fun k g1 => (∀ q, q < k → g1.2.1 543 q = Int32.ofNat 0) ∧ qF (fun a _ => a = 543) g4 g1) (R := fun w => ∃ g', w = f_X12_takeCoast_132 g' ∧ (∀ k, k < 235 → g'.2.1 543 k = Int32.ofNat 0) ∧ qF (fun a _ => a = 543) g4 g') (by omega) ?_ ?_ (s := 0) (by omega) ⟨fun q hq => by omega, qF.rfl'⟩
    · intro m g1 ⟨h1, f1⟩
      refine ⟨g1, ?_, h1, f1⟩
      show fb_X12_takeCoast_112 _ _ g1 = _
      unfold fb_X12_takeCoast_112
      rw [if_pos (by decide)]
    · intro m k g1 hk ⟨h1, f1⟩ ih
      show ∃ g', fb_X12_takeCoast_112 _ _ g1 = _ ∧ _
      unfold fb_X12_takeCoast_112
      rw [if_neg (show ¬ (235 : Int32) ≤ Int32.ofNat k by rw [show (235 : Int32) = Int32.ofNat 235 from rfl, qi_le (by omega) (by omega)]; omega), if_pos (qi_zib (by omega) (by omega)), qi_ix (by omega), show Int32.ofNat k + 1 = Int32.ofNat (k + 1) from qi_add k 1]
      refine ih _ ⟨fun q hq => ?_, f1.sI rfl⟩
      by_cases e : q = k
      · subst e; rw [qs_Ie]; rfl
      · rw [qs_In (by omega)]; exact h1 q (by omega)
  obtain ⟨g5, ze5, r5, f5⟩ := zero
  have p540 : ∀ k, k < 5 → g5.2.1 540 k = Int32.ofNat (C.2.2 k) := fun k hk => by
    rw [f5.2.1 _ _ (by omega), f4.2.1 _ _ (by omega), f3.2.1 _ _ (by omega), hg2, qs_In (by omega), r1 k hk, hg0, qs_In (by omega), qs_In (by omega)]; exact v37 k hk
  have p541 : ∀ p k, p < C.1 → k < 3 → g5.2.1 541 (3 * p + k) = Int32.ofNat (C.2.2 (5 + 3 * p + k)) := fun p k hp hk => by
    rw [f5.2.1 _ _ (by omega), f4.2.1 _ _ (by omega), r3 _ (by omega), hg2, qs_In (by omega), f1.2.1 _ _ (by omega), hg0, qs_In (by omega), qs_In (by omega)]; exact v38 p k hp hk
  have p542 : ∀ c k, c < C.2.1 → k < 4 → g5.2.1 542 (4 * c + k) = Int32.ofNat (C.2.2 (23 + 4 * c + k)) := fun c k hc hk => by
    rw [f5.2.1 _ _ (by omega), r4 _ (by omega), f3.2.1 _ _ (by omega), hg2, qs_In (by omega), f1.2.1 _ _ (by omega), hg0, qs_In (by omega), qs_In (by omega)]; exact v39 c k hc hk
  have p25 : g5.2.1 526 25 = Int32.ofNat C.1 := by
    rw [f5.2.1 _ _ (by omega), f4.2.1 _ _ (by omega), f3.2.1 _ _ (by omega), hg2, qs_In (by omega), f1.2.1 _ _ (by omega), hg0, qs_In (by omega), qs_Ie]
  have p26 : g5.2.1 526 26 = Int32.ofNat C.2.1 := by
    rw [f5.2.1 _ _ (by omega), f4.2.1 _ _ (by omega), f3.2.1 _ _ (by omega), hg2, qs_In (by omega), f1.2.1 _ _ (by omega), hg0, qs_Ie]
  have p27 : g5.2.1 526 27 = Int32.ofNat (mCells C) := by
    rw [f5.2.1 _ _ (by omega), f4.2.1 _ _ (by omega), f3.2.1 _ _ (by omega), hg2, qs_Ie]
  have m5 : vMo C g5 := ⟨p540, p541, p542, p25, p26, p27⟩
  have F5 : qF sKM g g5 := ((((F0.tr (f1.mono fun a k w => by unfold sKM; omega)).tr (by rw [hg2]; exact qF.rfl'.sI (by unfold sKM; omega))).tr (f3.mono fun a k w => by unfold sKM; omega)).tr (f4.mono fun a k w => by unfold sKM; omega)).tr (f5.mono fun a k w => by unfold sKM; omega)
  have per : ∃ g', f_X12_takeCoast_134 zFu 0 g5 = f_X12_takeCoast_176 g' ∧ (∀ k, k < 235 → g'.2.1 543 k = Int32.ofNat (if k < C.1 then mHome C k else 0)) ∧ qF (fun a _ => a = 543) g5 g' := by
    refine q_loop (F := fun m k g => f_X12_takeCoast_134 m (Int32.ofNat k) g) (N := C.1) (Inv := fun k g1 => (∀ q, q < 235 → g1.2.1 543 q = Int32.ofNat (if q < k then mHome C q else 0)) ∧ qF (fun a _ => a = 543) g5 g1) (R := fun w => ∃ g', w = f_X12_takeCoast_176 g' ∧ (∀ k, k < 235 → g'.2.1 543 k = Int32.ofNat (if k < C.1 then mHome C k else 0)) ∧ qF (fun a _ => a = 543) g5 g') (by omega) ?_ ?_ (s := 0) (by omega) ⟨fun q hq => by rw [if_neg (by omega)]; exact r5 q hq, qF.rfl'⟩
    · intro m g1 ⟨h1, f1⟩
      refine ⟨g1, ?_, h1, f1⟩
      show fb_X12_takeCoast_134 _ _ g1 = _
      unfold fb_X12_takeCoast_134
      rw [show gI g1 526 25 = Int32.ofNat C.1 from (f1.2.1 _ _ (by omega)).trans p25, if_pos (show Int32.ofNat C.1 ≤ Int32.ofNat C.1 by rw [qi_le (by omega) (by omega)]; exact Nat.le_refl _)]
    · intro m k g1 hk ⟨h1, f1⟩ ih
      have m1 : vMo C g1 := m5.fr f1 (fun k => by omega) (fun k => by omega) (fun k => by omega) (fun k _ _ => by omega)
      show ∃ g', fb_X12_takeCoast_134 _ _ g1 = _ ∧ _
      unfold fb_X12_takeCoast_134
      rw [show gI g1 526 25 = Int32.ofNat C.1 from m1.2.2.2.1, if_neg (show ¬ Int32.ofNat C.1 ≤ Int32.ofNat k by rw [qi_le (by omega) (by omega)]; omega), show (1 : Int32) = Int32.ofNat 1 from rfl, show (0 : Int32) = Int32.ofNat 0 from rfl, m_ofPerson m1 hP hk (by omega), qB_s, m_ofPerson m1 hP hk (by omega), qB_s, qi_add, qi_add, show gI g1 540 0 = Int32.ofNat (C.2.2 0) from m1.1 0 (by omega), qi_mul, qi_add, Nat.zero_add, if_pos (qi_zib (by omega) (by omega)), qi_ix (by omega)]
      refine ih _ ⟨fun q hq => ?_, f1.sI rfl⟩
      by_cases e : q = k
      · subst e
        rw [qs_Ie, if_pos (by omega)]
        unfold mHome mW
        rw [Nat.mul_comm]
        rfl
      · rw [qs_In (by omega), h1 q hq]
        by_cases q2 : q < k
        · rw [if_pos q2, if_pos (by omega)]
        · rw [if_neg q2, if_neg (by omega)]
  obtain ⟨g6, ze6, r6, f6⟩ := per
  have m6 : vMo C g6 := m5.fr f6 (fun k => by omega) (fun k => by omega) (fun k => by omega) (fun k _ _ => by omega)
  obtain ⟨g7, hg7⟩ : ∃ g7, g7 = gsI (gsI (gsI (gsI (gsI (gsI g6 543 50 (Int32.ofNat (C.2.2 4))) 543 51 (Int32.ofNat (C.2.2 2))) 543 52 (Int32.ofNat (C.2.2 3))) 526 43 0) 526 35 0) 526 47 0 := ⟨_, rfl⟩
  have f7 : qF (fun a k => a = 543 ∨ (a = 526 ∧ (k = 35 ∨ k = 43 ∨ k = 47))) g6 g7 := by rw [hg7]; exact (((((qF.rfl'.sI (by omega)).sI (by omega)).sI (by omega)).sI (by omega)).sI (by omega)).sI (by omega)
  have m7 : vMo C g7 := m6.fr f7 (fun k => by omega) (fun k => by omega) (fun k => by omega) (fun k _ _ => by omega)
  have o7 : ∀ k, k ≠ 50 → k ≠ 51 → k ≠ 52 → g7.2.1 543 k = g6.2.1 543 k := fun k q1 q2 q3 => by rw [hg7, qs_In (by omega), qs_In (by omega), qs_In (by omega), qs_In (by omega), qs_In (by omega), qs_In (by omega)]
  refine ⟨g7, ?_, m7, ⟨fun i hi => ?_, ?_, fun j k hj => absurd hj (Nat.not_lt_zero _)⟩, ?_, ?_, ?_, (F5.tr (f6.mono fun a k w => by unfold sKM; omega)).tr (f7.mono fun a k w => by unfold sKM; omega)⟩
  · unfold f_X12_takeCoast
    have e1 : gI (gsI g 526 25 (gI g 526 20)) 526 21 = Int32.ofNat C.2.1 := (qs_In (by omega)).trans v21
    rw [e1, show gI g 526 20 = Int32.ofNat C.1 from v20, ← hg0, ze1]
    unfold f_X12_takeCoast_41
    rw [show gI g1 540 0 * gI g1 540 1 = Int32.ofNat (mCells C) by rw [show gI g1 540 0 = _ from a0, show gI g1 540 1 = _ from a1, qi_mul]; rfl, ← hg2, ze3]
    unfold f_X12_takeCoast_84
    rw [ze4]
    unfold f_X12_takeCoast_110
    rw [ze5]
    unfold f_X12_takeCoast_132
    rw [ze6]
    unfold f_X12_takeCoast_176
    have b4 : gI g6 540 4 = Int32.ofNat (C.2.2 4) := m6.1 4 (by omega)
    have b2 : gI (gsI g6 543 50 (Int32.ofNat (C.2.2 4))) 540 2 = Int32.ofNat (C.2.2 2) := (qs_In (by omega)).trans (m6.1 2 (by omega))
    have b3 : gI (gsI (gsI g6 543 50 (Int32.ofNat (C.2.2 4))) 543 51 (Int32.ofNat (C.2.2 2))) 540 3 = Int32.ofNat (C.2.2 3) := (qs_In (by omega)).trans ((qs_In (by omega)).trans (m6.1 3 (by omega)))
    rw [b4, b2, b3, ← hg7, show gI g7 526 27 = Int32.ofNat (mCells C) from m7.2.2.2.2.2]
  · rw [Nat.zero_add]
    by_cases q1 : i = 50
    · subst q1; rw [hg7, qs_In (by omega), qs_In (by omega), qs_In (by omega), qs_In (by omega), qs_In (by omega), qs_Ie]; rfl
    by_cases q2 : i = 51
    · subst q2; rw [hg7, qs_In (by omega), qs_In (by omega), qs_In (by omega), qs_In (by omega), qs_Ie]; rfl
    by_cases q3 : i = 52
    · subst q3; rw [hg7, qs_In (by omega), qs_In (by omega), qs_In (by omega), qs_Ie]; rfl
    rw [o7 i q1 q2 q3, r6 i (by omega)]
    by_cases q4 : i < 6
    · unfold mTold
      rw [if_pos q4]
    · rw [mTold_z (by omega) (by omega), if_neg (by omega)]
  · rw [o7 _ (by omega) (by omega) (by omega), r6 _ (by omega), if_neg (by omega)]; rfl
  · rw [hg7, qs_In (by omega), qs_In (by omega), qs_Ie]; rfl
  · rw [hg7, qs_In (by omega), qs_Ie]; rfl
  · rw [hg7, qs_Ie]; rfl
end AM
