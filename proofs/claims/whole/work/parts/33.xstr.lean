/-! ===== the class: STRENGTH, AIR ===== -/
def mB (b : Bool) : Int32 := if b then 1 else 0
theorem mB_0 {b : Bool} : (mB b = Int32.ofNat 0) = (b = false) := by cases b <;> simp [mB] <;> decide
theorem mB_1 {b : Bool} : (mB b = Int32.ofNat 1) = (b = true) := by cases b <;> simp [mB] <;> decide
/-- what only reads, scratch apart: its answer -/
def qE {α : Type} (S : Nat → Nat → Prop) (g : zSg) (o : Option (α × zSg)) (v : α) : Prop := ∃ g', o = some (v, g') ∧ qF S g g'
theorem qE_r {α : Type} {S : Nat → Nat → Prop} {g : zSg} {v : α} : qE S g (some (v, g)) v := ⟨g, rfl, qF.rfl'⟩
theorem qE_e {α : Type} {S : Nat → Nat → Prop} {g : zSg} {o : Option (α × zSg)} {v w : α} (h : qE S g o v) (e : v = w) : qE S g o w := e ▸ h
theorem qE_tr {α : Type} {S : Nat → Nat → Prop} {g g1 : zSg} {o : Option (α × zSg)} {v : α} (hf : qF S g g1) (h : qE S g1 o v) : qE S g o v := by
  obtain ⟨g2, e, h2⟩ := h
  exact ⟨g2, e, hf.tr h2⟩
/-- where States lie -/
theorem zK0_A {a : Nat} (h : (zK0 a).1 = 8) : a = 39 ∨ a = 54 ∨ (63 ≤ a ∧ a ≤ 414) ∨ (434 ≤ a ∧ a ≤ 497) ∨ a = 507 := by
  by_cases q : a < 576
  · exact (by decide +kernel : ∀ a, a < 576 → (zK0 a).1 = 8 → a = 39 ∨ a = 54 ∨ (63 ≤ a ∧ a ≤ 414) ∨ (434 ≤ a ∧ a ≤ 497) ∨ a = 507) a q h
  · rw [zK0_big q] at h
    cases h
theorem zK0_6 {a : Nat} (h : (zK0 a).1 = 8) : (zK0 (a + 2)).2 = 6 ∧ (zK0 (a + 4)).2 = 6 ∧ (zK0 (a + 6)).2 = 6 ∧ (zK0 (a + 8)).2 = 36 := by
  by_cases q : a < 576
  · exact (by decide +kernel : ∀ a, a < 576 → (zK0 a).1 = 8 → (zK0 (a + 2)).2 = 6 ∧ (zK0 (a + 4)).2 = 6 ∧ (zK0 (a + 6)).2 = 6 ∧ (zK0 (a + 8)).2 = 36) a q h
  · rw [zK0_big q] at h
    cases h
section XR
variable {a j : Nat} {x : Int32} {g : zSg}
theorem q_gS1 (h : (zK0 a).1 = 8) (hj : j < 6) : f_X7_get (a + 1) (Int32.ofNat j) g = some (g.2.1 (a + 2) j, g) := q_get (n := 6) (zK0_6 h).1 (by decide) hj
theorem q_gS3 (h : (zK0 a).1 = 8) (hj : j < 6) : f_X7_get (a + 3) (Int32.ofNat j) g = some (g.2.1 (a + 4) j, g) := q_get (n := 6) (zK0_6 h).2.1 (by decide) hj
theorem q_gS5 (h : (zK0 a).1 = 8) (hj : j < 6) : f_X7_get (a + 5) (Int32.ofNat j) g = some (g.2.1 (a + 6) j, g) := q_get (n := 6) (zK0_6 h).2.2.1 (by decide) hj
theorem q_gS7 (h : (zK0 a).1 = 8) (hj : j < 36) : f_X7_get (a + 7) (Int32.ofNat j) g = some (g.2.1 (a + 8) j, g) := q_get (n := 36) (zK0_6 h).2.2.2 (by decide) hj
theorem q_sS1 (h : (zK0 a).1 = 8) (hj : j < 6) : f_X7_set (a + 1) (Int32.ofNat j) x g = some ((), gsI g (a + 2) j x) := q_set (n := 6) (zK0_6 h).1 (by decide) hj
theorem q_sS5 (h : (zK0 a).1 = 8) (hj : j < 6) : f_X7_set (a + 5) (Int32.ofNat j) x g = some ((), gsI g (a + 6) j x) := q_set (n := 6) (zK0_6 h).2.2.1 (by decide) hj
theorem q_sS7 (h : (zK0 a).1 = 8) (hj : j < 36) : f_X7_set (a + 7) (Int32.ofNat j) x g = some ((), gsI g (a + 8) j x) := q_set (n := 36) (zK0_6 h).2.2.2 (by decide) hj
theorem q_aS3 (h : (zK0 a).1 = 8) (hj : j < 6) : f_X7_add (a + 3) (Int32.ofNat j) x g = some ((), gsI g (a + 4) j (g.2.1 (a + 4) j + x)) := q_add (n := 6) (zK0_6 h).2.1 (by decide) hj
end XR
/-- a State at a, BREATHS apart -/
def vS8 (a : Nat) (L : mL) (g : zSg) : Prop := (∀ p, p < 6 → g.2.1 (a + 2) p = Int32.ofNat (L p)) ∧ (∀ c, c < 6 → g.2.1 (a + 4) c = Int32.ofNat (L (42 + c))) ∧ g.2.1 a 4 = Int32.ofNat (L 48) ∧ g.2.1 a 5 = Int32.ofNat (L 49) ∧ g.2.1 a 6 = Int32.ofNat (L 50) ∧ g.2.1 a 7 = Int32.ofNat (L 51) ∧ g.2.1 a 8 = Int32.ofNat (L 52) ∧ g.2.1 a 9 = Int32.ofNat (L 53)
/-- its BREATHS, and who KNOWS, of the SECRETS asked for -/
def vBr (a mk : Nat) (C : mC) (L : mL) (g : zSg) : Prop := ∀ c, c < 6 → mk.testBit c = true → g.2.1 (a + 6) c = Int32.ofNat (mKn C L c) ∧ ∀ p, p < 6 → g.2.1 (a + 8) (6 * p + c) = Int32.ofNat (L (6 + 6 * p + c))
/-- the LAW that holds, as the class works it out -/
def mLwOk (lw : mLaw) : Prop := ∀ k f n v t o, k < 1000 → f < 1000 → n < 1000 → v < 1000 → t < 1000 → o < 1000 → -1000000 ≤ lw k f n v t o ∧ lw k f n v t o ≤ 1000000
def vLx (lw : mLaw) (g : zSg) : Prop := mLwOk lw ∧ ((g.2.2.2 = none ∧ ∀ k f n v t o, lw k f n v t o = (k : Int) - f) ∨ (∃ a, g.2.2.2 = some a ∧ (a = 17 ∨ a = 22 ∨ a = 27 ∨ a = 32) ∧ ∀ g' : zSg, (∀ k, g'.2.1 (a + 2) k = g.2.1 (a + 2) k) → g'.2.1 a 2 = g.2.1 a 2 → ∀ k f n v t o, k < 1000 → f < 1000 → n < 1000 → v < 1000 → t < 1000 → o < 1000 → g'.2.1 425 0 = Int32.ofNat k → g'.2.1 425 1 = Int32.ofNat f → g'.2.1 425 2 = Int32.ofNat n → g'.2.1 425 3 = Int32.ofNat v → g'.2.1 425 4 = Int32.ofNat t → g'.2.1 425 5 = Int32.ofNat o → qE (fun b _ => b = a + 4) g' (f_X4_worth a 424 g') (Int32.ofInt (lw k f n v t o))))
/-- scratch of what asks for STRENGTH -/
def sW (a _k : Nat) : Prop := a = 425 ∨ a = 21 ∨ a = 26 ∨ a = 31 ∨ a = 36
theorem vLx.fr {lw : mLaw} {g g' : zSg} {S : Nat → Nat → Prop} (h : vLx lw g) (hf : qF S g g') (hS : ∀ b k, (b = 17 ∨ b = 22 ∨ b = 27 ∨ b = 32 ∨ b = 19 ∨ b = 24 ∨ b = 29 ∨ b = 34) → ¬ S b k) : vLx lw g' := by
  refine ⟨h.1, ?_⟩
  rcases h.2 with ⟨h1, h2⟩ | ⟨a, h1, h2, h3⟩
  · exact Or.inl ⟨hf.2.2.2.trans h1, h2⟩
  · refine Or.inr ⟨a, hf.2.2.2.trans h1, h2, fun g2 e1 e2 => h3 g2 (fun k => (e1 k).trans (hf.2.1 _ _ (hS _ _ (by omega)))) (e2.trans (hf.2.1 _ _ (hS _ _ (by omega))))⟩
theorem vS8.fr {a : Nat} {L : mL} {g g' : zSg} {S : Nat → Nat → Prop} (h : vS8 a L g) (hf : qF S g g') (hS : ∀ b k, a ≤ b → b ≤ a + 8 → ¬ S b k) : vS8 a L g' :=
  ⟨fun p hp => (hf.2.1 _ _ (hS _ _ (by omega) (by omega))).trans (h.1 p hp), fun p hp => (hf.2.1 _ _ (hS _ _ (by omega) (by omega))).trans (h.2.1 p hp), (hf.2.1 _ _ (hS _ _ (by omega) (by omega))).trans h.2.2.1, (hf.2.1 _ _ (hS _ _ (by omega) (by omega))).trans h.2.2.2.1, (hf.2.1 _ _ (hS _ _ (by omega) (by omega))).trans h.2.2.2.2.1, (hf.2.1 _ _ (hS _ _ (by omega) (by omega))).trans h.2.2.2.2.2.1, (hf.2.1 _ _ (hS _ _ (by omega) (by omega))).trans h.2.2.2.2.2.2.1, (hf.2.1 _ _ (hS _ _ (by omega) (by omega))).trans h.2.2.2.2.2.2.2⟩
theorem vBr.fr {a mk : Nat} {C : mC} {L : mL} {g g' : zSg} {S : Nat → Nat → Prop} (h : vBr a mk C L g) (hf : qF S g g') (hS : ∀ b k, a ≤ b → b ≤ a + 8 → ¬ S b k) : vBr a mk C L g' :=
  fun c hc hm => ⟨(hf.2.1 _ _ (hS _ _ (by omega) (by omega))).trans (h c hc hm).1, fun p hp => (hf.2.1 _ _ (hS _ _ (by omega) (by omega))).trans ((h c hc hm).2 p hp)⟩
/-- all that STRENGTH is asked of -/
def vXs (nb : Nat) (C : mC) (lw : mLaw) (a : Nat) (L : mL) (g : zSg) : Prop := mWf C ∧ 0 < C.1 ∧ (zK0 a).1 = 8 ∧ nb ≤ 100000 ∧ mLb nb C L ∧ vCo 3 5 C g ∧ vLx lw g ∧ vS8 a L g
theorem vXs.fr {nb : Nat} {C : mC} {lw : mLaw} {a : Nat} {L : mL} {g g' : zSg} (h : vXs nb C lw a L g) (hf : qF sW g g') : vXs nb C lw a L g' := by
  obtain ⟨h1, h2, h3, h4, h5, h6, h7, h8⟩ := h
  have hA := zK0_A h3
  exact ⟨h1, h2, h3, h4, h5, h6.fr hf (fun k => by unfold sW; omega) (fun k => by unfold sW; omega), h7.fr hf (fun b k hb => by unfold sW; omega), h8.fr hf (fun b k q1 q2 => by unfold sW; omega)⟩
theorem q_clamp {z : Int} (h1 : -1000000 ≤ z) (h2 : z ≤ 1000000) : imax 0 (imin 9 (Int32.ofInt z)) = Int32.ofNat (mClamp z) := by
  show imax (Int32.ofInt 0) (imin (Int32.ofInt 9) (Int32.ofInt z)) = _
  rw [qj_imin (by omega) (by omega) (by omega) (by omega), qj_imax (by omega) (by omega) (by omega) (by omega), qj_of]
  unfold mClamp
  congr 1
  omega
theorem x_hangs {a n c : Nat} {g : zSg} (h : g.2.1 a 4 = Int32.ofNat n) (hn : n < 2147483648) (hc : c < 32) : f_X8_hangs a (Int32.ofNat c) g = some (mB (n.testBit c), g) := by
  unfold f_X8_hangs
  simp only [h, qi_lit, qi_bit0 hn hc]
  cases n.testBit c <;> rfl
theorem x_isCured {a n c : Nat} {g : zSg} (h : g.2.1 a 5 = Int32.ofNat n) (hn : n < 2147483648) (hc : c < 32) : f_X8_isCured a (Int32.ofNat c) g = some (mB (n.testBit c), g) := by
  unfold f_X8_isCured
  simp only [h, qi_lit, qi_bit0 hn hc]
  cases n.testBit c <;> rfl
theorem x_strengthAt {nb : Nat} {C : mC} {lw : mLaw} {a : Nat} {L : mL} {g : zSg} (h : vXs nb C lw a L g) {c l hv : Nat} (hc : c < C.2.1) (hl : l < mCells C) (hh : hv < 1000) : qE sW g (f_X10_strengthAt a (Int32.ofNat c) (Int32.ofNat l) (Int32.ofNat hv) g) (Int32.ofNat (mStr C lw c l hv (L 50) (L (42 + c)) (L 53) (L 51))) := by
  obtain ⟨h1, h2, h3, h4, h5, h6, h7, h8⟩ := h
  have hA := zK0_A h3
  have hC6 : C.2.1 ≤ 6 := h1.2.1
  have hw4 : L 50 < 4 := h5.2.2.2.2.2.1
  have ho : L 51 ≤ 999 := h5.2.2.2.2.2.2.1
  have hn : L 53 ≤ nb := h5.2.2.2.2.2.2.2.2
  have hsm : L (42 + c) ≤ 9 := h5.2.2.1 c (by omega)
  have hw0 : 0 < mW C := by have := (h1.2.2.2.2.2.2 h2).2.2.1; omega
  unfold f_X10_strengthAt mStr
  simp (disch := omega) only [x_shed h6, zB, h8.2.2.2.2.1]
  simp only [x_away h6 h1 hw0 (h1.shed hc) hl hw4, zB]
  cases hoff : mOff (mW C) (mShed C c) l (L 50) with
  | none =>
    show qE sW g (if ¬ (-1 : Int32) = -1 then _ else some ((0 : Int32), g)) _
    rw [if_neg (fun q => q rfl)]
    exact qE_r
  | some f =>
    have hf : f < 1000 := by
      have hd : ∀ x : Nat, x < mCells C → x / mW C < 1000 ∧ x % mW C < 1000 := fun x hx => by
        have := h1.cells
        have e1 := Nat.div_le_self x (mW C)
        have e2 := Nat.mod_le x (mW C)
        omega
      have d1 := hd _ (h1.shed hc)
      have d2 := hd _ hl
      unfold mOff at hoff
      generalize mShed C c / mW C = z1 at hoff d1
      generalize mShed C c % mW C = z2 at hoff d1
      generalize l / mW C = z3 at hoff d2
      generalize l % mW C = z4 at hoff d2
      repeat' split at hoff
      all_goals first | (cases hoff; done) | (have := Option.some.inj hoff; omega)
    simp only [show mOpt (some f) = Int32.ofNat f from rfl]
    show qE sW g (if ¬ Int32.ofNat f = - Int32.ofNat 1 then _ else some ((0 : Int32), g)) _
    simp (disch := omega) only [qi_ne1, if_true, if_false, not_true_eq_false, not_false_eq_true, ite_true, ite_false]
    rcases h7 with ⟨hlw, ⟨hn1, hn2⟩ | ⟨b, hb, hb2, hrun⟩⟩
    · rw [hn1]
      show qE sW g (f_X10_strengthAt_132 a (Int32.ofNat hv - Int32.ofNat f) g) _
      unfold f_X10_strengthAt_132
      rw [qj_of hv, qj_of f, qj_sub, q_clamp (by omega) (by omega), hn2]
      exact qE_r
    · rw [hb]
      have hzb : (zK0 b).1 = 4 := by rcases hb2 with rfl | rfl | rfl | rfl <;> rfl
      show qE sW g (if (zK0 b).1 = 4 then _ else none) _
      rw [if_pos hzb]
      have hm : L 53 % 100 < 1000 := by omega
      simp (disch := omega) only [qi_lit, q_set424, zB, q_gS3 h3, qs_In, qs_Ie, qs_IH, h8.2.1, h8.2.2.2.2.1, h8.2.2.2.2.2.1, h8.2.2.2.2.2.2.2, qi_imod, hb]
      show qE sW g (if (zK0 b).1 = 4 then _ else none) _
      rw [if_pos hzb]
      have F : qF sW g (gsI (gsI (gsI (gsI (gsI (gsI g 425 0 (Int32.ofNat hv)) 425 1 (Int32.ofNat f)) 425 2 (Int32.ofNat (L (42 + c)))) 425 3 (Int32.ofNat (L 50))) 425 4 (Int32.ofNat (L 53 % 100))) 425 5 (Int32.ofNat (L 51))) :=
        (((((qF.rfl'.sI (Or.inl rfl)).sI (Or.inl rfl)).sI (Or.inl rfl)).sI (Or.inl rfl)).sI (Or.inl rfl)).sI (Or.inl rfl)
      obtain ⟨g2, e2, f2⟩ := hrun (gsI (gsI (gsI (gsI (gsI (gsI g 425 0 (Int32.ofNat hv)) 425 1 (Int32.ofNat f)) 425 2 (Int32.ofNat (L (42 + c)))) 425 3 (Int32.ofNat (L 50))) 425 4 (Int32.ofNat (L 53 % 100))) 425 5 (Int32.ofNat (L 51))) (fun k => by simp (disch := omega) only [qs_In]) (by simp (disch := omega) only [qs_In]) hv f (L (42 + c)) (L 50) (L 53 % 100) (L 51) hh hf (by omega) (by omega) hm (by omega)
        (by simp (disch := omega) only [qs_In, qs_Ie]) (by simp (disch := omega) only [qs_In, qs_Ie]) (by simp (disch := omega) only [qs_In, qs_Ie]) (by simp (disch := omega) only [qs_In, qs_Ie]) (by simp (disch := omega) only [qs_In, qs_Ie]) (by simp (disch := omega) only [qs_In, qs_Ie])
      show qE sW g (zB (f_X4_worth b 424 (gsI (gsI (gsI (gsI (gsI (gsI g 425 0 (Int32.ofNat hv)) 425 1 (Int32.ofNat f)) 425 2 (Int32.ofNat (L (42 + c)))) 425 3 (Int32.ofNat (L 50))) 425 4 (Int32.ofNat (L 53 % 100))) 425 5 (Int32.ofNat (L 51)))) (fun v35 g36 => f_X10_strengthAt_132 a v35 g36)) _
      rw [e2]
      show qE sW g (f_X10_strengthAt_132 a _ g2) _
      unfold f_X10_strengthAt_132
      have hr := hlw hv f (L (42 + c)) (L 50) (L 53 % 100) (L 51) hh hf (by omega) (by omega) hm (by omega)
      rw [q_clamp (by omega) (by omega)]
      exact ⟨g2, rfl, F.tr (f2.mono fun b' k q => by unfold sW; omega)⟩
theorem x_str {nb : Nat} {C : mC} {lw : mLaw} {a : Nat} {L : mL} {g : zSg} (h : vXs nb C lw a L g) {c l : Nat} (hc : c < C.2.1) (hl : l < mCells C) : qE sW g (f_X10_strengthAt a (Int32.ofNat c) (Int32.ofNat l) (Int32.ofNat (mHvy C c)) g) (Int32.ofNat (mStrL C lw L (L 51) c l)) :=
  x_strengthAt h hc hl (by have := h.1.hvy hc; omega)
def mAir (C : mC) (lw : mLaw) (L : mL) (l : Nat) : Nat → Nat
  | 0 => 0
  | n + 1 => mAir C lw L l n + (if (L 48).testBit n then mStrL C lw L (L 51) n l else 0)
theorem mAir_le {C : mC} {lw : mLaw} {L : mL} {l n : Nat} : mAir C lw L l n ≤ 9 * n := by
  induction n with
  | zero => exact Nat.le_refl _
  | succ n ih =>
    unfold mAir
    have : mStrL C lw L (L 51) n l ≤ 9 := mStr_le
    split <;> omega
theorem x_airAt_l {nb : Nat} {C : mC} {lw : mLaw} {a : Nat} {L : mL} {l : Nat} (hl : l < mCells C) : ∀ (r n c : Nat) (g : zSg), vXs nb C lw a L g → c + r = C.2.1 → r < n → qE sW g (f_X10_airAt_5 a n (Int32.ofNat l) (Int32.ofNat (mAir C lw L l c)) (Int32.ofNat c) g) (Int32.ofNat (mAir C lw L l C.2.1)) := by
  intro r
  induction r with
  | zero =>
    intro n c g h hc hn
    obtain ⟨m, rfl⟩ : ∃ m, n = m + 1 := ⟨n - 1, by omega⟩
    have hC6 : C.2.1 ≤ 6 := h.1.2.1
    show qE sW g (fb_X10_airAt_5 a _ _ _ _ _) _
    unfold fb_X10_airAt_5
    simp (disch := omega) only [x_secrets h.2.2.2.2.2.1, zB, qi_le, if_pos (show C.2.1 ≤ c by omega)]
    rw [show c = C.2.1 by omega]
    exact qE_r
  | succ r ih =>
    intro n c g h hc hn
    obtain ⟨m, rfl⟩ : ∃ m, n = m + 1 := ⟨n - 1, by omega⟩
    have hC6 : C.2.1 ≤ 6 := h.1.2.1
    have h48 : L 48 < 64 := h.2.2.2.2.1.2.2.2.1
    have ha := @mAir_le C lw L l c
    show qE sW g (fb_X10_airAt_5 a _ _ _ _ _) _
    unfold fb_X10_airAt_5 f_X10_airAt_46
    simp (disch := omega) only [x_secrets h.2.2.2.2.2.1, zB, qi_le, if_neg (show ¬ C.2.1 ≤ c by omega), x_hangs h.2.2.2.2.2.2.2.2.2.1, qi_lit, mB_0]
    have hstep : mAir C lw L l (c + 1) = mAir C lw L l c + (if (L 48).testBit c then mStrL C lw L (L 51) c l else 0) := rfl
    by_cases hb : (L 48).testBit c = false
    · rw [if_pos hb]
      have e : mAir C lw L l (c + 1) = mAir C lw L l c := by rw [hstep, if_neg (by simp [hb])]; rfl
      have := ih m (c + 1) g h (by omega) (by omega)
      rw [e] at this
      simpa only [qi_add] using this
    · rw [if_neg hb]
      have hb2 : (L 48).testBit c = true := by simpa using hb
      simp (disch := omega) only [x_heavy h.2.2.2.2.2.1, zB]
      obtain ⟨g1, e1, f1⟩ := x_str h (c := c) (by omega) hl
      rw [e1]
      simp only [zB, qi_add]
      have e : mAir C lw L l (c + 1) = mAir C lw L l c + mStrL C lw L (L 51) c l := by rw [hstep, if_pos hb2]
      rw [← e]
      exact qE_tr f1 (ih m (c + 1) g1 (h.fr f1) (by omega) (by omega))
theorem x_airAt {nb : Nat} {C : mC} {lw : mLaw} {a : Nat} {L : mL} {g : zSg} (h : vXs nb C lw a L g) {l : Nat} (hl : l < mCells C) : qE sW g (f_X10_airAt a (Int32.ofNat l) g) (Int32.ofNat (mAir C lw L l C.2.1)) :=
  x_airAt_l hl C.2.1 zFu 0 g h (by omega) (by have := h.1.2.1; show _ < 1000000; omega)
