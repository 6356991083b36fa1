/-! ===== the class: what a COAST is asked ===== -/
theorem q_get4 {j : Nat} {g : zSg} (hj : j < 47) : f_X7_get 4 (Int32.ofNat j) g = some (g.2.1 5 j, g) := q_get (a := 4) (n := 47) rfl (by decide) hj
theorem q_set4 {j : Nat} {x : Int32} {g : zSg} (hj : j < 47) : f_X7_set 4 (Int32.ofNat j) x g = some ((), gsI g 5 j x) := q_set (a := 4) (n := 47) rfl (by decide) hj
theorem q_get8 {j : Nat} {g : zSg} (hj : j < 47) : f_X7_get 8 (Int32.ofNat j) g = some (g.2.1 9 j, g) := q_get (a := 8) (n := 47) rfl (by decide) hj
theorem q_set8 {j : Nat} {x : Int32} {g : zSg} (hj : j < 47) : f_X7_set 8 (Int32.ofNat j) x g = some ((), gsI g 9 j x) := q_set (a := 8) (n := 47) rfl (by decide) hj
theorem q_get37 {j : Nat} {g : zSg} (hj : j < 5) : f_X7_get 37 (Int32.ofNat j) g = some (g.2.1 38 j, g) := q_get (a := 37) (n := 5) rfl (by decide) hj
theorem q_set37 {j : Nat} {x : Int32} {g : zSg} (hj : j < 5) : f_X7_set 37 (Int32.ofNat j) x g = some ((), gsI g 38 j x) := q_set (a := 37) (n := 5) rfl (by decide) hj
theorem q_get424 {j : Nat} {g : zSg} (hj : j < 6) : f_X7_get 424 (Int32.ofNat j) g = some (g.2.1 425 j, g) := q_get (a := 424) (n := 6) rfl (by decide) hj
theorem q_set424 {j : Nat} {x : Int32} {g : zSg} (hj : j < 6) : f_X7_set 424 (Int32.ofNat j) x g = some ((), gsI g 425 j x) := q_set (a := 424) (n := 6) rfl (by decide) hj
theorem q_get426 {j : Nat} {g : zSg} (hj : j < 6) : f_X7_get 426 (Int32.ofNat j) g = some (g.2.1 427 j, g) := q_get (a := 426) (n := 6) rfl (by decide) hj
theorem q_set426 {j : Nat} {x : Int32} {g : zSg} (hj : j < 6) : f_X7_set 426 (Int32.ofNat j) x g = some ((), gsI g 427 j x) := q_set (a := 426) (n := 6) rfl (by decide) hj
theorem q_get428 {j : Nat} {g : zSg} (hj : j < 6) : f_X7_get 428 (Int32.ofNat j) g = some (g.2.1 429 j, g) := q_get (a := 428) (n := 6) rfl (by decide) hj
theorem q_set428 {j : Nat} {x : Int32} {g : zSg} (hj : j < 6) : f_X7_set 428 (Int32.ofNat j) x g = some ((), gsI g 429 j x) := q_set (a := 428) (n := 6) rfl (by decide) hj
theorem q_get432 {j : Nat} {g : zSg} (hj : j < 7) : f_X7_get 432 (Int32.ofNat j) g = some (g.2.1 433 j, g) := q_get (a := 432) (n := 7) rfl (by decide) hj
theorem q_set432 {j : Nat} {x : Int32} {g : zSg} (hj : j < 7) : f_X7_set 432 (Int32.ofNat j) x g = some ((), gsI g 433 j x) := q_set (a := 432) (n := 7) rfl (by decide) hj
theorem q_get516 {j : Nat} {g : zSg} (hj : j < 10) : f_X7_get 516 (Int32.ofNat j) g = some (g.2.1 517 j, g) := q_get (a := 516) (n := 10) rfl (by decide) hj
theorem q_set516 {j : Nat} {x : Int32} {g : zSg} (hj : j < 10) : f_X7_set 516 (Int32.ofNat j) x g = some ((), gsI g 517 j x) := q_set (a := 516) (n := 10) rfl (by decide) hj
theorem q_get518 {j : Nat} {g : zSg} (hj : j < 10) : f_X7_get 518 (Int32.ofNat j) g = some (g.2.1 519 j, g) := q_get (a := 518) (n := 10) rfl (by decide) hj
theorem q_set518 {j : Nat} {x : Int32} {g : zSg} (hj : j < 10) : f_X7_set 518 (Int32.ofNat j) x g = some ((), gsI g 519 j x) := q_set (a := 518) (n := 10) rfl (by decide) hj
theorem q_get520 {j : Nat} {g : zSg} (hj : j < 10) : f_X7_get 520 (Int32.ofNat j) g = some (g.2.1 521 j, g) := q_get (a := 520) (n := 10) rfl (by decide) hj
theorem q_set520 {j : Nat} {x : Int32} {g : zSg} (hj : j < 10) : f_X7_set 520 (Int32.ofNat j) x g = some ((), gsI g 521 j x) := q_set (a := 520) (n := 10) rfl (by decide) hj
theorem q_get522 {j : Nat} {g : zSg} (hj : j < 25) : f_X7_get 522 (Int32.ofNat j) g = some (g.2.1 523 j, g) := q_get (a := 522) (n := 25) rfl (by decide) hj
theorem q_set522 {j : Nat} {x : Int32} {g : zSg} (hj : j < 25) : f_X7_set 522 (Int32.ofNat j) x g = some ((), gsI g 523 j x) := q_set (a := 522) (n := 25) rfl (by decide) hj
theorem q_get524 {j : Nat} {g : zSg} (hj : j < 25) : f_X7_get 524 (Int32.ofNat j) g = some (g.2.1 525 j, g) := q_get (a := 524) (n := 25) rfl (by decide) hj
theorem q_set524 {j : Nat} {x : Int32} {g : zSg} (hj : j < 25) : f_X7_set 524 (Int32.ofNat j) x g = some ((), gsI g 525 j x) := q_set (a := 524) (n := 25) rfl (by decide) hj
theorem q_get50 {j : Nat} {g : zSg} (hj : j < 300) : f_X7_get 50 (Int32.ofNat j) g = some (g.2.1 51 j, g) := q_get (a := 50) (n := 300) rfl (by decide) hj
theorem q_set50 {j : Nat} {x : Int32} {g : zSg} (hj : j < 300) : f_X7_set 50 (Int32.ofNat j) x g = some ((), gsI g 51 j x) := q_set (a := 50) (n := 300) rfl (by decide) hj
theorem q_get52 {j : Nat} {g : zSg} (hj : j < 300) : f_X7_get 52 (Int32.ofNat j) g = some (g.2.1 53 j, g) := q_get (a := 52) (n := 300) rfl (by decide) hj
theorem q_set52 {j : Nat} {x : Int32} {g : zSg} (hj : j < 300) : f_X7_set 52 (Int32.ofNat j) x g = some ((), gsI g 53 j x) := q_set (a := 52) (n := 300) rfl (by decide) hj
theorem q_get40 {j : Nat} {g : zSg} (hj : j < 6) : f_X7_get 40 (Int32.ofNat j) g = some (g.2.1 41 j, g) := q_get (a := 40) (n := 6) rfl (by decide) hj
theorem q_set40 {j : Nat} {x : Int32} {g : zSg} (hj : j < 6) : f_X7_set 40 (Int32.ofNat j) x g = some ((), gsI g 41 j x) := q_set (a := 40) (n := 6) rfl (by decide) hj
theorem q_get42 {j : Nat} {g : zSg} (hj : j < 6) : f_X7_get 42 (Int32.ofNat j) g = some (g.2.1 43 j, g) := q_get (a := 42) (n := 6) rfl (by decide) hj
theorem q_set42 {j : Nat} {x : Int32} {g : zSg} (hj : j < 6) : f_X7_set 42 (Int32.ofNat j) x g = some ((), gsI g 43 j x) := q_set (a := 42) (n := 6) rfl (by decide) hj
theorem q_get44 {j : Nat} {g : zSg} (hj : j < 6) : f_X7_get 44 (Int32.ofNat j) g = some (g.2.1 45 j, g) := q_get (a := 44) (n := 6) rfl (by decide) hj
theorem q_set44 {j : Nat} {x : Int32} {g : zSg} (hj : j < 6) : f_X7_set 44 (Int32.ofNat j) x g = some ((), gsI g 45 j x) := q_set (a := 44) (n := 6) rfl (by decide) hj
theorem q_get46 {j : Nat} {g : zSg} (hj : j < 36) : f_X7_get 46 (Int32.ofNat j) g = some (g.2.1 47 j, g) := q_get (a := 46) (n := 36) rfl (by decide) hj
theorem q_set46 {j : Nat} {x : Int32} {g : zSg} (hj : j < 36) : f_X7_set 46 (Int32.ofNat j) x g = some ((), gsI g 47 j x) := q_set (a := 46) (n := 36) rfl (by decide) hj
theorem q_add37 {j : Nat} {x : Int32} {g : zSg} (hj : j < 5) : f_X7_add 37 (Int32.ofNat j) x g = some ((), gsI g 38 j (g.2.1 38 j + x)) := q_add (a := 37) (n := 5) rfl (by decide) hj
/-- a Coast at a, its row at r -/
def vCo (a r : Nat) (C : mC) (g : zSg) : Prop := g.2.1 a 1 = Int32.ofNat (C.2.2 0) ∧ g.2.1 a 2 = Int32.ofNat C.1 ∧ g.2.1 a 3 = Int32.ofNat C.2.1 ∧ ∀ k, k < 47 → g.2.1 r k = Int32.ofNat (C.2.2 k)
theorem vCo.fr {a r : Nat} {C : mC} {g g' : zSg} {S : Nat → Nat → Prop} (h : vCo a r C g) (hf : qF S g g') (ha : ∀ k, ¬ S a k) (hr : ∀ k, ¬ S r k) : vCo a r C g' :=
  ⟨(hf.2.1 a 1 (ha 1)).trans h.1, (hf.2.1 a 2 (ha 2)).trans h.2.1, (hf.2.1 a 3 (ha 3)).trans h.2.2.1, fun k hk => (hf.2.1 r k (hr k)).trans (h.2.2.2 k hk)⟩
section XG
variable {C : mC} {g : zSg}
theorem x_isTold (h : vCo 3 5 C g) (hC : C.1 ≤ 6) : f_X0_isTold 3 g = some (if 0 < C.1 then 1 else 0, g) := by
  unfold f_X0_isTold
  simp (disch := omega) only [h.2.1, qi_lit, qi_add, qi_mul, qi_sub, qi_lt, qi_le, qi_inj, qi_ne1, qi_ne1', qi_ix]
  by_cases q : C.1 ≤ 0
  · rw [if_pos q, if_neg (by omega)]
  · rw [if_neg q, if_pos (by omega)]
theorem x_wide (h : vCo 3 5 C g) : f_X0_wide 3 g = some (Int32.ofNat (mW C), g) := by
  unfold f_X0_wide
  simp only [h.1]
  rfl
theorem x_rows (h : vCo 3 5 C g) : f_X0_rows 3 g = some (Int32.ofNat (mH C), g) := by
  unfold f_X0_rows
  simp (disch := omega) only [qi_lit, qi_add, qi_mul, qi_sub, qi_lt, qi_le, qi_inj, qi_ne1, qi_ne1', qi_ix, Nat.reduceAdd, Nat.reduceMul, Nat.reduceSub, Nat.reduceLT, Nat.reduceEqDiff, q_get4, zB, h.2.2.2]
  rfl
theorem x_oakTold (h : vCo 3 5 C g) : f_X0_oakTold 3 g = some (Int32.ofNat (C.2.2 2), g) := by
  unfold f_X0_oakTold
  simp (disch := omega) only [qi_lit, qi_add, qi_mul, qi_sub, qi_lt, qi_le, qi_inj, qi_ne1, qi_ne1', qi_ix, Nat.reduceAdd, Nat.reduceMul, Nat.reduceSub, Nat.reduceLT, Nat.reduceEqDiff, q_get4, zB, h.2.2.2]
theorem x_coinsTold (h : vCo 3 5 C g) : f_X0_coinsTold 3 g = some (Int32.ofNat (C.2.2 3), g) := by
  unfold f_X0_coinsTold
  simp (disch := omega) only [qi_lit, qi_add, qi_mul, qi_sub, qi_lt, qi_le, qi_inj, qi_ne1, qi_ne1', qi_ix, Nat.reduceAdd, Nat.reduceMul, Nat.reduceSub, Nat.reduceLT, Nat.reduceEqDiff, q_get4, zB, h.2.2.2]
theorem x_windTold (h : vCo 3 5 C g) : f_X0_windTold 3 g = some (Int32.ofNat (C.2.2 4), g) := by
  unfold f_X0_windTold
  simp (disch := omega) only [qi_lit, qi_add, qi_mul, qi_sub, qi_lt, qi_le, qi_inj, qi_ne1, qi_ne1', qi_ix, Nat.reduceAdd, Nat.reduceMul, Nat.reduceSub, Nat.reduceLT, Nat.reduceEqDiff, q_get4, zB, h.2.2.2]
theorem x_cells (h : vCo 3 5 C g) : f_X0_cells 3 g = some (Int32.ofNat (mCells C), g) := by
  unfold f_X0_cells
  simp (disch := omega) only [x_rows h, h.1, zB, qi_mul]
  rfl
theorem x_persons (h : vCo 3 5 C g) : f_X0_persons 3 g = some (Int32.ofNat C.1, g) := by
  unfold f_X0_persons
  simp only [h.2.1]
theorem x_secrets (h : vCo 3 5 C g) : f_X0_secrets 3 g = some (Int32.ofNat C.2.1, g) := by
  unfold f_X0_secrets
  simp only [h.2.2.1]
theorem x_home {p : Nat} (h : vCo 3 5 C g) (hp : p < 6) : f_X0_home 3 (Int32.ofNat p) g = some (Int32.ofNat (mHome C p), g) := by
  unfold f_X0_home
  simp (disch := omega) only [qi_lit, qi_add, qi_mul, qi_sub, qi_lt, qi_le, qi_inj, qi_ne1, qi_ne1', qi_ix, Nat.reduceAdd, Nat.reduceMul, Nat.reduceSub, Nat.reduceLT, Nat.reduceEqDiff, q_get4, zB, h.2.2.2, h.1]
  rfl
theorem x_nose {p : Nat} (h : vCo 3 5 C g) (hp : p < 6) : f_X0_nose 3 (Int32.ofNat p) g = some (Int32.ofNat (mNose C p), g) := by
  unfold f_X0_nose
  simp (disch := omega) only [qi_lit, qi_add, qi_mul, qi_sub, qi_lt, qi_le, qi_inj, qi_ne1, qi_ne1', qi_ix, Nat.reduceAdd, Nat.reduceMul, Nat.reduceSub, Nat.reduceLT, Nat.reduceEqDiff, q_get4, zB, h.2.2.2]
  rfl
theorem x_owner {c : Nat} (h : vCo 3 5 C g) (hp : c < 6) : f_X0_owner 3 (Int32.ofNat c) g = some (Int32.ofNat (mOwn C c), g) := by
  unfold f_X0_owner
  simp (disch := omega) only [qi_lit, qi_add, qi_mul, qi_sub, qi_lt, qi_le, qi_inj, qi_ne1, qi_ne1', qi_ix, Nat.reduceAdd, Nat.reduceMul, Nat.reduceSub, Nat.reduceLT, Nat.reduceEqDiff, q_get4, zB, h.2.2.2]
  rfl
theorem x_heavy {c : Nat} (h : vCo 3 5 C g) (hp : c < 6) : f_X0_heavy 3 (Int32.ofNat c) g = some (Int32.ofNat (mHvy C c), g) := by
  unfold f_X0_heavy
  simp (disch := omega) only [qi_lit, qi_add, qi_mul, qi_sub, qi_lt, qi_le, qi_inj, qi_ne1, qi_ne1', qi_ix, Nat.reduceAdd, Nat.reduceMul, Nat.reduceSub, Nat.reduceLT, Nat.reduceEqDiff, q_get4, zB, h.2.2.2]
  rfl
theorem x_shed {c : Nat} (h : vCo 3 5 C g) (hp : c < 6) : f_X0_shed 3 (Int32.ofNat c) g = some (Int32.ofNat (mShed C c), g) := by
  unfold f_X0_shed
  simp (disch := omega) only [qi_lit, qi_add, qi_mul, qi_sub, qi_lt, qi_le, qi_inj, qi_ne1, qi_ne1', qi_ix, Nat.reduceAdd, Nat.reduceMul, Nat.reduceSub, Nat.reduceLT, Nat.reduceEqDiff, q_get4, zB, h.2.2.2, h.1]
  rfl
theorem x_rowOf {l : Nat} (h : vCo 3 5 C g) (hw : 0 < mW C) (hw6 : mW C ≤ 6) (hl : l < 2147483648) : f_X0_rowOf 3 (Int32.ofNat l) g = some (Int32.ofNat (l / mW C), g) := by
  unfold f_X0_rowOf
  have hw' : 0 < C.2.2 0 := hw
  have hw6' : C.2.2 0 ≤ 6 := hw6
  simp (disch := omega) only [qi_lit, qi_add, qi_mul, qi_sub, qi_lt, qi_le, qi_inj, qi_ne1, qi_ne1', qi_ix, h.1, if_pos (show 1 ≤ C.2.2 0 from hw), if_neg (show ¬ C.2.2 0 = 0 by omega), qi_div]
  rfl
theorem x_placeOf {l : Nat} (h : vCo 3 5 C g) (hw : 0 < mW C) (hw6 : mW C ≤ 6) (hl : l < 2147483648) : f_X0_placeOf 3 (Int32.ofNat l) g = some (Int32.ofNat (l % mW C), g) := by
  unfold f_X0_placeOf
  have hw' : 0 < C.2.2 0 := hw
  have hw6' : C.2.2 0 ≤ 6 := hw6
  simp (disch := omega) only [qi_lit, qi_add, qi_mul, qi_sub, qi_lt, qi_le, qi_inj, qi_ne1, qi_ne1', qi_ix, h.1, if_pos (show 1 ≤ C.2.2 0 from hw), if_neg (show ¬ C.2.2 0 = 0 by omega), qi_imod]
  rfl
/-- an argument of a call that is (is not) below n -/
theorem q_arg {x : Int32} {n : Nat} (hn : n < 2147483648) (h1 : ¬ x < 0) (h2 : ¬ Int32.ofNat n ≤ x) : ∃ k, k < n ∧ x = Int32.ofNat k := by
  have h0 : (0 : Int32) ≤ x := Int32.not_lt.mp h1
  have hk := Int32.ofNat_toNatClampNeg x h0
  refine ⟨x.toNatClampNeg, ?_, hk.symm⟩
  rw [← hk] at h2
  have hlt := Int32.toNatClampNeg_lt x
  have h3 : (Int32.ofNat n ≤ Int32.ofNat x.toNatClampNeg) = (n ≤ x.toNatClampNeg) := qi_le hn hlt
  rw [h3] at h2
  omega
def mHas (n : Nat) (x : Int32) : Prop := ∃ k, k < n ∧ x = Int32.ofNat k
theorem mHas_iff {x : Int32} {n : Nat} (hn : n < 2147483648) : mHas n x ↔ ¬ x < 0 ∧ ¬ Int32.ofNat n ≤ x := by
  refine ⟨?_, fun h => q_arg hn h.1 h.2⟩
  rintro ⟨k, hk, rfl⟩
  have h1 : (Int32.ofNat k < Int32.ofNat 0) = (k < 0) := qi_lt (by omega) (by omega)
  have h2 : (Int32.ofNat n ≤ Int32.ofNat k) = (n ≤ k) := qi_le (by omega) (by omega)
  show ¬ (Int32.ofNat k < Int32.ofNat 0) ∧ ¬ Int32.ofNat n ≤ Int32.ofNat k
  rw [h1, h2]
  omega
theorem x_hasPerson1 {p : Nat} (h : vCo 3 5 C g) (hC : C.1 ≤ 6) (hp : p < C.1) : f_X0_hasPerson 3 (Int32.ofNat p) g = some (1, g) := by
  unfold f_X0_hasPerson
  simp (disch := omega) only [qi_lit, qi_add, qi_mul, qi_sub, qi_lt, qi_le, qi_inj, qi_ne1, qi_ne1', qi_ix, h.2.1, if_neg (show ¬ p < 0 by omega), if_neg (show ¬ C.1 ≤ p by omega)]
theorem x_hasPerson0 {x : Int32} (h : vCo 3 5 C g) (hC : C.1 ≤ 6) (hp : ¬ mHas C.1 x) : f_X0_hasPerson 3 x g = some (0, g) := by
  unfold f_X0_hasPerson
  rw [mHas_iff (by omega)] at hp
  simp only [h.2.1]
  by_cases h1 : x < 0
  · rw [if_pos h1]
  · by_cases h2 : Int32.ofNat C.1 ≤ x
    · rw [if_neg h1, if_pos h2]
    · exact absurd ⟨h1, h2⟩ hp
theorem x_hasSecret1 {p : Nat} (h : vCo 3 5 C g) (hC : C.2.1 ≤ 6) (hp : p < C.2.1) : f_X0_hasSecret 3 (Int32.ofNat p) g = some (1, g) := by
  unfold f_X0_hasSecret
  simp (disch := omega) only [qi_lit, qi_add, qi_mul, qi_sub, qi_lt, qi_le, qi_inj, qi_ne1, qi_ne1', qi_ix, h.2.2.1, if_neg (show ¬ p < 0 by omega), if_neg (show ¬ C.2.1 ≤ p by omega)]
theorem x_hasSecret0 {x : Int32} (h : vCo 3 5 C g) (hC : C.2.1 ≤ 6) (hp : ¬ mHas C.2.1 x) : f_X0_hasSecret 3 x g = some (0, g) := by
  unfold f_X0_hasSecret
  rw [mHas_iff (by omega)] at hp
  simp only [h.2.2.1]
  by_cases h1 : x < 0
  · rw [if_pos h1]
  · by_cases h2 : Int32.ofNat C.2.1 ≤ x
    · rw [if_neg h1, if_pos h2]
    · exact absurd ⟨h1, h2⟩ hp
theorem x_hasCell1 {p : Nat} (h : vCo 3 5 C g) (hC : mCells C ≤ 30) (hp : p < mCells C) : f_X0_hasCell 3 (Int32.ofNat p) g = some (1, g) := by
  unfold f_X0_hasCell
  simp (disch := omega) only [x_cells h, zB, qi_lit, qi_add, qi_mul, qi_sub, qi_lt, qi_le, qi_inj, qi_ne1, qi_ne1', qi_ix, if_neg (show ¬ p < 0 by omega), if_neg (show ¬ mCells C ≤ p by omega)]
theorem x_hasCell0 {x : Int32} (h : vCo 3 5 C g) (hC : mCells C ≤ 30) (hp : ¬ mHas (mCells C) x) : f_X0_hasCell 3 x g = some (0, g) := by
  unfold f_X0_hasCell
  rw [mHas_iff (by omega)] at hp
  simp only [x_cells h, zB]
  by_cases h1 : x < 0
  · rw [if_pos h1]
  · by_cases h2 : Int32.ofNat (mCells C) ≤ x
    · rw [if_neg h1, if_pos h2]
    · exact absurd ⟨h1, h2⟩ hp
theorem x_beside {l w : Nat} (h : vCo 3 5 C g) (hC : mWf C) (hw : 0 < mW C) (hl : l < mCells C) (hw4 : w < 4) : f_X0_beside 3 (Int32.ofNat l) (Int32.ofNat w) g = some (mOpt (mBes (mW C) (mH C) l w), g) := by
  have hw6 : mW C ≤ 6 := hC.2.2.1
  have hh5 : mH C ≤ 5 := hC.2.2.2.1
  have hl30 := hC.cells
  have hW : g.2.1 3 1 = Int32.ofNat (mW C) := h.1
  have hd : l / mW C ≤ l := Nat.div_le_self _ _
  have hm : l % mW C < mW C := Nat.mod_lt _ hw
  have hlw : 0 < l / mW C → mW C ≤ l := fun q => by
    rcases Nat.lt_or_ge l (mW C) with q2 | q2
    · rw [Nat.div_eq_of_lt q2] at q; omega
    · exact q2
  unfold f_X0_beside mBes
  rcases (show w = 0 ∨ w = 1 ∨ w = 2 ∨ w = 3 by omega) with rfl | rfl | rfl | rfl
  · simp (disch := omega) only [x_rowOf h hw hw6, zB, qi_lit, qi_add, qi_mul, qi_sub, qi_lt, qi_le, qi_inj, qi_ne1, qi_ne1', qi_ix, Nat.reduceAdd, Nat.reduceMul, Nat.reduceSub, Nat.reduceLT, Nat.reduceEqDiff, if_true, if_false, not_true_eq_false, not_false_eq_true, ite_true, ite_false, hW]
    by_cases q : l / mW C ≤ 0
    · rw [if_pos q, if_neg (by omega)]; rfl
    · rw [if_neg q, if_pos (by omega)]; first | rfl | (rw [qi_sub (hlw (by omega))]; rfl)
  · simp (disch := omega) only [x_placeOf h hw hw6, zB, qi_lit, qi_add, qi_mul, qi_sub, qi_lt, qi_le, qi_inj, qi_ne1, qi_ne1', qi_ix, Nat.reduceAdd, Nat.reduceMul, Nat.reduceSub, Nat.reduceLT, Nat.reduceEqDiff, if_true, if_false, not_true_eq_false, not_false_eq_true, ite_true, ite_false, hW]
    by_cases q : mW C - 1 ≤ l % mW C
    · rw [if_pos q, if_neg (by omega)]; rfl
    · rw [if_neg q, if_pos (by omega)]; rfl
  · simp (disch := omega) only [x_rowOf h hw hw6, x_rows h, zB, qi_lit, qi_add, qi_mul, qi_sub, qi_lt, qi_le, qi_inj, qi_ne1, qi_ne1', qi_ix, Nat.reduceAdd, Nat.reduceMul, Nat.reduceSub, Nat.reduceLT, Nat.reduceEqDiff, if_true, if_false, not_true_eq_false, not_false_eq_true, ite_true, ite_false, hW]
    by_cases q0 : mH C = 0
    · exfalso
      unfold mCells at hl
      rw [q0] at hl
      omega
    simp (disch := omega) only [qi_lit, qi_add, qi_mul, qi_sub, qi_lt, qi_le, qi_inj, qi_ne1, qi_ne1', qi_ix]
    by_cases q : mH C - 1 ≤ l / mW C
    · rw [if_pos q, if_neg (by omega)]; rfl
    · rw [if_neg q, if_pos (by omega)]; rfl
  · simp (disch := omega) only [x_placeOf h hw hw6, zB, qi_lit, qi_add, qi_mul, qi_sub, qi_lt, qi_le, qi_inj, qi_ne1, qi_ne1', qi_ix, Nat.reduceAdd, Nat.reduceMul, Nat.reduceSub, Nat.reduceLT, Nat.reduceEqDiff, if_true, if_false, not_true_eq_false, not_false_eq_true, ite_true, ite_false, hW]
    by_cases q : l % mW C ≤ 0
    · rw [if_pos q, if_neg (by omega)]; rfl
    · have : l % mW C ≤ l := Nat.mod_le _ _
      rw [if_neg q, if_pos (by omega)]; first | rfl | (rw [qi_sub (by omega)]; rfl)
theorem x_besideN {l x : Int32} (hx : ¬ mHas 4 x) : f_X0_beside 3 l x g = some (-1, g) := by
  have h0 : ¬ x = 0 := fun q => hx ⟨0, by omega, q⟩
  have h1 : ¬ x = 1 := fun q => hx ⟨1, by omega, q⟩
  have h2 : ¬ x = 2 := fun q => hx ⟨2, by omega, q⟩
  have h3 : ¬ x = 3 := fun q => hx ⟨3, by omega, q⟩
  unfold f_X0_beside
  rw [if_neg h0, if_neg h1, if_neg h2, if_neg h3]
theorem x_away {s l w : Nat} (h : vCo 3 5 C g) (hC : mWf C) (hw : 0 < mW C) (hs : s < mCells C) (hl : l < mCells C) (hw4 : w < 4) : f_X0_away 3 (Int32.ofNat s) (Int32.ofNat l) (Int32.ofNat w) g = some (mOpt (mOff (mW C) s l w), g) := by
  have hw6 : mW C ≤ 6 := hC.2.2.1
  have hl30 := hC.cells
  have e1 : l / mW C ≤ l := Nat.div_le_self _ _
  have e2 : s / mW C ≤ s := Nat.div_le_self _ _
  have e3 : l % mW C ≤ l := Nat.mod_le _ _
  have e4 : s % mW C ≤ s := Nat.mod_le _ _
  unfold f_X0_away
  simp (disch := omega) only [x_rowOf h hw hw6, x_placeOf h hw hw6, zB]
  unfold mOff
  generalize l / mW C = ly at *
  generalize s / mW C = sy at *
  generalize l % mW C = lx at *
  generalize s % mW C = sx at *
  have fin : ∀ (z : Int) (n : Nat), z = n → some (Int32.ofInt z, g) = some (mOpt (some n), g) := fun z n q => by rw [q]; show _ = some (Int32.ofNat n, g); rw [qj_of]
  rcases (show w = 0 ∨ w = 1 ∨ w = 2 ∨ w = 3 by omega) with rfl | rfl | rfl | rfl <;>
  simp (disch := omega) only [f_X0_away_35, f_X0_away_40, f_X0_away_54, f_X0_away_71, f_X0_away_82, f_X0_away_90, qi_lit, qi_add, qi_mul, qi_sub, qi_lt, qi_le, qi_inj, qi_ne1, qi_ne1', qi_ix, if_true, if_false, not_true_eq_false, not_false_eq_true, ite_true, ite_false, Nat.reduceAdd, Nat.reduceMul, Nat.reduceSub, Nat.reduceLT, Nat.reduceEqDiff] <;>
  simp (disch := omega) only [qj_of, qj_sub, qj_neg, qj_inj, qj_le] <;>
  (repeat' split) <;> first | exact fin _ _ (by omega) | (exfalso; omega) | rfl
end XG
