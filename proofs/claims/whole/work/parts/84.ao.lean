/-! ===== both sides: a LAW worked out: numbers ===== -/
theorem ql_wide {x : Int} (h1 : -2147483648 ≤ x) (h2 : x < 2147483648) : (Int32.ofInt x).toInt64 = Int64.ofInt x := by
  refine Int64.toInt_inj.mp ?_
  rw [Int32.toInt_toInt64, qj_toInt h1 h2, Int64.toInt_ofInt_of_le (by omega) (by omega)]
theorem ql_lt {a b : Int} (h1 : -9000000000000000000 ≤ a) (h2 : a ≤ 9000000000000000000) (h3 : -9000000000000000000 ≤ b) (h4 : b ≤ 9000000000000000000) : (Int64.ofInt a < Int64.ofInt b) = (a < b) := by
  rw [Int64.lt_iff_toInt_lt, Int64.toInt_ofInt_of_le (by omega) (by omega), Int64.toInt_ofInt_of_le (by omega) (by omega)]
theorem ql_inj {a b : Int} (h1 : -9000000000000000000 ≤ a) (h2 : a ≤ 9000000000000000000) (h3 : -9000000000000000000 ≤ b) (h4 : b ≤ 9000000000000000000) : (Int64.ofInt a = Int64.ofInt b) = (a = b) := propext ⟨fun h => by
  have h5 := congrArg Int64.toInt h
  rwa [Int64.toInt_ofInt_of_le (by omega) (by omega), Int64.toInt_ofInt_of_le (by omega) (by omega)] at h5, fun h => by rw [h]⟩
theorem ql_cmp {a b : Int} (h1 : -9000000000000000000 ≤ a) (h2 : a ≤ 9000000000000000000) (h3 : -9000000000000000000 ≤ b) (h4 : b ≤ 9000000000000000000) : lg_cmp (Int64.ofInt a) (Int64.ofInt b) = if b < a then 1 else if a = b then 0 else -1 := by
  unfold lg_cmp
  have e1 : (Int64.ofInt a > Int64.ofInt b) = (b < a) := ql_lt h3 h4 h1 h2
  simp only [e1, ql_inj h1 h2 h3 h4]
def mClm (z : Int) : Int := max (-1000000) (min 1000000 z)
theorem mClm_b {z : Int} : -1000000 ≤ mClm z ∧ mClm z ≤ 1000000 := by unfold mClm; omega
def mOp (c : Nat) (x y : Int) : Int := if c = 43 then mClm (x + y) else if c = 45 then mClm (x - y) else if c = 42 then mClm (x * y) else if c = 47 then (if y = 0 then 0 else mClm (x.tdiv y)) else if c = 61 then (if x = y then 1 else 0) else if c = 60 then (if x < y then 1 else 0) else if c = 62 then (if y < x then 1 else 0) else if c = 38 then (if x ≠ 0 ∧ y ≠ 0 then 1 else 0) else (if x ≠ 0 ∨ y ≠ 0 then 1 else 0)
def mOc (c : Nat) : Prop := c = 43 ∨ c = 45 ∨ c = 42 ∨ c = 47 ∨ c = 61 ∨ c = 60 ∨ c = 62 ∨ c = 38 ∨ c = 124
def mCo (c : Nat) : Nat := if c = 43 then 2 else if c = 45 then 3 else if c = 42 then 4 else if c = 47 then 5 else if c = 61 then 6 else if c = 60 then 7 else if c = 62 then 8 else if c = 38 then 10 else 11
theorem mOp_b {c : Nat} {x y : Int} : -1000000 ≤ mOp c x y ∧ mOp c x y ≤ 1000000 := by
  unfold mOp
  have h1 := @mClm_b (x + y)
  have h2 := @mClm_b (x - y)
  have h3 := @mClm_b (x * y)
  have h4 := @mClm_b (x.tdiv y)
  repeat' split
  all_goals first | exact h1 | exact h2 | exact h3 | exact h4 | omega
theorem mOp_t {c : Nat} {x y : Int} (h : c = 61 ∨ c = 60 ∨ c = 62 ∨ c = 38 ∨ c = 124) : mOp c x y = 0 ∨ mOp c x y = 1 := by
  unfold mOp
  rw [if_neg (by omega), if_neg (by omega), if_neg (by omega), if_neg (by omega)]
  repeat' split
  all_goals omega
section AO
variable {g : zSg}
theorem x_212 {z : Int} (h1 : -9000000000000000 ≤ z) (h2 : z ≤ 9000000000000000) : f_X4_workOut_212 (Int64.ofInt z) g = some (Int32.ofInt (mClm z), g) := by
  unfold f_X4_workOut_212 mClm
  rw [show (-1000000 : Int64) = Int64.ofInt (-1000000) from rfl, show (1000000 : Int64) = Int64.ofInt 1000000 from rfl, ql_cmp (by omega) (by omega) (by omega) (by omega), ql_cmp (by omega) (by omega) (by omega) (by omega), Int64.toInt32_ofInt]
  by_cases q1 : 1000000 < z
  · rw [if_pos q1, if_neg (by decide), show max (-1000000) (min 1000000 z) = 1000000 by omega]
    rfl
  · rw [if_neg q1, if_pos (by split <;> decide)]
    by_cases q2 : -1000000 ≤ z
    · rw [if_pos (by repeat' split
                     all_goals first | decide | omega), show max (-1000000) (min 1000000 z) = z by omega]
    · rw [if_neg (by rw [if_neg (by omega), if_neg (by omega)]; decide), show max (-1000000) (min 1000000 z) = -1000000 by omega]
      rfl
theorem m_bounded {z : Int} (h1 : -9000000000000000 ≤ z) (h2 : z ≤ 9000000000000000) : f_X12_bounded (Int64.ofInt z) g = some (Int32.ofInt (mClm z), g) := by
  unfold f_X12_bounded mClm lmin lmax
  rw [show (-1000000 : Int64) = Int64.ofInt (-1000000) from rfl, show (1000000 : Int64) = Int64.ofInt 1000000 from rfl]
  simp only [ql_lt (a := z) (b := 1000000) (by omega) (by omega) (by omega) (by omega)]
  by_cases q1 : z < 1000000
  · rw [if_pos q1]
    simp only [ql_lt (a := z) (b := -1000000) (by omega) (by omega) (by omega) (by omega)]
    by_cases q2 : z < -1000000
    · rw [if_pos q2, Int64.toInt32_ofInt, show max (-1000000) (min 1000000 z) = -1000000 by omega]
    · rw [if_neg q2, Int64.toInt32_ofInt, show max (-1000000) (min 1000000 z) = z by omega]
  · rw [if_neg q1]
    simp only [ql_lt (a := 1000000) (b := -1000000) (by omega) (by omega) (by omega) (by omega)]
    rw [if_neg (by omega), Int64.toInt32_ofInt, show max (-1000000) (min 1000000 z) = 1000000 by omega]
theorem q_mulb {x y : Int} (hx : -1000000 ≤ x ∧ x ≤ 1000000) (hy : -1000000 ≤ y ∧ y ≤ 1000000) : -1000000000000 ≤ x * y ∧ x * y ≤ 1000000000000 := by
  have h1 : (x * y).natAbs ≤ 1000000 * 1000000 := by
    rw [Int.natAbs_mul]
    exact Nat.mul_le_mul (by omega) (by omega)
  omega
theorem q_tdivb {x y : Int} (hx : -1000000 ≤ x ∧ x ≤ 1000000) : -1000000 ≤ x.tdiv y ∧ x.tdiv y ≤ 1000000 := by
  have h1 : (x.tdiv y).natAbs ≤ x.natAbs := by
    rw [Int.natAbs_tdiv]
    exact Nat.div_le_self _ _
  omega
theorem x_workOut {c : Nat} {x y : Int} (hc : mOc c) (hx : -1000000 ≤ x ∧ x ≤ 1000000) (hy : -1000000 ≤ y ∧ y ≤ 1000000) (ht : c = 38 ∨ c = 124 → (x = 0 ∨ x = 1) ∧ (y = 0 ∨ y = 1)) : f_X4_workOut (Int32.ofNat c) (Int32.ofInt x) (Int32.ofInt y) g = some (Int32.ofInt (mOp c x y), g) := by
  rcases hc with rfl | rfl | rfl | rfl | rfl | rfl | rfl | rfl | rfl
  · show f_X4_workOut_212 ((Int32.ofInt x + Int32.ofInt y).toInt64) g = some (Int32.ofInt (mClm (x + y)), g)
    rw [qj_add, ql_wide (by omega) (by omega), x_212 (by omega) (by omega)]
  · show f_X4_workOut_212 ((Int32.ofInt x - Int32.ofInt y).toInt64) g = some (Int32.ofInt (mClm (x - y)), g)
    rw [qj_sub, ql_wide (by omega) (by omega), x_212 (by omega) (by omega)]
  · show f_X4_workOut_212 ((Int32.ofInt x).toInt64 * (Int32.ofInt y).toInt64) g = some (Int32.ofInt (mClm (x * y)), g)
    have := q_mulb hx hy
    rw [ql_wide (by omega) (by omega), ql_wide (by omega) (by omega), ← Int64.ofInt_mul, x_212 (by omega) (by omega)]
  · show (if ¬ Int32.ofInt y = 0 then (if Int32.ofInt y = 0 then none else f_X4_workOut_153 ((Int32.ofInt x / Int32.ofInt y).toInt64) g) else f_X4_workOut_153 0 g) = some (Int32.ofInt (if y = 0 then 0 else mClm (x.tdiv y)), g)
    by_cases q : y = 0
    · subst q
      rw [if_neg (fun w => w rfl), if_pos rfl]
      rfl
    · have hne : ¬ Int32.ofInt y = (0 : Int32) := by
        show ¬ Int32.ofInt y = Int32.ofInt 0
        rw [qj_inj (by omega) (by omega) (by omega) (by omega)]
        exact q
      have hd := q_tdivb (y := y) hx
      have e : Int32.ofInt x / Int32.ofInt y = Int32.ofInt (x.tdiv y) := (Int32.ofInt_tdiv (a := x) (b := y) (by show (-2147483648 : Int) ≤ x; omega) (by show x ≤ (2147483647 : Int); omega) (by show (-2147483648 : Int) ≤ y; omega) (by show y ≤ (2147483647 : Int); omega)).symm
      rw [if_pos hne, if_neg hne, if_neg q, e]
      unfold f_X4_workOut_153
      rw [ql_wide (by omega) (by omega), x_212 (by omega) (by omega)]
  · show (if ¬ Int32.ofInt x = Int32.ofInt y then f_X4_workOut_167 0 g else f_X4_workOut_167 1 g) = some (Int32.ofInt (if x = y then 1 else 0), g)
    by_cases q : x = y
    · rw [if_neg (fun w => w (by rw [q])), if_pos q]; rfl
    · rw [if_pos (by rw [qj_inj (by omega) (by omega) (by omega) (by omega)]; exact q), if_neg q]; rfl
  · show (if Int32.ofInt y ≤ Int32.ofInt x then f_X4_workOut_181 0 g else f_X4_workOut_181 1 g) = some (Int32.ofInt (if x < y then 1 else 0), g)
    simp (disch := omega) only [qj_le]
    by_cases q : x < y
    · rw [if_neg (by omega), if_pos q]; rfl
    · rw [if_pos (by omega), if_neg q]; rfl
  · show (if Int32.ofInt x ≤ Int32.ofInt y then f_X4_workOut_195 0 g else f_X4_workOut_195 1 g) = some (Int32.ofInt (if y < x then 1 else 0), g)
    simp (disch := omega) only [qj_le]
    by_cases q : y < x
    · rw [if_neg (by omega), if_pos q]; rfl
    · rw [if_pos (by omega), if_neg q]; rfl
  · obtain ⟨h1, h2⟩ := ht (Or.inl rfl)
    rcases h1 with rfl | rfl <;> rcases h2 with rfl | rfl <;> rfl
  · obtain ⟨h1, h2⟩ := ht (Or.inr rfl)
    rcases h1 with rfl | rfl <;> rcases h2 with rfl | rfl <;> rfl
theorem lg_z0 (z : Int) (hz : -1000000 ≤ z ∧ z ≤ 1000000) : (lg_cmp (Int64.ofInt z) 0 = 0) = (z = 0) := by
  have h1 : lg_cmp (Int64.ofInt z) (Int64.ofInt 0) = if (0 : Int) < z then 1 else if z = 0 then 0 else -1 := ql_cmp (by omega) (by omega) (by omega) (by omega)
  have h2 : lg_cmp (Int64.ofInt z) 0 = if (0 : Int) < z then 1 else if z = 0 then 0 else -1 := h1
  rw [h2]
  refine propext ⟨fun h => ?_, fun h => ?_⟩
  · split at h
    · exact absurd h (by decide)
    · split at h
      · assumption
      · exact absurd h (by decide)
  · rw [if_neg (by omega), if_pos h]
theorem m_w43 {x y : Int} (hx : -1000000 ≤ x ∧ x ≤ 1000000) (hy : -1000000 ≤ y ∧ y ≤ 1000000) : f_X12_worked (Int32.ofNat (mCo 43)) (Int64.ofInt x) (Int64.ofInt y) g = some (Int32.ofInt (mOp 43 x y), g) := by
  show zB (f_X12_bounded (Int64.ofInt x + Int64.ofInt y) g) (fun v2 g3 => some (v2, g3)) = some (Int32.ofInt (mClm (x + y)), g)
  rw [← Int64.ofInt_add, m_bounded (by omega) (by omega), qB_s]
theorem m_w45 {x y : Int} (hx : -1000000 ≤ x ∧ x ≤ 1000000) (hy : -1000000 ≤ y ∧ y ≤ 1000000) : f_X12_worked (Int32.ofNat (mCo 45)) (Int64.ofInt x) (Int64.ofInt y) g = some (Int32.ofInt (mOp 45 x y), g) := by
  show zB (f_X12_bounded (Int64.ofInt x - Int64.ofInt y) g) (fun v2 g3 => some (v2, g3)) = some (Int32.ofInt (mClm (x - y)), g)
  rw [← Int64.ofInt_sub, m_bounded (by omega) (by omega), qB_s]
theorem m_w42 {x y : Int} (hx : -1000000 ≤ x ∧ x ≤ 1000000) (hy : -1000000 ≤ y ∧ y ≤ 1000000) : f_X12_worked (Int32.ofNat (mCo 42)) (Int64.ofInt x) (Int64.ofInt y) g = some (Int32.ofInt (mOp 42 x y), g) := by
  show zB (f_X12_bounded (Int64.ofInt x * Int64.ofInt y) g) (fun v2 g3 => some (v2, g3)) = some (Int32.ofInt (mClm (x * y)), g)
  have := q_mulb hx hy
  rw [← Int64.ofInt_mul, m_bounded (by omega) (by omega), qB_s]
theorem m_w47 {x y : Int} (hx : -1000000 ≤ x ∧ x ≤ 1000000) (hy : -1000000 ≤ y ∧ y ≤ 1000000) : f_X12_worked (Int32.ofNat (mCo 47)) (Int64.ofInt x) (Int64.ofInt y) g = some (Int32.ofInt (mOp 47 x y), g) := by
  have z0 := lg_z0
  show (if ¬ lg_cmp (Int64.ofInt y) 0 = 0 then (if Int64.ofInt y = 0 then none else zB (f_X12_bounded (Int64.ofInt x / Int64.ofInt y) g) (fun v2 g3 => some (v2, g3))) else some (0, g)) = some (Int32.ofInt (if y = 0 then 0 else mClm (x.tdiv y)), g)
  simp only [z0 y hy]
  by_cases q : y = 0
  · rw [if_neg (fun w => w q), if_pos q]; rfl
  · have hd := q_tdivb (y := y) hx
    have hne : ¬ Int64.ofInt y = 0 := by
      show ¬ Int64.ofInt y = Int64.ofInt 0
      rw [ql_inj (by omega) (by omega) (by omega) (by omega)]
      exact q
    have e : Int64.ofInt x / Int64.ofInt y = Int64.ofInt (x.tdiv y) := (Int64.ofInt_tdiv (a := x) (b := y) (by rw [Int64.toInt_minValue]; omega) (by rw [Int64.toInt_maxValue]; omega) (by rw [Int64.toInt_minValue]; omega) (by rw [Int64.toInt_maxValue]; omega)).symm
    rw [if_pos q, if_neg hne, if_neg q, e, m_bounded (by omega) (by omega), qB_s]
theorem m_w61 {x y : Int} (hx : -1000000 ≤ x ∧ x ≤ 1000000) (hy : -1000000 ≤ y ∧ y ≤ 1000000) : f_X12_worked (Int32.ofNat (mCo 61)) (Int64.ofInt x) (Int64.ofInt y) g = some (Int32.ofInt (mOp 61 x y), g) := by
  have zz : lg_cmp (Int64.ofInt x) (Int64.ofInt y) = if y < x then 1 else if x = y then 0 else -1 := ql_cmp (by omega) (by omega) (by omega) (by omega)
  show (if ¬ lg_cmp (Int64.ofInt x) (Int64.ofInt y) = 0 then some (0, g) else some (1, g)) = some (Int32.ofInt (if x = y then 1 else 0), g)
  rw [zz]
  by_cases q : x = y
  · rw [if_neg (show ¬ y < x by omega), if_pos q, if_neg (fun w => w rfl), if_pos q]; rfl
  · rw [if_neg q, if_neg q, if_pos (by split <;> decide)]; rfl
theorem m_w60 {x y : Int} (hx : -1000000 ≤ x ∧ x ≤ 1000000) (hy : -1000000 ≤ y ∧ y ≤ 1000000) : f_X12_worked (Int32.ofNat (mCo 60)) (Int64.ofInt x) (Int64.ofInt y) g = some (Int32.ofInt (mOp 60 x y), g) := by
  have zz : lg_cmp (Int64.ofInt x) (Int64.ofInt y) = if y < x then 1 else if x = y then 0 else -1 := ql_cmp (by omega) (by omega) (by omega) (by omega)
  show (if 0 ≤ lg_cmp (Int64.ofInt x) (Int64.ofInt y) then some (0, g) else some (1, g)) = some (Int32.ofInt (if x < y then 1 else 0), g)
  rw [zz]
  by_cases q : x < y
  · rw [if_neg (show ¬ y < x by omega), if_neg (show ¬ x = y by omega), if_neg (by decide), if_pos q]; rfl
  · rw [if_neg q, if_pos (by repeat' split
                             all_goals first | decide | omega)]; rfl
theorem m_w62 {x y : Int} (hx : -1000000 ≤ x ∧ x ≤ 1000000) (hy : -1000000 ≤ y ∧ y ≤ 1000000) : f_X12_worked (Int32.ofNat (mCo 62)) (Int64.ofInt x) (Int64.ofInt y) g = some (Int32.ofInt (mOp 62 x y), g) := by
  have zz : lg_cmp (Int64.ofInt x) (Int64.ofInt y) = if y < x then 1 else if x = y then 0 else -1 := ql_cmp (by omega) (by omega) (by omega) (by omega)
  show (if lg_cmp (Int64.ofInt x) (Int64.ofInt y) ≤ 0 then some (0, g) else some (1, g)) = some (Int32.ofInt (if y < x then 1 else 0), g)
  rw [zz]
  by_cases q : y < x
  · rw [if_pos q, if_neg (by decide), if_pos q]; rfl
  · rw [if_neg q, if_neg q, if_pos (by split <;> decide)]; rfl
theorem mOp_38 {x y : Int} : mOp 38 x y = if x ≠ 0 ∧ y ≠ 0 then 1 else 0 := by
  unfold mOp
  rw [if_neg (by decide), if_neg (by decide), if_neg (by decide), if_neg (by decide), if_neg (by decide), if_neg (by decide), if_neg (by decide), if_pos rfl]
theorem m_w38 {x y : Int} (hx : -1000000 ≤ x ∧ x ≤ 1000000) (hy : -1000000 ≤ y ∧ y ≤ 1000000) : f_X12_worked (Int32.ofNat (mCo 38)) (Int64.ofInt x) (Int64.ofInt y) g = some (Int32.ofInt (mOp 38 x y), g) := by
  have e : mCo 38 = 10 := rfl
  rw [mOp_38, e]
  unfold f_X12_worked
  rw [if_neg (by decide), if_neg (by decide), if_neg (by decide), if_neg (by decide), if_neg (by decide), if_neg (by decide), if_neg (by decide), if_neg (by decide), if_pos (by decide)]
  simp only [lg_z0 x hx, lg_z0 y hy]
  by_cases q1 : x = 0
  · rw [if_pos q1, if_neg (show ¬ (x ≠ 0 ∧ y ≠ 0) from fun w => w.1 q1)]; rfl
  · by_cases q2 : y = 0
    · rw [if_neg q1, if_pos q2, if_neg (show ¬ (x ≠ 0 ∧ y ≠ 0) from fun w => w.2 q2)]; rfl
    · rw [if_neg q1, if_neg q2, if_pos (show x ≠ 0 ∧ y ≠ 0 from ⟨q1, q2⟩)]; rfl
theorem m_w124 {x y : Int} (hx : -1000000 ≤ x ∧ x ≤ 1000000) (hy : -1000000 ≤ y ∧ y ≤ 1000000) : f_X12_worked (Int32.ofNat (mCo 124)) (Int64.ofInt x) (Int64.ofInt y) g = some (Int32.ofInt (mOp 124 x y), g) := by
  have z0 := lg_z0
  show (if ¬ lg_cmp (Int64.ofInt x) 0 = 0 then some (1, g) else (if lg_cmp (Int64.ofInt y) 0 = 0 then some (0, g) else some (1, g))) = some (Int32.ofInt (if x ≠ 0 ∨ y ≠ 0 then 1 else 0), g)
  simp only [z0 x hx, z0 y hy]
  by_cases q1 : x = 0
  · by_cases q2 : y = 0
    · rw [if_neg (fun w => w q1), if_pos q2, if_neg (fun w => w.elim (fun w => w q1) (fun w => w q2))]; rfl
    · rw [if_neg (fun w => w q1), if_neg q2, if_pos (Or.inr q2)]; rfl
  · rw [if_pos q1, if_pos (Or.inl q1)]; rfl
theorem m_worked {c : Nat} {x y : Int} (hc : mOc c) (hx : -1000000 ≤ x ∧ x ≤ 1000000) (hy : -1000000 ≤ y ∧ y ≤ 1000000) : f_X12_worked (Int32.ofNat (mCo c)) (Int64.ofInt x) (Int64.ofInt y) g = some (Int32.ofInt (mOp c x y), g) := by
  rcases hc with rfl | rfl | rfl | rfl | rfl | rfl | rfl | rfl | rfl
  · exact m_w43 hx hy
  · exact m_w45 hx hy
  · exact m_w42 hx hy
  · exact m_w47 hx hy
  · exact m_w61 hx hy
  · exact m_w60 hx hy
  · exact m_w62 hx hy
  · exact m_w38 hx hy
  · exact m_w124 hx hy
end AO
