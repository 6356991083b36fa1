/-! ===== layer 3: small numbers in Int32, reading what was written, triples ===== -/
theorem qi_add (a b : Nat) : Int32.ofNat a + Int32.ofNat b = Int32.ofNat (a + b) := (Int32.ofNat_add a b).symm
theorem qi_mul (a b : Nat) : Int32.ofNat a * Int32.ofNat b = Int32.ofNat (a * b) := (Int32.ofNat_mul a b).symm
theorem qi_sub {a b : Nat} (h : b ≤ a) : Int32.ofNat a - Int32.ofNat b = Int32.ofNat (a - b) := (Int32.ofNat_sub a b h).symm
theorem qi_lt {a b : Nat} (ha : a < 2147483648) (hb : b < 2147483648) : (Int32.ofNat a < Int32.ofNat b) = (a < b) := propext (Int32.ofNat_lt_iff_lt ha hb)
theorem qi_le {a b : Nat} (ha : a < 2147483648) (hb : b < 2147483648) : (Int32.ofNat a ≤ Int32.ofNat b) = (a ≤ b) := propext (Int32.ofNat_le_iff_le ha hb)
theorem qi_ix {a : Nat} (ha : a < 2147483648) : ix (Int32.ofNat a) = a := Int32.toNatClampNeg_ofNat_of_lt ha
theorem qi_inj {a b : Nat} (ha : a < 2147483648) (hb : b < 2147483648) : (Int32.ofNat a = Int32.ofNat b) = (a = b) := propext ⟨fun h => by
  have h2 : ix (Int32.ofNat a) = ix (Int32.ofNat b) := congrArg ix h
  rwa [qi_ix ha, qi_ix hb] at h2, fun h => by rw [h]⟩
theorem qi_lit (n : Nat) : (OfNat.ofNat n : Int32) = Int32.ofNat (OfNat.ofNat n) := rfl
theorem qj_of (n : Nat) : Int32.ofNat n = Int32.ofInt (n : Int) := (Int32.ofInt_eq_ofNat (n := n)).symm
theorem qj_add (a b : Int) : Int32.ofInt a + Int32.ofInt b = Int32.ofInt (a + b) := (Int32.ofInt_add a b).symm
theorem qj_sub (a b : Int) : Int32.ofInt a - Int32.ofInt b = Int32.ofInt (a - b) := (Int32.ofInt_sub a b).symm
theorem qj_mul (a b : Int) : Int32.ofInt a * Int32.ofInt b = Int32.ofInt (a * b) := (Int32.ofInt_mul a b).symm
theorem qj_neg (a : Int) : - Int32.ofInt a = Int32.ofInt (-a) := Int32.neg_ofInt
theorem qj_toInt {a : Int} (h1 : -2147483648 ≤ a) (h2 : a < 2147483648) : (Int32.ofInt a).toInt = a := Int32.toInt_ofInt_of_le h1 h2
theorem qj_lt {a b : Int} (h1 : -2147483648 ≤ a) (h2 : a < 2147483648) (h3 : -2147483648 ≤ b) (h4 : b < 2147483648) : (Int32.ofInt a < Int32.ofInt b) = (a < b) := by
  rw [Int32.lt_iff_toInt_lt, qj_toInt h1 h2, qj_toInt h3 h4]
theorem qj_le {a b : Int} (h1 : -2147483648 ≤ a) (h2 : a < 2147483648) (h3 : -2147483648 ≤ b) (h4 : b < 2147483648) : (Int32.ofInt a ≤ Int32.ofInt b) = (a ≤ b) := by
  rw [Int32.le_iff_toInt_le, qj_toInt h1 h2, qj_toInt h3 h4]
theorem qj_inj {a b : Int} (h1 : -2147483648 ≤ a) (h2 : a < 2147483648) (h3 : -2147483648 ≤ b) (h4 : b < 2147483648) : (Int32.ofInt a = Int32.ofInt b) = (a = b) := propext ⟨fun h => by
  have h5 := congrArg Int32.toInt h
  rwa [qj_toInt h1 h2, qj_toInt h3 h4] at h5, fun h => by rw [h]⟩
theorem qi_neg (n : Nat) : - Int32.ofNat n = Int32.ofInt (-(n : Int)) := by rw [qj_of, qj_neg]
theorem qi_ne1 {n k : Nat} (h : n < 2147483648) (hk : 0 < k) (hk2 : k < 2147483648) : (Int32.ofNat n = - Int32.ofNat k) = False := by
  rw [qi_neg, qj_of, qj_inj (by omega) (by omega) (by omega) (by omega)]
  exact eq_false (by omega)
theorem qi_ne1' {n k : Nat} (h : n < 2147483648) (hk : 0 < k) (hk2 : k < 2147483648) : (- Int32.ofNat k = Int32.ofNat n) = False := by
  rw [qi_neg, qj_of, qj_inj (by omega) (by omega) (by omega) (by omega)]
  exact eq_false (by omega)
theorem qi_lt1 {n k : Nat} (h : n < 2147483648) (hk : 0 < k) (hk2 : k < 2147483648) : (Int32.ofNat n < - Int32.ofNat k) = False := by
  rw [qi_neg, qj_of, qj_lt (by omega) (by omega) (by omega) (by omega)]
  exact eq_false (by omega)
theorem qi_lt1' {n k : Nat} (h : n < 2147483648) (hk : 0 < k) (hk2 : k < 2147483648) : (- Int32.ofNat k < Int32.ofNat n) = True := by
  rw [qi_neg, qj_of, qj_lt (by omega) (by omega) (by omega) (by omega)]
  exact eq_true (by omega)
theorem qi_zib {j n : Nat} (h : j < n) (h2 : n < 2147483648) : zib (Int32.ofNat j) n = true := by
  unfold zib
  refine decide_eq_true ?_
  have h0 : (Int32.ofNat j < Int32.ofNat 0) = (j < 0) := qi_lt (by omega) (by omega)
  have h1 : (Int32.ofNat j).toNatClampNeg = j := qi_ix (by omega)
  rw [h1]
  show ¬ (Int32.ofNat j < Int32.ofNat 0 ∨ n ≤ j)
  rw [h0]
  omega
/-- bits -/
theorem qi_toNat {a : Nat} (ha : a < 4294967296) : (Int32.ofNat a).toBitVec.toNat = a := by
  show (BitVec.ofNat 32 a).toNat = a
  rw [BitVec.toNat_ofNat]
  exact Nat.mod_eq_of_lt ha
theorem qi_and (a b : Nat) : Int32.ofNat a &&& Int32.ofNat b = Int32.ofNat (a &&& b) := Int32.toBitVec_inj.mp (BitVec.ofNat_and).symm
theorem qi_or (a b : Nat) : Int32.ofNat a ||| Int32.ofNat b = Int32.ofNat (a ||| b) := Int32.toBitVec_inj.mp (BitVec.ofNat_or).symm
theorem qi_xor (a b : Nat) : Int32.ofNat a ^^^ Int32.ofNat b = Int32.ofNat (a ^^^ b) := Int32.toBitVec_inj.mp (BitVec.ofNat_xor).symm
theorem qi_and31 {k : Nat} (hk : k < 32) : Int32.ofNat k &&& 31 = Int32.ofNat k := by
  show Int32.ofNat k &&& Int32.ofNat 31 = Int32.ofNat k
  rw [qi_and]
  exact congrArg Int32.ofNat ((by decide : ∀ k : Fin 32, (k.val &&& 31) = k.val) ⟨k, hk⟩)
theorem qi_smod {k : Nat} (hk : k < 32) : (Int32.ofNat k).toBitVec.smod 32 = BitVec.ofNat 32 k := (by decide : ∀ k : Fin 32, (BitVec.ofNat 32 k.val).smod 32 = BitVec.ofNat 32 k.val) ⟨k, hk⟩
theorem qi_shr {a k : Nat} (ha : a < 2147483648) (hk : k < 32) : Int32.ofNat a >>> (Int32.ofNat k &&& Int32.ofNat 31) = Int32.ofNat (a >>> k) := by
  rw [show Int32.ofNat k &&& Int32.ofNat 31 = Int32.ofNat k from qi_and31 hk]
  refine Int32.toBitVec_inj.mp ?_
  show BitVec.sshiftRight' (BitVec.ofNat 32 a) ((Int32.ofNat k).toBitVec.smod 32) = BitVec.ofNat 32 (a >>> k)
  rw [qi_smod hk]
  refine BitVec.eq_of_toNat_eq ?_
  have hm : (BitVec.ofNat 32 a).msb = false := by
    rw [BitVec.msb_eq_decide, decide_eq_false_iff_not, BitVec.toNat_ofNat, Nat.mod_eq_of_lt (by omega)]
    show ¬ 2147483648 ≤ a
    omega
  show (BitVec.sshiftRight (BitVec.ofNat 32 a) (BitVec.ofNat 32 k).toNat).toNat = _
  rw [BitVec.toNat_sshiftRight_of_msb_false hm, BitVec.toNat_ofNat, BitVec.toNat_ofNat, BitVec.toNat_ofNat, Nat.mod_eq_of_lt (show a < 2 ^ 32 by omega), Nat.mod_eq_of_lt (show k < 2 ^ 32 by omega), Nat.mod_eq_of_lt]
  have := Nat.shiftRight_le a k
  omega
theorem qi_shl {a k : Nat} (hk : k < 32) : Int32.ofNat a <<< (Int32.ofNat k &&& Int32.ofNat 31) = Int32.ofNat (a <<< k) := by
  rw [show Int32.ofNat k &&& Int32.ofNat 31 = Int32.ofNat k from qi_and31 hk]
  refine Int32.toBitVec_inj.mp ?_
  show (BitVec.ofNat 32 a) <<< ((Int32.ofNat k).toBitVec.smod 32) = BitVec.ofNat 32 (a <<< k)
  rw [qi_smod hk]
  refine BitVec.eq_of_toNat_eq ?_
  show ((BitVec.ofNat 32 a) <<< (BitVec.ofNat 32 k).toNat).toNat = _
  rw [BitVec.toNat_shiftLeft, BitVec.toNat_ofNat, BitVec.toNat_ofNat, BitVec.toNat_ofNat, Nat.mod_eq_of_lt (show k < 2 ^ 32 by omega), Nat.shiftLeft_eq, Nat.shiftLeft_eq, Nat.mod_mul_mod]
theorem qi_tb {a k : Nat} : (a >>> k) &&& 1 = (a.testBit k).toNat := by
  rw [Nat.and_one_is_mod, Nat.testBit_eq_decide_div_mod_eq, Nat.shiftRight_eq_div_pow]
  rcases Nat.mod_two_eq_zero_or_one (a / 2 ^ k) with h | h <;> simp [h]
theorem qi_bit0 {a k : Nat} (ha : a < 2147483648) (hk : k < 32) : ((Int32.ofNat a >>> (Int32.ofNat k &&& Int32.ofNat 31)) &&& Int32.ofNat 1 = Int32.ofNat 0) = (a.testBit k = false) := by
  rw [qi_shr ha hk, qi_and, qi_tb]
  cases a.testBit k <;> simp [Int32.ofNat]
  decide
theorem qi_bit1 {a k : Nat} (ha : a < 2147483648) (hk : k < 32) : ((Int32.ofNat a >>> (Int32.ofNat k &&& Int32.ofNat 31)) &&& Int32.ofNat 1 = Int32.ofNat 1) = (a.testBit k = true) := by
  rw [qi_shr ha hk, qi_and, qi_tb]
  cases a.testBit k <;> simp [Int32.ofNat]
  decide

theorem qi_div {a b : Nat} (ha : a < 2147483648) (hb : b < 2147483648) : Int32.ofNat a / Int32.ofNat b = Int32.ofNat (a / b) := (Int32.ofNat_div ha hb).symm
theorem qi_imod {a b : Nat} (ha : a < 2147483648) (hb : b < 2147483648) : imod (Int32.ofNat a) (Int32.ofNat b) = Int32.ofNat (a % b) := by
  unfold imod
  rw [qi_div ha hb, qi_mul, qi_sub (Nat.div_mul_le_self a b)]
  congr 1
  have := Nat.div_add_mod a b
  have h2 : b * (a / b) = a / b * b := Nat.mul_comm _ _
  omega
theorem qi_imin {a b : Nat} (ha : a < 2147483648) (hb : b < 2147483648) : imin (Int32.ofNat a) (Int32.ofNat b) = Int32.ofNat (min a b) := by
  unfold imin
  simp only [qi_lt hb ha]
  by_cases h : b < a
  · rw [if_pos h, Nat.min_eq_right (by omega)]
  · rw [if_neg h, Nat.min_eq_left (by omega)]
theorem qi_imax {a b : Nat} (ha : a < 2147483648) (hb : b < 2147483648) : imax (Int32.ofNat a) (Int32.ofNat b) = Int32.ofNat (max a b) := by
  unfold imax
  simp only [qi_lt ha hb]
  by_cases h : a < b
  · rw [if_pos h, Nat.max_eq_right (by omega)]
  · rw [if_neg h, Nat.max_eq_left (by omega)]
theorem qj_imin {a b : Int} (h1 : -2147483648 ≤ a) (h2 : a < 2147483648) (h3 : -2147483648 ≤ b) (h4 : b < 2147483648) : imin (Int32.ofInt a) (Int32.ofInt b) = Int32.ofInt (min a b) := by
  unfold imin
  simp only [qj_lt h3 h4 h1 h2]
  by_cases h : b < a
  · rw [if_pos h, Int.min_eq_right (by omega)]
  · rw [if_neg h, Int.min_eq_left (by omega)]
theorem qj_imax {a b : Int} (h1 : -2147483648 ≤ a) (h2 : a < 2147483648) (h3 : -2147483648 ≤ b) (h4 : b < 2147483648) : imax (Int32.ofInt a) (Int32.ofInt b) = Int32.ofInt (max a b) := by
  unfold imax
  simp only [qj_lt h1 h2 h3 h4]
  by_cases h : a < b
  · rw [if_pos h, Int.max_eq_right (by omega)]
  · rw [if_neg h, Int.max_eq_left (by omega)]
theorem qj_iabs {a : Int} (h1 : -2147483648 ≤ a) (h2 : a < 2147483648) : iabs (Int32.ofInt a) = Int32.ofInt a.natAbs := by
  unfold iabs
  have h0 : ((0 : Int32) ≤ Int32.ofInt a) = ((0 : Int) ≤ a) := qj_le (a := 0) (by omega) (by omega) h1 h2
  simp only [h0]
  by_cases h : 0 ≤ a
  · rw [if_pos h, Int.natAbs_of_nonneg h]
  · rw [if_neg h]
    show Int32.ofInt 0 - Int32.ofInt a = _
    rw [qj_sub]
    congr 1
    omega
/-- what was written -/
theorem qs_I {g : zSg} {a k b j : Nat} {x : Int32} : (gsI g a k x).2.1 b j = if b = a ∧ j = k then x else g.2.1 b j := by
  show zup g.2.1 a k x b j = _
  unfold zup
  by_cases h : b = a <;> by_cases h2 : j = k <;> simp [h, h2]
theorem qs_Ie {g : zSg} {a k : Nat} {x : Int32} : (gsI g a k x).2.1 a k = x := by rw [qs_I, if_pos ⟨rfl, rfl⟩]
theorem qs_In {g : zSg} {a k b j : Nat} {x : Int32} (h : ¬ (b = a ∧ j = k)) : (gsI g a k x).2.1 b j = g.2.1 b j := by rw [qs_I, if_neg h]
theorem qs_J {g : zSg} {a k b j : Nat} {x : Int64} : (gsJ g a k x).2.2.1 b j = if b = a ∧ j = k then x else g.2.2.1 b j := by
  show zup g.2.2.1 a k x b j = _
  unfold zup
  by_cases h : b = a <;> by_cases h2 : j = k <;> simp [h, h2]
theorem qs_Je {g : zSg} {a k : Nat} {x : Int64} : (gsJ g a k x).2.2.1 a k = x := by rw [qs_J, if_pos ⟨rfl, rfl⟩]
theorem qs_Jn {g : zSg} {a k b j : Nat} {x : Int64} (h : ¬ (b = a ∧ j = k)) : (gsJ g a k x).2.2.1 b j = g.2.2.1 b j := by rw [qs_J, if_neg h]
theorem qs_IJ {g : zSg} {a k : Nat} {x : Int32} : (gsI g a k x).2.2.1 = g.2.2.1 := rfl
theorem qs_JI {g : zSg} {a k : Nat} {x : Int64} : (gsJ g a k x).2.1 = g.2.1 := rfl
theorem qs_IH {g : zSg} {a k : Nat} {x : Int32} : (gsI g a k x).2.2.2 = g.2.2.2 := rfl
theorem qs_JH {g : zSg} {a k : Nat} {x : Int64} : (gsJ g a k x).2.2.2 = g.2.2.2 := rfl
theorem qs_R {g : zSg} {a b j : Nat} {f : Nat → Int32} : (gsRow g a f).2.1 b j = if b = a then f j else g.2.1 b j := rfl
/-- triples -/
def qT {α : Type} (o : Option (α × zSg)) (Q : α → zSg → Prop) : Prop := ∃ v g, o = some (v, g) ∧ Q v g
theorem qT_r {α : Type} {v : α} {g : zSg} {Q : α → zSg → Prop} (h : Q v g) : qT (some (v, g)) Q := ⟨v, g, rfl, h⟩
theorem qT_b {α β : Type} {o : Option (α × zSg)} {k : α → zSg → Option (β × zSg)} {Q : β → zSg → Prop} (h : qT o (fun v g => qT (k v g) Q)) : qT (zB o k) Q := by
  obtain ⟨v, g, rfl, h⟩ := h
  exact h
theorem qT_m {α : Type} {o : Option (α × zSg)} {Q R : α → zSg → Prop} (h : qT o Q) (hi : ∀ v g, Q v g → R v g) : qT o R := by
  obtain ⟨v, g, rfl, h⟩ := h
  exact ⟨v, g, rfl, hi v g h⟩
theorem qT_i {α : Type} {c : Prop} [Decidable c] {a b : Option (α × zSg)} {Q : α → zSg → Prop} (ht : c → qT a Q) (hf : ¬ c → qT b Q) : qT (if c then a else b) Q := by
  by_cases h : c
  · rw [if_pos h]; exact ht h
  · rw [if_neg h]; exact hf h
theorem qB_s {α β : Type} {v : α} {g : zSg} {k : α → zSg → Option β} : zB (some (v, g)) k = k v g := rfl
/-- where longs lie -/
def qJc (a k : Nat) : Prop := (a = 0 ∧ k = 14) ∨ (a = 526 ∧ k = 36)
/-- what a run may change -/
def qF (S : Nat → Nat → Prop) (g g' : zSg) : Prop := g'.1 = g.1 ∧ (∀ a k, ¬ S a k → g'.2.1 a k = g.2.1 a k) ∧ (∀ a k, ¬ (S a k ∧ qJc a k) → g'.2.2.1 a k = g.2.2.1 a k) ∧ g'.2.2.2 = g.2.2.2
theorem qF.rfl' {S : Nat → Nat → Prop} {g : zSg} : qF S g g := ⟨rfl, fun _ _ _ => rfl, fun _ _ _ => rfl, rfl⟩
theorem qF.tr {S : Nat → Nat → Prop} {g g' g'' : zSg} (h : qF S g g') (h2 : qF S g' g'') : qF S g g'' := ⟨h2.1.trans h.1, fun a k q => (h2.2.1 a k q).trans (h.2.1 a k q), fun a k q => (h2.2.2.1 a k q).trans (h.2.2.1 a k q), h2.2.2.2.trans h.2.2.2⟩
theorem qF.mono {S S' : Nat → Nat → Prop} {g g' : zSg} (h : qF S g g') (hi : ∀ a k, S a k → S' a k) : qF S' g g' := ⟨h.1, fun a k q => h.2.1 a k (fun w => q (hi a k w)), fun a k q => h.2.2.1 a k (fun w => q ⟨hi a k w.1, w.2⟩), h.2.2.2⟩
theorem qF.sI {S : Nat → Nat → Prop} {g g' : zSg} {b j : Nat} {x : Int32} (h : qF S g g') (hs : S b j) : qF S g (gsI g' b j x) := ⟨h.1, fun a k q => by rw [qs_In (fun w => q (by rw [w.1, w.2]; exact hs)), h.2.1 a k q], fun a k q => h.2.2.1 a k q, h.2.2.2⟩
theorem qF.sJ {S : Nat → Nat → Prop} {g g' : zSg} {b j : Nat} {x : Int64} (h : qF S g g') (hs : S b j) (hj : qJc b j) : qF S g (gsJ g' b j x) := ⟨h.1, fun a k q => h.2.1 a k q, fun a k q => by rw [qs_Jn (fun w => q (by rw [w.1, w.2]; exact ⟨hs, hj⟩)), h.2.2.1 a k q], h.2.2.2⟩
theorem qF.sR {S : Nat → Nat → Prop} {g g' : zSg} {b : Nat} {f : Nat → Int32} (h : qF S g g') (hs : ∀ j, S b j) : qF S g (gsRow g' b f) := ⟨h.1, fun a k q => by rw [qs_R, if_neg (fun w => q (by rw [w]; exact hs k)), h.2.1 a k q], fun a k q => h.2.2.1 a k q, h.2.2.2⟩
/-- rows of the class -/
theorem q_get {a j n : Nat} {g : zSg} (hK : (zK0 (a + 1)).2 = n) (hn : n < 2147483648) (hj : j < n) : f_X7_get a (Int32.ofNat j) g = some (g.2.1 (a + 1) j, g) := by
  unfold f_X7_get
  simp (disch := omega) only [hK, qi_lit, qi_add, qi_mul, qi_sub, qi_lt, qi_le, qi_inj, qi_ne1, qi_ne1', qi_ix, if_true, if_false, not_true_eq_false, not_false_eq_true, ite_true, ite_false, if_neg (show ¬ j < 0 by omega), if_neg (show ¬ n ≤ j by omega), qi_zib hj hn]
theorem q_set {a j n : Nat} {x : Int32} {g : zSg} (hK : (zK0 (a + 1)).2 = n) (hn : n < 2147483648) (hj : j < n) : f_X7_set a (Int32.ofNat j) x g = some ((), gsI g (a + 1) j x) := by
  unfold f_X7_set
  simp (disch := omega) only [hK, qi_lit, qi_add, qi_mul, qi_sub, qi_lt, qi_le, qi_inj, qi_ne1, qi_ne1', qi_ix, if_true, if_false, not_true_eq_false, not_false_eq_true, ite_true, ite_false, if_neg (show ¬ j < 0 by omega), if_neg (show ¬ n ≤ j by omega), qi_zib hj hn]
theorem q_add {a j n : Nat} {x : Int32} {g : zSg} (hK : (zK0 (a + 1)).2 = n) (hn : n < 2147483648) (hj : j < n) : f_X7_add a (Int32.ofNat j) x g = some ((), gsI g (a + 1) j (g.2.1 (a + 1) j + x)) := by
  unfold f_X7_add
  simp (disch := omega) only [hK, qi_lit, qi_add, qi_mul, qi_sub, qi_lt, qi_le, qi_inj, qi_ne1, qi_ne1', qi_ix, if_true, if_false, not_true_eq_false, not_false_eq_true, ite_true, ite_false, if_neg (show ¬ j < 0 by omega), if_neg (show ¬ n ≤ j by omega), qi_zib hj hn]
theorem qi_dec {n : Nat} (h : 1 ≤ n) : Int32.ofNat n + - Int32.ofNat 1 = Int32.ofNat (n - 1) := by
  rw [qi_neg, qj_of n, qj_add, qj_of]
  congr 1
  omega
theorem qi_andn {a b : Nat} : Int32.ofNat a &&& (Int32.ofNat b ^^^ - Int32.ofNat 1) = Int32.ofNat (a ^^^ (a &&& b)) := by
  rw [← qi_xor, ← qi_and]
  refine Int32.toBitVec_inj.mp ?_
  refine BitVec.eq_of_getLsbD_eq fun i hi => ?_
  show ((Int32.ofNat a).toBitVec &&& ((Int32.ofNat b).toBitVec ^^^ BitVec.allOnes 32)).getLsbD i = ((Int32.ofNat a).toBitVec ^^^ ((Int32.ofNat a).toBitVec &&& (Int32.ofNat b).toBitVec)).getLsbD i
  simp only [BitVec.getLsbD_and, BitVec.getLsbD_xor, BitVec.getLsbD_allOnes]
  cases (Int32.ofNat a).toBitVec.getLsbD i <;> cases (Int32.ofNat b).toBitVec.getLsbD i <;> simp [hi]
/-- rows become others -/
theorem q_bec {a b n : Nat} {g : zSg} (ha : (zK0 (a + 1)).2 = n) (hb : (zK0 (b + 1)).2 = n) (hn : n < 2147483648) : ∃ g', f_X7_become a b g = some ((), g') ∧ (∀ j, j < n → g'.2.1 (a + 1) j = g.2.1 (b + 1) j) ∧ qF (fun c _ => c = a + 1) g g' := by
  have e : imin (Int32.ofNat n) (Int32.ofNat n) = Int32.ofNat n := by rw [qi_imin hn hn, Nat.min_self]
  have e0 : ix (0 : Int32) = 0 := rfl
  have en : ix (Int32.ofNat n) = n := qi_ix hn
  unfold f_X7_become
  have hneg : ¬ Int32.ofNat n < 0 := by
    show ¬ Int32.ofNat n < Int32.ofNat 0
    rw [qi_lt hn (by omega)]
    omega
  simp only [ha, hb, e, e0, en]
  rw [if_pos ⟨by decide, by decide, hneg, by omega, by omega⟩]
  refine ⟨_, rfl, fun j hj => ?_, qF.rfl'.sR (fun _ => rfl)⟩
  rw [qs_R, if_pos rfl]
  unfold va_cpy
  rw [if_pos (by omega)]
  congr 1
  omega
