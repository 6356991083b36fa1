/-! ===== both sides: FEED, END ===== -/
def mBy (x : Int32) (q : Nat) : Nat := ((x.toBitVec >>> (24 - 8 * q)) &&& 255#32).toNat
def mC1 (c : Nat) : Nat := if c = 0 then 0 else 1
def mCn (x : Int32) : Nat := mC1 (mBy x 0) + mC1 (mBy x 1) + mC1 (mBy x 2) + mC1 (mBy x 3)
def mAp1 (c : Nat) (T : mTk) : mTk := if c = 0 then T else (T.1 + 1, fun i => if i = T.1 then c else T.2 i)
def mAp4 (x : Int32) (T : mTk) : mTk := mAp1 (mBy x 3) (mAp1 (mBy x 2) (mAp1 (mBy x 1) (mAp1 (mBy x 0) T)))
def mB20 (x1 x2 x3 x4 x5 : Int32) (k : Nat) : Nat := if k < 4 then mBy x1 k else if k < 8 then mBy x2 (k - 4) else if k < 12 then mBy x3 (k - 8) else if k < 16 then mBy x4 (k - 12) else mBy x5 (k - 16)
def mApp (b : Nat → Nat) (T : mTk) : Nat → mTk
  | 0 => T
  | n + 1 => mAp1 (b n) (mApp b T n)
theorem mBy_lt {x : Int32} {q : Nat} : mBy x q < 256 := by
  unfold mBy
  rw [BitVec.toNat_and]
  exact Nat.lt_of_le_of_lt Nat.and_le_right (by decide)
theorem mBy_v {x : Int32} {q : Nat} : (Int32.ofNat (mBy x q)).toBitVec = (x.toBitVec >>> (24 - 8 * q)) &&& 255#32 := by
  show BitVec.ofNat 32 (((x.toBitVec >>> (24 - 8 * q)) &&& 255#32).toNat) = _
  rw [BitVec.ofNat_toNat, BitVec.setWidth_eq]
theorem q_byU {x : Int32} : ∀ q, q < 4 → iushr x (Int32.ofNat (24 - 8 * q)) &&& 255 = Int32.ofNat (mBy x q) := by
  intro q hq
  refine Int32.toBitVec_inj.mp ?_
  rw [mBy_v]
  rcases (show q = 0 ∨ q = 1 ∨ q = 2 ∨ q = 3 by omega) with rfl | rfl | rfl | rfl <;> rfl
theorem q_byS {x : Int32} {q : Nat} (hq : q < 4) : (x >>> (Int32.ofNat (24 - 8 * q) &&& 31)) &&& 255 = Int32.ofNat (mBy x q) := by
  refine Int32.toBitVec_inj.mp ?_
  rw [mBy_v, show Int32.ofNat (24 - 8 * q) &&& 31 = Int32.ofNat (24 - 8 * q) from qi_and31 (by omega)]
  show (BitVec.sshiftRight' x.toBitVec ((Int32.ofNat (24 - 8 * q)).toBitVec.smod 32)) &&& 255#32 = _
  rw [qi_smod (by omega)]
  show (BitVec.sshiftRight x.toBitVec (BitVec.ofNat 32 (24 - 8 * q)).toNat) &&& 255#32 = _
  rw [BitVec.toNat_ofNat, Nat.mod_eq_of_lt (by omega)]
  refine BitVec.eq_of_getLsbD_eq fun i hi => ?_
  rw [BitVec.getLsbD_and, BitVec.getLsbD_and, BitVec.getLsbD_sshiftRight, BitVec.getLsbD_ushiftRight]
  by_cases h8 : i < 8
  · rw [decide_eq_false (by omega), if_pos (by omega)]
    rfl
  · have e : ∀ j, j < 32 → 8 ≤ j → (255#32).getLsbD j = false := by decide
    rw [e i hi (by omega), Bool.and_false, Bool.and_false]
theorem mAp1_l {c : Nat} {T : mTk} : (mAp1 c T).1 = T.1 + mC1 c := by
  unfold mAp1 mC1
  split <;> rfl
theorem mAp1_ok {c : Nat} {T : mTk} (h : mTpOk T) (hc : c < 256) (hn : T.1 + mC1 c ≤ 240) : mTpOk (mAp1 c T) := by
  unfold mAp1 mC1 at *
  by_cases q : c = 0
  · rw [if_pos q]; exact h
  · rw [if_neg q] at hn ⊢
    refine ⟨hn, fun i hi => ?_⟩
    show 1 ≤ (if i = T.1 then c else T.2 i) ∧ (if i = T.1 then c else T.2 i) ≤ 255
    have hi : i < T.1 + 1 := hi
    by_cases e : i = T.1
    · rw [if_pos e]; omega
    · rw [if_neg e]; exact h.2 i (by omega)
theorem mApp_l {b : Nat → Nat} {T : mTk} : ∀ n, (mApp b T n).1 = T.1 + mSum (fun k => mC1 (b k)) n
  | 0 => rfl
  | n + 1 => by
    show (mAp1 (b n) (mApp b T n)).1 = T.1 + (mSum (fun k => mC1 (b k)) n + mC1 (b n))
    rw [mAp1_l, mApp_l n, Nat.add_assoc]
theorem mApp_ok {b : Nat → Nat} {T : mTk} (h : mTpOk T) (hb : ∀ k, b k < 256) : ∀ n, T.1 + mSum (fun k => mC1 (b k)) n ≤ 240 → mTpOk (mApp b T n)
  | 0, _ => h
  | n + 1, hn => by
    have hn : T.1 + (mSum (fun k => mC1 (b k)) n + mC1 (b n)) ≤ 240 := hn
    exact mAp1_ok (mApp_ok h hb n (by omega)) (hb n) (by rw [mApp_l]; omega)
theorem mB20_lt {x1 x2 x3 x4 x5 : Int32} {k : Nat} : mB20 x1 x2 x3 x4 x5 k < 256 := by
  unfold mB20
  repeat' split
  all_goals exact mBy_lt
def sAB (a k : Nat) : Prop := (a = 1 ∧ k = 1) ∨ a = 2
def sAD (a k : Nat) : Prop := (a = 526 ∧ k = 2) ∨ a = 527
section AN
variable {T : mTk} {g : zSg}
theorem x_add1 {q m : Nat} {x : Int32} (hq : q < 4) (hn : T.1 + mC1 (mBy x q) ≤ 240) (h : vTpX T g) : ∃ g', f_X9_addBytesOf_3 (m + 1) x (Int32.ofNat (24 - 8 * q)) g = f_X9_addBytesOf_3 m x (Int32.ofNat (24 - 8 * q) + -8) g' ∧ vTpX (mAp1 (mBy x q) T) g' ∧ qF sAB g g' := by
  have hb := mBy_lt (x := x) (q := q)
  show ∃ g', fb_X9_addBytesOf_3 _ _ _ g = _ ∧ _
  unfold fb_X9_addBytesOf_3 f_X9_addBytesOf_58
  rw [if_neg (show ¬ Int32.ofNat (24 - 8 * q) < (0 : Int32) by rw [show (0 : Int32) = Int32.ofNat 0 from rfl, qi_lt (by omega) (by omega)]; omega), q_byU q hq, show gI g 1 1 = Int32.ofNat T.1 from h.1]
  unfold mAp1
  by_cases c : mBy x q = 0
  · rw [if_pos (show Int32.ofNat (mBy x q) = 0 by rw [c]; rfl), if_pos c]
    exact ⟨g, rfl, h, qF.rfl'⟩
  · unfold mC1 at hn
    rw [if_neg c] at hn
    rw [if_neg (show ¬ Int32.ofNat (mBy x q) = (0 : Int32) from q_ne (d := 0) (by omega) (by omega) c), if_neg c, if_neg (show ¬ Int32.ofNat T.1 < (0 : Int32) by rw [show (0 : Int32) = Int32.ofNat 0 from rfl, qi_lt (by omega) (by omega)]; omega), if_neg (show ¬ (240 : Int32) ≤ Int32.ofNat T.1 by rw [show (240 : Int32) = Int32.ofNat 240 from rfl, qi_le (by omega) (by omega)]; omega), if_pos (qi_zib (by omega) (by omega)), qi_ix (by omega), show gI (gsI g 2 T.1 (Int32.ofNat (mBy x q))) 1 1 + 1 = Int32.ofNat (T.1 + 1) by rw [show gI (gsI g 2 T.1 (Int32.ofNat (mBy x q))) 1 1 = Int32.ofNat T.1 from (qs_In (by omega)).trans h.1]; exact qi_add _ 1]
    refine ⟨_, rfl, ⟨qs_Ie, fun i hi => ?_⟩, (qF.rfl'.sI (Or.inr rfl)).sI (Or.inl ⟨rfl, rfl⟩)⟩
    have hi : i < T.1 + 1 := hi
    rw [qs_In (by omega)]
    show _ = Int32.ofNat (if i = T.1 then mBy x q else T.2 i)
    by_cases e : i = T.1
    · rw [if_pos e, e, qs_Ie]
    · rw [if_neg e, qs_In (by omega)]; exact h.2 i (by omega)
theorem x_add4 {x : Int32} (hn : T.1 + mCn x ≤ 240) (h : vTpX T g) : ∃ g', f_X9_addBytesOf x g = some ((), g') ∧ vTpX (mAp4 x T) g' ∧ qF sAB g g' := by
  unfold mCn at hn
  obtain ⟨g1, ze1, h1, f1⟩ := x_add1 (q := 0) (m := 999999) (x := x) (by omega) (by omega) h
  obtain ⟨g2, ze2, h2, f2⟩ := x_add1 (q := 1) (m := 999998) (x := x) (by omega) (by rw [mAp1_l]; omega) h1
  obtain ⟨g3, ze3, h3, f3⟩ := x_add1 (q := 2) (m := 999997) (x := x) (by omega) (by rw [mAp1_l, mAp1_l]; omega) h2
  obtain ⟨g4, ze4, h4, f4⟩ := x_add1 (q := 3) (m := 999996) (x := x) (by omega) (by rw [mAp1_l, mAp1_l, mAp1_l]; omega) h3
  refine ⟨g4, ?_, h4, ((f1.tr f2).tr f3).tr f4⟩
  unfold f_X9_addBytesOf
  show f_X9_addBytesOf_3 (999999 + 1) x (Int32.ofNat (24 - 8 * 0)) g = _
  rw [ze1]
  show f_X9_addBytesOf_3 (999998 + 1) x (Int32.ofNat (24 - 8 * 1)) g1 = _
  rw [ze2]
  show f_X9_addBytesOf_3 (999997 + 1) x (Int32.ofNat (24 - 8 * 2)) g2 = _
  rw [ze3]
  show f_X9_addBytesOf_3 (999996 + 1) x (Int32.ofNat (24 - 8 * 3)) g3 = _
  rw [ze4]
  show fb_X9_addBytesOf_3 (f_X9_addBytesOf_3 999995) x (-8) g4 = _
  unfold fb_X9_addBytesOf_3
  rw [if_pos (by decide)]
theorem x_byt1 {q m n : Nat} {x : Int32} (hq : q < 4) : f_X9_bytesIn_5 (m + 1) x (Int32.ofNat n) (Int32.ofNat (24 - 8 * q)) g = f_X9_bytesIn_5 m x (Int32.ofNat (n + mC1 (mBy x q))) (Int32.ofNat (24 - 8 * q) + -8) g := by
  have hb := mBy_lt (x := x) (q := q)
  show fb_X9_bytesIn_5 _ _ _ _ g = _
  unfold fb_X9_bytesIn_5 f_X9_bytesIn_22 mC1
  rw [if_neg (show ¬ Int32.ofNat (24 - 8 * q) < (0 : Int32) by rw [show (0 : Int32) = Int32.ofNat 0 from rfl, qi_lt (by omega) (by omega)]; omega), q_byU q hq]
  by_cases c : mBy x q = 0
  · rw [if_pos (show Int32.ofNat (mBy x q) = 0 by rw [c]; rfl), if_pos c, Nat.add_zero]
  · rw [if_neg (show ¬ Int32.ofNat (mBy x q) = (0 : Int32) from q_ne (d := 0) (by omega) (by omega) c), if_neg c, show Int32.ofNat n + 1 = Int32.ofNat (n + 1) from qi_add n 1]
theorem x_byt4 {x : Int32} : f_X9_bytesIn x g = some (Int32.ofNat (mCn x), g) := by
  unfold f_X9_bytesIn
  show f_X9_bytesIn_5 (999999 + 1) x (Int32.ofNat 0) (Int32.ofNat (24 - 8 * 0)) g = _
  rw [x_byt1 (by omega)]
  show f_X9_bytesIn_5 (999998 + 1) x (Int32.ofNat (0 + mC1 (mBy x 0))) (Int32.ofNat (24 - 8 * 1)) g = _
  rw [x_byt1 (by omega)]
  show f_X9_bytesIn_5 (999997 + 1) x (Int32.ofNat (0 + mC1 (mBy x 0) + mC1 (mBy x 1))) (Int32.ofNat (24 - 8 * 2)) g = _
  rw [x_byt1 (by omega)]
  show f_X9_bytesIn_5 (999996 + 1) x (Int32.ofNat (0 + mC1 (mBy x 0) + mC1 (mBy x 1) + mC1 (mBy x 2))) (Int32.ofNat (24 - 8 * 3)) g = _
  rw [x_byt1 (by omega)]
  show fb_X9_bytesIn_5 (f_X9_bytesIn_5 999995) x (Int32.ofNat (0 + mC1 (mBy x 0) + mC1 (mBy x 1) + mC1 (mBy x 2) + mC1 (mBy x 3))) (-8) g = _
  unfold fb_X9_bytesIn_5 mCn
  rw [if_pos (by decide), Nat.zero_add]
theorem mC1_le {c : Nat} : mC1 c ≤ 1 := by unfold mC1; split <;> omega
theorem m_byteOf {x1 x2 x3 x4 x5 : Int32} {k : Nat} (hk : k < 20) : f_X12_byteOf x1 x2 x3 x4 x5 (Int32.ofNat k) g = some (Int32.ofNat (mB20 x1 x2 x3 x4 x5 k), g) := by
  have b45 : ∀ x : Int32, f_X12_byteOf_45 (Int32.ofNat k) x g = some (Int32.ofNat (mBy x (k % 4)), g) := fun x => by
    unfold f_X12_byteOf_45
    rw [show (24 : Int32) - 8 * imod (Int32.ofNat k) 4 = Int32.ofNat (24 - 8 * (k % 4)) by
      rw [show imod (Int32.ofNat k) 4 = Int32.ofNat (k % 4) from qi_imod (b := 4) (by omega) (by omega)]
      show Int32.ofNat 24 - Int32.ofNat 8 * Int32.ofNat (k % 4) = _
      rw [qi_mul, qi_sub (by omega)], q_byS (by omega)]
  unfold f_X12_byteOf
  rw [show (4 : Int32) = Int32.ofNat 4 from rfl, show (8 : Int32) = Int32.ofNat 8 from rfl, show (12 : Int32) = Int32.ofNat 12 from rfl, show (16 : Int32) = Int32.ofNat 16 from rfl]
  simp (disch := omega) only [qi_le]
  rw [b45, b45, b45, b45, b45]
  unfold mB20
  by_cases h1 : k < 4
  · rw [if_neg (by omega), if_pos h1, Nat.mod_eq_of_lt h1]
  by_cases h2 : k < 8
  · rw [if_pos (by omega), if_neg (by omega), if_neg h1, if_pos h2, show k % 4 = k - 4 by omega]
  by_cases h3 : k < 12
  · rw [if_pos (by omega), if_pos (by omega), if_neg (by omega), if_neg h1, if_neg h2, if_pos h3, show k % 4 = k - 8 by omega]
  by_cases h4 : k < 16
  · rw [if_pos (by omega), if_pos (by omega), if_pos (by omega), if_neg (by omega), if_neg h1, if_neg h2, if_neg h3, if_pos h4, show k % 4 = k - 12 by omega]
  · rw [if_pos (by omega), if_pos (by omega), if_pos (by omega), if_pos (by omega), if_neg h1, if_neg h2, if_neg h3, if_neg h4, show k % 4 = k - 16 by omega]
theorem d_feed (hT : mTpOk T) (x1 x2 x3 x4 x5 : Int32) : ∃ v T', mTpOk T' ∧ (∀ g, vTpX T g → ∃ g', f_X11_feed x1 x2 x3 x4 x5 g = some (v, g') ∧ vTpX T' g' ∧ qF sAB g g') ∧ (∀ g, vTpM T g → ∃ g', f_X12_feed x1 x2 x3 x4 x5 g = some (v, g') ∧ vTpM T' g' ∧ qF sAD g g') := by
  have h240 := hT.1
  have es : mSum (fun k => mC1 (mB20 x1 x2 x3 x4 x5 k)) 20 = mCn x1 + mCn x2 + mCn x3 + mCn x4 + mCn x5 := by
    have e : mSum (fun k => mC1 (mB20 x1 x2 x3 x4 x5 k)) 20 = 0 + mC1 (mBy x1 0) + mC1 (mBy x1 1) + mC1 (mBy x1 2) + mC1 (mBy x1 3) + mC1 (mBy x2 0) + mC1 (mBy x2 1) + mC1 (mBy x2 2) + mC1 (mBy x2 3) + mC1 (mBy x3 0) + mC1 (mBy x3 1) + mC1 (mBy x3 2) + mC1 (mBy x3 3) + mC1 (mBy x4 0) + mC1 (mBy x4 1) + mC1 (mBy x4 2) + mC1 (mBy x4 3) + mC1 (mBy x5 0) + mC1 (mBy x5 1) + mC1 (mBy x5 2) + mC1 (mBy x5 3) := rfl
    unfold mCn
    omega
  have hle : ∀ n, mSum (fun k => mC1 (mB20 x1 x2 x3 x4 x5 k)) n ≤ n := fun n => by
    induction n with
    | zero => exact Nat.le_refl _
    | succ n ih =>
      have := mC1_le (c := mB20 x1 x2 x3 x4 x5 n)
      show mSum (fun k => mC1 (mB20 x1 x2 x3 x4 x5 k)) n + mC1 (mB20 x1 x2 x3 x4 x5 n) ≤ n + 1
      omega
  have h20 := hle 20
  have xs : ∀ g, vTpX T g → f_X11_feed x1 x2 x3 x4 x5 g = (if T.1 + (mCn x1 + mCn x2 + mCn x3 + mCn x4 + mCn x5) ≤ 240 then (zB (f_X9_addBytesOf x1 g) (fun v20 g21 => (zB (f_X9_addBytesOf x2 g21) (fun v23 g24 => (zB (f_X9_addBytesOf x3 g24) (fun v26 g27 => (zB (f_X9_addBytesOf x4 g27) (fun v29 g30 => (zB (f_X9_addBytesOf x5 g30) (fun v32 g33 => (zB (f_X9_length g33) (fun v35 g36 => some (v35, g36))))))))))))) else some ((-1), g)) := fun g hg => by
    unfold f_X11_feed
    rw [x_byt4, qB_s, x_byt4, qB_s, x_byt4, qB_s, x_byt4, qB_s, x_byt4, qB_s]
    unfold f_X9_length
    rw [qB_s, show gI g 1 1 = Int32.ofNat T.1 from hg.1, qi_add, qi_add, qi_add, qi_add, qi_add, show (240 : Int32) = Int32.ofNat 240 from rfl]
    simp (disch := omega) only [qi_le]
  have ms : ∀ g, vTpM T g → f_X12_feed x1 x2 x3 x4 x5 g = (if T.1 + (mCn x1 + mCn x2 + mCn x3 + mCn x4 + mCn x5) ≤ 240 then f_X12_feed_62 zFu x1 x2 x3 x4 x5 0 g else some (-1, g)) := fun g hg => by
    unfold f_X12_feed
    refine q_loop (F := fun m k g => f_X12_feed_6 m x1 x2 x3 x4 x5 (Int32.ofNat (mSum (fun k => mC1 (mB20 x1 x2 x3 x4 x5 k)) k)) (Int32.ofNat k) g) (N := 20) (Inv := fun k g1 => g1 = g) (R := fun w => w = (if T.1 + (mCn x1 + mCn x2 + mCn x3 + mCn x4 + mCn x5) ≤ 240 then f_X12_feed_62 zFu x1 x2 x3 x4 x5 0 g else some (-1, g))) (by omega) ?_ ?_ (s := 0) (by omega) rfl
    · intro m g1 e
      subst e
      show fb_X12_feed_6 _ _ _ _ _ _ _ _ g1 = _
      unfold fb_X12_feed_6 f_X12_feed_44
      rw [if_pos (by decide), show gI g1 526 2 = Int32.ofNat T.1 from hg.1, es, qi_add, show (240 : Int32) = Int32.ofNat 240 from rfl]
      simp (disch := omega) only [qi_le]
    · intro m k g1 hk e ih
      subst e
      have hb := mB20_lt (x1 := x1) (x2 := x2) (x3 := x3) (x4 := x4) (x5 := x5) (k := k)
      have ih2 := ih g1 rfl
      show fb_X12_feed_6 _ _ _ _ _ _ _ _ g1 = _
      unfold fb_X12_feed_6 f_X12_feed_35
      rw [if_neg (show ¬ (20 : Int32) ≤ Int32.ofNat k by rw [show (20 : Int32) = Int32.ofNat 20 from rfl, qi_le (by omega) (by omega)]; omega), m_byteOf hk, qB_s, show Int32.ofNat k + 1 = Int32.ofNat (k + 1) from qi_add k 1]
      have e1 : mSum (fun k => mC1 (mB20 x1 x2 x3 x4 x5 k)) (k + 1) = mSum (fun k => mC1 (mB20 x1 x2 x3 x4 x5 k)) k + mC1 (mB20 x1 x2 x3 x4 x5 k) := rfl
      have ih3 : f_X12_feed_6 m x1 x2 x3 x4 x5 (Int32.ofNat (mSum (fun k => mC1 (mB20 x1 x2 x3 x4 x5 k)) (k + 1))) (Int32.ofNat (k + 1)) g1 = _ := ih2
      rw [e1, ← qi_add] at ih3
      unfold mC1 at ih3
      by_cases c : mB20 x1 x2 x3 x4 x5 k = 0
      · rw [if_pos (show Int32.ofNat (mB20 x1 x2 x3 x4 x5 k) = 0 by rw [c]; rfl)]
        simp only [if_pos c] at ih3
        exact ih3
      · rw [if_neg (show ¬ Int32.ofNat (mB20 x1 x2 x3 x4 x5 k) = (0 : Int32) from q_ne (d := 0) (by omega) (by omega) c)]
        simp only [if_neg c] at ih3
        exact ih3
  by_cases hn : T.1 + (mCn x1 + mCn x2 + mCn x3 + mCn x4 + mCn x5) ≤ 240
  · have hl := mApp_l (b := mB20 x1 x2 x3 x4 x5) (T := T)
    refine ⟨Int32.ofNat (mApp (mB20 x1 x2 x3 x4 x5) T 20).1, mApp (mB20 x1 x2 x3 x4 x5) T 20, mApp_ok hT (fun k => mB20_lt) 20 (by rw [es]; exact hn), fun g hg => ?_, fun g hg => ?_⟩
    · rw [xs g hg, if_pos hn]
      have l4 : ∀ (x : Int32) (T : mTk), (mAp4 x T).1 = T.1 + mCn x := fun x T => by unfold mAp4 mCn; rw [mAp1_l, mAp1_l, mAp1_l, mAp1_l]; omega
      obtain ⟨g1, ze1, h1, f1⟩ := x_add4 (x := x1) (by omega) hg
      obtain ⟨g2, ze2, h2, f2⟩ := x_add4 (x := x2) (by rw [l4]; omega) h1
      obtain ⟨g3, ze3, h3, f3⟩ := x_add4 (x := x3) (by rw [l4, l4]; omega) h2
      obtain ⟨g4, ze4, h4, f4⟩ := x_add4 (x := x4) (by rw [l4, l4, l4]; omega) h3
      obtain ⟨g5, ze5, h5, f5⟩ := x_add4 (x := x5) (by rw [l4, l4, l4, l4]; omega) h4
      have h5 : vTpX (mApp (mB20 x1 x2 x3 x4 x5) T 20) g5 := h5
      refine ⟨g5, ?_, h5, (((f1.tr f2).tr f3).tr f4).tr f5⟩
      unfold f_X9_length
      rw [ze1, qB_s, ze2, qB_s, ze3, qB_s, ze4, qB_s, ze5, qB_s, qB_s, show gI g5 1 1 = _ from h5.1]
    · rw [ms g hg, if_pos hn]
      refine q_loop (F := fun m k g => f_X12_feed_62 m x1 x2 x3 x4 x5 (Int32.ofNat k) g) (N := 20) (Inv := fun k g1 => vTpM (mApp (mB20 x1 x2 x3 x4 x5) T k) g1 ∧ qF sAD g g1) (R := fun w => ∃ g', w = some (Int32.ofNat (mApp (mB20 x1 x2 x3 x4 x5) T 20).1, g') ∧ vTpM (mApp (mB20 x1 x2 x3 x4 x5) T 20) g' ∧ qF sAD g g') (by omega) ?_ ?_ (s := 0) (by omega) ⟨hg, qF.rfl'⟩
      · intro m g1 ⟨h1, f1⟩
        refine ⟨g1, ?_, h1, f1⟩
        show fb_X12_feed_62 _ _ _ _ _ _ _ g1 = _
        unfold fb_X12_feed_62 f_X12_feed_115
        rw [if_pos (by decide), show gI g1 526 2 = _ from h1.1]
      · intro m k g1 hk ⟨h1, f1⟩ ih
        have hb := mB20_lt (x1 := x1) (x2 := x2) (x3 := x3) (x4 := x4) (x5 := x5) (k := k)
        have hmono : mSum (fun k => mC1 (mB20 x1 x2 x3 x4 x5 k)) (k + 1) ≤ mSum (fun k => mC1 (mB20 x1 x2 x3 x4 x5 k)) 20 := by
          have mono : ∀ d, mSum (fun k => mC1 (mB20 x1 x2 x3 x4 x5 k)) (k + 1) ≤ mSum (fun k => mC1 (mB20 x1 x2 x3 x4 x5 k)) (k + 1 + d) := fun d => by
            induction d with
            | zero => exact Nat.le_refl _
            | succ d ihd => exact Nat.le_trans ihd (Nat.le_add_right _ _)
          have := mono (20 - (k + 1))
          rwa [show k + 1 + (20 - (k + 1)) = 20 by omega] at this
        have e1 : mSum (fun k => mC1 (mB20 x1 x2 x3 x4 x5 k)) (k + 1) = mSum (fun k => mC1 (mB20 x1 x2 x3 x4 x5 k)) k + mC1 (mB20 x1 x2 x3 x4 x5 k) := rfl
        have hlk := hl k
        show ∃ g', fb_X12_feed_62 _ _ _ _ _ _ _ g1 = _ ∧ _
        unfold fb_X12_feed_62 f_X12_feed_109
        rw [if_neg (show ¬ (20 : Int32) ≤ Int32.ofNat k by rw [show (20 : Int32) = Int32.ofNat 20 from rfl, qi_le (by omega) (by omega)]; omega), m_byteOf hk, qB_s, show Int32.ofNat k + 1 = Int32.ofNat (k + 1) from qi_add k 1]
        by_cases c : mB20 x1 x2 x3 x4 x5 k = 0
        · rw [if_pos (show Int32.ofNat (mB20 x1 x2 x3 x4 x5 k) = 0 by rw [c]; rfl)]
          refine ih g1 ⟨?_, f1⟩
          show vTpM (mAp1 (mB20 x1 x2 x3 x4 x5 k) (mApp (mB20 x1 x2 x3 x4 x5) T k)) g1
          unfold mAp1
          rw [if_pos c]
          exact h1
        · have hc1 : mC1 (mB20 x1 x2 x3 x4 x5 k) = 1 := if_neg c
          generalize hU : mApp (mB20 x1 x2 x3 x4 x5) T k = U at *
          rw [if_neg (show ¬ Int32.ofNat (mB20 x1 x2 x3 x4 x5 k) = (0 : Int32) from q_ne (d := 0) (by omega) (by omega) c), show gI g1 526 2 = Int32.ofNat U.1 from h1.1, if_pos (qi_zib (by omega) (by omega)), qi_ix (by omega), show gI (gsI g1 527 U.1 (Int32.ofNat (mB20 x1 x2 x3 x4 x5 k))) 526 2 + 1 = Int32.ofNat (U.1 + 1) by rw [show gI (gsI g1 527 U.1 (Int32.ofNat (mB20 x1 x2 x3 x4 x5 k))) 526 2 = Int32.ofNat U.1 from (qs_In (by omega)).trans h1.1]; exact qi_add _ 1]
          refine ih _ ⟨?_, (f1.sI (Or.inr rfl)).sI (Or.inl ⟨rfl, rfl⟩)⟩
          show vTpM (mAp1 (mB20 x1 x2 x3 x4 x5 k) (mApp (mB20 x1 x2 x3 x4 x5) T k)) _
          rw [hU]
          unfold mAp1
          rw [if_neg c]
          refine ⟨qs_Ie, fun i hi => ?_⟩
          have hi : i < U.1 + 1 := hi
          rw [qs_In (by omega)]
          show _ = Int32.ofNat (if i = U.1 then mB20 x1 x2 x3 x4 x5 k else U.2 i)
          by_cases e : i = U.1
          · rw [if_pos e, e, qs_Ie]
          · rw [if_neg e, qs_In (by omega)]; exact h1.2 i (by omega)
  · exact ⟨-1, T, hT, fun g hg => ⟨g, by rw [xs g hg, if_neg hn], hg, qF.rfl'⟩, fun g hg => ⟨g, by rw [ms g hg, if_neg hn], hg, qF.rfl'⟩⟩
theorem d_end (hT : mTpOk T) (x : Int32) : ∃ v T', mTpOk T' ∧ (∀ g, vTpX T g → ∃ g', f_X11_end x g = some (v, g') ∧ vTpX T' g' ∧ qF sAB g g') ∧ (∀ g, vTpM T g → ∃ g', f_X12_end x g = some (v, g') ∧ vTpM T' g' ∧ qF sAD g g') := by
  have h240 := hT.1
  by_cases q : mHas (T.1 + 1) x
  · obtain ⟨k, hk, rfl⟩ := q
    have c1 : ¬ Int32.ofNat k < (0 : Int32) := by rw [show (0 : Int32) = Int32.ofNat 0 from rfl, qi_lt (by omega) (by omega)]; omega
    have c2 : Int32.ofNat k ≤ Int32.ofNat T.1 := by rw [qi_le (by omega) (by omega)]; omega
    refine ⟨1, (k, T.2), ⟨by show k ≤ 240; omega, fun i hi => hT.2 i (by have : i < k := hi; omega)⟩, fun g hg => ⟨gsI g 1 1 (Int32.ofNat k), ?_, ⟨qs_Ie, fun i hi => ?_⟩, qF.rfl'.sI (Or.inl ⟨rfl, rfl⟩)⟩, fun g hg => ⟨gsI g 526 2 (Int32.ofNat k), ?_, ⟨qs_Ie, fun i hi => ?_⟩, qF.rfl'.sI (Or.inl ⟨rfl, rfl⟩)⟩⟩
    · unfold f_X11_end f_X9_length f_X9_cutTo
      rw [if_neg c1, qB_s, show gI g 1 1 = Int32.ofNat T.1 from hg.1, if_pos c2, qB_s]
    · have hi : i < k := hi
      rw [qs_In (by omega)]; exact hg.2 i (by omega)
    · unfold f_X12_end
      rw [if_neg c1, show gI g 526 2 = Int32.ofNat T.1 from hg.1, if_pos c2]
    · have hi : i < k := hi
      rw [qs_In (by omega)]; exact hg.2 i (by omega)
  · refine ⟨0, T, hT, fun g hg => ⟨g, ?_, hg, qF.rfl'⟩, fun g hg => ⟨g, ?_, hg, qF.rfl'⟩⟩
    · unfold f_X11_end f_X9_length
      by_cases t : x < 0
      · rw [if_pos t]
      · rw [if_neg t, qB_s, show gI g 1 1 = Int32.ofNat T.1 from hg.1, if_neg (Int32.not_le.mpr (q_lt' (by omega) q t))]
    · unfold f_X12_end
      by_cases t : x < 0
      · rw [if_pos t]
      · rw [if_neg t, show gI g 526 2 = Int32.ofNat T.1 from hg.1, if_neg (Int32.not_le.mpr (q_lt' (by omega) q t))]
end AN
