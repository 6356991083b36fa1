/-! ===== both sides: YEARS ===== -/
def mJn (J : Int64) : Int64 := J * 6364136223846793005 + 1442695040888963407
def mDr (J : Int64) (j : Nat) : Nat := (J.toUInt64.toNat >>> 33) % j
theorem mDr_lt {J : Int64} {j : Nat} (hj : 0 < j) : mDr J j < j := Nat.mod_lt _ hj
theorem ql_ofI {j : Nat} (hj : j < 2147483648) : (Int32.ofNat j).toInt64 = Int64.ofNat j := by
  refine Int64.toInt_inj.mp ?_
  rw [Int32.toInt_toInt64, qj_of, qj_toInt (by omega) (by omega), Int64.toInt_ofNat_of_lt (by omega)]
theorem ql_shr {J : Int64} : lushr J 33 = Int64.ofNat (J.toUInt64.toNat >>> 33) := by
  have h1 : lushr J 33 = (J.toUInt64 >>> (33 : UInt64)).toInt64 := rfl
  have h2 : (J.toUInt64 >>> (33 : UInt64)) = UInt64.ofNat (J.toUInt64.toNat >>> 33) := by
    refine UInt64.toNat_inj.mp ?_
    rw [UInt64.toNat_shiftRight, UInt64.toNat_ofNat_of_lt' ]
    · rfl
    · have := UInt64.toNat_lt J.toUInt64
      rw [Nat.shiftRight_eq_div_pow]
      exact Nat.lt_of_le_of_lt (Nat.div_le_self _ _) this
  rw [h1, h2]
  rfl
theorem ql_shr_lt {J : Int64} : J.toUInt64.toNat >>> 33 < 2147483648 := by
  have := UInt64.toNat_lt J.toUInt64
  rw [Nat.shiftRight_eq_div_pow]
  omega
theorem q_draw {J : Int64} {j : Nat} (h0 : 0 < j) (hj : j < 1000) : (lmod (lushr J 33) (Int32.ofNat j).toInt64).toInt32 = Int32.ofNat (mDr J j) := by
  have hs := @ql_shr_lt J
  rw [ql_shr, ql_ofI (by omega)]
  unfold lmod mDr
  generalize J.toUInt64.toNat >>> 33 = x at *
  have ze1 : Int64.ofNat x / Int64.ofNat j = Int64.ofNat (x / j) := (Int64.ofNat_div (by omega) (by omega)).symm
  have ze2 : Int64.ofNat (x / j) * Int64.ofNat j = Int64.ofNat (x / j * j) := (Int64.ofNat_mul _ _).symm
  have ze3 : Int64.ofNat x - Int64.ofNat (x / j * j) = Int64.ofNat (x - x / j * j) := (Int64.ofNat_sub _ _ (Nat.div_mul_le_self x j)).symm
  have ze4 : x - x / j * j = x % j := by
    have h1 := Nat.div_add_mod x j
    have h2 : j * (x / j) = x / j * j := Nat.mul_comm _ _
    omega
  rw [ze1, ze2, ze3, ze4]
  exact Int64.toInt32_ofNat' 
theorem q_nz {j : Nat} (h0 : 0 < j) (hj : j < 1000) : ¬ (Int32.ofNat j).toInt64 = 0 := by
  rw [ql_ofI (by omega)]
  intro e
  have h := congrArg Int64.toInt e
  rw [Int64.toInt_ofNat_of_lt (by omega)] at h
  have h2 : (0 : Int64).toInt = 0 := rfl
  omega
section AD
variable {C : mC} {lw : mLaw} {A : mA} {g : zSg} {J : Int64}
theorem x_draw {j : Nat} (h0 : 0 < j) (hj : j < 1000) (hJ : g.2.2.1 0 14 = J) : f_X11_draw (Int32.ofNat j) g = some (Int32.ofNat (mDr (mJn J) j), gsJ g 0 14 (mJn J)) := by
  unfold f_X11_draw
  rw [if_pos (show (1 : Int32) ≤ Int32.ofNat j by rw [show (1 : Int32) = Int32.ofNat 1 from rfl, qi_le (by omega) (by omega)]; exact h0), if_neg (q_nz h0 hj)]
  rw [show gJ g 0 14 = J from hJ]
  rw [show gJ (gsJ g 0 14 (J * 6364136223846793005 + 1442695040888963407)) 0 14 = mJn J from qs_Je, q_draw h0 hj]
  rfl
theorem m_draw {j : Nat} (h0 : 0 < j) (hj : j < 1000) (hJ : g.2.2.1 526 36 = J) : f_X12_draw (Int32.ofNat j) g = some (Int32.ofNat (mDr (mJn J) j), gsJ g 526 36 (mJn J)) := by
  unfold f_X12_draw
  rw [if_neg (q_nz h0 hj)]
  rw [show gJ g 526 36 = J from hJ]
  rw [show gJ (gsJ g 526 36 (J * 6364136223846793005 + 1442695040888963407)) 526 36 = mJn J from qs_Je, q_draw h0 hj]
  rfl
theorem vAX.fr {S : Nat → Nat → Prop} {g' : zSg} (h : vAX C lw A g) (hf : qF S g g') (hS : ∀ a k, (a = 3 ∨ a = 5 ∨ a = 17 ∨ a = 22 ∨ a = 27 ∨ a = 32 ∨ a = 19 ∨ a = 24 ∨ a = 29 ∨ a = 34 ∨ (38 ≤ a ∧ a ≤ 422)) → ¬ S a k) : vAX C lw A g' := by
  obtain ⟨h1, h2, ⟨hs, hr, ⟨x, hx, x1, x2⟩, h6, hU, hI⟩, h4⟩ := h
  exact ⟨h1.fr hf (fun k => hS _ _ (by omega)) (fun k => hS _ _ (by omega)), h2.fr hf (fun b k hb => hS _ _ (by omega)), ⟨hs.fr hf (fun b k q1 q2 => hS _ _ (by omega)), fun j k q1 q2 q3 => (hf.2.1 _ _ (hS _ _ (by omega))).trans (hr j k q1 q2 q3), ⟨x, hx, (hf.2.1 _ _ (hS _ _ (by omega))).trans x1, x2.fr hf (fun b k q1 q2 => hS _ _ (by omega)) (fun k => hS _ _ (by omega))⟩, (hf.2.1 _ _ (hS _ _ (by omega))).trans h6, hU, hI.fr hf (hS _ _ (by omega)) (fun b k q1 q2 => hS _ _ (by omega))⟩, fun j hj => (hf.2.1 _ _ (hS _ _ (by omega))).trans (h4 j hj)⟩
theorem vAM.fr {S : Nat → Nat → Prop} {g' : zSg} (h : vAM C lw A g) (hf : qF S g g') (hS : ∀ a k, ((528 ≤ a ∧ a ≤ 534) ∨ a = 540 ∨ a = 541 ∨ a = 542 ∨ a = 543 ∨ a = 544 ∨ a = 547 ∨ a = 552 ∨ (a = 526 ∧ (k = 25 ∨ k = 26 ∨ k = 27 ∨ k = 30 ∨ k = 35 ∨ k = 47))) → ¬ S a k) : vAM C lw A g' := by
  obtain ⟨h1, h2, h3, h4, h5, h6, h7⟩ := h
  exact ⟨h1.fr hf (fun k => hS _ _ (by omega)) (fun k => hS _ _ (by omega)) (fun k => hS _ _ (by omega)) (fun k _ _ => hS _ _ (by omega)), h2.fr hf (hS _ _ (by omega)) (fun b k q1 q2 => hS _ _ (by omega)), h3.cp (fun i hi => hf.2.1 _ _ (hS _ _ (by omega))), (hf.2.1 _ _ (hS _ _ (by omega))).trans h4, h5.fr (fun j hj => hf.2.1 _ _ (hS _ _ (by omega))), h6.fr hf (hS _ _ (by omega)) (fun k => hS _ _ (by omega)), fun j hj => (hf.2.1 _ _ (hS _ _ (by omega))).trans (h7 j hj)⟩
theorem vAX.Jx {x : Int64} (h : vAX C lw A g) : vAX C lw A (gsJ g 0 14 x) := h.fr (S := fun a k => a = 0 ∧ k = 14) (qF.rfl'.sJ ⟨rfl, rfl⟩ (Or.inl ⟨rfl, rfl⟩)) (fun a k w => by omega)
theorem vAM.Jx {x : Int64} (h : vAM C lw A g) : vAM C lw A (gsJ g 526 36 x) := h.fr (S := fun a k => a = 526 ∧ k = 36) (qF.rfl'.sJ ⟨rfl, rfl⟩ (Or.inr ⟨rfl, rfl⟩)) (fun a k w => by omega)
/-- what is ahead of a NIGHT -/
def mPl (C : mC) (L : mL) (p w : Nat) : mL := match mBes (mW C) (mH C) (L p) w with
  | none => L
  | some l => mSet L p l
def mOa (L : mL) : mL := mSet L 51 (min 999 (L 51 + 1))
def mTu (C : mC) (L : mL) (c : Nat) : mL := if (L 49).testBit c then L else mSet L 48 (L 48 ^^^ (1 <<< c))
def mAh3 (C : mC) (L : mL) (J1 J2 J3 : Int64) : mL := mOa (mPl C (mTu C L (mDr J1 C.2.1)) (mDr J2 C.1) (mDr J3 4))
def mAh2 (C : mC) (L : mL) (J : Int64) : mL × Int64 := (mAh3 C L (mJn J) (mJn (mJn J)) (mJn (mJn (mJn J))), mJn (mJn (mJn J)))
def mAh (C : mC) (gu : Int32) (L : mL) (J : Int64) : mL × Int64 :=
  if gu ≤ Int32.ofNat (mDr (mJn J) 10) then mAh2 C L (mJn J) else mAh2 C (mSet L 50 (mDr (mJn (mJn J)) 4)) (mJn (mJn J))
theorem mTu_ok {c : Nat} (hC : mWf C) (hc : c < C.2.1) {L : mL} (h : mLf 999 C L ∧ mLz C L) : (mLf 999 C (mTu C L c) ∧ mLz C (mTu C L c)) ∧ mTu C L c 53 = L 53 := by
  unfold mTu
  cases hr : (L 49).testBit c
  · rw [if_neg (by decide)]
    exact ⟨⟨h.1.turn hC hc hr, h.2.set (by omega)⟩, mSet_n (by omega)⟩
  · rw [if_pos rfl]; exact ⟨h, rfl⟩
theorem mPl_ok {p w : Nat} (hC : mWf C) (hp : p < C.1) {L : mL} (h : mLf 999 C L ∧ mLz C L) : (mLf 999 C (mPl C L p w) ∧ mLz C (mPl C L p w)) ∧ mPl C L p w 53 = L 53 := by
  have hP := hC.1
  have hw : 0 < mW C := by have := (hC.2.2.2.2.2.2 (by omega)).2.2.1; omega
  cases hl : mBes (mW C) (mH C) (L p) w with
  | none =>
    have e : mPl C L p w = L := by unfold mPl; rw [hl]
    rw [e]; exact ⟨h, rfl⟩
  | some l =>
    have e : mPl C L p w = mSet L p l := by unfold mPl; rw [hl]
    rw [e]
    exact ⟨⟨h.1.place hC hp (mBes_some hw (h.1.1.1 p hp) hl).1, h.2.set (by omega)⟩, mSet_n (by omega)⟩
theorem mOa_ok (hC : mWf C) {L : mL} (h : mLf 999 C L ∧ mLz C L) : (mLf 999 C (mOa L) ∧ mLz C (mOa L)) ∧ mOa L 53 = L 53 :=
  ⟨⟨h.1.num hC (Or.inl rfl) (by omega), h.2.set (by omega)⟩, mSet_n (by omega)⟩
theorem mAh3_ok (hC : mWf C) (h0 : 0 < C.1) (J1 J2 J3 : Int64) {L : mL} (h : mLf 999 C L ∧ mLz C L) : (mLf 999 C (mAh3 C L J1 J2 J3) ∧ mLz C (mAh3 C L J1 J2 J3)) ∧ mAh3 C L J1 J2 J3 53 = L 53 := by
  have hS1 : 1 ≤ C.2.1 := (hC.2.2.2.2.2.2 h0).2.1
  have h1 := mTu_ok hC (mDr_lt (J := J1) hS1) h
  have h2 := mPl_ok (p := mDr J2 C.1) (w := mDr J3 4) hC (mDr_lt h0) h1.1
  have h3 := mOa_ok hC h2.1
  exact ⟨h3.1, by rw [← h1.2, ← h2.2]; exact h3.2⟩
theorem mAh2_ok (hC : mWf C) (h0 : 0 < C.1) {L : mL} (h : mLf 999 C L ∧ mLz C L) : (mLf 999 C (mAh2 C L J).1 ∧ mLz C (mAh2 C L J).1) ∧ (mAh2 C L J).1 53 = L 53 := mAh3_ok hC h0 _ _ _ h
theorem mAh_ok {gu : Int32} (hC : mWf C) (h0 : 0 < C.1) {L : mL} (h : mLf 999 C L ∧ mLz C L) : (mLf 999 C (mAh C gu L J).1 ∧ mLz C (mAh C gu L J).1) ∧ (mAh C gu L J).1 53 = L 53 := by
  by_cases q : gu ≤ Int32.ofNat (mDr (mJn J) 10)
  · have e : mAh C gu L J = mAh2 C L (mJn J) := if_pos q
    rw [e]
    exact mAh2_ok (J := mJn J) hC h0 h
  · have e : mAh C gu L J = mAh2 C (mSet L 50 (mDr (mJn (mJn J)) 4)) (mJn (mJn J)) := if_neg q
    rw [e]
    have h1 := mAh2_ok (J := mJn (mJn J)) hC h0 (L := mSet L 50 (mDr (mJn (mJn J)) 4)) ⟨h.1.wind hC (mDr_lt (by omega)), h.2.set (by omega)⟩
    exact ⟨h1.1, by rw [h1.2, mSet_n (by omega)]⟩
/-- the class -/
def sYX (a k : Nat) : Prop := (39 ≤ a ∧ a ≤ 41) ∨ (a = 0 ∧ k = 14)
def sYM (a k : Nat) : Prop := a = 543 ∨ (a = 526 ∧ k = 36)
theorem x_ahead3 {J1 J2 J3 : Int64} (e1 : mJn J = J1) (e2 : mJn J1 = J2) (e3 : mJn J2 = J3) (hC : mWf C) (h0 : 0 < C.1) (hA : mLf 999 C A.1 ∧ mLz C A.1) (hJ : g.2.2.1 0 14 = J) (h : vAX C lw A g) : ∃ g', f_X11_drawWhatIsAhead_25 g = some ((), g') ∧ vAX C lw (mAh3 C A.1 J1 J2 J3, A.2) g' ∧ g'.2.2.1 0 14 = J3 ∧ qF sYX g g' := by
  have hP := hC.1
  have hS := hC.2.1
  have hS1 : 1 ≤ C.2.1 := (hC.2.2.2.2.2.2 h0).2.1
  have hw : 0 < mW C := by have := (hC.2.2.2.2.2.2 h0).2.2.1; omega
  have h49 : A.1 49 < 64 := hA.1.1.2.2.2.2.1
  have hc : mDr J1 C.2.1 < C.2.1 := mDr_lt hS1
  have ok1 := mTu_ok hC hc hA
  unfold f_X11_drawWhatIsAhead_25
  rw [x_secrets h.1, qB_s, x_draw hS1 (by omega) hJ, e1, qB_s]
  have h1 := h.Jx (x := J1)
  have f1 : qF sYX g (gsJ g 0 14 J1) := qF.rfl'.sJ (Or.inr ⟨rfl, rfl⟩) (Or.inl ⟨rfl, rfl⟩)
  have j1 : (gsJ g 0 14 J1).2.2.1 0 14 = J1 := qs_Je
  generalize gsJ g 0 14 J1 = g1 at *
  -- the SECRET
  have key1 : ∃ g2, (zB (f_X8_isCured 39 (Int32.ofNat (mDr J1 C.2.1)) g1) (fun v7 g8 => (if ¬ v7 = 0 then f_X11_drawWhatIsAhead_56 g8 else (zB (f_X8_turnHanging 39 (Int32.ofNat (mDr J1 C.2.1)) g8) (fun v11 g12 => f_X11_drawWhatIsAhead_56 g12))))) = f_X11_drawWhatIsAhead_56 g2 ∧ vAX C lw (mTu C A.1 (mDr J1 C.2.1), A.2) g2 ∧ g2.2.2.1 0 14 = J1 ∧ qF sYX g1 g2 := by
    generalize mDr J1 C.2.1 = c at *
    rw [x_isCured h1.2.2.1.1.1.2.2.2.1 (by omega) (by omega), qB_s]
    unfold mTu
    cases hr : (A.1 49).testBit c
    · rw [if_neg (show ¬ ¬ mB false = 0 from fun w => w rfl), if_neg (show ¬ false = true by decide)]
      refine ⟨gsI g1 39 4 (Int32.ofNat (A.1 48 ^^^ (1 <<< c))), ?_, h1.fld (i := 48) (by omega) hP, j1, qF.rfl'.sI (Or.inl ⟨by omega, by omega⟩)⟩
      unfold f_X8_turnHanging
      have e48 : gI g1 39 4 ^^^ (1 <<< (Int32.ofNat c &&& 31)) = Int32.ofNat (A.1 48 ^^^ (1 <<< c)) := by
        show g1.2.1 39 4 ^^^ (Int32.ofNat 1 <<< (Int32.ofNat c &&& Int32.ofNat 31)) = _
        rw [show g1.2.1 39 4 = Int32.ofNat (A.1 48) from h1.2.2.1.1.1.2.2.1, qi_shl (by omega), qi_xor]
      rw [e48, qB_s]
    · rw [if_pos (show ¬ mB true = 0 by decide), if_pos rfl]
      exact ⟨g1, rfl, h1, j1, qF.rfl'⟩
  obtain ⟨g2, ze2, h2, j2, f2⟩ := key1
  rw [ze2]
  unfold f_X11_drawWhatIsAhead_56
  have hp : mDr J2 C.1 < C.1 := mDr_lt h0
  rw [x_persons h2.1, qB_s, x_draw h0 (by omega) j2, e2, qB_s]
  have h3 := h2.Jx (x := J2)
  have f3 : qF sYX g2 (gsJ g2 0 14 J2) := qF.rfl'.sJ (Or.inr ⟨rfl, rfl⟩) (Or.inl ⟨rfl, rfl⟩)
  have j3 : (gsJ g2 0 14 J2).2.2.1 0 14 = J2 := qs_Je
  generalize gsJ g2 0 14 J2 = g3 at *
  have hlp : mTu C A.1 (mDr J1 C.2.1) (mDr J2 C.1) < mCells C := ok1.1.1.1.1 _ hp
  unfold mAh3
  generalize mTu C A.1 (mDr J1 C.2.1) = L1 at *
  generalize hpp : mDr J2 C.1 = p at *
  rw [q_get40 (by omega), show g3.2.1 41 p = Int32.ofNat (L1 p) from h3.2.2.1.1.1.1 p (by omega), qB_s]
  rw [show (4 : Int32) = Int32.ofNat 4 from rfl, x_draw (by omega) (by omega) j3, e3, qB_s]
  have h4 := h3.Jx (x := J3)
  have f4 : qF sYX g3 (gsJ g3 0 14 J3) := qF.rfl'.sJ (Or.inr ⟨rfl, rfl⟩) (Or.inl ⟨rfl, rfl⟩)
  have j4 : (gsJ g3 0 14 J3).2.2.1 0 14 = J3 := qs_Je
  generalize gsJ g3 0 14 J3 = g4 at *
  have hw4 : mDr J3 4 < 4 := mDr_lt (by omega)
  generalize mDr J3 4 = w at *
  rw [x_beside h4.1 hC hw hlp hw4, qB_s]
  have fin : ∀ (L : mL) (g5 : zSg), vAX C lw (L, A.2) g5 → L 51 ≤ 999 → g5.2.2.1 0 14 = J3 → qF sYX g4 g5 → ∃ g', f_X11_drawWhatIsAhead_109 g5 = some ((), g') ∧ vAX C lw (mOa L, A.2) g' ∧ g'.2.2.1 0 14 = J3 ∧ qF sYX g g' := fun L g5 h5 h51 j5 f5 => by
    refine ⟨gsI g5 39 7 (Int32.ofNat (min 999 (L 51 + 1))), ?_, h5.fld (i := 51) (by omega) hP, j5, ((((f1.tr f2).tr f3).tr f4).tr f5).sI (Or.inl ⟨by omega, by omega⟩)⟩
    unfold f_X11_drawWhatIsAhead_109
    have e : imin 999 (gI g5 39 7 + 1) = Int32.ofNat (min 999 (L 51 + 1)) := by
      show imin (Int32.ofNat 999) (g5.2.1 39 7 + Int32.ofNat 1) = _
      rw [show g5.2.1 39 7 = Int32.ofNat (L 51) from h5.v51, qi_add, qi_imin (by omega) (by omega)]
    rw [e]
  have h51 : L1 51 ≤ 999 := ok1.1.1.1.2.2.2.2.2.2.1
  unfold mPl
  cases hb : mBes (mW C) (mH C) (L1 p) w with
  | none =>
    rw [if_pos (show mOpt none = -1 from rfl)]
    exact fin L1 g4 h4 h51 j4 qF.rfl'
  | some l =>
    have h30 := hC.cells
    have hll : l < mCells C := (mBes_some hw hlp hb).1
    have hne : ¬ mOpt (some l) = (-1 : Int32) := by
      show ¬ (Int32.ofNat l = - Int32.ofNat 1)
      rw [qi_ne1 (by omega) (by omega) (by omega)]
      exact not_false
    rw [if_neg hne, q_set40 (by omega), qB_s]
    exact fin (mSet L1 p l) (gsI g4 41 p (Int32.ofNat l)) (h4.place (p := p) (v := l) (by omega)) (by rw [mSet_n (by omega)]; exact h51) j4 (qF.rfl'.sI (Or.inl ⟨by omega, by omega⟩))
theorem x_ahead2 (hC : mWf C) (h0 : 0 < C.1) (hA : mLf 999 C A.1 ∧ mLz C A.1) (hJ : g.2.2.1 0 14 = J) (h : vAX C lw A g) : ∃ g', f_X11_drawWhatIsAhead_25 g = some ((), g') ∧ vAX C lw ((mAh2 C A.1 J).1, A.2) g' ∧ g'.2.2.1 0 14 = (mAh2 C A.1 J).2 ∧ qF sYX g g' := x_ahead3 rfl rfl rfl hC h0 hA hJ h
theorem x_ahead {gu : Int32} (hC : mWf C) (h0 : 0 < C.1) (hA : mLf 999 C A.1 ∧ mLz C A.1) (hJ : g.2.2.1 0 14 = J) (hgu : g.2.1 0 13 = gu) (h : vAX C lw A g) : ∃ g', f_X11_drawWhatIsAhead g = some ((), g') ∧ vAX C lw ((mAh C gu A.1 J).1, A.2) g' ∧ g'.2.2.1 0 14 = (mAh C gu A.1 J).2 ∧ qF sYX g g' := by
  unfold f_X11_drawWhatIsAhead mAh
  rw [show (10 : Int32) = Int32.ofNat 10 from rfl, x_draw (by omega) (by omega) hJ, qB_s]
  have h1 := h.Jx (x := mJn J)
  have f1 : qF sYX g (gsJ g 0 14 (mJn J)) := qF.rfl'.sJ (Or.inr ⟨rfl, rfl⟩) (Or.inl ⟨rfl, rfl⟩)
  have j1 : (gsJ g 0 14 (mJn J)).2.2.1 0 14 = mJn J := qs_Je
  have u1 : gI (gsJ g 0 14 (mJn J)) 0 13 = gu := hgu
  rw [u1]
  generalize gsJ g 0 14 (mJn J) = g1 at *
  by_cases q : gu ≤ Int32.ofNat (mDr (mJn J) 10)
  · rw [if_pos q, if_pos q]
    obtain ⟨g2, ze, h2, j2, f2⟩ := x_ahead2 hC h0 hA j1 h1
    exact ⟨g2, ze, h2, j2, f1.tr f2⟩
  · rw [if_neg q, if_neg q, show (4 : Int32) = Int32.ofNat 4 from rfl, x_draw (by omega) (by omega) j1, qB_s]
    have h2 := (h1.Jx (x := mJn (mJn J))).fld (i := 50) (v := mDr (mJn (mJn J)) 4) (by omega) hC.1
    have j2 : (gsI (gsJ g1 0 14 (mJn (mJn J))) 39 6 (Int32.ofNat (mDr (mJn (mJn J)) 4))).2.2.1 0 14 = mJn (mJn J) := qs_Je
    have f2 : qF sYX g1 (gsI (gsJ g1 0 14 (mJn (mJn J))) 39 6 (Int32.ofNat (mDr (mJn (mJn J)) 4))) := (qF.rfl'.sJ (Or.inr ⟨rfl, rfl⟩) (Or.inl ⟨rfl, rfl⟩)).sI (Or.inl ⟨by omega, by omega⟩)
    obtain ⟨g3, ze, h3, j3, f3⟩ := x_ahead2 hC h0 (A := (mSet A.1 50 (mDr (mJn (mJn J)) 4), A.2)) ⟨hA.1.wind hC (mDr_lt (by omega)), hA.2.set (by omega)⟩ j2 h2
    exact ⟨g3, ze, h3, j3, (f1.tr f2).tr f3⟩
end AD
