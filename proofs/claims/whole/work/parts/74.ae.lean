/-! ===== the reference: what is ahead of a NIGHT; YEARS on both sides ===== -/
section AE
variable {C : mC} {lw : mLaw} {A : mA} {g : zSg} {J : Int64}
theorem m_ahead3 {J1 J2 J3 : Int64} (e1 : mJn J = J1) (e2 : mJn J1 = J2) (e3 : mJn J2 = J3) (hC : mWf C) (h0 : 0 < C.1) (hA : mLf 999 C A.1 ∧ mLz C A.1) (hJ : g.2.2.1 526 36 = J) (h : vAM C lw A g) : ∃ g', f_X12_drawNight_25 g = some ((), g') ∧ vAM C lw (mAh3 C A.1 J1 J2 J3, A.2) g' ∧ g'.2.2.1 526 36 = J3 ∧ qF sYM g g' := by
  have hP := hC.1
  have hS := hC.2.1
  have hS1 : 1 ≤ C.2.1 := (hC.2.2.2.2.2.2 h0).2.1
  have hw : 0 < mW C := by have := (hC.2.2.2.2.2.2 h0).2.2.1; omega
  have h49 : A.1 49 < 64 := hA.1.1.2.2.2.2.1
  have h48 : A.1 48 < 64 := hA.1.1.2.2.2.1
  have hc : mDr J1 C.2.1 < C.2.1 := mDr_lt hS1
  have ok1 := mTu_ok hC hc hA
  have z48 : ix (48 : Int32) = 48 := rfl
  have zz48 : zib (48 : Int32) 235 = true := by decide
  unfold f_X12_drawNight_25
  rw [show gI g 526 26 = Int32.ofNat C.2.1 from h.1.2.2.2.2.1, m_draw hS1 (by omega) hJ, e1, qB_s]
  have h1 := h.Jx (x := J1)
  have f1 : qF sYM g (gsJ g 526 36 J1) := qF.rfl'.sJ (Or.inr ⟨rfl, rfl⟩) (Or.inr ⟨rfl, rfl⟩)
  have j1 : (gsJ g 526 36 J1).2.2.1 526 36 = J1 := qs_Je
  generalize gsJ g 526 36 J1 = g1 at *
  have key1 : ∃ g2, (zB (f_X12_isRaw (Int32.ofNat (mDr J1 C.2.1)) g1) (fun v4 g5 => (if v4 = 0 then f_X12_drawNight_57 (0) (gI g1 543 48) (48) g5 else f_X12_drawNight_57 (1 <<< ((Int32.ofNat (mDr J1 C.2.1)) &&& 31)) (gI g1 543 48) (48) g5))) = (zB (f_X12_draw (gI g2 526 25) g2) (fun v2 g3 => (if zib (0 + v2) 235 = true then (zB (f_X12_draw 4 g3) (fun v6 g7 => (zB (f_X12_beside (gI g3 543 (ix (0 + v2))) v6 g7) (fun v9 g10 => (if ¬ v9 = (-1) then f_X12_drawNight_110 (v9) (0 + v2) g10 else (if zib (0 + v2) 235 = true then f_X12_drawNight_110 (gI g10 543 (ix (0 + v2))) (0 + v2) g10 else none)))))) else none))) ∧ vAM C lw (mTu C A.1 (mDr J1 C.2.1), A.2) g2 ∧ g2.2.2.1 526 36 = J1 ∧ qF sYM g1 g2 := by
    generalize mDr J1 C.2.1 = c at *
    rw [m_isRaw (h1.vi (i := 49) (by omega)) (by omega) (by omega), qB_s, show gI g1 543 48 = Int32.ofNat (A.1 48) from h1.vi (by omega)]
    unfold mTu
    cases hr : (A.1 49).testBit c
    · rw [if_neg (show ¬ mB (!false) = 0 by decide), if_neg (show ¬ false = true by decide)]
      refine ⟨gsI g1 543 48 (Int32.ofNat (A.1 48 ^^^ (1 <<< c))), ?_, h1.set (i := 48) (by omega), j1, qF.rfl'.sI (Or.inl rfl)⟩
      unfold f_X12_drawNight_57
      have e48 : Int32.ofNat (A.1 48) ^^^ (1 <<< (Int32.ofNat c &&& 31)) = Int32.ofNat (A.1 48 ^^^ (1 <<< c)) := by
        show Int32.ofNat (A.1 48) ^^^ (Int32.ofNat 1 <<< (Int32.ofNat c &&& Int32.ofNat 31)) = _
        rw [qi_shl (by omega), qi_xor]
      rw [if_pos zz48, z48, e48]
    · rw [if_pos (show mB (!true) = 0 from rfl), if_pos rfl]
      refine ⟨gsI g1 543 48 (Int32.ofNat (A.1 48)), ?_, ?_, j1, qF.rfl'.sI (Or.inl rfl)⟩
      · unfold f_X12_drawNight_57
        have e48 : Int32.ofNat (A.1 48) ^^^ (0 : Int32) = Int32.ofNat (A.1 48) := by
          show Int32.ofNat (A.1 48) ^^^ Int32.ofNat 0 = _
          rw [qi_xor, Nat.xor_zero]
        rw [if_pos zz48, z48, e48]
      · have h2 := h1.set (i := 48) (v := A.1 48) (by omega)
        rw [mSet_id] at h2
        exact h2
  obtain ⟨g2, ze2, h2, j2, f2⟩ := key1
  rw [ze2]
  have hp : mDr J2 C.1 < C.1 := mDr_lt h0
  rw [show gI g2 526 25 = Int32.ofNat C.1 from h2.1.2.2.2.1, m_draw h0 (by omega) j2, e2, qB_s]
  have h3 := h2.Jx (x := J2)
  have f3 : qF sYM g2 (gsJ g2 526 36 J2) := qF.rfl'.sJ (Or.inr ⟨rfl, rfl⟩) (Or.inr ⟨rfl, rfl⟩)
  have j3 : (gsJ g2 526 36 J2).2.2.1 526 36 = J2 := qs_Je
  generalize gsJ g2 526 36 J2 = g3 at *
  have hlp : mTu C A.1 (mDr J1 C.2.1) (mDr J2 C.1) < mCells C := ok1.1.1.1.1 _ hp
  have h51 : mTu C A.1 (mDr J1 C.2.1) 51 ≤ 999 := ok1.1.1.1.2.2.2.2.2.2.1
  unfold mAh3
  generalize mTu C A.1 (mDr J1 C.2.1) = L1 at *
  generalize hpp : mDr J2 C.1 = p at *
  have ze0 : (0 : Int32) + Int32.ofNat p = Int32.ofNat p := by show Int32.ofNat 0 + Int32.ofNat p = _; rw [qi_add, Nat.zero_add]
  rw [ze0, if_pos (qi_zib (by omega) (by omega)), qi_ix (by omega), show gI g3 543 p = Int32.ofNat (L1 p) from h3.vi (by omega)]
  rw [show (4 : Int32) = Int32.ofNat 4 from rfl, m_draw (by omega) (by omega) j3, e3, qB_s]
  have h4 := h3.Jx (x := J3)
  have f4 : qF sYM g3 (gsJ g3 526 36 J3) := qF.rfl'.sJ (Or.inr ⟨rfl, rfl⟩) (Or.inr ⟨rfl, rfl⟩)
  have j4 : (gsJ g3 526 36 J3).2.2.1 526 36 = J3 := qs_Je
  generalize gsJ g3 526 36 J3 = g4 at *
  have hw4 : mDr J3 4 < 4 := mDr_lt (by omega)
  generalize mDr J3 4 = w at *
  rw [m_beside h4.1 hC hw hlp hw4, qB_s, if_pos (qi_zib (by omega) (by omega))]
  have fin : ∀ (l : Nat) (x : Int32), x = Int32.ofNat l → ∃ g', f_X12_drawNight_110 x (Int32.ofNat p) g4 = some ((), g') ∧ vAM C lw (mOa (mSet L1 p l), A.2) g' ∧ g'.2.2.1 526 36 = J3 ∧ qF sYM g g' := fun l x hx => by
    subst hx
    have h5 := h4.set (i := p) (v := l) (by omega)
    have h5' := h5.set (i := 51) (v := min 999 (mSet L1 p l 51 + 1)) (by omega)
    refine ⟨gsI (gsI g4 543 p (Int32.ofNat l)) 543 51 (Int32.ofNat (min 999 (mSet L1 p l 51 + 1))), ?_, h5', j4, (((((f1.tr f2).tr f3).tr f4)).sI (Or.inl rfl)).sI (Or.inl rfl)⟩
    unfold f_X12_drawNight_110
    have e : imin 999 (gI (gsI g4 543 p (Int32.ofNat l)) 543 51 + 1) = Int32.ofNat (min 999 (mSet L1 p l 51 + 1)) := by
      show imin (Int32.ofNat 999) ((gsI g4 543 p (Int32.ofNat l)).2.1 543 51 + Int32.ofNat 1) = _
      rw [show (gsI g4 543 p (Int32.ofNat l)).2.1 543 51 = Int32.ofNat (mSet L1 p l 51) from h5.vi (by omega), qi_add, qi_imin (by omega) (by rw [mSet_n (by omega)]; omega)]
    rw [if_pos (qi_zib (by omega) (by omega)), qi_ix (by omega), e]
  unfold mPl
  cases hb : mBes (mW C) (mH C) (L1 p) w with
  | none =>
    rw [if_neg (show ¬ ¬ mOpt none = -1 from fun w => w rfl)]
    obtain ⟨g', k1, k2, k3, k4⟩ := fin (L1 p) (gI g4 543 p) (h4.vi (by omega))
    rw [mSet_id] at k2
    exact ⟨g', k1, k2, k3, k4⟩
  | some l =>
    have h30 := hC.cells
    have hll : l < mCells C := (mBes_some hw hlp hb).1
    have hne : ¬ mOpt (some l) = (-1 : Int32) := by
      show ¬ (Int32.ofNat l = - Int32.ofNat 1)
      rw [qi_ne1 (by omega) (by omega) (by omega)]
      exact not_false
    rw [if_pos hne]
    exact fin l _ rfl
theorem m_ahead2 (hC : mWf C) (h0 : 0 < C.1) (hA : mLf 999 C A.1 ∧ mLz C A.1) (hJ : g.2.2.1 526 36 = J) (h : vAM C lw A g) : ∃ g', f_X12_drawNight_25 g = some ((), g') ∧ vAM C lw ((mAh2 C A.1 J).1, A.2) g' ∧ g'.2.2.1 526 36 = (mAh2 C A.1 J).2 ∧ qF sYM g g' := m_ahead3 rfl rfl rfl hC h0 hA hJ h
theorem m_ahead {gu : Int32} (hC : mWf C) (h0 : 0 < C.1) (hA : mLf 999 C A.1 ∧ mLz C A.1) (hJ : g.2.2.1 526 36 = J) (hgu : g.2.1 526 31 = gu) (h : vAM C lw A g) : ∃ g', f_X12_drawNight g = some ((), g') ∧ vAM C lw ((mAh C gu A.1 J).1, A.2) g' ∧ g'.2.2.1 526 36 = (mAh C gu A.1 J).2 ∧ qF sYM g g' := by
  unfold f_X12_drawNight mAh
  rw [show (10 : Int32) = Int32.ofNat 10 from rfl, m_draw (by omega) (by omega) hJ, qB_s]
  have h1 := h.Jx (x := mJn J)
  have f1 : qF sYM g (gsJ g 526 36 (mJn J)) := qF.rfl'.sJ (Or.inr ⟨rfl, rfl⟩) (Or.inr ⟨rfl, rfl⟩)
  have j1 : (gsJ g 526 36 (mJn J)).2.2.1 526 36 = mJn J := qs_Je
  have u1 : gI (gsJ g 526 36 (mJn J)) 526 31 = gu := hgu
  rw [u1]
  generalize gsJ g 526 36 (mJn J) = g1 at *
  by_cases q : gu ≤ Int32.ofNat (mDr (mJn J) 10)
  · rw [if_pos q, if_pos q]
    obtain ⟨g2, ze, h2, j2, f2⟩ := m_ahead2 hC h0 hA j1 h1
    exact ⟨g2, ze, h2, j2, f1.tr f2⟩
  · rw [if_neg q, if_neg q, show (4 : Int32) = Int32.ofNat 4 from rfl, m_draw (by omega) (by omega) j1, qB_s]
    have h2 := (h1.Jx (x := mJn (mJn J))).set (i := 50) (v := mDr (mJn (mJn J)) 4) (by omega)
    have j2 : (gsI (gsJ g1 526 36 (mJn (mJn J))) 543 50 (Int32.ofNat (mDr (mJn (mJn J)) 4))).2.2.1 526 36 = mJn (mJn J) := qs_Je
    have f2 : qF sYM g1 (gsI (gsJ g1 526 36 (mJn (mJn J))) 543 50 (Int32.ofNat (mDr (mJn (mJn J)) 4))) := (qF.rfl'.sJ (Or.inr ⟨rfl, rfl⟩) (Or.inr ⟨rfl, rfl⟩)).sI (Or.inl rfl)
    obtain ⟨g3, ze, h3, j3, f3⟩ := m_ahead2 hC h0 (A := (mSet A.1 50 (mDr (mJn (mJn J)) 4), A.2)) ⟨hA.1.wind hC (mDr_lt (by omega)), hA.2.set (by omega)⟩ j2 h2
    exact ⟨g3, ze, h3, j3, (f1.tr f2).tr f3⟩
/-- one NIGHT of YEARS, k of them -/
def mYs (C : mC) (lw : mLaw) (gu : Int32) (B : mA × Int64) : mA × Int64 := (mNg C lw ((mAh C gu (mPush B.1 B.1.1).1 B.2).1, (mPush B.1 B.1.1).2), (mAh C gu (mPush B.1 B.1.1).1 B.2).2)
def mYr (C : mC) (lw : mLaw) (gu : Int32) (A : mA) (J : Int64) : Nat → mA × Int64
  | 0 => (A, J)
  | k + 1 => mYs C lw gu (mYr C lw gu A J k)
theorem mYr_s {gu : Int32} {k : Nat} : mYr C lw gu A J (k + 1) = mYs C lw gu (mYr C lw gu A J k) := rfl
theorem mYs_e {gu : Int32} {B : mA × Int64} {R : mL × Int64} (hR : R = mAh C gu (mPush B.1 B.1.1).1 B.2) : mYs C lw gu B = (mNg C lw (R.1, (mPush B.1 B.1.1).2), R.2) := by
  rw [hR]
  rfl
theorem mYs_ok {gu : Int32} {B : mA × Int64} (hC : mWf C) (h0 : 0 < C.1) (h : mAk C B.1) (h53 : B.1.1 53 + 1 ≤ 999) : mAk C (mYs C lw gu B).1 ∧ (mYs C lw gu B).1.1 53 = B.1.1 53 + 1 := by
  have hp := h.push
  have ha := mAh_ok (gu := gu) (J := B.2) (L := (mPush B.1 B.1.1).1) hC h0 ⟨hp.1, hp.2.1⟩
  have ep : (mPush B.1 B.1.1).1 53 = B.1.1 53 := rfl
  obtain ⟨R, hR⟩ : ∃ R, R = mAh C gu (mPush B.1 B.1.1).1 B.2 := ⟨_, rfl⟩
  rw [mYs_e hR]
  rw [← hR] at ha
  clear hR
  have hq := hp.now ha.1.1 ha.1.2 ha.2
  have e53 : R.1 53 = B.1.1 53 := ha.2.trans ep
  refine ⟨hq.night (lw := lw) hC (by show R.1 53 + 1 ≤ 999; rw [e53]; exact h53) (fun L0 m0 U0 e => by
    rw [show m0 = _ from mPush_hd L0 m0 U0 e]
    exact ha.2.symm), ?_⟩
  show mNight C lw R.1 53 = _
  rw [mNight_53, e53]
theorem mYr_ok {gu : Int32} (hC : mWf C) (h0 : 0 < C.1) (h : mAk C A) : ∀ k, A.1 53 + k ≤ 999 → mAk C (mYr C lw gu A J k).1 ∧ (mYr C lw gu A J k).1.1 53 = A.1 53 + k := by
  intro k
  induction k with
  | zero => intro _; exact ⟨h, rfl⟩
  | succ k ih =>
    intro hk
    obtain ⟨h1, h2⟩ := ih (by omega)
    rw [mYr_s]
    generalize mYr C lw gu A J k = B at *
    obtain ⟨q1, q2⟩ := mYs_ok (lw := lw) (gu := gu) hC h0 h1 (by omega)
    exact ⟨q1, by omega⟩
theorem sFX_Y {a k : Nat} (h : sYX a k) : sFX a k := by unfold sYX at h; unfold sFX; omega
theorem sFM_Y {a k : Nat} (h : sYM a k) : sFM a k := by unfold sYM at h; unfold sFM; omega
theorem vAX.yr {gu : Int32} {B : mA × Int64} (hC : mWf C) (h0 : 0 < C.1) (hB : mAk C B.1) (hJ : g.2.2.1 0 14 = B.2) (hgu : g.2.1 0 13 = gu) (h : vAX C lw B.1 g) : ∃ g1 g2 g3, f_X6_remember 39 g = some ((), g1) ∧ f_X11_drawWhatIsAhead g1 = some ((), g2) ∧ f_X11_passNight g2 = some ((), g3) ∧ vAX C lw (mYs C lw gu B).1 g3 ∧ g3.2.2.1 0 14 = (mYs C lw gu B).2 ∧ qF sFX g g3 := by
  have hp := hB.push
  have ha := mAh_ok (gu := gu) (J := B.2) (L := (mPush B.1 B.1.1).1) hC h0 ⟨hp.1, hp.2.1⟩
  obtain ⟨g2, ze2, h2, f2⟩ := h.push
  have j2 : g2.2.2.1 0 14 = B.2 := by rw [f2.2.2.1 _ _ (by unfold sAX; omega)]; exact hJ
  have u2 : g2.2.1 0 13 = gu := by rw [f2.2.1 _ _ (by unfold sAX; omega)]; exact hgu
  obtain ⟨g3, ze3, h3, j3, f3⟩ := x_ahead (gu := gu) (A := mPush B.1 B.1.1) hC h0 ⟨hp.1, hp.2.1⟩ j2 u2 h2
  obtain ⟨R, hR⟩ : ∃ R, R = mAh C gu (mPush B.1 B.1.1).1 B.2 := ⟨_, rfl⟩
  rw [mYs_e hR]
  rw [← hR] at ha h3 j3
  clear hR
  have hq := hp.now ha.1.1 ha.1.2 ha.2
  obtain ⟨g4, ze4, h4, f4⟩ := h3.night hC h0 hq.1 hq.2.2.1 (fun L0 m0 U0 e => by
    rw [show m0 = _ from mPush_hd L0 m0 U0 e]
    exact ha.2.symm)
  refine ⟨g2, g3, g4, ze2, ze3, ze4, h4, ?_, ((f2.mono fun a k w => sFX_A w).tr (f3.mono fun a k w => sFX_Y w)).tr (f4.mono fun a k w => sFX_N w)⟩
  rw [f4.2.2.1 _ _ (by unfold sNX sP sN sW; omega)]
  exact j3
theorem vAM.yr {gu : Int32} {B : mA × Int64} (hC : mWf C) (h0 : 0 < C.1) (hB : mAk C B.1) (hJ : g.2.2.1 526 36 = B.2) (hgu : g.2.1 526 31 = gu) (h : vAM C lw B.1 g) : ∃ g1 g2 g3, f_X12_keep g = some ((), g1) ∧ f_X12_drawNight g1 = some ((), g2) ∧ f_X12_passNight g2 = some ((), g3) ∧ vAM C lw (mYs C lw gu B).1 g3 ∧ g3.2.2.1 526 36 = (mYs C lw gu B).2 ∧ qF sFM g g3 := by
  have hp := hB.push
  have ha := mAh_ok (gu := gu) (J := B.2) (L := (mPush B.1 B.1.1).1) hC h0 ⟨hp.1, hp.2.1⟩
  obtain ⟨g2, ze2, h2, f2⟩ := h.push hB.2.2.2.2.1
  have j2 : g2.2.2.1 526 36 = B.2 := by rw [f2.2.2.1 _ _ (by unfold sAM; omega)]; exact hJ
  have u2 : g2.2.1 526 31 = gu := by rw [f2.2.1 _ _ (by unfold sAM; omega)]; exact hgu
  obtain ⟨g3, ze3, h3, j3, f3⟩ := m_ahead (gu := gu) (A := mPush B.1 B.1.1) hC h0 ⟨hp.1, hp.2.1⟩ j2 u2 h2
  obtain ⟨R, hR⟩ : ∃ R, R = mAh C gu (mPush B.1 B.1.1).1 B.2 := ⟨_, rfl⟩
  rw [mYs_e hR]
  rw [← hR] at ha h3 j3
  clear hR
  have hq := hp.now ha.1.1 ha.1.2 ha.2
  obtain ⟨g4, ze4, h4, f4⟩ := h3.night hC h0 hq.1 hq.2.2.1
  refine ⟨g2, g3, g4, ze2, ze3, ze4, h4, ?_, ((f2.mono fun a k w => sFM_A w).tr (f3.mono fun a k w => sFM_Y w)).tr (f4.mono fun a k w => sFM_N w)⟩
  rw [f4.2.2.1 _ _ (by unfold sMp sV; omega)]
  exact j3
theorem x_years_l {n : Nat} {gu : Int32} (hC : mWf C) (h0 : 0 < C.1) (hA : mAk C A) (hn : n ≤ 60) (h53 : A.1 53 + n ≤ 999) (hJ : g.2.2.1 0 14 = J) (hgu : g.2.1 0 13 = gu) (h : vAX C lw A g) : ∃ g', f_X11_years_46 zFu (Int32.ofNat n) 0 g = some (Int32.ofNat (A.1 53 + n), g') ∧ vAX C lw (mYr C lw gu A J n).1 g' ∧ qF sFX g g' := by
  refine q_loop (F := fun m k g => f_X11_years_46 m (Int32.ofNat n) (Int32.ofNat k) g) (N := n) (Inv := fun k g1 => vAX C lw (mYr C lw gu A J k).1 g1 ∧ g1.2.2.1 0 14 = (mYr C lw gu A J k).2 ∧ qF sFX g g1) (R := fun o => ∃ g', o = some (Int32.ofNat (A.1 53 + n), g') ∧ vAX C lw (mYr C lw gu A J n).1 g' ∧ qF sFX g g') (by omega) ?_ ?_ (s := 0) (by omega) ⟨h, hJ, qF.rfl'⟩
  · intro m g1 ⟨h1, j1, f1⟩
    have e53 := (mYr_ok (lw := lw) (gu := gu) (J := J) hC h0 hA n h53).2
    generalize mYr C lw gu A J n = B at *
    refine ⟨g1, ?_, h1, f1⟩
    show fb_X11_years_46 _ (Int32.ofNat n) (Int32.ofNat n) g1 = _
    unfold fb_X11_years_46 f_X11_years_77
    rw [if_pos (show Int32.ofNat n ≤ Int32.ofNat n by rw [qi_le (by omega) (by omega)]; exact Nat.le_refl n), show gI g1 39 9 = Int32.ofNat (B.1.1 53) from h1.v53, e53]
  · intro m k g1 hk ⟨h1, j1, f1⟩ ih
    have ho := (mYr_ok (lw := lw) (gu := gu) (J := J) hC h0 hA k (by omega)).1
    rw [mYr_s] at ih
    generalize mYr C lw gu A J k = B at *
    obtain ⟨g2, g3, g4, ze2, ze3, ze4, h4, j4, f4⟩ := h1.yr hC h0 ho j1 (show g1.2.1 0 13 = gu by rw [f1.2.1 _ _ (by unfold sFX SX; omega)]; exact hgu)
    show ∃ g', fb_X11_years_46 _ (Int32.ofNat n) (Int32.ofNat k) g1 = _ ∧ _
    unfold fb_X11_years_46
    rw [if_neg (show ¬ Int32.ofNat n ≤ Int32.ofNat k by rw [qi_le (by omega) (by omega)]; omega), ze2, qB_s, ze3, qB_s, ze4, qB_s, show Int32.ofNat k + 1 = Int32.ofNat (k + 1) from qi_add k 1]
    exact ih g4 ⟨h4, j4, f1.tr f4⟩
theorem m_years_l {n : Nat} {gu : Int32} (hC : mWf C) (h0 : 0 < C.1) (hA : mAk C A) (hn : n ≤ 60) (h53 : A.1 53 + n ≤ 999) (hJ : g.2.2.1 526 36 = J) (hgu : g.2.1 526 31 = gu) (h : vAM C lw A g) : ∃ g', f_X12_years_25 zFu (Int32.ofNat n) 0 g = some (Int32.ofNat (A.1 53 + n), g') ∧ vAM C lw (mYr C lw gu A J n).1 g' ∧ qF sFM g g' := by
  refine q_loop (F := fun m k g => f_X12_years_25 m (Int32.ofNat n) (Int32.ofNat k) g) (N := n) (Inv := fun k g1 => vAM C lw (mYr C lw gu A J k).1 g1 ∧ g1.2.2.1 526 36 = (mYr C lw gu A J k).2 ∧ qF sFM g g1) (R := fun o => ∃ g', o = some (Int32.ofNat (A.1 53 + n), g') ∧ vAM C lw (mYr C lw gu A J n).1 g' ∧ qF sFM g g') (by omega) ?_ ?_ (s := 0) (by omega) ⟨h, hJ, qF.rfl'⟩
  · intro m g1 ⟨h1, j1, f1⟩
    have e53 := (mYr_ok (lw := lw) (gu := gu) (J := J) hC h0 hA n h53).2
    generalize mYr C lw gu A J n = B at *
    refine ⟨g1, ?_, h1, f1⟩
    show fb_X12_years_25 _ (Int32.ofNat n) (Int32.ofNat n) g1 = _
    unfold fb_X12_years_25 f_X12_years_49
    rw [if_pos (show Int32.ofNat n ≤ Int32.ofNat n by rw [qi_le (by omega) (by omega)]; exact Nat.le_refl n), show gI g1 543 53 = Int32.ofNat (B.1.1 53) from h1.vi (by omega), e53]
  · intro m k g1 hk ⟨h1, j1, f1⟩ ih
    have ho := (mYr_ok (lw := lw) (gu := gu) (J := J) hC h0 hA k (by omega)).1
    rw [mYr_s] at ih
    generalize mYr C lw gu A J k = B at *
    obtain ⟨g2, g3, g4, ze2, ze3, ze4, h4, j4, f4⟩ := h1.yr hC h0 ho j1 (show g1.2.1 526 31 = gu by rw [f1.2.1 _ _ (by unfold sFM SY; omega)]; exact hgu)
    show ∃ g', fb_X12_years_25 _ (Int32.ofNat n) (Int32.ofNat k) g1 = _ ∧ _
    unfold fb_X12_years_25
    rw [if_neg (show ¬ Int32.ofNat n ≤ Int32.ofNat k by rw [qi_le (by omega) (by omega)]; omega), ze2, qB_s, ze3, qB_s, ze4, qB_s, show Int32.ofNat k + 1 = Int32.ofNat (k + 1) from qi_add k 1]
    exact ih g4 ⟨h4, j4, f1.tr f4⟩
theorem d_years (hC : mWf C) (hA : mAk C A) (gu x : Int32) (J : Int64) : ∃ v A', mAk C A' ∧ (∀ g, vAX C lw A g → g.2.1 0 13 = gu → ∃ g', f_X11_years x J g = some (v, g') ∧ vAX C lw A' g' ∧ qF sFX g g') ∧ (∀ g, vAM C lw A g → g.2.1 526 31 = gu → ∃ g', f_X12_years x J g = some (v, g') ∧ vAM C lw A' g' ∧ qF sFM g g') := by
  have hP := hC.1
  have h30 := hC.cells
  have hz := (hA.q hC).cells0
  have h53 : A.1 53 ≤ 999 := hA.1.1.2.2.2.2.2.2.2.2
  by_cases h0 : 0 < C.1
  · have hz1 : ¬ Int32.ofNat (mCells C) = (0 : Int32) := by
      rw [show (0 : Int32) = Int32.ofNat 0 from rfl, qi_inj (by omega) (by omega)]
      exact fun w => hz.mp w h0
    rcases q_rng (x := x) (hi := 60) (by omega) with ⟨k, k1, k2, rfl⟩ | hx
    · have c1 : ¬ Int32.ofNat k < (1 : Int32) := by rw [show (1 : Int32) = Int32.ofNat 1 from rfl, qi_lt (by omega) (by omega)]; omega
      have c2' : ¬ (60 : Int32) < Int32.ofNat k := by rw [show (60 : Int32) = Int32.ofNat 60 from rfl, qi_lt (by omega) (by omega)]; omega
      have i1 : ∀ g, f_X12_in (Int32.ofNat k) 1 60 g = some (1, g) := fun g => by unfold f_X12_in; rw [if_neg c1, if_neg c2']
      have es : Int32.ofNat (A.1 53) + Int32.ofNat k = Int32.ofNat (A.1 53 + k) := qi_add _ _
      by_cases q : A.1 53 + k ≤ 999
      · have d1 : Int32.ofNat (A.1 53 + k) ≤ (999 : Int32) := by rw [show (999 : Int32) = Int32.ofNat 999 from rfl, qi_le (by omega) (by omega)]; exact q
        have d2 : ¬ (999 : Int32) < Int32.ofNat (A.1 53 + k) := by rw [show (999 : Int32) = Int32.ofNat 999 from rfl, qi_lt (by omega) (by omega)]; omega
        refine ⟨Int32.ofNat (A.1 53 + k), (mYr C lw gu A J k).1, (mYr_ok hC h0 hA k q).1, fun g hg hu => ?_, fun g hg hu => ?_⟩
        · obtain ⟨g', ze, h', f⟩ := x_years_l (gu := gu) hC h0 hA k2 q (J := J) (g := gsJ g 0 14 J) qs_Je hu hg.Jx
          have f0 : qF sFX g (gsJ g 0 14 J) := qF.rfl'.sJ (Or.inr (Or.inr ⟨rfl, rfl⟩)) (Or.inl ⟨rfl, rfl⟩)
          refine ⟨g', ?_, h', f0.tr f⟩
          unfold f_X11_years
          rw [x_isTold hg.1 hP, if_pos h0, qB_s, if_neg (by decide), if_neg c1, if_neg c2', show gI g 39 9 = Int32.ofNat (A.1 53) from hg.v53, es, if_pos d1]
          exact ze
        · obtain ⟨g', ze, h', f⟩ := m_years_l (gu := gu) hC h0 hA k2 q (J := J) (g := gsJ g 526 36 J) qs_Je hu hg.Jx
          have f0 : qF sFM g (gsJ g 526 36 J) := qF.rfl'.sJ (by unfold sFM; omega) (Or.inr ⟨rfl, rfl⟩)
          refine ⟨g', ?_, h', f0.tr f⟩
          unfold f_X12_years f_X12_areNights
          rw [show gI g 526 27 = Int32.ofNat (mCells C) from hg.v27, if_neg hz1, i1, qB_s, if_neg (by decide), show gI g 543 53 = Int32.ofNat (A.1 53) from hg.vi (by omega), es, if_neg d2, qB_s, if_pos (by decide)]
          exact ze
      · have d1 : ¬ Int32.ofNat (A.1 53 + k) ≤ (999 : Int32) := by rw [show (999 : Int32) = Int32.ofNat 999 from rfl, qi_le (by omega) (by omega)]; exact q
        have d2 : (999 : Int32) < Int32.ofNat (A.1 53 + k) := by rw [show (999 : Int32) = Int32.ofNat 999 from rfl, qi_lt (by omega) (by omega)]; omega
        refine ⟨-1, A, hA, fun g hg hu => ⟨g, ?_, hg, qF.rfl'⟩, fun g hg hu => ⟨g, ?_, hg, qF.rfl'⟩⟩
        · unfold f_X11_years
          rw [x_isTold hg.1 hP, if_pos h0, qB_s, if_neg (by decide), if_neg c1, if_neg c2', show gI g 39 9 = Int32.ofNat (A.1 53) from hg.v53, es, if_neg d1]
        · unfold f_X12_years f_X12_areNights
          rw [show gI g 526 27 = Int32.ofNat (mCells C) from hg.v27, if_neg hz1, i1, qB_s, if_neg (by decide), show gI g 543 53 = Int32.ofNat (A.1 53) from hg.vi (by omega), es, if_pos d2, qB_s, if_neg (by decide)]
    · refine ⟨-1, A, hA, fun g hg hu => ⟨g, ?_, hg, qF.rfl'⟩, fun g hg hu => ⟨g, ?_, hg, qF.rfl'⟩⟩
      · unfold f_X11_years
        rw [x_isTold hg.1 hP, if_pos h0, qB_s, if_neg (by decide)]
        rcases hx with hx | ⟨hx1, hx2⟩
        · rw [if_pos hx]
        · rw [if_neg hx1, if_pos (show (60 : Int32) < x from hx2)]
      · unfold f_X12_years f_X12_areNights f_X12_in
        rw [show gI g 526 27 = Int32.ofNat (mCells C) from hg.v27, if_neg hz1]
        rcases hx with hx | ⟨hx1, hx2⟩
        · rw [if_pos hx, qB_s, if_pos rfl, qB_s, if_neg (by decide)]
        · rw [if_neg hx1, if_pos (show (60 : Int32) < x from hx2), qB_s, if_pos rfl, qB_s, if_neg (by decide)]
  · have hz1 : Int32.ofNat (mCells C) = (0 : Int32) := by rw [hz.mpr h0]; rfl
    refine ⟨-1, A, hA, fun g hg hu => ⟨g, ?_, hg, qF.rfl'⟩, fun g hg hu => ⟨g, ?_, hg, qF.rfl'⟩⟩
    · unfold f_X11_years
      rw [x_isTold hg.1 hP, if_neg h0, qB_s, if_pos rfl]
    · unfold f_X12_years
      rw [show gI g 526 27 = Int32.ofNat (mCells C) from hg.v27, if_pos hz1]
end AE
