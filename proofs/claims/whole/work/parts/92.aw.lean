/-! ===== both sides: a LAW's CLAUSE read ===== -/
def sQM (t l Y a k : Nat) : Prop := sLM t l a k ∨ ((a = 532 ∨ a = 533 ∨ a = 534) ∧ k = Y) ∨ (a = 531 ∧ k = t)
theorem sQM_L {t l Y a k : Nat} (h : sLM t l a k) : sQM t l Y a k := Or.inl h
theorem qF.zQ {t l Y : Nat} {g g' : zSg} (h : qF (sQM t l Y) g g') : qF (sQM t 0 Y) g g' := h.mono fun a k w => by unfold sQM sLM at w ⊢; omega
section AW
variable {T : mTk} {g : zSg}
theorem vTpM.q {t l Y : Nat} {g g' : zSg} (h : vTpM T g) (hf : qF (sQM t l Y) g g') : vTpM T g' := h.fr hf (by unfold sQM sLM; omega) (fun k => by unfold sQM sLM; omega)
theorem m_251 {t Y y l : Nat} (ht : t < 5) (hY : Y < 700) (h14 : g.2.1 526 14 = Int32.ofNat t) (h30 : g.2.1 530 t = Int32.ofNat l) (h31 : g.2.1 531 t = Int32.ofNat y) : f_X12_clause_251 (Int32.ofNat Y) g = some ((), gsI (gsI g 534 Y (Int32.ofNat l)) 531 t (Int32.ofNat (y + 1))) := by
  have z5 : zib (Int32.ofNat t) 5 = true := qi_zib ht (by omega)
  have z7 : zib (Int32.ofNat Y) 700 = true := qi_zib hY (by omega)
  have et : ix (Int32.ofNat t) = t := qi_ix (by omega)
  have eY : ix (Int32.ofNat Y) = Y := qi_ix (by omega)
  have e14 : gI g 526 14 = Int32.ofNat t := h14
  have e30 : gI g 530 t = Int32.ofNat l := h30
  have b14 : gI (gsI g 534 Y (Int32.ofNat l)) 526 14 = Int32.ofNat t := (qs_In (by omega)).trans h14
  have b31 : gI (gsI g 534 Y (Int32.ofNat l)) 531 t = Int32.ofNat y := (qs_In (by omega)).trans h31
  unfold f_X12_clause_251
  simp only [e14, et, e30, eY, b14, b31, z5, z7, if_true]
  rw [show Int32.ofNat y + 1 = Int32.ofNat (y + 1) from qi_add y 1]
theorem m_184w {t Y y l P : Nat} {y2 : Int32} (ht : t < 5) (hY : Y < 700) (h14 : g.2.1 526 14 = Int32.ofNat t) (h30 : g.2.1 530 t = Int32.ofNat l) (h31 : g.2.1 531 t = Int32.ofNat y) (hw : g.2.1 526 4 = Int32.ofNat P) (hP : P < 1000) : ∃ g', f_X12_clause_184 (Int32.ofNat Y) y2 g = some ((), g') ∧ g'.2.1 526 4 = Int32.ofNat P ∧ qF (fun a k => ((a = 533 ∨ a = 534) ∧ k = Y) ∨ (a = 531 ∧ k = t)) g g' := by
  have z7 : zib (Int32.ofNat Y) 700 = true := qi_zib hY (by omega)
  have eY : ix (Int32.ofNat Y) = Y := qi_ix (by omega)
  have ze := m_251 (g := gsI g 533 Y (gI g 532 Y)) (l := l) (y := y) ht hY ((qs_In (by omega)).trans h14) ((qs_In (by omega)).trans h30) ((qs_In (by omega)).trans h31)
  have nw : ¬ gI (gsI g 533 Y (gI g 532 Y)) 526 4 = (-1 : Int32) := by
    rw [show gI (gsI g 533 Y (gI g 532 Y)) 526 4 = Int32.ofNat P from (qs_In (by omega)).trans hw]
    exact qi_ne_m1 (by omega)
  refine ⟨_, ?_, ?_, ((qF.rfl'.sI (b := 533) (j := Y) (x := gI g 532 Y) (by omega)).sI (b := 534) (j := Y) (x := Int32.ofNat l) (by omega)).sI (b := 531) (j := t) (x := Int32.ofNat (y + 1)) (by omega)⟩
  · unfold f_X12_clause_184
    rw [if_pos z7, if_pos z7, eY]
    by_cases q : y2 = 0
    · rw [if_pos q]; exact ze
    · rw [if_neg q, if_pos nw]; exact ze
  · rw [qs_In (by omega), qs_In (by omega), qs_In (by omega)]; exact hw
theorem d_qs {i0 i k : Nat} {v : mV} (hT : mTpOk T) (hi : i ≤ T.1) (hk : i0 + k ≤ i) (hk1 : 1 ≤ k) (hv : mVb v) : ∃ (ok : Bool) (P k2 : Nat) (v2 : mV), P ≤ T.1 ∧ mVb v2 ∧ (ok = true → i ≤ P ∧ i0 + k + k2 + 1 ≤ P) ∧
    (∀ g l, vTpX T g → g.2.1 1 2 = Int32.ofNat i → l + 2 ≤ i0 → g.2.1 11 2 = Int32.ofNat (l + k) → xSeg (g.2.1 13) l (l + k) 18 v → ∃ g', f_X5_conditional g = some (mB ok, g') ∧ g'.2.1 1 2 = Int32.ofNat P ∧ (ok = true → g'.2.1 11 2 = Int32.ofNat (l + k + k2 + 3) ∧ xCls (g'.2.1 13) l (l + k + k2 + 3) (mIf v v2)) ∧ qF (sLX (cond ok l 0)) g g') ∧
    (∀ g t l y, t < 5 → y < 140 → vTpM T g → vAtM i 0 t (l + k) g → l ≤ i0 → g.2.1 532 (140 * t + y) = Int32.ofNat l → g.2.1 531 t = Int32.ofNat y → mSeg t (g.2.1 528) (g.2.1 529) l (l + k) 18 v → ∃ g', f_X12_clause_184 (Int32.ofNat (140 * t + y)) 1 g = some ((), g') ∧ (ok = true → vAtM P 0 t (l + k + k2) g' ∧ g'.2.1 531 t = Int32.ofNat (y + 1) ∧ mCl1 t y l (l + k + k2) g' (mIf v v2)) ∧ (ok = false → g'.2.1 526 4 = Int32.ofNat P) ∧ qF (sQM t (cond ok l 0) (140 * t + y)) g g') := by
  have h240 := hT.1
  have hjl := mSk_le (T := T) hi
  have hjg := mSk_ge (T := T) (i := i)
  have hlt := mAt_lt (i := mSk T i) hT
  have hz : mVb (fun _ => (0 : Int)) := fun r _ => (by show (-1000000 : Int) ≤ 0 ∧ (0 : Int) ≤ 1000000; decide)
  -- the reference's first steps
  have mh : ∀ g t l y, t < 5 → y < 140 → vTpM T g → vAtM i 0 t (l + k) g → g.2.1 532 (140 * t + y) = Int32.ofNat l → g.2.1 531 t = Int32.ofNat y → ∃ g1, f_X12_clause_184 (Int32.ofNat (140 * t + y)) 1 g = (if mAtM T (mSk T i) = 63 then (if zib (gI (gsI g1 526 3 ((gI g1 526 3) + 1)) 526 14) 5 = true then (if zib (Int32.ofNat (140 * t + y)) 700 = true then (zB (f_X12_sum zDp (gsI (gsI g1 526 3 ((gI g1 526 3) + 1)) (533) (140 * t + y) (gI (gsI g1 526 3 ((gI g1 526 3) + 1)) 530 (ix (gI (gsI g1 526 3 ((gI g1 526 3) + 1)) 526 14))))) (fun v11 g12 => f_X12_clause_251 (Int32.ofNat (140 * t + y)) g12)) else none) else none) else (zB (f_X12_bad g1) (fun v14 g15 => some ((), g15)))) ∧ vTpM T g1 ∧ vAtM (mSk T i) 0 t (l + k) g1 ∧ g1.2.1 532 (140 * t + y) = Int32.ofNat l ∧ g1.2.1 531 t = Int32.ofNat y ∧ qF (sQM t (l + k) (140 * t + y)) g g1 := fun g t l y ht hy h ha h32 h31 => by
    have z7 : zib (Int32.ofNat (140 * t + y)) 700 = true := qi_zib (by omega) (by omega)
    have eY : ix (Int32.ofNat (140 * t + y)) = 140 * t + y := qi_ix (by omega)
    have F0 : qF (sQM t (l + k) (140 * t + y)) g (gsI g 533 (140 * t + y) (gI g 532 (140 * t + y))) := qF.rfl'.sI (by unfold sQM; omega)
    have hv0 := h.q F0
    have e3 : (gsI g 533 (140 * t + y) (gI g 532 (140 * t + y))).2.1 526 3 = Int32.ofNat i := (qs_In (by omega)).trans ha.1
    have e4 : (gsI g 533 (140 * t + y) (gI g 532 (140 * t + y))).2.1 526 4 = -1 := (qs_In (by omega)).trans ha.2.1
    obtain ⟨g1, ze1, p1, f1⟩ := m_look hT hv0 e3 (by omega)
    refine ⟨g1, ?_, hv0.fr f1 (by omega) (fun k => by omega), ⟨p1, (f1.2.1 _ _ (by omega)).trans e4, ?_, ?_, ?_⟩, ?_, ?_, F0.tr (f1.mono fun a k w => Or.inl (sLM_T w))⟩
    · unfold f_X12_clause_184
      rw [if_pos z7, if_pos z7, eY, if_neg (show ¬ (1 : Int32) = 0 by decide), if_neg (fun w => w e4), ze1, qB_s]
    · rw [f1.2.1 _ _ (by omega), qs_In (by omega)]; exact ha.2.2.1
    · rw [f1.2.1 _ _ (by omega), qs_In (by omega)]; exact ha.2.2.2.1
    · rw [f1.2.1 _ _ (by omega), qs_In (by omega)]; exact ha.2.2.2.2
    · rw [f1.2.1 _ _ (by omega), qs_In (by omega)]; exact h32
    · rw [f1.2.1 _ _ (by omega), qs_In (by omega)]; exact h31
  by_cases c63 : mAt T (mSk T i) = 63
  · have hin : mSk T i < T.1 := (mAt_in hT).mp (by omega)
    have em : mAtM T (mSk T i) = Int32.ofNat 63 := by rw [mAtM_eq hT (by omega) (by omega)]; exact c63
    obtain ⟨ok1, P1, k1, v1, a1, a2, aX, aM⟩ := d_sum hT 6 0 zDp (by omega) (by show _ < 24; omega) (mSk T i + 1) (by omega)
    have xgo : ∀ g l, vTpX T g → g.2.1 1 2 = Int32.ofNat i → l + 2 ≤ i0 → g.2.1 11 2 = Int32.ofNat (l + k) → ∃ g1, f_X5_conditional g = zB (f_X5_sum zDp (Int32.ofNat 0) g1) (fun v8 g9 => if ¬ v8 = 0 then zB (f_X4_add 11 (- Int32.ofNat 59) g9) (fun v12 g13 => zB (f_X4_landHere 11 (Int32.ofNat (l + k + 1)) g13) (fun v15 g16 => some (1, g16))) else some (0, g9)) ∧ vTpX T g1 ∧ g1.2.1 1 2 = Int32.ofNat (mSk T i + 1) ∧ g1.2.1 11 2 = Int32.ofNat (l + k + 2) ∧ g1.2.1 13 (l + k) = - Int32.ofNat 63 ∧ qF (sLX (l + k)) g g1 := fun g l h hp hl h11 => by
      obtain ⟨g1, ze1, p1, f1⟩ := x_take (c := 63) hT h hp hi (by omega)
      rw [if_pos c63] at p1
      rw [decide_eq_true c63] at ze1
      have q11 : g1.2.1 11 2 = Int32.ofNat (l + k) := (f1.2.1 _ _ (by unfold sTX; omega)).trans h11
      have za := x_addc (x := - Int32.ofNat 63) q11 (by omega)
      have zb := x_addc (x := 0) (g := gsI (gsI g1 13 (l + k) (- Int32.ofNat 63)) 11 2 (Int32.ofNat (l + k + 1))) (l := l + k + 1) qs_Ie (by omega)
      have F : qF (sLX (l + k)) g (gsI (gsI (gsI (gsI g1 13 (l + k) (- Int32.ofNat 63)) 11 2 (Int32.ofNat (l + k + 1))) 13 (l + k + 1) 0) 11 2 (Int32.ofNat (l + k + 1 + 1))) := ((((f1.mono fun a k w => sLX_T w).sI (by unfold sLX; omega)).sI (by unfold sLX; omega)).sI (by unfold sLX; omega)).sI (by unfold sLX; omega)
      refine ⟨_, ?_, h.l F, by rw [qs_In (by omega), qs_In (by omega), qs_In (by omega), qs_In (by omega)]; exact p1, qs_Ie, by rw [qs_In (by omega), qs_In (by omega), qs_In (by omega), qs_Ie], F⟩
      have zl : f_X4_addLeap 11 g1 = some (Int32.ofNat (l + k + 1), gsI (gsI (gsI (gsI g1 13 (l + k) (- Int32.ofNat 63)) 11 2 (Int32.ofNat (l + k + 1))) 13 (l + k + 1) 0) 11 2 (Int32.ofNat (l + k + 1 + 1))) := by
        unfold f_X4_addLeap
        rw [show (-63 : Int32) = - Int32.ofNat 63 from rfl, za, qB_s, zb, qB_s]
        show some (gI (gsI (gsI (gsI (gsI g1 13 (l + k) (- Int32.ofNat 63)) 11 2 (Int32.ofNat (l + k + 1))) 13 (l + k + 1) 0) 11 2 (Int32.ofNat (l + k + 1 + 1))) 11 2 - 1, gsI (gsI (gsI (gsI g1 13 (l + k) (- Int32.ofNat 63)) 11 2 (Int32.ofNat (l + k + 1))) 13 (l + k + 1) 0) 11 2 (Int32.ofNat (l + k + 1 + 1))) = _
        rw [show gI (gsI (gsI (gsI (gsI g1 13 (l + k) (- Int32.ofNat 63)) 11 2 (Int32.ofNat (l + k + 1))) 13 (l + k + 1) 0) 11 2 (Int32.ofNat (l + k + 1 + 1))) 11 2 - 1 = Int32.ofNat (l + k + 1) by rw [show gI (gsI (gsI (gsI (gsI g1 13 (l + k) (- Int32.ofNat 63)) 11 2 (Int32.ofNat (l + k + 1))) 13 (l + k + 1) 0) 11 2 (Int32.ofNat (l + k + 1 + 1))) 11 2 = Int32.ofNat (l + k + 1 + 1) from qs_Ie]; exact qi_sub (a := l + k + 1 + 1) (b := 1) (by omega)]
      unfold f_X5_conditional
      rw [show (63 : Int32) = Int32.ofNat 63 from rfl, ze1, qB_s, if_pos (by decide), zl, qB_s, show (-59 : Int32) = - Int32.ofNat 59 from rfl]
      rfl
    have mgo : ∀ g t l y, t < 5 → y < 140 → vTpM T g → vAtM i 0 t (l + k) g → g.2.1 532 (140 * t + y) = Int32.ofNat l → g.2.1 531 t = Int32.ofNat y → ∃ g1, f_X12_clause_184 (Int32.ofNat (140 * t + y)) 1 g = zB (f_X12_sum zDp g1) (fun v11 g12 => f_X12_clause_251 (Int32.ofNat (140 * t + y)) g12) ∧ vTpM T g1 ∧ vAtM (mSk T i + 1) 0 t (l + k) g1 ∧ g1.2.1 533 (140 * t + y) = Int32.ofNat (l + k) ∧ g1.2.1 532 (140 * t + y) = Int32.ofNat l ∧ g1.2.1 531 t = Int32.ofNat y ∧ qF (sQM t (l + k) (140 * t + y)) g g1 := fun g t l y ht hy h ha h32 h31 => by
      obtain ⟨g1, ze1, hv1, b1, d32, d31, f1⟩ := mh g t l y ht hy h ha h32 h31
      have e3 : gI g1 526 3 + 1 = Int32.ofNat (mSk T i + 1) := by rw [show gI g1 526 3 = Int32.ofNat (mSk T i) from b1.1]; exact qi_add _ 1
      have b14 : gI (gsI g1 526 3 (Int32.ofNat (mSk T i + 1))) 526 14 = Int32.ofNat t := (qs_In (by omega)).trans b1.2.2.2.1
      have b30 : gI (gsI g1 526 3 (Int32.ofNat (mSk T i + 1))) 530 t = Int32.ofNat (l + k) := (qs_In (by omega)).trans b1.2.2.2.2
      have F : qF (sQM t (l + k) (140 * t + y)) g (gsI (gsI g1 526 3 (Int32.ofNat (mSk T i + 1))) 533 (140 * t + y) (Int32.ofNat (l + k))) := (f1.sI (by unfold sQM sLM; omega)).sI (by unfold sQM; omega)
      refine ⟨_, ?_, h.q F, ⟨(qs_In (by omega)).trans qs_Ie, ?_, ?_, ?_, ?_⟩, qs_Ie, ?_, ?_, F⟩
      · rw [ze1, if_pos (show mAtM T (mSk T i) = 63 from em), e3, b14, if_pos (qi_zib ht (by omega)), if_pos (qi_zib (by omega) (by omega)), qi_ix (by omega), b30]
      · rw [qs_In (by omega), qs_In (by omega)]; exact b1.2.1
      · rw [qs_In (by omega), qs_In (by omega)]; exact b1.2.2.1
      · rw [qs_In (by omega), qs_In (by omega)]; exact b1.2.2.2.1
      · rw [qs_In (by omega), qs_In (by omega)]; exact b1.2.2.2.2
      · rw [qs_In (by omega), qs_In (by omega)]; exact d32
      · rw [qs_In (by omega), qs_In (by omega)]; exact d31
    cases ok1 with
    | false =>
      refine ⟨false, P1, 0, fun _ => 0, a1, hz, fun w => (by cases w), ?_, ?_⟩
      · intro g l h hp hl h11 hs
        obtain ⟨g1, ze, hv1, p1, q1, -, f1⟩ := xgo g l h hp hl h11
        obtain ⟨g2, ze2, p2, -, f2⟩ := aX g1 (l + k + 2) hv1 p1 (by omega) q1
        refine ⟨g2, ?_, p2, fun w => (by cases w), f1.zX.tr f2⟩
        rw [ze, ze2, qB_s, if_neg (by decide)]
        rfl
      · intro g t l y ht hy h ha hl h32 h31 hs
        obtain ⟨g1, ze, hv1, b1, b33, d32, d31, f1⟩ := mgo g t l y ht hy h ha h32 h31
        obtain ⟨g2, ze2, -, a3, f2⟩ := aM g1 t (l + k) ht hv1 b1 (by omega)
        obtain ⟨fl1, fl2, l', fl3, fl4⟩ := a3 rfl
        have F2 : qF (sQM t 0 (140 * t + y)) g g2 := f1.zQ.tr (f2.mono fun a k w => Or.inl w)
        have c31 : g2.2.1 531 t = Int32.ofNat y := (f2.2.1 _ _ (by unfold sLM; omega)).trans d31
        have ze3 := m_251 (Y := 140 * t + y) ht (by omega) fl2 fl4 c31
        refine ⟨_, ?_, fun w => (by cases w), fun _ => ?_, (F2.sI (b := 534) (j := 140 * t + y) (x := Int32.ofNat l') (by unfold sQM; omega)).sI (b := 531) (j := t) (x := Int32.ofNat (y + 1)) (by unfold sQM; omega)⟩
        · rw [ze, ze2, qB_s]
          exact ze3
        · rw [qs_In (by omega), qs_In (by omega)]; exact fl1
    | true =>
      obtain ⟨a3, a4, a5, -⟩ := a2 rfl
      refine ⟨true, P1, k1, v1, a1, a5, fun _ => ⟨by omega, by omega⟩, ?_, ?_⟩
      · intro g l h hp hl h11 hs
        obtain ⟨g1, ze, hv1, p1, q1, q63, f1⟩ := xgo g l h hp hl h11
        obtain ⟨g2, ze2, p2, r2, f2⟩ := aX g1 (l + k + 2) hv1 p1 (by omega) q1
        obtain ⟨r3, r4⟩ := r2 rfl
        have f2' : qF (sLX (l + k + 2)) g1 g2 := f2
        have ze3 := x_addc (x := - Int32.ofNat 59) r3 (by omega)
        have ze4 : f_X4_landHere 11 (Int32.ofNat (l + k + 1)) (gsI (gsI g2 13 (l + k + 2 + k1) (- Int32.ofNat 59)) 11 2 (Int32.ofNat (l + k + 2 + k1 + 1))) = some ((), gsI (gsI (gsI g2 13 (l + k + 2 + k1) (- Int32.ofNat 59)) 11 2 (Int32.ofNat (l + k + 2 + k1 + 1))) 13 (l + k + 1) (Int32.ofNat (l + k + 2 + k1 + 1))) := by
          unfold f_X4_landHere
          rw [show gI (gsI (gsI g2 13 (l + k + 2 + k1) (- Int32.ofNat 59)) 11 2 (Int32.ofNat (l + k + 2 + k1 + 1))) 11 2 = Int32.ofNat (l + k + 2 + k1 + 1) from qs_Ie]
          rw [show f_X7_set (11 + 1) (Int32.ofNat (l + k + 1)) (Int32.ofNat (l + k + 2 + k1 + 1)) (gsI (gsI g2 13 (l + k + 2 + k1) (- Int32.ofNat 59)) 11 2 (Int32.ofNat (l + k + 2 + k1 + 1))) = some ((), gsI (gsI (gsI g2 13 (l + k + 2 + k1) (- Int32.ofNat 59)) 11 2 (Int32.ofNat (l + k + 2 + k1 + 1))) 13 (l + k + 1) (Int32.ofNat (l + k + 2 + k1 + 1))) from q_set (a := 12) (n := 256) rfl (by decide) (by omega), qB_s]
        have f12 : qF (sLX (l + k)) g g2 := f1.tr (f2'.mono fun a q w => by unfold sLX at w ⊢; omega)
        have F4 : qF (sLX (l + k)) g (gsI (gsI (gsI g2 13 (l + k + 2 + k1) (- Int32.ofNat 59)) 11 2 (Int32.ofNat (l + k + 2 + k1 + 1))) 13 (l + k + 1) (Int32.ofNat (l + k + 2 + k1 + 1))) := ((f12.sI (by unfold sLX; omega)).sI (by unfold sLX; omega)).sI (by unfold sLX; omega)
        have c4 : ∀ q, q ≠ l + k + 1 → q ≠ l + k + 2 + k1 → (gsI (gsI (gsI g2 13 (l + k + 2 + k1) (- Int32.ofNat 59)) 11 2 (Int32.ofNat (l + k + 2 + k1 + 1))) 13 (l + k + 1) (Int32.ofNat (l + k + 2 + k1 + 1))).2.1 13 q = g2.2.1 13 q := fun q q1 q2 => by
          rw [qs_In (by omega), qs_In (by omega), qs_In (by omega)]
        have e59 : (gsI (gsI (gsI g2 13 (l + k + 2 + k1) (- Int32.ofNat 59)) 11 2 (Int32.ofNat (l + k + 2 + k1 + 1))) 13 (l + k + 1) (Int32.ofNat (l + k + 2 + k1 + 1))).2.1 13 (l + k + 2 + k1) = - Int32.ofNat 59 := by
          rw [qs_In (by omega), qs_In (by omega), qs_Ie]
        have e11 : (gsI (gsI (gsI g2 13 (l + k + 2 + k1) (- Int32.ofNat 59)) 11 2 (Int32.ofNat (l + k + 2 + k1 + 1))) 13 (l + k + 1) (Int32.ofNat (l + k + 2 + k1 + 1))).2.1 11 2 = Int32.ofNat (l + k + 2 + k1 + 1) := by
          rw [qs_In (by omega), qs_Ie]
        have e12 : (gsI (gsI (gsI g2 13 (l + k + 2 + k1) (- Int32.ofNat 59)) 11 2 (Int32.ofNat (l + k + 2 + k1 + 1))) 13 (l + k + 1) (Int32.ofNat (l + k + 2 + k1 + 1))).2.1 1 2 = Int32.ofNat P1 := by
          rw [qs_In (by omega), qs_In (by omega), qs_In (by omega)]; exact p2
        have ekt : (gsI (gsI (gsI g2 13 (l + k + 2 + k1) (- Int32.ofNat 59)) 11 2 (Int32.ofNat (l + k + 2 + k1 + 1))) 13 (l + k + 1) (Int32.ofNat (l + k + 2 + k1 + 1))).2.1 13 (l + k + 1) = Int32.ofNat (l + k + 2 + k1 + 1) := qs_Ie
        have ezz : f_X5_conditional g = some (1, gsI (gsI (gsI g2 13 (l + k + 2 + k1) (- Int32.ofNat 59)) 11 2 (Int32.ofNat (l + k + 2 + k1 + 1))) 13 (l + k + 1) (Int32.ofNat (l + k + 2 + k1 + 1))) := by
          rw [ze, ze2, qB_s, if_pos (by decide), ze3, qB_s, ze4, qB_s]
        generalize gsI (gsI (gsI g2 13 (l + k + 2 + k1) (- Int32.ofNat 59)) 11 2 (Int32.ofNat (l + k + 2 + k1 + 1))) 13 (l + k + 1) (Int32.ofNat (l + k + 2 + k1 + 1)) = g4 at *
        have s1 : xSeg (g4.2.1 13) l (l + k) 18 v := hs.l F4 (Nat.le_refl _)
        have s2 : xSeg (g4.2.1 13) (l + k + 2) (l + k + 2 + k1) (15 - 2 * 0) v1 := r4.cp fun q q1 q2 => c4 q (by omega) (by omega)
        have k63 : g4.2.1 13 (l + k) = - Int32.ofNat 63 := by
          rw [c4 _ (by omega) (by omega), f2'.2.1 _ _ (by unfold sLX; omega)]; exact q63
        have s3 := xCls_if s1 k63 ekt s2 e59 hv (by omega) (by omega)
        rw [show l + k + 2 + k1 + 1 = l + k + k1 + 3 by omega] at s3 e11
        exact ⟨g4, ezz, e12, fun _ => ⟨e11, s3⟩, F4.mono fun a q w => by show sLX l a q; unfold sLX at w ⊢; omega⟩
      · intro g t l y ht hy h ha hl h32 h31 hs
        obtain ⟨g1, ze, hv1, b1, b33, d32, d31, f1⟩ := mgo g t l y ht hy h ha h32 h31
        obtain ⟨g2, ze2, r2, -, f2⟩ := aM g1 t (l + k) ht hv1 b1 (by omega)
        obtain ⟨r3, r4⟩ := r2 rfl
        have f2' : qF (sLM t (l + k)) g1 g2 := f2
        have F2 : qF (sQM t (l + k) (140 * t + y)) g g2 := f1.tr (f2'.mono fun a k w => Or.inl w)
        have c31 : g2.2.1 531 t = Int32.ofNat y := (f2'.2.1 _ _ (by unfold sLM; omega)).trans d31
        have c32 : g2.2.1 532 (140 * t + y) = Int32.ofNat l := (f2'.2.1 _ _ (by unfold sLM; omega)).trans d32
        have c33 : g2.2.1 533 (140 * t + y) = Int32.ofNat (l + k) := (f2'.2.1 _ _ (by unfold sLM; omega)).trans b33
        have ze3 := m_251 (Y := 140 * t + y) ht (by omega) r3.2.2.2.1 r3.2.2.2.2 c31
        have s1 : mSeg t (g2.2.1 528) (g2.2.1 529) l (l + k) 18 v := hs.cp fun q q1 q2 => ⟨F2.2.1 _ _ (by unfold sQM sLM; omega), F2.2.1 _ _ (by unfold sQM sLM; omega)⟩
        refine ⟨gsI (gsI g2 534 (140 * t + y) (Int32.ofNat (l + k + k1))) 531 t (Int32.ofNat (y + 1)), ?_, fun _ => ⟨⟨?_, ?_, ?_, ?_, ?_⟩, qs_Ie, l + k, ?_, ?_, ?_, Or.inr ⟨by omega, 18, v, 15 - 2 * 0, v1, by omega, by omega, hv, s1.cp fun q _ _ => ⟨?_, ?_⟩, r4.cp fun q _ _ => ⟨?_, ?_⟩, rfl⟩⟩, fun w => (by cases w), ((F2.mono fun a q w => by show sQM t l (140 * t + y) a q; unfold sQM sLM at w ⊢; omega).sI (by show sQM t l (140 * t + y) _ _; unfold sQM; omega)).sI (by show sQM t l (140 * t + y) _ _; unfold sQM; omega)⟩
        · rw [ze, ze2, qB_s]; exact ze3
        · rw [qs_In (by omega), qs_In (by omega)]; exact r3.1
        · rw [qs_In (by omega), qs_In (by omega)]; exact r3.2.1
        · rw [qs_In (by omega), qs_In (by omega)]; exact r3.2.2.1
        · rw [qs_In (by omega), qs_In (by omega)]; exact r3.2.2.2.1
        · rw [qs_In (by omega), qs_In (by omega)]; exact r3.2.2.2.2
        · rw [qs_In (by omega), qs_In (by omega)]; exact c32
        · rw [qs_In (by omega), qs_In (by omega)]; exact c33
        · rw [qs_In (by omega), qs_Ie]
        · rw [qs_In (by omega), qs_In (by omega)]
        · rw [qs_In (by omega), qs_In (by omega)]
        · rw [qs_In (by omega), qs_In (by omega)]
        · rw [qs_In (by omega), qs_In (by omega)]
  · refine ⟨false, mSk T i, 0, fun _ => 0, hjl, hz, fun w => (by cases w), ?_, ?_⟩
    · intro g l h hp hl h11 hs
      obtain ⟨g1, ze1, p1, f1⟩ := x_take (c := 63) hT h hp hi (by omega)
      rw [if_neg c63] at p1
      rw [decide_eq_false c63] at ze1
      refine ⟨g1, ?_, p1, fun w => (by cases w), f1.mono fun a k w => sLX_T w⟩
      unfold f_X5_conditional
      rw [show (63 : Int32) = Int32.ofNat 63 from rfl, ze1, qB_s, if_neg (by decide)]
      rfl
    · intro g t l y ht hy h ha hl h32 h31 hs
      obtain ⟨g1, ze1, hv1, b1, d32, d31, f1⟩ := mh g t l y ht hy h ha h32 h31
      refine ⟨gsI g1 526 4 (Int32.ofNat (mSk T i)), ?_, fun w => (by cases w), fun _ => qs_Ie, f1.zQ.sI (by show sQM t 0 (140 * t + y) _ _; unfold sQM sLM; omega)⟩
      rw [ze1, if_neg (mAtM_ne (i := (mSk T i)) (c := 63) (x := 63) hT rfl (by omega) (by omega) c63), m_bad b1.2.1 b1.1, qB_s]
/-- a CONDITION read, whichever way -/
def kC (T : mTk) (j : Nat) (X : Int32 → zSg → Option (Int32 × zSg)) (M : zSg → Option (Unit × zSg)) : Prop := ∃ (ok : Bool) (P k : Nat) (v : mV), P ≤ T.1 ∧ (ok = true → j + k ≤ P ∧ 1 ≤ k ∧ mVb v) ∧ jX T 0 18 X j ok P k v ∧ jM T 0 18 263 M j ok P k v
def kX (T : mTk) (j : Nat) (ok : Bool) (P : Nat) (cv : mCv) (A : zSg → Option (Int32 × zSg)) : Prop := ∀ g l, vTpX T g → g.2.1 1 2 = Int32.ofNat j → l + 2 ≤ j → g.2.1 11 2 = Int32.ofNat l → ∃ g' l', A g = some (mB ok, g') ∧ g'.2.1 1 2 = Int32.ofNat P ∧ (ok = true → g'.2.1 11 2 = Int32.ofNat l' ∧ l' ≤ P ∧ xCls (g'.2.1 13) l l' cv) ∧ qF (sLX (cond ok l 0)) g g'
def kM (T : mTk) (j : Nat) (ok : Bool) (P : Nat) (cv : mCv) (B : Nat → zSg → Option (Unit × zSg)) : Prop := ∀ g t l y, t < 5 → y < 140 → vTpM T g → vAtM j 0 t l g → l + 2 ≤ j → g.2.1 532 (140 * t + y) = Int32.ofNat l → g.2.1 531 t = Int32.ofNat y → ∃ g' l', B (140 * t + y) g = some ((), g') ∧ (ok = true → vAtM P 0 t l' g' ∧ l' ≤ P ∧ g'.2.1 531 t = Int32.ofNat (y + 1) ∧ mCl1 t y l l' g' cv) ∧ (ok = false → g'.2.1 526 4 = Int32.ofNat P) ∧ qF (sQM t (cond ok l 0) (140 * t + y)) g g'
def qsX (g : zSg) : Option (Int32 × zSg) := zB (f_X5_conditional g) (fun v g1 => if v = 0 then some (0, g1) else some (1, g1))
theorem d_cq {j : Nat} {X : Int32 → zSg → Option (Int32 × zSg)} {M : zSg → Option (Unit × zSg)} (hT : mTpOk T) (hj : j ≤ T.1) (hc : kC T j X M) : ∃ (ok : Bool) (P : Nat) (cv : mCv), P ≤ T.1 ∧ (ok = true → j + 1 ≤ P) ∧ kOk cv ∧ kX T j ok P cv (fun g => zB (X (Int32.ofNat 0) g) (fun v g2 => if v = 0 then some (0, g2) else qsX g2)) ∧ kM T j ok P cv (fun Y g => zB (M g) (fun _ g2 => f_X12_clause_184 (Int32.ofNat Y) 1 g2)) := by
  have h240 := hT.1
  obtain ⟨ok1, P1, k1, v1, a1, a2, aX, aM⟩ := hc
  cases ok1 with
  | false =>
    refine ⟨false, P1, mNone, a1, fun w => (by cases w), kOk.nil, ?_, ?_⟩
    · intro g l h hp hl h11
      obtain ⟨g1, ze, p1, -, f1⟩ := aX g l h hp (by omega) h11
      refine ⟨g1, 0, ?_, p1, fun w => (by cases w), f1⟩
      show zB (X (Int32.ofNat 0) g) _ = _
      rw [ze, qB_s, if_pos (by decide)]
      rfl
    · intro g t l y ht hy h ha hl h32 h31
      obtain ⟨g1, ze, -, a3, f1⟩ := aM g t l ht h ha (by omega)
      obtain ⟨fl1, fl2, l', fl3, fl4⟩ := a3 rfl
      have f1' : qF (sLM t 0) g g1 := f1
      obtain ⟨g2, ze2, e4, f2⟩ := m_184w (y2 := 1) (Y := 140 * t + y) ht (by omega) fl2 fl4 ((f1'.2.1 _ _ (by unfold sLM; omega)).trans h31) fl1 (by omega)
      refine ⟨g2, 0, ?_, fun w => (by cases w), fun _ => e4, (f1'.mono fun a k w => sQM_L w).tr (f2.mono fun a k w => by show sQM t 0 (140 * t + y) a k; unfold sQM; omega)⟩
      show zB (M g) _ = _
      rw [ze, qB_s]
      exact ze2
  | true =>
    obtain ⟨a3, a4, a5⟩ := a2 rfl
    obtain ⟨ok, P, k2, v2, c1, c0, c2, cX, cM⟩ := d_qs (i0 := j) hT a1 a3 a4 a5
    refine ⟨ok, P, mIf v1 v2, c1, fun w => by have := (c2 w).2; omega, kOk.iff c0, ?_, ?_⟩
    · intro g l h hp hl h11
      obtain ⟨g1, ze, p1, r1, f1⟩ := aX g l h hp (by omega) h11
      obtain ⟨r2, r3⟩ := r1 rfl
      have f1' : qF (sLX l) g g1 := f1
      obtain ⟨g2, ze2, p2, r4, f2⟩ := cX g1 l (h.l f1') p1 hl r2 r3
      refine ⟨g2, l + k1 + k2 + 3, ?_, p2, fun w => ⟨(r4 w).1, by have := (c2 w).2; omega, (r4 w).2⟩, ?_⟩
      · show zB (X (Int32.ofNat 0) g) _ = _
        rw [ze, qB_s, if_neg (by decide)]
        unfold qsX
        rw [ze2, qB_s]
        cases ok
        · rw [if_pos (by decide)]; rfl
        · rw [if_neg (by decide)]; rfl
      · cases ok
        · exact f1'.zX.tr f2
        · exact qF.tr f1' f2
    · intro g t l y ht hy h ha hl h32 h31
      obtain ⟨g1, ze, r1, -, f1⟩ := aM g t l ht h ha (by omega)
      obtain ⟨r2, r3⟩ := r1 rfl
      have f1' : qF (sLM t l) g g1 := f1
      obtain ⟨g2, ze2, r4, r5, f2⟩ := cM g1 t l y ht hy (h.l f1') r2 (by omega) ((f1'.2.1 _ _ (by unfold sLM; omega)).trans h32) ((f1'.2.1 _ _ (by unfold sLM; omega)).trans h31) r3
      refine ⟨g2, l + k1 + k2, ?_, fun w => ⟨(r4 w).1, by have := (c2 w).2; omega, (r4 w).2⟩, r5, ?_⟩
      · show zB (M g) _ = _
        rw [ze, qB_s]
        exact ze2
      · cases ok
        · exact (qF.zQ (f1'.mono fun a k w => sQM_L w)).tr f2
        · exact (f1'.mono fun a k w => sQM_L w).tr f2
def cmX (x : Int32) (g : zSg) : Option (Int32 × zSg) := seqX (seqX f_X5_comparison (f_X5_moreUnits (f_X5_unit zDp))) (f_X5_moreTruths (f_X5_unit zDp)) x g
def cmM (g : zSg) : Option (Unit × zSg) := seqM (seqM f_X12_compare (f_X12_goOnAnd (f_X12_unit zDp))) (f_X12_goOnOr (f_X12_unit zDp)) g
theorem d_cmp {j P1 k1 : Nat} {v1 : mV} (hT : mTpOk T) (a1 : P1 ≤ T.1) (a3 : j + k1 ≤ P1) (a4 : 1 ≤ k1) (a5 : mVb v1) (aX : jX T 0 15 (f_X5_sum zDp) j true P1 k1 v1) (aM : jM T 0 15 260 (f_X12_sum zDp) j true P1 k1 v1) : kC T j (seqX (f_X5_sum zDp) (fun x g => zB (f_X9_next g) (fun _ g1 => cmX x g1))) (seqM (f_X12_sum zDp) (fun g => zB (f_X12_look g) (fun _ g1 => cmM g1))) := by
  have h240 := hT.1
  have hjl := mSk_le (T := T) a1
  have hjg := mSk_ge (T := T) (i := P1)
  have hU : jN T 0 16 261 true (f_X5_unit zDp) (f_X12_unit zDp) := d_unit hT 6 0 zDp (by omega) (by show _ < 24; omega)
  have e0 : jE T 0 18 261 false true f_X5_comparison f_X12_compare := d_comp hT (by omega) (by omega)
  have e1 : jE T 0 18 262 true true (f_X5_moreUnits (f_X5_unit zDp)) (f_X12_goOnAnd (f_X12_unit zDp)) := d_mu hT hU (by omega) (by omega) (by omega)
  have e2 : jE T 0 18 263 true true (f_X5_moreTruths (f_X5_unit zDp)) (f_X12_goOnOr (f_X12_unit zDp)) := d_mt hT hU (by omega) (by omega) (by omega)
  obtain ⟨ok, P, k, v, c1, c2, cX, cM⟩ := jE.seq hT (jE.seq hT e0 e1 (by omega) jW_and.i) e2 (by omega) jW_or.i j (mSk T P1) k1 v1 hjl (by omega) a4 a5 (fun w => (by cases w))
  refine ⟨ok, P, k, v, c1, fun w => ⟨(c2 w).2.1, (c2 w).2.2.1, (c2 w).2.2.2.1⟩, ?_, ?_⟩
  · intro g l h hp hl h11
    obtain ⟨g1, ze, p1, r1, f1⟩ := aX g l h hp hl h11
    obtain ⟨r2, r3⟩ := r1 rfl
    have f1' : qF (sLX l) g g1 := f1
    obtain ⟨g2, ze2, p2, f2⟩ := x_next hT (h.l f1') p1 a1
    have F2 : qF (sLX l) g g2 := f1'.tr (f2.mono fun a k w => sLX_T w)
    obtain ⟨g3, ze3, p3, r4, f3⟩ := cX g2 l (h.l F2) p2 hl ((f2.2.1 _ _ (by unfold sTX; omega)).trans r2) ((r3.up (by omega)).cp fun q _ _ => f2.2.1 _ _ (by unfold sTX; omega))
    refine ⟨g3, ?_, p3, r4, ?_⟩
    · unfold seqX
      rw [ze, qB_s, if_neg (by decide)]
      show zB (f_X9_next g1) (fun _ g1 => cmX (Int32.ofNat 0) g1) = _
      rw [ze2, qB_s]
      exact ze3
    · cases ok
      · exact F2.zX.tr f3
      · exact F2.tr f3
  · intro g t l ht h ha hl
    obtain ⟨g1, ze, r1, -, f1⟩ := aM g t l ht h ha hl
    obtain ⟨r2, r3⟩ := r1 rfl
    have f1' : qF (sLM t l) g g1 := f1
    obtain ⟨g2, ze2, p2, f2⟩ := m_look hT (h.l f1') r2.1 (by omega)
    have F2 : qF (sLM t l) g g2 := f1'.tr (f2.mono fun a k w => sLM_T w)
    obtain ⟨g3, ze3, r4, r5, f3⟩ := cM g2 t l ht (h.l F2) ⟨p2, (f2.2.1 _ _ (by omega)).trans r2.2.1, (f2.2.1 _ _ (by omega)).trans r2.2.2.1, (f2.2.1 _ _ (by omega)).trans r2.2.2.2.1, (f2.2.1 _ _ (by omega)).trans r2.2.2.2.2⟩ hl ((r3.up (by omega)).cp fun q _ _ => ⟨f2.2.1 _ _ (by omega), f2.2.1 _ _ (by omega)⟩)
    refine ⟨g3, ?_, r4, r5, ?_⟩
    · unfold seqM
      rw [ze, qB_s]
      show zB (f_X12_look g1) (fun _ g1 => cmM g1) = _
      rw [ze2, qB_s]
      exact ze3
    · cases ok
      · exact F2.zM.tr f3
      · exact F2.tr f3
end AW
