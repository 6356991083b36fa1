/-! ===== both sides: a LAW's CLAUSE behind its y: ===== -/
def bdS (g : zSg) : Option (Int32 × zSg) := (zB (f_X5_sum zDp 0 g) (fun v14 g15 => (if ¬ v14 = 0 then (zB (f_X9_next g15) (fun v18 g19 => (zB (f_X5_isComparing v18 g19) (fun v21 g22 => (if v21 = 0 then (zB (f_X4_add 11 (-59) g22) (fun v25 g26 => some (1, g26))) else (zB (f_X5_comparison 0 g22) (fun v28 g29 => (if v28 = 0 then some (0, g29) else (zB (f_X5_moreUnits (f_X5_unit zDp) 0 g29) (fun v32 g33 => (if v32 = 0 then some (0, g33) else (zB (f_X5_moreTruths (f_X5_unit zDp) 0 g33) (fun v36 g37 => (if v36 = 0 then some (0, g37) else qsX g37)))))))))))))) else some (0, g15))))
def bdX (g : zSg) : Option (Int32 × zSg) := zB (f_X9_next g) (fun v9 g10 => if v9 = 33 then f_X5_clause_46 g10 else (if ¬ v9 = 40 then bdS g10 else f_X5_clause_46 g10))
def bdM (Y : Nat) (g : zSg) : Option (Unit × zSg) := zB (f_X12_look g) (fun v4 g5 => if v4 = 33 then f_X12_clause_123 (Int32.ofNat Y) g5 else zB (f_X12_look g5) (fun v8 g9 => if ¬ v8 = 40 then f_X12_clause_128 (Int32.ofNat Y) 0 g9 else f_X12_clause_123 (Int32.ofNat Y) g9))
section AX
variable {T : mTk} {g : zSg}
theorem d_body {j : Nat} (hT : mTpOk T) (hj : j ≤ T.1) : ∃ (ok : Bool) (P : Nat) (cv : mCv), P ≤ T.1 ∧ (ok = true → j + 1 ≤ P) ∧ kOk cv ∧ kX T j ok P cv bdX ∧ kM T j ok P cv bdM := by
  have h240 := hT.1
  have hjl := mSk_le (T := T) hj
  have hjg := mSk_ge (T := T) (i := j)
  have hlt := mAt_lt (i := mSk T j) hT
  have xh : ∀ g l, vTpX T g → g.2.1 1 2 = Int32.ofNat j → g.2.1 11 2 = Int32.ofNat l → ∃ g1, f_X9_next g = some (Int32.ofNat (mAt T (mSk T j)), g1) ∧ vTpX T g1 ∧ g1.2.1 1 2 = Int32.ofNat (mSk T j) ∧ g1.2.1 11 2 = Int32.ofNat l ∧ qF (sLX l) g g1 := fun g l hv hp h11 => by
    obtain ⟨g1, ze, p1, f1⟩ := x_next hT hv hp hj
    exact ⟨g1, ze, hv.fr f1 (by unfold sTX; omega) (fun k => by unfold sTX; omega), p1, (f1.2.1 _ _ (by unfold sTX; omega)).trans h11, f1.mono fun a k w => sLX_T w⟩
  have mh : ∀ (i : Nat) g t l, i ≤ T.1 → vTpM T g → vAtM i 0 t l g → ∃ g1, f_X12_look g = some (mAtM T (mSk T i), g1) ∧ vTpM T g1 ∧ vAtM (mSk T i) 0 t l g1 ∧ qF (fun a k => a = 526 ∧ k = 3) g g1 := fun i g t l hi hv ha => by
    obtain ⟨g1, ze, p1, f1⟩ := m_look hT hv ha.1 (by omega)
    exact ⟨g1, ze, hv.fr f1 (by omega) (fun k => by omega), ⟨p1, (f1.2.1 _ _ (by omega)).trans ha.2.1, (f1.2.1 _ _ (by omega)).trans ha.2.2.1, (f1.2.1 _ _ (by omega)).trans ha.2.2.2.1, (f1.2.1 _ _ (by omega)).trans ha.2.2.2.2⟩, f1⟩
  have fL : ∀ (t l : Nat) (g g1 : zSg), qF (fun a k => a = 526 ∧ k = 3) g g1 → qF (sLM t l) g g1 := fun t l g g1 f => f.mono fun a k w => sLM_T w
  -- from what stands behind the blanks
  have fin : ∀ (ok : Bool) (P : Nat) (cv : mCv) (A : zSg → Option (Int32 × zSg)) (B : Nat → zSg → Option (Unit × zSg)), kX T (mSk T j) ok P cv A → kM T (mSk T j) ok P cv B → (∀ g g1 l, f_X9_next g = some (Int32.ofNat (mAt T (mSk T j)), g1) → vTpX T g1 → g1.2.1 1 2 = Int32.ofNat (mSk T j) → l + 2 ≤ mSk T j → g1.2.1 11 2 = Int32.ofNat l → bdX g = A g1) → (∀ g g1 t l y, t < 5 → y < 140 → f_X12_look g = some (mAtM T (mSk T j), g1) → vTpM T g1 → vAtM (mSk T j) 0 t l g1 → l + 2 ≤ mSk T j → ∃ g2, bdM (140 * t + y) g = B (140 * t + y) g2 ∧ vTpM T g2 ∧ vAtM (mSk T j) 0 t l g2 ∧ qF (fun a k => a = 526 ∧ k = 3) g1 g2) → kX T j ok P cv bdX ∧ kM T j ok P cv bdM := by
    intro ok P cv A B hX hM eX eM
    refine ⟨?_, ?_⟩
    · intro g l h hp hl h11
      obtain ⟨g1, ze, hv1, p1, q1, f1⟩ := xh g l h hp h11
      obtain ⟨g2, l', ze2, r1, r2, f2⟩ := hX g1 l hv1 p1 (by omega) q1
      refine ⟨g2, l', (eX g g1 l ze hv1 p1 (by omega) q1).trans ze2, r1, r2, ?_⟩
      cases ok
      · exact f1.zX.tr f2
      · exact f1.tr f2
    · intro g t l y ht hy h ha hl h32 h31
      obtain ⟨g1, ze, hv1, b1, f1⟩ := mh j g t l hj h ha
      obtain ⟨g2, e2, hv2, b2, f2⟩ := eM g g1 t l y ht hy ze hv1 b1 (by omega)
      have f12 : qF (fun a k => a = 526 ∧ k = 3) g g2 := f1.tr f2
      obtain ⟨g3, l', ze3, r1, r2, f3⟩ := hM g2 t l y ht hy hv2 b2 (by omega) ((f12.2.1 _ _ (by omega)).trans h32) ((f12.2.1 _ _ (by omega)).trans h31)
      refine ⟨g3, l', e2.trans ze3, r1, r2, ?_⟩
      exact (f12.mono fun a k w => sQM_L (sLM_T w)).tr f3
  have l2 : ∀ g1 t l, vTpM T g1 → vAtM (mSk T j) 0 t l g1 → ∃ g2, f_X12_look g1 = some (mAtM T (mSk T j), g2) ∧ vTpM T g2 ∧ vAtM (mSk T j) 0 t l g2 ∧ qF (fun a k => a = 526 ∧ k = 3) g1 g2 := fun g1 t l hv1 b1 => by
    obtain ⟨g2, ze, hv2, b2, f2⟩ := mh (mSk T j) g1 t l hjl hv1 b1
    rw [mSk_id] at ze b2
    exact ⟨g2, ze, hv2, b2, f2⟩
  by_cases hA : mAt T (mSk T j) = 33 ∨ mAt T (mSk T j) = 40
  · have hU : jN T 0 16 261 true (f_X5_unit zDp) (f_X12_unit zDp) := d_unit hT 6 0 zDp (by omega) (by show _ < 24; omega)
    have hC : jN T 0 18 263 true (f_X5_condition (f_X5_unit zDp)) (f_X12_condition (f_X12_unit zDp)) := d_cond hT (by omega) hU (by omega) (by omega)
    obtain ⟨ok0, P0, k0, v0, a1, a2, aX, aM⟩ := hC (mSk T j) hjl
    obtain ⟨ok, P, cv, c1, c2, c3, cX, cM⟩ := d_cq hT hjl ⟨ok0, P0, k0, v0, a1, fun w => ⟨(a2 w).1, (a2 w).2.1, (a2 w).2.2.1⟩, aX, aM⟩
    obtain ⟨fX, fM⟩ := fin ok P cv _ _ cX cM (fun g g1 l ze _ _ _ _ => by
      unfold bdX
      rw [ze, qB_s]
      rcases hA with q | q
      · rw [if_pos (show Int32.ofNat (mAt T (mSk T j)) = (33 : Int32) from congrArg Int32.ofNat q)]
        rfl
      · rw [if_neg (show ¬ Int32.ofNat (mAt T (mSk T j)) = (33 : Int32) from q_ne (d := 33) (by omega) (by omega) (by omega)), if_neg (show ¬ ¬ Int32.ofNat (mAt T (mSk T j)) = (40 : Int32) from fun w => w (congrArg Int32.ofNat q))]
        rfl) (fun g g1 t l y ht hy ze hv1 b1 _ => by
      unfold bdM
      rw [ze, qB_s]
      rcases hA with q | q
      · have em : mAtM T (mSk T j) = Int32.ofNat 33 := by rw [mAtM_eq hT (by omega) (by omega)]; exact q
        refine ⟨g1, ?_, hv1, b1, qF.rfl'⟩
        rw [if_pos (show mAtM T (mSk T j) = 33 from em)]
        show f_X12_clause_128 (Int32.ofNat (140 * t + y)) 1 g1 = _
        unfold f_X12_clause_128
        rw [if_neg (by decide)]
      · have em : mAtM T (mSk T j) = Int32.ofNat 40 := by rw [mAtM_eq hT (by omega) (by omega)]; exact q
        obtain ⟨g2, ze2, hv2, b2, f2⟩ := l2 g1 t l hv1 b1
        refine ⟨g2, ?_, hv2, b2, f2⟩
        rw [if_neg (mAtM_ne (i := (mSk T j)) (c := 33) (x := 33) hT rfl (by omega) (by omega) (by omega)), ze2, qB_s, if_neg (show ¬ ¬ mAtM T (mSk T j) = 40 from fun w => w em)]
        show f_X12_clause_128 (Int32.ofNat (140 * t + y)) 1 g2 = _
        unfold f_X12_clause_128
        rw [if_neg (by decide)])
    exact ⟨ok, P, cv, c1, fun w => by have := c2 w; omega, c3, fX, fM⟩
  · have xS : ∀ g g1 : zSg, f_X9_next g = some (Int32.ofNat (mAt T (mSk T j)), g1) → bdX g = bdS g1 := fun g g1 ze => by
      unfold bdX
      rw [ze, qB_s, if_neg (show ¬ Int32.ofNat (mAt T (mSk T j)) = (33 : Int32) from q_ne (d := 33) (by omega) (by omega) (by omega)), if_pos (show ¬ Int32.ofNat (mAt T (mSk T j)) = (40 : Int32) from q_ne (d := 40) (by omega) (by omega) (by omega))]
    have mS : ∀ g g1 t l y, f_X12_look g = some (mAtM T (mSk T j), g1) → vTpM T g1 → vAtM (mSk T j) 0 t l g1 → ∃ g2, bdM (140 * t + y) g = f_X12_clause_128 (Int32.ofNat (140 * t + y)) 0 g2 ∧ vTpM T g2 ∧ vAtM (mSk T j) 0 t l g2 ∧ qF (fun a k => a = 526 ∧ k = 3) g1 g2 := fun g g1 t l y ze hv1 b1 => by
      obtain ⟨g2, ze2, hv2, b2, f2⟩ := l2 g1 t l hv1 b1
      refine ⟨g2, ?_, hv2, b2, f2⟩
      unfold bdM
      rw [ze, qB_s, if_neg (mAtM_ne (i := (mSk T j)) (c := 33) (x := 33) hT rfl (by omega) (by omega) (by omega)), ze2, qB_s, if_pos (mAtM_ne (i := (mSk T j)) (c := 40) (x := 40) hT rfl (by omega) (by omega) (by omega))]
    have w166 : ∀ (Y : Nat) (g : zSg), f_X12_clause_166 (Int32.ofNat Y) g = f_X12_clause_184 (Int32.ofNat Y) 0 g := fun Y g => by
      show f_X12_clause_167 (Int32.ofNat Y) 0 g = _
      unfold f_X12_clause_167
      rw [if_pos rfl]
    obtain ⟨ok1, P1, k1, v1, a1, a2, aX', aM'⟩ := d_sum hT 6 0 zDp (by omega) (by show _ < 24; omega) (mSk T j) hjl
    have aX : jX T 0 15 (f_X5_sum zDp) (mSk T j) ok1 P1 k1 v1 := aX'
    have aM : jM T 0 15 260 (f_X12_sum zDp) (mSk T j) ok1 P1 k1 v1 := aM'
    cases ok1 with
    | false =>
      have hX : kX T (mSk T j) false P1 mNone bdS := fun g l h hp hl h11 => by
        obtain ⟨g1, ze, p1, -, f1⟩ := aX g l h hp (by omega) h11
        have ze' : f_X5_sum zDp 0 g = some (mB false, g1) := ze
        refine ⟨g1, 0, ?_, p1, fun w => (by cases w), f1⟩
        unfold bdS
        rw [ze', qB_s, if_neg (by decide)]
        rfl
      have hM : kM T (mSk T j) false P1 mNone (fun Y g => f_X12_clause_128 (Int32.ofNat Y) 0 g) := fun g t l y ht hy h ha hl h32 h31 => by
        obtain ⟨g1, ze, -, a3, f1⟩ := aM g t l ht h ha (by omega)
        obtain ⟨fl1, fl2, l', fl3, fl4⟩ := a3 rfl
        have f1' : qF (sLM t 0) g g1 := f1
        obtain ⟨g2, ze2, e4, f2⟩ := m_184w (y2 := 0) (Y := 140 * t + y) ht (by omega) fl2 fl4 ((f1'.2.1 _ _ (by unfold sLM; omega)).trans h31) fl1 (by omega)
        refine ⟨g2, 0, ?_, fun w => (by cases w), fun _ => e4, (f1'.mono fun a k w => sQM_L w).tr (f2.mono fun a k w => by show sQM t 0 (140 * t + y) a k; unfold sQM; omega)⟩
        show f_X12_clause_128 (Int32.ofNat (140 * t + y)) 0 g = _
        unfold f_X12_clause_128
        rw [if_pos rfl, ze, qB_s, if_pos (show ¬ gI g1 526 4 = (-1 : Int32) by rw [show gI g1 526 4 = _ from fl1]; exact qi_ne_m1 (by omega)), w166]
        exact ze2
      obtain ⟨fX, fM⟩ := fin false P1 mNone _ _ hX hM (fun g g1 l ze _ _ _ _ => xS g g1 ze) (fun g g1 t l y ht hy ze hv1 b1 _ => mS g g1 t l y ze hv1 b1)
      exact ⟨false, P1, mNone, a1, fun w => (by cases w), kOk.nil, fX, fM⟩
    | true =>
      obtain ⟨a3, a4, a5, -⟩ := a2 rfl
      have hPl := mSk_le (T := T) a1
      have hPg := mSk_ge (T := T) (i := P1)
      have hlt2 := mAt_lt (i := mSk T P1) hT
      by_cases hs : mSg (mAt T (mSk T P1))
      · obtain ⟨ok, P, cv, c1, c2, c3, cX, cM⟩ := d_cq hT hjl (d_cmp hT a1 a3 a4 a5 aX aM)
        obtain ⟨fX, fM⟩ := fin ok P cv _ _ cX cM (fun g g1 l ze hv1 p1 hl q1 => by
          rw [xS g g1 ze]
          obtain ⟨ga, za, pa, ra, fa⟩ := aX g1 l hv1 p1 (by omega) q1
          have fa' : qF (sLX l) g1 ga := fa
          obtain ⟨gb, zb, pb, fb⟩ := x_next hT (hv1.l fa') pa a1
          have za0 : f_X5_sum zDp 0 g1 = some (mB true, ga) := za
          have hF : ∀ g : zSg, (fun (v : Int32) (g2 : zSg) => if v = 0 then some ((0 : Int32), g2) else qsX g2) 0 g = some (0, g) := fun g => if_pos rfl
          have q1' : zB (seqX (f_X5_sum zDp) (fun x g => zB (f_X9_next g) (fun _ g1 => cmX x g1)) (Int32.ofNat 0) g1) (fun (v : Int32) (g2 : zSg) => if v = 0 then some ((0 : Int32), g2) else qsX g2) = zB (cmX (Int32.ofNat 0) gb) (fun (v : Int32) (g2 : zSg) => if v = 0 then some ((0 : Int32), g2) else qsX g2) := by
            rw [zB_seq hF, za, qB_s, if_neg (show ¬ mB true = 0 by decide)]
            show zB (zB (f_X9_next ga) (fun _ g1 => cmX (Int32.ofNat 0) g1)) _ = _
            rw [zb, qB_s]
          have q2' : zB (cmX (Int32.ofNat 0) gb) (fun (v : Int32) (g2 : zSg) => if v = 0 then some ((0 : Int32), g2) else qsX g2) = zB (seqX f_X5_comparison (f_X5_moreUnits (f_X5_unit zDp)) (Int32.ofNat 0) gb) (fun v g1 => if v = 0 then some (0, g1) else zB (f_X5_moreTruths (f_X5_unit zDp) (Int32.ofNat 0) g1) (fun (v : Int32) (g2 : zSg) => if v = 0 then some ((0 : Int32), g2) else qsX g2)) := zB_seq hF
          have q3' : zB (seqX f_X5_comparison (f_X5_moreUnits (f_X5_unit zDp)) (Int32.ofNat 0) gb) (fun v g1 => if v = 0 then some (0, g1) else zB (f_X5_moreTruths (f_X5_unit zDp) (Int32.ofNat 0) g1) (fun (v : Int32) (g2 : zSg) => if v = 0 then some ((0 : Int32), g2) else qsX g2)) = zB (f_X5_comparison (Int32.ofNat 0) gb) (fun v g1 => if v = 0 then some (0, g1) else zB (f_X5_moreUnits (f_X5_unit zDp) (Int32.ofNat 0) g1) (fun v g1 => if v = 0 then some (0, g1) else zB (f_X5_moreTruths (f_X5_unit zDp) (Int32.ofNat 0) g1) (fun (v : Int32) (g2 : zSg) => if v = 0 then some ((0 : Int32), g2) else qsX g2))) := zB_seq (fun g => if_pos rfl)
          unfold bdS
          rw [za0, qB_s, if_pos (show ¬ mB true = 0 by decide), zb, qB_s, (x_isC (by omega)).1 hs, qB_s, if_neg (show ¬ (1 : Int32) = 0 by decide)]
          exact (q1'.trans (q2'.trans q3')).symm) (fun g g1 t l y ht hy ze hv1 b1 hl => by
          obtain ⟨g2, e2, hv2, b2, f2⟩ := mS g g1 t l y ze hv1 b1
          refine ⟨g2, ?_, hv2, b2, f2⟩
          rw [e2]
          obtain ⟨ga, za, ra, -, fa⟩ := aM g2 t l ht hv2 b2 (by omega)
          obtain ⟨r2, -⟩ := ra rfl
          have fa' : qF (sLM t l) g2 ga := fa
          obtain ⟨gb, zb, pb, fb⟩ := m_look hT (hv2.l fa') r2.1 (by omega)
          unfold f_X12_clause_128 f_X12_clause_167
          rw [if_pos rfl, za, qB_s, if_neg (fun w => w r2.2.1), zb, qB_s, (m_isS hT).1 hs, qB_s, if_neg (show ¬ (1 : Int32) = 0 by decide), if_neg (show ¬ (1 : Int32) = 0 by decide), zB_seqM, za, qB_s]
          show _ = zB (zB (f_X12_look ga) (fun _ g1 => cmM g1)) _
          rw [zb, qB_s]
          show _ = zB (seqM (seqM f_X12_compare (f_X12_goOnAnd (f_X12_unit zDp))) (f_X12_goOnOr (f_X12_unit zDp)) gb) _
          rw [zB_seqM, zB_seqM])
        exact ⟨ok, P, cv, c1, fun w => by have := c2 w; omega, c3, fX, fM⟩
      · have hX : kX T (mSk T j) true (mSk T P1) (mJust v1) bdS := fun g l h hp hl h11 => by
          obtain ⟨ga, za, pa, ra, fa⟩ := aX g l h hp (by omega) h11
          obtain ⟨r1, r2⟩ := ra rfl
          have za0 : f_X5_sum zDp 0 g = some (mB true, ga) := za
          have fa' : qF (sLX l) g ga := fa
          obtain ⟨gb, zb, pb, fb⟩ := x_next hT (h.l fa') pa a1
          have ze3 := x_addc (x := - Int32.ofNat 59) ((fb.2.1 11 2 (by unfold sTX; omega)).trans r1) (by omega)
          have F2 : qF (sLX l) g gb := fa'.tr (fb.mono fun a k w => sLX_T w)
          have F3 : qF (sLX l) g (gsI (gsI gb 13 (l + k1) (- Int32.ofNat 59)) 11 2 (Int32.ofNat (l + k1 + 1))) := (F2.sI (by unfold sLX; omega)).sI (by unfold sLX; omega)
          have s1 : xSeg ((gsI (gsI gb 13 (l + k1) (- Int32.ofNat 59)) 11 2 (Int32.ofNat (l + k1 + 1))).2.1 13) l (l + k1) 15 v1 := r2.cp fun q q1 q2 => by
            rw [qs_In (by omega), qs_In (by omega)]; exact fb.2.1 _ _ (by unfold sTX; omega)
          have s2 := xCls_sum s1 (by rw [qs_In (by omega), qs_Ie]) (by omega)
          refine ⟨_, l + k1 + 1, ?_, by rw [qs_In (by omega), qs_In (by omega)]; exact pb, fun _ => ⟨qs_Ie, by omega, s2⟩, F3⟩
          unfold bdS
          rw [za0, qB_s, if_pos (show ¬ mB true = 0 by decide), zb, qB_s, (x_isC (by omega)).2 hs, qB_s, if_pos rfl, show (-59 : Int32) = - Int32.ofNat 59 from rfl, ze3, qB_s]
          rfl
        have hM : kM T (mSk T j) true (mSk T P1) (mJust v1) (fun Y g => f_X12_clause_128 (Int32.ofNat Y) 0 g) := fun g t l y ht hy h ha hl h32 h31 => by
          obtain ⟨ga, za, ra, -, fa⟩ := aM g t l ht h ha (by omega)
          obtain ⟨r2, r3⟩ := ra rfl
          have fa' : qF (sLM t l) g ga := fa
          obtain ⟨gb, zb, pb, fb⟩ := m_look hT (h.l fa') r2.1 (by omega)
          have z7 : zib (Int32.ofNat (140 * t + y)) 700 = true := qi_zib (by omega) (by omega)
          have eY : ix (Int32.ofNat (140 * t + y)) = 140 * t + y := qi_ix (by omega)
          have e32 : gI gb 532 (140 * t + y) = Int32.ofNat l := (fb.2.1 _ _ (by omega)).trans ((fa'.2.1 _ _ (by unfold sLM; omega)).trans h32)
          have e31 : gb.2.1 531 t = Int32.ofNat y := (fb.2.1 _ _ (by omega)).trans ((fa'.2.1 _ _ (by unfold sLM; omega)).trans h31)
          have e30 : gb.2.1 530 t = Int32.ofNat (l + k1) := (fb.2.1 _ _ (by omega)).trans r2.2.2.2.2
          have e14 : gb.2.1 526 14 = Int32.ofNat t := (fb.2.1 _ _ (by omega)).trans r2.2.2.2.1
          have ze3 := m_251 (g := gsI gb 533 (140 * t + y) (Int32.ofNat l)) (Y := 140 * t + y) (l := l + k1) (y := y) ht (by omega) ((qs_In (by omega)).trans e14) ((qs_In (by omega)).trans e30) ((qs_In (by omega)).trans e31)
          have F2 : qF (sQM t l (140 * t + y)) g gb := (fa'.mono fun a k w => sQM_L w).tr (fb.mono fun a k w => sQM_L (sLM_T w))
          have F3 : qF (sQM t l (140 * t + y)) g (gsI (gsI (gsI gb 533 (140 * t + y) (Int32.ofNat l)) 534 (140 * t + y) (Int32.ofNat (l + k1))) 531 t (Int32.ofNat (y + 1))) := ((F2.sI (by unfold sQM; omega)).sI (by unfold sQM; omega)).sI (by unfold sQM; omega)
          refine ⟨gsI (gsI (gsI gb 533 (140 * t + y) (Int32.ofNat l)) 534 (140 * t + y) (Int32.ofNat (l + k1))) 531 t (Int32.ofNat (y + 1)), l + k1, ?_, fun _ => ⟨⟨?_, ?_, ?_, ?_, ?_⟩, by omega, qs_Ie, l, ?_, ?_, ?_, Or.inl ⟨rfl, 15, v1, by omega, r3.cp fun q _ _ => ⟨?_, ?_⟩, rfl⟩⟩, fun w => (by cases w), F3⟩
          · show f_X12_clause_128 (Int32.ofNat (140 * t + y)) 0 g = _
            unfold f_X12_clause_128
            rw [if_pos rfl, za, qB_s, if_neg (fun w => w r2.2.1), zb, qB_s, (m_isS hT).2 hs, qB_s, if_pos rfl, w166]
            unfold f_X12_clause_184
            rw [if_pos z7, if_pos z7, if_pos rfl, eY, e32]
            exact ze3
          · rw [qs_In (by omega), qs_In (by omega), qs_In (by omega)]; exact pb
          · rw [qs_In (by omega), qs_In (by omega), qs_In (by omega), fb.2.1 _ _ (by omega)]; exact r2.2.1
          · rw [qs_In (by omega), qs_In (by omega), qs_In (by omega), fb.2.1 _ _ (by omega)]; exact r2.2.2.1
          · rw [qs_In (by omega), qs_In (by omega), qs_In (by omega)]; exact e14
          · rw [qs_In (by omega), qs_In (by omega), qs_In (by omega)]; exact e30
          · rw [qs_In (by omega), qs_In (by omega), qs_In (by omega)]; exact e32
          · rw [qs_In (by omega), qs_In (by omega), qs_Ie]
          · rw [qs_In (by omega), qs_Ie]
          · rw [qs_In (by omega), qs_In (by omega), qs_In (by omega)]; exact fb.2.1 _ _ (by omega)
          · rw [qs_In (by omega), qs_In (by omega), qs_In (by omega)]; exact fb.2.1 _ _ (by omega)
        obtain ⟨fX, fM⟩ := fin true (mSk T P1) (mJust v1) _ _ hX hM (fun g g1 l ze _ _ _ _ => xS g g1 ze) (fun g g1 t l y ht hy ze hv1 b1 _ => mS g g1 t l y ze hv1 b1)
        exact ⟨true, mSk T P1, mJust v1, hPl, fun _ => by omega, kOk.just a5, fX, fM⟩
/-- a CLAUSE -/
def cX (T : mTk) (i : Nat) (ok : Bool) (P : Nat) (cv : mCv) : Prop := ∀ g l, vTpX T g → g.2.1 1 2 = Int32.ofNat i → l ≤ i → g.2.1 11 2 = Int32.ofNat l → ∃ g' l', f_X5_clause g = some (mB ok, g') ∧ g'.2.1 1 2 = Int32.ofNat P ∧ (ok = true → g'.2.1 11 2 = Int32.ofNat l' ∧ l' ≤ P ∧ xCls (g'.2.1 13) l l' cv) ∧ qF (sLX (cond ok l 0)) g g'
def cM (T : mTk) (i : Nat) (ok : Bool) (P : Nat) (cv : mCv) : Prop := ∀ g t l y, t < 5 → y < 140 → vTpM T g → vAtM i 0 t l g → l ≤ i → g.2.1 531 t = Int32.ofNat y → ∃ g' l', f_X12_clause g = some ((), g') ∧ (ok = true → vAtM P 0 t l' g' ∧ l' ≤ P ∧ g'.2.1 531 t = Int32.ofNat (y + 1) ∧ mCl1 t y l l' g' cv) ∧ (ok = false → g'.2.1 526 4 = Int32.ofNat P) ∧ qF (sQM t (cond ok l 0) (140 * t + y)) g g'
theorem m_71w {P : Nat} {y : Int32} (hw : g.2.1 526 4 = Int32.ofNat P) (hP : P < 1000) : f_X12_clause_71 y g = some ((), gsI g 526 3 (gI g 526 3 + 1)) := by
  unfold f_X12_clause_71
  rw [if_neg (show ¬ gI (gsI g 526 3 (gI g 526 3 + 1)) 526 4 = (-1 : Int32) by rw [show gI (gsI g 526 3 (gI g 526 3 + 1)) 526 4 = Int32.ofNat P from (qs_In (by omega)).trans hw]; exact qi_ne_m1 (by omega))]
theorem m_40w {P : Nat} {y : Int32} (hw : g.2.1 526 4 = Int32.ofNat P) (hP : P < 1000) : ∃ g', f_X12_clause_40 y g = some ((), g') ∧ g'.2.1 526 4 = Int32.ofNat P ∧ qF (fun a k => a = 526 ∧ k = 3) g g' := by
  have h1 : (gsI g 526 3 (gI g 526 3 + 1)).2.1 526 4 = Int32.ofNat P := (qs_In (by omega)).trans hw
  refine ⟨_, ?_, ?_, (qF.rfl'.sI (b := 526) (j := 3) (x := gI g 526 3 + 1) ⟨rfl, rfl⟩).sI (b := 526) (j := 3) (x := gI (gsI g 526 3 (gI g 526 3 + 1)) 526 3 + 1) ⟨rfl, rfl⟩⟩
  · unfold f_X12_clause_40
    rw [if_pos (show ¬ gI (gsI g 526 3 (gI g 526 3 + 1)) 526 4 = (-1 : Int32) by rw [show gI (gsI g 526 3 (gI g 526 3 + 1)) 526 4 = Int32.ofNat P from h1]; exact qi_ne_m1 (by omega))]
    exact m_71w h1 hP
  · rw [qs_In (by omega)]; exact h1
theorem d_clauseL {i : Nat} (hT : mTpOk T) (hi : i ≤ T.1) : ∃ (ok : Bool) (P : Nat) (cv : mCv), P ≤ T.1 ∧ (ok = true → i + 3 ≤ P) ∧ kOk cv ∧ cX T i ok P cv ∧ cM T i ok P cv := by
  have h240 := hT.1
  have hjl := mSk_le (T := T) hi
  have hjg := mSk_ge (T := T) (i := i)
  have mh : ∀ (i : Nat) g t l, i ≤ T.1 → vTpM T g → vAtM i 0 t l g → ∃ g1, f_X12_look g = some (mAtM T (mSk T i), g1) ∧ vTpM T g1 ∧ vAtM (mSk T i) 0 t l g1 ∧ qF (fun a k => a = 526 ∧ k = 3) g g1 := fun i g t l hi hv ha => by
    obtain ⟨g1, ze, p1, f1⟩ := m_look hT hv ha.1 (by omega)
    exact ⟨g1, ze, hv.fr f1 (by omega) (fun k => by omega), ⟨p1, (f1.2.1 _ _ (by omega)).trans ha.2.1, (f1.2.1 _ _ (by omega)).trans ha.2.2.1, (f1.2.1 _ _ (by omega)).trans ha.2.2.2.1, (f1.2.1 _ _ (by omega)).trans ha.2.2.2.2⟩, f1⟩
  have he : ∀ g t l y, t < 5 → y < 140 → vAtM i 0 t l g → g.2.1 531 t = Int32.ofNat y → f_X12_clause g = zB (f_X12_look g) (fun v3 g4 => if v3 = 121 then f_X12_clause_40 (Int32.ofNat (140 * t + y)) g4 else zB (f_X12_bad g4) (fun v7 g8 => f_X12_clause_40 (Int32.ofNat (140 * t + y)) g8)) := fun g t l y ht hy ha h31 => by
    have z5 : zib (Int32.ofNat t) 5 = true := qi_zib ht (by omega)
    have e14 : gI g 526 14 = Int32.ofNat t := ha.2.2.2.1
    have et : ix (Int32.ofNat t) = t := qi_ix (by omega)
    have e31 : gI g 531 t = Int32.ofNat y := h31
    have ea : (140 : Int32) * Int32.ofNat t + Int32.ofNat y = Int32.ofNat (140 * t + y) := (congrArg (· + Int32.ofNat y) (qi_mul 140 t)).trans (qi_add _ _)
    unfold f_X12_clause
    rw [e14, if_pos z5, et, e31, ea, if_neg (fun w => w ha.2.1)]
  by_cases c121 : mAt T (mSk T i) = 121
  · have hin : mSk T i < T.1 := (mAt_in hT).mp (by omega)
    have em : mAtM T (mSk T i) = Int32.ofNat 121 := by rw [mAtM_eq hT (by omega) (by omega)]; exact c121
    have hkl := mSk_le (T := T) (i := mSk T i + 1) (by omega)
    have hkg := mSk_ge (T := T) (i := mSk T i + 1)
    -- behind y
    have xy : ∀ g l, vTpX T g → g.2.1 1 2 = Int32.ofNat i → g.2.1 11 2 = Int32.ofNat l → ∃ g1, f_X5_clause g = zB (f_X9_take (Int32.ofNat 58) g1) (fun v5 g6 => if ¬ v5 = 0 then bdX g6 else some (0, g6)) ∧ vTpX T g1 ∧ g1.2.1 1 2 = Int32.ofNat (mSk T i + 1) ∧ g1.2.1 11 2 = Int32.ofNat l ∧ qF (sLX l) g g1 := fun g l h hp h11 => by
      obtain ⟨g1, ze, p1, f1⟩ := x_take (c := 121) hT h hp hi (by omega)
      rw [if_pos c121] at p1
      rw [decide_eq_true c121] at ze
      refine ⟨g1, ?_, h.fr f1 (by unfold sTX; omega) (fun k => by unfold sTX; omega), p1, (f1.2.1 _ _ (by unfold sTX; omega)).trans h11, f1.mono fun a k w => sLX_T w⟩
      unfold f_X5_clause
      rw [show (121 : Int32) = Int32.ofNat 121 from rfl, ze, qB_s, if_neg (by decide)]
      rfl
    have my : ∀ g t l y, t < 5 → y < 140 → vTpM T g → vAtM i 0 t l g → g.2.1 531 t = Int32.ofNat y → ∃ g1, f_X12_clause g = (if mAtM T (mSk T (mSk T i + 1)) = 58 then f_X12_clause_71 (Int32.ofNat (140 * t + y)) g1 else zB (f_X12_bad g1) (fun v6 g7 => f_X12_clause_71 (Int32.ofNat (140 * t + y)) g7)) ∧ vTpM T g1 ∧ vAtM (mSk T (mSk T i + 1)) 0 t l g1 ∧ qF (fun a k => a = 526 ∧ k = 3) g g1 := fun g t l y ht hy h ha h31 => by
      obtain ⟨g1, ze, hv1, b1, f1⟩ := mh i g t l hi h ha
      have e3 : gI g1 526 3 + 1 = Int32.ofNat (mSk T i + 1) := by rw [show gI g1 526 3 = Int32.ofNat (mSk T i) from b1.1]; exact qi_add _ 1
      have F1 : qF (fun a k => a = 526 ∧ k = 3) g (gsI g1 526 3 (Int32.ofNat (mSk T i + 1))) := f1.sI ⟨rfl, rfl⟩
      have b2 : vAtM (mSk T i + 1) 0 t l (gsI g1 526 3 (Int32.ofNat (mSk T i + 1))) := ⟨qs_Ie, (qs_In (by omega)).trans b1.2.1, (qs_In (by omega)).trans b1.2.2.1, (qs_In (by omega)).trans b1.2.2.2.1, (qs_In (by omega)).trans b1.2.2.2.2⟩
      obtain ⟨g2, ze2, hv2, b3, f2⟩ := mh (mSk T i + 1) _ t l (by omega) (h.fr F1 (by omega) (fun k => by omega)) b2
      refine ⟨g2, ?_, hv2, b3, F1.tr f2⟩
      rw [he g t l y ht hy ha h31, ze, qB_s, if_pos (show mAtM T (mSk T i) = 121 from em)]
      unfold f_X12_clause_40
      rw [e3, if_neg (fun w => w b2.2.1), ze2, qB_s]
    by_cases c58 : mAt T (mSk T (mSk T i + 1)) = 58
    · have hin2 : mSk T (mSk T i + 1) < T.1 := (mAt_in hT).mp (by omega)
      have em2 : mAtM T (mSk T (mSk T i + 1)) = Int32.ofNat 58 := by rw [mAtM_eq hT (by omega) (by omega)]; exact c58
      obtain ⟨ok, P, cv, c1, c2, c3, hX, hM⟩ := d_body (j := mSk T (mSk T i + 1) + 1) hT (by omega)
      refine ⟨ok, P, cv, c1, fun w => by have := c2 w; omega, c3, ?_, ?_⟩
      · intro g l h hp hl h11
        obtain ⟨g1, ze, hv1, p1, q1, f1⟩ := xy g l h hp h11
        obtain ⟨g2, ze2, p2, f2⟩ := x_take (c := 58) hT hv1 p1 (by omega) (by omega)
        rw [if_pos c58] at p2
        rw [decide_eq_true c58] at ze2
        have F2 : qF (sLX l) g g2 := f1.tr (f2.mono fun a k w => sLX_T w)
        obtain ⟨g3, l', ze3, r1, r2, f3⟩ := hX g2 l (h.l F2) p2 (by omega) ((f2.2.1 _ _ (by unfold sTX; omega)).trans q1)
        refine ⟨g3, l', ?_, r1, r2, ?_⟩
        · rw [ze, ze2, qB_s, if_pos (by decide)]
          exact ze3
        · cases ok
          · exact F2.zX.tr f3
          · exact F2.tr f3
      · intro g t l y ht hy h ha hl h31
        obtain ⟨g1, ze, hv1, b1, f1⟩ := my g t l y ht hy h ha h31
        have e3 : gI g1 526 3 + 1 = Int32.ofNat (mSk T (mSk T i + 1) + 1) := by rw [show gI g1 526 3 = Int32.ofNat (mSk T (mSk T i + 1)) from b1.1]; exact qi_add _ 1
        have b14 : gI (gsI g1 526 3 (Int32.ofNat (mSk T (mSk T i + 1) + 1))) 526 14 = Int32.ofNat t := (qs_In (by omega)).trans b1.2.2.2.1
        have b30 : gI (gsI g1 526 3 (Int32.ofNat (mSk T (mSk T i + 1) + 1))) 530 t = Int32.ofNat l := (qs_In (by omega)).trans b1.2.2.2.2
        have b4 : gI (gsI g1 526 3 (Int32.ofNat (mSk T (mSk T i + 1) + 1))) 526 4 = -1 := (qs_In (by omega)).trans b1.2.1
        have F2 : qF (sQM t l (140 * t + y)) g (gsI (gsI g1 526 3 (Int32.ofNat (mSk T (mSk T i + 1) + 1))) 532 (140 * t + y) (Int32.ofNat l)) := ((f1.mono fun a k w => sQM_L (sLM_T w)).sI (by unfold sQM sLM; omega)).sI (by unfold sQM; omega)
        have ze2 : f_X12_clause_71 (Int32.ofNat (140 * t + y)) g1 = bdM (140 * t + y) (gsI (gsI g1 526 3 (Int32.ofNat (mSk T (mSk T i + 1) + 1))) 532 (140 * t + y) (Int32.ofNat l)) := by
          unfold f_X12_clause_71
          rw [e3, if_pos b4, b14, if_pos (qi_zib ht (by omega)), if_pos (qi_zib (by omega) (by omega)), qi_ix (by omega), qi_ix (by omega), b30]
          rfl
        obtain ⟨g3, l', ze3, r1, r2, f3⟩ := hM (gsI (gsI g1 526 3 (Int32.ofNat (mSk T (mSk T i + 1) + 1))) 532 (140 * t + y) (Int32.ofNat l)) t l y ht hy (h.q F2) ⟨(qs_In (by omega)).trans qs_Ie, (qs_In (by omega)).trans b4, by rw [qs_In (by omega), qs_In (by omega)]; exact b1.2.2.1, (qs_In (by omega)).trans b14, (qs_In (by omega)).trans b30⟩ (by omega) qs_Ie (by rw [qs_In (by omega), qs_In (by omega), f1.2.1 _ _ (by omega)]; exact h31)
        refine ⟨g3, l', ?_, r1, r2, ?_⟩
        · rw [ze, if_pos (show mAtM T (mSk T (mSk T i + 1)) = 58 from em2), ze2]
          exact ze3
        · cases ok
          · exact F2.zQ.tr f3
          · exact F2.tr f3
    · refine ⟨false, mSk T (mSk T i + 1), mNone, hkl, fun w => (by cases w), kOk.nil, ?_, ?_⟩
      · intro g l h hp hl h11
        obtain ⟨g1, ze, hv1, p1, q1, f1⟩ := xy g l h hp h11
        obtain ⟨g2, ze2, p2, f2⟩ := x_take (c := 58) hT hv1 p1 (by omega) (by omega)
        rw [if_neg c58] at p2
        rw [decide_eq_false c58] at ze2
        refine ⟨g2, 0, ?_, p2, fun w => (by cases w), f1.zX.tr (f2.mono fun a k w => sLX_T w)⟩
        rw [ze, ze2, qB_s, if_neg (by decide)]
        rfl
      · intro g t l y ht hy h ha hl h31
        obtain ⟨g1, ze, hv1, b1, f1⟩ := my g t l y ht hy h ha h31
        have ze2 := m_71w (g := gsI g1 526 4 (Int32.ofNat (mSk T (mSk T i + 1)))) (P := mSk T (mSk T i + 1)) (y := Int32.ofNat (140 * t + y)) qs_Ie (by omega)
        refine ⟨_, 0, ?_, fun w => (by cases w), fun _ => ?_, (((f1.mono fun a k w => sQM_L (sLM_T w)).sI (b := 526) (j := 4) (x := Int32.ofNat (mSk T (mSk T i + 1))) (by show sQM t 0 (140 * t + y) _ _; unfold sQM sLM; omega)).sI (b := 526) (j := 3) (x := gI (gsI g1 526 4 (Int32.ofNat (mSk T (mSk T i + 1)))) 526 3 + 1) (by show sQM t 0 (140 * t + y) _ _; unfold sQM sLM; omega))⟩
        · rw [ze, if_neg (mAtM_ne (i := (mSk T (mSk T i + 1))) (c := 58) (x := 58) hT rfl (by omega) (by omega) c58), m_bad b1.2.1 b1.1, qB_s]
          exact ze2
        · rw [qs_In (by omega), qs_Ie]
  · refine ⟨false, mSk T i, mNone, hjl, fun w => (by cases w), kOk.nil, ?_, ?_⟩
    · intro g l h hp hl h11
      obtain ⟨g1, ze, p1, f1⟩ := x_take (c := 121) hT h hp hi (by omega)
      rw [if_neg c121] at p1
      rw [decide_eq_false c121] at ze
      refine ⟨g1, 0, ?_, p1, fun w => (by cases w), f1.mono fun a k w => sLX_T w⟩
      unfold f_X5_clause
      rw [show (121 : Int32) = Int32.ofNat 121 from rfl, ze, qB_s, if_pos (by decide)]
      rfl
    · intro g t l y ht hy h ha hl h31
      obtain ⟨g1, ze, hv1, b1, f1⟩ := mh i g t l hi h ha
      obtain ⟨g2, ze2, e4, f2⟩ := m_40w (g := gsI g1 526 4 (Int32.ofNat (mSk T i))) (P := mSk T i) (y := Int32.ofNat (140 * t + y)) qs_Ie (by omega)
      refine ⟨g2, 0, ?_, fun w => (by cases w), fun _ => e4, ((f1.mono fun a k w => sQM_L (sLM_T w)).sI (by show sQM t 0 (140 * t + y) _ _; unfold sQM sLM; omega)).tr (f2.mono fun a k w => sQM_L (sLM_T w))⟩
      rw [he g t l y ht hy ha h31, ze, qB_s, if_neg (mAtM_ne (i := (mSk T i)) (c := 121) (x := 121) hT rfl (by omega) (by omega) c121), m_bad b1.2.1 b1.1, qB_s]
      exact ze2
end AX
