/-! ===== both sides: a LAW's TEXT: CONDITIONS ===== -/
theorem gsI_id {g : zSg} {a k : Nat} : gsI g a k (g.2.1 a k) = g := by
  obtain ⟨g1, g2, g3, g4⟩ := g
  refine Prod.ext rfl (Prod.ext (funext fun b => funext fun j => ?_) rfl)
  show (gsI (g1, g2, g3, g4) a k (g2 a k)).2.1 b j = g2 b j
  rw [qs_I]
  split
  · rename_i w; rw [w.1, w.2]
  · rfl
/-- nothing more is done where something is wrong -/
def jW (M : zSg → Option (Unit × zSg)) : Prop := ∀ g : zSg, ¬ gI g 526 4 = (-1 : Int32) → M g = some ((), g)
theorem jW.i {M : zSg → Option (Unit × zSg)} (h : jW M) : jI M := fun g P hP e => h g (by rw [show gI g 526 4 = _ from e]; exact qi_ne_m1 (by omega))
theorem jW_comp : jW f_X12_compare := fun g h => by
  unfold f_X12_compare f_X12_compare_16
  rw [if_pos h, show f_X12_isSign (-1) g = some (0, g) from rfl, qB_s, if_neg (fun w => w rfl)]
  unfold f_X12_bad f_X12_bad_20
  rw [if_pos h, qB_s]
  exact congrArg (fun x => some ((), x)) gsI_id
theorem jW_and {rs : zSg → Option (Unit × zSg)} : jW (f_X12_goOnAnd rs) := fun g h => by
  show fb_X12_goOnAnd_0 rs (f_X12_goOnAnd_0 rs 999999) g = _
  unfold fb_X12_goOnAnd_0
  rw [if_pos h]
theorem jW_or {rs : zSg → Option (Unit × zSg)} : jW (f_X12_goOnOr rs) := fun g h => by
  show fb_X12_goOnOr_0 rs (f_X12_goOnOr_0 rs 999999) g = _
  unfold fb_X12_goOnOr_0
  rw [if_pos h]
theorem zB_u {o : Option (Unit × zSg)} : zB o (fun _ g => some ((), g)) = o := by
  cases o with
  | none => rfl
  | some p => rfl
theorem zB_seq {X1 X2 : Int32 → zSg → Option (Int32 × zSg)} {x : Int32} {g : zSg} {F : Int32 → zSg → Option (Int32 × zSg)} (hF : ∀ g, F 0 g = some (0, g)) : zB (seqX X1 X2 x g) F = zB (X1 x g) (fun v g1 => if v = 0 then some (0, g1) else zB (X2 x g1) F) := by
  unfold seqX
  cases X1 x g with
  | none => rfl
  | some p =>
    show zB (if p.1 = 0 then some (0, p.2) else X2 x p.2) F = if p.1 = 0 then some (0, p.2) else zB (X2 x p.2) F
    by_cases e : p.1 = 0
    · rw [if_pos e, if_pos e]; exact hF p.2
    · rw [if_neg e, if_neg e]
theorem nrm_seq {X1 X2 : Int32 → zSg → Option (Int32 × zSg)} {x : Int32} {g : zSg} : nrm (seqX X1 X2 x g) = zB (X1 x g) (fun v g1 => if v = 0 then some (0, g1) else nrm (X2 x g1)) :=
  zB_seq (F := fun v g => if v = 0 then some ((0 : Int32), g) else some ((1 : Int32), g)) (fun g => if_pos rfl)
theorem zB_seqM {M1 M2 : zSg → Option (Unit × zSg)} {g : zSg} {F : Unit → zSg → Option (Unit × zSg)} : zB (seqM M1 M2 g) F = zB (M1 g) (fun _ g1 => zB (M2 g1) F) := by
  unfold seqM
  cases M1 g with
  | none => rfl
  | some p => rfl
section AU
variable {T : mTk}
theorem d_mu {d w1 w fb : Nat} {rsX : Int32 → zSg → Option (Int32 × zSg)} {rsM : zSg → Option (Unit × zSg)} (hT : mTpOk T) (h : jN T d w1 fb true rsX rsM) (hw : w1 + 1 ≤ w) (hfb : 241 ≤ fb) (hfb2 : fb + 1 ≤ 400) : jE T d w (fb + 1) true true (f_X5_moreUnits rsX) (f_X12_goOnAnd rsM) :=
  d_loop2 (c := 38) (X0 := rsX) (M0 := rsM) (XL := f_X5_moreUnits_2 rsX) (ML := f_X12_goOnAnd_0 rsM) hT (fun n y1 y2 g => rfl) (fun n g => rfl) (fun x g => rfl) (fun g => rfl) h (Or.inl rfl) hw (Nat.le_refl _) hfb hfb2
theorem d_mt {d w1 w fb : Nat} {rsX : Int32 → zSg → Option (Int32 × zSg)} {rsM : zSg → Option (Unit × zSg)} (hT : mTpOk T) (h : jN T d w1 fb true rsX rsM) (hw : w1 + 2 ≤ w) (hfb : 241 ≤ fb) (hfb2 : fb + 2 ≤ 400) : jE T d w (fb + 2) true true (f_X5_moreTruths rsX) (f_X12_goOnOr rsM) := by
  have e1 := d_mu (w := w1 + 1) hT h (Nat.le_refl _) hfb (by omega)
  have h1 := jN.seq hT h e1 (by omega) (by omega) jW_and.i
  have hXL : ∀ n y1 y2 g, f_X5_moreTruths_2 rsX (n + 1) y1 y2 g = (if 240 ≤ y2 then some (1, g) else zB (f_X9_take (Int32.ofNat 124) g) (fun v2 g3 => if v2 = 0 then some (1, g3) else zB (seqX rsX (f_X5_moreUnits rsX) y1 g3) (fun v6 g7 => if ¬ v6 = 0 then zB (f_X4_add 11 (- Int32.ofNat 124) g7) (fun v10 g11 => f_X5_moreTruths_2 rsX n y1 (y2 + 1) g11) else some (0, g7)))) := fun n y1 y2 g => by
    have key : ∀ g3, zB (seqX rsX (f_X5_moreUnits rsX) y1 g3) (fun v6 g7 => if ¬ v6 = 0 then zB (f_X4_add 11 (- Int32.ofNat 124) g7) (fun v10 g11 => f_X5_moreTruths_2 rsX n y1 (y2 + 1) g11) else some (0, g7)) = zB (rsX y1 g3) (fun v g1 => if v = 0 then some (0, g1) else zB (f_X5_moreUnits rsX y1 g1) (fun v6 g7 => if ¬ v6 = 0 then zB (f_X4_add 11 (- Int32.ofNat 124) g7) (fun v10 g11 => f_X5_moreTruths_2 rsX n y1 (y2 + 1) g11) else some (0, g7))) := fun g3 => zB_seq (fun g => if_neg (fun w => w rfl))
    simp only [key]
    rfl
  have hML : ∀ n g, f_X12_goOnOr_0 rsM (n + 1) g = (if ¬ (gI g 526 4) = (-1) then some ((), g) else zB (f_X12_look g) (fun v2 g3 => if ¬ v2 = Int32.ofNat 124 then some ((), g3) else zB (seqM rsM (f_X12_goOnAnd rsM) (gsI g3 526 3 ((gI g3 526 3) + 1))) (fun v6 g7 => zB (f_X12_put (Int32.ofNat (mCo 124)) 0 g7) (fun v9 g10 => f_X12_goOnOr_0 rsM n g10)))) := fun n g => by
    simp only [zB_seqM]
    rfl
  exact d_loop2 (c := 124) (X0 := seqX rsX (f_X5_moreUnits rsX)) (M0 := seqM rsM (f_X12_goOnAnd rsM)) (XL := f_X5_moreTruths_2 rsX) (ML := f_X12_goOnOr_0 rsM) hT hXL hML (fun x g => rfl) (fun g => rfl) h1 (Or.inr rfl) (by omega) (by omega) (by omega) hfb2
theorem d_cond {d fb : Nat} {rsX : Int32 → zSg → Option (Int32 × zSg)} {rsM : zSg → Option (Unit × zSg)} (hT : mTpOk T) (hd : d ≤ 6) (h : jN T d (16 - 2 * d) fb true rsX rsM) (hfb : 241 ≤ fb) (hfb2 : fb + 2 ≤ 400) : jN T d (18 - 2 * d) (fb + 2) true (f_X5_condition rsX) (f_X12_condition rsM) := by
  have e1 := d_mu (w := 18 - 2 * d) hT h (by omega) hfb (by omega)
  have e2 := d_mt (w := 18 - 2 * d) hT h (by omega) hfb hfb2
  have h2 := jN.seq hT (jN.seq hT h e1 (by omega) (by omega) jW_and.i) e2 (by omega) (by omega) jW_or.i
  refine h2.eq (fun g => ?_) (fun g => ?_)
  · have q1 : nrm (seqX (seqX rsX (f_X5_moreUnits rsX)) (f_X5_moreTruths rsX) (Int32.ofNat d) g) = zB (seqX rsX (f_X5_moreUnits rsX) (Int32.ofNat d) g) (fun v g1 => if v = 0 then some (0, g1) else nrm (f_X5_moreTruths rsX (Int32.ofNat d) g1)) := nrm_seq
    have q2 : zB (seqX rsX (f_X5_moreUnits rsX) (Int32.ofNat d) g) (fun v g1 => if v = 0 then some (0, g1) else nrm (f_X5_moreTruths rsX (Int32.ofNat d) g1)) = zB (rsX (Int32.ofNat d) g) (fun v g1 => if v = 0 then some (0, g1) else zB (f_X5_moreUnits rsX (Int32.ofNat d) g1) (fun v g1 => if v = 0 then some (0, g1) else nrm (f_X5_moreTruths rsX (Int32.ofNat d) g1))) := zB_seq (fun g => if_pos rfl)
    exact (q1.trans q2).symm
  · unfold f_X12_condition
    simp only [zB_u]
    exact (zB_seqM (M1 := rsM) (M2 := f_X12_goOnAnd rsM) (F := fun _ g1 => f_X12_goOnOr rsM g1)).symm
theorem d_unitb {d : Nat} {rsX : Int32 → zSg → Option (Int32 × zSg)} {rsM : zSg → Option (Unit × zSg)} (hT : mTpOk T) (hd : d ≤ 6) (h : d < 6 → jN T (d + 1) (14 - 2 * d) (259 - 2 * d) true rsX rsM) : jN T d (16 - 2 * d) (261 - 2 * d) true (f_X5_unit_b rsX) (f_X12_unit_b rsM) := by
  intro i hi
  have h240 := hT.1
  have hjl := mSk_le (T := T) hi
  have hjg := mSk_ge (T := T) (i := i)
  have hlt := mAt_lt (i := mSk T i) hT
  have xn : ∀ g l, vTpX T g → g.2.1 1 2 = Int32.ofNat i → g.2.1 11 2 = Int32.ofNat l → ∃ g1, f_X9_next g = some (Int32.ofNat (mAt T (mSk T i)), g1) ∧ vTpX T g1 ∧ g1.2.1 1 2 = Int32.ofNat (mSk T i) ∧ g1.2.1 11 2 = Int32.ofNat l ∧ qF (sLX l) g g1 := fun g l hv hp h11 => by
    obtain ⟨g1, ze, p1, f1⟩ := x_next hT hv hp hi
    exact ⟨g1, ze, hv.fr f1 (by unfold sTX; omega) (fun k => by unfold sTX; omega), p1, (f1.2.1 _ _ (by unfold sTX; omega)).trans h11, f1.mono fun a k w => sLX_T w⟩
  have mn : ∀ g t l, vTpM T g → vAtM i d t l g → ∃ g1, f_X12_look g = some (mAtM T (mSk T i), g1) ∧ vTpM T g1 ∧ vAtM (mSk T i) d t l g1 ∧ qF (sLM t l) g g1 := fun g t l hv ha => by
    obtain ⟨g1, ze, p1, f1⟩ := m_look hT hv ha.1 (by omega)
    exact ⟨g1, ze, hv.fr f1 (by omega) (fun k => by omega), ⟨p1, (f1.2.1 _ _ (by omega)).trans ha.2.1, (f1.2.1 _ _ (by omega)).trans ha.2.2.1, (f1.2.1 _ _ (by omega)).trans ha.2.2.2.1, (f1.2.1 _ _ (by omega)).trans ha.2.2.2.2⟩, f1.mono fun a k w => sLM_T w⟩
  have mop : ∀ g1 t l, d < 6 → vTpM T g1 → vAtM (mSk T i) d t l g1 → ∃ g2, f_X12_opens g1 = some ((), g2) ∧ vTpM T g2 ∧ vAtM (mSk T i + 1) (d + 1) t l g2 ∧ qF (sLM t l) g1 g2 := fun g1 t l hd6 hv b1 => by
    have F : qF (sLM t l) g1 (gsI (gsI g1 526 5 (Int32.ofNat (d + 1))) 526 3 (Int32.ofNat (mSk T i + 1))) := (qF.rfl'.sI (Or.inl ⟨rfl, by omega⟩)).sI (Or.inl ⟨rfl, by omega⟩)
    exact ⟨_, m_opens b1 hd6, hv.l F, ⟨qs_Ie, by rw [qs_In (by omega), qs_In (by omega)]; exact b1.2.1, (qs_In (by omega)).trans qs_Ie, by rw [qs_In (by omega), qs_In (by omega)]; exact b1.2.2.2.1, by rw [qs_In (by omega), qs_In (by omega)]; exact b1.2.2.2.2⟩, F⟩
  have d6 : d < 6 → Int32.ofNat d < (6 : Int32) := fun w => by rw [show (6 : Int32) = Int32.ofNat 6 from rfl, qi_lt (by omega) (by omega)]; exact w
  have nd6 : ¬ d < 6 → ¬ Int32.ofNat d < (6 : Int32) := fun w => by rw [show (6 : Int32) = Int32.ofNat 6 from rfl, qi_lt (by omega) (by omega)]; exact w
  by_cases c33 : mAt T (mSk T i) = 33
  · have em : mAtM T (mSk T i) = Int32.ofNat 33 := by rw [mAtM_eq hT (by omega) (by omega)]; exact c33
    have hin : mSk T i < T.1 := (mAt_in hT).mp (by omega)
    by_cases hd6 : d < 6
    · have xgo : ∀ g l, vTpX T g → g.2.1 1 2 = Int32.ofNat i → g.2.1 11 2 = Int32.ofNat l → ∃ g1, f_X5_unit_b rsX (Int32.ofNat d) g = zB (rsX (Int32.ofNat (d + 1)) g1) (fun v6 g7 => if ¬ v6 = 0 then zB (f_X4_add 11 (- Int32.ofNat 33) g7) (fun v10 g11 => some (1, g11)) else some (0, g7)) ∧ vTpX T g1 ∧ g1.2.1 1 2 = Int32.ofNat (mSk T i + 1) ∧ g1.2.1 11 2 = Int32.ofNat l ∧ qF (sLX l) g g1 := fun g l hv hp h11 => by
        obtain ⟨g1, ze, hv1, p1, q1, f1⟩ := xn g l hv hp h11
        have F : qF (sLX l) g (gsI g1 1 2 (Int32.ofNat (mSk T i + 1))) := f1.sI (Or.inl ⟨rfl, rfl⟩)
        refine ⟨gsI g1 1 2 (Int32.ofNat (mSk T i + 1)), ?_, hv.l F, qs_Ie, (qs_In (by omega)).trans q1, F⟩
        unfold f_X5_unit_b f_X5_unit_42 f_X9_skip
        rw [ze, qB_s, c33, if_pos (show Int32.ofNat 33 = (33 : Int32) from rfl), if_pos (d6 hd6), qB_s, if_pos (show ¬ Int32.ofNat 33 = (40 : Int32) by decide), show gI g1 1 2 + 1 = Int32.ofNat (mSk T i + 1) by rw [show gI g1 1 2 = Int32.ofNat (mSk T i) from p1]; exact qi_add _ 1, show Int32.ofNat d + 1 = Int32.ofNat (d + 1) from qi_add d 1, show (-33 : Int32) = - Int32.ofNat 33 from rfl]
      have mgo : ∀ g t l, vTpM T g → vAtM i d t l g → ∃ g1, f_X12_unit_b rsM g = zB (rsM g1) (fun v27 g28 => zB (f_X12_put 9 0 g28) (fun v30 g31 => some ((), (gsI g31 526 5 ((gI g31 526 5) - 1))))) ∧ vTpM T g1 ∧ vAtM (mSk T i + 1) (d + 1) t l g1 ∧ qF (sLM t l) g g1 := fun g t l hv ha => by
        obtain ⟨g1, ze, hv1, b1, f1⟩ := mn g t l hv ha
        obtain ⟨g2, ze2, hv2, b2, f2⟩ := mop g1 t l hd6 hv1 b1
        refine ⟨g2, ?_, hv2, b2, f1.tr f2⟩
        unfold f_X12_unit_b
        rw [ze, qB_s, em, if_neg (fun w => w rfl), ze2, qB_s, if_neg (fun w => w b2.2.1)]
      obtain ⟨ok1, P1, k1, v1, a1, a2, aX, aM⟩ := h hd6 (mSk T i + 1) (by omega)
      cases ok1 with
      | false =>
        refine ⟨false, P1, 0, v1, a1, fun w => (by cases w), ?_, ?_⟩
        · intro g l hv hp hl h11
          obtain ⟨g1, ze, hv1, p1, q1, f1⟩ := xgo g l hv hp h11
          obtain ⟨g2, ze2, p2, -, f2⟩ := aX g1 l hv1 p1 (by omega) q1
          refine ⟨g2, ?_, p2, fun w => (by cases w), f1.zX.tr f2⟩
          rw [ze, ze2, qB_s, if_neg (by decide)]
          rfl
        · intro g t l ht hv ha hl
          obtain ⟨g1, ze, hv1, b1, f1⟩ := mgo g t l hv ha
          obtain ⟨g2, ze2, -, a3, f2⟩ := aM g1 t l ht hv1 b1 (by omega)
          obtain ⟨fl1, fl2, l', fl3, fl4⟩ := a3 rfl
          obtain ⟨g3, ze3, -, -, p3, f3⟩ := m_put (x := 9) (y := 0) fl2 ht fl4 (by omega)
          have F3 : qF (sLM t 0) g g3 := f1.zM.tr (f2.tr (f3.mono fun a k w => by show sLM t 0 a k; unfold sLM; omega))
          refine ⟨gsI g3 526 5 (gI g3 526 5 - 1), ?_, fun w => (by cases w), fun _ => ⟨(qs_In (by omega)).trans ((f3.2.1 _ _ (by omega)).trans fl1), (qs_In (by omega)).trans ((f3.2.1 _ _ (by omega)).trans fl2), l' + 1, by omega, (qs_In (by omega)).trans p3⟩, F3.sI (Or.inl ⟨rfl, by omega⟩)⟩
          rw [ze, ze2, qB_s, ze3, qB_s]
      | true =>
        obtain ⟨a3, a4, a5, a6⟩ := a2 rfl
        have a6 := a6 rfl
        refine ⟨true, P1, k1 + 1, fun r => 1 - v1 r, a1, fun _ => ⟨by omega, by omega, fun r hr => ?_, fun _ r hr => ?_⟩, ?_, ?_⟩
        · show -1000000 ≤ 1 - v1 r ∧ 1 - v1 r ≤ 1000000
          have := a6 r hr
          omega
        · show 1 - v1 r = 0 ∨ 1 - v1 r = 1
          have := a6 r hr
          omega
        · intro g l hv hp hl h11
          obtain ⟨g1, ze, hv1, p1, q1, f1⟩ := xgo g l hv hp h11
          obtain ⟨g2, ze2, p2, r2, f2⟩ := aX g1 l hv1 p1 (by omega) q1
          obtain ⟨r3, r4⟩ := r2 rfl
          have f12 : qF (sLX l) g g2 := f1.tr f2
          have ze3 := x_addc (x := - Int32.ofNat 33) r3 (by omega)
          have F3 : qF (sLX l) g (gsI (gsI g2 13 (l + k1) (- Int32.ofNat 33)) 11 2 (Int32.ofNat (l + k1 + 1))) := (f12.sI (Or.inr (Or.inr ⟨rfl, by omega⟩))).sI (Or.inr (Or.inl ⟨rfl, rfl⟩))
          have s1 : xSeg ((gsI (gsI g2 13 (l + k1) (- Int32.ofNat 33)) 11 2 (Int32.ofNat (l + k1 + 1))).2.1 13) l (l + k1) (14 - 2 * d) v1 := r4.cp fun q q1 q2 => by rw [qs_In (by omega), qs_In (by omega)]
          have s3 := (xSeg_not s1 (by rw [qs_In (by omega), qs_Ie]) a6 (by omega)).up (show 14 - 2 * d ≤ 16 - 2 * d by omega)
          refine ⟨_, ?_, by rw [qs_In (by omega), qs_In (by omega)]; exact p2, fun _ => ⟨by rw [qs_Ie]; rfl, s3⟩, F3⟩
          rw [ze, ze2, qB_s, if_pos (by decide), ze3, qB_s]
          rfl
        · intro g t l ht hv ha hl
          obtain ⟨g1, ze, hv1, b1, f1⟩ := mgo g t l hv ha
          obtain ⟨g2, ze2, r2, -, f2⟩ := aM g1 t l ht hv1 b1 (by omega)
          obtain ⟨r3, r4⟩ := r2 rfl
          have f12 : qF (sLM t l) g g2 := f1.tr f2
          obtain ⟨g3, ze3, k3, -, p3, f3⟩ := m_put (x := 9) (y := 0) r3.2.2.2.1 ht r3.2.2.2.2 (by omega)
          have e5 : gI g3 526 5 - 1 = Int32.ofNat d := by
            rw [show gI g3 526 5 = Int32.ofNat (d + 1) from (f3.2.1 _ _ (by omega)).trans r3.2.2.1]
            exact qi_sub (a := d + 1) (b := 1) (by omega)
          have F3 : qF (sLM t l) g (gsI g3 526 5 (Int32.ofNat d)) := (f12.tr (f3.mono fun a q w => by unfold sLM; omega)).sI (Or.inl ⟨rfl, by omega⟩)
          have s1 : mSeg t ((gsI g3 526 5 (Int32.ofNat d)).2.1 528) ((gsI g3 526 5 (Int32.ofNat d)).2.1 529) l (l + k1) (14 - 2 * d) v1 := r4.cp fun q q1 q2 => ⟨by rw [qs_In (by omega)]; exact f3.2.1 _ _ (by omega), by rw [qs_In (by omega)]; exact f3.2.1 _ _ (by omega)⟩
          have s3 := (mSeg_not s1 ((qs_In (by omega)).trans k3) a6 (by omega) ht).up (show 14 - 2 * d ≤ 16 - 2 * d by omega)
          refine ⟨_, ?_, fun _ => ⟨⟨(qs_In (by omega)).trans ((f3.2.1 _ _ (by omega)).trans r3.1), (qs_In (by omega)).trans ((f3.2.1 _ _ (by omega)).trans r3.2.1), qs_Ie, (qs_In (by omega)).trans ((f3.2.1 _ _ (by omega)).trans r3.2.2.2.1), (qs_In (by omega)).trans p3⟩, s3⟩, fun w => (by cases w), F3⟩
          rw [ze, ze2, qB_s, ze3, qB_s, e5]
    · refine ⟨false, mSk T i, 0, fun _ => 0, hjl, fun w => (by cases w), ?_, ?_⟩
      · intro g l hv hp hl h11
        obtain ⟨g1, ze, hv1, p1, q1, f1⟩ := xn g l hv hp h11
        refine ⟨g1, ?_, p1, fun w => (by cases w), f1.zX⟩
        unfold f_X5_unit_b f_X5_unit_42
        rw [ze, qB_s, c33, if_pos (show Int32.ofNat 33 = (33 : Int32) from rfl), if_neg (nd6 hd6)]
        rfl
      · intro g t l ht hv ha hl
        obtain ⟨g1, ze, hv1, b1, f1⟩ := mn g t l hv ha
        have e6 : d = 6 := by omega
        have b6 : vAtM (mSk T i) 6 t l g1 := e6 ▸ b1
        obtain ⟨g2, ze2, e4, f2⟩ := m_opens6 b6 (by omega)
        refine ⟨g2, ?_, fun w => (by cases w), fun _ => ⟨e4, (f2.2.1 _ _ (by omega)).trans b1.2.2.2.1, l, by omega, (f2.2.1 _ _ (by omega)).trans b1.2.2.2.2⟩, f1.zM.tr (f2.mono fun a k w => Or.inl w)⟩
        unfold f_X12_unit_b
        rw [ze, qB_s, em, if_neg (fun w => w rfl), ze2, qB_s, if_pos (show ¬ gI g2 526 4 = (-1 : Int32) by rw [show gI g2 526 4 = _ from e4]; exact qi_ne_m1 (by omega))]
  · by_cases c40 : mAt T (mSk T i) = 40
    · have em : mAtM T (mSk T i) = Int32.ofNat 40 := by rw [mAtM_eq hT (by omega) (by omega)]; exact c40
      have hin : mSk T i < T.1 := (mAt_in hT).mp (by omega)
      by_cases hd6 : d < 6
      · have hC : jN T (d + 1) (16 - 2 * d) (261 - 2 * d) true (f_X5_condition rsX) (f_X12_condition rsM) := by
          have hh : jN T (d + 1) (16 - 2 * (d + 1)) (259 - 2 * d) true rsX rsM := by rw [show 16 - 2 * (d + 1) = 14 - 2 * d by omega]; exact h hd6
          have := d_cond hT (by omega) hh (by omega) (by omega)
          rw [show 18 - 2 * (d + 1) = 16 - 2 * d by omega, show 259 - 2 * d + 2 = 261 - 2 * d by omega] at this
          exact this
        have xgo : ∀ g l, vTpX T g → g.2.1 1 2 = Int32.ofNat i → g.2.1 11 2 = Int32.ofNat l → ∃ g1, f_X5_unit_b rsX (Int32.ofNat d) g = zB (f_X5_condition rsX (Int32.ofNat (d + 1)) g1) (fun v13 g14 => if v13 = 0 then some (0, g14) else zB (f_X9_take (Int32.ofNat 41) g14) (fun v17 g18 => if v17 = 0 then some (0, g18) else some (1, g18))) ∧ vTpX T g1 ∧ g1.2.1 1 2 = Int32.ofNat (mSk T i + 1) ∧ g1.2.1 11 2 = Int32.ofNat l ∧ qF (sLX l) g g1 := fun g l hv hp h11 => by
          obtain ⟨g1, ze, hv1, p1, q1, f1⟩ := xn g l hv hp h11
          have F : qF (sLX l) g (gsI g1 1 2 (Int32.ofNat (mSk T i + 1))) := f1.sI (Or.inl ⟨rfl, rfl⟩)
          refine ⟨gsI g1 1 2 (Int32.ofNat (mSk T i + 1)), ?_, hv.l F, qs_Ie, (qs_In (by omega)).trans q1, F⟩
          unfold f_X5_unit_b f_X5_unit_42 f_X9_skip
          rw [ze, qB_s, c40, if_neg (show ¬ Int32.ofNat 40 = (33 : Int32) by decide), if_pos (show Int32.ofNat 40 = (40 : Int32) from rfl), if_pos (d6 hd6), qB_s, if_neg (fun w => w rfl), show gI g1 1 2 + 1 = Int32.ofNat (mSk T i + 1) by rw [show gI g1 1 2 = Int32.ofNat (mSk T i) from p1]; exact qi_add _ 1, show Int32.ofNat d + 1 = Int32.ofNat (d + 1) from qi_add d 1, show (41 : Int32) = Int32.ofNat 41 from rfl]
        have mgo : ∀ g t l, vTpM T g → vAtM i d t l g → ∃ g1, f_X12_unit_b rsM g = zB (f_X12_condition rsM g1) (fun v17 g18 => zB (f_X12_closes (Int32.ofNat 41) g18) (fun v20 g21 => some ((), g21))) ∧ vTpM T g1 ∧ vAtM (mSk T i + 1) (d + 1) t l g1 ∧ qF (sLM t l) g g1 := fun g t l hv ha => by
          obtain ⟨g1, ze, hv1, b1, f1⟩ := mn g t l hv ha
          obtain ⟨g2, ze2, hv2, b2, f2⟩ := mop g1 t l hd6 hv1 b1
          refine ⟨g2, ?_, hv2, b2, f1.tr f2⟩
          unfold f_X12_unit_b
          rw [ze, qB_s, em, if_pos (show ¬ Int32.ofNat 40 = (33 : Int32) by decide), if_neg (fun w => w rfl), ze2, qB_s, if_neg (fun w => w b2.2.1), show (41 : Int32) = Int32.ofNat 41 from rfl]
        obtain ⟨ok1, P1, k1, v1, a1, a2, aX, aM⟩ := hC (mSk T i + 1) (by omega)
        have hPl := mSk_le (T := T) a1
        have hPg := mSk_ge (T := T) (i := P1)
        cases ok1 with
        | false =>
          refine ⟨false, P1, 0, v1, a1, fun w => (by cases w), ?_, ?_⟩
          · intro g l hv hp hl h11
            obtain ⟨g1, ze, hv1, p1, q1, f1⟩ := xgo g l hv hp h11
            obtain ⟨g2, ze2, p2, -, f2⟩ := aX g1 l hv1 p1 (by omega) q1
            refine ⟨g2, ?_, p2, fun w => (by cases w), f1.zX.tr f2⟩
            rw [ze, ze2, qB_s, if_pos (by decide)]
            rfl
          · intro g t l ht hv ha hl
            obtain ⟨g1, ze, hv1, b1, f1⟩ := mgo g t l hv ha
            obtain ⟨g2, ze2, -, a3, f2⟩ := aM g1 t l ht hv1 b1 (by omega)
            have fl := a3 rfl
            obtain ⟨g3, ze3, e4, f3⟩ := m_closes0 (c := Int32.ofNat 41) fl.1 (by omega)
            refine ⟨g3, ?_, fun w => (by cases w), fun _ => fl.fr f3 e4 (by omega) (by omega) (Nat.le_refl _), f1.zM.tr (f2.tr (f3.mono fun a k w => Or.inl ⟨w.1, by omega⟩))⟩
            rw [ze, ze2, qB_s, ze3, qB_s]
        | true =>
          obtain ⟨a3, a4, a5, a6⟩ := a2 rfl
          by_cases q41 : mAt T (mSk T P1) = 41
          · have hinP : mSk T P1 < T.1 := (mAt_in hT).mp (by omega)
            refine ⟨true, mSk T P1 + 1, k1, v1, by omega, fun _ => ⟨by omega, a4, a5, a6⟩, ?_, ?_⟩
            · intro g l hv hp hl h11
              obtain ⟨g1, ze, hv1, p1, q1, f1⟩ := xgo g l hv hp h11
              obtain ⟨g2, ze2, p2, r2, f2⟩ := aX g1 l hv1 p1 (by omega) q1
              obtain ⟨r3, r4⟩ := r2 rfl
              have hv2 : vTpX T g2 := hv1.l f2
              obtain ⟨g3, ze3, p3, f3⟩ := x_take (c := 41) hT hv2 p2 a1 (by omega)
              rw [if_pos q41] at p3
              rw [decide_eq_true q41] at ze3
              have f12 : qF (sLX l) g g2 := f1.tr f2
              refine ⟨g3, ?_, p3, fun _ => ⟨(f3.2.1 _ _ (by unfold sTX; omega)).trans r3, r4.cp fun q _ _ => f3.2.1 _ _ (by unfold sTX; omega)⟩, f12.tr (f3.mono fun a k w => sLX_T w)⟩
              rw [ze, ze2, qB_s, if_neg (by decide), ze3, qB_s, if_neg (by decide)]
              rfl
            · intro g t l ht hv ha hl
              obtain ⟨g1, ze, hv1, b1, f1⟩ := mgo g t l hv ha
              obtain ⟨g2, ze2, r2, -, f2⟩ := aM g1 t l ht hv1 b1 (by omega)
              obtain ⟨r3, r4⟩ := r2 rfl
              have hv2 : vTpM T g2 := hv1.l f2
              obtain ⟨g3, ze3, w1, -, f3⟩ := m_closes1 (c := 41) hT hv2 r3 a1 (by omega) (by omega) (by omega)
              have f12 : qF (sLM t l) g g2 := f1.tr f2
              refine ⟨g3, ?_, fun _ => ⟨w1 q41, r4.cp fun q _ _ => ⟨f3.2.1 _ _ (by omega), f3.2.1 _ _ (by omega)⟩⟩, fun w => (by cases w), f12.tr (f3.mono fun a k w => Or.inl w)⟩
              rw [ze, ze2, qB_s, ze3, qB_s]
          · refine ⟨false, mSk T P1, 0, v1, hPl, fun w => (by cases w), ?_, ?_⟩
            · intro g l hv hp hl h11
              obtain ⟨g1, ze, hv1, p1, q1, f1⟩ := xgo g l hv hp h11
              obtain ⟨g2, ze2, p2, r2, f2⟩ := aX g1 l hv1 p1 (by omega) q1
              have hv2 : vTpX T g2 := hv1.l f2
              obtain ⟨g3, ze3, p3, f3⟩ := x_take (c := 41) hT hv2 p2 a1 (by omega)
              rw [if_neg q41] at p3
              rw [decide_eq_false q41] at ze3
              have f12 : qF (sLX l) g g2 := f1.tr f2
              refine ⟨g3, ?_, p3, fun w => (by cases w), f12.zX.tr (f3.mono fun a k w => sLX_T w)⟩
              rw [ze, ze2, qB_s, if_neg (by decide), ze3, qB_s, if_pos (by decide)]
              rfl
            · intro g t l ht hv ha hl
              obtain ⟨g1, ze, hv1, b1, f1⟩ := mgo g t l hv ha
              obtain ⟨g2, ze2, r2, -, f2⟩ := aM g1 t l ht hv1 b1 (by omega)
              obtain ⟨r3, r4⟩ := r2 rfl
              have hv2 : vTpM T g2 := hv1.l f2
              obtain ⟨g3, ze3, -, w2, f3⟩ := m_closes1 (c := 41) hT hv2 r3 a1 (by omega) (by omega) (by omega)
              have f12 : qF (sLM t l) g g2 := f1.tr f2
              refine ⟨g3, ?_, fun w => (by cases w), fun _ => ⟨w2 q41, (f3.2.1 _ _ (by omega)).trans r3.2.2.2.1, l + k1, by omega, (f3.2.1 _ _ (by omega)).trans r3.2.2.2.2⟩, f12.zM.tr (f3.mono fun a k w => Or.inl w)⟩
              rw [ze, ze2, qB_s, ze3, qB_s]
      · refine ⟨false, mSk T i, 0, fun _ => 0, hjl, fun w => (by cases w), ?_, ?_⟩
        · intro g l hv hp hl h11
          obtain ⟨g1, ze, hv1, p1, q1, f1⟩ := xn g l hv hp h11
          refine ⟨g1, ?_, p1, fun w => (by cases w), f1.zX⟩
          unfold f_X5_unit_b f_X5_unit_42
          rw [ze, qB_s, c40, if_neg (show ¬ Int32.ofNat 40 = (33 : Int32) by decide), if_pos (show Int32.ofNat 40 = (40 : Int32) from rfl), if_neg (nd6 hd6)]
          rfl
        · intro g t l ht hv ha hl
          obtain ⟨g1, ze, hv1, b1, f1⟩ := mn g t l hv ha
          have e6 : d = 6 := by omega
          have b6 : vAtM (mSk T i) 6 t l g1 := e6 ▸ b1
          obtain ⟨g2, ze2, e4, f2⟩ := m_opens6 b6 (by omega)
          refine ⟨g2, ?_, fun w => (by cases w), fun _ => ⟨e4, (f2.2.1 _ _ (by omega)).trans b1.2.2.2.1, l, by omega, (f2.2.1 _ _ (by omega)).trans b1.2.2.2.2⟩, f1.zM.tr (f2.mono fun a k w => Or.inl w)⟩
          unfold f_X12_unit_b
          rw [ze, qB_s, em, if_pos (show ¬ Int32.ofNat 40 = (33 : Int32) by decide), if_neg (fun w => w rfl), ze2, qB_s, if_pos (show ¬ gI g2 526 4 = (-1 : Int32) by rw [show gI g2 526 4 = _ from e4]; exact qi_ne_m1 (by omega))]
    · have hq := jN.seq hT (d_sum hT (6 - d) d zDp (by omega) (by show _ < 24; omega)) (d_comp hT hd (Nat.le_refl _)) (by omega) (by omega) jW_comp.i
      obtain ⟨ok, P, k, v, a1, a2, aX, aM⟩ := hq (mSk T i) hjl
      refine ⟨ok, P, k, v, a1, fun w => ⟨by have := (a2 w).1; omega, (a2 w).2⟩, ?_, ?_⟩
      · intro g l hv hp hl h11
        obtain ⟨g1, ze, hv1, p1, q1, f1⟩ := xn g l hv hp h11
        obtain ⟨g2, ze2, p2, r2, f2⟩ := aX g1 l hv1 p1 (by omega) q1
        refine ⟨g2, ?_, p2, r2, ?_⟩
        · unfold f_X5_unit_b
          rw [ze, qB_s, if_neg (show ¬ Int32.ofNat (mAt T (mSk T i)) = (33 : Int32) from q_ne (d := 33) (by omega) (by omega) c33), if_neg (show ¬ Int32.ofNat (mAt T (mSk T i)) = (40 : Int32) from q_ne (d := 40) (by omega) (by omega) c40)]
          have e : nrm (seqX (f_X5_sum zDp) f_X5_comparison (Int32.ofNat d) g1) = zB (f_X5_sum zDp (Int32.ofNat d) g1) (fun v g1 => if v = 0 then some (0, g1) else nrm (f_X5_comparison (Int32.ofNat d) g1)) := nrm_seq
          rw [ze2, nrm_B] at e
          exact e.symm
        · cases ok
          · exact (qF.zX (l := l) f1).tr f2
          · exact qF.tr f1 f2
      · intro g t l ht hv ha hl
        obtain ⟨g1, ze, hv1, b1, f1⟩ := mn g t l hv ha
        obtain ⟨g2, ze2, r1, r2, f2⟩ := aM g1 t l ht hv1 b1 (by omega)
        refine ⟨g2, ?_, r1, r2, ?_⟩
        · unfold f_X12_unit_b
          rw [ze, qB_s, if_pos (mAtM_ne (i := (mSk T i)) (c := 33) (x := 33) hT rfl (by omega) (by omega) c33), if_pos (mAtM_ne (i := (mSk T i)) (c := 40) (x := 40) hT rfl (by omega) (by omega) c40), ← ze2]
          unfold seqM
          cases f_X12_sum zDp g1 with
          | none => rfl
          | some p =>
            show (if ¬ gI p.2 526 4 = (-1 : Int32) then some ((), p.2) else zB (f_X12_compare p.2) (fun _ g11 => some ((), g11))) = f_X12_compare p.2
            by_cases e : gI p.2 526 4 = (-1 : Int32)
            · rw [if_neg (fun w => w e), zB_u]
            · rw [if_pos e, jW_comp p.2 e]
        · cases ok
          · exact (qF.zM (t := t) (l := l) f1).tr f2
          · exact qF.tr f1 f2
theorem d_unit (hT : mTpOk T) : ∀ (e d m : Nat), d + e = 6 → e < m → jN T d (16 - 2 * d) (261 - 2 * d) true (f_X5_unit m) (f_X12_unit m)
  | 0, d, m, he, hm => by
    obtain ⟨m, rfl⟩ : ∃ m', m = m' + 1 := ⟨m - 1, by omega⟩
    exact d_unitb (rsX := f_X5_unit m) (rsM := f_X12_unit m) hT (by omega) (fun w => by omega)
  | e + 1, d, m, he, hm => by
    obtain ⟨m, rfl⟩ : ∃ m', m = m' + 1 := ⟨m - 1, by omega⟩
    have ih := d_unit hT e (d + 1) m (by omega) (by omega)
    rw [show 16 - 2 * (d + 1) = 14 - 2 * d by omega, show 261 - 2 * (d + 1) = 259 - 2 * d by omega] at ih
    exact d_unitb (rsX := f_X5_unit m) (rsM := f_X12_unit m) hT (by omega) (fun _ => ih)
end AU
