/-! ===== both sides: a LAW's TEXT: one behind another; SUMS ===== -/
/-- what goes on from what was read -/
def jE (T : mTk) (d w fb : Nat) (pt qt : Bool) (X : Int32 → zSg → Option (Int32 × zSg)) (M : zSg → Option (Unit × zSg)) : Prop := ∀ (i0 i k : Nat) (v : mV), i ≤ T.1 → i0 + k ≤ i → 1 ≤ k → mVb v → (pt = true → mVt v) → ∃ (ok : Bool) (P k' : Nat) (v' : mV), P ≤ T.1 ∧ (ok = true → i ≤ P ∧ i0 + k' ≤ P ∧ 1 ≤ k' ∧ mVb v' ∧ (qt = true → mVt v')) ∧
    (∀ g l, vTpX T g → g.2.1 1 2 = Int32.ofNat i → l ≤ i0 → g.2.1 11 2 = Int32.ofNat (l + k) → xSeg (g.2.1 13) l (l + k) w v → ∃ g', X (Int32.ofNat d) g = some (mB ok, g') ∧ g'.2.1 1 2 = Int32.ofNat P ∧ (ok = true → g'.2.1 11 2 = Int32.ofNat (l + k') ∧ xSeg (g'.2.1 13) l (l + k') w v') ∧ qF (sLX (cond ok l 0)) g g') ∧
    (∀ g t l, t < 5 → vTpM T g → vAtM i d t (l + k) g → l ≤ i0 → mSeg t (g.2.1 528) (g.2.1 529) l (l + k) w v → ∃ g', M g = some ((), g') ∧ (ok = true → vAtM P d t (l + k') g' ∧ mSeg t (g'.2.1 528) (g'.2.1 529) l (l + k') w v') ∧ (ok = false → vFl P t fb g') ∧ qF (sLM t (cond ok l 0)) g g')
def jI (M : zSg → Option (Unit × zSg)) : Prop := ∀ (g : zSg) (P : Nat), P < 1000 → g.2.1 526 4 = Int32.ofNat P → M g = some ((), g)
def seqX (X1 X2 : Int32 → zSg → Option (Int32 × zSg)) (x : Int32) (g : zSg) : Option (Int32 × zSg) := zB (X1 x g) (fun v g1 => if v = 0 then some (0, g1) else X2 x g1)
def seqM (M1 M2 : zSg → Option (Unit × zSg)) (g : zSg) : Option (Unit × zSg) := zB (M1 g) (fun _ g1 => M2 g1)
def nrm (o : Option (Int32 × zSg)) : Option (Int32 × zSg) := zB o (fun v g => if v = 0 then some (0, g) else some (1, g))
theorem nrm_B {b : Bool} {g : zSg} : nrm (some (mB b, g)) = some (mB b, g) := by cases b <;> rfl
theorem nrm_b {o : Option (Int32 × zSg)} {f : Int32 → zSg → Option (Int32 × zSg)} : nrm (zB o f) = zB o (fun v g => nrm (f v g)) := by cases o <;> rfl
theorem nrm_i {c : Prop} [Decidable c] {g : zSg} {b : Option (Int32 × zSg)} : nrm (if c then some (0, g) else b) = if c then some (0, g) else nrm b := by
  by_cases h : c
  · rw [if_pos h, if_pos h]; rfl
  · rw [if_neg h, if_neg h]
section AS
variable {T : mTk}
theorem jN.seq {d w1 w fb1 fb : Nat} {pt qt : Bool} {X1 X2 : Int32 → zSg → Option (Int32 × zSg)} {M1 M2 : zSg → Option (Unit × zSg)} (hT : mTpOk T) (h1 : jN T d w1 fb1 pt X1 M1) (h2 : jE T d w fb pt qt X2 M2) (hw : w1 ≤ w) (hf : fb1 ≤ fb) (hI : jI M2) : jN T d w fb qt (seqX X1 X2) (seqM M1 M2) := by
  intro i hi
  have h240 := hT.1
  obtain ⟨ok1, P1, k1, v1, a1, a2, aX, aM⟩ := h1 i hi
  cases ok1 with
  | false =>
    refine ⟨false, P1, 0, v1, a1, fun w => (by cases w), ?_, ?_⟩
    · intro g l h hp hl h11
      obtain ⟨g1, ze, p1, -, f1⟩ := aX g l h hp hl h11
      refine ⟨g1, ?_, p1, fun w => (by cases w), f1⟩
      unfold seqX
      rw [ze, qB_s, if_pos (by decide)]
      rfl
    · intro g t l ht h ha hl
      obtain ⟨g1, ze, -, a3, f1⟩ := aM g t l ht h ha hl
      obtain ⟨b1, b2, l', b3, b4⟩ := a3 rfl
      refine ⟨g1, ?_, fun w => (by cases w), fun _ => ⟨b1, b2, l', by omega, b4⟩, f1⟩
      unfold seqM
      rw [ze, qB_s]
      exact hI g1 P1 (by omega) b1
  | true =>
    obtain ⟨a3, a4, a5, a6⟩ := a2 rfl
    obtain ⟨ok, P, k', v', c1, c2, cX, cM⟩ := h2 i P1 k1 v1 a1 a3 a4 a5 a6
    refine ⟨ok, P, k', v', c1, fun w => ⟨(c2 w).2.1, (c2 w).2.2.1, (c2 w).2.2.2.1, (c2 w).2.2.2.2⟩, ?_, ?_⟩
    · intro g l h hp hl h11
      obtain ⟨g1, ze, p1, r1, f1⟩ := aX g l h hp hl h11
      obtain ⟨r2, r3⟩ := r1 rfl
      obtain ⟨g2, ze2, p2, r4, f2⟩ := cX g1 l (h.l f1) p1 hl r2 (r3.up hw)
      refine ⟨g2, ?_, p2, r4, ?_⟩
      · unfold seqX
        rw [ze, qB_s, if_neg (by decide)]
        exact ze2
      · cases ok
        · exact (qF.zX (l := l) f1).tr f2
        · exact qF.tr f1 f2
    · intro g t l ht h ha hl
      obtain ⟨g1, ze, r1, -, f1⟩ := aM g t l ht h ha hl
      obtain ⟨r2, r3⟩ := r1 rfl
      obtain ⟨g2, ze2, r4, r5, f2⟩ := cM g1 t l ht (h.l f1) r2 hl (r3.up hw)
      refine ⟨g2, ?_, r4, r5, ?_⟩
      · unfold seqM
        rw [ze, qB_s]
        exact ze2
      · cases ok
        · exact (qF.zM (t := t) (l := l) f1).tr f2
        · exact qF.tr f1 f2
theorem jE.seq {d w fb1 fb : Nat} {pt qt rt : Bool} {X1 X2 : Int32 → zSg → Option (Int32 × zSg)} {M1 M2 : zSg → Option (Unit × zSg)} (hT : mTpOk T) (h1 : jE T d w fb1 pt qt X1 M1) (h2 : jE T d w fb qt rt X2 M2) (hf : fb1 ≤ fb) (hI : jI M2) : jE T d w fb pt rt (seqX X1 X2) (seqM M1 M2) := by
  intro i0 i k v hi hk hk1 hv hvt
  have h240 := hT.1
  obtain ⟨ok1, P1, k1, v1, a1, a2, aX, aM⟩ := h1 i0 i k v hi hk hk1 hv hvt
  cases ok1 with
  | false =>
    refine ⟨false, P1, 0, v1, a1, fun w => (by cases w), ?_, ?_⟩
    · intro g l h hp hl h11 hs
      obtain ⟨g1, ze, p1, -, f1⟩ := aX g l h hp hl h11 hs
      refine ⟨g1, ?_, p1, fun w => (by cases w), f1⟩
      unfold seqX
      rw [ze, qB_s, if_pos (by decide)]
      rfl
    · intro g t l ht h ha hl hs
      obtain ⟨g1, ze, -, a3, f1⟩ := aM g t l ht h ha hl hs
      obtain ⟨b1, b2, l', b3, b4⟩ := a3 rfl
      refine ⟨g1, ?_, fun w => (by cases w), fun _ => ⟨b1, b2, l', by omega, b4⟩, f1⟩
      unfold seqM
      rw [ze, qB_s]
      exact hI g1 P1 (by omega) b1
  | true =>
    obtain ⟨a3, a4, a5, a6, a7⟩ := a2 rfl
    obtain ⟨ok, P, k', v', c1, c2, cX, cM⟩ := h2 i0 P1 k1 v1 a1 a4 a5 a6 a7
    refine ⟨ok, P, k', v', c1, fun w => ⟨by have := (c2 w).1; omega, (c2 w).2⟩, ?_, ?_⟩
    · intro g l h hp hl h11 hs
      obtain ⟨g1, ze, p1, r1, f1⟩ := aX g l h hp hl h11 hs
      obtain ⟨r2, r3⟩ := r1 rfl
      obtain ⟨g2, ze2, p2, r4, f2⟩ := cX g1 l (h.l f1) p1 hl r2 r3
      refine ⟨g2, ?_, p2, r4, ?_⟩
      · unfold seqX
        rw [ze, qB_s, if_neg (by decide)]
        exact ze2
      · cases ok
        · exact (qF.zX (l := l) f1).tr f2
        · exact qF.tr f1 f2
    · intro g t l ht h ha hl hs
      obtain ⟨g1, ze, r1, -, f1⟩ := aM g t l ht h ha hl hs
      obtain ⟨r2, r3⟩ := r1 rfl
      obtain ⟨g2, ze2, r4, r5, f2⟩ := cM g1 t l ht (h.l f1) r2 hl r3
      refine ⟨g2, ?_, r4, r5, ?_⟩
      · unfold seqM
        rw [ze, qB_s]
        exact ze2
      · cases ok
        · exact (qF.zM (t := t) (l := l) f1).tr f2
        · exact qF.tr f1 f2
theorem jN.eq {d w fb : Nat} {tv : Bool} {X X' : Int32 → zSg → Option (Int32 × zSg)} {M M' : zSg → Option (Unit × zSg)} (h : jN T d w fb tv X M) (hX : ∀ g, X' (Int32.ofNat d) g = nrm (X (Int32.ofNat d) g)) (hM : ∀ g, M' g = M g) : jN T d w fb tv X' M' := by
  intro i hi
  obtain ⟨ok, P, k, v, a1, a2, aX, aM⟩ := h i hi
  refine ⟨ok, P, k, v, a1, a2, ?_, ?_⟩
  · intro g l h hp hl h11
    obtain ⟨g1, ze, q⟩ := aX g l h hp hl h11
    exact ⟨g1, by rw [hX, ze, nrm_B], q⟩
  · intro g t l ht h ha hl
    rw [hM]
    exact aM g t l ht h ha hl
theorem d_first {d w w1 fb0 fb c1 c2 : Nat} {X X0 : Int32 → zSg → Option (Int32 × zSg)} {M M0 : zSg → Option (Unit × zSg)} {XL : Nat → Int32 → Int32 → Int32 → zSg → Option (Int32 × zSg)} {ML : Nat → Int32 → zSg → Option (Unit × zSg)} (hT : mTpOk T)
    (hXL : ∀ n y1 y2 y3 g, XL (n + 1) y1 y2 y3 g = (if y2 = 0 then (if y2 = 0 ∨ y2 = 1 then some (y2, g) else none) else (if 240 ≤ y3 then (if y2 = 0 ∨ y2 = 1 then some (y2, g) else none) else zB (f_X9_next g) (fun v5 g6 => if v5 = Int32.ofNat c1 then lpX X0 (XL n) y1 y3 v5 g6 else (if v5 = Int32.ofNat c2 then lpX X0 (XL n) y1 y3 v5 g6 else (if y2 = 0 ∨ y2 = 1 then some (y2, g6) else none))))))
    (hML : ∀ n y1 g, ML (n + 1) y1 g = (if y1 = Int32.ofNat c1 then lpQ c1 (Int32.ofNat (mCo c1)) (Int32.ofNat (mCo c2)) M0 (ML n) y1 g else (if ¬ y1 = Int32.ofNat c2 then some ((), g) else lpQ c1 (Int32.ofNat (mCo c1)) (Int32.ofNat (mCo c2)) M0 (ML n) y1 g)))
    (hX : ∀ x g, X x g = zB (X0 x g) (fun v g2 => XL zFu x v 0 g2)) (hM : ∀ g, M g = zB (M0 g) (fun _ g2 => if ¬ (gI g2 526 4) = (-1) then ML zFu (-1) g2 else zB (f_X12_look g2) (fun v5 g6 => ML zFu v5 g6)))
    (h0 : jN T d w1 fb0 false X0 M0) (hc1 : c1 = 43 ∨ c1 = 42) (hc2 : c2 = 45 ∨ c2 = 47) (hw1 : w1 + 1 ≤ w) (hfb : fb0 + 1 ≤ fb) (hfb0 : 241 ≤ fb0) (hfb2 : fb ≤ 400) : jN T d w fb false X M := by
  intro i hi
  have h240 := hT.1
  obtain ⟨ok1, P1, k1, v1, a1, a2, aX, aM⟩ := h0 i hi
  cases ok1 with
  | false =>
    refine ⟨false, P1, 0, v1, a1, fun w => (by cases w), ?_, ?_⟩
    · intro g l h hp hl h11
      obtain ⟨g1, ze, p1, -, f1⟩ := aX g l h hp hl h11
      refine ⟨g1, ?_, p1, fun w => (by cases w), f1⟩
      rw [hX, ze, qB_s]
      show XL (999999 + 1) (Int32.ofNat d) (mB false) 0 g1 = _
      rw [hXL, if_pos (by decide), if_pos (Or.inl (by decide))]
    · intro g t l ht h ha hl
      obtain ⟨g1, ze, -, a3, f1⟩ := aM g t l ht h ha hl
      obtain ⟨b1, b2, l', b3, b4⟩ := a3 rfl
      refine ⟨g1, ?_, fun w => (by cases w), fun _ => ⟨b1, b2, l', by omega, b4⟩, f1⟩
      rw [hM, ze, qB_s, if_pos (show ¬ gI g1 526 4 = (-1 : Int32) by rw [show gI g1 526 4 = _ from b1]; exact qi_ne_m1 (by omega))]
      show ML (999999 + 1) (-1) g1 = _
      rw [hML, if_neg (show ¬ (-1 : Int32) = Int32.ofNat c1 from fun w => qi_ne_m1 (by omega) w.symm), if_pos (show ¬ (-1 : Int32) = Int32.ofNat c2 from fun w => qi_ne_m1 (by omega) w.symm)]
  | true =>
    obtain ⟨a3, a4, a5, -⟩ := a2 rfl
    obtain ⟨ok, P, k', v', c1', c2', cX, cM⟩ := d_loop (w := w) (fb := fb) hT hXL hML h0 hc1 hc2 hw1 hfb hfb0 hfb2 (T.1 - P1) i P1 k1 v1 (Nat.le_refl _) a1 a3 a4 a5
    refine ⟨ok, P, k', v', c1', fun w => ⟨(c2' w).2.1, (c2' w).2.2.1, (c2' w).2.2.2, fun w => (by cases w)⟩, ?_, ?_⟩
    · intro g l h hp hl h11
      obtain ⟨g1, ze, p1, r1, f1⟩ := aX g l h hp hl h11
      obtain ⟨r2, r3⟩ := r1 rfl
      obtain ⟨g2, ze2, p2, r4, f2⟩ := cX zFu 0 g1 l (by show _ < 1000000; omega) (by omega) (h.l f1) p1 hl r2 (r3.up (by omega))
      refine ⟨g2, ?_, p2, r4, ?_⟩
      · rw [hX, ze, qB_s]
        exact ze2
      · cases ok
        · exact (qF.zX (l := l) f1).tr f2
        · exact qF.tr f1 f2
    · intro g t l ht h ha hl
      obtain ⟨g1, ze, r1, -, f1⟩ := aM g t l ht h ha hl
      obtain ⟨r2, r3⟩ := r1 rfl
      obtain ⟨g2, ze2, p2, f2⟩ := m_look hT (h.l f1) r2.1 (by omega)
      have F2 : qF (sLM t l) g g2 := qF.tr f1 (f2.mono fun a k w => sLM_T w)
      obtain ⟨g3, ze3, r4, r5, f3⟩ := cM zFu g2 t l (by show _ < 1000000; omega) ht (h.l F2) ⟨p2, (f2.2.1 _ _ (by omega)).trans r2.2.1, (f2.2.1 _ _ (by omega)).trans r2.2.2.1, (f2.2.1 _ _ (by omega)).trans r2.2.2.2.1, (f2.2.1 _ _ (by omega)).trans r2.2.2.2.2⟩ hl ((r3.up (by omega)).cp fun q q1 q2 => ⟨f2.2.1 _ _ (by omega), f2.2.1 _ _ (by omega)⟩)
      refine ⟨g3, ?_, r4, r5, ?_⟩
      · rw [hM, ze, qB_s, if_neg (fun w => w r2.2.1), ze2, qB_s]
        exact ze3
      · cases ok
        · exact (qF.zM (t := t) (l := l) F2).tr f3
        · exact qF.tr F2 f3
theorem d_term {d fb : Nat} {rsX : Int32 → zSg → Option (Int32 × zSg)} {rsM : zSg → Option (Unit × zSg)} (hT : mTpOk T) (hd : d ≤ 6) (h0 : jN T d (13 - 2 * d) fb false (f_X5_atom rsX) (f_X12_atom rsM)) (hfb0 : 241 ≤ fb) (hfb2 : fb + 1 ≤ 400) : jN T d (14 - 2 * d) (fb + 1) false (f_X5_term rsX) (f_X12_term rsM) :=
  d_first (XL := f_X5_term_8 rsX) (ML := f_X12_term_21 rsM) (X0 := f_X5_atom rsX) (M0 := f_X12_atom rsM) (c1 := 42) (c2 := 47) hT (fun n y1 y2 y3 g => rfl) (fun n y1 g => rfl) (fun x g => rfl) (fun g => rfl) h0 (Or.inr rfl) (Or.inr rfl) (by omega) (Nat.le_refl _) hfb0 hfb2
theorem d_sumb {d fb : Nat} {rsX : Int32 → zSg → Option (Int32 × zSg)} {rsM : zSg → Option (Unit × zSg)} (hT : mTpOk T) (hd : d ≤ 6) (h0 : jN T d (14 - 2 * d) fb false (f_X5_term rsX) (f_X12_term rsM)) (hfb0 : 241 ≤ fb) (hfb2 : fb + 1 ≤ 400) : jN T d (15 - 2 * d) (fb + 1) false (f_X5_sum_b rsX) (f_X12_sum_b rsM) :=
  d_first (XL := f_X5_sum_8 rsX) (ML := f_X12_sum_21 rsM) (X0 := f_X5_term rsX) (M0 := f_X12_term rsM) (c1 := 43) (c2 := 45) hT (fun n y1 y2 y3 g => rfl) (fun n y1 g => rfl) (fun x g => rfl) (fun g => rfl) h0 (Or.inl rfl) (Or.inl rfl) (by omega) (Nat.le_refl _) hfb0 hfb2
theorem d_sum (hT : mTpOk T) : ∀ (e d m : Nat), d + e = 6 → e < m → jN T d (15 - 2 * d) (260 - 2 * d) false (f_X5_sum m) (f_X12_sum m)
  | 0, d, m, he, hm => by
    obtain ⟨m, rfl⟩ : ∃ m', m = m' + 1 := ⟨m - 1, by omega⟩
    have h1 := d_atom (d := d) (fbS := 0) (fb := 258 - 2 * d) (rsX := f_X5_sum m) (rsM := f_X12_sum m) hT (by omega) (fun w => by omega) (by omega) (by omega)
    have h2 := d_term hT (by omega) h1 (by omega) (by omega)
    have h3 := d_sumb hT (by omega) h2 (by omega) (by omega)
    rw [show 258 - 2 * d + 1 + 1 = 260 - 2 * d by omega] at h3
    exact h3
  | e + 1, d, m, he, hm => by
    obtain ⟨m, rfl⟩ : ∃ m', m = m' + 1 := ⟨m - 1, by omega⟩
    have ih := d_sum hT e (d + 1) m (by omega) (by omega)
    rw [show 15 - 2 * (d + 1) = 13 - 2 * d by omega, show 260 - 2 * (d + 1) = 258 - 2 * d by omega] at ih
    have h1 := d_atom (d := d) (fbS := 258 - 2 * d) (fb := 258 - 2 * d) (rsX := f_X5_sum m) (rsM := f_X12_sum m) hT (by omega) (fun _ => ih) (by omega) (Nat.le_refl _)
    have h2 := d_term hT (by omega) h1 (by omega) (by omega)
    have h3 := d_sumb hT (by omega) h2 (by omega) (by omega)
    rw [show 258 - 2 * d + 1 + 1 = 260 - 2 * d by omega] at h3
    exact h3
end AS
