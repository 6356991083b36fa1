/-! ===== a LAW's CLAUSES: what they mean on both sides ===== -/
abbrev mCv : Type := (Nat → Nat) → Option Int
def kOk (cv : mCv) : Prop := ∀ r z, mVr r → cv r = some z → -1000000 ≤ z ∧ z ≤ 1000000
def mThen (c1 c2 : mCv) : mCv := fun r => match c1 r with
  | some z => some z
  | none => c2 r
def mNone : mCv := fun _ => none
def mIf (v1 v2 : mV) : mCv := fun r => if v1 r = 0 then none else some (v2 r)
def mJust (v : mV) : mCv := fun r => some (v r)
theorem kOk.nil : kOk mNone := fun r z _ h => by cases h
theorem kOk.just {v : mV} (h : mVb v) : kOk (mJust v) := fun r z hr e => by
  have := Option.some.inj e
  subst this
  exact h r hr
theorem kOk.iff {v1 v2 : mV} (h : mVb v2) : kOk (mIf v1 v2) := fun r z hr e => by
  have e2 : (if v1 r = 0 then none else some (v2 r)) = some z := e
  by_cases q : v1 r = 0
  · rw [if_pos q] at e2; cases e2
  · rw [if_neg q] at e2
    have := Option.some.inj e2
    subst this
    exact h r hr
theorem kOk.thn {c1 c2 : mCv} (h1 : kOk c1) (h2 : kOk c2) : kOk (mThen c1 c2) := fun r z hr e => by
  have e2 : (match c1 r with
    | some z => some z
    | none => c2 r) = some z := e
  cases hc : c1 r with
  | some z2 =>
    rw [hc] at e2
    have e3 : z2 = z := Option.some.inj e2
    subst e3
    exact h1 r z2 hr hc
  | none =>
    rw [hc] at e2
    exact h2 r z hr e2
def xOut (o : Option Int) (c : zSg → Option (Int32 × zSg)) (g : zSg) : Option (Int32 × zSg) := match o with
  | some z => some (Int32.ofInt z, g)
  | none => c g
/-- the class: codes from s to e -/
def xCls (K : Nat → Int32) (s e : Nat) (cv : mCv) : Prop := s ≤ e ∧ ∀ (a : Nat) (r : Nat → Nat) (g : zSg) (m len : Nat), xObj a → mVr r → (∀ j, j < 6 → g.2.1 425 j = Int32.ofNat (r j)) → (∀ k, s ≤ k → k < e → g.2.1 (a + 2) k = K k) → g.2.1 a 2 = Int32.ofNat len → e ≤ len → len ≤ 256 → ∃ m' g', m ≤ m' ∧ f_X4_worth_4 a 424 (m + (e - s)) (Int32.ofNat 0) (Int32.ofNat s) g = xOut (cv r) (f_X4_worth_4 a 424 m' (Int32.ofNat 0) (Int32.ofNat e)) g' ∧ qF (fun b _ => b = a + 4) g g'
theorem xCls.cp {K K' : Nat → Int32} {s e : Nat} {cv : mCv} (h : xCls K s e cv) (hk : ∀ k, s ≤ k → k < e → K' k = K k) : xCls K' s e cv :=
  ⟨h.1, fun a r g m len ha hr hl hc h2 he hn => h.2 a r g m len ha hr hl (fun k q1 q2 => (hc k q1 q2).trans (hk k q1 q2)) h2 he hn⟩
theorem xCls.nil {K : Nat → Int32} {s : Nat} : xCls K s s mNone :=
  ⟨Nat.le_refl _, fun a r g m len ha hr hl hc h2 he hn => ⟨m, g, Nat.le_refl _, by rw [show m + (s - s) = m by omega]; rfl, qF.rfl'⟩⟩
theorem xCls.seq {K : Nat → Int32} {s e1 e2 : Nat} {c1 c2 : mCv} (h1 : xCls K s e1 c1) (h2 : xCls K e1 e2 c2) : xCls K s e2 (mThen c1 c2) := by
  have l1 := h1.1
  have l2 := h2.1
  refine ⟨by omega, fun a r g m len ha hr hl hc hln he hn => ?_⟩
  have hak := ha.k
  obtain ⟨m1, g1, hm1, z1, f1⟩ := h1.2 a r g (m + (e2 - e1)) len ha hr hl (fun k q1 q2 => hc k q1 (by omega)) hln (by omega) hn
  rw [show m + (e2 - s) = m + (e2 - e1) + (e1 - s) by omega, z1]
  unfold mThen
  cases hc1 : c1 r with
  | some z => exact ⟨m, g1, Nat.le_refl _, rfl, f1⟩
  | none =>
    obtain ⟨m2, g2, hm2, z2, f2⟩ := h2.2 a r g1 (m1 - (e2 - e1)) len ha hr (fun j hj => (f1.2.1 _ _ (by omega)).trans (hl j hj)) (fun k q1 q2 => (f1.2.1 _ _ (by omega)).trans (hc k (by omega) q2)) ((f1.2.1 _ _ (by omega)).trans hln) he hn
    refine ⟨m2, g2, by omega, ?_, f1.tr f2⟩
    rw [show m1 - (e2 - e1) + (e2 - e1) = m1 by omega] at z2
    exact z2
theorem xCls_sum {K : Nat → Int32} {s e w : Nat} {v : mV} (h : xSeg K s e w v) (hK : K e = - Int32.ofNat 59) (hw : w ≤ 60) : xCls K s (e + 1) (mJust v) := by
  have l1 := h.1
  refine ⟨by omega, fun a r g m len ha hr hl hc hln he hn => ?_⟩
  have hak := ha.k
  obtain ⟨g1, z1, p1, f1⟩ := h.2 a r g (m + 1) 0 len ha hr hl (fun k q1 q2 => hc k q1 (by omega)) hln (by omega) hn (by omega)
  refine ⟨m, g1, Nat.le_refl _, ?_, f1.mono fun b k w => w.1⟩
  rw [show m + (e + 1 - s) = m + 1 + (e - s) by omega, z1]
  show f_X4_worth_4 a 424 (m + 1) (Int32.ofNat (0 + 1)) (Int32.ofNat e) g1 = some (Int32.ofInt (v r), g1)
  rw [x_ws]
  unfold fb_X4_worth_4
  rw [show gI g1 a 2 = Int32.ofNat len from (f1.2.1 _ _ (by omega)).trans hln, if_neg (show ¬ Int32.ofNat len ≤ Int32.ofNat e by rw [qi_le (by omega) (by omega)]; omega), q_code ha (by omega), qB_s, (show g1.2.1 (a + 2) e = _ from (f1.2.1 _ _ (by omega)).trans (hc e (by omega) (by omega))), hK]
  rw [if_pos (show - Int32.ofNat 59 < (0 : Int32) by decide), if_pos (show - Int32.ofNat 59 < (-6 : Int32) by decide), if_neg (show ¬ ¬ - Int32.ofNat 59 = (-59 : Int32) from fun w => w rfl), x_83, show Int32.ofNat (0 + 1) - 1 = Int32.ofNat 0 from qi_sub (a := 0 + 1) (b := 1) (by omega), q_peek ha (by omega), qB_s, p1]
theorem xCls_if {K : Nat → Int32} {s e1 e2 w1 w2 : Nat} {v1 v2 : mV} (h1 : xSeg K s e1 w1 v1) (k63 : K e1 = - Int32.ofNat 63) (kt : K (e1 + 1) = Int32.ofNat (e2 + 1)) (h2 : xSeg K (e1 + 2) e2 w2 v2) (k59 : K e2 = - Int32.ofNat 59) (b1 : mVb v1) (hw1 : w1 ≤ 60) (hw2 : w2 ≤ 60) : xCls K s (e2 + 1) (mIf v1 v2) := by
  have l1 := h1.1
  have l2 := h2.1
  have hs2 := xCls_sum h2 k59 hw2
  refine ⟨by omega, fun a r g m len ha hr hl hc hln he hn => ?_⟩
  have hak := ha.k
  obtain ⟨g1, z1, p1, f1⟩ := h1.2 a r g (m + (e2 + 1 - e1)) 0 len ha hr hl (fun k q1 q2 => hc k q1 (by omega)) hln (by omega) hn (by omega)
  have F1 : qF (fun b _ => b = a + 4) g g1 := f1.mono fun b k w => w.1
  have c1 : ∀ k, s ≤ k → k < e2 + 1 → g1.2.1 (a + 2) k = K k := fun k q1 q2 => (F1.2.1 _ _ (by omega)).trans (hc k q1 q2)
  have hln1 : g1.2.1 a 2 = Int32.ofNat len := (F1.2.1 a 2 (by omega)).trans hln
  have hb := b1 r hr
  rw [show m + (e2 + 1 - s) = m + (e2 + 1 - e1) + (e1 - s) by omega, z1, show m + (e2 + 1 - e1) = m + (e2 - e1) + 1 by omega]
  have step : f_X4_worth_4 a 424 (m + (e2 - e1) + 1) (Int32.ofNat (0 + 1)) (Int32.ofNat e1) g1 = if v1 r = 0 then f_X4_worth_4 a 424 (m + (e2 - e1)) (Int32.ofNat 0) (Int32.ofNat (e2 + 1)) g1 else f_X4_worth_4 a 424 (m + (e2 - e1)) (Int32.ofNat 0) (Int32.ofNat (e1 + 2)) g1 := by
    rw [x_ws]
    unfold fb_X4_worth_4
    rw [show gI g1 a 2 = Int32.ofNat len from hln1, if_neg (show ¬ Int32.ofNat len ≤ Int32.ofNat e1 by rw [qi_le (by omega) (by omega)]; omega), q_code ha (by omega), qB_s, c1 e1 (by omega) (by omega), k63]
    rw [if_pos (show - Int32.ofNat 63 < (0 : Int32) by decide), if_pos (show - Int32.ofNat 63 < (-6 : Int32) by decide), if_pos (show ¬ - Int32.ofNat 63 = (-59 : Int32) by decide), if_pos (show ¬ - Int32.ofNat 63 = (-33 : Int32) by decide), if_neg (show ¬ ¬ - Int32.ofNat 63 = (-63 : Int32) from fun w => w rfl)]
    rw [show Int32.ofNat (0 + 1) + (-1) = Int32.ofNat 0 from qi_dec (n := 0 + 1) (by omega), q_peek ha (by omega), qB_s, p1]
    by_cases q : v1 r = 0
    · rw [if_pos q, if_neg (show ¬ ¬ Int32.ofInt (v1 r) = 0 from fun w => w (by rw [q]; rfl)), show Int32.ofNat e1 + 1 = Int32.ofNat (e1 + 1) from qi_add e1 1, q_code ha (by omega), qB_s, c1 (e1 + 1) (by omega) (by omega), kt, x_211, show Int32.ofNat (e2 + 1) - 1 = Int32.ofNat e2 from qi_sub (a := e2 + 1) (b := 1) (by omega), qi_imax (by omega) (by omega), show max (e1 + 1) e2 = e2 by omega, show Int32.ofNat e2 + 1 = Int32.ofNat (e2 + 1) from qi_add e2 1]
    · rw [if_neg q, if_pos (show ¬ Int32.ofInt (v1 r) = (0 : Int32) from fun w => q ((qj_inj (b := 0) (by omega) (by omega) (by omega) (by omega)).mp w)), x_211, show Int32.ofNat e1 + 1 = Int32.ofNat (e1 + 1) from qi_add e1 1, show Int32.ofNat (e1 + 1) + 1 = Int32.ofNat (e1 + 2) from qi_add (e1 + 1) 1]
  rw [step]
  unfold mIf
  by_cases q : v1 r = 0
  · rw [if_pos q, if_pos q]
    exact ⟨m + (e2 - e1), g1, by omega, rfl, F1⟩
  · rw [if_neg q, if_neg q]
    obtain ⟨m3, g3, hm3, z3, f3⟩ := hs2.2 a r g1 (m + (e2 - e1) - (e2 + 1 - (e1 + 2))) len ha hr (fun j hj => (F1.2.1 _ _ (by omega)).trans (hl j hj)) (fun k q1 q2 => c1 k (by omega) q2) hln1 (by omega) hn
    rw [show m + (e2 - e1) - (e2 + 1 - (e1 + 2)) + (e2 + 1 - (e1 + 2)) = m + (e2 - e1) by omega] at z3
    exact ⟨m, g3, Nat.le_refl _, z3, F1.tr f3⟩
/-- the letters -/
def mLtv (k f n v t o : Nat) : Nat → Nat := fun j => if j = 0 then k else if j = 1 then f else if j = 2 then n else if j = 3 then v else if j = 4 then t else o
def mLwC (cv : mCv) : mLaw := fun k f n v t o => (cv (mLtv k f n v t o)).getD 0
theorem mLtv_r {k f n v t o : Nat} (h1 : k < 1000) (h2 : f < 1000) (h3 : n < 1000) (h4 : v < 1000) (h5 : t < 1000) (h6 : o < 1000) : mVr (mLtv k f n v t o) := fun j hj => by
  unfold mLtv
  repeat' split
  all_goals assumption
theorem mLwC_ok {cv : mCv} (h : kOk cv) : mLwOk (mLwC cv) := fun k f n v t o h1 h2 h3 h4 h5 h6 => by
  unfold mLwC
  cases hc : cv (mLtv k f n v t o) with
  | some z => exact h _ z (mLtv_r h1 h2 h3 h4 h5 h6) hc
  | none => exact ⟨by decide, by decide⟩
/-- what a LAW in a row of the class works out -/
def xLw (a : Nat) (lw : mLaw) (g : zSg) : Prop := ∀ g' : zSg, (∀ k, g'.2.1 (a + 2) k = g.2.1 (a + 2) k) → g'.2.1 a 2 = g.2.1 a 2 → ∀ k f n v t o, k < 1000 → f < 1000 → n < 1000 → v < 1000 → t < 1000 → o < 1000 → g'.2.1 425 0 = Int32.ofNat k → g'.2.1 425 1 = Int32.ofNat f → g'.2.1 425 2 = Int32.ofNat n → g'.2.1 425 3 = Int32.ofNat v → g'.2.1 425 4 = Int32.ofNat t → g'.2.1 425 5 = Int32.ofNat o → qE (fun b _ => b = a + 4) g' (f_X4_worth a 424 g') (Int32.ofInt (lw k f n v t o))
theorem x_mean {K : Nat → Int32} {len : Nat} {cv : mCv} (h : xCls K 0 len cv) {a : Nat} {r : Nat → Nat} {g : zSg} (ha : xObj a) (hr : mVr r) (hl : ∀ j, j < 6 → g.2.1 425 j = Int32.ofNat (r j)) (hc : ∀ k, k < len → g.2.1 (a + 2) k = K k) (hln : g.2.1 a 2 = Int32.ofNat len) (hn : len ≤ 256) : qE (fun b _ => b = a + 4) g (f_X4_worth a 424 g) (Int32.ofInt ((cv r).getD 0)) := by
  have hak := ha.k
  obtain ⟨m', g', hm, z, f⟩ := h.2 a r g (1000000 - len) len ha hr hl (fun k _ q => hc k q) hln (Nat.le_refl _) hn
  rw [show 1000000 - len + (len - 0) = 1000000 by omega] at z
  have z' : f_X4_worth a 424 g = xOut (cv r) (f_X4_worth_4 a 424 m' (Int32.ofNat 0) (Int32.ofNat len)) g' := z
  rw [z']
  cases hcv : cv r with
  | some w => exact ⟨g', rfl, f⟩
  | none =>
    obtain ⟨m', rfl⟩ : ∃ m'', m' = m'' + 1 := ⟨m' - 1, by omega⟩
    refine ⟨g', ?_, f⟩
    show f_X4_worth_4 a 424 (m' + 1) (Int32.ofNat 0) (Int32.ofNat len) g' = _
    rw [x_ws]
    unfold fb_X4_worth_4
    rw [show gI g' a 2 = Int32.ofNat len from (f.2.1 _ _ (by omega)).trans hln, if_pos (show Int32.ofNat len ≤ Int32.ofNat len by rw [qi_le (by omega) (by omega)]; exact Nat.le_refl _)]
    rfl
theorem x_lw {len : Nat} {cv : mCv} {a : Nat} {g : zSg} (h : xCls (g.2.1 (a + 2)) 0 len cv) (ha : xObj a) (hln : g.2.1 a 2 = Int32.ofNat len) (hn : len ≤ 256) : xLw a (mLwC cv) g := by
  intro g' hk h2 k f n v t o h1 h2' h3 h4 h5 h6 e1 e2 e3 e4 e5 e6
  exact x_mean h ha (mLtv_r h1 h2' h3 h4 h5 h6) (fun j hj => by
    rcases (show j = 0 ∨ j = 1 ∨ j = 2 ∨ j = 3 ∨ j = 4 ∨ j = 5 by omega) with rfl | rfl | rfl | rfl | rfl | rfl
    · exact e1
    · exact e2
    · exact e3
    · exact e4
    · exact e5
    · exact e6) (fun k _ => hk k) (h2.trans hln) hn
/-- the reference -/
def mLw1 (m : Nat) (lw : mLaw) (g : zSg) : Prop := ∀ g' : zSg, vLe m g g' → ∀ k f n v t o, k < 1000 → f < 1000 → n < 1000 → v < 1000 → t < 1000 → o < 1000 → g'.2.1 535 0 = Int32.ofNat k → g'.2.1 535 1 = Int32.ofNat f → g'.2.1 535 2 = Int32.ofNat n → g'.2.1 535 3 = Int32.ofNat v → g'.2.1 535 4 = Int32.ofNat t → g'.2.1 535 5 = Int32.ofNat o → qE (fun b _ => b = 536) g' (f_X12_worthOf (Int32.ofNat m) g') (Int32.ofInt (lw k f n v t o))
def mCls (t y l : Nat) (R : zSg) (cv : mCv) : Prop := ∀ (r : Nat → Nat) (g : zSg) (m cnt : Nat), mVr r → (∀ j, j < 6 → g.2.1 535 j = Int32.ofNat (r j)) → g.2.1 531 t = Int32.ofNat cnt → y ≤ cnt → cnt ≤ 140 → (∀ k, k < l → g.2.1 528 (520 * t + k) = R.2.1 528 (520 * t + k) ∧ g.2.1 529 (520 * t + k) = R.2.1 529 (520 * t + k)) → (∀ q, q < y → g.2.1 532 (140 * t + q) = R.2.1 532 (140 * t + q) ∧ g.2.1 533 (140 * t + q) = R.2.1 533 (140 * t + q) ∧ g.2.1 534 (140 * t + q) = R.2.1 534 (140 * t + q)) → ∃ m' g', m ≤ m' ∧ f_X12_worthOf_6 (m + y) (Int32.ofNat t) (Int32.ofNat (140 * t)) g = xOut (cv r) (f_X12_worthOf_6 m' (Int32.ofNat t) (Int32.ofNat (140 * t + y))) g' ∧ qF (fun b _ => b = 536) g g'
theorem mCls.cp {t y l : Nat} {R R' : zSg} {cv : mCv} (h : mCls t y l R cv) (hk : ∀ k, k < l → R'.2.1 528 (520 * t + k) = R.2.1 528 (520 * t + k) ∧ R'.2.1 529 (520 * t + k) = R.2.1 529 (520 * t + k)) (hq : ∀ q, q < y → R'.2.1 532 (140 * t + q) = R.2.1 532 (140 * t + q) ∧ R'.2.1 533 (140 * t + q) = R.2.1 533 (140 * t + q) ∧ R'.2.1 534 (140 * t + q) = R.2.1 534 (140 * t + q)) : mCls t y l R' cv := fun r g m cnt h1 h2 h3 h4 h5 h6 h7 => h r g m cnt h1 h2 h3 h4 h5 (fun k q => ⟨(h6 k q).1.trans (hk k q).1, (h6 k q).2.trans (hk k q).2⟩) (fun k q => ⟨(h7 k q).1.trans (hq k q).1, (h7 k q).2.1.trans (hq k q).2.1, (h7 k q).2.2.trans (hq k q).2.2⟩)
theorem mCls.nil {t : Nat} {R : zSg} : mCls t 0 0 R mNone := fun r g m cnt h1 h2 h3 h4 h5 h6 h7 => ⟨m, g, Nat.le_refl _, rfl, qF.rfl'⟩
theorem m_run {t s e w : Nat} {Kc Kv : Nat → Int32} {v : mV} (h : mSeg t Kc Kv s e w v) (ht : t < 5) (hw : w ≤ 60) (he : e ≤ 520) {r : Nat → Nat} {g : zSg} (hr : mVr r) (hl : ∀ j, j < 6 → g.2.1 535 j = Int32.ofNat (r j)) (hc : ∀ k, s ≤ k → k < e → g.2.1 528 (520 * t + k) = Kc (520 * t + k) ∧ g.2.1 529 (520 * t + k) = Kv (520 * t + k)) : ∃ g', f_X12_workOut (Int32.ofNat t) (Int32.ofNat s) (Int32.ofNat e) g = some (Int32.ofInt (v r), g') ∧ qF (fun b _ => b = 536) g g' := by
  have l1 := h.1
  obtain ⟨g1, z1, p1, f1⟩ := h.2 r g (999999 - (e - s) + 1) 0 e hr hl hc (Nat.le_refl _) he (by omega)
  rw [show 999999 - (e - s) + 1 + (e - s) = 1000000 by omega] at z1
  refine ⟨g1, ?_, f1.mono fun b k w => w.1⟩
  unfold f_X12_workOut
  rw [show (520 : Int32) * Int32.ofNat t + Int32.ofNat s = Int32.ofNat (520 * t + s) from (congrArg (· + Int32.ofNat s) (qi_mul 520 t)).trans (qi_add _ _)]
  show f_X12_workOut_12 1000000 (Int32.ofNat t) (Int32.ofNat e) (Int32.ofNat 0) (Int32.ofNat (520 * t + s)) g = _
  rw [z1]
  show fb_X12_workOut_12 _ _ _ _ _ g1 = _
  unfold fb_X12_workOut_12 f_X12_workOut_171
  rw [show (520 : Int32) * Int32.ofNat t + Int32.ofNat e = Int32.ofNat (520 * t + e) from (congrArg (· + Int32.ofNat e) (qi_mul 520 t)).trans (qi_add _ _), if_pos (show Int32.ofNat (520 * t + e) ≤ Int32.ofNat (520 * t + e) by rw [qi_le (by omega) (by omega)]; exact Nat.le_refl _), show gI g1 536 0 = Int32.ofInt (v r) from p1]
/-- one CLAUSE more -/
def mCl1 (t y l e : Nat) (R : zSg) (c : mCv) : Prop := ∃ x, R.2.1 532 (140 * t + y) = Int32.ofNat l ∧ R.2.1 533 (140 * t + y) = Int32.ofNat x ∧ R.2.1 534 (140 * t + y) = Int32.ofNat e ∧ ((x = l ∧ ∃ w v, w ≤ 60 ∧ mSeg t (R.2.1 528) (R.2.1 529) l e w v ∧ c = mJust v) ∨ (l < x ∧ ∃ w1 v1 w2 v2, w1 ≤ 60 ∧ w2 ≤ 60 ∧ mVb v1 ∧ mSeg t (R.2.1 528) (R.2.1 529) l x w1 v1 ∧ mSeg t (R.2.1 528) (R.2.1 529) x e w2 v2 ∧ c = mIf v1 v2))
theorem mCls.snoc {t y l e : Nat} {R : zSg} {cv c : mCv} (h : mCls t y l R cv) (h1 : mCl1 t y l e R c) (ht : t < 5) (hy : y < 140) (he : e ≤ 520) : mCls t (y + 1) e R (mThen cv c) := by
  obtain ⟨x, e1, e2, e3, hx⟩ := h1
  have hle : l ≤ e := by
    rcases hx with ⟨rfl, w, v, hw, hs, hcc⟩ | ⟨hlx, w1, v1, w2, v2, hw1, hw2, hb, hs1, hs2, hcc⟩
    · exact hs.1
    · have := hs2.1; omega
  have hxe : x ≤ e := by
    rcases hx with ⟨rfl, w, v, hw, hs, hcc⟩ | ⟨hlx, w1, v1, w2, v2, hw1, hw2, hb, hs1, hs2, hcc⟩
    · exact hs.1
    · exact hs2.1
  intro r g m cnt hr hl hcnt hyc hc140 hcode hrows
  obtain ⟨m1, g1, hm1, z1, f1⟩ := h r g (m + 1) cnt hr hl hcnt (by omega) hc140 (fun k hk => hcode k (by omega)) (fun q hq => hrows q (by omega))
  rw [show m + (y + 1) = m + 1 + y by omega, z1]
  unfold mThen
  cases hcv : cv r with
  | some z => exact ⟨m, g1, Nat.le_refl _, rfl, f1⟩
  | none =>
    obtain ⟨m1, rfl⟩ : ∃ m'', m1 = m'' + 1 := ⟨m1 - 1, by omega⟩
    have hl1 : ∀ j, j < 6 → g1.2.1 535 j = Int32.ofNat (r j) := fun j hj => (f1.2.1 _ _ (by omega)).trans (hl j hj)
    have hc1 : ∀ k, k < e → g1.2.1 528 (520 * t + k) = R.2.1 528 (520 * t + k) ∧ g1.2.1 529 (520 * t + k) = R.2.1 529 (520 * t + k) := fun k hk => ⟨(f1.2.1 _ _ (by omega)).trans (hcode k hk).1, (f1.2.1 _ _ (by omega)).trans (hcode k hk).2⟩
    have hrow := hrows y (by omega)
    have r1 : ∀ g2 : zSg, qF (fun b _ => b = 536) g1 g2 → gI g2 532 (140 * t + y) = Int32.ofNat l ∧ gI g2 533 (140 * t + y) = Int32.ofNat x ∧ gI g2 534 (140 * t + y) = Int32.ofNat e := fun g2 f2 => ⟨(f2.2.1 _ _ (by omega)).trans ((f1.2.1 _ _ (by omega)).trans (hrow.1.trans e1)), (f2.2.1 _ _ (by omega)).trans ((f1.2.1 _ _ (by omega)).trans (hrow.2.1.trans e2)), (f2.2.1 _ _ (by omega)).trans ((f1.2.1 _ _ (by omega)).trans (hrow.2.2.trans e3))⟩
    have z5 : zib (Int32.ofNat t) 5 = true := qi_zib ht (by omega)
    have z7 : zib (Int32.ofNat (140 * t + y)) 700 = true := qi_zib (by omega) (by omega)
    have et : ix (Int32.ofNat t) = t := qi_ix (by omega)
    have ey : ix (Int32.ofNat (140 * t + y)) = 140 * t + y := qi_ix (by omega)
    have ecnt : gI g1 531 t = Int32.ofNat cnt := (f1.2.1 _ _ (by omega)).trans hcnt
    have ea : (140 : Int32) * Int32.ofNat t + Int32.ofNat cnt = Int32.ofNat (140 * t + cnt) := (congrArg (· + Int32.ofNat cnt) (qi_mul 140 t)).trans (qi_add _ _)
    have nle : ¬ Int32.ofNat (140 * t + cnt) ≤ Int32.ofNat (140 * t + y) := by rw [qi_le (by omega) (by omega)]; omega
    have s57 : ∀ (w : Nat) (v : mV) (g2 : zSg), w ≤ 60 → mSeg t (R.2.1 528) (R.2.1 529) x e w v → qF (fun b _ => b = 536) g1 g2 → ∃ g3, f_X12_worthOf_57 (Int32.ofNat t) (Int32.ofNat (140 * t + y)) g2 = some (Int32.ofInt (v r), g3) ∧ qF (fun b _ => b = 536) g1 g3 := fun w v g2 hw hs f2 => by
      obtain ⟨-, q2, q3⟩ := r1 g2 f2
      obtain ⟨g3, z3, f3⟩ := m_run hs ht hw he hr (fun j hj => (f2.2.1 _ _ (by omega)).trans (hl1 j hj)) (fun k _ k2 => ⟨(f2.2.1 _ _ (by omega)).trans (hc1 k k2).1, (f2.2.1 _ _ (by omega)).trans (hc1 k k2).2⟩)
      refine ⟨g3, ?_, f2.tr f3⟩
      unfold f_X12_worthOf_57
      rw [if_pos z7, if_pos z7, ey, q2, q3, z3, qB_s]
    obtain ⟨q1, q2, q3⟩ := r1 g1 qF.rfl'
    have hd : f_X12_worthOf_6 (m1 + 1) (Int32.ofNat t) (Int32.ofNat (140 * t + y)) g1 = (if Int32.ofNat l = Int32.ofNat x then f_X12_worthOf_57 (Int32.ofNat t) (Int32.ofNat (140 * t + y)) g1 else zB (f_X12_workOut (Int32.ofNat t) (Int32.ofNat l) (Int32.ofNat x) g1) (fun v8 g9 => if v8 = 0 then f_X12_worthOf_6 m1 (Int32.ofNat t) (Int32.ofNat (140 * t + (y + 1))) g9 else f_X12_worthOf_57 (Int32.ofNat t) (Int32.ofNat (140 * t + y)) g9)) := by
      show fb_X12_worthOf_6 _ _ _ g1 = _
      unfold fb_X12_worthOf_6
      rw [if_pos z5, et, ecnt, ea, if_neg nle, if_pos z7, if_pos z7, ey, q1, q2, if_pos z7, if_pos z7, show Int32.ofNat (140 * t + y) + 1 = Int32.ofNat (140 * t + (y + 1)) from qi_add (140 * t + y) 1]
    show ∃ m' g', m ≤ m' ∧ f_X12_worthOf_6 (m1 + 1) (Int32.ofNat t) (Int32.ofNat (140 * t + y)) g1 = xOut (c r) (f_X12_worthOf_6 m' (Int32.ofNat t) (Int32.ofNat (140 * t + (y + 1)))) g' ∧ qF (fun b _ => b = 536) g g'
    rw [hd]
    rcases hx with ⟨rfl, w, v, hw, hs, hcc⟩ | ⟨hlx, w1, v1, w2, v2, hw1, hw2, hb, hs1, hs2, hcc⟩
    · obtain ⟨g3, z3, f3⟩ := s57 w v g1 hw hs qF.rfl'
      rw [if_pos rfl, z3, hcc]
      exact ⟨m, g3, Nat.le_refl _, rfl, f1.tr f3⟩
    · obtain ⟨g2, z2, f2⟩ := m_run hs1 ht hw1 (by omega) hr hl1 (fun k _ k2 => hc1 k (by omega))
      have hbb := hb r hr
      rw [if_neg (q_ne (by omega) (by omega) (by omega)), z2, qB_s, hcc]
      unfold mIf
      by_cases q : v1 r = 0
      · rw [if_pos (show Int32.ofInt (v1 r) = 0 by rw [q]; rfl), if_pos q]
        exact ⟨m1, g2, by omega, rfl, f1.tr f2⟩
      · obtain ⟨g3, z3, f3⟩ := s57 w2 v2 g2 hw2 hs2 f2
        rw [if_neg (show ¬ Int32.ofInt (v1 r) = (0 : Int32) from fun w => q ((qj_inj (b := 0) (by omega) (by omega) (by omega) (by omega)).mp w)), if_neg q, z3]
        exact ⟨m, g3, Nat.le_refl _, rfl, f1.tr f3⟩
theorem m_lw {t y l : Nat} {cv : mCv} {g : zSg} (h : mCls t y l g cv) (ht : t < 5) (hy : y ≤ 140) (hl : l ≤ 520) (hc : g.2.1 531 t = Int32.ofNat y) : mLw1 t (mLwC cv) g := by
  intro g' hle k f n v u o h1 h2' h3 h4 h5 h6 e1 e2 e3 e4 e5 e6
  have hcy : g'.2.1 531 t = Int32.ofNat y := hle.2.1.trans hc
  obtain ⟨m', g2, hm, z, f2⟩ := h (mLtv k f n v u o) g' (1000000 - y) y (mLtv_r h1 h2' h3 h4 h5 h6) (fun j hj => by
    rcases (show j = 0 ∨ j = 1 ∨ j = 2 ∨ j = 3 ∨ j = 4 ∨ j = 5 by omega) with rfl | rfl | rfl | rfl | rfl | rfl
    · exact e1
    · exact e2
    · exact e3
    · exact e4
    · exact e5
    · exact e6) hcy (Nat.le_refl _) hy (fun k hk => hle.1 _ (by omega) (by omega)) (fun q hq => hle.2.2 _ (by omega) (by omega))
  rw [show 1000000 - y + y = 1000000 by omega] at z
  unfold f_X12_worthOf
  rw [show (140 : Int32) * Int32.ofNat t = Int32.ofNat (140 * t) from qi_mul 140 t]
  show qE _ g' (f_X12_worthOf_6 1000000 (Int32.ofNat t) (Int32.ofNat (140 * t)) g') _
  rw [z]
  unfold mLwC
  cases hcv : cv (mLtv k f n v u o) with
  | some w => exact ⟨g2, rfl, f2⟩
  | none =>
    obtain ⟨m', rfl⟩ : ∃ m'', m' = m'' + 1 := ⟨m' - 1, by omega⟩
    refine ⟨g2, ?_, f2⟩
    show fb_X12_worthOf_6 _ _ _ g2 = _
    unfold fb_X12_worthOf_6
    rw [if_pos (qi_zib ht (by omega)), qi_ix (by omega), show gI g2 531 t = Int32.ofNat y from (f2.2.1 _ _ (by omega)).trans hcy, show (140 : Int32) * Int32.ofNat t + Int32.ofNat y = Int32.ofNat (140 * t + y) from (congrArg (· + Int32.ofNat y) (qi_mul 140 t)).trans (qi_add _ _), if_pos (show Int32.ofNat (140 * t + y) ≤ Int32.ofNat (140 * t + y) by rw [qi_le (by omega) (by omega)]; exact Nat.le_refl _)]
    rfl
