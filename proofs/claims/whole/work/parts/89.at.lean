/-! ===== both sides: a LAW's TEXT: comparisons, AND, OR ===== -/
section AT
variable {T : mTk}
def mSg (c : Nat) : Prop := c = 61 ∨ c = 60 ∨ c = 62
theorem x_isC {c : Nat} {g : zSg} (hc : c < 256) : (mSg c → f_X5_isComparing (Int32.ofNat c) g = some (1, g)) ∧ (¬ mSg c → f_X5_isComparing (Int32.ofNat c) g = some (0, g)) := by
  unfold f_X5_isComparing mSg
  refine ⟨fun h => ?_, fun h => ?_⟩
  · rcases h with rfl | rfl | rfl <;> rfl
  · rw [if_neg (show ¬ Int32.ofNat c = (61 : Int32) from q_ne (d := 61) (by omega) (by omega) (by omega)), if_neg (show ¬ Int32.ofNat c = (60 : Int32) from q_ne (d := 60) (by omega) (by omega) (by omega)), if_pos (show ¬ Int32.ofNat c = (62 : Int32) from q_ne (d := 62) (by omega) (by omega) (by omega))]
theorem m_isS {i : Nat} {g : zSg} (hT : mTpOk T) : (mSg (mAt T i) → f_X12_isSign (mAtM T i) g = some (1, g)) ∧ (¬ mSg (mAt T i) → f_X12_isSign (mAtM T i) g = some (0, g)) := by
  unfold f_X12_isSign mSg
  have e1 : (mAtM T i = 61) = (mAt T i = 61) := mAtM_eq (c := 61) hT (by omega) (by omega)
  have e2 : (mAtM T i = 60) = (mAt T i = 60) := mAtM_eq (c := 60) hT (by omega) (by omega)
  have e3 : (mAtM T i = 62) = (mAt T i = 62) := mAtM_eq (c := 62) hT (by omega) (by omega)
  simp only [e1, e2, e3]
  refine ⟨fun h => ?_, fun h => ?_⟩
  · by_cases q1 : mAt T i = 61
    · rw [if_pos q1]
    · by_cases q2 : mAt T i = 60
      · rw [if_neg q1, if_pos q2]
      · rw [if_neg q1, if_neg q2, if_neg (fun w => w (by omega))]
  · rw [if_neg (by omega), if_neg (by omega), if_pos (by omega)]
theorem mSg.oc {c : Nat} (h : mSg c) : mOc c ∧ ¬ (c = 38 ∨ c = 124) ∧ (c = 61 ∨ c = 60 ∨ c = 62 ∨ c = 38 ∨ c = 124) := by unfold mSg at h; unfold mOc; omega
theorem d_comp {d w : Nat} (hT : mTpOk T) (hd : d ≤ 6) (hw : 16 - 2 * d ≤ w) : jE T d w (261 - 2 * d) false true f_X5_comparison f_X12_compare := by
  intro i0 i k v hi hk hk1 hv _
  have h240 := hT.1
  have hjl := mSk_le (T := T) hi
  have hjg := mSk_ge (T := T) (i := i)
  have hlt := mAt_lt (i := mSk T i) hT
  have hS := d_sum hT (6 - d) d zDp (by omega) (by show _ < 24; omega)
  by_cases hc : mSg (mAt T (mSk T i))
  · obtain ⟨c, hcd⟩ : ∃ c, c = mAt T (mSk T i) := ⟨_, rfl⟩
    rw [← hcd] at hc
    have hin : mSk T i < T.1 := (mAt_in hT).mp (by unfold mSg at hc; omega)
    obtain ⟨oc, n38, oct⟩ := hc.oc
    have hcb : 60 ≤ c ∧ c ≤ 62 := by unfold mSg at hc; omega
    have emc : mAtM T (mSk T i) = Int32.ofNat c := by rw [mAtM_eq hT (by omega) (by omega)]; exact hcd.symm
    have xgo : ∀ g l, vTpX T g → g.2.1 1 2 = Int32.ofNat i → g.2.1 11 2 = Int32.ofNat (l + k) → ∃ g1, f_X5_comparison (Int32.ofNat d) g = zB (f_X5_sum zDp (Int32.ofNat d) g1) (fun v11 g12 => if ¬ v11 = 0 then zB (f_X4_add 11 (- Int32.ofNat c) g12) (fun v15 g16 => some (1, g16)) else some (0, g12)) ∧ vTpX T g1 ∧ g1.2.1 1 2 = Int32.ofNat (mSk T i + 1) ∧ g1.2.1 11 2 = Int32.ofNat (l + k) ∧ qF (sLX (l + k)) g g1 := fun g l h hp h11 => by
      obtain ⟨g1, ze1, p1, f1⟩ := x_next hT h hp hi
      have F : qF sTX g (gsI g1 1 2 (Int32.ofNat (mSk T i + 1))) := f1.sI ⟨rfl, rfl⟩
      refine ⟨gsI g1 1 2 (Int32.ofNat (mSk T i + 1)), ?_, h.fr F (by unfold sTX; omega) (fun k => by unfold sTX; omega), qs_Ie, (F.2.1 _ _ (by unfold sTX; omega)).trans h11, F.mono fun a k w => sLX_T w⟩
      unfold f_X5_comparison f_X9_skip
      rw [ze1, qB_s, ← hcd, (x_isC (by omega)).1 hc, qB_s, if_pos (by decide), qB_s, show gI g1 1 2 + 1 = Int32.ofNat (mSk T i + 1) by rw [show gI g1 1 2 = Int32.ofNat (mSk T i) from p1]; exact qi_add _ 1]
    have mgo : ∀ g t l, vTpM T g → vAtM i d t (l + k) g → ∃ g1, f_X12_compare g = zB (f_X12_sum zDp g1) (fun v5 g6 => f_X12_compare_68 (Int32.ofNat (mCo c)) g6) ∧ vTpM T g1 ∧ vAtM (mSk T i + 1) d t (l + k) g1 ∧ qF (sLM t (l + k)) g g1 := fun g t l h ha => by
      obtain ⟨g1, ze1, p1, f1⟩ := m_look hT h ha.1 (by omega)
      have F : qF (fun a k => a = 526 ∧ k = 3) g (gsI g1 526 3 (Int32.ofNat (mSk T i + 1))) := f1.sI ⟨rfl, rfl⟩
      refine ⟨gsI g1 526 3 (Int32.ofNat (mSk T i + 1)), ?_, h.fr F (by omega) (fun k => by omega), ⟨qs_Ie, (F.2.1 _ _ (by omega)).trans ha.2.1, (F.2.1 _ _ (by omega)).trans ha.2.2.1, (F.2.1 _ _ (by omega)).trans ha.2.2.2.1, (F.2.1 _ _ (by omega)).trans ha.2.2.2.2⟩, F.mono fun a k w => sLM_T w⟩
      have hs1 : ∀ g2 : zSg, f_X12_isSign (Int32.ofNat c) g2 = some (1, g2) := fun g2 => by have := (m_isS (T := T) (i := mSk T i) (g := g2) hT).1 (by rw [← hcd]; exact hc); rwa [emc] at this
      have hco : ∀ g6 : zSg, (if ¬ Int32.ofNat c = (61 : Int32) then (if ¬ Int32.ofNat c = (60 : Int32) then f_X12_compare_68 8 g6 else f_X12_compare_68 7 g6) else f_X12_compare_68 6 g6) = f_X12_compare_68 (Int32.ofNat (mCo c)) g6 := fun g6 => by
        rcases hc with e | e | e <;> (rw [e]; rfl)
      unfold f_X12_compare f_X12_compare_16
      rw [if_neg (fun w => w ha.2.1), ze1, qB_s, emc, hs1, qB_s, if_pos (by decide), show gI g1 526 3 + 1 = Int32.ofNat (mSk T i + 1) by rw [show gI g1 526 3 = Int32.ofNat (mSk T i) from p1]; exact qi_add _ 1]
      simp only [hco]
    obtain ⟨ok1, P1, k1, v1, a1, a2, aX, aM⟩ := hS (mSk T i + 1) (by omega)
    cases ok1 with
    | false =>
      refine ⟨false, P1, 0, v, a1, fun w => (by cases w), ?_, ?_⟩
      · intro g l h hp hl h11 hs
        obtain ⟨g1, ze, hv1, p1, q1, f1⟩ := xgo g l h hp h11
        obtain ⟨g2, ze2, p2, -, f2⟩ := aX g1 (l + k) hv1 p1 (by omega) q1
        refine ⟨g2, ?_, p2, fun w => (by cases w), f1.zX.tr f2⟩
        rw [ze, ze2, qB_s, if_neg (by decide)]
        rfl
      · intro g t l ht h ha hl hs
        obtain ⟨g1, ze, hv1, b1, f1⟩ := mgo g t l h ha
        obtain ⟨g2, ze2, -, a3, f2⟩ := aM g1 t (l + k) ht hv1 b1 (by omega)
        obtain ⟨fl1, fl2, l', fl3, fl4⟩ := a3 rfl
        obtain ⟨g3, ze3, -, -, p3, f3⟩ := m_put (x := Int32.ofNat (mCo c)) (y := 0) fl2 ht fl4 (by omega)
        refine ⟨g3, ?_, fun w => (by cases w), fun _ => ⟨(f3.2.1 _ _ (by omega)).trans fl1, (f3.2.1 _ _ (by omega)).trans fl2, l' + 1, by omega, p3⟩, f1.zM.tr (f2.tr (f3.mono fun a k w => by show sLM t 0 a k; unfold sLM; omega))⟩
        rw [ze, ze2, qB_s]
        unfold f_X12_compare_68
        rw [ze3, qB_s]
    | true =>
      obtain ⟨a3, a4, a5, -⟩ := a2 rfl
      refine ⟨true, P1, k + k1 + 1, fun r => mOp c (v r) (v1 r), a1, fun _ => ⟨by omega, by omega, by omega, fun r hr => mOp_b, fun _ r hr => mOp_t oct⟩, ?_, ?_⟩
      · intro g l h hp hl h11 hs
        obtain ⟨g1, ze, hv1, p1, q1, f1⟩ := xgo g l h hp h11
        obtain ⟨g2, ze2, p2, r2, f2⟩ := aX g1 (l + k) hv1 p1 (by omega) q1
        obtain ⟨r3, r4⟩ := r2 rfl
        have f12 : qF (sLX (l + k)) g g2 := f1.tr f2
        have ze3 := x_addc (x := - Int32.ofNat c) r3 (by omega)
        have F3 : qF (sLX (l + k)) g (gsI (gsI g2 13 (l + k + k1) (- Int32.ofNat c)) 11 2 (Int32.ofNat (l + k + k1 + 1))) := (f12.sI (Or.inr (Or.inr ⟨rfl, by omega⟩))).sI (Or.inr (Or.inl ⟨rfl, rfl⟩))
        have s1 : xSeg ((gsI (gsI g2 13 (l + k + k1) (- Int32.ofNat c)) 11 2 (Int32.ofNat (l + k + k1 + 1))).2.1 13) l (l + k) w v := hs.l F3 (Nat.le_refl _)
        have s2 : xSeg ((gsI (gsI g2 13 (l + k + k1) (- Int32.ofNat c)) 11 2 (Int32.ofNat (l + k + k1 + 1))).2.1 13) (l + k) (l + k + k1) (15 - 2 * d) v1 := r4.cp fun q q1 q2 => by rw [qs_In (by omega), qs_In (by omega)]
        have s3 := xSeg_bin s1 s2 oc (by rw [qs_In (by omega), qs_Ie]) hv a5 (fun w => absurd w n38) (w := w) (Nat.le_refl _) (by omega)
        refine ⟨_, ?_, by rw [qs_In (by omega), qs_In (by omega)]; exact p2, fun _ => ⟨qs_Ie.trans (congrArg Int32.ofNat (by omega)), s3.e (by omega)⟩, F3.mono fun a q w => by show sLX l a q; unfold sLX at w ⊢; omega⟩
        rw [ze, ze2, qB_s, if_pos (by decide), ze3, qB_s]
        rfl
      · intro g t l ht h ha hl hs
        obtain ⟨g1, ze, hv1, b1, f1⟩ := mgo g t l h ha
        obtain ⟨g2, ze2, r2, -, f2⟩ := aM g1 t (l + k) ht hv1 b1 (by omega)
        obtain ⟨r3, r4⟩ := r2 rfl
        have f12 : qF (sLM t (l + k)) g g2 := f1.tr f2
        obtain ⟨g3, ze3, k3, -, p3, f3⟩ := m_put (x := Int32.ofNat (mCo c)) (y := 0) r3.2.2.2.1 ht r3.2.2.2.2 (by omega)
        have F3 : qF (sLM t (l + k)) g g3 := f12.tr (f3.mono fun a q w => by unfold sLM; omega)
        have s1 : mSeg t (g3.2.1 528) (g3.2.1 529) l (l + k) w v := hs.l F3 (Nat.le_refl _)
        have s2 : mSeg t (g3.2.1 528) (g3.2.1 529) (l + k) (l + k + k1) (15 - 2 * d) v1 := r4.cp fun q q1 q2 => ⟨f3.2.1 _ _ (by omega), f3.2.1 _ _ (by omega)⟩
        have s3 := mSeg_bin s1 s2 oc k3 hv a5 (w := w) (Nat.le_refl _) (by omega) ht
        refine ⟨g3, ?_, fun _ => ⟨⟨(f3.2.1 _ _ (by omega)).trans r3.1, (f3.2.1 _ _ (by omega)).trans r3.2.1, (f3.2.1 _ _ (by omega)).trans r3.2.2.1, (f3.2.1 _ _ (by omega)).trans r3.2.2.2.1, p3.trans (congrArg Int32.ofNat (by omega))⟩, s3.e (by omega)⟩, fun w => (by cases w), F3.mono fun a q w => by show sLM t l a q; unfold sLM at w ⊢; omega⟩
        rw [ze, ze2, qB_s]
        unfold f_X12_compare_68
        rw [ze3, qB_s]
  · refine ⟨false, mSk T i, 0, v, hjl, fun w => (by cases w), ?_, ?_⟩
    · intro g l h hp hl h11 hs
      obtain ⟨g1, ze1, p1, f1⟩ := x_next hT h hp hi
      refine ⟨g1, ?_, p1, fun w => (by cases w), f1.mono fun a k w => sLX_T w⟩
      unfold f_X5_comparison
      rw [ze1, qB_s, (x_isC (by omega)).2 hc, qB_s, if_neg (fun w => w rfl)]
      rfl
    · intro g t l ht h ha hl hs
      obtain ⟨g1, ze1, p1, f1⟩ := m_look hT h ha.1 (by omega)
      have e4 : g1.2.1 526 4 = -1 := (f1.2.1 _ _ (by omega)).trans ha.2.1
      refine ⟨gsI g1 526 4 (Int32.ofNat (mSk T i)), ?_, fun w => (by cases w), fun _ => ⟨qs_Ie, ?_, l + k, by omega, ?_⟩, (f1.mono fun a k w => sLM_T w).sI (Or.inl ⟨rfl, by omega⟩)⟩
      · unfold f_X12_compare f_X12_compare_16
        rw [if_neg (fun w => w ha.2.1), ze1, qB_s, (m_isS hT).2 hc, qB_s, if_neg (fun w => w rfl), m_bad e4 p1, qB_s]
      · rw [qs_In (by omega), f1.2.1 _ _ (by omega)]; exact ha.2.2.2.1
      · rw [qs_In (by omega), f1.2.1 _ _ (by omega)]; exact ha.2.2.2.2
theorem d_loop2 {d w w1 fb0 fb c : Nat} {X X0 : Int32 → zSg → Option (Int32 × zSg)} {M M0 : zSg → Option (Unit × zSg)} {XL : Nat → Int32 → Int32 → zSg → Option (Int32 × zSg)} {ML : Nat → zSg → Option (Unit × zSg)} (hT : mTpOk T)
    (hXL : ∀ n y1 y2 g, XL (n + 1) y1 y2 g = (if 240 ≤ y2 then some (1, g) else zB (f_X9_take (Int32.ofNat c) g) (fun v2 g3 => if v2 = 0 then some (1, g3) else zB (X0 y1 g3) (fun v6 g7 => if ¬ v6 = 0 then zB (f_X4_add 11 (- Int32.ofNat c) g7) (fun v10 g11 => XL n y1 (y2 + 1) g11) else some (0, g7)))))
    (hML : ∀ n g, ML (n + 1) g = (if ¬ (gI g 526 4) = (-1) then some ((), g) else zB (f_X12_look g) (fun v2 g3 => if ¬ v2 = Int32.ofNat c then some ((), g3) else zB (M0 (gsI g3 526 3 ((gI g3 526 3) + 1))) (fun v6 g7 => zB (f_X12_put (Int32.ofNat (mCo c)) 0 g7) (fun v9 g10 => ML n g10)))))
    (hX : ∀ x g, X x g = XL zFu x 0 g) (hM : ∀ g, M g = ML zFu g)
    (h0 : jN T d w1 fb0 true X0 M0) (hc : c = 38 ∨ c = 124) (hw1 : w1 + 1 ≤ w) (hfb : fb0 + 1 ≤ fb) (hfb0 : 241 ≤ fb0) (hfb2 : fb ≤ 400) : jE T d w fb true true X M := by
  have h240 := hT.1
  have oc : mOc c := by unfold mOc; omega
  have oct : c = 61 ∨ c = 60 ∨ c = 62 ∨ c = 38 ∨ c = 124 := by omega
  have key : ∀ (r i0 i k : Nat) (v : mV), T.1 - i ≤ r → i ≤ T.1 → i0 + k ≤ i → 1 ≤ k → mVb v → mVt v → ∃ (ok : Bool) (P k' : Nat) (v' : mV), P ≤ T.1 ∧ (ok = true → i ≤ P ∧ i0 + k' ≤ P ∧ 1 ≤ k' ∧ mVb v' ∧ mVt v') ∧
      (∀ n cnt g l, r < n → cnt + (T.1 - i) ≤ 240 → vTpX T g → g.2.1 1 2 = Int32.ofNat i → l ≤ i0 → g.2.1 11 2 = Int32.ofNat (l + k) → xSeg (g.2.1 13) l (l + k) w v → ∃ g', XL n (Int32.ofNat d) (Int32.ofNat cnt) g = some (mB ok, g') ∧ g'.2.1 1 2 = Int32.ofNat P ∧ (ok = true → g'.2.1 11 2 = Int32.ofNat (l + k') ∧ xSeg (g'.2.1 13) l (l + k') w v') ∧ qF (sLX (cond ok l 0)) g g') ∧
      (∀ n g t l, r + 1 < n → t < 5 → vTpM T g → vAtM i d t (l + k) g → l ≤ i0 → mSeg t (g.2.1 528) (g.2.1 529) l (l + k) w v → ∃ g', ML n g = some ((), g') ∧ (ok = true → vAtM P d t (l + k') g' ∧ mSeg t (g'.2.1 528) (g'.2.1 529) l (l + k') w v') ∧ (ok = false → vFl P t fb g') ∧ qF (sLM t (cond ok l 0)) g g') := by
    intro r
    induction r with
    | zero =>
      intro i0 i k v hr hi hk hk1 hv hvt
      have e : i = T.1 := by omega
      subst e
      have es : mSk T T.1 = T.1 := mSk_n (fun q => by omega)
      have ea : mAt T T.1 = 0 := if_neg (Nat.lt_irrefl _)
      have em : mAtM T T.1 = -1 := if_neg (Nat.lt_irrefl _)
      refine ⟨true, T.1, k, v, Nat.le_refl _, fun _ => ⟨Nat.le_refl _, hk, hk1, hv, hvt⟩, ?_, ?_⟩
      · intro n cnt g l hn hcn h hp hl h11 hs
        obtain ⟨n, rfl⟩ : ∃ n', n = n' + 1 := ⟨n - 1, by omega⟩
        rw [hXL]
        by_cases hcc : (240 : Int32) ≤ Int32.ofNat cnt
        · rw [if_pos hcc]
          exact ⟨g, rfl, hp, fun _ => ⟨h11, hs⟩, qF.rfl'⟩
        · obtain ⟨g1, ze1, p1, f1⟩ := x_take (c := c) hT h hp (Nat.le_refl _) (by omega)
          rw [es, ea, if_neg (by omega)] at p1
          rw [es, ea, decide_eq_false (by omega)] at ze1
          rw [if_neg hcc, ze1, qB_s, if_pos (by decide)]
          exact ⟨g1, rfl, p1, fun _ => ⟨(f1.2.1 _ _ (by unfold sTX; omega)).trans h11, hs.cp fun k _ _ => f1.2.1 _ _ (by unfold sTX; omega)⟩, f1.mono fun a k w => sLX_T w⟩
      · intro n g t l hn ht h ha hl hs
        obtain ⟨n, rfl⟩ : ∃ n', n = n' + 1 := ⟨n - 1, by omega⟩
        obtain ⟨g1, ze1, p1, f1⟩ := m_look hT h ha.1 (by omega)
        rw [es] at ze1 p1
        rw [hML, if_neg (fun w => w ha.2.1), ze1, qB_s, em, if_pos (show ¬ (-1 : Int32) = Int32.ofNat c from fun w => qi_ne_m1 (by omega) w.symm)]
        exact ⟨g1, rfl, fun _ => ⟨⟨p1, (f1.2.1 _ _ (by omega)).trans ha.2.1, (f1.2.1 _ _ (by omega)).trans ha.2.2.1, (f1.2.1 _ _ (by omega)).trans ha.2.2.2.1, (f1.2.1 _ _ (by omega)).trans ha.2.2.2.2⟩, hs.cp fun k _ _ => ⟨f1.2.1 _ _ (by omega), f1.2.1 _ _ (by omega)⟩⟩, fun w => (by cases w), f1.mono fun a k w => sLM_T w⟩
    | succ r ih =>
      intro i0 i k v hr hi hk hk1 hv hvt
      have hjl := mSk_le (T := T) hi
      have hjg := mSk_ge (T := T) (i := i)
      by_cases hop : mAt T (mSk T i) = c
      · have hin : mSk T i < T.1 := (mAt_in hT).mp (by omega)
        have emc : mAtM T (mSk T i) = Int32.ofNat c := by rw [mAtM_eq hT (by omega) (by omega)]; exact hop
        have xgo : ∀ n cnt g l, cnt + (T.1 - i) ≤ 240 → vTpX T g → g.2.1 1 2 = Int32.ofNat i → g.2.1 11 2 = Int32.ofNat (l + k) → ∃ g1, XL (n + 1) (Int32.ofNat d) (Int32.ofNat cnt) g = zB (X0 (Int32.ofNat d) g1) (fun v6 g7 => if ¬ v6 = 0 then zB (f_X4_add 11 (- Int32.ofNat c) g7) (fun v10 g11 => XL n (Int32.ofNat d) (Int32.ofNat (cnt + 1)) g11) else some (0, g7)) ∧ vTpX T g1 ∧ g1.2.1 1 2 = Int32.ofNat (mSk T i + 1) ∧ g1.2.1 11 2 = Int32.ofNat (l + k) ∧ qF (sLX (l + k)) g g1 := fun n cnt g l hcn h hp h11 => by
          obtain ⟨g1, ze1, p1, f1⟩ := x_take (c := c) hT h hp hi (by omega)
          rw [if_pos hop] at p1
          rw [decide_eq_true hop] at ze1
          refine ⟨g1, ?_, h.fr f1 (by unfold sTX; omega) (fun k => by unfold sTX; omega), p1, (f1.2.1 _ _ (by unfold sTX; omega)).trans h11, f1.mono fun a k w => sLX_T w⟩
          rw [hXL, if_neg (show ¬ (240 : Int32) ≤ Int32.ofNat cnt by rw [show (240 : Int32) = Int32.ofNat 240 from rfl, qi_le (by omega) (by omega)]; omega), ze1, qB_s, if_neg (by decide), show Int32.ofNat cnt + 1 = Int32.ofNat (cnt + 1) from qi_add cnt 1]
        have mgo : ∀ n g t l, vTpM T g → vAtM i d t (l + k) g → ∃ g1, ML (n + 1) g = zB (M0 g1) (fun v6 g7 => zB (f_X12_put (Int32.ofNat (mCo c)) 0 g7) (fun v9 g10 => ML n g10)) ∧ vTpM T g1 ∧ vAtM (mSk T i + 1) d t (l + k) g1 ∧ qF (sLM t (l + k)) g g1 := fun n g t l h ha => by
          obtain ⟨g1, ze1, p1, f1⟩ := m_look hT h ha.1 (by omega)
          have F : qF (fun a k => a = 526 ∧ k = 3) g (gsI g1 526 3 (Int32.ofNat (mSk T i + 1))) := f1.sI ⟨rfl, rfl⟩
          refine ⟨gsI g1 526 3 (Int32.ofNat (mSk T i + 1)), ?_, h.fr F (by omega) (fun k => by omega), ⟨qs_Ie, (F.2.1 _ _ (by omega)).trans ha.2.1, (F.2.1 _ _ (by omega)).trans ha.2.2.1, (F.2.1 _ _ (by omega)).trans ha.2.2.2.1, (F.2.1 _ _ (by omega)).trans ha.2.2.2.2⟩, F.mono fun a k w => sLM_T w⟩
          rw [hML, if_neg (fun w => w ha.2.1), ze1, qB_s, if_neg (fun w => w emc), show gI g1 526 3 + 1 = Int32.ofNat (mSk T i + 1) by rw [show gI g1 526 3 = Int32.ofNat (mSk T i) from p1]; exact qi_add _ 1]
        obtain ⟨ok1, P1, k1, v1, a1, a2, aX, aM⟩ := h0 (mSk T i + 1) (by omega)
        cases ok1 with
        | false =>
          refine ⟨false, P1, 0, v, a1, fun w => (by cases w), ?_, ?_⟩
          · intro n cnt g l hn hcn h hp hl h11 hs
            obtain ⟨n, rfl⟩ : ∃ n', n = n' + 1 := ⟨n - 1, by omega⟩
            obtain ⟨g1, ze, hv1, p1, q1, f1⟩ := xgo n cnt g l hcn h hp h11
            obtain ⟨g2, ze2, p2, -, f2⟩ := aX g1 (l + k) hv1 p1 (by omega) q1
            refine ⟨g2, ?_, p2, fun w => (by cases w), f1.zX.tr f2⟩
            rw [ze, ze2, qB_s, if_neg (by decide)]
            rfl
          · intro n g t l hn ht h ha hl hs
            obtain ⟨n, rfl⟩ : ∃ n', n = n' + 1 + 1 := ⟨n - 2, by omega⟩
            obtain ⟨g1, ze, hv1, b1, f1⟩ := mgo (n + 1) g t l h ha
            obtain ⟨g2, ze2, -, a3, f2⟩ := aM g1 t (l + k) ht hv1 b1 (by omega)
            obtain ⟨fl1, fl2, l', fl3, fl4⟩ := a3 rfl
            obtain ⟨g3, ze3, -, -, p3, f3⟩ := m_put (x := Int32.ofNat (mCo c)) (y := 0) fl2 ht fl4 (by omega)
            have w3 : g3.2.1 526 4 = Int32.ofNat P1 := (f3.2.1 _ _ (by omega)).trans fl1
            refine ⟨g3, ?_, fun w => (by cases w), fun _ => ⟨w3, (f3.2.1 _ _ (by omega)).trans fl2, l' + 1, by omega, p3⟩, f1.zM.tr (f2.tr (f3.mono fun a k w => by show sLM t 0 a k; unfold sLM; omega))⟩
            rw [ze, ze2, qB_s, ze3, qB_s, hML, if_pos (show ¬ gI g3 526 4 = (-1 : Int32) by rw [show gI g3 526 4 = _ from w3]; exact qi_ne_m1 (by omega))]
        | true =>
          obtain ⟨a3, a4, a5, a6⟩ := a2 rfl
          obtain ⟨ok, P, k', v', c1', c2', cX, cM⟩ := ih i0 P1 (k + k1 + 1) (fun r => mOp c (v r) (v1 r)) (by omega) a1 (by omega) (by omega) (fun r hr => mOp_b) (fun r hr => mOp_t oct)
          refine ⟨ok, P, k', v', c1', fun w => ⟨by have := (c2' w).1; omega, (c2' w).2⟩, ?_, ?_⟩
          · intro n cnt g l hn hcn h hp hl h11 hs
            obtain ⟨n, rfl⟩ : ∃ n', n = n' + 1 := ⟨n - 1, by omega⟩
            obtain ⟨g1, ze, hv1, p1, q1, f1⟩ := xgo n cnt g l hcn h hp h11
            obtain ⟨g2, ze2, p2, r2, f2⟩ := aX g1 (l + k) hv1 p1 (by omega) q1
            obtain ⟨r3, r4⟩ := r2 rfl
            have f12 : qF (sLX (l + k)) g g2 := f1.tr f2
            have ze3 := x_addc (x := - Int32.ofNat c) r3 (by omega)
            have F3 : qF (sLX (l + k)) g (gsI (gsI g2 13 (l + k + k1) (- Int32.ofNat c)) 11 2 (Int32.ofNat (l + k + k1 + 1))) := (f12.sI (Or.inr (Or.inr ⟨rfl, by omega⟩))).sI (Or.inr (Or.inl ⟨rfl, rfl⟩))
            have s1 : xSeg ((gsI (gsI g2 13 (l + k + k1) (- Int32.ofNat c)) 11 2 (Int32.ofNat (l + k + k1 + 1))).2.1 13) l (l + k) w v := hs.l F3 (Nat.le_refl _)
            have s2 : xSeg ((gsI (gsI g2 13 (l + k + k1) (- Int32.ofNat c)) 11 2 (Int32.ofNat (l + k + k1 + 1))).2.1 13) (l + k) (l + k + k1) w1 v1 := r4.cp fun q q1 q2 => by rw [qs_In (by omega), qs_In (by omega)]
            have s3 := xSeg_bin s1 s2 oc (by rw [qs_In (by omega), qs_Ie]) hv a5 (fun _ => ⟨hvt, a6 rfl⟩) (w := w) (Nat.le_refl _) hw1
            obtain ⟨g4, ze4, p4, r5, f4⟩ := cX n (cnt + 1) (gsI (gsI g2 13 (l + k + k1) (- Int32.ofNat c)) 11 2 (Int32.ofNat (l + k + k1 + 1))) l (by omega) (by omega) (h.l F3) (by rw [qs_In (by omega), qs_In (by omega)]; exact p2) hl (qs_Ie.trans (congrArg Int32.ofNat (by omega))) (s3.e (by omega))
            refine ⟨g4, ?_, p4, r5, ?_⟩
            · rw [ze, ze2, qB_s, if_pos (by decide), ze3, qB_s]
              exact ze4
            · refine qF.tr (F3.mono fun a q w => ?_) f4
              cases ok
              · show sLX 0 a q; unfold sLX at w ⊢; omega
              · show sLX l a q; unfold sLX at w ⊢; omega
          · intro n g t l hn ht h ha hl hs
            obtain ⟨n, rfl⟩ : ∃ n', n = n' + 1 := ⟨n - 1, by omega⟩
            obtain ⟨g1, ze, hv1, b1, f1⟩ := mgo n g t l h ha
            obtain ⟨g2, ze2, r2, -, f2⟩ := aM g1 t (l + k) ht hv1 b1 (by omega)
            obtain ⟨r3, r4⟩ := r2 rfl
            have f12 : qF (sLM t (l + k)) g g2 := f1.tr f2
            obtain ⟨g3, ze3, k3, -, p3, f3⟩ := m_put (x := Int32.ofNat (mCo c)) (y := 0) r3.2.2.2.1 ht r3.2.2.2.2 (by omega)
            have F3 : qF (sLM t (l + k)) g g3 := f12.tr (f3.mono fun a q w => by unfold sLM; omega)
            have s1 : mSeg t (g3.2.1 528) (g3.2.1 529) l (l + k) w v := hs.l F3 (Nat.le_refl _)
            have s2 : mSeg t (g3.2.1 528) (g3.2.1 529) (l + k) (l + k + k1) w1 v1 := r4.cp fun q q1 q2 => ⟨f3.2.1 _ _ (by omega), f3.2.1 _ _ (by omega)⟩
            have s3 := mSeg_bin s1 s2 oc k3 hv a5 (w := w) (Nat.le_refl _) hw1 ht
            have at4 : vAtM P1 d t (l + (k + k1 + 1)) g3 := ⟨(f3.2.1 _ _ (by omega)).trans r3.1, (f3.2.1 _ _ (by omega)).trans r3.2.1, (f3.2.1 _ _ (by omega)).trans r3.2.2.1, (f3.2.1 _ _ (by omega)).trans r3.2.2.2.1, p3.trans (congrArg Int32.ofNat (by omega))⟩
            obtain ⟨g5, ze5, r5, r6, f5⟩ := cM n g3 t l (by omega) ht (h.l F3) at4 hl (s3.e (by omega))
            refine ⟨g5, ?_, r5, r6, ?_⟩
            · rw [ze, ze2, qB_s, ze3, qB_s]
              exact ze5
            · refine qF.tr (F3.mono fun a q w => ?_) f5
              cases ok
              · show sLM t 0 a q; unfold sLM at w ⊢; omega
              · show sLM t l a q; unfold sLM at w ⊢; omega
      · refine ⟨true, mSk T i, k, v, hjl, fun _ => ⟨hjg, by omega, hk1, hv, hvt⟩, ?_, ?_⟩
        · intro n cnt g l hn hcn h hp hl h11 hs
          obtain ⟨n, rfl⟩ : ∃ n', n = n' + 1 := ⟨n - 1, by omega⟩
          rw [hXL]
          by_cases hcc : (240 : Int32) ≤ Int32.ofNat cnt
          · have hc2 := hcc
            rw [show (240 : Int32) = Int32.ofNat 240 from rfl, qi_le (by omega) (by omega)] at hc2
            have es : mSk T i = i := mSk_n (fun q => by omega)
            rw [if_pos hcc, es]
            exact ⟨g, rfl, hp, fun _ => ⟨h11, hs⟩, qF.rfl'⟩
          · obtain ⟨g1, ze1, p1, f1⟩ := x_take (c := c) hT h hp hi (by omega)
            rw [if_neg hop] at p1
            rw [decide_eq_false hop] at ze1
            rw [if_neg hcc, ze1, qB_s, if_pos (by decide)]
            exact ⟨g1, rfl, p1, fun _ => ⟨(f1.2.1 _ _ (by unfold sTX; omega)).trans h11, hs.cp fun k _ _ => f1.2.1 _ _ (by unfold sTX; omega)⟩, f1.mono fun a k w => sLX_T w⟩
        · intro n g t l hn ht h ha hl hs
          obtain ⟨n, rfl⟩ : ∃ n', n = n' + 1 := ⟨n - 1, by omega⟩
          obtain ⟨g1, ze1, p1, f1⟩ := m_look hT h ha.1 (by omega)
          rw [hML, if_neg (fun w => w ha.2.1), ze1, qB_s, if_pos (show ¬ mAtM T (mSk T i) = Int32.ofNat c by rw [mAtM_eq hT (by omega) (by omega)]; exact hop)]
          exact ⟨g1, rfl, fun _ => ⟨⟨p1, (f1.2.1 _ _ (by omega)).trans ha.2.1, (f1.2.1 _ _ (by omega)).trans ha.2.2.1, (f1.2.1 _ _ (by omega)).trans ha.2.2.2.1, (f1.2.1 _ _ (by omega)).trans ha.2.2.2.2⟩, hs.cp fun k _ _ => ⟨f1.2.1 _ _ (by omega), f1.2.1 _ _ (by omega)⟩⟩, fun w => (by cases w), f1.mono fun a k w => sLM_T w⟩
  intro i0 i k v hi hk hk1 hv hvt
  obtain ⟨ok, P, k', v', c1, c2, cX, cM⟩ := key (T.1 - i) i0 i k v (Nat.le_refl _) hi hk hk1 hv (hvt rfl)
  refine ⟨ok, P, k', v', c1, fun w => ⟨(c2 w).1, (c2 w).2.1, (c2 w).2.2.1, (c2 w).2.2.2.1, fun _ => (c2 w).2.2.2.2⟩, ?_, ?_⟩
  · intro g l h hp hl h11 hs
    rw [hX]
    exact cX zFu 0 g l (by show _ < 1000000; omega) (by omega) h hp hl h11 hs
  · intro g t l ht h ha hl hs
    rw [hM]
    exact cM zFu g t l (by show _ < 1000000; omega) ht h ha hl hs
end AT
