/-! ===== both sides: a LAW's TEXT: operators between ===== -/
def lpX (X0 : Int32 → zSg → Option (Int32 × zSg)) (K : Int32 → Int32 → Int32 → zSg → Option (Int32 × zSg)) (y1 y3 y4 : Int32) (g : zSg) : Option (Int32 × zSg) := zB (f_X9_skip g) (fun v1 g2 => zB (X0 y1 g2) (fun v4 g5 => zB (f_X4_add 11 (-y4) g5) (fun v7 g8 => K y1 v4 (y3 + 1) g8)))
def lpR (K : Int32 → zSg → Option (Unit × zSg)) (s0 : Int32) (g : zSg) : Option (Unit × zSg) := zB (f_X12_put s0 0 g) (fun v1 g2 => if ¬ (gI g2 526 4) = (-1) then K (-1) g2 else zB (f_X12_look g2) (fun v5 g6 => K v5 g6))
def lpQ (c1 : Nat) (s1 s2 : Int32) (M0 : zSg → Option (Unit × zSg)) (K : Int32 → zSg → Option (Unit × zSg)) (y1 : Int32) (g : zSg) : Option (Unit × zSg) := zB (M0 (gsI g 526 3 ((gI g 526 3) + 1))) (fun v1 g2 => if ¬ y1 = Int32.ofNat c1 then lpR K s2 g2 else lpR K s1 g2)
section AR
variable {T : mTk}
theorem x_addz {x : Int32} {g : zSg} : ∃ g', f_X4_add 11 x g = some ((), g') ∧ qF (fun a k => (a = 11 ∧ k = 2) ∨ a = 13) g g' := by
  unfold f_X4_add
  by_cases h1 : (256 : Int32) ≤ gI g 11 2
  · rw [if_pos h1]; exact ⟨g, rfl, qF.rfl'⟩
  · rw [if_neg h1]
    by_cases h0 : gI g 11 2 < 0
    · unfold f_X7_set
      rw [if_pos h0, qB_s]
      exact ⟨_, rfl, qF.rfl'.sI (Or.inl ⟨rfl, rfl⟩)⟩
    · have hh : mHas 256 (gI g 11 2) := Classical.byContradiction fun w => h1 (q_out (n := 256) (by omega) w h0)
      obtain ⟨k, hk, e⟩ := hh
      rw [e, show f_X7_set (11 + 1) (Int32.ofNat k) x g = some ((), gsI g 13 k x) from q_set (a := 12) (n := 256) rfl (by decide) hk, qB_s]
      exact ⟨_, rfl, (qF.rfl'.sI (Or.inr rfl)).sI (Or.inl ⟨rfl, rfl⟩)⟩
theorem xSeg.l {l l' e w : Nat} {v : mV} {g g' : zSg} (h : xSeg (g.2.1 13) l e w v) (hf : qF (sLX l') g g') (he : e ≤ l') : xSeg (g'.2.1 13) l e w v := h.cp fun k q1 q2 => hf.2.1 _ _ (by unfold sLX; omega)
theorem mSeg.l {t l l' e w : Nat} {v : mV} {g g' : zSg} (h : mSeg t (g.2.1 528) (g.2.1 529) l e w v) (hf : qF (sLM t l') g g') (he : e ≤ l') : mSeg t (g'.2.1 528) (g'.2.1 529) l e w v := h.cp fun k q1 q2 => ⟨hf.2.1 _ _ (by unfold sLM; omega), hf.2.1 _ _ (by unfold sLM; omega)⟩
theorem xSeg.e {K : Nat → Int32} {s e e' w : Nat} {v : mV} (h : xSeg K s e w v) (he : e = e') : xSeg K s e' w v := by
  subst he
  exact h
theorem mSeg.e {t : Nat} {Kc Kv : Nat → Int32} {s e e' w : Nat} {v : mV} (h : mSeg t Kc Kv s e w v) (he : e = e') : mSeg t Kc Kv s e' w v := by
  subst he
  exact h
theorem mCo_1 {c : Nat} : 1 ≤ mCo c ∧ mCo c < 100 := by have := @mCo_b c; omega
theorem d_loop {d w w1 fb0 fb c1 c2 : Nat} {X0 : Int32 → zSg → Option (Int32 × zSg)} {M0 : zSg → Option (Unit × zSg)} {XL : Nat → Int32 → Int32 → Int32 → zSg → Option (Int32 × zSg)} {ML : Nat → Int32 → zSg → Option (Unit × zSg)} (hT : mTpOk T)
    (hXL : ∀ n y1 y2 y3 g, XL (n + 1) y1 y2 y3 g = (if y2 = 0 then (if y2 = 0 ∨ y2 = 1 then some (y2, g) else none) else (if 240 ≤ y3 then (if y2 = 0 ∨ y2 = 1 then some (y2, g) else none) else zB (f_X9_next g) (fun v5 g6 => if v5 = Int32.ofNat c1 then lpX X0 (XL n) y1 y3 v5 g6 else (if v5 = Int32.ofNat c2 then lpX X0 (XL n) y1 y3 v5 g6 else (if y2 = 0 ∨ y2 = 1 then some (y2, g6) else none))))))
    (hML : ∀ n y1 g, ML (n + 1) y1 g = (if y1 = Int32.ofNat c1 then lpQ c1 (Int32.ofNat (mCo c1)) (Int32.ofNat (mCo c2)) M0 (ML n) y1 g else (if ¬ y1 = Int32.ofNat c2 then some ((), g) else lpQ c1 (Int32.ofNat (mCo c1)) (Int32.ofNat (mCo c2)) M0 (ML n) y1 g)))
    (h0 : jN T d w1 fb0 false X0 M0) (hc1 : c1 = 43 ∨ c1 = 42) (hc2 : c2 = 45 ∨ c2 = 47) (hw1 : w1 + 1 ≤ w) (hfb : fb0 + 1 ≤ fb) (hfb0 : 241 ≤ fb0) (hfb2 : fb ≤ 400) :
    ∀ (r i0 i k : Nat) (v : mV), T.1 - i ≤ r → i ≤ T.1 → i0 + k ≤ i → 1 ≤ k → mVb v → ∃ (ok : Bool) (P k' : Nat) (v' : mV), P ≤ T.1 ∧ (ok = true → i ≤ P ∧ i0 + k' ≤ P ∧ 1 ≤ k' ∧ mVb v') ∧
      (∀ n cnt g l, r < n → cnt + (T.1 - i) ≤ 240 → vTpX T g → g.2.1 1 2 = Int32.ofNat i → l ≤ i0 → g.2.1 11 2 = Int32.ofNat (l + k) → xSeg (g.2.1 13) l (l + k) w v → ∃ g', XL n (Int32.ofNat d) 1 (Int32.ofNat cnt) g = some (mB ok, g') ∧ g'.2.1 1 2 = Int32.ofNat P ∧ (ok = true → g'.2.1 11 2 = Int32.ofNat (l + k') ∧ xSeg (g'.2.1 13) l (l + k') w v') ∧ qF (sLX (cond ok l 0)) g g') ∧
      (∀ n g t l, r + 1 < n → t < 5 → vTpM T g → vAtM (mSk T i) d t (l + k) g → l ≤ i0 → mSeg t (g.2.1 528) (g.2.1 529) l (l + k) w v → ∃ g', ML n (mAtM T (mSk T i)) g = some ((), g') ∧ (ok = true → vAtM P d t (l + k') g' ∧ mSeg t (g'.2.1 528) (g'.2.1 529) l (l + k') w v') ∧ (ok = false → vFl P t fb g') ∧ qF (sLM t (cond ok l 0)) g g') := by
  have h240 := hT.1
  have o1 : mOc c1 := by unfold mOc; omega
  have o2 : mOc c2 := by unfold mOc; omega
  intro r
  induction r with
  | zero =>
    intro i0 i k v hr hi hk hk1 hv
    have e : i = T.1 := by omega
    subst e
    have es : mSk T T.1 = T.1 := mSk_n (fun q => by omega)
    have ea : mAt T T.1 = 0 := if_neg (Nat.lt_irrefl _)
    have em : mAtM T T.1 = -1 := if_neg (Nat.lt_irrefl _)
    refine ⟨true, T.1, k, v, Nat.le_refl _, fun _ => ⟨Nat.le_refl _, hk, hk1, hv⟩, ?_, ?_⟩
    · intro n cnt g l hn hcn h hp hl h11 hs
      obtain ⟨n, rfl⟩ : ∃ n', n = n' + 1 := ⟨n - 1, by omega⟩
      obtain ⟨g1, ze1, p1, f1⟩ := x_next hT h hp (Nat.le_refl _)
      rw [es] at ze1 p1
      rw [hXL, if_neg (by decide)]
      by_cases hcc : (240 : Int32) ≤ Int32.ofNat cnt
      · rw [if_pos hcc, if_pos (Or.inr rfl)]
        exact ⟨g, rfl, hp, fun _ => ⟨h11, hs⟩, qF.rfl'⟩
      · rw [if_neg hcc, ze1, qB_s, ea, if_neg (show ¬ Int32.ofNat 0 = Int32.ofNat c1 from q_ne (by omega) (by omega) (by omega)), if_neg (show ¬ Int32.ofNat 0 = Int32.ofNat c2 from q_ne (by omega) (by omega) (by omega)), if_pos (Or.inr rfl)]
        exact ⟨g1, rfl, p1, fun _ => ⟨(f1.2.1 _ _ (by unfold sTX; omega)).trans h11, hs.cp fun k _ _ => f1.2.1 _ _ (by unfold sTX; omega)⟩, f1.mono fun a k w => sLX_T w⟩
    · intro n g t l hn ht h ha hl hs
      obtain ⟨n, rfl⟩ : ∃ n', n = n' + 1 := ⟨n - 1, by omega⟩
      rw [es] at ha ⊢
      rw [hML, em, if_neg (show ¬ (-1 : Int32) = Int32.ofNat c1 from fun w => qi_ne_m1 (by omega) w.symm), if_pos (show ¬ (-1 : Int32) = Int32.ofNat c2 from fun w => qi_ne_m1 (by omega) w.symm)]
      exact ⟨g, rfl, fun _ => ⟨ha, hs⟩, fun w => (by cases w), qF.rfl'⟩
  | succ r ih =>
    intro i0 i k v hr hi hk hk1 hv
    have hjl := mSk_le (T := T) hi
    have hjg := mSk_ge (T := T) (i := i)
    have hlt := mAt_lt (i := mSk T i) hT
    by_cases hop : mAt T (mSk T i) = c1 ∨ mAt T (mSk T i) = c2
    · have hin : mSk T i < T.1 := (mAt_in hT).mp (by omega)
      obtain ⟨c, hcdef⟩ : ∃ c, c = mAt T (mSk T i) := ⟨_, rfl⟩
      rw [← hcdef] at hop
      have oc : mOc c := by rcases hop with e | e <;> (rw [e]; assumption)
      have hcb : 42 ≤ c ∧ c ≤ 47 := by omega
      have n38 : ¬ (c = 38 ∨ c = 124) := by omega
      have emc : mAtM T (mSk T i) = Int32.ofNat c := by rw [mAtM_eq hT (by omega) (by omega)]; exact hcdef.symm
      have xgo : ∀ n cnt g l, cnt + (T.1 - i) ≤ 240 → vTpX T g → g.2.1 1 2 = Int32.ofNat i → g.2.1 11 2 = Int32.ofNat (l + k) → ∃ g1, XL (n + 1) (Int32.ofNat d) 1 (Int32.ofNat cnt) g = zB (X0 (Int32.ofNat d) g1) (fun v4 g5 => zB (f_X4_add 11 (- Int32.ofNat c) g5) (fun v7 g8 => XL n (Int32.ofNat d) v4 (Int32.ofNat (cnt + 1)) g8)) ∧ vTpX T g1 ∧ g1.2.1 1 2 = Int32.ofNat (mSk T i + 1) ∧ g1.2.1 11 2 = Int32.ofNat (l + k) ∧ qF (sLX (l + k)) g g1 := fun n cnt g l hcn h hp h11 => by
        obtain ⟨g1, ze1, p1, f1⟩ := x_next hT h hp hi
        have F : qF sTX g (gsI g1 1 2 (Int32.ofNat (mSk T i + 1))) := f1.sI ⟨rfl, rfl⟩
        refine ⟨gsI g1 1 2 (Int32.ofNat (mSk T i + 1)), ?_, h.fr F (by unfold sTX; omega) (fun k => by unfold sTX; omega), qs_Ie, (F.2.1 _ _ (by unfold sTX; omega)).trans h11, F.mono fun a k w => sLX_T w⟩
        have elp : lpX X0 (XL n) (Int32.ofNat d) (Int32.ofNat cnt) (Int32.ofNat c) g1 = zB (X0 (Int32.ofNat d) (gsI g1 1 2 (Int32.ofNat (mSk T i + 1)))) (fun v4 g5 => zB (f_X4_add 11 (- Int32.ofNat c) g5) (fun v7 g8 => XL n (Int32.ofNat d) v4 (Int32.ofNat (cnt + 1)) g8)) := by
          unfold lpX f_X9_skip
          rw [qB_s, show gI g1 1 2 + 1 = Int32.ofNat (mSk T i + 1) by rw [show gI g1 1 2 = Int32.ofNat (mSk T i) from p1]; exact qi_add _ 1, show Int32.ofNat cnt + 1 = Int32.ofNat (cnt + 1) from qi_add cnt 1]
        rw [hXL, if_neg (by decide), if_neg (show ¬ (240 : Int32) ≤ Int32.ofNat cnt by rw [show (240 : Int32) = Int32.ofNat 240 from rfl, qi_le (by omega) (by omega)]; omega), ze1, qB_s, ← hcdef]
        by_cases q : c = c1
        · rw [if_pos (show Int32.ofNat c = Int32.ofNat c1 by rw [q]), elp]
        · have q2 : c = c2 := by omega
          rw [if_neg (show ¬ Int32.ofNat c = Int32.ofNat c1 from q_ne (by omega) (by omega) q), if_pos (show Int32.ofNat c = Int32.ofNat c2 by rw [q2]), elp]
      have mgo : ∀ n g t l, vTpM T g → vAtM (mSk T i) d t (l + k) g → ∃ g1, ML (n + 1) (mAtM T (mSk T i)) g = zB (M0 g1) (fun v1 g2 => lpR (ML n) (Int32.ofNat (mCo c)) g2) ∧ vTpM T g1 ∧ vAtM (mSk T i + 1) d t (l + k) g1 ∧ qF (sLM t (l + k)) g g1 := fun n g t l h ha => by
        have F : qF (fun a k => a = 526 ∧ k = 3) g (gsI g 526 3 (Int32.ofNat (mSk T i + 1))) := qF.rfl'.sI ⟨rfl, rfl⟩
        refine ⟨gsI g 526 3 (Int32.ofNat (mSk T i + 1)), ?_, h.fr F (by omega) (fun k => by omega), ⟨qs_Ie, (F.2.1 _ _ (by omega)).trans ha.2.1, (F.2.1 _ _ (by omega)).trans ha.2.2.1, (F.2.1 _ _ (by omega)).trans ha.2.2.2.1, (F.2.1 _ _ (by omega)).trans ha.2.2.2.2⟩, F.mono fun a k w => sLM_T w⟩
        have e3 : gI g 526 3 + 1 = Int32.ofNat (mSk T i + 1) := by rw [show gI g 526 3 = Int32.ofNat (mSk T i) from ha.1]; exact qi_add _ 1
        rw [hML, emc]
        unfold lpQ
        rw [e3]
        by_cases q : c = c1
        · have q3 : Int32.ofNat c = Int32.ofNat c1 := by rw [q]
          rw [if_pos q3]
          have : ∀ g2, (if ¬ Int32.ofNat c = Int32.ofNat c1 then lpR (ML n) (Int32.ofNat (mCo c2)) g2 else lpR (ML n) (Int32.ofNat (mCo c1)) g2) = lpR (ML n) (Int32.ofNat (mCo c)) g2 := fun g2 => by rw [if_neg (fun w => w q3), q]
          simp only [this]
        · have q2 : c = c2 := by omega
          have q3 : ¬ Int32.ofNat c = Int32.ofNat c1 := q_ne (by omega) (by omega) q
          rw [if_neg q3, if_neg (fun w => w (by rw [q2]))]
          have : ∀ g2, (if ¬ Int32.ofNat c = Int32.ofNat c1 then lpR (ML n) (Int32.ofNat (mCo c2)) g2 else lpR (ML n) (Int32.ofNat (mCo c1)) g2) = lpR (ML n) (Int32.ofNat (mCo c)) g2 := fun g2 => by rw [if_pos q3, q2]
          simp only [this]
      obtain ⟨ok1, P1, k1, v1, a1, a2, aX, aM⟩ := h0 (mSk T i + 1) (by omega)
      cases ok1 with
      | false =>
        refine ⟨false, P1, 0, v, a1, fun w => (by cases w), ?_, ?_⟩
        · intro n cnt g l hn hcn h hp hl h11 hs
          obtain ⟨n, rfl⟩ : ∃ n', n = n' + 1 + 1 := ⟨n - 2, by omega⟩
          obtain ⟨g1, ze, hv1, p1, q1, f1⟩ := xgo (n + 1) cnt g l hcn h hp h11
          obtain ⟨g2, ze2, p2, -, f2⟩ := aX g1 (l + k) hv1 p1 (by omega) q1
          obtain ⟨g3, ze3, f3⟩ := x_addz (x := - Int32.ofNat c) (g := g2)
          refine ⟨g3, ?_, (f3.2.1 _ _ (by omega)).trans p2, fun w => (by cases w), f1.zX.tr (f2.tr (f3.mono fun a k w => by show sLX 0 a k; unfold sLX; omega))⟩
          rw [ze, ze2, qB_s, ze3, qB_s, hXL, if_pos (by decide), if_pos (Or.inl (by decide))]
        · intro n g t l hn ht h ha hl hs
          obtain ⟨n, rfl⟩ : ∃ n', n = n' + 1 + 1 := ⟨n - 2, by omega⟩
          obtain ⟨g1, ze, hv1, b1, f1⟩ := mgo (n + 1) g t l h ha
          obtain ⟨g2, ze2, -, a3, f2⟩ := aM g1 t (l + k) ht hv1 b1 (by omega)
          obtain ⟨fl1, fl2, l', fl3, fl4⟩ := a3 rfl
          obtain ⟨g3, ze3, -, -, p3, f3⟩ := m_put (x := Int32.ofNat (mCo c)) (y := 0) fl2 ht fl4 (by omega)
          have w3 : g3.2.1 526 4 = Int32.ofNat P1 := (f3.2.1 _ _ (by omega)).trans fl1
          refine ⟨g3, ?_, fun w => (by cases w), fun _ => ⟨w3, (f3.2.1 _ _ (by omega)).trans fl2, l' + 1, by omega, p3⟩, f1.zM.tr (f2.tr (f3.mono fun a k w => by show sLM t 0 a k; unfold sLM; omega))⟩
          rw [ze, ze2, qB_s]
          unfold lpR
          rw [ze3, qB_s, if_pos (show ¬ gI g3 526 4 = (-1 : Int32) by rw [show gI g3 526 4 = _ from w3]; exact qi_ne_m1 (by omega)), hML, if_neg (show ¬ (-1 : Int32) = Int32.ofNat c1 from fun w => qi_ne_m1 (by omega) w.symm), if_pos (show ¬ (-1 : Int32) = Int32.ofNat c2 from fun w => qi_ne_m1 (by omega) w.symm)]
      | true =>
        obtain ⟨a3, a4, a5, -⟩ := a2 rfl
        obtain ⟨ok, P, k', v', c1', c2', cX, cM⟩ := ih i0 P1 (k + k1 + 1) (fun r => mOp c (v r) (v1 r)) (by omega) a1 (by omega) (by omega) (fun r hr => mOp_b)
        refine ⟨ok, P, k', v', c1', fun w => ⟨by have := (c2' w).1; omega, (c2' w).2⟩, ?_, ?_⟩
        · intro n cnt g l hn hcn h hp hl h11 hs
          obtain ⟨n, rfl⟩ : ∃ n', n = n' + 1 := ⟨n - 1, by omega⟩
          obtain ⟨g1, ze, hv1, p1, q1, f1⟩ := xgo n cnt g l hcn h hp h11
          obtain ⟨g2, ze2, p2, r2, f2⟩ := aX g1 (l + k) hv1 p1 (by omega) q1
          obtain ⟨r3, r4⟩ := r2 rfl
          have f12 : qF (sLX (l + k)) g g2 := f1.tr f2
          have ze3 := x_addc (x := - Int32.ofNat c) r3 (by omega)
          have F3 : qF (sLX (l + k)) g (gsI (gsI g2 13 (l + k + k1) (- Int32.ofNat c)) 11 2 (Int32.ofNat (l + k + k1 + 1))) := (f12.sI (Or.inr (Or.inr ⟨rfl, by omega⟩))).sI (Or.inr (Or.inl ⟨rfl, rfl⟩))
          have s1 : xSeg ((gsI (gsI g2 13 (l + k + k1) (- Int32.ofNat c)) 11 2 (Int32.ofNat (l + k + k1 + 1))).2.1 13) l (l + k) w v := hs.l F3 (Nat.le_refl _)
          have s2 : xSeg ((gsI (gsI g2 13 (l + k + k1) (- Int32.ofNat c)) 11 2 (Int32.ofNat (l + k + k1 + 1))).2.1 13) (l + k) (l + k + k1) w1 v1 := r4.cp fun q q1 q2 => by rw [qs_In (by omega), qs_In (by omega)]
          have s3 := xSeg_bin s1 s2 oc (by rw [qs_In (by omega), qs_Ie]) hv a5 (fun w => absurd w n38) (w := w) (Nat.le_refl _) hw1
          obtain ⟨g4, ze4, p4, r5, f4⟩ := cX n (cnt + 1) (gsI (gsI g2 13 (l + k + k1) (- Int32.ofNat c)) 11 2 (Int32.ofNat (l + k + k1 + 1))) l (by omega) (by omega) (h.l F3) (by rw [qs_In (by omega), qs_In (by omega)]; exact p2) hl (qs_Ie.trans (congrArg Int32.ofNat (by omega))) (s3.e (by omega))
          refine ⟨g4, ?_, p4, r5, ?_⟩
          · rw [ze, ze2, qB_s, ze3, qB_s]
            exact ze4
          · refine qF.tr (F3.mono fun a q w => ?_) f4
            cases ok
            · show sLX 0 a q; unfold sLX at w ⊢; omega
            · show sLX l a q; unfold sLX at w ⊢; omega
        · intro n g t l hn ht h ha hl hs
          obtain ⟨n, rfl⟩ : ∃ n', n = n' + 1 := ⟨n - 1, by omega⟩
          obtain ⟨g1, ze, hv1, b1, f1⟩ := mgo n g t l h ha
          obtain ⟨g2, ze2, r2, -, f2⟩ := aM g1 t (l + k) ht hv1 b1 (by omega)
          obtain ⟨r3, r4⟩ := r2 rfl
          have f12 : qF (sLM t (l + k)) g g2 := f1.tr f2
          obtain ⟨g3, ze3, k3, -, p3, f3⟩ := m_put (x := Int32.ofNat (mCo c)) (y := 0) r3.2.2.2.1 ht r3.2.2.2.2 (by omega)
          have F3 : qF (sLM t (l + k)) g g3 := f12.tr (f3.mono fun a q w => by unfold sLM; omega)
          have w3 : g3.2.1 526 4 = -1 := (f3.2.1 _ _ (by omega)).trans r3.2.1
          obtain ⟨g4, ze4, p4, f4⟩ := m_look hT (h.l F3) ((f3.2.1 _ _ (by omega)).trans r3.1) (by omega)
          have F4 : qF (sLM t (l + k)) g g4 := F3.tr (f4.mono fun a q w => sLM_T w)
          have s1 : mSeg t (g4.2.1 528) (g4.2.1 529) l (l + k) w v := hs.l F4 (Nat.le_refl _)
          have s2 : mSeg t (g4.2.1 528) (g4.2.1 529) (l + k) (l + k + k1) w1 v1 := r4.cp fun q q1 q2 => ⟨by rw [f4.2.1 _ _ (by omega), f3.2.1 _ _ (by omega)], by rw [f4.2.1 _ _ (by omega), f3.2.1 _ _ (by omega)]⟩
          have s3 := mSeg_bin s1 s2 oc ((f4.2.1 _ _ (by omega)).trans k3) hv a5 (w := w) (Nat.le_refl _) hw1 ht
          have at4 : vAtM (mSk T P1) d t (l + (k + k1 + 1)) g4 := ⟨p4, (f4.2.1 _ _ (by omega)).trans w3, by rw [f4.2.1 _ _ (by omega), f3.2.1 _ _ (by omega)]; exact r3.2.2.1, by rw [f4.2.1 _ _ (by omega), f3.2.1 _ _ (by omega)]; exact r3.2.2.2.1, by rw [f4.2.1 _ _ (by omega)]; exact p3.trans (congrArg Int32.ofNat (by omega))⟩
          obtain ⟨g5, ze5, r5, r6, f5⟩ := cM n g4 t l (by omega) ht (h.l F4) at4 hl (s3.e (by omega))
          refine ⟨g5, ?_, r5, r6, ?_⟩
          · rw [ze, ze2, qB_s]
            unfold lpR
            rw [ze3, qB_s, if_neg (fun w => w w3), ze4, qB_s]
            exact ze5
          · refine qF.tr (F4.mono fun a q w => ?_) f5
            cases ok
            · show sLM t 0 a q; unfold sLM at w ⊢; omega
            · show sLM t l a q; unfold sLM at w ⊢; omega
    · refine ⟨true, mSk T i, k, v, hjl, fun _ => ⟨hjg, by omega, hk1, hv⟩, ?_, ?_⟩
      · intro n cnt g l hn hcn h hp hl h11 hs
        obtain ⟨n, rfl⟩ : ∃ n', n = n' + 1 := ⟨n - 1, by omega⟩
        obtain ⟨g1, ze1, p1, f1⟩ := x_next hT h hp hi
        rw [hXL, if_neg (by decide)]
        by_cases hcc : (240 : Int32) ≤ Int32.ofNat cnt
        · have hc2 := hcc
          rw [show (240 : Int32) = Int32.ofNat 240 from rfl, qi_le (by omega) (by omega)] at hc2
          have es : mSk T i = i := mSk_n (fun q => by omega)
          rw [if_pos hcc, if_pos (Or.inr rfl), es]
          exact ⟨g, rfl, hp, fun _ => ⟨h11, hs⟩, qF.rfl'⟩
        · rw [if_neg hcc, ze1, qB_s, if_neg (show ¬ Int32.ofNat (mAt T (mSk T i)) = Int32.ofNat c1 from q_ne (by omega) (by omega) (fun w => hop (Or.inl w))), if_neg (show ¬ Int32.ofNat (mAt T (mSk T i)) = Int32.ofNat c2 from q_ne (by omega) (by omega) (fun w => hop (Or.inr w))), if_pos (Or.inr rfl)]
          exact ⟨g1, rfl, p1, fun _ => ⟨(f1.2.1 _ _ (by unfold sTX; omega)).trans h11, hs.cp fun k _ _ => f1.2.1 _ _ (by unfold sTX; omega)⟩, f1.mono fun a k w => sLX_T w⟩
      · intro n g t l hn ht h ha hl hs
        obtain ⟨n, rfl⟩ : ∃ n', n = n' + 1 := ⟨n - 1, by omega⟩
        have m1 : ¬ mAtM T (mSk T i) = Int32.ofNat c1 := by rw [mAtM_eq hT (by omega) (by omega)]; exact fun w => hop (Or.inl w)
        have m2 : ¬ mAtM T (mSk T i) = Int32.ofNat c2 := by rw [mAtM_eq hT (by omega) (by omega)]; exact fun w => hop (Or.inr w)
        rw [hML, if_neg m1, if_pos m2]
        exact ⟨g, rfl, fun _ => ⟨ha, hs⟩, fun w => (by cases w), qF.rfl'⟩
end AR
