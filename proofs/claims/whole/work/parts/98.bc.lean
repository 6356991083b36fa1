/-! ===== the calls: a LAW's TEXT, LAW ===== -/
section BC
variable {g : zSg}
theorem x_lawAt {k : Nat} (hk : k < 4) : f_X11_lawAt (Int32.ofNat k) g = some (some (17 + 5 * k), g) := by
  unfold f_X11_lawAt
  rw [if_neg (show ¬ Int32.ofNat k < (0 : Int32) by rw [show (0 : Int32) = Int32.ofNat 0 from rfl, qi_lt (by omega) (by omega)]; omega), if_neg (show ¬ (4 : Int32) ≤ Int32.ofNat k by rw [show (4 : Int32) = Int32.ofNat 4 from rfl, qi_le (by omega) (by omega)]; omega), if_pos (qi_zib (by omega) (by omega)), qi_ix (by omega)]
  have e : zR0 g.2.2.2 16 k = some (17 + 5 * k) := by
    unfold zR0
    rw [show (zK0 16).1 = 15 from rfl]
    show (if k < 4 then some (17 + 5 * k) else none) = _
    rw [if_pos hk]
  rw [e]
theorem x_lawAt0 {x : Int32} (h : x < 0 ∨ (4 : Int32) ≤ x) : f_X11_lawAt x g = some (none, g) := by
  unfold f_X11_lawAt f_X11_lawAt_22
  by_cases q : x < 0
  · rw [if_pos q]
  · rw [if_neg q, if_pos (h.resolve_left q)]
theorem zK0_L {k : Nat} (hk : k < 4) : (zK0 (17 + 5 * k)).1 = 4 := (by decide +kernel : ∀ k : Fin 4, (zK0 (17 + 5 * k.val)).1 = 4) ⟨k, hk⟩
theorem xObj_L {k : Nat} (hk : k < 4) : xObj (17 + 5 * k) := by unfold xObj; omega
theorem x_takeLaw {n len : Nat} {cv : mCv} (hn : n < 4) (h11 : g.2.1 0 11 = Int32.ofNat n) (hl : g.2.1 11 2 = Int32.ofNat len) (hl2 : len ≤ 256) (hs : xCls (g.2.1 13) 0 len cv) : ∃ g', f_X11_takeLaw g = some (Int32.ofNat n, g') ∧ xLw (17 + 5 * n) (mLwC cv) g' ∧ g'.2.1 0 11 = Int32.ofNat (n + 1) ∧ g'.2.1 1 1 = Int32.ofNat 0 ∧ qF (fun a k => (a = 1 ∧ k = 1) ∨ a = 17 + 5 * n + 2 ∨ (a = 17 + 5 * n ∧ k = 2) ∨ (a = 0 ∧ k = 11)) g g' := by
  have ho := xObj_L hn
  have hk := ho.k
  obtain ⟨g2, ze2, c2, f2⟩ := q_bec (a := 17 + 5 * n + 1) (b := 12) (n := 256) (g := gsI g 1 1 0) hk.1 rfl (by decide)
  have F2 : qF (fun a k => (a = 1 ∧ k = 1) ∨ a = 17 + 5 * n + 2 ∨ (a = 17 + 5 * n ∧ k = 2) ∨ (a = 0 ∧ k = 11)) g g2 := (qF.rfl'.sI (Or.inl ⟨rfl, rfl⟩)).tr (f2.mono fun a k w => by omega)
  have e2 : gI g2 11 2 = Int32.ofNat len := (F2.2.1 _ _ (by omega)).trans hl
  have e11 : gI (gsI g2 (17 + 5 * n) 2 (Int32.ofNat len)) 0 11 = Int32.ofNat n := (qs_In (by omega)).trans ((f2.2.1 0 11 (by omega)).trans ((qs_In (by omega)).trans h11))
  have F4 : qF (fun a k => (a = 1 ∧ k = 1) ∨ a = 17 + 5 * n + 2 ∨ (a = 17 + 5 * n ∧ k = 2) ∨ (a = 0 ∧ k = 11)) g (gsI (gsI g2 (17 + 5 * n) 2 (Int32.ofNat len)) 0 11 (Int32.ofNat (n + 1))) := (F2.sI (by omega)).sI (by omega)
  refine ⟨gsI (gsI g2 (17 + 5 * n) 2 (Int32.ofNat len)) 0 11 (Int32.ofNat (n + 1)), ?_, ?_, qs_Ie, ?_, F4⟩
  · have zb : f_X4_become (17 + 5 * n) 11 (gsI g 1 1 0) = some ((), gsI g2 (17 + 5 * n) 2 (Int32.ofNat len)) := by
      unfold f_X4_become
      rw [show f_X7_become (17 + 5 * n + 1) (11 + 1) (gsI g 1 1 0) = some ((), g2) from ze2, qB_s, e2]
    unfold f_X11_takeLaw f_X9_cutTo f_X5_draft
    rw [show gI g 0 11 = Int32.ofNat n from h11, x_lawAt hn, qB_s]
    show (if (zK0 (17 + 5 * n)).1 = 4 then zB (some ((), gsI g 1 1 0)) _ else none) = _
    rw [if_pos (zK0_L hn), qB_s, qB_s]
    show (if (zK0 11).1 = 4 then zB (f_X4_become (17 + 5 * n) 11 (gsI g 1 1 0)) _ else none) = _
    rw [if_pos (by decide), zb, qB_s, e11, show Int32.ofNat n + 1 = Int32.ofNat (n + 1) from qi_add n 1, show gI (gsI (gsI g2 (17 + 5 * n) 2 (Int32.ofNat len)) 0 11 (Int32.ofNat (n + 1))) 0 11 - 1 = Int32.ofNat n by rw [show gI (gsI (gsI g2 (17 + 5 * n) 2 (Int32.ofNat len)) 0 11 (Int32.ofNat (n + 1))) 0 11 = Int32.ofNat (n + 1) from qs_Ie]; exact qi_sub (a := n + 1) (b := 1) (by omega)]
  · refine x_lw (len := len) (hs.cp fun k _ k2 => ?_) ho ?_ hl2
    · rw [qs_In (by omega), qs_In (by omega), c2 k (by omega), qs_In (by omega)]
    · rw [qs_In (by omega), qs_Ie]
  · rw [qs_In (by omega), qs_In (by omega), f2.2.1 _ _ (by omega), qs_Ie]
    rfl
def mAdd (W : mWd) (cv : mCv) : mWd := ((0, W.1.2), W.2.1, W.2.2.1, W.2.2.2.1 + 1, (fun i => if i = W.2.2.2.1 then mLwC cv else W.2.2.2.2.1 i), W.2.2.2.2.2.1, W.2.2.2.2.2.2.1, W.2.2.2.2.2.2.2)
theorem mAdd_ok {W : mWd} {cv : mCv} (ok : mWok W) (hn : W.2.2.2.1 < 4) (hk : kOk cv) : mWok (mAdd W cv) := by
  obtain ⟨k1, k2, k3, k4, k5⟩ := ok
  refine ⟨⟨Nat.zero_le _, fun i hi => absurd hi (Nat.not_lt_zero _)⟩, k2, k3, ⟨hn, fun i hi => ?_, fun m hm => Nat.lt_succ_of_lt (k4.2.2 m hm)⟩, k5⟩
  show mLwOk (if i = W.2.2.2.1 then mLwC cv else W.2.2.2.2.1 i)
  by_cases e : i = W.2.2.2.1
  · rw [if_pos e]; exact mLwC_ok hk
  · rw [if_neg e]
    have hi2 : i < W.2.2.2.1 + 1 := hi
    exact k4.2.1 i (by omega)
theorem c_text1 : dC (f_X11_text 1) (f_X12_text 1) := by
  intro W ok
  have ok' := ok
  obtain ⟨k1, k2, k3, k4, k5⟩ := ok
  obtain ⟨okk, P, cv, c1, c2, hx, hm⟩ := d_read k1
  have hP : P < 100000 := by have := k1.1; omega
  have n10 : ¬ (1 : Int32) = 0 := by decide
  have xh : ∀ g g1 l', f_X5_read g = some (rV okk P, g1) → l' = g1 → f_X11_text 1 g = if ¬ rV okk P = -1 then some (-1, g1) else zB (f_X11_takeLaw g1) (fun v6 g7 => some (v6, g7)) := fun g g1 l' ze _ => by
    unfold f_X11_text f_X11_text_20
    rw [if_pos n10, if_neg (fun w => w rfl), ze, qB_s]
  by_cases hn : W.2.2.2.1 < 4
  · have mh : ∀ g g1, g.2.1 526 13 = Int32.ofNat W.2.2.2.1 → f_X12_readLaw (Int32.ofNat W.2.2.2.1) g = some (rV okk P, g1) → f_X12_text 1 g = if ¬ rV okk P = -1 then some (-1, g1) else some (((gI (gsI (gsI g1 526 2 0) 526 13 ((gI (gsI g1 526 2 0) 526 13) + 1)) 526 13) - 1), (gsI (gsI g1 526 2 0) 526 13 ((gI (gsI g1 526 2 0) 526 13) + 1))) := fun g g1 h13 ze => by
      unfold f_X12_text f_X12_text_22
      rw [if_pos n10, if_neg (fun w => w rfl), show gI g 526 13 = Int32.ofNat W.2.2.2.1 from h13, if_neg (show ¬ (4 : Int32) ≤ Int32.ofNat W.2.2.2.1 by rw [show (4 : Int32) = Int32.ofNat 4 from rfl, qi_le (by omega) (by omega)]; omega), ze, qB_s]
    cases okk with
    | false =>
      have nr : ¬ rV false P = -1 := qi_ne_m1 hP
      refine ⟨-1, W, ok', fun g hg => ?_, fun g hg => ?_⟩
      · obtain ⟨g1, l', ze, -, f⟩ := hx g hg.1
        exact ⟨g1, by rw [xh g g1 g1 ze rfl, if_pos nr], hg.rd k4.1 f⟩
      · obtain ⟨g1, l', y', ze, -, f⟩ := hm g W.2.2.2.1 (by omega) hg.1
        exact ⟨g1, by rw [mh g g1 hg.2.2.1.1 ze, if_pos nr], hg.frR (Nat.le_refl _) f, f.mono fun a k w => sRM_526 (by omega) w⟩
    | true =>
      have nr : ¬ ¬ rV true P = -1 := fun w => w rfl
      refine ⟨Int32.ofNat W.2.2.2.1, mAdd W cv, mAdd_ok ok' hn c2, fun g hg => ?_, fun g hg => ?_⟩
      · obtain ⟨g1, l', ze, r, f1⟩ := hx g hg.1
        obtain ⟨r1, r2, r3⟩ := r rfl
        obtain ⟨h1, h2, ⟨l1, l2, l3, l4⟩, h4, h5⟩ := (hg.rd k4.1 f1).1
        obtain ⟨g2, ze2, e1, e2, e3, f2⟩ := x_takeLaw hn l1 r1 r2 r3
        refine ⟨g2, by rw [xh g g1 g1 ze rfl, if_neg nr, ze2, qB_s], ⟨⟨e3, fun i hi => absurd hi (Nat.not_lt_zero _)⟩, h2.fr f2 (fun a k w => by omega), ⟨e2, fun i hi => ?_, (f2.2.1 _ _ (by omega)).trans l3, f2.2.2.2.trans l4⟩, (f2.2.1 _ _ (by omega)).trans h4, h5.f8 f2 (by omega) (fun b k q1 q2 => by omega)⟩, hX.tr f1 (fun a k w => by unfold sLX at w; omega) (f2.hx (fun a k w => by omega))⟩
        show xLw (17 + 5 * i) (if i = W.2.2.2.1 then mLwC cv else W.2.2.2.2.1 i) g2
        by_cases e : i = W.2.2.2.1
        · rw [if_pos e, e]; exact e1
        · rw [if_neg e]
          have hi2 : i < W.2.2.2.1 + 1 := hi
          exact (l2 i (by omega)).fr (fun k => f2.2.1 _ _ (by omega)) (f2.2.1 _ _ (by omega))
      · obtain ⟨g1, l', y', ze, r, f1⟩ := hm g W.2.2.2.1 (by omega) hg.1
        obtain ⟨r1, r2, r3, r4⟩ := r rfl
        obtain ⟨h1, h2, ⟨l1, l2, l3⟩, h4, h5⟩ := hg.frR (Nat.le_refl _) f1
        have em := m_lw r4 (by omega) r2 r1 r3
        have e13 : gI (gsI g1 526 2 0) 526 13 = Int32.ofNat W.2.2.2.1 := (qs_In (by omega)).trans l1
        have f2 : qF (fun a k => a = 526 ∧ (k = 2 ∨ k = 13)) g1 (gsI (gsI g1 526 2 0) 526 13 (Int32.ofNat (W.2.2.2.1 + 1))) := (qF.rfl'.sI ⟨rfl, Or.inl rfl⟩).sI ⟨rfl, Or.inr rfl⟩
        have fle : ∀ i, vLe i g1 (gsI (gsI g1 526 2 0) 526 13 (Int32.ofNat (W.2.2.2.1 + 1))) := fun i => ⟨fun k _ _ => ⟨f2.2.1 _ _ (by omega), f2.2.1 _ _ (by omega)⟩, f2.2.1 _ _ (by omega), fun k _ _ => ⟨f2.2.1 _ _ (by omega), f2.2.1 _ _ (by omega), f2.2.1 _ _ (by omega)⟩⟩
        refine ⟨gsI (gsI g1 526 2 0) 526 13 (Int32.ofNat (W.2.2.2.1 + 1)), ?_, ⟨⟨by rw [qs_In (by omega), qs_Ie]; rfl, fun i hi => absurd hi (Nat.not_lt_zero _)⟩, h2.fr f2 (fun a k w => by omega), ⟨qs_Ie, fun i hi => ?_, (f2.2.1 _ _ (by omega)).trans l3⟩, (f2.2.1 _ _ (by omega)).trans h4, h5.fr f2 (by omega) (fun b k q1 q2 => by omega)⟩, (f1.mono fun a k w => sRM_526 (t := W.2.2.2.1) (by omega) w).tr (f2.mono fun a k w => by omega)⟩
        · rw [mh g g1 hg.2.2.1.1 ze, if_neg nr, e13, show Int32.ofNat W.2.2.2.1 + 1 = Int32.ofNat (W.2.2.2.1 + 1) from qi_add _ 1, show gI (gsI (gsI g1 526 2 0) 526 13 (Int32.ofNat (W.2.2.2.1 + 1))) 526 13 - 1 = Int32.ofNat W.2.2.2.1 by rw [show gI (gsI (gsI g1 526 2 0) 526 13 (Int32.ofNat (W.2.2.2.1 + 1))) 526 13 = Int32.ofNat (W.2.2.2.1 + 1) from qs_Ie]; exact qi_sub (a := W.2.2.2.1 + 1) (b := 1) (by omega)]
        · show mLw1 i (if i = W.2.2.2.1 then mLwC cv else W.2.2.2.2.1 i) _
          by_cases e : i = W.2.2.2.1
          · rw [if_pos e, e]; exact em.fr (fle _)
          · rw [if_neg e]
            have hi2 : i < W.2.2.2.1 + 1 := hi
            exact (l2 i (by omega)).fr (fle i)
  · have h4 : W.2.2.2.1 = 4 := by have := k4.1; omega
    refine ⟨-1, W, ok', fun g hg => ?_, fun g hg => ?_⟩
    · obtain ⟨g1, l', ze, -, f⟩ := hx g hg.1
      have hw := hg.rd k4.1 f
      refine ⟨g1, ?_, hw⟩
      rw [xh g g1 g1 ze rfl]
      by_cases q : rV okk P = -1
      · rw [if_neg (fun w => w q)]
        unfold f_X11_takeLaw
        rw [show gI g1 0 11 = Int32.ofNat 4 by rw [← h4]; exact hw.1.2.2.1.1, x_lawAt0 (Or.inr (by decide)), qB_s]
      · rw [if_pos q]
    · refine ⟨g, ?_, hg, qF.rfl'⟩
      unfold f_X12_text f_X12_text_22
      rw [if_pos n10, if_neg (fun w => w rfl), show gI g 526 13 = Int32.ofNat 4 by rw [← h4]; exact hg.2.2.1.1, if_pos (by decide)]
theorem c_text (x : Int32) : dC (f_X11_text x) (f_X12_text x) := by
  by_cases x0 : x = 0
  · subst x0; exact c_text0
  by_cases x1 : x = 1
  · subst x1; exact c_text1
  intro W ok
  refine ⟨-1, W, ok, fun g hg => ⟨g, ?_, hg, qF.hx (S := fun _ _ => False) qF.rfl' (fun a k w => w.elim)⟩, fun g hg => ⟨g, ?_, hg, qF.rfl'⟩⟩
  · unfold f_X11_text f_X11_text_20
    rw [if_pos x0, if_pos x1]
  · unfold f_X12_text f_X12_text_22
    rw [if_pos x0, if_pos x1]
/-- another LAW holds -/
theorem vWX.law {W : mWd} (h : vWX W g) (hn : W.2.2.2.1 ≤ 4) (h' : Option Nat) : vWX (W.1, W.2.1, W.2.2.1, W.2.2.2.1, W.2.2.2.2.1, h', W.2.2.2.2.2.2.1, W.2.2.2.2.2.2.2) (gsH (gsI g 0 12 (mOpt h')) (h'.map (fun m => 17 + 5 * m))) := by
  obtain ⟨h1, h2, ⟨l1, l2, l3, l4⟩, h4, h5⟩ := h
  have f : qF (fun a k => a = 0 ∧ k = 12) g (gsI g 0 12 (mOpt h')) := qF.rfl'.sI ⟨rfl, rfl⟩
  have t3 : vLwX W.2.2.2.1 W.2.2.2.2.1 h' (gsH (gsI g 0 12 (mOpt h')) (h'.map (fun m => 17 + 5 * m))) := ⟨(f.2.1 0 11 (by omega)).trans l1, fun i hi => (l2 i hi).fr (fun k => (f.2.1 (17 + 5 * i + 2) k (by omega) : (gsI g 0 12 (mOpt h')).2.1 (17 + 5 * i + 2) k = g.2.1 (17 + 5 * i + 2) k)) (f.2.1 (17 + 5 * i) 2 (by have h3 : i < W.2.2.2.1 := hi; omega) : (gsI g 0 12 (mOpt h')).2.1 (17 + 5 * i) 2 = g.2.1 (17 + 5 * i) 2), (by
    show (gsI g 0 12 (mOpt h')).2.1 0 12 = _
    exact qs_Ie), rfl⟩
  have t1 : vTpX W.1 (gsH (gsI g 0 12 (mOpt h')) (h'.map (fun m => 17 + 5 * m))) := vTpX.cg (g := gsI g 0 12 (mOpt h')) rfl (h1.fr f (by omega) (fun k => by omega))
  have t2 : vX0 W.2.1 W.2.2.1 (gsH (gsI g 0 12 (mOpt h')) (h'.map (fun m => 17 + 5 * m))) := vX0.cg (g := gsI g 0 12 (mOpt h')) rfl (h2.fr f (fun a k w => by omega))
  have t5 : vNtX W.2.1 W.2.2.2.2.2.2.2 (gsH (gsI g 0 12 (mOpt h')) (h'.map (fun m => 17 + 5 * m))) := vNtX.cg (g := gsI g 0 12 (mOpt h')) rfl (h5.f8 f (by omega) (fun b k q1 q2 => by omega))
  exact ⟨t1, t2, t3, (f.2.1 0 13 (by omega)).trans h4, t5⟩
theorem vWM.law {W : mWd} (h : vWM W g) (h' : Option Nat) : vWM (W.1, W.2.1, W.2.2.1, W.2.2.2.1, W.2.2.2.2.1, h', W.2.2.2.2.2.2.1, W.2.2.2.2.2.2.2) (gsI g 526 30 (mOpt h')) := by
  obtain ⟨h1, h2, ⟨l1, l2, l3⟩, h4, h5⟩ := h
  have f : qF (fun a k => a = 526 ∧ k = 30) g (gsI g 526 30 (mOpt h')) := qF.rfl'.sI ⟨rfl, rfl⟩
  exact ⟨h1.fr f (by omega) (fun k => by omega), h2.fr f (fun a k w => by omega), ⟨(f.2.1 _ _ (by omega)).trans l1, fun i hi => (l2 i hi).fr ⟨fun k _ _ => ⟨f.2.1 _ _ (by omega), f.2.1 _ _ (by omega)⟩, f.2.1 _ _ (by omega), fun k _ _ => ⟨f.2.1 _ _ (by omega), f.2.1 _ _ (by omega), f.2.1 _ _ (by omega)⟩⟩, qs_Ie⟩, (f.2.1 _ _ (by omega)).trans h4, h5.fr f (by omega) (fun b k q1 q2 => by omega)⟩
theorem c_law (x : Int32) : dC (f_X11_law x) (f_X12_law x) := by
  intro W ok
  have ok' := ok
  obtain ⟨k1, k2, k3, k4, k5⟩ := ok
  have h4 := k4.1
  have yes : ∀ h' : Option Nat, (∀ m, h' = some m → m < W.2.2.2.1) → (∀ g, g.2.1 0 11 = Int32.ofNat W.2.2.2.1 → f_X11_law x g = some (1, gsH (gsI g 0 12 (mOpt h')) (h'.map (fun m => 17 + 5 * m)))) → (∀ g, g.2.1 526 13 = Int32.ofNat W.2.2.2.1 → f_X12_law x g = some (1, gsI g 526 30 (mOpt h'))) → ∃ v W', mWok W' ∧ (∀ g, vWX W g → ∃ g', f_X11_law x g = some (v, g') ∧ vWX W' g' ∧ hX g g') ∧ (∀ g, vWM W g → ∃ g', f_X12_law x g = some (v, g') ∧ vWM W' g' ∧ qF (fun a _ => 526 ≤ a) g g') := fun h' hh hx hm =>
    ⟨1, (W.1, W.2.1, W.2.2.1, W.2.2.2.1, W.2.2.2.2.1, h', W.2.2.2.2.2.2.1, W.2.2.2.2.2.2.2), ⟨k1, k2, k3, ⟨k4.1, k4.2.1, hh⟩, k5⟩, fun g hg => ⟨_, hx g hg.2.2.1.1, hg.law k4.1 h', gsI g 0 12 (mOpt h'), h'.map (fun m => 17 + 5 * m), qF.rfl'.sI (by omega), rfl⟩, fun g hg => ⟨_, hm g hg.2.2.1.1, hg.law h', qF.rfl'.sI (by omega)⟩⟩
  by_cases q : mHas W.2.2.2.1 x
  · obtain ⟨k, hk, rfl⟩ := q
    refine yes (some k) (fun m e => by cases e; exact hk) (fun g h11 => ?_) (fun g h13 => ?_)
    · unfold f_X11_law
      rw [show gI g 0 11 = Int32.ofNat W.2.2.2.1 from h11, if_neg (show ¬ Int32.ofNat W.2.2.2.1 ≤ Int32.ofNat k by rw [qi_le (by omega) (by omega)]; omega), x_lawAt (by omega), qB_s]
      show (if (zK0 (17 + 5 * k)).1 = 4 then f_X11_law_29 (Int32.ofNat k) (some (17 + 5 * k)) g else none) = _
      rw [if_pos (zK0_L (by omega))]
      show (if (zK0 (17 + 5 * k)).1 = 4 then zB (f_X10_obey (some (17 + 5 * k)) (gsI g 0 12 (Int32.ofNat k))) (fun v7 g8 => some (1, g8)) else none) = _
      rw [if_pos (zK0_L (by omega))]
      rfl
    · unfold f_X12_law f_X12_in
      rw [show gI g 526 13 = Int32.ofNat W.2.2.2.1 from h13, show Int32.ofNat W.2.2.2.1 - 1 = Int32.ofNat (W.2.2.2.1 - 1) from qi_sub (a := W.2.2.2.1) (b := 1) (by omega), if_neg (show ¬ Int32.ofNat k < (-1 : Int32) by show ¬ Int32.ofNat k < - Int32.ofNat 1; rw [qi_lt1 (by omega) (by omega) (by omega)]; exact not_false), if_neg (show ¬ Int32.ofNat (W.2.2.2.1 - 1) < Int32.ofNat k by rw [qi_lt (by omega) (by omega)]; omega), qB_s, if_pos (by decide)]
      rfl
  · have q0 : (0 : Int32).toInt = 0 := rfl
    have q1 : (-1 : Int32).toInt = -1 := rfl
    have qn : (Int32.ofNat W.2.2.2.1).toInt = W.2.2.2.1 := by rw [qj_of, qj_toInt (by omega) (by omega)]
    have qn1 : (Int32.ofNat W.2.2.2.1 - 1).toInt = (W.2.2.2.1 : Int) - 1 := by
      rw [show Int32.ofNat W.2.2.2.1 - 1 = Int32.ofInt ((W.2.2.2.1 : Int) - 1) from (by show Int32.ofNat W.2.2.2.1 - Int32.ofNat 1 = _; rw [qj_of, qj_of, qj_sub]; rfl), qj_toInt (by omega) (by omega)]
    by_cases e : x = -1
    · subst e
      refine yes none (fun m e => by cases e) (fun g h11 => ?_) (fun g h13 => ?_)
      · unfold f_X11_law
        rw [show gI g 0 11 = Int32.ofNat W.2.2.2.1 from h11, if_neg (show ¬ Int32.ofNat W.2.2.2.1 ≤ (-1 : Int32) by rw [Int32.le_iff_toInt_le, qn, q1]; omega), x_lawAt0 (Or.inl (by decide)), qB_s]
        show (if (-1 : Int32) = -1 then f_X11_law_29 (-1) none g else some (0, g)) = _
        rw [if_pos rfl]
        rfl
      · unfold f_X12_law f_X12_in
        rw [show gI g 526 13 = Int32.ofNat W.2.2.2.1 from h13, if_neg (by decide), if_neg (show ¬ Int32.ofNat W.2.2.2.1 - 1 < (-1 : Int32) by rw [Int32.lt_iff_toInt_lt, qn1, q1]; omega), qB_s, if_pos (by decide)]
        rfl
    · have hz : x.toInt < -1 ∨ (W.2.2.2.1 : Int) ≤ x.toInt := by
        by_cases w : x.toInt < -1 ∨ (W.2.2.2.1 : Int) ≤ x.toInt
        · exact w
        · exfalso
          have hx1 : x.toInt ≠ -1 := fun w => e (Int32.toInt_inj.mp (w.trans q1.symm))
          refine q ⟨x.toInt.toNat, by omega, ?_⟩
          rw [qj_of, Int.toNat_of_nonneg (by omega), Int32.ofInt_toInt]
      refine ⟨0, W, ok', fun g hg => ⟨g, ?_, hg, qF.hx (S := fun _ _ => False) qF.rfl' (fun a k w => w.elim)⟩, fun g hg => ⟨g, ?_, hg, qF.rfl'⟩⟩
      · unfold f_X11_law
        rw [show gI g 0 11 = Int32.ofNat W.2.2.2.1 from hg.2.2.1.1]
        have fin : f_X11_law_17 x none g = some (0, g) := by
          show (if x = -1 then f_X11_law_29 x none g else some (0, g)) = _
          rw [if_neg e]
        by_cases w : Int32.ofNat W.2.2.2.1 ≤ x
        · rw [if_pos w, fin]
        · rw [Int32.le_iff_toInt_le, qn] at w
          rw [if_neg (show ¬ Int32.ofNat W.2.2.2.1 ≤ x by rw [Int32.le_iff_toInt_le, qn]; exact w), x_lawAt0 (Or.inl (by rw [Int32.lt_iff_toInt_lt, q0]; omega)), qB_s, fin]
      · unfold f_X12_law f_X12_in
        rw [show gI g 526 13 = Int32.ofNat W.2.2.2.1 from hg.2.2.1.1]
        by_cases w : x < -1
        · rw [if_pos w, qB_s, if_neg (by decide)]
        · rw [Int32.lt_iff_toInt_lt, q1] at w
          rw [if_neg (show ¬ x < -1 by rw [Int32.lt_iff_toInt_lt, q1]; exact w), if_pos (show Int32.ofNat W.2.2.2.1 - 1 < x by rw [Int32.lt_iff_toInt_lt, qn1]; omega), qB_s, if_neg (by decide)]
end BC
