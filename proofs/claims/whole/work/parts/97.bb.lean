/-! ===== the calls: FAULT, TEXT, LAW ===== -/
theorem vS8.cg {a : Nat} {L : mL} {g g' : zSg} (he : g'.2.1 = g.2.1) (h : vS8 a L g) : vS8 a L g' := by
  unfold vS8 at h ⊢
  rw [he]
  exact h
theorem vSt.cg {a n : Nat} {C : mC} {L : mL} {g g' : zSg} (he : g'.2.1 = g.2.1) (h : vSt a C L n g) : vSt a C L n g' := by
  unfold vSt vS8 vBr at h ⊢
  rw [he]
  exact h
theorem vRows.cg {a m : Nat} {E : Nat → Nat} {g g' : zSg} (he : g'.2.1 = g.2.1) (h : vRows a m E g) : vRows a m E g' := by
  unfold vRows at h ⊢
  rw [he]
  exact h
theorem vUn.cg {C : mC} {x : Nat} {E : Nat → Nat} {g g' : zSg} (he : g'.2.1 = g.2.1) : ∀ (U : mU) (i : Nat), vUn C x E U i g → vUn C x E U i g'
  | [], _, _ => trivial
  | (L, m) :: U, i, ⟨h1, h2, h3⟩ => ⟨h1.cg he, h2.cg he, vUn.cg he U (i + 1) h3⟩
theorem vIm.cg {C : mC} {Im : mIm} {g g' : zSg} (he : g'.2.1 = g.2.1) (h : vIm C Im g) : vIm C Im g' := by
  match Im, h with
  | none, h =>
    have h' : g.2.1 48 4 = Int32.ofNat 0 := h
    show g'.2.1 48 4 = Int32.ofNat 0
    rw [he]
    exact h'
  | some (L, n, E), ⟨h1, h2, h3⟩ => exact ⟨by rw [he]; exact h1, h2.cg he, h3.cg he⟩
theorem vX0.cg {C : mC} {A : mA} {g g' : zSg} (he : g'.2.1 = g.2.1) (h : vX0 C A g) : vX0 C A g' := by
  obtain ⟨h1, ⟨hs, hr, ⟨x, hx, x1, x2⟩, h6, hU, hI⟩, h4⟩ := h
  refine ⟨?_, ⟨hs.cg he, hr.cg he, ⟨x, hx, by rw [he]; exact x1, vUn.cg he _ _ x2⟩, by rw [he]; exact h6, hU, hI.cg he⟩, ?_⟩
  · unfold vCo at h1 ⊢
    rw [he]
    exact h1
  · unfold vRX at h4 ⊢
    rw [he]
    exact h4
theorem vTpX.cg {T : mTk} {g g' : zSg} (he : g'.2.1 = g.2.1) (h : vTpX T g) : vTpX T g' := by
  unfold vTpX at h ⊢
  rw [he]
  exact h
theorem vNtX.cg {C : mC} {N : mNt} {g g' : zSg} (he : g'.2.1 = g.2.1) (h : vNtX C N g) : vNtX C N g' := by
  unfold vNtX vS8 at h ⊢
  rw [he]
  exact h
theorem vWX.cg {W : mWd} {g g' : zSg} (he : g'.2.1 = g.2.1) (hH : g'.2.2.2 = g.2.2.2) (h : vWX W g) : vWX W g' := by
  obtain ⟨h1, h2, ⟨l1, l2, l3, l4⟩, h4, h5⟩ := h
  exact ⟨h1.cg he, h2.cg he, ⟨by rw [he]; exact l1, fun i hi => (l2 i hi).fr (fun k => by rw [he]) (by rw [he]), by rw [he]; exact l3, hH.trans l4⟩, by rw [he]; exact h4, h5.cg he⟩
theorem vWM.cg {W : mWd} {g g' : zSg} (he : g'.2.1 = g.2.1) (h : vWM W g) : vWM W g' := by
  obtain ⟨T, C, A, n, lws, hh, gu, N⟩ := W
  obtain ⟨h1, ⟨m1, m2, m3, m4, m5, m6⟩, ⟨l1, l2, l3⟩, h4, h5⟩ := h
  refine ⟨?_, ⟨?_, ?_, by rw [he]; exact m3, m4.fr (fun j hj => by rw [he]), ?_, ?_⟩, ⟨by rw [he]; exact l1, fun i hi => (l2 i hi).fr ⟨fun k _ _ => ⟨by rw [he], by rw [he]⟩, by rw [he], fun k _ _ => ⟨by rw [he], by rw [he], by rw [he]⟩⟩, by rw [he]; exact l3⟩, by rw [he]; exact h4, ?_⟩
  · unfold vTpM at h1 ⊢
    rw [he]
    exact h1
  · unfold vMo at m1 ⊢
    rw [he]
    exact m1
  · unfold vBlk at m2 ⊢
    rw [he]
    exact m2
  · have m5' : vImM A.2.2.2.1 g := m5
    show vImM A.2.2.2.1 g'
    cases hi : A.2.2.2.1 with
    | none =>
      rw [hi] at m5'
      have m5'' : g.2.1 526 47 = Int32.ofNat 0 := m5'
      show g'.2.1 526 47 = Int32.ofNat 0
      rw [he]
      exact m5''
    | some q =>
      rw [hi] at m5'
      obtain ⟨L, k, E⟩ := q
      obtain ⟨p1, p2⟩ := m5'
      refine ⟨by rw [he]; exact p1, ?_⟩
      unfold vBlk at p2 ⊢
      rw [he]
      exact p2
  · unfold vRM at m6 ⊢
    rw [he]
    exact m6
  · unfold vNtM at h5 ⊢
    rw [he]
    exact h5
section BB
variable {g g' : zSg} {n t : Nat} {lws : Nat → mLaw} {hh : Option Nat}
theorem vLwM.frR (h : vLwM n lws hh g) (hn : n ≤ t) (hf : qF (sRM t) g g') : vLwM n lws hh g' :=
  ⟨(hf.2.1 _ _ (by unfold sRM; omega)).trans h.1, fun i hi => (h.2.1 i hi).fr ⟨fun k _ _ => ⟨hf.2.1 _ _ (by unfold sRM; omega), hf.2.1 _ _ (by unfold sRM; omega)⟩, hf.2.1 _ _ (by unfold sRM; omega), fun k _ _ => ⟨hf.2.1 _ _ (by unfold sRM; omega), hf.2.1 _ _ (by unfold sRM; omega), hf.2.1 _ _ (by unfold sRM; omega)⟩⟩, (hf.2.1 _ _ (by unfold sRM; omega)).trans h.2.2⟩
theorem vWM.frR {W : mWd} (h : vWM W g) (hn : W.2.2.2.1 ≤ t) (hf : qF (sRM t) g g') : vWM W g' :=
  ⟨h.1.fr hf (by unfold sRM; omega) (fun k => by unfold sRM; omega), h.2.1.fr hf (fun a k w => by unfold sRM; omega), h.2.2.1.frR hn hf, (hf.2.1 _ _ (by unfold sRM; omega)).trans h.2.2.2.1, h.2.2.2.2.fr hf (by unfold sRM; omega) (fun b k q1 q2 => by unfold sRM; omega)⟩
theorem sRM_526 {a k : Nat} (ht : t < 5) (h : sRM t a k) : 526 ≤ a := by unfold sRM at h; omega
theorem vWX.rd {W : mWd} (h : vWX W g) (hn : W.2.2.2.1 ≤ 4) (hf : qF (sLX 0) g g') : vWX W g' ∧ hX g g' :=
  ⟨h.fr hn hf (fun a k w => by unfold sWX at w; unfold sLX; omega), hf.hx (fun a k w => by unfold sLX at w; omega)⟩
theorem vWX.rc {W : mWd} (h : vWX W g) (hn : W.2.2.2.1 ≤ 4) (hf : qF sCX g g') : vWX W g' ∧ hX g g' :=
  ⟨h.fr hn hf (fun a k w => by unfold sWX at w; unfold sCX; omega), hf.hx (fun a k w => by unfold sCX at w; omega)⟩
theorem vWM.rc {W : mWd} (h : vWM W g) (hf : qF sCM g g') : vWM W g' ∧ qF (fun a _ => 526 ≤ a) g g' :=
  ⟨h.fr hf (fun a k w => by unfold sWM at w; unfold sCM; omega), hf.mono (fun a k w => by unfold sCM at w; omega)⟩
end BB
theorem c_fault (x : Int32) : dC (f_X11_fault x) (f_X12_fault x) := by
  intro W ok
  have ok' := ok
  obtain ⟨k1, k2, k3, k4, k5⟩ := ok
  by_cases x0 : x = 0
  · subst x0
    obtain ⟨okk, P, C', c1, c2, hx, hm⟩ := d_coast k1
    refine ⟨if okk = true then -1 else Int32.ofNat P, W, ok', fun g hg => ?_, fun g hg => ?_⟩
    · obtain ⟨g', ze, -, f⟩ := hx g hg.1
      refine ⟨g', ?_, hg.rc k4.1 f⟩
      unfold f_X11_fault
      rw [if_neg (fun w => w rfl), ze, qB_s]
    · obtain ⟨g', ze, -, f⟩ := hm g hg.1
      refine ⟨g', ?_, hg.rc f⟩
      unfold f_X12_fault
      rw [if_neg (fun w => w rfl), ze, qB_s]
  · by_cases x1 : x = 1
    · subst x1
      obtain ⟨okk, P, cv, c1, c2, hx, hm⟩ := d_read k1
      refine ⟨rV okk P, W, ok', fun g hg => ?_, fun g hg => ?_⟩
      · obtain ⟨g', l', ze, -, f⟩ := hx g hg.1
        refine ⟨g', ?_, hg.rd k4.1 f⟩
        unfold f_X11_fault
        rw [if_pos x0, if_neg (fun w => w rfl), ze, qB_s]
      · obtain ⟨g', l', y', ze, -, f⟩ := hm g 4 (by omega) hg.1
        have ze' : f_X12_readLaw 4 g = some (rV okk P, g') := ze
        refine ⟨g', ?_, hg.frR k4.1 f, f.mono fun a k w => sRM_526 (by omega) w⟩
        unfold f_X12_fault
        rw [if_pos x0, if_neg (fun w => w rfl), ze', qB_s]
    · refine ⟨-2, W, ok', fun g hg => ⟨g, ?_, hg, qF.hx (S := fun _ _ => False) qF.rfl' (fun a k w => w.elim)⟩, fun g hg => ⟨g, ?_, hg, qF.rfl'⟩⟩
      · unfold f_X11_fault
        rw [if_pos x0, if_pos x1]
      · unfold f_X12_fault
        rw [if_pos x0, if_pos x1]
theorem hX.tr {g g1 g2 : zSg} {S : Nat → Nat → Prop} (h : qF S g g1) (hS : ∀ a k, S a k → a < 526) (h2 : hX g1 g2) : hX g g2 := by
  obtain ⟨g3, x, f, e⟩ := h2
  exact ⟨g3, x, (h.mono hS).tr f, e⟩
theorem mTold53 {C : mC} : mTold C 53 = 0 := mTold_z (by omega) (by omega)
/-- the COAST is another one -/
def mNew (W : mWd) (C' : mC) : mWd := ((0, W.1.2), C', (mTold C', W.2.2.1.2.1, [], none, W.2.2.1.2.2.2.2), W.2.2.2.1, W.2.2.2.2.1, W.2.2.2.2.2.1, W.2.2.2.2.2.2.1, (0, W.2.2.2.2.2.2.2.2))
theorem mNew_ok {W : mWd} {C' : mC} (ok : mWok W) (hC : mWf C') : mWok (mNew W C') := by
  obtain ⟨k1, k2, k3, k4, k5⟩ := ok
  obtain ⟨t1, t2⟩ := mTold_lf hC
  refine ⟨⟨Nat.zero_le _, fun i hi => absurd hi (Nat.not_lt_zero _)⟩, hC, ⟨t1.to ?_, t2, trivial, fun q hq => (by cases hq), Nat.zero_le _, fun L n E e => (by cases e)⟩, k4, ⟨Nat.zero_le _, fun i hi => absurd hi (Nat.not_lt_zero _)⟩⟩
  rw [mTold53]
  omega
theorem vWX.new {W : mWd} {C' : mC} {g g' : zSg} (h : vWX W g) (hn : W.2.2.2.1 ≤ 4) (e1 : g'.2.1 1 1 = Int32.ofNat 0) (e2 : vCo 3 5 C' g') (e3 : vSt 39 C' (mTold C') 0 g') (e4 : g'.2.1 48 4 = Int32.ofNat 0) (e5 : g'.2.1 48 6 = Int32.ofNat 0) (e6 : g'.2.1 506 8 = Int32.ofNat 0) (e7 : vS8 507 (mTold C') g') (f : qF sKX g g') : vWX (mNew W C') g' := by
  obtain ⟨h1, ⟨c1, ⟨b1, b2, ⟨x, hx, x1, x2⟩, b4, b5, b6⟩, c3⟩, h3, h4, h5⟩ := h
  refine ⟨⟨e1, fun i hi => absurd hi (Nat.not_lt_zero _)⟩, ⟨e2, ⟨?_, ?_, ⟨x, hx, (f.2.1 _ _ (by unfold sKX; omega)).trans x1, trivial⟩, e5, Nat.zero_le _, e4⟩, fun j hj => (f.2.1 _ _ (by unfold sKX; omega)).trans (c3 j hj)⟩, h3.fr hn f (fun a k w => by unfold sKX; omega), (f.2.1 _ _ (by unfold sKX; omega)).trans h4, ⟨e6, fun i hi => absurd hi (Nat.not_lt_zero _), e7⟩⟩
  · show vSt 39 C' (mTold C') (mTold C' 53) g'
    rw [mTold53]
    exact e3
  · show vRows 51 (mTold C' 53) _ g'
    rw [mTold53]
    exact fun j k q1 _ _ => absurd q1 (Nat.not_lt_zero _)
theorem vWM.new {W : mWd} {C' : mC} {g g' : zSg} (h : vWM W g) (e1 : g'.2.1 526 2 = Int32.ofNat 0) (e2 : vMo C' g') (e3 : vBlk 543 0 (mTold C') 0 W.2.2.1.2.1 g') (e4 : g'.2.1 526 43 = Int32.ofNat 0) (e5 : g'.2.1 526 35 = Int32.ofNat 0) (e6 : g'.2.1 526 47 = Int32.ofNat 0) (f : qF (fun a k => sKM a k ∨ (a = 526 ∧ k = 2)) g g') : vWM (mNew W C') g' := by
  obtain ⟨h1, ⟨m1, m2, m3, m4, m5, m6⟩, h3, h4, h5⟩ := h
  refine ⟨⟨e1, fun i hi => absurd hi (Nat.not_lt_zero _)⟩, ⟨e2, ?_, e5, trivial, e6, fun j hj => (f.2.1 _ _ (by unfold sKM; omega)).trans (m6 j hj)⟩, h3.fr f (fun a k w => by unfold sKM; omega), (f.2.1 _ _ (by unfold sKM; omega)).trans h4, ⟨e4, fun i hi => absurd hi (Nat.not_lt_zero _)⟩⟩
  show vBlk 543 0 (mTold C') (mTold C' 53) _ g'
  rw [mTold53]
  exact e3
theorem vDM.fr {C : mC} {g g' : zSg} {S : Nat → Nat → Prop} (h : vDM C g) (hf : qF S g g') (h20 : ¬ S 526 20) (h21 : ¬ S 526 21) (hS : ∀ b k, 537 ≤ b → b ≤ 539 → ¬ S b k) : vDM C g' :=
  ⟨(hf.2.1 _ _ h20).trans h.1, (hf.2.1 _ _ h21).trans h.2.1, fun k hk => (hf.2.1 _ _ (hS _ _ (by omega) (by omega))).trans (h.2.2.1 k hk), fun p k hp hk => (hf.2.1 _ _ (hS _ _ (by omega) (by omega))).trans (h.2.2.2.1 p k hp hk), fun c k hc hk => (hf.2.1 _ _ (hS _ _ (by omega) (by omega))).trans (h.2.2.2.2 c k hc hk)⟩
theorem c_text0 : dC (f_X11_text 0) (f_X12_text 0) := by
  intro W ok
  have ok' := ok
  obtain ⟨k1, k2, k3, k4, k5⟩ := ok
  obtain ⟨okk, P, C', c1, c2, hx, hm⟩ := d_coast k1
  have hP : P < 100000 := by have := k1.1; omega
  cases okk with
  | false =>
    refine ⟨-1, W, ok', fun g hg => ?_, fun g hg => ?_⟩
    · obtain ⟨g', ze, -, f⟩ := hx g hg.1
      rw [if_neg (by decide)] at ze
      refine ⟨g', ?_, hg.rc k4.1 f⟩
      unfold f_X11_text f_X11_text_20
      rw [if_neg (fun w => w rfl), ze, qB_s, if_pos (qi_ne_m1 hP), if_pos (by decide)]
    · obtain ⟨g', ze, -, f⟩ := hm g hg.1
      rw [if_neg (by decide)] at ze
      refine ⟨g', ?_, hg.rc f⟩
      unfold f_X12_text f_X12_text_22
      rw [if_neg (fun w => w rfl), ze, qB_s, if_pos (qi_ne_m1 hP), if_pos (by decide)]
  | true =>
    obtain ⟨hD, hS⟩ := c2 rfl
    have hC := hD.wf hS
    refine ⟨Int32.ofNat (mCells C'), mNew W C', mNew_ok ok' hC, fun g hg => ?_, fun g hg => ?_⟩
    · obtain ⟨g1, ze, r, f1⟩ := hx g hg.1
      rw [if_pos rfl] at ze
      obtain ⟨g2, ze2, e1, e2, e3, e4, e5, e6, e7, f2⟩ := x_takeCoast hC (r rfl)
      have h1 := (hg.rc k4.1 f1).1
      refine ⟨g2, ?_, h1.new k4.1 e1 e2 e3 e4 e5 e6 e7 f2, hX.tr f1 (fun a k w => by unfold sCX at w; omega) (f2.hx (fun a k w => by unfold sKX at w; omega))⟩
      unfold f_X11_text
      rw [if_neg (fun w => w rfl), ze, qB_s, if_neg (fun w => w rfl), ze2, qB_s]
    · obtain ⟨g1, ze, r, f1⟩ := hm g hg.1
      rw [if_pos rfl] at ze
      have fs : qF (fun a k => a = 526 ∧ k = 2) g1 (gsI g1 526 2 0) := qF.rfl'.sI ⟨rfl, rfl⟩
      obtain ⟨g2, ze2, e2, e3, e4, e5, e6, f2⟩ := m_takeCoast (E := W.2.2.1.2.1) hC ((r rfl).fr fs (by omega) (by omega) (fun b k q1 q2 => by omega))
      have h1 := (hg.rc f1).1
      have F2 : qF (fun a k => sKM a k ∨ (a = 526 ∧ k = 2)) g1 g2 := (fs.mono fun a k w => Or.inr w).tr (f2.mono fun a k w => Or.inl w)
      refine ⟨g2, ?_, h1.new ((f2.2.1 _ _ (by unfold sKM; omega)).trans qs_Ie) e2 e3 e4 e5 e6 F2, (f1.mono fun a k w => by unfold sCM at w; omega).tr (F2.mono fun a k w => by unfold sKM at w; omega)⟩
      unfold f_X12_text
      rw [if_neg (fun w => w rfl), ze, qB_s, if_neg (fun w => w rfl), ze2, qB_s]
