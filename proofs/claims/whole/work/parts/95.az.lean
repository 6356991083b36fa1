/-! ===== both halves: all that is ===== -/
theorem vLe.tr {m : Nat} {g g' g2 : zSg} (h : vLe m g g') (h2 : vLe m g' g2) : vLe m g g2 :=
  ⟨fun k a b => ⟨(h2.1 k a b).1.trans (h.1 k a b).1, (h2.1 k a b).2.trans (h.1 k a b).2⟩, h2.2.1.trans h.2.1, fun k a b => ⟨(h2.2.2 k a b).1.trans (h.2.2 k a b).1, (h2.2.2 k a b).2.1.trans (h.2.2 k a b).2.1, (h2.2.2 k a b).2.2.trans (h.2.2 k a b).2.2⟩⟩
theorem xLw.fr {a : Nat} {lw : mLaw} {g g' : zSg} (h : xLw a lw g) (h1 : ∀ k, g'.2.1 (a + 2) k = g.2.1 (a + 2) k) (h2 : g'.2.1 a 2 = g.2.1 a 2) : xLw a lw g' := fun g2 e1 e2 => h g2 (fun k => (e1 k).trans (h1 k)) (e2.trans h2)
theorem mLw1.fr {m : Nat} {lw : mLaw} {g g' : zSg} (h : mLw1 m lw g) (hv : vLe m g g') : mLw1 m lw g' := fun g2 e => h g2 (hv.tr e)
def vLwX (n : Nat) (lws : Nat → mLaw) (h : Option Nat) (g : zSg) : Prop := g.2.1 0 11 = Int32.ofNat n ∧ (∀ i, i < n → xLw (17 + 5 * i) (lws i) g) ∧ g.2.1 0 12 = mOpt h ∧ g.2.2.2 = h.map (fun m => 17 + 5 * m)
def vLwM (n : Nat) (lws : Nat → mLaw) (h : Option Nat) (g : zSg) : Prop := g.2.1 526 13 = Int32.ofNat n ∧ (∀ i, i < n → mLw1 i (lws i) g) ∧ g.2.1 526 30 = mOpt h
def mLwsOk (n : Nat) (lws : Nat → mLaw) (h : Option Nat) : Prop := n ≤ 4 ∧ (∀ i, i < n → mLwOk (lws i)) ∧ ∀ m, h = some m → m < n
def mHeld (lws : Nat → mLaw) (h : Option Nat) : mLaw := match h with
  | none => fun k f _ _ _ _ => (k : Int) - f
  | some m => lws m
section AZ
variable {n : Nat} {lws : Nat → mLaw} {hh : Option Nat} {g g' : zSg} {C : mC} {A : mA} {lw : mLaw}
theorem mHeld_ok (H : mLwsOk n lws hh) : mLwOk (mHeld lws hh) := by
  cases hh with
  | none =>
    intro k f n v t o h1 h2 h3 h4 h5 h6
    show -1000000 ≤ (k : Int) - f ∧ (k : Int) - f ≤ 1000000
    omega
  | some m => exact H.2.1 m (H.2.2 m rfl)
theorem vLwX.lx (H : mLwsOk n lws hh) (hv : vLwX n lws hh g) : vLx (mHeld lws hh) g := by
  refine ⟨mHeld_ok H, ?_⟩
  cases hh with
  | none => exact Or.inl ⟨hv.2.2.2, fun _ _ _ _ _ _ => rfl⟩
  | some m =>
    have hm := H.2.2 m rfl
    have h4 := H.1
    exact Or.inr ⟨17 + 5 * m, hv.2.2.2, by omega, hv.2.1 m hm⟩
theorem vLwM.lm (H : mLwsOk n lws hh) (hv : vLwM n lws hh g) : vLm (mHeld lws hh) g := by
  refine ⟨mHeld_ok H, ?_⟩
  cases hh with
  | none => exact Or.inl ⟨hv.2.2, fun _ _ _ _ _ _ => rfl⟩
  | some m =>
    have hm := H.2.2 m rfl
    have h4 := H.1
    exact Or.inr ⟨m, hv.2.2, by omega, hv.2.1 m hm⟩
theorem vLwX.fr {S : Nat → Nat → Prop} (h : vLwX n lws hh g) (hn : n ≤ 4) (hf : qF S g g') (hS : ∀ a k, ((a = 0 ∧ (k = 11 ∨ k = 12)) ∨ ((a = 17 ∨ a = 22 ∨ a = 27 ∨ a = 32) ∧ k = 2) ∨ a = 19 ∨ a = 24 ∨ a = 29 ∨ a = 34) → ¬ S a k) : vLwX n lws hh g' :=
  ⟨(hf.2.1 _ _ (hS _ _ (by omega))).trans h.1, fun i hi => (h.2.1 i hi).fr (fun k => hf.2.1 _ _ (hS _ _ (by omega))) (hf.2.1 _ _ (hS _ _ (by omega))), (hf.2.1 _ _ (hS _ _ (by omega))).trans h.2.2.1, hf.2.2.2.trans h.2.2.2⟩
theorem vLwM.fr {S : Nat → Nat → Prop} (h : vLwM n lws hh g) (hf : qF S g g') (hS : ∀ a k, ((a = 526 ∧ (k = 13 ∨ k = 30)) ∨ (528 ≤ a ∧ a ≤ 534)) → ¬ S a k) : vLwM n lws hh g' :=
  ⟨(hf.2.1 _ _ (hS _ _ (by omega))).trans h.1, fun i hi => (h.2.1 i hi).fr ⟨fun k _ _ => ⟨hf.2.1 _ _ (hS _ _ (by omega)), hf.2.1 _ _ (hS _ _ (by omega))⟩, hf.2.1 _ _ (hS _ _ (by omega)), fun k _ _ => ⟨hf.2.1 _ _ (hS _ _ (by omega)), hf.2.1 _ _ (hS _ _ (by omega)), hf.2.1 _ _ (hS _ _ (by omega))⟩⟩, (hf.2.1 _ _ (hS _ _ (by omega))).trans h.2.2⟩
def vX0 (C : mC) (A : mA) (g : zSg) : Prop := vCo 3 5 C g ∧ vBX C A.1 (A.1 53) A.2.1 A.2.2.1 A.2.2.2.1 g ∧ vRX A.2.2.2.2 g
def vM0 (C : mC) (A : mA) (g : zSg) : Prop := vMo C g ∧ vBlk 543 0 A.1 (A.1 53) A.2.1 g ∧ g.2.1 526 35 = Int32.ofNat A.2.2.1.length ∧ vKp A.2.2.1 A.2.1 g ∧ vImM A.2.2.2.1 g ∧ vRM A.2.2.2.2 g
theorem vX0.ax (h : vX0 C A g) (hl : vLx lw g) : vAX C lw A g := ⟨h.1, hl, h.2.1, h.2.2⟩
theorem vM0.am (h : vM0 C A g) (hl : vLm lw g) : vAM C lw A g := ⟨h.1, hl, h.2.1, h.2.2.1, h.2.2.2.1, h.2.2.2.2.1, h.2.2.2.2.2⟩
theorem vAX.x0 (h : vAX C lw A g) : vX0 C A g := ⟨h.1, h.2.2.1, h.2.2.2⟩
theorem vAM.m0 (h : vAM C lw A g) : vM0 C A g := ⟨h.1, h.2.2.1, h.2.2.2.1, h.2.2.2.2.1, h.2.2.2.2.2.1, h.2.2.2.2.2.2⟩
theorem vX0.fr {S : Nat → Nat → Prop} (h : vX0 C A g) (hf : qF S g g') (hS : ∀ a k, (a = 3 ∨ a = 5 ∨ (38 ≤ a ∧ a ≤ 422)) → ¬ S a k) : vX0 C A g' := by
  obtain ⟨h1, ⟨hs, hr, ⟨x, hx, x1, x2⟩, h6, hU, hI⟩, h4⟩ := h
  exact ⟨h1.fr hf (fun k => hS _ _ (by omega)) (fun k => hS _ _ (by omega)), ⟨hs.fr hf (fun b k q1 q2 => hS _ _ (by omega)), fun j k q1 q2 q3 => (hf.2.1 _ _ (hS _ _ (by omega))).trans (hr j k q1 q2 q3), ⟨x, hx, (hf.2.1 _ _ (hS _ _ (by omega))).trans x1, x2.fr hf (fun b k q1 q2 => hS _ _ (by omega)) (fun k => hS _ _ (by omega))⟩, (hf.2.1 _ _ (hS _ _ (by omega))).trans h6, hU, hI.fr hf (hS _ _ (by omega)) (fun b k q1 q2 => hS _ _ (by omega))⟩, fun j hj => (hf.2.1 _ _ (hS _ _ (by omega))).trans (h4 j hj)⟩
theorem vM0.fr {S : Nat → Nat → Prop} (h : vM0 C A g) (hf : qF S g g') (hS : ∀ a k, ((540 ≤ a ∧ a ≤ 544) ∨ a = 547 ∨ a = 552 ∨ (a = 526 ∧ (k = 25 ∨ k = 26 ∨ k = 27 ∨ k = 35 ∨ k = 47))) → ¬ S a k) : vM0 C A g' := by
  obtain ⟨h1, h3, h4, h5, h6, h7⟩ := h
  exact ⟨h1.fr hf (fun k => hS _ _ (by omega)) (fun k => hS _ _ (by omega)) (fun k => hS _ _ (by omega)) (fun k _ _ => hS _ _ (by omega)), h3.cp (fun i hi => hf.2.1 _ _ (hS _ _ (by omega))), (hf.2.1 _ _ (hS _ _ (by omega))).trans h4, h5.fr (fun j hj => hf.2.1 _ _ (hS _ _ (by omega))), h6.fr hf (hS _ _ (by omega)) (fun k => hS _ _ (by omega)), fun j hj => (hf.2.1 _ _ (hS _ _ (by omega))).trans (h7 j hj)⟩
end AZ
/-- the TAPE, the COAST, how it is, how many LAWS, LAWS, which holds, GUSTS, NOTED -/
abbrev mWd : Type := mTk × mC × mA × Nat × (Nat → mLaw) × Option Nat × Int32 × mNt
def vWX (W : mWd) (g : zSg) : Prop := vTpX W.1 g ∧ vX0 W.2.1 W.2.2.1 g ∧ vLwX W.2.2.2.1 W.2.2.2.2.1 W.2.2.2.2.2.1 g ∧ g.2.1 0 13 = W.2.2.2.2.2.2.1 ∧ vNtX W.2.1 W.2.2.2.2.2.2.2 g
def vWM (W : mWd) (g : zSg) : Prop := vTpM W.1 g ∧ vM0 W.2.1 W.2.2.1 g ∧ vLwM W.2.2.2.1 W.2.2.2.2.1 W.2.2.2.2.2.1 g ∧ g.2.1 526 31 = W.2.2.2.2.2.2.1 ∧ vNtM W.2.2.2.2.2.2.2 g
def mWok (W : mWd) : Prop := mTpOk W.1 ∧ mWf W.2.1 ∧ mAk W.2.1 W.2.2.1 ∧ mLwsOk W.2.2.2.1 W.2.2.2.2.1 W.2.2.2.2.2.1 ∧ mNtOk W.2.1 W.2.2.2.2.2.2.2
/-- where it stands -/
def sWX (a k : Nat) : Prop := (a = 1 ∧ k = 1) ∨ a = 2 ∨ a = 3 ∨ a = 5 ∨ (38 ≤ a ∧ a ≤ 422) ∨ (a = 0 ∧ (k = 11 ∨ k = 12 ∨ k = 13)) ∨ ((a = 17 ∨ a = 22 ∨ a = 27 ∨ a = 32) ∧ k = 2) ∨ a = 19 ∨ a = 24 ∨ a = 29 ∨ a = 34 ∨ (a = 506 ∧ k = 8) ∨ (507 ≤ a ∧ a ≤ 521)
def sWM (a k : Nat) : Prop := (a = 526 ∧ (k = 2 ∨ k = 13 ∨ k = 25 ∨ k = 26 ∨ k = 27 ∨ k = 30 ∨ k = 31 ∨ k = 35 ∨ k = 43 ∨ k = 47)) ∨ (527 ≤ a ∧ a ≤ 534) ∨ (540 ≤ a ∧ a ≤ 544) ∨ a = 547 ∨ (549 ≤ a ∧ a ≤ 552)
theorem vNtX.f8 {C : mC} {N : mNt} {g g' : zSg} {S : Nat → Nat → Prop} (h : vNtX C N g) (hf : qF S g g') (h8 : ¬ S 506 8) (hS : ∀ b k, 507 ≤ b → b ≤ 521 → ¬ S b k) : vNtX C N g' :=
  ⟨(hf.2.1 _ _ h8).trans h.1, fun i hi => ⟨(hf.2.1 _ _ (hS _ _ (by omega) (by omega))).trans (h.2.1 i hi).1, (hf.2.1 _ _ (hS _ _ (by omega) (by omega))).trans (h.2.1 i hi).2.1, (hf.2.1 _ _ (hS _ _ (by omega) (by omega))).trans (h.2.1 i hi).2.2⟩, h.2.2.fr hf (fun b k q1 q2 => hS b k (by omega) (by omega))⟩
theorem vWX.fr {S : Nat → Nat → Prop} {W : mWd} {g g' : zSg} (h : vWX W g) (hn : W.2.2.2.1 ≤ 4) (hf : qF S g g') (hS : ∀ a k, sWX a k → ¬ S a k) : vWX W g' :=
  ⟨h.1.fr hf (hS _ _ (by unfold sWX; omega)) (fun k => hS _ _ (by unfold sWX; omega)), h.2.1.fr hf (fun a k w => hS _ _ (by unfold sWX; omega)), h.2.2.1.fr hn hf (fun a k w => hS _ _ (by unfold sWX; omega)), (hf.2.1 _ _ (hS _ _ (by unfold sWX; omega))).trans h.2.2.2.1, h.2.2.2.2.f8 hf (hS _ _ (by unfold sWX; omega)) (fun b k q1 q2 => hS _ _ (by unfold sWX; omega))⟩
theorem vWM.fr {S : Nat → Nat → Prop} {W : mWd} {g g' : zSg} (h : vWM W g) (hf : qF S g g') (hS : ∀ a k, sWM a k → ¬ S a k) : vWM W g' :=
  ⟨h.1.fr hf (hS _ _ (by unfold sWM; omega)) (fun k => hS _ _ (by unfold sWM; omega)), h.2.1.fr hf (fun a k w => hS _ _ (by unfold sWM; omega)), h.2.2.1.fr hf (fun a k w => hS _ _ (by unfold sWM; omega)), (hf.2.1 _ _ (hS _ _ (by unfold sWM; omega))).trans h.2.2.2.1, h.2.2.2.2.fr hf (hS _ _ (by unfold sWM; omega)) (fun b k q1 q2 => hS _ _ (by unfold sWM; omega))⟩
/-- which LAW holds is no business of the reference -/
theorem vWM.held {W : mWd} {g : zSg} {x : Option Nat} (h : vWM W g) : vWM W (gsH g x) := by
  obtain ⟨T, C, A, n, lws, hh, gu, N⟩ := W
  obtain ⟨h1, ⟨m1, m2, m3, m4, m5, m6⟩, h3, h4, h5⟩ := h
  refine ⟨⟨h1.1, h1.2⟩, ⟨⟨m1.1, m1.2.1, m1.2.2.1, m1.2.2.2.1, m1.2.2.2.2.1, m1.2.2.2.2.2⟩, ⟨m2.1, m2.2.1, m2.2.2⟩, m3, m4.fr (fun j hj => rfl), ?_, m6⟩, ⟨h3.1, h3.2.1, h3.2.2⟩, h4, ⟨h5.1, h5.2⟩⟩
  have m5' : vImM A.2.2.2.1 g := m5
  show vImM A.2.2.2.1 (gsH g x)
  cases hi : A.2.2.2.1 with
  | none => rw [hi] at m5'; exact m5'
  | some q =>
    rw [hi] at m5'
    obtain ⟨L, k, E⟩ := q
    exact ⟨m5'.1, m5'.2.1, m5'.2.2.1, m5'.2.2.2⟩
def hX (g g' : zSg) : Prop := ∃ g1 x, qF (fun a _ => a < 526) g g1 ∧ g' = gsH g1 x
theorem vWM.hx {W : mWd} {g g' : zSg} (h : vWM W g) (hh : hX g g') : vWM W g' := by
  obtain ⟨g1, x, f, rfl⟩ := hh
  exact (h.fr f (fun a k w => by unfold sWM at w; omega)).held
theorem qF.hx {S : Nat → Nat → Prop} {g g' : zSg} (h : qF S g g') (hS : ∀ a k, S a k → a < 526) : hX g g' := ⟨g', g'.2.2.2, h.mono hS, rfl⟩
/-- the same answer, and all that is goes on alike -/
def dC (FX FM : zSg → Option (Int32 × zSg)) : Prop := ∀ W, mWok W → ∃ v W', mWok W' ∧ (∀ g, vWX W g → ∃ g', FX g = some (v, g') ∧ vWX W' g' ∧ hX g g') ∧ (∀ g, vWM W g → ∃ g', FM g = some (v, g') ∧ vWM W' g' ∧ qF (fun a _ => 526 ≤ a) g g')
theorem vWX.qx {W : mWd} {g : zSg} (h : vWX W g) (H : mLwsOk W.2.2.2.1 W.2.2.2.2.1 W.2.2.2.2.2.1) : vQX W.2.1 W.2.2.1.1 (mHeld W.2.2.2.2.1 W.2.2.2.2.2.1) g := ⟨h.2.1.1, h.2.2.1.lx H, h.2.1.2.1.1.1, h.2.1.2.1.1.2.1⟩
theorem vWM.qm {W : mWd} {g : zSg} (h : vWM W g) (H : mLwsOk W.2.2.2.1 W.2.2.2.2.1 W.2.2.2.2.2.1) : vQM W.2.1 W.2.2.1.1 (mHeld W.2.2.2.2.1 W.2.2.2.2.2.1) g := ⟨h.2.1.1, h.2.2.1.lm H, fun i hi => by have := h.2.1.2.1.1 i hi; rwa [show 0 + i = i by omega] at this⟩
theorem vWX.sx {W : mWd} {g g' : zSg} (h : vWX W g) (hn : W.2.2.2.1 ≤ 4) (f : qF SX g g') : vWX W g' ∧ hX g g' := ⟨h.fr hn f (fun a k w => by unfold sWX at w; unfold SX; omega), f.hx (fun a k w => by unfold SX at w; omega)⟩
theorem vWM.sy {W : mWd} {g g' : zSg} (h : vWM W g) (f : qF SY g g') : vWM W g' ∧ qF (fun a _ => 526 ≤ a) g g' := ⟨h.fr f (fun a k w => by unfold sWM at w; unfold SY; omega), f.mono (fun a k w => by unfold SY at w; omega)⟩
theorem dC.q {FX FM : zSg → Option (Int32 × zSg)} (h : ∀ C L lw, vQ C L → ∃ v, (∀ g, vQX C L lw g → qE SX g (FX g) v) ∧ (∀ g, vQM C L lw g → qE SY g (FM g) v)) : dC FX FM := by
  intro W ok
  have ok' := ok
  obtain ⟨k1, k2, k3, k4, k5⟩ := ok
  obtain ⟨v, hx, hm⟩ := h W.2.1 W.2.2.1.1 (mHeld W.2.2.2.2.1 W.2.2.2.2.2.1) (k3.q k2)
  refine ⟨v, W, ok', fun g hg => ?_, fun g hg => ?_⟩
  · obtain ⟨g', ze, f⟩ := hx g (hg.qx k4)
    exact ⟨g', ze, hg.sx k4.1 f⟩
  · obtain ⟨g', ze, f⟩ := hm g (hg.qm k4)
    exact ⟨g', ze, hg.sy f⟩
theorem dC.n {FX FM : zSg → Option (Int32 × zSg)} (h : ∀ C L lw N, vQ C L → mNtOk C N → ∃ v, (∀ g, vQX C L lw g → vNtX C N g → qE SX g (FX g) v) ∧ (∀ g, vQM C L lw g → vNtM N g → qE SY g (FM g) v)) : dC FX FM := by
  intro W ok
  have ok' := ok
  obtain ⟨k1, k2, k3, k4, k5⟩ := ok
  obtain ⟨v, hx, hm⟩ := h W.2.1 W.2.2.1.1 (mHeld W.2.2.2.2.1 W.2.2.2.2.2.1) W.2.2.2.2.2.2.2 (k3.q k2) k5
  refine ⟨v, W, ok', fun g hg => ?_, fun g hg => ?_⟩
  · obtain ⟨g', ze, f⟩ := hx g (hg.qx k4) hg.2.2.2.2
    exact ⟨g', ze, hg.sx k4.1 f⟩
  · obtain ⟨g', ze, f⟩ := hm g (hg.qm k4) hg.2.2.2.2
    exact ⟨g', ze, hg.sy f⟩
theorem dC.a {FX FM : zSg → Option (Int32 × zSg)} (h : ∀ C A lw gu, mWf C → mAk C A → ∃ v A', mAk C A' ∧ (∀ g, vAX C lw A g → g.2.1 0 13 = gu → ∃ g', FX g = some (v, g') ∧ vAX C lw A' g' ∧ qF sFX g g') ∧ (∀ g, vAM C lw A g → g.2.1 526 31 = gu → ∃ g', FM g = some (v, g') ∧ vAM C lw A' g' ∧ qF sFM g g')) : dC FX FM := by
  intro W ok
  obtain ⟨T, C, A, n, lws, hh, gu, N⟩ := W
  obtain ⟨k1, k2, k3, k4, k5⟩ := ok
  obtain ⟨v, A', kA, hx, hm⟩ := h C A (mHeld lws hh) gu k2 k3
  refine ⟨v, (T, C, A', n, lws, hh, gu, N), ⟨k1, k2, kA, k4, k5⟩, fun g hg => ?_, fun g hg => ?_⟩
  · obtain ⟨h1, h2, h3, h4, h5⟩ := hg
    obtain ⟨g', ze, r, f⟩ := hx g (h2.ax (h3.lx k4)) h4
    exact ⟨g', ze, ⟨h1.fr f (by unfold sFX SX; omega) (fun k => by unfold sFX SX; omega), r.x0, h3.fr k4.1 f (fun a k w => by unfold sFX SX; omega), (f.2.1 _ _ (by unfold sFX SX; omega)).trans h4, h5.f8 f (by unfold sFX SX; omega) (fun b k q1 q2 => by unfold sFX SX; omega)⟩, f.hx (fun a k w => by unfold sFX SX at w; omega)⟩
  · obtain ⟨h1, h2, h3, h4, h5⟩ := hg
    obtain ⟨g', ze, r, f⟩ := hm g (h2.am (h3.lm k4)) h4
    exact ⟨g', ze, ⟨h1.fr f (by unfold sFM SY; omega) (fun k => by unfold sFM SY; omega), r.m0, h3.fr f (fun a k w => by unfold sFM SY; omega), (f.2.1 _ _ (by unfold sFM SY; omega)).trans h4, h5.fr f (by unfold sFM SY; omega) (fun b k q1 q2 => by unfold sFM SY; omega)⟩, f.mono (fun a k w => by unfold sFM SY at w; omega)⟩
theorem dC.t {FX FM : zSg → Option (Int32 × zSg)} (h : ∀ T, mTpOk T → ∃ v T', mTpOk T' ∧ (∀ g, vTpX T g → ∃ g', FX g = some (v, g') ∧ vTpX T' g' ∧ qF sAB g g') ∧ (∀ g, vTpM T g → ∃ g', FM g = some (v, g') ∧ vTpM T' g' ∧ qF sAD g g')) : dC FX FM := by
  intro W ok
  obtain ⟨T, C, A, n, lws, hh, gu, N⟩ := W
  obtain ⟨k1, k2, k3, k4, k5⟩ := ok
  obtain ⟨v, T', kT, hx, hm⟩ := h T k1
  refine ⟨v, (T', C, A, n, lws, hh, gu, N), ⟨kT, k2, k3, k4, k5⟩, fun g hg => ?_, fun g hg => ?_⟩
  · obtain ⟨h1, h2, h3, h4, h5⟩ := hg
    obtain ⟨g', ze, r, f⟩ := hx g h1
    exact ⟨g', ze, ⟨r, h2.fr f (fun a k w => by unfold sAB; omega), h3.fr k4.1 f (fun a k w => by unfold sAB; omega), (f.2.1 _ _ (by unfold sAB; omega)).trans h4, h5.f8 f (by unfold sAB; omega) (fun b k q1 q2 => by unfold sAB; omega)⟩, f.hx (fun a k w => by unfold sAB at w; omega)⟩
  · obtain ⟨h1, h2, h3, h4, h5⟩ := hg
    obtain ⟨g', ze, r, f⟩ := hm g h1
    exact ⟨g', ze, ⟨r, h2.fr f (fun a k w => by unfold sAD; omega), h3.fr f (fun a k w => by unfold sAD; omega), (f.2.1 _ _ (by unfold sAD; omega)).trans h4, h5.fr f (by unfold sAD; omega) (fun b k q1 q2 => by unfold sAD; omega)⟩, f.mono (fun a k w => by unfold sAD at w; omega)⟩
/-! ===== the calls ===== -/
theorem c_feed (x1 x2 x3 x4 x5 : Int32) : dC (f_X11_feed x1 x2 x3 x4 x5) (f_X12_feed x1 x2 x3 x4 x5) := dC.t fun _ hT => d_feed hT x1 x2 x3 x4 x5
theorem c_end (x : Int32) : dC (f_X11_end x) (f_X12_end x) := dC.t fun _ hT => d_end hT x
theorem c_rule (x : Int32) : dC (f_X11_rule x) (f_X12_rule x) := dC.q fun _ _ _ hq => d_rule hq x
theorem c_secret (x y : Int32) : dC (f_X11_secret x y) (f_X12_secret x y) := dC.q fun _ _ _ hq => d_secret hq x y
theorem c_breath (x y : Int32) : dC (f_X11_breath x y) (f_X12_breath x y) := dC.q fun _ _ _ hq => d_breath hq x y
theorem c_strength (x y : Int32) : dC (f_X11_strength x y) (f_X12_strength x y) := dC.q fun _ _ _ hq => d_strength hq x y
theorem c_smells (x : Int32) : dC (f_X11_smells x) (f_X12_smells x) := dC.q fun _ _ _ hq => d_smells hq x
theorem c_air (x : Int32) : dC (f_X11_air x) (f_X12_air x) := dC.q fun _ _ _ hq => d_air hq x
theorem c_soon (x y : Int32) : dC (f_X11_soon x y) (f_X12_soon x y) := dC.q fun _ _ _ hq => d_soon hq x y
theorem c_ready (x : Int32) : dC (f_X11_ready x) (f_X12_ready x) := dC.q fun _ _ _ hq => d_ready hq x
theorem c_kept (x y z : Int32) : dC (f_X11_kept x y z) (f_X12_kept x y z) := dC.q fun _ _ _ hq => d_kept hq x y z
theorem c_worthwhile (x : Int32) : dC (f_X11_worthwhile x) (f_X12_worthwhile x) := dC.q fun _ _ _ hq => d_worthwhile hq x
theorem c_out (x y : Int32) : dC (f_X11_out x y) (f_X12_out x y) := dC.q fun _ _ _ hq => d_out hq x y
theorem c_game (a b x y w : Int32) : dC (f_X11_game a b x y w) (f_X12_game a b x y w) := dC.q fun _ _ _ hq => d_game hq a b x y w
theorem c_rests (a b i : Int32) : dC (f_X11_rests a b i) (f_X12_rests a b i) := dC.q fun _ _ _ hq => d_rests hq a b i
theorem c_odds (x y z u : Int32) : dC (f_X11_odds x y z u) (f_X12_odds x y z u) := dC.q fun _ _ _ hq => d_odds hq x y z u
theorem c_shares (x y : Int32) : dC (f_X11_shares x y) (f_X12_shares x y) := dC.q fun _ _ _ hq => d_shares hq x y
theorem c_most (x : Int32) : dC (f_X11_most x) (f_X12_most x) := dC.q fun _ _ _ hq => d_most hq x
theorem c_heavies (x i : Int32) : dC (f_X11_heavies x i) (f_X12_heavies x i) := dC.n fun _ _ _ _ hq hN => d_heavies hq hN x i
theorem c_ask (x : Int32) : dC (f_X11_ask x) (f_X12_ask x) := dC.n fun _ _ _ _ hq hN => d_ask hq hN x
theorem c_noted (x y : Int32) (b : Bool) : dC (f_X11_noted x y (mB b)) (f_X12_noted x y (mB b)) := by
  intro W ok
  obtain ⟨T, C, A, n, lws, hh, gu, N⟩ := W
  obtain ⟨k1, k2, k3, k4, k5⟩ := ok
  obtain ⟨v, N', kN, hx, hm⟩ := d_noted (lw := mHeld lws hh) (k3.q k2) k5 x y b
  refine ⟨v, (T, C, A, n, lws, hh, gu, N'), ⟨k1, k2, k3, k4, kN⟩, fun g hg => ?_, fun g hg => ?_⟩
  · obtain ⟨g', ze, r, f⟩ := hx g (hg.qx k4) hg.2.2.2.2
    obtain ⟨h1, h2, h3, h4, h5⟩ := hg
    exact ⟨g', ze, ⟨h1.fr f (by unfold SnX; omega) (fun k => by unfold SnX; omega), h2.fr f (fun a k w => by unfold SnX; omega), h3.fr k4.1 f (fun a k w => by unfold SnX; omega), (f.2.1 _ _ (by unfold SnX; omega)).trans h4, r⟩, f.hx (fun a k w => by unfold SnX at w; omega)⟩
  · obtain ⟨g', ze, r, f⟩ := hm g (hg.qm k4) hg.2.2.2.2
    obtain ⟨h1, h2, h3, h4, h5⟩ := hg
    exact ⟨g', ze, ⟨h1.fr f (by unfold SnY; omega) (fun k => by unfold SnY; omega), h2.fr f (fun a k w => by unfold SnY; omega), h3.fr f (fun a k w => by unfold SnY; omega), (f.2.1 _ _ (by unfold SnY; omega)).trans h4, r⟩, f.mono (fun a k w => by unfold SnY at w; omega)⟩
theorem c_gusts (x : Int32) : dC (f_X11_gusts x) (f_X12_gusts x) := by
  intro W ok
  obtain ⟨T, C, A, n, lws, hh, gu, N⟩ := W
  obtain ⟨k1, k2, k3, k4, k5⟩ := ok
  obtain ⟨v, w, hx, hm⟩ := d_gusts x gu
  refine ⟨v, (T, C, A, n, lws, hh, w, N), ⟨k1, k2, k3, k4, k5⟩, fun g hg => ?_, fun g hg => ?_⟩
  · obtain ⟨h1, h2, h3, h4, h5⟩ := hg
    obtain ⟨g', ze, r, f⟩ := hx g h4
    exact ⟨g', ze, ⟨h1.fr f (by omega) (fun k => by omega), h2.fr f (fun a k w => by omega), h3.fr k4.1 f (fun a k w => by omega), r, h5.f8 f (by omega) (fun b k q1 q2 => by omega)⟩, f.hx (fun a k w => by omega)⟩
  · obtain ⟨h1, h2, h3, h4, h5⟩ := hg
    obtain ⟨g', ze, r, f⟩ := hm g h4
    exact ⟨g', ze, ⟨h1.fr f (by omega) (fun k => by omega), h2.fr f (fun a k w => by omega), h3.fr f (fun a k w => by omega), r, h5.fr f (by omega) (fun b k q1 q2 => by omega)⟩, f.mono (fun a k w => by omega)⟩
theorem c_count (x : Int32) : dC (f_X11_count x) (f_X12_count x) := by
  intro W ok
  have ok' := ok
  obtain ⟨T, C, A, n, lws, hh, gu, N⟩ := W
  obtain ⟨k1, k2, k3, k4, k5⟩ := ok
  obtain ⟨v, hx, hm⟩ := d_count (C := C) (lw := mHeld lws hh) (A := A) k3.1.1.2.2.2.2.2.2.2.2 (Int32.ofNat n) (Int32.ofNat T.1) (mOpt hh) gu (Int32.ofNat N.1) x
  refine ⟨v, _, ok', fun g hg => ?_, fun g hg => ?_⟩
  · obtain ⟨h1, h2, h3, h4, h5⟩ := hg
    exact ⟨g, hx g (h2.ax (h3.lx k4)) h3.1 h1.1 h3.2.2.1 h4 h5.1, ⟨h1, h2, h3, h4, h5⟩, qF.hx (S := fun _ _ => False) qF.rfl' (fun a k w => w.elim)⟩
  · obtain ⟨h1, h2, h3, h4, h5⟩ := hg
    exact ⟨g, hm g (h2.am (h3.lm k4)) h3.1 h1.1 h3.2.2 h4 h5.1, ⟨h1, h2, h3, h4, h5⟩, qF.rfl'⟩
