/-! ===== both sides: one NIGHT of an ACT ===== -/
def mNg (C : mC) (lw : mLaw) (A : mA) : mA := (mNight C lw A.1, mLg A.2.1 (A.1 53) (mWz C A.1 (mNight C lw A.1)) (mPop (mNight C lw A.1 49)) (mNight C lw A.1 51), A.2.2)
def sNX (a k : Nat) : Prop := sP 39 a k ∨ a = 51 ∨ (a = 39 ∧ k = 10)
theorem mNight_53 {C : mC} {lw : mLaw} {L : mL} : mNight C lw L 53 = L 53 + 1 := by unfold mNight; rw [if_neg (by omega), if_pos rfl]
theorem vKp_lg {C : mC} {E : Nat → Nat} {n w c o : Nat} {g : zSg} : ∀ (U : mU) (b : Nat), mCh C b U → b ≤ n → vKp U E g → vKp U (mLg E n w c o) g
  | [], _, _, _, _ => trivial
  | (L, m) :: U, b, hc, hb, h => by
    obtain ⟨c1, c2, c3, c4, c5⟩ := hc
    obtain ⟨⟨h1, h2, h3⟩, h4⟩ := h
    refine ⟨⟨h1, h2, fun j k q1 q2 q3 => ?_⟩, vKp_lg U m c5 (by omega) h4⟩
    rw [h3 j k q1 q2 q3]
    unfold mLg
    rw [if_neg (by omega), if_neg (by omega), if_neg (by omega)]
section AB
variable {C : mC} {lw : mLaw} {A : mA} {g : zSg}
theorem vAX.night (hC : mWf C) (h0 : 0 < C.1) (hL : mLf 999 C A.1) (hch : mCh C (A.1 53) A.2.2.1) (hhd : ∀ L0 m0 U0, A.2.2.1 = (L0, m0) :: U0 → m0 = A.1 53) (h : vAX C lw A g) : ∃ g', f_X11_passNight g = some ((), g') ∧ vAX C lw (mNg C lw A) g' ∧ qF sNX g g' := by
  obtain ⟨h1, h2, ⟨⟨hs, hb, h10⟩, hr, ⟨x, hx, x1, x2⟩, h6, hU, hI⟩, h4⟩ := h
  have h53 : A.1 53 ≤ 999 := hL.1.2.2.2.2.2.2.2.2
  obtain ⟨v, g1, ze, p1, p2, f1, hv⟩ := x_pass (mk := 63) (a := 39) (lw := lw) (by omega) (by omega) hL ⟨hC, h0, rfl, by omega, hL.1, h1, h2, hs⟩ hb
  have hLn := mNight_lf (lw := lw) hC hL
  have e10 : g1.2.1 39 10 = Int32.ofNat (A.1 53) := (f1.2.1 _ _ (by unfold sP sN sW; omega)).trans h10
  obtain ⟨g2, ze2, w1, w2, w3, f2⟩ := x_write (w := mWis C A.1 (mNight C lw A.1)) ⟨p1.2.2.2.2.2.2.2, p2, e10⟩ hLn.1.2.2.2.2.1 hLn.1.2.2.2.2.2.2.1 (by omega) (fun j k q1 q2 q3 => (f1.2.1 _ _ (by unfold sP sN sW; omega)).trans (hr j k q1 q2 q3)) (x2.fr f1 (fun b k q1 q2 => by unfold sP sN sW; omega) (fun k => by unfold sP sN sW; omega)) hch hhd hU
  rw [mWis_eq] at w2 w3
  have F : qF sNX g g2 := (f1.mono fun a k w => Or.inl w).tr (f2.mono fun a k w => Or.inr w)
  refine ⟨g2, ?_, ⟨h1.fr F (fun k => by unfold sNX sP sN sW; omega) (fun k => by unfold sNX sP sN sW; omega), h2.fr F (fun b k hb => by unfold sNX sP sN sW; omega), ?_, fun j hj => (F.2.1 _ _ (by unfold sNX sP sN sW; omega)).trans (h4 j hj)⟩, F⟩
  · unfold f_X11_passNight
    rw [show (63 : Int32) = Int32.ofNat 63 from rfl, ze, qB_s, hv rfl, ze2, qB_s]
  · show vBX C (mNight C lw A.1) (mNight C lw A.1 53) _ A.2.2.1 A.2.2.2.1 g2
    rw [mNight_53]
    exact ⟨w1, w2, ⟨x, hx, (F.2.1 _ _ (by unfold sNX sP sN sW; omega)).trans x1, w3⟩, (F.2.1 _ _ (by unfold sNX sP sN sW; omega)).trans h6, hU, hI.fr F (by unfold sNX sP sN sW; omega) (fun b k q1 q2 => by unfold sNX sP sN sW; omega)⟩
theorem vAM.night (hC : mWf C) (h0 : 0 < C.1) (hL : mLf 999 C A.1) (hch : mCh C (A.1 53) A.2.2.1) (h : vAM C lw A g) : ∃ g', f_X12_passNight g = some ((), g') ∧ vAM C lw (mNg C lw A) g' ∧ qF sMp g g' := by
  obtain ⟨h1, h2, h3, h4, h5, h6, h7⟩ := h
  obtain ⟨g', ze, p1, p2, f⟩ := m_passNight (lw := lw) (by omega) hL ⟨hC, h0, by omega, hL.1, h1, h2, fun i hi => by have := h3.1 i hi; rwa [show 0 + i = i by omega] at this⟩ h3
  refine ⟨g', ze, ⟨p1.2.2.2.2.1, p1.2.2.2.2.2.1, ?_, (f.2.1 _ _ (by unfold sMp sV; omega)).trans h4, vKp_lg A.2.2.1 _ hch (Nat.le_refl _) (h5.fr (fun j hj => f.2.1 _ _ (by unfold sMp sV; omega))), h6.fr f (by unfold sMp sV; omega) (fun k => by unfold sMp sV; omega), fun j hj => (f.2.1 _ _ (by unfold sMp sV; omega)).trans (h7 j hj)⟩, f⟩
  show vBlk 543 0 (mNight C lw A.1) (mNight C lw A.1 53) _ g'
  rw [mNight_53]
  exact p2
end AB
