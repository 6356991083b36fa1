/-! ===== both sides: UNDO, IMAGE, BACK ===== -/
section A8
variable {C : mC} {lw : mLaw}
theorem d_undo (A : mA) (hU : A.2.2.1.length ≤ 40) (hm : ∀ L m U, A.2.2.1 = (L, m) :: U → m = L 53) : ∃ v A', ((A.2.2.1 = [] ∧ A' = A) ∨ ∃ L m U, A.2.2.1 = (L, m) :: U ∧ A' = ((L, A.2.1, U, A.2.2.2.1, A.2.2.2.2) : mA)) ∧ (∀ g, vAX C lw A g → ∃ g', f_X11_undo g = some (v, g') ∧ vAX C lw A' g' ∧ qF sAX g g') ∧ (∀ g, vAM C lw A g → ∃ g', f_X12_undo g = some (v, g') ∧ vAM C lw A' g' ∧ qF sAM g g') := by
  obtain ⟨L0, E, U, Im, Rf⟩ := A
  cases U with
  | nil =>
    refine ⟨-1, _, Or.inl ⟨rfl, rfl⟩, fun g hg => ⟨g, ?_, hg, qF.rfl'⟩, fun g hg => ⟨g, m_undo0 hg.2.2.2.1, hg, qF.rfl'⟩⟩
    obtain ⟨-, -, ⟨-, -, ⟨x, hx, x1, -⟩, h6, -, -⟩, -⟩ := hg
    unfold f_X11_undo
    rw [x_recall0 hx x1 h6, qB_s, if_pos rfl]
  | cons q U =>
    obtain ⟨L, m⟩ := q
    have hm' : m = L 53 := hm L m U rfl
    have hU' : U.length + 1 ≤ 40 := hU
    refine ⟨Int32.ofNat U.length, _, Or.inr ⟨L, m, U, rfl, rfl⟩, fun g hg => ?_, fun g hg => ?_⟩
    · obtain ⟨h1, h2, ⟨hs, hr, ⟨x, hx, x1, x2⟩, h6, -, hI⟩, h4⟩ := hg
      obtain ⟨g', ze, c1, c2, c3, c4, c5, f⟩ := x_recall hx x1 h6 hU' x2
      rw [hm'] at c1 c2
      refine ⟨g', ?_, ⟨h1.fr f (fun k => by omega) (fun k => by omega), h2.fr f (fun b k hb => by omega), ⟨c1, c2, ⟨(x + 39) % 40, Nat.mod_lt _ (by omega), c4, c3⟩, c5, by show U.length ≤ 40; omega, hI.fr f (by omega) (fun b k q1 q2 => by omega)⟩, fun j hj => (f.2.1 _ _ (by omega)).trans (h4 j hj)⟩, f.mono fun a k w => by unfold sAX; omega⟩
      unfold f_X11_undo f_X6_acts
      rw [ze, qB_s, if_neg (by decide), qB_s, show gI g' 48 6 = Int32.ofNat U.length from c5]
    · obtain ⟨h1, h2, h3, h4, h5, h6, h7⟩ := hg
      obtain ⟨g', ze, k1, k2, k3, f⟩ := m_undo h4 hU' h5
      rw [hm'] at k1
      exact ⟨g', ze, ⟨h1.fr f (fun k => by omega) (fun k => by omega) (fun k => by omega) (fun k _ _ => by omega), h2.fr f (by omega) (fun b k q1 q2 => by omega), k1, k3, k2, h6.fr f (by omega) (fun k => by omega), fun j hj => (f.2.1 _ _ (by omega)).trans (h7 j hj)⟩, f.mono fun a k w => by unfold sAM; omega⟩
def sBM (a k : Nat) : Prop := sAM a k ∨ a = 552 ∨ (a = 526 ∧ k = 47)
theorem d_image (hC : mWf C) (A : mA) (hz : (mCells C = 0) ↔ ¬ 0 < C.1) : ∃ v A', (A' = A ∨ A' = ((A.1, A.2.1, A.2.2.1, some (A.1, A.1 53, A.2.1), A.2.2.2.2) : mA)) ∧ (∀ g, vAX C lw A g → ∃ g', f_X11_image g = some (v, g') ∧ vAX C lw A' g' ∧ qF sAX g g') ∧ (∀ g, vAM C lw A g → ∃ g', f_X12_image g = some (v, g') ∧ vAM C lw A' g' ∧ qF sBM g g') := by
  have hP := hC.1
  have h30 := hC.cells
  by_cases h0 : 0 < C.1
  · have hz1 : ¬ Int32.ofNat (mCells C) = (0 : Int32) := by
      rw [show (0 : Int32) = Int32.ofNat 0 from rfl, qi_inj (by omega) (by omega)]
      exact fun w => hz.mp w h0
    refine ⟨Int32.ofNat (A.1 53), _, Or.inr rfl, fun g hg => ?_, fun g hg => ?_⟩
    · have t := x_isTold hg.1 hP
      obtain ⟨h1, h2, ⟨hs, hr, ⟨x, hx, x1, x2⟩, h6, hU, hI⟩, h4⟩ := hg
      obtain ⟨g', ze, hi, f⟩ := x_picture hs hr
      refine ⟨g', ?_, ⟨h1.fr f (fun k => by omega) (fun k => by omega), h2.fr f (fun b k hb => by omega), ⟨hs.fr f (fun b k q1 q2 => by omega), fun j k q1 q2 q3 => (f.2.1 _ _ (by omega)).trans (hr j k q1 q2 q3), ⟨x, hx, (f.2.1 _ _ (by omega)).trans x1, ?_⟩, (f.2.1 _ _ (by omega)).trans h6, hU, hi⟩, fun j hj => (f.2.1 _ _ (by omega)).trans (h4 j hj)⟩, f.mono fun a k w => by unfold sAX; omega⟩
      · unfold f_X11_image
        rw [t, if_pos h0, qB_s, if_pos (by decide), ze, qB_s]
        rw [show gI g' 39 9 = Int32.ofNat (A.1 53) from (f.2.1 _ _ (by omega)).trans hs.1.2.2.2.2.2.2.2]
      · exact x2.fr f (fun b k q1 q2 => by omega) (fun k => by omega)
    · have t := hg.v27
      obtain ⟨h1, h2, h3, h4, h5, h6, h7⟩ := hg
      obtain ⟨g', ze, hi, f⟩ := m_image h3
      refine ⟨g', ?_, ⟨h1.fr f (fun k => by omega) (fun k => by omega) (fun k => by omega) (fun k _ _ => by omega), h2.fr f (by omega) (fun b k q1 q2 => by omega), h3.cp (fun i hi => f.2.1 _ _ (by omega)), (f.2.1 _ _ (by omega)).trans h4, h5.fr (fun j hj => f.2.1 _ _ (by omega)), hi, fun j hj => (f.2.1 _ _ (by omega)).trans (h7 j hj)⟩, f.mono fun a k w => by unfold sBM; omega⟩
      unfold f_X12_image
      rw [show gI g 526 27 = Int32.ofNat (mCells C) from t, if_pos hz1]
      exact ze
  · have hz1 : Int32.ofNat (mCells C) = (0 : Int32) := by rw [hz.mpr h0]; rfl
    refine ⟨-1, _, Or.inl rfl, fun g hg => ⟨g, ?_, hg, qF.rfl'⟩, fun g hg => ⟨g, ?_, hg, qF.rfl'⟩⟩
    · unfold f_X11_image
      rw [x_isTold hg.1 hP, if_neg h0, qB_s, if_neg (by decide)]
    · unfold f_X12_image
      rw [show gI g 526 27 = Int32.ofNat (mCells C) from hg.v27, if_neg (fun w => w hz1)]
theorem d_back (A : mA) (hm : ∀ L n E, A.2.2.2.1 = some (L, n, E) → n = L 53) : ∃ v A', ((A.2.2.2.1 = none ∧ A' = A) ∨ ∃ L n E, A.2.2.2.1 = some (L, n, E) ∧ A' = ((L, E, [], A.2.2.2.1, A.2.2.2.2) : mA)) ∧ (∀ g, vAX C lw A g → ∃ g', f_X11_back g = some (v, g') ∧ vAX C lw A' g' ∧ qF sAX g g') ∧ (∀ g, vAM C lw A g → ∃ g', f_X12_back g = some (v, g') ∧ vAM C lw A' g' ∧ qF sAM g g') := by
  obtain ⟨L0, E0, U, Im, Rf⟩ := A
  cases Im with
  | none =>
    refine ⟨-1, _, Or.inl ⟨rfl, rfl⟩, fun g hg => ⟨g, ?_, hg, qF.rfl'⟩, fun g hg => ⟨g, m_back0 hg.2.2.2.2.2.1, hg, qF.rfl'⟩⟩
    have hI : g.2.1 48 4 = Int32.ofNat 0 := hg.2.2.1.2.2.2.2.2
    unfold f_X11_back
    rw [x_restore0 hI, qB_s, if_pos rfl]
  | some q =>
    obtain ⟨L, n, E⟩ := q
    have hn : n = L 53 := hm L n E rfl
    refine ⟨Int32.ofNat (L 53), _, Or.inr ⟨L, n, E, rfl, rfl⟩, fun g hg => ?_, fun g hg => ?_⟩
    · obtain ⟨h1, h2, ⟨hs, hr, ⟨x, hx, x1, x2⟩, h6, hU, hI⟩, h4⟩ := hg
      obtain ⟨g', ze, c1, c2, c3, f⟩ := x_restore hI
      rw [hn] at c1 c2
      refine ⟨g', ?_, ⟨h1.fr f (fun k => by omega) (fun k => by omega), h2.fr f (fun b k hb => by omega), ⟨c1, c2, ⟨x, hx, (f.2.1 _ _ (by omega)).trans x1, trivial⟩, c3, Nat.zero_le _, vIm.fr (Im := some (L, n, E)) hI f (by omega) (fun b k q1 q2 => by omega)⟩, fun j hj => (f.2.1 _ _ (by omega)).trans (h4 j hj)⟩, f.mono fun a k w => by unfold sAX; omega⟩
      unfold f_X11_back
      rw [ze, qB_s, if_neg (by decide), show gI g' 39 9 = Int32.ofNat (L 53) from c1.1.2.2.2.2.2.2.2]
    · obtain ⟨h1, h2, h3, h4, h5, h6, h7⟩ := hg
      obtain ⟨g', ze, k1, k2, f⟩ := m_back h6
      rw [hn] at k1
      exact ⟨g', ze, ⟨h1.fr f (fun k => by omega) (fun k => by omega) (fun k => by omega) (fun k _ _ => by omega), h2.fr f (by omega) (fun b k q1 q2 => by omega), k1, k2, trivial, vImM.fr (Im := some (L, n, E)) h6 f (by omega) (fun k => by omega), fun j hj => (f.2.1 _ _ (by omega)).trans (h7 j hj)⟩, f.mono fun a k w => by unfold sAM; omega⟩
end A8
