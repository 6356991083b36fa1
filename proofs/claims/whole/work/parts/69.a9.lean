/-! ===== both sides: COUNT ===== -/
theorem q_si {c : Prop} [Decidable c] {a b : Int32} {g : zSg} : (if c then some (a, g) else some (b, g)) = some (if c then a else b, g) := by
  by_cases h : c
  · rw [if_pos h, if_pos h]
  · rw [if_neg h, if_neg h]
section A9
variable {C : mC} {lw : mLaw} {A : mA}
theorem d_count (hn : A.1 53 ≤ 999) (lc tl hd gu nt x : Int32) : ∃ v, (∀ g, vAX C lw A g → g.2.1 0 11 = lc → g.2.1 1 1 = tl → g.2.1 0 12 = hd → g.2.1 0 13 = gu → g.2.1 506 8 = nt → f_X11_count x g = some (v, g)) ∧ (∀ g, vAM C lw A g → g.2.1 526 13 = lc → g.2.1 526 2 = tl → g.2.1 526 30 = hd → g.2.1 526 31 = gu → g.2.1 526 43 = nt → f_X12_count x g = some (v, g)) := by
  refine ⟨if x = 0 then Int32.ofNat (mCells C) else if x = 1 then Int32.ofNat C.1 else if x = 2 then Int32.ofNat C.2.1 else if x = 3 then lc else if x = 4 then tl else if x = 5 then hd else if x = 6 then Int32.ofNat (A.1 53) else if x = 7 then gu else if x = 8 then nt else if x = 9 then Int32.ofNat (min 60 (A.1 53)) else if x = 10 then Int32.ofNat A.2.2.1.length else -1000000, fun g hg e1 e2 e3 e4 e5 => ?_, fun g hg e1 e2 e3 e4 e5 => ?_⟩
  · have a1 : gI g 0 11 = lc := e1
    have a2 : gI g 1 1 = tl := e2
    have a3 : gI g 0 12 = hd := e3
    have a4 : gI g 0 13 = gu := e4
    have a5 : gI g 506 8 = nt := e5
    have a6 : gI g 39 9 = Int32.ofNat (A.1 53) := hg.2.2.1.1.1.2.2.2.2.2.2.2
    have a7 : imin 60 (gI g 39 10) = Int32.ofNat (min 60 (A.1 53)) := by
      show imin (Int32.ofNat 60) (g.2.1 39 10) = _
      rw [hg.2.2.1.1.2.2, qi_imin (by omega) (by omega)]
    have a8 : gI g 48 6 = Int32.ofNat A.2.2.1.length := hg.2.2.1.2.2.2.1
    unfold f_X11_count f_X9_length f_X2_notes f_X6_logLength f_X6_acts
    simp only [x_cells hg.1, x_persons hg.1, x_secrets hg.1, zB, a1, a2, a3, a4, a5, a6, a7, a8, q_si]
  · have a1 : gI g 526 13 = lc := e1
    have a2 : gI g 526 2 = tl := e2
    have a3 : gI g 526 30 = hd := e3
    have a4 : gI g 526 31 = gu := e4
    have a5 : gI g 526 43 = nt := e5
    have a6 : gI g 543 53 = Int32.ofNat (A.1 53) := hg.vi (by omega)
    have a7 : gI g 543 54 = Int32.ofNat (min 60 (A.1 53)) := hg.2.2.1.2.1
    have a8 : gI g 526 35 = Int32.ofNat A.2.2.1.length := hg.2.2.2.1
    have b1 : gI g 526 27 = Int32.ofNat (mCells C) := hg.v27
    have b2 : gI g 526 25 = Int32.ofNat C.1 := hg.1.2.2.2.1
    have b3 : gI g 526 26 = Int32.ofNat C.2.1 := hg.1.2.2.2.2.1
    unfold f_X12_count
    simp only [a1, a2, a3, a4, a5, a6, a7, a8, b1, b2, b3, q_si]
end A9
