/-! ===== both sides: ODDS ===== -/
def oBh (C : mC) (lw : mLaw) (L : mL) (n k c x d : Nat) (g : zSg) : Prop := ∀ e, e ≤ d → vXs (999 + e) C lw (443 + 9 * e) (oRun C lw L e (x / 2 ^ (n - e))) g ∧ vBr (443 + 9 * e) (1 <<< c) C (oRun C lw L e (x / 2 ^ (n - e))) g ∧ g.2.1 433 e = Int32.ofNat (oPrt k e (x / 2 ^ (n - e)))
theorem q_d2 {x k : Nat} : x / 2 ^ (k + 1) = x / 2 ^ k / 2 := by rw [Nat.pow_succ, Nat.div_div_eq_div_mul]
def sR (a j b k : Nat) : Prop := sQ a b k ∨ (b = 433 ∧ k = j)
theorem sR_X {a j b k : Nat} (ha : 434 ≤ a ∧ a ≤ 497) (h : sR a j b k) : SX b k := by unfold sR sQ at h; unfold SX; omega
theorem vXs.frR {nb a a' j : Nat} {C : mC} {lw : mLaw} {L : mL} {g g' : zSg} (h : vXs nb C lw a L g) (hf : qF (sR a' j) g g') (h1 : 434 ≤ a) (h2 : a + 8 < a') : vXs nb C lw a L g' := by
  obtain ⟨q1, q2, q3, q4, q5, q6, q7, q8⟩ := h
  exact ⟨q1, q2, q3, q4, q5, q6.fr hf (fun k => by unfold sR sQ; omega) (fun k => by unfold sR sQ; omega), q7.fr hf (fun b k hb => by unfold sR sQ; omega), q8.fr hf (fun b k z1 z2 => by unfold sR sQ; omega)⟩
section Q17
variable {C : mC} {L : mL} {lw : mLaw}
/-- one NIGHT by chance -/
theorem x_stepC {n k c x d b : Nat} {g : zSg} (hL : mLf 999 C L) (hc : c < C.2.1) (hn : n ≤ 6) (hd : d < n) (hk : k ≤ 100) (hb : b = x / 2 ^ (n - (d + 1)) % 2) (h : oBh C lw L n k c x d g) : ∃ v g2 g3, f_X3_stepByChance (Int32.ofNat d) (Int32.ofNat b) (Int32.ofNat k) g = some (some (443 + 9 * (d + 1)), g2) ∧ f_X10_pass (443 + 9 * (d + 1)) (Int32.ofNat (1 <<< c)) g2 = some (v, g3) ∧ oBh C lw L n k c x (d + 1) g3 ∧ qF SX g g3 := by
  obtain ⟨hx1, hb1, hp1⟩ := h d (Nat.le_refl _)
  have hC := hx1.1
  have hS := hC.2.1
  have hP := hC.1
  have hb2 : b < 2 := by omega
  have hmk : (1 <<< c : Nat) < 64 := by rw [Nat.one_shiftLeft]; exact Nat.pow_lt_pow_right (by omega) (by omega : c < 6)
  have hLd := oRun_lf (lw := lw) hC hL d (x / 2 ^ (n - d))
  have h50 := hLd.1.2.2.2.2.2.1
  have a8 := zK0_431 (x := d) (by omega)
  have b8 := zK0_431 (x := d + 1) (by omega)
  have hpl := @oPrt_le k d (x / 2 ^ (n - d)) hk
  have hle := q_pctle (a := oPrt k d (x / 2 ^ (n - d))) hk
  obtain ⟨part, hpart⟩ : ∃ part, part = oPart k b (oPrt k d (x / 2 ^ (n - d))) := ⟨_, rfl⟩
  have F0 : qF (fun b k => b = 433 ∧ k = d + 1) g (gsI g 433 (d + 1) (Int32.ofNat part)) := qF.rfl'.sI ⟨rfl, rfl⟩
  obtain ⟨g1, ze1, hs1, hbr1, f1⟩ := x_becB (g := gsI g 433 (d + 1) (Int32.ofNat part)) b8 a8 (by omega) (hx1.2.2.2.2.2.2.2.fr F0 (fun b k q1 q2 => by omega)) (hb1.fr F0 (fun b k q1 q2 => by omega))
  have F1 : qF (sR (443 + 9 * (d + 1)) (d + 1)) g g1 := (F0.mono fun b k w => Or.inr w).tr (f1.mono fun b k w => Or.inl (Or.inl w))
  have hX1 : vXs (999 + d) C lw (443 + 9 * (d + 1)) (oRun C lw L d (x / 2 ^ (n - d))) g1 := ⟨hC, hx1.2.1, b8, by omega, hLd.1, hx1.2.2.2.2.2.1.fr F1 (fun k => by unfold sR sQ; omega) (fun k => by unfold sR sQ; omega), hx1.2.2.2.2.2.2.1.fr F1 (fun b k hb => by unfold sR sQ; omega), hs1⟩
  have hXd : g1.2.1 (443 + 9 * d) 6 = Int32.ofNat (oRun C lw L d (x / 2 ^ (n - d)) 50) := (F1.2.1 _ _ (by unfold sR sQ; omega)).trans hx1.2.2.2.2.2.2.2.2.2.2.2.1
  obtain ⟨w, hw⟩ : ∃ w, w = (oRun C lw L d (x / 2 ^ (n - d)) 50 + b) % 4 := ⟨_, rfl⟩
  have hw4 : w < 4 := by omega
  obtain ⟨v, g3, ze3, h3, hb3, f3, -⟩ := x_pass (mk := 1 <<< c) hmk (by omega) (mLw_lf hC hw4 hLd) (hX1.wind hLd hw4) (hbr1.wind hP)
  have er : mNight C lw (mLw (oRun C lw L d (x / 2 ^ (n - d))) w) = oRun C lw L (d + 1) (x / 2 ^ (n - (d + 1))) := by
    show _ = oSt C lw (oRun C lw L d (x / 2 ^ (n - (d + 1)) / 2)) (x / 2 ^ (n - (d + 1)) % 2)
    rw [← q_d2, show n - (d + 1) + 1 = n - d by omega, ← hb, hw]
    rfl
  have ep : part = oPrt k (d + 1) (x / 2 ^ (n - (d + 1))) := by
    show _ = oPart k (x / 2 ^ (n - (d + 1)) % 2) (oPrt k d (x / 2 ^ (n - (d + 1)) / 2))
    rw [← q_d2, show n - (d + 1) + 1 = n - d by omega, ← hb, hpart]
  rw [er] at h3 hb3
  have f3' : qF (sQ (443 + 9 * (d + 1))) g1 g3 := (qF.rfl'.sI (by unfold sQ; omega)).tr (f3.mono fun b k w => sP_Q w)
  have F3 : qF (sR (443 + 9 * (d + 1)) (d + 1)) g g3 := F1.tr (f3'.mono fun b k w => Or.inl w)
  refine ⟨v, gsI g1 (443 + 9 * (d + 1)) 6 (Int32.ofNat w), g3, ?_, ze3, ?_, F3.mono fun b k w => sR_X (by omega) w⟩
  · unfold f_X3_stepByChance f_X3_stepByChance_78 f_X3_stepByChance_111
    have e1 : Int32.ofNat d + 1 = Int32.ofNat (d + 1) := qi_add d 1
    rcases (show b = 0 ∨ b = 1 by omega) with rfl | rfl
    · have ew : oRun C lw L d (x / 2 ^ (n - d)) 50 = w := by rw [hw]; omega
      have ept : Int32.ofNat (oPrt k d (x / 2 ^ (n - d))) - Int32.ofNat (oPrt k d (x / 2 ^ (n - d)) * k / 100) = Int32.ofNat part := by rw [hpart, qi_sub hle]; rfl
      rw [ew] at hXd
      simp (disch := omega) only [e1, x_pick431, zB, zNu, if_pos a8, if_pos b8, q_get432, hp1, q_pct hpl hk, if_pos (show Int32.ofNat 0 = (0 : Int32) from rfl), ept, q_set432, ze1, hXd]
    · have ew : imod (Int32.ofNat (oRun C lw L d (x / 2 ^ (n - d)) 50) + 1) 4 = Int32.ofNat w := by
        show imod (Int32.ofNat (oRun C lw L d (x / 2 ^ (n - d)) 50) + Int32.ofNat 1) (Int32.ofNat 4) = _
        rw [qi_add, qi_imod (by omega) (by omega), hw]
      have ept : Int32.ofNat (oPrt k d (x / 2 ^ (n - d)) * k / 100) = Int32.ofNat part := by rw [hpart]; rfl
      simp (disch := omega) only [e1, x_pick431, zB, zNu, if_pos a8, if_pos b8, q_get432, hp1, q_pct hpl hk, if_neg (show ¬ Int32.ofNat 1 = (0 : Int32) by decide), ept, q_set432, ze1, hXd, ew]
  · intro e he
    by_cases q : e = d + 1
    · subst q
      refine ⟨h3, hb3, ?_⟩
      rw [f3'.2.1 _ _ (by unfold sQ; omega), f1.2.1 _ _ (by omega), qs_Ie, ep]
    · obtain ⟨y1, y2, y3⟩ := h e (by omega)
      exact ⟨y1.frR F3 (by omega) (by omega), y2.fr F3 (fun b k z1 z2 => by unfold sR sQ; omega), (F3.2.1 _ _ (by unfold sR sQ; omega)).trans y3⟩
theorem x_path {k55 : Int32 → Int32 → Int32 → Int32 → Nat → Int32 → Int32 → zSg → Option (Int32 × zSg)} {P Sm : Int32} {n k c x f b1 y7 : Nat} {g : zSg} (hL : mLf 999 C L) (hc : c < C.2.1) (hn : n ≤ 6) (hx : x < 10000) (hk : k ≤ 100) (hf : f ≤ n) (h : oBh C lw L n k c x f g) : ∃ g', f_X3_partsThatKnow_74 b1 k55 zFu P (Int32.ofNat c) (Int32.ofNat n) (Int32.ofNat k) y7 Sm (Int32.ofNat x) (Int32.ofNat f) g = f_X3_partsThatKnow_139 b1 k55 P (Int32.ofNat c) (Int32.ofNat n) (Int32.ofNat k) y7 Sm (Int32.ofNat x) g' ∧ qF SX g g' ∧ oBh C lw L n k c x n g' := by
  have hS := (h 0 (Nat.zero_le _)).1.1.2.1
  refine q_loop (F := fun nn d g => f_X3_partsThatKnow_74 b1 k55 nn P (Int32.ofNat c) (Int32.ofNat n) (Int32.ofNat k) y7 Sm (Int32.ofNat x) (Int32.ofNat d) g) (N := n) (Inv := fun d g' => qF SX g g' ∧ oBh C lw L n k c x d g') (R := fun o => ∃ g', o = f_X3_partsThatKnow_139 b1 k55 P (Int32.ofNat c) (Int32.ofNat n) (Int32.ofNat k) y7 Sm (Int32.ofNat x) g' ∧ qF SX g g' ∧ oBh C lw L n k c x n g') (by omega) ?_ ?_ hf ⟨qF.rfl', h⟩
  · intro nn g' ⟨ff, h'⟩
    refine ⟨g', ?_, ff, h'⟩
    show fb_X3_partsThatKnow_74 _ _ _ _ _ _ _ _ _ _ _ _ = _
    unfold fb_X3_partsThatKnow_74
    rw [if_pos (by rw [qi_le (by omega) (by omega)]; omega)]
  · intro nn d g' hd ⟨ff, h'⟩ ih
    obtain ⟨b, hb⟩ : ∃ b, b = x / 2 ^ (n - (d + 1)) % 2 := ⟨_, rfl⟩
    obtain ⟨v, g2, g3, ze2, ze3, h3, f3⟩ := x_stepC hL hc hn hd hk hb h'
    have eb : (Int32.ofNat x >>> (((Int32.ofNat n - 1) - Int32.ofNat d) &&& 31)) &&& 1 = Int32.ofNat b := by
      show (Int32.ofNat x >>> (((Int32.ofNat n - Int32.ofNat 1) - Int32.ofNat d) &&& Int32.ofNat 31)) &&& Int32.ofNat 1 = Int32.ofNat b
      rw [qi_sub (by omega), qi_sub (by omega), qi_shr (by omega) (by omega), qi_and, show (1 : Nat) = 2 ^ 1 - 1 from rfl, Nat.and_two_pow_sub_one_eq_mod, Nat.shiftRight_eq_div_pow, hb]
      rw [show n - (2 ^ 1 - 1) - d = n - (d + 1) by omega]
    have goal : ∃ g'_1, f_X3_partsThatKnow_101 b1 k55 (f_X3_partsThatKnow_74 b1 k55 nn) P (Int32.ofNat c) (Int32.ofNat n) (Int32.ofNat k) y7 Sm (Int32.ofNat x) (Int32.ofNat d) (Int32.ofNat b) g' = f_X3_partsThatKnow_139 b1 k55 P (Int32.ofNat c) (Int32.ofNat n) (Int32.ofNat k) y7 Sm (Int32.ofNat x) g'_1 ∧ qF SX g g'_1 ∧ oBh C lw L n k c x n g'_1 := by
      unfold f_X3_partsThatKnow_101 f_X3_partsThatKnow_133
      have e1 : Int32.ofNat d + 1 = Int32.ofNat (d + 1) := qi_add d 1
      have ec : (1 : Int32) <<< (Int32.ofNat c &&& 31) = Int32.ofNat (1 <<< c) := by
        show Int32.ofNat 1 <<< (Int32.ofNat c &&& Int32.ofNat 31) = _
        rw [qi_shl (by omega)]
      have b8 := zK0_431 (x := d + 1) (by omega)
      simp only [ze2, zB, zNu, if_pos b8, ec, ze3, e1]
      exact ih g3 ⟨ff.tr f3, h3⟩
    show ∃ g'_1, fb_X3_partsThatKnow_74 _ _ _ _ _ _ _ _ _ _ _ _ = _ ∧ _
    unfold fb_X3_partsThatKnow_74
    rw [if_neg (by rw [qi_le (by omega) (by omega)]; omega), eb]
    rcases (show b = 0 ∨ b = 1 by omega) with q | q
    · rw [q] at goal ⊢
      rw [if_pos (show Int32.ofNat 0 = (0 : Int32) from rfl)]
      exact goal
    · rw [q] at goal ⊢
      rw [if_neg (by decide)]
      exact goal
theorem x_parts {p c n k : Nat} {g : zSg} (hq : vQ C L) (hp : p < C.1) (hc : c < C.2.1) (hn : n ≤ 6) (hk : k ≤ 100) (h : vQX C L lw g) : qE SX g (f_X3_partsThatKnow 39 (Int32.ofNat p) (Int32.ofNat c) (Int32.ofNat n) (Int32.ofNat k) g) (Int32.ofNat (oTot C lw k p c n L 1000000000)) := by
  have hC := hq.1
  have hS := hC.2.1
  have hP := hC.1
  have hmk : (1 <<< c : Nat) < 64 := by rw [Nat.one_shiftLeft]; exact Nat.pow_lt_pow_right (by omega) (by omega : c < 6)
  have hbit : (1 <<< c : Nat).testBit c = true := by rw [q_bit1, decide_eq_true rfl]
  have a8 : (zK0 443).1 = 8 := rfl
  have b8 := zK0_431 (x := n) (by omega)
  obtain ⟨g1, ze1, hs1, hb1, f1⟩ := x_becB (a := 443) a8 (show (zK0 39).1 = 8 from rfl) (by omega) h.2.2.1 h.2.2.2
  have F1 : qF SX g g1 := f1.mono fun b k w => by unfold SX; omega
  have f2 : qF (fun a k => a = 433) g1 (gsI g1 433 0 (Int32.ofNat 1000000000)) := qF.rfl'.sI rfl
  have F2 : qF SX g (gsI g1 433 0 (Int32.ofNat 1000000000)) := F1.sI (by unfold SX; omega)
  have h2 := h.fr F2
  have hX : vXs 999 C lw 443 L (gsI g1 433 0 (Int32.ofNat 1000000000)) := ⟨hC, (by omega), a8, (by omega), hq.2.1.1, h2.1, h2.2.1, hs1.fr f2 (fun b k q1 q2 => by omega)⟩
  have hB : vBr 443 (1 <<< c) C L (gsI g1 433 0 (Int32.ofNat 1000000000)) := (hb1.sub (fun c' hc' _ => q_63 hc')).fr f2 (fun b k q1 q2 => by omega)
  have e0 : f_X8_pick 431 0 g = some (some 443, g) := x_pick431 (x := 0) (by omega)
  have en : f_X8_pick 431 (Int32.ofNat n) g = some (some (443 + 9 * n), g) := x_pick431 (by omega)
  have es : f_X7_set 432 0 1000000000 g1 = some ((), gsI g1 433 0 (Int32.ofNat 1000000000)) := q_set432 (j := 0) (by omega)
  have h26 : 2 ^ n ≤ 2 ^ 6 := Nat.pow_le_pow_right (by omega) hn
  have e2n : (1 : Int32) <<< (Int32.ofNat n &&& 31) = Int32.ofNat (2 ^ n) := by
    show Int32.ofNat 1 <<< (Int32.ofNat n &&& Int32.ofNat 31) = _
    rw [qi_shl (by omega), Nat.one_shiftLeft]
  unfold f_X3_partsThatKnow
  simp only [e0, en, zB, zNu, if_pos a8, if_pos b8, ze1, es]
  rw [← oTot_all]
  show qE SX g (f_X3_partsThatKnow_55 39 zFu (Int32.ofNat p) (Int32.ofNat c) (Int32.ofNat n) (Int32.ofNat k) (443 + 9 * n) (Int32.ofNat (mSum (oLf C lw L k p c n) 0)) (Int32.ofNat 0) (gsI g1 433 0 (Int32.ofNat 1000000000))) _
  refine q_loop (F := fun nn x g => f_X3_partsThatKnow_55 39 nn (Int32.ofNat p) (Int32.ofNat c) (Int32.ofNat n) (Int32.ofNat k) (443 + 9 * n) (Int32.ofNat (mSum (oLf C lw L k p c n) x)) (Int32.ofNat x) g) (N := 2 ^ n) (Inv := fun x g' => qF SX g g' ∧ ∀ f, f ≤ n → (0 < f → x % 2 ^ (n - f) ≠ 0) → oBh C lw L n k c x f g') (R := fun o => qE SX g o (Int32.ofNat (mSum (oLf C lw L k p c n) (2 ^ n)))) (by omega) ?_ ?_ (Nat.zero_le _) ⟨F2, fun f hf hf2 => ?_⟩
  · intro nn g' ⟨ff, _⟩
    show qE SX g (fb_X3_partsThatKnow_55 39 _ _ _ _ _ _ _ _ _) _
    unfold fb_X3_partsThatKnow_55
    rw [e2n, if_pos (by rw [qi_le (by omega) (by omega)]; omega)]
    exact ⟨g', rfl, ff⟩
  · intro nn x g' hx ⟨ff, hb⟩ ih
    obtain ⟨f, ⟨hf1, hf2⟩, hfe⟩ := x_fnew (x := x) (n := n) (s := 1) (Or.inl rfl) hn (by omega) (g := g')
    obtain ⟨g2, ze2, f3, hB2⟩ := x_path (b1 := 39) (k55 := f_X3_partsThatKnow_55 39 nn) (P := Int32.ofNat p) (Sm := Int32.ofNat (mSum (oLf C lw L k p c n) x)) (y7 := 443 + 9 * n) hq.2.1 hc hn (by omega) hk (by omega) (hb f (by omega) hf2)
    have F3 := ff.tr f3
    obtain ⟨w1, w2, w3⟩ := hB2 n (Nat.le_refl _)
    rw [Nat.sub_self, Nat.pow_zero, Nat.div_one] at w1 w2 w3
    have hnx : ∀ f', f' ≤ n → (0 < f' → (x + 1) % 2 ^ (n - f') ≠ 0) → oBh C lw L n k c (x + 1) f' g2 := fun f' q1 q2 e he => by
      by_cases q : e = 0
      · subst q
        exact hB2 0 (Nat.zero_le _)
      · rw [q_sdiv (Nat.pow_pos (by omega)) (q_dvd (show n - f' ≤ n - e by omega) (q2 (by omega)))]
        exact hB2 e (by omega)
    have := ih g2 ⟨F3, hnx⟩
    have ex : Int32.ofNat x + 1 = Int32.ofNat (x + 1) := qi_add x 1
    show qE SX g (fb_X3_partsThatKnow_55 39 _ _ _ _ _ _ _ _ _) _
    unfold fb_X3_partsThatKnow_55
    rw [e2n, if_neg (by rw [qi_le (by omega) (by omega)]; omega), show (1 : Int32) = Int32.ofNat 1 from rfl, hfe, qB_s, ze2]
    unfold f_X3_partsThatKnow_139 f_X3_partsThatKnow_163
    rw [x_knowsA b8 hC w2 hbit hp (by omega), qB_s, show (0 : Int32) = Int32.ofNat 0 from rfl]
    simp only [mB_0]
    have eS : mSum (oLf C lw L k p c n) (x + 1) = mSum (oLf C lw L k p c n) x + (if mKnows C (oRun C lw L n x) p c then oPrt k n x else 0) := rfl
    rw [eS] at this
    cases hkn : mKnows C (oRun C lw L n x) p c
    · rw [hkn, if_neg (by decide), Nat.add_zero] at this
      rw [if_pos rfl, ex]
      exact this
    · rw [hkn, if_pos rfl] at this
      rw [if_neg (by decide), q_get432 (by omega), qB_s, w3, ex, qi_add]
      exact this
  · have hf0 : f = 0 := by
      by_cases q : f = 0
      · exact q
      · exact absurd (Nat.zero_mod _) (hf2 (by omega))
    subst hf0
    intro e he
    obtain rfl : e = 0 := by omega
    exact ⟨hX, hB, qs_Ie⟩
theorem d_odds (hq : vQ C L) (x y z u : Int32) : ∃ v, (∀ g, vQX C L lw g → qE SX g (f_X11_odds x y z u g) v) ∧ (∀ g, vQM C L lw g → qE SY g (f_X12_odds x y z u g) v) := by
  have hC := hq.1
  have hS := hC.2.1
  have hP := hC.1
  by_cases q12 : mHas C.1 x ∧ mHas C.2.1 y
  · obtain ⟨⟨p, hp, rfl⟩, ⟨c, hc, rfl⟩⟩ := q12
    by_cases q3 : mHas 7 z
    · obtain ⟨n, hn, rfl⟩ := q3
      by_cases q4 : mHas 101 u
      · obtain ⟨k, hk, rfl⟩ := q4
        refine ⟨Int32.ofNat (oTot C lw k p c n L 1000000000), fun g hg => ?_, fun g hg => ?_⟩
        · obtain ⟨g2, ze, f2⟩ := x_parts (lw := lw) hq hp hc (show n ≤ 6 by omega) (show k ≤ 100 by omega) hg
          unfold f_X11_odds
          rw [x_hasBoth1 hg.1 hC hp hc, qB_s, if_neg (by decide)]
          simp (disch := omega) only [qi_lit, qi_lt, qi_le, if_neg (show ¬ n < 0 by omega), if_neg (show ¬ 6 < n by omega), if_neg (show ¬ k < 0 by omega), if_pos (show k ≤ 100 by omega)]
          rw [ze]
          exact ⟨g2, rfl, f2⟩
        · obtain ⟨g1, ze, f1, b1⟩ := m_oddsF (lw := lw) hC hp hc (show k ≤ 100 by omega) n 0 zDp 1000000000 L g (by omega) (by show _ < 24; omega) (Nat.le_refl _) hq.2.1 (hg.ms hq (by omega))
          unfold f_X12_odds
          rw [m_isPerson1 hg.1 hP hp, qB_s, if_neg (by decide), m_isSecret1 hg.1 hS hc, qB_s, if_neg (by decide), m_in1 (hi := 6) (n := 7) rfl hn (by omega), qB_s, if_neg (by decide), m_in1 (hi := 100) (n := 101) rfl hk (by omega), qB_s, if_pos (by decide), show (0 : Int32) = Int32.ofNat 0 from rfl, show (1000000000 : Int32) = Int32.ofNat 1000000000 from rfl, ze]
          exact ⟨g1, rfl, q_back (f1.mono fun a k w => by unfold sK at w; unfold SZ SY; omega) b1⟩
      · refine ⟨-1, fun g hg => ?_, fun g hg => ?_⟩
        · unfold f_X11_odds
          rw [x_hasBoth1 hg.1 hC hp hc, qB_s, if_neg (by decide)]
          by_cases t : u < 0
          · rw [if_pos t]; repeat' split
            all_goals exact qE_r
          · rw [if_neg t, if_neg (show ¬ u ≤ 100 from q_gt (n := 100) (by omega) q4 t)]; repeat' split
            all_goals exact qE_r
        · unfold f_X12_odds
          rw [m_isPerson1 hg.1 hP hp, qB_s, if_neg (by decide), m_isSecret1 hg.1 hS hc, qB_s, if_neg (by decide), m_in1 (hi := 6) (n := 7) rfl hn (by omega), qB_s, if_neg (by decide), m_in0 (hi := 100) (n := 101) rfl q4 (by omega)]
          exact qE_r
    · refine ⟨-1, fun g hg => ?_, fun g hg => ?_⟩
      · unfold f_X11_odds
        rw [x_hasBoth1 hg.1 hC hp hc, qB_s, if_neg (by decide)]
        by_cases t : z < 0
        · rw [if_pos t]; exact qE_r
        · rw [if_neg t, if_pos (show 6 < z from q_lt' (n := 6) (by omega) q3 t)]; exact qE_r
      · unfold f_X12_odds
        rw [m_isPerson1 hg.1 hP hp, qB_s, if_neg (by decide), m_isSecret1 hg.1 hS hc, qB_s, if_neg (by decide), m_in0 (hi := 6) (n := 7) rfl q3 (by omega)]
        exact qE_r
  · refine ⟨-1, fun g hg => ?_, fun g hg => ?_⟩
    · unfold f_X11_odds
      rw [x_hasBoth0 hg.1 hC q12]
      exact qE_r
    · unfold f_X12_odds
      by_cases q1 : mHas C.1 x
      · obtain ⟨p, hp, rfl⟩ := q1
        rw [m_isPerson1 hg.1 hP hp, qB_s, if_neg (by decide), m_isSecret0 hg.1 hS (fun w => q12 ⟨⟨p, hp, rfl⟩, w⟩)]
        exact qE_r
      · rw [m_isPerson0 hg.1 hP q1]
        exact qE_r
end Q17
