/-! ===== the class: KEPT: its rows ===== -/
/-- what stands behind the NIGHTS of a row -/
def vBh (C : mC) (lw : mLaw) (L : mL) (n c x d : Nat) (g : zSg) : Prop := ∀ e, e ≤ d → vXs (999 + e) C lw (443 + 9 * e) (mRun C lw L e (x / 4 ^ (n - e))) g ∧ vBr (443 + 9 * e) (1 <<< c) C (mRun C lw L e (x / 4 ^ (n - e))) g
theorem vBh.next {C : mC} {lw : mLaw} {L : mL} {n c x x' d f : Nat} {g : zSg} (h : vBh C lw L n c x d g) (hfd : f ≤ d) (he : ∀ e, 0 < e → e ≤ f → x' / 4 ^ (n - e) = x / 4 ^ (n - e)) : vBh C lw L n c x' f g := by
  intro e hef
  by_cases q : e = 0
  · subst q
    exact h 0 (Nat.zero_le _)
  · rw [he e (by omega) hef]
    exact h e (by omega)
theorem zK0_431 {x : Nat} (hx : x < 7) : (zK0 (443 + 9 * x)).1 = 8 := (by decide +kernel : ∀ k : Fin 7, (zK0 (443 + 9 * k.val)).1 = 8) ⟨x, hx⟩
def sQ (a b _k : Nat) : Prop := (a ≤ b ∧ b ≤ a + 8) ∨ b = 425 ∨ b = 21 ∨ b = 26 ∨ b = 31 ∨ b = 36 ∨ b = 427 ∨ b = 429
theorem sP_Q {a b k : Nat} (h : sP a b k) : sQ a b k := by unfold sP sN sW at h; unfold sQ; omega
theorem sQ_X {a b k : Nat} (ha : 434 ≤ a ∧ a ≤ 497) (h : sQ a b k) : SX b k := by unfold sQ at h; unfold SX; omega
theorem vXs.frQ {nb a a' : Nat} {C : mC} {lw : mLaw} {L : mL} {g g' : zSg} (h : vXs nb C lw a L g) (hf : qF (sQ a') g g') (h1 : 434 ≤ a) (h2 : a + 8 < a') : vXs nb C lw a L g' := by
  obtain ⟨q1, q2, q3, q4, q5, q6, q7, q8⟩ := h
  exact ⟨q1, q2, q3, q4, q5, q6.fr hf (fun k => by unfold sQ; omega) (fun k => by unfold sQ; omega), q7.fr hf (fun b k hb => by unfold sQ; omega), q8.fr hf (fun b k z1 z2 => by unfold sQ; omega)⟩
theorem vXs.wind {nb a w : Nat} {C : mC} {lw : mLaw} {L : mL} {g : zSg} (h : vXs nb C lw a L g) (hL : mLf nb C L) (hw : w < 4) : vXs nb C lw a (mLw L w) (gsI g a 6 (Int32.ofNat w)) := by
  have hA := zK0_A h.2.2.1
  have f : qF (fun b k => b = a ∧ k = 6) g (gsI g a 6 (Int32.ofNat w)) := qF.rfl'.sI ⟨rfl, rfl⟩
  obtain ⟨q1, q2, q3, q4, q5, q6, q7, s1, s2, s3, s4, s5, s6, s7, s8⟩ := h
  have hP := q1.1
  refine ⟨q1, q2, q3, q4, (mLw_lf q1 hw hL).1, q6.fr f (fun k => by omega) (fun k => by omega), q7.fr f (fun b k hb => by omega), fun p hp => ?_, fun c hc => ?_, ?_, ?_, ?_, ?_, ?_, ?_⟩
  · rw [qs_In (by omega), mLw_n (by omega)]; exact s1 p hp
  · rw [qs_In (by omega), mLw_n (by omega)]; exact s2 c hc
  · rw [qs_In (by omega), mLw_n (by omega)]; exact s3
  · rw [qs_In (by omega), mLw_n (by omega)]; exact s4
  · rw [qs_Ie]; rfl
  · rw [qs_In (by omega), mLw_n (by omega)]; exact s6
  · rw [qs_In (by omega), mLw_n (by omega)]; exact s7
  · rw [qs_In (by omega), mLw_n (by omega)]; exact s8
theorem mKnows_lw {C : mC} {L : mL} {p c w : Nat} (hp : p < 6) (hc : c < 6) : mKnows C (mLw L w) p c = mKnows C L p c := by
  unfold mKnows
  rw [mLw_n (by omega)]
theorem mKn_lw {C : mC} {L : mL} {c w : Nat} (hP : C.1 ≤ 6) (hc : c < 6) : mKn C (mLw L w) c = mKn C L c := mBits_ext fun p hp => mKnows_lw (by omega) hc
theorem vBr.wind {a mk w : Nat} {C : mC} {L : mL} {g : zSg} (hP : C.1 ≤ 6) (h : vBr a mk C L g) : vBr a mk C (mLw L w) (gsI g a 6 (Int32.ofNat w)) := fun c hc hm => ⟨by rw [qs_In (by omega), mKn_lw hP hc]; exact (h c hc hm).1, fun p hp => by rw [qs_In (by omega), mLw_n (by omega)]; exact (h c hc hm).2 p hp⟩
section Q13
variable {C : mC} {L : mL} {lw : mLaw}
theorem x_ptk {n c who x f : Nat} {g : zSg} (hL : mLf 999 C L) (hc : c < C.2.1) (hwho : who < 64) (hn : n ≤ 6) (hx : x < 10000) (hf : f ≤ n) (h : vBh C lw L n c x f g) : ∃ v g', f_X3_passTillKnown_8 zFu (Int32.ofNat x) (Int32.ofNat n) (Int32.ofNat c) (Int32.ofNat who) (Int32.ofNat f) g = some (Int32.ofNat v, g') ∧ qF SX g g' ∧ ((v = n + 1 ∧ vBh C lw L n c x n g' ∧ (f < n → mKn C (mRun C lw L n x) c &&& who = 0)) ∨ ∃ d, d < n ∧ v = d + 1 ∧ vBh C lw L n c x (d + 1) g' ∧ mKn C (mRun C lw L (d + 1) (x / 4 ^ (n - (d + 1)))) c &&& who ≠ 0) := by
  have hC := (h 0 (Nat.zero_le _)).1.1
  have hS := hC.2.1
  have hP := hC.1
  have hmk : (1 <<< c : Nat) < 64 := by rw [Nat.one_shiftLeft]; exact Nat.pow_lt_pow_right (by omega) (by omega : c < 6)
  have hbit : (1 <<< c : Nat).testBit c = true := by rw [q_bit1, decide_eq_true rfl]
  refine q_loop (F := fun nn d g => f_X3_passTillKnown_8 nn (Int32.ofNat x) (Int32.ofNat n) (Int32.ofNat c) (Int32.ofNat who) (Int32.ofNat d) g) (N := n) (Inv := fun d g' => vBh C lw L n c x d g' ∧ qF SX g g' ∧ (f < d → mKn C (mRun C lw L d (x / 4 ^ (n - d))) c &&& who = 0)) (R := fun o => ∃ v g', o = some (Int32.ofNat v, g') ∧ qF SX g g' ∧ ((v = n + 1 ∧ vBh C lw L n c x n g' ∧ (f < n → mKn C (mRun C lw L n x) c &&& who = 0)) ∨ ∃ d, d < n ∧ v = d + 1 ∧ vBh C lw L n c x (d + 1) g' ∧ mKn C (mRun C lw L (d + 1) (x / 4 ^ (n - (d + 1)))) c &&& who ≠ 0)) (by omega) ?_ ?_ hf ⟨h, qF.rfl', fun w => by omega⟩
  · intro nn g' ⟨h', ff, hk⟩
    rw [Nat.sub_self, Nat.pow_zero, Nat.div_one] at hk
    refine ⟨n + 1, g', ?_, ff, Or.inl ⟨rfl, h', hk⟩⟩
    show fb_X3_passTillKnown_8 _ _ _ _ _ _ _ = _
    unfold fb_X3_passTillKnown_8 f_X3_passTillKnown_114
    simp (disch := omega) only [qi_lit, qi_le, if_pos (Nat.le_refl n), qi_add]
  · intro nn d g' hd ⟨h', ff, _⟩ ih
    obtain ⟨hx1, hb1⟩ := h' d (Nat.le_refl _)
    have hLd := mRun_lf (lw := lw) hC hL d (x / 4 ^ (n - d))
    have a8 := zK0_431 (x := d) (by omega)
    have b8 := zK0_431 (x := d + 1) (by omega)
    obtain ⟨g1, ze1, hs1, hbr1, f1⟩ := x_becB (g := g') b8 a8 (by omega) hx1.2.2.2.2.2.2.2 hb1
    have F1 : qF (sQ (443 + 9 * (d + 1))) g' g1 := f1.mono fun b k w => Or.inl w
    have hX1 : vXs (999 + d) C lw (443 + 9 * (d + 1)) (mRun C lw L d (x / 4 ^ (n - d))) g1 := ⟨hC, hx1.2.1, b8, by omega, hLd.1, hx1.2.2.2.2.2.1.fr F1 (fun k => by unfold sQ; omega) (fun k => by unfold sQ; omega), hx1.2.2.2.2.2.2.1.fr F1 (fun b k hb => by unfold sQ; omega), hs1⟩
    obtain ⟨w, hw⟩ : ∃ w, w = x / 4 ^ (n - (d + 1)) % 4 := ⟨_, rfl⟩
    have hw4 : w < 4 := by omega
    have ew : (Int32.ofNat x >>> (Int32.ofNat (2 * (n - 1 - d)) &&& Int32.ofNat 31)) &&& Int32.ofNat 3 = Int32.ofNat w := by
      rw [qi_shr (by omega) (by omega), qi_and, show (3 : Nat) = 2 ^ 2 - 1 from rfl, Nat.and_two_pow_sub_one_eq_mod, Nat.shiftRight_eq_div_pow, Nat.pow_mul, hw, show n - 1 - d = n - (d + 1) by omega]
    obtain ⟨v, g3, ze3, h3, hb3, f3, -⟩ := x_pass (mk := 1 <<< c) hmk (by omega) (mLw_lf hC hw4 hLd) (hX1.wind hLd hw4) (hbr1.wind hP)
    have er : mNight C lw (mLw (mRun C lw L d (x / 4 ^ (n - d))) w) = mRun C lw L (d + 1) (x / 4 ^ (n - (d + 1))) := by
      show _ = mNight C lw (mLw (mRun C lw L d (x / 4 ^ (n - (d + 1)) / 4)) (x / 4 ^ (n - (d + 1)) % 4))
      rw [← q_d4, show n - (d + 1) + 1 = n - d by omega, hw]
    rw [er] at h3 hb3
    have F3 : qF (sQ (443 + 9 * (d + 1))) g' g3 := (F1.sI (by unfold sQ; omega)).tr (f3.mono fun b k w => sP_Q w)
    have F : qF SX g g3 := ff.tr (F3.mono fun b k w => sQ_X (by omega) w)
    have hB : vBh C lw L n c x (d + 1) g3 := by
      intro e he
      by_cases q : e = d + 1
      · subst q; exact ⟨h3, hb3⟩
      · obtain ⟨y1, y2⟩ := h' e (by omega)
        exact ⟨y1.frQ F3 (by omega) (by omega), y2.fr F3 (fun b k z1 z2 => by unfold sQ; omega)⟩
    show ∃ v g', fb_X3_passTillKnown_8 _ _ _ _ _ _ _ = _ ∧ _
    unfold fb_X3_passTillKnown_8 f_X3_passTillKnown_103
    simp (disch := omega) only [qi_lit, qi_le, if_neg (show ¬ n ≤ d by omega), qi_add, qi_sub, qi_mul, x_pick431, zB, ew]
    have hkr := (hb3 c (by omega) hbit).1
    have hand : mKn C (mRun C lw L (d + 1) (x / 4 ^ (n - (d + 1)))) c &&& who < 64 := Nat.lt_of_le_of_lt Nat.and_le_right hwho
    simp (disch := omega) only [zNu, if_pos a8, if_pos b8, ze1, qi_shl, ze3, q_gS5 b8, hkr]
    simp (disch := omega) only [qi_and, qi_inj]
    by_cases q : mKn C (mRun C lw L (d + 1) (x / 4 ^ (n - (d + 1)))) c &&& who = 0
    · rw [if_pos q]
      exact ih g3 ⟨hB, F, fun _ => q⟩
    · rw [if_neg q]
      exact ⟨d + 1, g3, rfl, F, Or.inr ⟨d, hd, rfl, hB, q⟩⟩
end Q13
