/-! ===== the law's loop ===== -/
def mW0 : mWd := ((0, fun _ => 0), (0, 0, fun _ => 0), (fun _ => 0, fun _ => 0, [], none, fun _ => 0), 0, (fun _ _ _ _ _ _ _ => 0), none, 5, (0, fun _ => 0, fun _ => 0, fun _ => false))
theorem mW0_ok : mWok mW0 := by
  refine ⟨⟨Nat.zero_le _, fun i hi => absurd hi (Nat.not_lt_zero _)⟩, ⟨Nat.zero_le _, Nat.zero_le _, Nat.zero_le _, Nat.zero_le _, fun k _ => Nat.zero_le _, fun _ => ⟨rfl, rfl, fun k _ => rfl⟩, fun h => absurd h (Nat.not_lt_zero _)⟩, ⟨⟨⟨fun p hp => absurd hp (Nat.not_lt_zero _), fun i _ _ => Nat.zero_le _, fun c _ => Nat.zero_le _, (by decide : 0 < 64), (by decide : 0 < 64), (by decide : 0 < 4), Nat.zero_le _, Nat.zero_le _, Nat.zero_le _⟩, fun c _ _ => ⟨rfl, Nat.zero_testBit c, Nat.zero_testBit c⟩, fun c hc => absurd hc (Nat.not_lt_zero _)⟩, fun p c _ _ _ => rfl, trivial, fun q hq => (by cases hq), Nat.zero_le _, fun L n E e => (by cases e)⟩, ⟨Nat.zero_le _, fun i hi => absurd hi (Nat.not_lt_zero _), fun m e => (by cases e)⟩, ⟨Nat.zero_le _, fun i hi => absurd hi (Nat.not_lt_zero _)⟩⟩
theorem mTold0 {i : Nat} : mTold (0, 0, fun _ => 0) i = 0 := by
  unfold mTold
  by_cases h : i < 6
  · rw [if_pos h, if_neg (Nat.not_lt_zero _)]
  · rw [if_neg h]
    repeat' split
    all_goals rfl
theorem vW0_X : vWX mW0 g0 := by
  refine ⟨⟨rfl, fun i hi => absurd hi (Nat.not_lt_zero _)⟩, ⟨⟨rfl, rfl, rfl, fun k _ => rfl⟩, ⟨⟨⟨fun p _ => rfl, fun c _ => rfl, rfl, rfl, rfl, rfl, rfl, rfl⟩, fun c _ _ => ⟨rfl, fun p _ => rfl⟩, rfl⟩, fun j k q1 _ _ => absurd q1 (Nat.not_lt_zero _), ⟨0, (by decide : 0 < 40), rfl, trivial⟩, rfl, Nat.zero_le _, rfl⟩, fun j _ => rfl⟩, ⟨rfl, fun i hi => absurd hi (Nat.not_lt_zero _), rfl, rfl⟩, rfl, ⟨rfl, fun i hi => absurd hi (Nat.not_lt_zero _), ?_⟩⟩
  refine ⟨fun p _ => ?_, fun c _ => ?_, ?_, ?_, ?_, ?_, ?_, ?_⟩
  all_goals
    show _ = Int32.ofNat (mTold (0, 0, fun _ => 0) _)
    rw [mTold0]
    rfl
theorem vW0_M : vWM mW0 g0 :=
  ⟨⟨rfl, fun i hi => absurd hi (Nat.not_lt_zero _)⟩, ⟨⟨fun k _ => rfl, fun p k hp => absurd hp (Nat.not_lt_zero _), fun c k hc => absurd hc (Nat.not_lt_zero _), rfl, rfl, rfl⟩, ⟨fun i _ => rfl, rfl, fun j k q1 _ _ => absurd q1 (Nat.not_lt_zero _)⟩, rfl, trivial, rfl, fun j _ => rfl⟩, ⟨rfl, fun i hi => absurd hi (Nat.not_lt_zero _), rfl⟩, rfl, ⟨rfl, fun i hi => absurd hi (Nat.not_lt_zero _)⟩⟩
theorem vLp0 : vLp 0 g0 := ⟨mW0, mW0_ok, vW0_X, vW0_M, Nat.le_refl _, Nat.le_refl _⟩
theorem w_step {sc : zSc} {k m : Nat} {g : zSg} (hk : 6 * k + 6 ≤ sc.1) (hn : sc.1 ≤ 3072) (hg : vLp k g) : ∃ g1, vLp (k + 1) g1 ∧ f_L_law_23 sc (m + 1) (Int32.ofNat (6 * k)) g = f_L_law_23 sc m (Int32.ofNat (6 * (k + 1))) g1 := by
  have z0 : zib (Int32.ofNat (6 * k)) sc.1 = true := qi_zib (by omega) (by omega)
  have z1 : zib (Int32.ofNat (6 * k) + 1) sc.1 = true := by rw [show Int32.ofNat (6 * k) + 1 = Int32.ofNat (6 * k + 1) from qi_add _ 1]; exact qi_zib (by omega) (by omega)
  have z2 : zib (Int32.ofNat (6 * k) + 2) sc.1 = true := by rw [show Int32.ofNat (6 * k) + 2 = Int32.ofNat (6 * k + 2) from qi_add _ 2]; exact qi_zib (by omega) (by omega)
  have z3 : zib (Int32.ofNat (6 * k) + 3) sc.1 = true := by rw [show Int32.ofNat (6 * k) + 3 = Int32.ofNat (6 * k + 3) from qi_add _ 3]; exact qi_zib (by omega) (by omega)
  have z4 : zib (Int32.ofNat (6 * k) + 4) sc.1 = true := by rw [show Int32.ofNat (6 * k) + 4 = Int32.ofNat (6 * k + 4) from qi_add _ 4]; exact qi_zib (by omega) (by omega)
  have z5 : zib (Int32.ofNat (6 * k) + 5) sc.1 = true := by rw [show Int32.ofNat (6 * k) + 5 = Int32.ofNat (6 * k + 5) from qi_add _ 5]; exact qi_zib (by omega) (by omega)
  have hend : ¬ (Int32.ofNat sc.1 - 6 < Int32.ofNat (6 * k)) := by
    rw [show Int32.ofNat sc.1 - 6 = Int32.ofNat (sc.1 - 6) from qi_sub (a := sc.1) (b := 6) (by omega), qi_lt (by omega) (by omega)]
    omega
  have fin : ∀ g2, f_L_law_1566 sc (f_L_law_23 sc m) (Int32.ofNat (6 * k)) g2 = f_L_law_23 sc m (Int32.ofNat (6 * (k + 1))) g2 := fun g2 => by
    show f_L_law_23 sc m (Int32.ofNat (6 * k) + 6) g2 = _
    rw [show Int32.ofNat (6 * k) + 6 = Int32.ofNat (6 * (k + 1)) from qi_add (6 * k) 6]
  show ∃ g1, vLp (k + 1) g1 ∧ fb_L_law_23 sc (f_L_law_23 sc m) (Int32.ofNat (6 * k)) g = _
  unfold fb_L_law_23
  rw [if_neg hend, if_pos z0]
  by_cases h0 : (sc.2 (ix (Int32.ofNat (6 * k)))) &&& 63 = 0
  · obtain ⟨v, g1, g2, ze1, ze2, hv2⟩ := hg.call (c_feed (sc.2 (ix (Int32.ofNat (6 * k) + 1))) (sc.2 (ix (Int32.ofNat (6 * k) + 2))) (sc.2 (ix (Int32.ofNat (6 * k) + 3))) (sc.2 (ix (Int32.ofNat (6 * k) + 4))) (sc.2 (ix (Int32.ofNat (6 * k) + 5))))
    refine ⟨g2, hv2.up, ?_⟩
    rw [if_pos h0, if_pos z1, if_pos z2, if_pos z3, if_pos z4, if_pos z5, ze1, qB_s, if_pos z1, if_pos z2, if_pos z3, if_pos z4, if_pos z5, ze2, qB_s, if_pos rfl]
    exact fin g2
  rw [if_neg h0]
  by_cases h1 : (sc.2 (ix (Int32.ofNat (6 * k)))) &&& 63 = 1
  · obtain ⟨v, g1, g2, ze1, ze2, hv2⟩ := hg.call (c_end (sc.2 (ix (Int32.ofNat (6 * k) + 1))))
    refine ⟨g2, hv2.up, ?_⟩
    rw [if_pos h1, if_pos z1, ze1, qB_s, if_pos z1, ze2, qB_s, if_pos rfl]
    exact fin g2
  rw [if_neg h1]
  by_cases h2 : (sc.2 (ix (Int32.ofNat (6 * k)))) &&& 63 = 2
  · obtain ⟨v, g1, g2, ze1, ze2, hv2⟩ := hg.call (c_fault (sc.2 (ix (Int32.ofNat (6 * k) + 1))))
    refine ⟨g2, hv2.up, ?_⟩
    rw [if_pos h2, if_pos z1, ze1, qB_s, if_pos z1, ze2, qB_s, if_pos rfl]
    exact fin g2
  rw [if_neg h2]
  by_cases h3 : (sc.2 (ix (Int32.ofNat (6 * k)))) &&& 63 = 3
  · obtain ⟨v, g1, g2, ze1, ze2, hv2⟩ := hg.call (c_text (sc.2 (ix (Int32.ofNat (6 * k) + 1))))
    refine ⟨g2, hv2.up, ?_⟩
    rw [if_pos h3, if_pos z1, ze1, qB_s, if_pos z1, ze2, qB_s, if_pos rfl]
    exact fin g2
  rw [if_neg h3]
  by_cases h4 : (sc.2 (ix (Int32.ofNat (6 * k)))) &&& 63 = 4
  · obtain ⟨v, g1, g2, ze1, ze2, hv2⟩ := hg.call (c_rule (sc.2 (ix (Int32.ofNat (6 * k) + 1))))
    refine ⟨g2, hv2.up, ?_⟩
    rw [if_pos h4, if_pos z1, ze1, qB_s, if_pos z1, ze2, qB_s, if_pos rfl]
    exact fin g2
  rw [if_neg h4]
  by_cases h5 : (sc.2 (ix (Int32.ofNat (6 * k)))) &&& 63 = 5
  · obtain ⟨W, ok, w1, w2, w3, w4⟩ := hg
    obtain ⟨t, v, hx, hm⟩ := c_person (sc.2 (ix (Int32.ofNat (6 * k) + 1))) (sc.2 (ix (Int32.ofNat (6 * k) + 2))) W ok
    obtain ⟨ga, za, pa, ea, ha, na, na2⟩ := hx g w1
    have wa : vWX W ga := w1.cg ea ha
    have wm : vWM W ga := w2.cg ea
    obtain ⟨gb, zb, pb, fb⟩ := hm ga wm
    have wb : vWX W gb := wa.fr ok.2.2.2.1.1 fb (fun a k w => by unfold sWX at w; omega)
    have wmb : vWM W gb := wm.fr fb (fun a k w => by unfold sWM at w; omega)
    have zt : f_X12_thrown gb = some (mB t, gb) := by
      unfold f_X12_thrown
      rw [show gI gb 526 0 = mB t from pb]
    refine ⟨gb, ⟨W, ok, wb, wmb, by rw [fb.1]; omega, by rw [fb.1]; omega⟩, ?_⟩
    rw [if_pos h5, if_pos z1, if_pos z2, za, qB_s, if_pos z1, if_pos z2, zb, qB_s, zt, qB_s, if_pos rfl]
    cases t with
    | true =>
      rw [if_pos (by decide)]
      exact fin gb
    | false =>
      have el : gJ gb 553 0 = v.toInt64 := (fb.2.2.1 553 0 (fun w => by have := w.1.1; omega)).trans (pa rfl)
      rw [if_neg (show ¬ ¬ mB false = 0 from fun w => w rfl), el, if_neg (show ¬ false = true by decide), lg_cmp_id, if_pos rfl]
      exact fin gb
  rw [if_neg h5]
  by_cases h6 : (sc.2 (ix (Int32.ofNat (6 * k)))) &&& 63 = 6
  · obtain ⟨v, g1, g2, ze1, ze2, hv2⟩ := hg.call (c_secret (sc.2 (ix (Int32.ofNat (6 * k) + 1))) (sc.2 (ix (Int32.ofNat (6 * k) + 2))))
    refine ⟨g2, hv2.up, ?_⟩
    rw [if_pos h6, if_pos z1, if_pos z2, ze1, qB_s, if_pos z1, if_pos z2, ze2, qB_s, if_pos rfl]
    exact fin g2
  rw [if_neg h6]
  by_cases h7 : (sc.2 (ix (Int32.ofNat (6 * k)))) &&& 63 = 7
  · obtain ⟨v, g1, g2, ze1, ze2, hv2⟩ := hg.call (c_breath (sc.2 (ix (Int32.ofNat (6 * k) + 1))) (sc.2 (ix (Int32.ofNat (6 * k) + 2))))
    refine ⟨g2, hv2.up, ?_⟩
    rw [if_pos h7, if_pos z1, if_pos z2, ze1, qB_s, if_pos z1, if_pos z2, ze2, qB_s, if_pos rfl]
    exact fin g2
  rw [if_neg h7]
  by_cases h8 : (sc.2 (ix (Int32.ofNat (6 * k)))) &&& 63 = 8
  · obtain ⟨v, g1, g2, ze1, ze2, hv2⟩ := hg.call (c_law (sc.2 (ix (Int32.ofNat (6 * k) + 1))))
    refine ⟨g2, hv2.up, ?_⟩
    rw [if_pos h8, if_pos z1, ze1, qB_s, if_pos z1, ze2, qB_s, if_pos rfl]
    exact fin g2
  rw [if_neg h8]
  by_cases h9 : (sc.2 (ix (Int32.ofNat (6 * k)))) &&& 63 = 9
  · obtain ⟨v, g1, g2, ze1, ze2, hv2⟩ := hg.call (c_nights (sc.2 (ix (Int32.ofNat (6 * k) + 1))))
    refine ⟨g2, hv2.up, ?_⟩
    rw [if_pos h9, if_pos z1, ze1, qB_s, if_pos z1, ze2, qB_s, if_pos rfl]
    exact fin g2
  rw [if_neg h9]
  by_cases h10 : (sc.2 (ix (Int32.ofNat (6 * k)))) &&& 63 = 10
  · obtain ⟨v, g1, g2, ze1, ze2, hv2⟩ := hg.call (c_hang (sc.2 (ix (Int32.ofNat (6 * k) + 1))))
    refine ⟨g2, hv2.up, ?_⟩
    rw [if_pos h10, if_pos z1, ze1, qB_s, if_pos z1, ze2, qB_s, if_pos rfl]
    exact fin g2
  rw [if_neg h10]
  by_cases h11 : (sc.2 (ix (Int32.ofNat (6 * k)))) &&& 63 = 11
  · obtain ⟨v, g1, g2, ze1, ze2, hv2⟩ := hg.call (c_veers (sc.2 (ix (Int32.ofNat (6 * k) + 1))))
    refine ⟨g2, hv2.up, ?_⟩
    rw [if_pos h11, if_pos z1, ze1, qB_s, if_pos z1, ze2, qB_s, if_pos rfl]
    exact fin g2
  rw [if_neg h11]
  by_cases h12 : (sc.2 (ix (Int32.ofNat (6 * k)))) &&& 63 = 12
  · obtain ⟨v, g1, g2, ze1, ze2, hv2⟩ := hg.call (c_moves (sc.2 (ix (Int32.ofNat (6 * k) + 1))) (sc.2 (ix (Int32.ofNat (6 * k) + 2))))
    refine ⟨g2, hv2.up, ?_⟩
    rw [if_pos h12, if_pos z1, if_pos z2, ze1, qB_s, if_pos z1, if_pos z2, ze2, qB_s, if_pos rfl]
    exact fin g2
  rw [if_neg h12]
  by_cases h13 : (sc.2 (ix (Int32.ofNat (6 * k)))) &&& 63 = 13
  · obtain ⟨v, g1, g2, ze1, ze2, hv2⟩ := hg.call (c_oak (sc.2 (ix (Int32.ofNat (6 * k) + 1))))
    refine ⟨g2, hv2.up, ?_⟩
    rw [if_pos h13, if_pos z1, ze1, qB_s, if_pos z1, ze2, qB_s, if_pos rfl]
    exact fin g2
  rw [if_neg h13]
  by_cases h14 : (sc.2 (ix (Int32.ofNat (6 * k)))) &&& 63 = 14
  · obtain ⟨v, g1, g2, ze1, ze2, hv2⟩ := hg.call (c_give (sc.2 (ix (Int32.ofNat (6 * k) + 1))))
    refine ⟨g2, hv2.up, ?_⟩
    rw [if_pos h14, if_pos z1, ze1, qB_s, if_pos z1, ze2, qB_s, if_pos rfl]
    exact fin g2
  rw [if_neg h14]
  by_cases h15 : (sc.2 (ix (Int32.ofNat (6 * k)))) &&& 63 = 15
  · obtain ⟨v, g1, g2, ze1, ze2, hv2⟩ := hg.call (c_gusts (sc.2 (ix (Int32.ofNat (6 * k) + 1))))
    refine ⟨g2, hv2.up, ?_⟩
    rw [if_pos h15, if_pos z1, ze1, qB_s, if_pos z1, ze2, qB_s, if_pos rfl]
    exact fin g2
  rw [if_neg h15]
  by_cases h16 : (sc.2 (ix (Int32.ofNat (6 * k)))) &&& 63 = 16
  · obtain ⟨v, g1, g2, ze1, ze2, hv2⟩ := hg.call (c_years (sc.2 (ix (Int32.ofNat (6 * k) + 1))) ((lshl ((sc.2 (ix (Int32.ofNat (6 * k) + 2)))).toInt64 32) ||| (((sc.2 (ix (Int32.ofNat (6 * k) + 3)))).toInt64 &&& 4294967295)))
    refine ⟨g2, hv2.up, ?_⟩
    rw [if_pos h16, if_pos z1, if_pos z2, if_pos z3, ze1, qB_s, if_pos z1, if_pos z2, if_pos z3, ze2, qB_s, if_pos rfl]
    exact fin g2
  rw [if_neg h16]
  by_cases h17 : (sc.2 (ix (Int32.ofNat (6 * k)))) &&& 63 = 17
  · obtain ⟨v, g1, g2, ze1, ze2, hv2⟩ := hg.call (c_status (sc.2 (ix (Int32.ofNat (6 * k) + 1))))
    refine ⟨g2, hv2.up, ?_⟩
    rw [if_pos h17, if_pos z1, ze1, qB_s, if_pos z1, ze2, qB_s, if_pos rfl]
    exact fin g2
  rw [if_neg h17]
  by_cases h18 : (sc.2 (ix (Int32.ofNat (6 * k)))) &&& 63 = 18
  · obtain ⟨v, g1, g2, ze1, ze2, hv2⟩ := hg.call c_undo
    refine ⟨g2, hv2.up, ?_⟩
    rw [if_pos h18, ze1, qB_s, ze2, qB_s, if_pos rfl]
    exact fin g2
  rw [if_neg h18]
  by_cases h19 : (sc.2 (ix (Int32.ofNat (6 * k)))) &&& 63 = 19
  · obtain ⟨v, g1, g2, ze1, ze2, hv2⟩ := hg.call (c_log (sc.2 (ix (Int32.ofNat (6 * k) + 1))) (sc.2 (ix (Int32.ofNat (6 * k) + 2))))
    refine ⟨g2, hv2.up, ?_⟩
    rw [if_pos h19, if_pos z1, if_pos z2, ze1, qB_s, if_pos z1, if_pos z2, ze2, qB_s, if_pos rfl]
    exact fin g2
  rw [if_neg h19]
  by_cases h20 : (sc.2 (ix (Int32.ofNat (6 * k)))) &&& 63 = 20
  · obtain ⟨v, g1, g2, ze1, ze2, hv2⟩ := hg.call (c_strength (sc.2 (ix (Int32.ofNat (6 * k) + 1))) (sc.2 (ix (Int32.ofNat (6 * k) + 2))))
    refine ⟨g2, hv2.up, ?_⟩
    rw [if_pos h20, if_pos z1, if_pos z2, ze1, qB_s, if_pos z1, if_pos z2, ze2, qB_s, if_pos rfl]
    exact fin g2
  rw [if_neg h20]
  by_cases h21 : (sc.2 (ix (Int32.ofNat (6 * k)))) &&& 63 = 21
  · obtain ⟨v, g1, g2, ze1, ze2, hv2⟩ := hg.call (c_smells (sc.2 (ix (Int32.ofNat (6 * k) + 1))))
    refine ⟨g2, hv2.up, ?_⟩
    rw [if_pos h21, if_pos z1, ze1, qB_s, if_pos z1, ze2, qB_s, if_pos rfl]
    exact fin g2
  rw [if_neg h21]
  by_cases h22 : (sc.2 (ix (Int32.ofNat (6 * k)))) &&& 63 = 22
  · obtain ⟨v, g1, g2, ze1, ze2, hv2⟩ := hg.call (c_air (sc.2 (ix (Int32.ofNat (6 * k) + 1))))
    refine ⟨g2, hv2.up, ?_⟩
    rw [if_pos h22, if_pos z1, ze1, qB_s, if_pos z1, ze2, qB_s, if_pos rfl]
    exact fin g2
  rw [if_neg h22]
  by_cases h23 : (sc.2 (ix (Int32.ofNat (6 * k)))) &&& 63 = 23
  · obtain ⟨v, g1, g2, ze1, ze2, hv2⟩ := hg.call (c_soon (sc.2 (ix (Int32.ofNat (6 * k) + 1))) (sc.2 (ix (Int32.ofNat (6 * k) + 2))))
    refine ⟨g2, hv2.up, ?_⟩
    rw [if_pos h23, if_pos z1, if_pos z2, ze1, qB_s, if_pos z1, if_pos z2, ze2, qB_s, if_pos rfl]
    exact fin g2
  rw [if_neg h23]
  by_cases h24 : (sc.2 (ix (Int32.ofNat (6 * k)))) &&& 63 = 24
  · obtain ⟨v, g1, g2, ze1, ze2, hv2⟩ := hg.call (c_ready (sc.2 (ix (Int32.ofNat (6 * k) + 1))))
    refine ⟨g2, hv2.up, ?_⟩
    rw [if_pos h24, if_pos z1, ze1, qB_s, if_pos z1, ze2, qB_s, if_pos rfl]
    exact fin g2
  rw [if_neg h24]
  by_cases h25 : (sc.2 (ix (Int32.ofNat (6 * k)))) &&& 63 = 25
  · obtain ⟨v, g1, g2, ze1, ze2, hv2⟩ := hg.call (c_kept (sc.2 (ix (Int32.ofNat (6 * k) + 1))) (sc.2 (ix (Int32.ofNat (6 * k) + 2))) (sc.2 (ix (Int32.ofNat (6 * k) + 3))))
    refine ⟨g2, hv2.up, ?_⟩
    rw [if_pos h25, if_pos z1, if_pos z2, if_pos z3, ze1, qB_s, if_pos z1, if_pos z2, if_pos z3, ze2, qB_s, if_pos rfl]
    exact fin g2
  rw [if_neg h25]
  by_cases h26 : (sc.2 (ix (Int32.ofNat (6 * k)))) &&& 63 = 26
  · have key : ∀ b : Bool, (((sc.2 (ix (Int32.ofNat (6 * k) + 3))) = 0) = (b = false)) → ∃ g1, vLp (k + 1) g1 ∧ f_L_law_1108 sc (f_L_law_23 sc m) (Int32.ofNat (6 * k)) (mB b) (sc.2 (ix (Int32.ofNat (6 * k) + 2))) (sc.2 (ix (Int32.ofNat (6 * k) + 1))) g = f_L_law_23 sc m (Int32.ofNat (6 * (k + 1))) g1 := fun b hb => by
      obtain ⟨v, g1, g2, ze1, ze2, hv2⟩ := hg.call (c_noted (sc.2 (ix (Int32.ofNat (6 * k) + 1))) (sc.2 (ix (Int32.ofNat (6 * k) + 2))) b)
      refine ⟨g2, hv2.up, ?_⟩
      unfold f_L_law_1108
      rw [ze1, qB_s, if_pos z1, if_pos z2, if_pos z3]
      cases b with
      | false =>
        rw [if_pos (hb.mpr rfl)]
        unfold f_L_law_1138
        rw [show f_X12_noted (sc.2 (ix (Int32.ofNat (6 * k) + 1))) (sc.2 (ix (Int32.ofNat (6 * k) + 2))) 0 g1 = some (v, g2) from ze2, qB_s, if_pos rfl]
        exact fin g2
      | true =>
        rw [if_neg (fun w => by cases hb.mp w)]
        unfold f_L_law_1138
        rw [show f_X12_noted (sc.2 (ix (Int32.ofNat (6 * k) + 1))) (sc.2 (ix (Int32.ofNat (6 * k) + 2))) 1 g1 = some (v, g2) from ze2, qB_s, if_pos rfl]
        exact fin g2
    rw [if_pos h26, if_pos z1, if_pos z2, if_pos z3]
    by_cases q : (sc.2 (ix (Int32.ofNat (6 * k) + 3))) = 0
    · rw [if_pos q]
      exact key false (propext ⟨fun _ => rfl, fun _ => q⟩)
    · rw [if_neg q]
      exact key true (propext ⟨fun w => absurd w q, fun w => (by cases w)⟩)
  rw [if_neg h26]
  by_cases h27 : (sc.2 (ix (Int32.ofNat (6 * k)))) &&& 63 = 27
  · obtain ⟨v, g1, g2, ze1, ze2, hv2⟩ := hg.call (c_heavies (sc.2 (ix (Int32.ofNat (6 * k) + 1))) (sc.2 (ix (Int32.ofNat (6 * k) + 2))))
    refine ⟨g2, hv2.up, ?_⟩
    rw [if_pos h27, if_pos z1, if_pos z2, ze1, qB_s, if_pos z1, if_pos z2, ze2, qB_s, if_pos rfl]
    exact fin g2
  rw [if_neg h27]
  by_cases h28 : (sc.2 (ix (Int32.ofNat (6 * k)))) &&& 63 = 28
  · obtain ⟨v, g1, g2, ze1, ze2, hv2⟩ := hg.call (c_ask (sc.2 (ix (Int32.ofNat (6 * k) + 1))))
    refine ⟨g2, hv2.up, ?_⟩
    rw [if_pos h28, if_pos z1, ze1, qB_s, if_pos z1, ze2, qB_s, if_pos rfl]
    exact fin g2
  rw [if_neg h28]
  by_cases h29 : (sc.2 (ix (Int32.ofNat (6 * k)))) &&& 63 = 29
  · obtain ⟨v, g1, g2, ze1, ze2, hv2⟩ := hg.call (c_worthwhile (sc.2 (ix (Int32.ofNat (6 * k) + 1))))
    refine ⟨g2, hv2.up, ?_⟩
    rw [if_pos h29, if_pos z1, ze1, qB_s, if_pos z1, ze2, qB_s, if_pos rfl]
    exact fin g2
  rw [if_neg h29]
  by_cases h30 : (sc.2 (ix (Int32.ofNat (6 * k)))) &&& 63 = 30
  · obtain ⟨v, g1, g2, ze1, ze2, hv2⟩ := hg.call (c_out (sc.2 (ix (Int32.ofNat (6 * k) + 1))) (sc.2 (ix (Int32.ofNat (6 * k) + 2))))
    refine ⟨g2, hv2.up, ?_⟩
    rw [if_pos h30, if_pos z1, if_pos z2, ze1, qB_s, if_pos z1, if_pos z2, ze2, qB_s, if_pos rfl]
    exact fin g2
  rw [if_neg h30]
  by_cases h31 : (sc.2 (ix (Int32.ofNat (6 * k)))) &&& 63 = 31
  · obtain ⟨v, g1, g2, ze1, ze2, hv2⟩ := hg.call (c_game (sc.2 (ix (Int32.ofNat (6 * k) + 1))) (sc.2 (ix (Int32.ofNat (6 * k) + 2))) (sc.2 (ix (Int32.ofNat (6 * k) + 3))) (sc.2 (ix (Int32.ofNat (6 * k) + 4))) (sc.2 (ix (Int32.ofNat (6 * k) + 5))))
    refine ⟨g2, hv2.up, ?_⟩
    rw [if_pos h31, if_pos z1, if_pos z2, if_pos z3, if_pos z4, if_pos z5, ze1, qB_s, if_pos z1, if_pos z2, if_pos z3, if_pos z4, if_pos z5, ze2, qB_s, if_pos rfl]
    exact fin g2
  rw [if_neg h31]
  by_cases h32 : (sc.2 (ix (Int32.ofNat (6 * k)))) &&& 63 = 32
  · obtain ⟨v, g1, g2, ze1, ze2, hv2⟩ := hg.call (c_rests (sc.2 (ix (Int32.ofNat (6 * k) + 1))) (sc.2 (ix (Int32.ofNat (6 * k) + 2))) (sc.2 (ix (Int32.ofNat (6 * k) + 3))))
    refine ⟨g2, hv2.up, ?_⟩
    rw [if_pos h32, if_pos z1, if_pos z2, if_pos z3, ze1, qB_s, if_pos z1, if_pos z2, if_pos z3, ze2, qB_s, if_pos rfl]
    exact fin g2
  rw [if_neg h32]
  by_cases h33 : (sc.2 (ix (Int32.ofNat (6 * k)))) &&& 63 = 33
  · obtain ⟨v, g1, g2, ze1, ze2, hv2⟩ := hg.call (c_odds (sc.2 (ix (Int32.ofNat (6 * k) + 1))) (sc.2 (ix (Int32.ofNat (6 * k) + 2))) (sc.2 (ix (Int32.ofNat (6 * k) + 3))) (sc.2 (ix (Int32.ofNat (6 * k) + 4))))
    refine ⟨g2, hv2.up, ?_⟩
    rw [if_pos h33, if_pos z1, if_pos z2, if_pos z3, if_pos z4, ze1, qB_s, if_pos z1, if_pos z2, if_pos z3, if_pos z4, ze2, qB_s, if_pos rfl]
    exact fin g2
  rw [if_neg h33]
  by_cases h34 : (sc.2 (ix (Int32.ofNat (6 * k)))) &&& 63 = 34
  · obtain ⟨v, g1, g2, ze1, ze2, hv2⟩ := hg.call (c_shares (sc.2 (ix (Int32.ofNat (6 * k) + 1))) (sc.2 (ix (Int32.ofNat (6 * k) + 2))))
    refine ⟨g2, hv2.up, ?_⟩
    rw [if_pos h34, if_pos z1, if_pos z2, ze1, qB_s, if_pos z1, if_pos z2, ze2, qB_s, if_pos rfl]
    exact fin g2
  rw [if_neg h34]
  by_cases h35 : (sc.2 (ix (Int32.ofNat (6 * k)))) &&& 63 = 35
  · obtain ⟨v, g1, g2, ze1, ze2, hv2⟩ := hg.call (c_most (sc.2 (ix (Int32.ofNat (6 * k) + 1))))
    refine ⟨g2, hv2.up, ?_⟩
    rw [if_pos h35, if_pos z1, ze1, qB_s, if_pos z1, ze2, qB_s, if_pos rfl]
    exact fin g2
  rw [if_neg h35]
  by_cases h36 : (sc.2 (ix (Int32.ofNat (6 * k)))) &&& 63 = 36
  · obtain ⟨v, g1, g2, ze1, ze2, hv2⟩ := hg.call c_image
    refine ⟨g2, hv2.up, ?_⟩
    rw [if_pos h36, ze1, qB_s, ze2, qB_s, if_pos rfl]
    exact fin g2
  rw [if_neg h36]
  by_cases h37 : (sc.2 (ix (Int32.ofNat (6 * k)))) &&& 63 = 37
  · obtain ⟨v, g1, g2, ze1, ze2, hv2⟩ := hg.call c_back
    refine ⟨g2, hv2.up, ?_⟩
    rw [if_pos h37, ze1, qB_s, ze2, qB_s, if_pos rfl]
    exact fin g2
  rw [if_neg h37]
  by_cases h38 : (sc.2 (ix (Int32.ofNat (6 * k)))) &&& 63 = 38
  · obtain ⟨v, g1, g2, ze1, ze2, hv2⟩ := hg.call (c_count (sc.2 (ix (Int32.ofNat (6 * k) + 1))))
    refine ⟨g2, hv2.up, ?_⟩
    rw [if_pos h38, if_pos z1, ze1, qB_s, if_pos z1, ze2, qB_s, if_pos rfl]
    exact fin g2
  rw [if_neg h38]
  exact ⟨g, hg.up, fin g⟩
theorem w_loop {sc : zSc} (hn : sc.1 ≤ 3072) : ∀ (r k m : Nat) (g : zSg), 512 - k ≤ r → k ≤ 512 → r < m → vLp k g → ∃ g', f_L_law_23 sc m (Int32.ofNat (6 * k)) g = some (1, g') ∧ g'.1.1 ≤ 2000 ∧ g'.1.2 ≤ 30000 := by
  intro r
  induction r with
  | zero =>
    intro k m g h1 h2 h3 hg
    obtain ⟨m, rfl⟩ : ∃ m', m = m' + 1 := ⟨m - 1, by omega⟩
    obtain ⟨W, ok, w1, w2, w3, w4⟩ := hg
    refine ⟨g, ?_, by omega, by omega⟩
    show fb_L_law_23 sc (f_L_law_23 sc m) (Int32.ofNat (6 * k)) g = _
    unfold fb_L_law_23
    rw [if_pos]
    rw [show Int32.ofNat sc.1 - 6 = Int32.ofInt ((sc.1 : Int) - 6) from (by show Int32.ofNat sc.1 - Int32.ofNat 6 = _; rw [qj_of, qj_of, qj_sub]; rfl), qj_of (6 * k), qj_lt (by omega) (by omega) (by omega) (by omega)]
    omega
  | succ r ih =>
    intro k m g h1 h2 h3 hg
    obtain ⟨m, rfl⟩ : ∃ m', m = m' + 1 := ⟨m - 1, by omega⟩
    by_cases hk : 6 * k + 6 ≤ sc.1
    · obtain ⟨g1, hg1, ze⟩ := w_step (m := m) hk hn hg
      rw [ze]
      exact ih (k + 1) m g1 (by omega) (by omega) (by omega) hg1
    · obtain ⟨W, ok, w1, w2, w3, w4⟩ := hg
      refine ⟨g, ?_, by omega, by omega⟩
      show fb_L_law_23 sc (f_L_law_23 sc m) (Int32.ofNat (6 * k)) g = _
      unfold fb_L_law_23
      rw [if_pos]
      rw [show Int32.ofNat sc.1 - 6 = Int32.ofInt ((sc.1 : Int) - 6) from (by show Int32.ofNat sc.1 - Int32.ofNat 6 = _; rw [qj_of, qj_of, qj_sub]; rfl), qj_of (6 * k), qj_lt (by omega) (by omega) (by omega) (by omega)]
      omega
/-- on every script the law's loop answers 1 -/
theorem w_main {sc : zSc} (hn : sc.1 ≤ 3072) : ∃ g', f_L_law_23 sc zFu 0 g0 = some (1, g') ∧ g'.1.1 ≤ 601024 ∧ g'.1.2 ≤ 7293034 := by
  obtain ⟨g', ze, h1, h2⟩ := w_loop (sc := sc) hn 512 0 zFu g0 (Nat.le_refl _) (by omega) (by show _ < 1000000; omega) vLp0
  exact ⟨g', ze, by omega, by omega⟩
