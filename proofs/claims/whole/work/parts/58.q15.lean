/-! ===== both sides: KEPT, asked ===== -/
section Q15
variable {C : mC} {L : mL} {lw : mLaw}
theorem x_hasP1 {w : Nat} {g : zSg} (h : vCo 3 5 C g) (hP : C.1 ≤ 6) (h0 : 0 < C.1) (hw : w < 2 ^ C.1) : f_X0_hasPersons 3 (Int32.ofNat w) g = some (1, g) := by
  have h6 : 2 ^ C.1 ≤ 2 ^ 6 := Nat.pow_le_pow_right (by omega) hP
  have e : w >>> C.1 = 0 := by rw [Nat.shiftRight_eq_div_pow]; exact Nat.div_eq_of_lt hw
  unfold f_X0_hasPersons
  rw [x_isTold h hP, if_pos h0, qB_s, if_neg (by decide)]
  simp (disch := omega) only [qi_lit, qi_lt, if_neg (show ¬ w < 0 by omega), h.2.1, qi_shr, e, qi_inj]
  rw [if_neg (fun t => t trivial)]
theorem x_hasP0 {x : Int32} {g : zSg} (h : vCo 3 5 C g) (hP : C.1 ≤ 6) (h0 : 0 < C.1) (hw : ¬ mHas (2 ^ C.1) x) : f_X0_hasPersons 3 x g = some (0, g) := by
  unfold f_X0_hasPersons
  rw [x_isTold h hP, if_pos h0, qB_s, if_neg (by decide)]
  by_cases q : x < 0
  · rw [if_pos q]
  · obtain ⟨w, hx, rfl⟩ : ∃ w, w < 2147483648 ∧ x = Int32.ofNat w := by
      rw [Int32.lt_iff_toInt_lt] at q
      have q0 : (0 : Int32).toInt = 0 := rfl
      rw [q0] at q
      have q1 := Int32.toInt_lt x
      refine ⟨x.toInt.toNat, by omega, ?_⟩
      rw [qj_of]
      rw [Int.toNat_of_nonneg (by omega), Int32.ofInt_toInt]
    have hge : 2 ^ C.1 ≤ w := by
      by_cases z : 2 ^ C.1 ≤ w
      · exact z
      · exact absurd ⟨w, by omega, rfl⟩ hw
    have hne : ¬ w / 2 ^ C.1 = 0 := by
      have := Nat.div_pos hge (Nat.two_pow_pos _)
      omega
    have hle := Nat.div_le_self w (2 ^ C.1)
    simp (disch := omega) only [qi_lit, qi_lt, if_neg (show ¬ w < 0 by omega), h.2.1, qi_shr, Nat.shiftRight_eq_div_pow, qi_inj]
    rw [if_pos hne]
theorem x_keptRows {c who y n : Nat} {g : zSg} (hq : vQ C L) (hc : c < C.2.1) (hwho : who < 64) (hr : (L 49).testBit c = false) (hy : y < 2) (h : vQX C L lw g) (hnl : n = mLack C L c) (hn : n ≤ 6) : qE SX g (f_X3_rowsOfWinds 39 (Int32.ofNat c) (Int32.ofNat who) (Int32.ofNat y) g) (mKp C lw (mHg L c) c who n y) := by
  have hC := hq.1
  have hS := hC.2.1
  have hP := hC.1
  have hp := hq.pos hc
  have hmk : (1 <<< c : Nat) < 64 := by rw [Nat.one_shiftLeft]; exact Nat.pow_lt_pow_right (by omega) (by omega : c < 6)
  have hbit : (1 <<< c : Nat).testBit c = true := by rw [q_bit1, decide_eq_true rfl]
  have a8 : (zK0 443).1 = 8 := rfl
  have b8 := zK0_431 (x := n) (by omega)
  have hLg := mHg_lf hC hc hr hq.2.1
  obtain ⟨g1, ze1, hs1, hb1, f1⟩ := x_becB (a := 443) a8 (show (zK0 39).1 = 8 from rfl) (by omega) h.2.2.1 h.2.2.2
  have F1 : qF SX g g1 := f1.mono fun b k w => by unfold SX; omega
  have h1 := h.fr F1
  have F2 : qF SX g (gsI g1 443 4 (Int32.ofNat (L 48 ||| (1 <<< c)))) := F1.sI (by unfold SX; omega)
  have h2 := h.fr F2
  have hX : vXs 999 C lw 443 (mHg L c) (gsI g1 443 4 (Int32.ofNat (L 48 ||| (1 <<< c)))) := by
    obtain ⟨s1, s2, s3, s4, s5, s6, s7, s8⟩ := hs1
    refine ⟨hC, hp, a8, by omega, hLg.1, h2.1, h2.2.1, fun p hp => ?_, fun c' hc => ?_, ?_, ?_, ?_, ?_, ?_, ?_⟩
    · rw [qs_In (by omega), mHg_n (by omega)]; exact s1 p hp
    · rw [qs_In (by omega), mHg_n (by omega)]; exact s2 c' hc
    · rw [qs_Ie]; rfl
    · rw [qs_In (by omega), mHg_n (by omega)]; exact s4
    · rw [qs_In (by omega), mHg_n (by omega)]; exact s5
    · rw [qs_In (by omega), mHg_n (by omega)]; exact s6
    · rw [qs_In (by omega), mHg_n (by omega)]; exact s7
    · rw [qs_In (by omega), mHg_n (by omega)]; exact s8
  have hB : vBr 443 (1 <<< c) C (mHg L c) (gsI g1 443 4 (Int32.ofNat (L 48 ||| (1 <<< c)))) := fun c' hc' hm => ⟨by rw [qs_In (by omega), mKn_hg hP hc']; exact (hb1 c' hc' (q_63 hc')).1, fun p hp => by rw [qs_In (by omega), mHg_n (by omega)]; exact (hb1 c' hc' (q_63 hc')).2 p hp⟩
  have s48 : g1.2.1 443 4 = Int32.ofNat (L 48) := hs1.2.2.1
  unfold f_X3_rowsOfWinds
  rw [x_lacks (h.xs hq hp) hq.2.1 hc, ← hnl, qB_s]
  have em : imin 6 (Int32.ofNat n) = Int32.ofNat n := by
    show imin (Int32.ofNat 6) (Int32.ofNat n) = _
    rw [qi_imin (by omega) (by omega), Nat.min_eq_right hn]
  have e0 : f_X8_pick 431 0 g = some (some 443, g) := x_pick431 (x := 0) (by omega)
  have en : f_X8_pick 431 (Int32.ofNat n) g = some (some (443 + 9 * n), g) := x_pick431 (by omega)
  have e48 : gI g1 443 4 ||| (1 <<< (Int32.ofNat c &&& 31)) = Int32.ofNat (L 48 ||| (1 <<< c)) := by
    show g1.2.1 443 4 ||| (Int32.ofNat 1 <<< (Int32.ofNat c &&& Int32.ofNat 31)) = _
    rw [s48, qi_shl (by omega), qi_or]
  have e4n : (1 : Int32) <<< (2 * Int32.ofNat n &&& 31) = Int32.ofNat (4 ^ n) := by
    show Int32.ofNat 1 <<< (Int32.ofNat 2 * Int32.ofNat n &&& Int32.ofNat 31) = _
    rw [qi_mul, qi_shl (by omega), Nat.one_shiftLeft, Nat.pow_mul]
  simp only [em, e0, en, zB, zNu, if_pos a8, if_pos b8, ze1, e48, e4n]
  have h46 : 4 ^ n ≤ 4 ^ 6 := Nat.pow_le_pow_right (by omega) hn
  have h46' : 4 ^ n ≤ 4096 := h46
  have key := x_rows_l (g := g) (lw := lw) hC hLg hc (by rw [mHg_n (by omega)]; exact hr) hwho hn hy (4 ^ n) zFu 0 _ (Nat.sub_le _ _) (Nat.zero_le _) (by show _ < 1000000; omega) F2 (fun f hf hf2 => by
    have hf0 : f = 0 := by
      by_cases q : f = 0
      · exact q
      · exact absurd (Nat.zero_mod _) (hf2 (by omega))
    subst hf0
    intro e he
    obtain rfl : e = 0 := by omega
    exact ⟨hX, hB⟩) (fun _ => rfl)
  have ec : (if y = 0 then mCnt (mOk C lw (mHg L c) c who n) 0 else 0) = 0 := by split <;> rfl
  rw [ec] at key
  exact key
theorem m_kept_l {c who n : Nat} {g : zSg} (hq : vQ C L) (hc : c < C.2.1) (hwho : who < 64) (hr : (L 49).testBit c = false) (h : vQM C L lw g) (hnl : n = mLack C L c) (hn : n ≤ 6) : ∃ g3, zB (f_X12_lacksOf (Int32.ofNat c) (gsI (gsI (gsI g 543 48 (Int32.ofNat (L 48 ||| (1 <<< c)))) 526 38 (-1)) 526 39 0)) (fun v28 g29 => f_X12_tryWinds zDp 0 v28 (Int32.ofNat c) (Int32.ofNat who) 0 g29) = some ((), g3) ∧ qF SY g (gsI g3 543 48 (Int32.ofNat (L 48))) ∧ g3.2.1 526 38 = mKp C lw (mHg L c) c who n 1 ∧ g3.2.1 526 39 = mKp C lw (mHg L c) c who n 0 := by
  have hC := hq.1
  have hS := hC.2.1
  have hP := hC.1
  have hp := hq.pos hc
  have hLg := mHg_lf hC hc hr hq.2.1
  obtain ⟨g1, hg1⟩ : ∃ g1, g1 = gsI (gsI (gsI g 543 48 (Int32.ofNat (L 48 ||| (1 <<< c)))) 526 38 (-1)) 526 39 0 := ⟨_, rfl⟩
  rw [← hg1]
  have F1 : qF (sK 0) g g1 := by rw [hg1]; exact ((qF.rfl'.sI (by unfold sK; omega)).sI (by unfold sK; omega)).sI (by unfold sK; omega)
  have h1 : vMs 999 C lw (mHg L c) g1 := by
    refine ⟨hC, hp, by omega, hLg.1, h.1.fr F1 (fun k => by unfold sK; omega) (fun k => by unfold sK; omega) (fun k => by unfold sK; omega) (fun k _ _ => by unfold sK; omega), h.2.1.fr F1 (by unfold sK; omega) (fun b k q1 q2 => by unfold sK; omega), fun i hi => ?_⟩
    rw [hg1, qs_In (by omega), qs_In (by omega)]
    by_cases q : i = 48
    · subst q; rw [qs_Ie]; rfl
    · rw [qs_In (by omega), mHg_n q]; exact h.N i hi
  have hlk : mLack C (mHg L c) c = n := by
    rw [hnl]
    unfold mLack
    rw [mHg_n (by omega), mHg_n (by omega)]
  rw [m_lacks h1 hLg hc, hlk, qB_s]
  obtain ⟨g3, ze3, f3, b3, c38, c39⟩ := m_try (P := mOk C lw (mHg L c) c who n) hC hLg hc hwho hn rfl n 0 0 zDp g1 (by omega) (by show _ < 24; omega) h1 (by rw [Nat.zero_mul, hg1, qs_In (by omega), qs_Ie]; rfl) (by rw [Nat.zero_mul, hg1, qs_Ie]; rfl)
  rw [show 0 + 1 = 1 from rfl, Nat.one_mul] at c38 c39
  refine ⟨g3, ze3, ?_, c38, c39⟩
  have F3 : qF SZ g (gsI g3 543 48 (Int32.ofNat (L 48))) := (((F1.tr f3).mono fun a k w => by unfold sK at w; unfold SZ SY; omega)).sI (by unfold SZ; omega)
  refine q_back F3 fun i hi => ?_
  by_cases q : i = 48
  · subst q; rw [qs_Ie]; exact (h.N 48 (by omega)).symm
  · rw [qs_In (by omega), b3 i hi, hg1, qs_In (by omega), qs_In (by omega), qs_In (by omega)]
theorem d_kept (hq : vQ C L) (x y z : Int32) : ∃ v, (∀ g, vQX C L lw g → qE SX g (f_X11_kept x y z g) v) ∧ (∀ g, vQM C L lw g → qE SY g (f_X12_kept x y z g) v) := by
  have hC := hq.1
  have hS := hC.2.1
  have hP := hC.1
  have h6 : 2 ^ C.1 ≤ 2 ^ 6 := Nat.pow_le_pow_right (by omega) hP
  by_cases q1 : mHas C.2.1 x
  · obtain ⟨c, hc, rfl⟩ := q1
    have hp := hq.pos hc
    have hown := (hC.hvy hc).2.2
    have h49 : L 49 < 64 := hq.2.1.1.2.2.2.2.1
    have hin : ∀ g, vQM C L lw g → (1 <<< (gI g 526 25 &&& 31)) - 1 = Int32.ofNat (2 ^ C.1) - Int32.ofNat 1 := fun g hg => by
      show (Int32.ofNat 1 <<< (g.2.1 526 25 &&& Int32.ofNat 31)) - Int32.ofNat 1 = _
      rw [hg.1.2.2.2.1, qi_shl (by omega), Nat.one_shiftLeft]
    by_cases qr : (L 49).testBit c = true
    · -- cured
      refine ⟨-1, fun g hg => ?_, fun g hg => ?_⟩
      · have er : f_X8_isCured 39 (Int32.ofNat c) g = some (1, g) := by rw [x_isCured hg.2.2.1.2.2.2.1 (by omega) (by omega), qr]; rfl
        unfold f_X11_kept f_X11_kept_53
        rw [x_hasSecret1 hg.1 hS hc, qB_s, if_neg (by decide)]
        by_cases q2 : mHas (2 ^ C.1) y
        · obtain ⟨w, hw, rfl⟩ := q2
          rw [x_hasP1 hg.1 hP hp hw, qB_s, if_neg (by decide), x_owner hg.1 (by omega), qB_s, er, qB_s]
          repeat' split
          all_goals first | exact qE_r | contradiction
        · rw [x_hasP0 hg.1 hP hp q2]; exact qE_r
      · unfold f_X12_kept
        rw [m_isSecret1 hg.1 hS hc, qB_s, if_neg (by decide), m_isRaw (hg.N 49 (by omega)) (by omega) (by omega), qr]
        exact qE_r
    · have qr' : (L 49).testBit c = false := by cases t : (L 49).testBit c; rfl; exact absurd t qr
      by_cases q2 : mHas (2 ^ C.1) y
      · obtain ⟨w, hw, rfl⟩ := q2
        by_cases qo : w.testBit (mOwn C c) = true
        · refine ⟨-1, fun g hg => ?_, fun g hg => ?_⟩
          · unfold f_X11_kept f_X11_kept_53
            rw [x_hasSecret1 hg.1 hS hc, qB_s, if_neg (by decide), x_hasP1 hg.1 hP hp hw, qB_s, if_neg (by decide), x_owner hg.1 (by omega), qB_s]
            simp (disch := omega) only [qi_lit, qi_bit0, qo]
            repeat' split
            all_goals first | exact qE_r | contradiction
          · unfold f_X12_kept
            rw [m_isSecret1 hg.1 hS hc, qB_s, if_neg (by decide), m_isRaw (hg.N 49 (by omega)) (by omega) (by omega), qr', qB_s, if_neg (by decide), hin g hg, m_in1 rfl hw (by omega), qB_s, if_neg (by decide), m_own hg.1 hS hc, qB_s, m_has (by omega) (by omega), qo]
            exact qE_r
        · have qo' : w.testBit (mOwn C c) = false := by cases t : w.testBit (mOwn C c); rfl; exact absurd t qo
          by_cases q3 : mHas 2 z
          · obtain ⟨o, ho, rfl⟩ := q3
            have hlk := mLack_le (L := L) hC hc
            by_cases ql : mLack C L c ≤ 6
            · refine ⟨mKp C lw (mHg L c) c w (mLack C L c) (if o = 0 then 1 else 0), fun g hg => ?_, fun g hg => ?_⟩
              · have er : f_X8_isCured 39 (Int32.ofNat c) g = some (0, g) := by rw [x_isCured hg.2.2.1.2.2.2.1 (by omega) (by omega), qr']; rfl
                have key0 := x_keptRows (y := 0) (lw := lw) hq hc (show w < 64 by omega) qr' (by omega) hg rfl ql
                have key1 := x_keptRows (y := 1) (lw := lw) hq hc (show w < 64 by omega) qr' (by omega) hg rfl ql
                unfold f_X11_kept f_X11_kept_53 f_X11_kept_109
                rw [x_hasSecret1 hg.1 hS hc, qB_s, if_neg (by decide), x_hasP1 hg.1 hP hp hw, qB_s, if_neg (by decide), x_owner hg.1 (by omega), qB_s, er, qB_s, x_lacks (hg.xs hq hp) hq.2.1 hc, qB_s]
                simp (disch := omega) only [qi_lit, qi_bit0, qo', qi_lt, qi_le, if_neg (show ¬ o < 0 by omega), if_pos (show o ≤ 1 by omega), if_pos ql, qi_inj, if_true, if_false, not_true_eq_false, not_false_eq_true, ite_true, ite_false]
                by_cases qz : o = 0
                · rw [if_neg (fun t => t qz), if_pos qz]
                  obtain ⟨g2, ze, f2⟩ := key1
                  rw [ze]
                  exact ⟨g2, rfl, f2⟩
                · rw [if_pos qz, if_neg qz]
                  obtain ⟨g2, ze, f2⟩ := key0
                  rw [ze]
                  exact ⟨g2, rfl, f2⟩
              · obtain ⟨g3, ze3, F3, c38, c39⟩ := m_kept_l (lw := lw) hq hc (show w < 64 by omega) qr' hg rfl ql
                have e48 : gI g 543 48 ||| (1 <<< (Int32.ofNat c &&& 31)) = Int32.ofNat (L 48 ||| (1 <<< c)) := by
                  show g.2.1 543 48 ||| (Int32.ofNat 1 <<< (Int32.ofNat c &&& Int32.ofNat 31)) = _
                  rw [hg.N 48 (by omega), qi_shl (by omega), qi_or]
                have e48' : gI g 543 48 = Int32.ofNat (L 48) := hg.N 48 (by omega)
                unfold f_X12_kept
                rw [m_isSecret1 hg.1 hS hc, qB_s, if_neg (by decide), m_isRaw (hg.N 49 (by omega)) (by omega) (by omega), qr', qB_s, if_neg (by decide), hin g hg, m_in1 rfl hw (by omega), qB_s, if_neg (by decide), m_own hg.1 hS hc, qB_s, m_has (by omega) (by omega), qo', qB_s, if_neg (by decide), m_lacks (hg.ms hq hp) hq.2.1 hc, qB_s, if_neg (show ¬ ((6 : Int32) < Int32.ofNat (mLack C L c)) by rw [show (6 : Int32) = Int32.ofNat 6 from rfl, qi_lt (by omega) (by omega)]; omega), m_in1 (hi := 1) (n := 2) rfl ho (by omega), qB_s, if_pos (by decide), e48, e48']
                obtain ⟨g2, ze2, hz2⟩ : ∃ r, f_X12_lacksOf (Int32.ofNat c) (gsI (gsI (gsI g 543 48 (Int32.ofNat (L 48 ||| (1 <<< c)))) 526 38 (-1)) 526 39 0) = some r ∧ f_X12_tryWinds zDp 0 r.1 (Int32.ofNat c) (Int32.ofNat w) 0 r.2 = some ((), g3) := by
                  revert ze3
                  cases f_X12_lacksOf (Int32.ofNat c) (gsI (gsI (gsI g 543 48 (Int32.ofNat (L 48 ||| (1 <<< c)))) 526 38 (-1)) 526 39 0) with
                  | none => intro t; cases t
                  | some r => intro t; exact ⟨r, rfl, t⟩
                obtain ⟨v2, g2⟩ := g2
                rw [ze2, qB_s, hz2, qB_s]
                by_cases qz : o = 0
                · rw [if_neg (show ¬ ¬ Int32.ofNat o = (0 : Int32) from fun t => t (by rw [qz]; rfl)), if_pos qz]
                  refine ⟨_, congrArg some (Prod.ext ?_ rfl), F3⟩
                  show (gsI g3 543 48 (Int32.ofNat (L 48))).2.1 526 38 = _
                  rw [qs_In (by omega)]
                  exact c38
                · rw [if_pos (show ¬ Int32.ofNat o = (0 : Int32) by rw [show (0 : Int32) = Int32.ofNat 0 from rfl, qi_inj (by omega) (by omega)]; exact qz), if_neg qz]
                  refine ⟨_, congrArg some (Prod.ext ?_ rfl), F3⟩
                  show (gsI g3 543 48 (Int32.ofNat (L 48))).2.1 526 39 = _
                  rw [qs_In (by omega)]
                  exact c39
            · refine ⟨-1, fun g hg => ?_, fun g hg => ?_⟩
              · have er : f_X8_isCured 39 (Int32.ofNat c) g = some (0, g) := by rw [x_isCured hg.2.2.1.2.2.2.1 (by omega) (by omega), qr']; rfl
                unfold f_X11_kept f_X11_kept_53
                rw [x_hasSecret1 hg.1 hS hc, qB_s, if_neg (by decide), x_hasP1 hg.1 hP hp hw, qB_s, if_neg (by decide), x_owner hg.1 (by omega), qB_s, er, qB_s, x_lacks (hg.xs hq hp) hq.2.1 hc, qB_s]
                simp (disch := omega) only [qi_lit, qi_le, if_neg ql]
                repeat' split
                all_goals first | exact qE_r | contradiction
              · unfold f_X12_kept
                rw [m_isSecret1 hg.1 hS hc, qB_s, if_neg (by decide), m_isRaw (hg.N 49 (by omega)) (by omega) (by omega), qr', qB_s, if_neg (by decide), hin g hg, m_in1 rfl hw (by omega), qB_s, if_neg (by decide), m_own hg.1 hS hc, qB_s, m_has (by omega) (by omega), qo', qB_s, if_neg (by decide), m_lacks (hg.ms hq hp) hq.2.1 hc, qB_s, if_pos (show ((6 : Int32) < Int32.ofNat (mLack C L c)) by rw [show (6 : Int32) = Int32.ofNat 6 from rfl, qi_lt (by omega) (by omega)]; omega)]
                exact qE_r
          · refine ⟨-1, fun g hg => ?_, fun g hg => ?_⟩
            · unfold f_X11_kept
              rw [x_hasSecret1 hg.1 hS hc, qB_s, if_neg (by decide), x_hasP1 hg.1 hP hp hw, qB_s, if_neg (by decide)]
              by_cases t : z < 0
              · rw [if_pos t]; exact qE_r
              · rw [if_neg t, if_neg (show ¬ z ≤ 1 from q_gt (n := 1) (by omega) q3 t)]; exact qE_r
            · unfold f_X12_kept
              rw [m_isSecret1 hg.1 hS hc, qB_s, if_neg (by decide), m_isRaw (hg.N 49 (by omega)) (by omega) (by omega), qr', qB_s, if_neg (by decide), hin g hg, m_in1 rfl hw (by omega), qB_s, if_neg (by decide), m_own hg.1 hS hc, qB_s, m_has (by omega) (by omega), qo', qB_s, if_neg (by decide), m_lacks (hg.ms hq hp) hq.2.1 hc, qB_s, m_in0 (hi := 1) (n := 2) rfl q3 (by omega)]
              split
              · exact qE_r
              · exact qE_r
      · refine ⟨-1, fun g hg => ?_, fun g hg => ?_⟩
        · unfold f_X11_kept
          rw [x_hasSecret1 hg.1 hS hc, qB_s, if_neg (by decide), x_hasP0 hg.1 hP hp q2]
          exact qE_r
        · unfold f_X12_kept
          rw [m_isSecret1 hg.1 hS hc, qB_s, if_neg (by decide), m_isRaw (hg.N 49 (by omega)) (by omega) (by omega), qr', qB_s, if_neg (by decide), hin g hg, m_in0 rfl q2 (by omega)]
          exact qE_r
  · refine ⟨-1, fun g hg => ?_, fun g hg => ?_⟩
    · unfold f_X11_kept
      rw [x_hasSecret0 hg.1 hS q1]
      exact qE_r
    · unfold f_X12_kept
      rw [m_isSecret0 hg.1 hS q1]
      exact qE_r
end Q15
