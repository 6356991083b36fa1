/-! ===== decompiled functions (by program), 2 ===== -/
def f_X4_become (a : Nat) (b1 : Nat) (g : zSg) : Option (Unit × zSg) := (zB (f_X7_become (a + 1) (b1 + 1) g) (fun v1 g2 => some ((), (gsI g2 (a) 2 (gI g2 (b1) 2)))))
set_option maxRecDepth 100000 in
set_option maxHeartbeats 4000000 in
theorem p_X4_become {sc : zSc} {hp : zHp} (a : Nat) (b1 : Nat) (ha : (zK0 a).1 = 4) (hb1 : (zK0 b1).1 = 4) {g : zSg} {r : Unit × zSg} (h : f_X4_become a b1 g = some r) : zRn sc hp 2 zM_X4_become [.ref a, .ref b1] (gm g) none (gm r.2) := by
  intro d hD
  obtain ⟨d, rfl⟩ : ∃ d', d = d' + 1 := ⟨d - 1, by omega⟩
  show zG _ sc hp (zcd zM_X4_become) 0 [some (.ref a), some (.ref b1)] [] (gm g) _
  unfold f_X4_become at h
  refine g_run 1 (pc' := 1) (L' := [some (.ref a), some (.ref b1)]) (S' := [.ref a]) (M' := gm g) rfl ?_
  refine g_getf rfl (ci := 4) (k := 0) rfl ha (gfv_l0 ha) ?_
  refine g_run 1 (pc' := 5) (L' := [some (.ref a), some (.ref b1)]) (S' := [.ref b1, .ref (a + 1)]) (M' := gm g) rfl ?_
  refine g_getf rfl (ci := 4) (k := 0) rfl hb1 (gfv_l0 hb1) ?_
  replace h := zB_of h
  obtain ⟨v1, g2, e3, h⟩ := h
  refine g_inv2 (kd := 1) (p_X7_become (a + 1) (b1 + 1) (zK0_l ha).1 (zK0_l hb1).1 e3) rfl rfl rfl (by decide) rfl (g_recv (a := a + 1) rfl (Nat.le_of_ble_eq_true rfl) (Nat.le_of_ble_eq_true rfl) (Nat.le_of_ble_eq_true rfl) (Nat.le_of_ble_eq_true rfl) rfl (zK0_l ha).1 (Nat.le_of_ble_eq_true rfl)) rfl rfl (by omega) (pc' := 11) rfl (S' := []) rfl ?_
  refine g_run 2 (pc' := 13) (L' := [some (.ref a), some (.ref b1)]) (S' := [.ref b1, .ref a]) (M' := gm g2) rfl ?_
  refine g_getf rfl (ci := 4) (k := 2) rfl hb1 rfl ?_
  refine g_putf rfl (ci := 4) (k := 2) rfl (a := a) ha rfl (g' := gsI g2 (a) 2 (gI g2 (b1) 2)) rfl ?_
  cases h
  exact g_ret rfl rfl rfl rfl
def f_X4_add (a : Nat) (x1 : Int32) (g : zSg) : Option (Unit × zSg) := (if 256 ≤ (gI g (a) 2) then some ((), g) else (zB (f_X7_set (a + 1) (gI g (a) 2) x1 g) (fun v2 g3 => some ((), (gsI g3 (a) 2 ((gI g3 (a) 2) + 1))))))
set_option maxRecDepth 100000 in
set_option maxHeartbeats 4000000 in
theorem p_X4_add {sc : zSc} {hp : zHp} (a : Nat) (ha : (zK0 a).1 = 4) {x1 : Int32} {g : zSg} {r : Unit × zSg} (h : f_X4_add a x1 g = some r) : zRn sc hp 1 zM_X4_add [.ref a, .int x1] (gm g) none (gm r.2) := by
  intro d hD
  obtain ⟨d, rfl⟩ : ∃ d', d = d' + 1 := ⟨d - 1, by omega⟩
  show zG _ sc hp (zcd zM_X4_add) 0 [some (.ref a), some (.int x1)] [] (gm g) _
  unfold f_X4_add at h
  refine g_run 1 (pc' := 1) (L' := [some (.ref a), some (.int x1)]) (S' := [.ref a]) (M' := gm g) rfl ?_
  refine g_getf rfl (ci := 4) (k := 2) rfl ha rfl ?_
  refine g_run 1 (pc' := 7) (L' := [some (.ref a), some (.int x1)]) (S' := [.int 256, .int ((gI g (a) 2))]) (M' := gm g) rfl ?_
  refine g_icmp (256 ≤ (gI g (a) 2)) rfl (t := 32) rfl rfl (fun c1 => ?_) (fun c1 => ?_)
  · replace h := (if_pos c1).symm.trans h
    cases h
    exact g_ret rfl rfl rfl rfl
  · replace h := (if_neg c1).symm.trans h
    refine g_run 1 (pc' := 11) (L' := [some (.ref a), some (.int x1)]) (S' := [.ref a]) (M' := gm g) rfl ?_
    refine g_getf rfl (ci := 4) (k := 0) rfl ha (gfv_l0 ha) ?_
    refine g_run 1 (pc' := 15) (L' := [some (.ref a), some (.int x1)]) (S' := [.ref a, .ref (a + 1)]) (M' := gm g) rfl ?_
    refine g_getf rfl (ci := 4) (k := 2) rfl ha rfl ?_
    refine g_run 1 (pc' := 19) (L' := [some (.ref a), some (.int x1)]) (S' := [.int x1, .int ((gI g (a) 2)), .ref (a + 1)]) (M' := gm g) rfl ?_
    replace h := zB_of h
    obtain ⟨v2, g3, e4, h⟩ := h
    refine g_inv2 (kd := 1) (p_X7_set (a + 1) (zK0_l ha).1 e4) rfl rfl rfl (by decide) rfl (g_recv (a := a + 1) rfl (Nat.le_of_ble_eq_true rfl) (Nat.le_of_ble_eq_true rfl) (Nat.le_of_ble_eq_true rfl) (Nat.le_of_ble_eq_true rfl) rfl (zK0_l ha).1 (Nat.le_of_ble_eq_true rfl)) rfl rfl (by omega) (pc' := 22) rfl (S' := []) rfl ?_
    refine g_run 2 (pc' := 24) (L' := [some (.ref a), some (.int x1)]) (S' := [.ref a, .ref a]) (M' := gm g3) rfl ?_
    refine g_getf rfl (ci := 4) (k := 2) rfl ha rfl ?_
    refine g_run 2 (pc' := 29) (L' := [some (.ref a), some (.int x1)]) (S' := [.int (((gI g3 (a) 2) + 1)), .ref a]) (M' := gm g3) rfl ?_
    refine g_putf rfl (ci := 4) (k := 2) rfl (a := a) ha rfl (g' := gsI g3 (a) 2 ((gI g3 (a) 2) + 1)) rfl ?_
    cases h
    exact g_ret rfl rfl rfl rfl
def f_X4_addLeap (a : Nat) (g : zSg) : Option (Int32 × zSg) := (zB (f_X4_add a (-63) g) (fun v1 g2 => (zB (f_X4_add a 0 g2) (fun v4 g5 => some (((gI g5 (a) 2) - 1), g5)))))
set_option maxRecDepth 100000 in
set_option maxHeartbeats 4000000 in
theorem p_X4_addLeap {sc : zSc} {hp : zHp} (a : Nat) (ha : (zK0 a).1 = 4) {g : zSg} {r : Int32 × zSg} (h : f_X4_addLeap a g = some r) : zRn sc hp 2 zM_X4_addLeap [.ref a] (gm g) (some (.int r.1)) (gm r.2) := by
  intro d hD
  obtain ⟨d, rfl⟩ : ∃ d', d = d' + 1 := ⟨d - 1, by omega⟩
  show zG _ sc hp (zcd zM_X4_addLeap) 0 [some (.ref a)] [] (gm g) _
  unfold f_X4_addLeap at h
  refine g_run 2 (pc' := 3) (L' := [some (.ref a)]) (S' := [.int (-63), .ref a]) (M' := gm g) rfl ?_
  replace h := zB_of h
  obtain ⟨v1, g2, e3, h⟩ := h
  refine g_inv2 (kd := 1) (p_X4_add a ha e3) rfl rfl rfl (by decide) rfl (g_recv (a := a) rfl (Nat.le_of_ble_eq_true rfl) (Nat.le_of_ble_eq_true rfl) (Nat.le_of_ble_eq_true rfl) (Nat.le_of_ble_eq_true rfl) rfl ha (Nat.le_of_ble_eq_true rfl)) rfl rfl (by omega) (pc' := 6) rfl (S' := []) rfl ?_
  refine g_run 2 (pc' := 8) (L' := [some (.ref a)]) (S' := [.int 0, .ref a]) (M' := gm g2) rfl ?_
  replace h := zB_of h
  obtain ⟨v4, g5, e6, h⟩ := h
  refine g_inv2 (kd := 1) (p_X4_add a ha e6) rfl rfl rfl (by decide) rfl (g_recv (a := a) rfl (Nat.le_of_ble_eq_true rfl) (Nat.le_of_ble_eq_true rfl) (Nat.le_of_ble_eq_true rfl) (Nat.le_of_ble_eq_true rfl) rfl ha (Nat.le_of_ble_eq_true rfl)) rfl rfl (by omega) (pc' := 11) rfl (S' := []) rfl ?_
  refine g_run 1 (pc' := 12) (L' := [some (.ref a)]) (S' := [.ref a]) (M' := gm g5) rfl ?_
  refine g_getf rfl (ci := 4) (k := 2) rfl ha rfl ?_
  refine g_run 2 (pc' := 17) (L' := [some (.ref a)]) (S' := [.int (((gI g5 (a) 2) - 1))]) (M' := gm g5) rfl ?_
  cases h
  exact g_ret rfl rfl rfl rfl
def f_X4_landHere (a : Nat) (x1 : Int32) (g : zSg) : Option (Unit × zSg) := (zB (f_X7_set (a + 1) x1 (gI g (a) 2) g) (fun v1 g2 => some ((), g2)))
set_option maxRecDepth 100000 in
set_option maxHeartbeats 4000000 in
theorem p_X4_landHere {sc : zSc} {hp : zHp} (a : Nat) (ha : (zK0 a).1 = 4) {x1 : Int32} {g : zSg} {r : Unit × zSg} (h : f_X4_landHere a x1 g = some r) : zRn sc hp 1 zM_X4_landHere [.ref a, .int x1] (gm g) none (gm r.2) := by
  intro d hD
  obtain ⟨d, rfl⟩ : ∃ d', d = d' + 1 := ⟨d - 1, by omega⟩
  show zG _ sc hp (zcd zM_X4_landHere) 0 [some (.ref a), some (.int x1)] [] (gm g) _
  unfold f_X4_landHere at h
  refine g_run 1 (pc' := 1) (L' := [some (.ref a), some (.int x1)]) (S' := [.ref a]) (M' := gm g) rfl ?_
  refine g_getf rfl (ci := 4) (k := 0) rfl ha (gfv_l0 ha) ?_
  refine g_run 2 (pc' := 6) (L' := [some (.ref a), some (.int x1)]) (S' := [.ref a, .int x1, .ref (a + 1)]) (M' := gm g) rfl ?_
  refine g_getf rfl (ci := 4) (k := 2) rfl ha rfl ?_
  replace h := zB_of h
  obtain ⟨v1, g2, e3, h⟩ := h
  refine g_inv2 (kd := 1) (p_X7_set (a + 1) (zK0_l ha).1 e3) rfl rfl rfl (by decide) rfl (g_recv (a := a + 1) rfl (Nat.le_of_ble_eq_true rfl) (Nat.le_of_ble_eq_true rfl) (Nat.le_of_ble_eq_true rfl) (Nat.le_of_ble_eq_true rfl) rfl (zK0_l ha).1 (Nat.le_of_ble_eq_true rfl)) rfl rfl (by omega) (pc' := 12) rfl (S' := []) rfl ?_
  cases h
  exact g_ret rfl rfl rfl rfl
def f_X5_draft (g : zSg) : Option (Option Nat × zSg) := some (some (11), g)
set_option maxRecDepth 100000 in
set_option maxHeartbeats 4000000 in
theorem p_X5_draft {sc : zSc} {hp : zHp} {g : zSg} {r : Option Nat × zSg} (h : f_X5_draft g = some r) : zRn sc hp 0 zM_X5_draft [.ref 10] (gm g) (some (zrv r.1)) (gm r.2) := by
  intro d hD
  show zG _ sc hp (zcd zM_X5_draft) 0 [some (.ref 10)] [] (gm g) _
  unfold f_X5_draft at h
  refine g_run 2 (pc' := 4) (L' := [some (.ref 10)]) (S' := [.ref 11]) (M' := gm g) rfl ?_
  cases h
  exact g_reto (v := some (11)) rfl rfl
def f_X5_atom (rs : Int32 → zSg → Option (Int32 × zSg)) (x1 : Int32) (g : zSg) : Option (Int32 × zSg) := (zB (f_X9_next g) (fun v1 g2 => (if ¬ v1 = 91 then (zB (f_X9_isDigit v1 g2) (fun v5 g6 => (if v5 = 0 then (if ¬ (i2ch v1) < 0 then (if 0 ≤ (zidx (i2ch v1)) then (zB (f_X9_skip g6) (fun v11 g12 => (zB (f_X4_add 11 ((-1) - (zidx (i2ch v1))) g12) (fun v14 g15 => some (1, g15))))) else some (0, g6)) else none) else (zB (f_X9_number 4 g6) (fun v17 g18 => (zB (f_X4_add 11 v17 g18) (fun v20 g21 => (if v17 = (-1) then some (0, g21) else some (1, g21))))))))) else (if x1 < 6 then (zB (f_X9_skip g2) (fun v25 g26 => (zB (rs (x1 + 1) g26) (fun v28 g29 => (if v28 = 0 then some (0, g29) else (zB (f_X9_take 93 g29) (fun v32 g33 => (if v32 = 0 then some (0, g33) else some (1, g33))))))))) else some (0, g2)))))
set_option maxRecDepth 100000 in
set_option maxHeartbeats 4000000 in
theorem p_X5_atom {sc : zSc} {hp : zHp} {Ds : Nat} (rs : Int32 → zSg → Option (Int32 × zSg)) (hrs : ∀ (x1 : Int32) (g : zSg) (r : Int32 × zSg), rs x1 g = some r → zRn sc hp Ds zM_X5_sum [.ref 10, .int x1] (gm g) (some (.int r.1)) (gm r.2)) {x1 : Int32} {g : zSg} {r : Int32 × zSg} (h : f_X5_atom rs x1 g = some r) : zRn sc hp (max (Ds + 1) 17) zM_X5_atom [.ref 10, .int x1] (gm g) (some (.int r.1)) (gm r.2) := by
  intro d hD
  obtain ⟨hD1, hD⟩ := Nat.max_le.mp hD
  obtain ⟨d, rfl⟩ : ∃ d', d = d' + 1 := ⟨d - 1, by omega⟩
  show zG _ sc hp (zcd zM_X5_atom) 0 [some (.ref 10), some (.int x1), none, none] [] (gm g) _
  unfold f_X5_atom at h
  refine g_run 2 (pc' := 4) (L' := [some (.ref 10), some (.int x1), none, none]) (S' := [.ref 1]) (M' := gm g) rfl ?_
  replace h := zB_of h
  obtain ⟨v1, g2, e3, h⟩ := h
  refine g_inv2 (kd := 1) (p_X9_next  e3) rfl rfl rfl (by decide) rfl rfl rfl rfl (by omega) (pc' := 7) rfl (S' := [.int v1]) rfl ?_
  refine g_run 3 (pc' := 11) (L' := [some (.ref 10), some (.int x1), some (.int v1), none]) (S' := [.int 91, .int v1]) (M' := gm g2) rfl ?_
  refine g_icmp (¬ v1 = 91) rfl (t := 57) rfl rfl (fun c4 => ?_) (fun c4 => ?_)
  · replace h := (if_pos c4).symm.trans h
    refine g_run 1 (pc' := 58) (L' := [some (.ref 10), some (.int x1), some (.int v1), none]) (S' := [.int v1]) (M' := gm g2) rfl ?_
    replace h := zB_of h
    obtain ⟨v5, g6, e7, h⟩ := h
    refine g_inv2 (kd := 0) (p_X9_isDigit  e7) rfl rfl rfl (by decide) rfl rfl rfl rfl (by omega) (pc' := 61) rfl (S' := [.int v5]) rfl ?_
    refine g_if (v5 = 0) rfl (t := 92) rfl rfl (fun c8 => ?_) (fun c8 => ?_)
    · replace h := (if_pos c8).symm.trans h
      refine g_run 3 (pc' := 96) (L' := [some (.ref 10), some (.int x1), some (.int v1), none]) (S' := [.int ((i2ch v1)), .float 2]) (M' := gm g6) rfl ?_
      by_cases c9 : ¬ (i2ch v1) < 0
      case neg => exact nomatch ((if_neg c9).symm.trans h)
      replace h := (if_pos c9).symm.trans h
      refine g_spec2 (kd := 1) rfl rfl rfl (by decide) rfl (jd := 1007) rfl (by decide) rfl (Or.inr (by omega)) (S' := [.int ((zidx (i2ch v1)))]) (M' := gm g6) (if_pos ⟨rfl, Nat.le_of_ble_eq_true rfl, c9⟩) rfl (pc' := 99) rfl ?_
      refine g_run 2 (pc' := 101) (L' := [some (.ref 10), some (.int x1), some (.int v1), some (.int ((zidx (i2ch v1))))]) (S' := [.int ((zidx (i2ch v1)))]) (M' := gm g6) rfl ?_
      refine g_if (0 ≤ (zidx (i2ch v1))) rfl (t := 106) rfl rfl (fun c10 => ?_) (fun c10 => ?_)
      · replace h := (if_pos c10).symm.trans h
        refine g_run 2 (pc' := 110) (L' := [some (.ref 10), some (.int x1), some (.int v1), some (.int ((zidx (i2ch v1))))]) (S' := [.ref 1]) (M' := gm g6) rfl ?_
        replace h := zB_of h
        obtain ⟨v11, g12, e13, h⟩ := h
        refine g_inv2 (kd := 1) (p_X9_skip  e13) rfl rfl rfl (by decide) rfl rfl rfl rfl (by omega) (pc' := 113) rfl (S' := []) rfl ?_
        refine g_run 5 (pc' := 120) (L' := [some (.ref 10), some (.int x1), some (.int v1), some (.int ((zidx (i2ch v1))))]) (S' := [.int (((-1) - (zidx (i2ch v1)))), .ref 11]) (M' := gm g12) rfl ?_
        replace h := zB_of h
        obtain ⟨v14, g15, e16, h⟩ := h
        refine g_inv2 (kd := 1) (p_X4_add 11 rfl e16) rfl rfl rfl (by decide) rfl rfl rfl rfl (by omega) (pc' := 123) rfl (S' := []) rfl ?_
        refine g_run 1 (pc' := 124) (L' := [some (.ref 10), some (.int x1), some (.int v1), some (.int ((zidx (i2ch v1))))]) (S' := [.int 1]) (M' := gm g15) rfl ?_
        cases h
        exact g_ret rfl rfl rfl rfl
      · replace h := (if_neg c10).symm.trans h
        refine g_run 1 (pc' := 105) (L' := [some (.ref 10), some (.int x1), some (.int v1), some (.int ((zidx (i2ch v1))))]) (S' := [.int 0]) (M' := gm g6) rfl ?_
        cases h
        exact g_ret rfl rfl rfl rfl
    · replace h := (if_neg c8).symm.trans h
      refine g_run 3 (pc' := 69) (L' := [some (.ref 10), some (.int x1), some (.int v1), none]) (S' := [.int 4, .ref 1]) (M' := gm g6) rfl ?_
      replace h := zB_of h
      obtain ⟨v17, g18, e19, h⟩ := h
      refine g_inv2 (kd := 1) (p_X9_number  e19) rfl rfl rfl (by decide) rfl rfl rfl rfl (by omega) (pc' := 72) rfl (S' := [.int v17]) rfl ?_
      refine g_run 4 (pc' := 78) (L' := [some (.ref 10), some (.int x1), some (.int v1), some (.int v17)]) (S' := [.int v17, .ref 11]) (M' := gm g18) rfl ?_
      replace h := zB_of h
      obtain ⟨v20, g21, e22, h⟩ := h
      refine g_inv2 (kd := 1) (p_X4_add 11 rfl e22) rfl rfl rfl (by decide) rfl rfl rfl rfl (by omega) (pc' := 81) rfl (S' := []) rfl ?_
      refine g_run 2 (pc' := 83) (L' := [some (.ref 10), some (.int x1), some (.int v1), some (.int v17)]) (S' := [.int (-1), .int v17]) (M' := gm g21) rfl ?_
      refine g_icmp (v17 = (-1)) rfl (t := 90) rfl rfl (fun c23 => ?_) (fun c23 => ?_)
      · replace h := (if_pos c23).symm.trans h
        refine g_run 1 (pc' := 91) (L' := [some (.ref 10), some (.int x1), some (.int v1), some (.int v17)]) (S' := [.int 0]) (M' := gm g21) rfl ?_
        cases h
        exact g_ret rfl rfl rfl rfl
      · replace h := (if_neg c23).symm.trans h
        refine g_run 2 (pc' := 91) (L' := [some (.ref 10), some (.int x1), some (.int v1), some (.int v17)]) (S' := [.int 1]) (M' := gm g21) rfl ?_
        cases h
        exact g_ret rfl rfl rfl rfl
  · replace h := (if_neg c4).symm.trans h
    refine g_run 2 (pc' := 17) (L' := [some (.ref 10), some (.int x1), some (.int v1), none]) (S' := [.int 6, .int x1]) (M' := gm g2) rfl ?_
    refine g_icmp (x1 < 6) rfl (t := 22) rfl rfl (fun c24 => ?_) (fun c24 => ?_)
    · replace h := (if_pos c24).symm.trans h
      refine g_run 2 (pc' := 26) (L' := [some (.ref 10), some (.int x1), some (.int v1), none]) (S' := [.ref 1]) (M' := gm g2) rfl ?_
      replace h := zB_of h
      obtain ⟨v25, g26, e27, h⟩ := h
      refine g_inv2 (kd := 1) (p_X9_skip  e27) rfl rfl rfl (by decide) rfl rfl rfl rfl (by omega) (pc' := 29) rfl (S' := []) rfl ?_
      refine g_run 4 (pc' := 33) (L' := [some (.ref 10), some (.int x1), some (.int v1), none]) (S' := [.int ((x1 + 1)), .ref 10]) (M' := gm g26) rfl ?_
      replace h := zB_of h
      obtain ⟨v28, g29, e30, h⟩ := h
      refine g_inv2 (kd := 1) (hrs (x1 + 1) g26 _ e30) rfl rfl rfl (by decide) rfl rfl rfl rfl (by omega) (pc' := 36) rfl (S' := [.int v28]) rfl ?_
      refine g_if (v28 = 0) rfl (t := 55) rfl rfl (fun c31 => ?_) (fun c31 => ?_)
      · replace h := (if_pos c31).symm.trans h
        refine g_run 1 (pc' := 56) (L' := [some (.ref 10), some (.int x1), some (.int v1), none]) (S' := [.int 0]) (M' := gm g29) rfl ?_
        cases h
        exact g_ret rfl rfl rfl rfl
      · replace h := (if_neg c31).symm.trans h
        refine g_run 3 (pc' := 45) (L' := [some (.ref 10), some (.int x1), some (.int v1), none]) (S' := [.int 93, .ref 1]) (M' := gm g29) rfl ?_
        replace h := zB_of h
        obtain ⟨v32, g33, e34, h⟩ := h
        refine g_inv2 (kd := 1) (p_X9_take  e34) rfl rfl rfl (by decide) rfl rfl rfl rfl (by omega) (pc' := 48) rfl (S' := [.int v32]) rfl ?_
        refine g_if (v32 = 0) rfl (t := 55) rfl rfl (fun c35 => ?_) (fun c35 => ?_)
        · replace h := (if_pos c35).symm.trans h
          refine g_run 1 (pc' := 56) (L' := [some (.ref 10), some (.int x1), some (.int v1), none]) (S' := [.int 0]) (M' := gm g33) rfl ?_
          cases h
          exact g_ret rfl rfl rfl rfl
        · replace h := (if_neg c35).symm.trans h
          refine g_run 2 (pc' := 56) (L' := [some (.ref 10), some (.int x1), some (.int v1), none]) (S' := [.int 1]) (M' := gm g33) rfl ?_
          cases h
          exact g_ret rfl rfl rfl rfl
    · replace h := (if_neg c24).symm.trans h
      refine g_run 1 (pc' := 21) (L' := [some (.ref 10), some (.int x1), some (.int v1), none]) (S' := [.int 0]) (M' := gm g2) rfl ?_
      cases h
      exact g_ret rfl rfl rfl rfl
def f_X5_term_45 (rs : Int32 → zSg → Option (Int32 × zSg)) (k8 : Int32 → Int32 → Int32 → zSg → Option (Int32 × zSg)) (y1 : Int32) (y3 : Int32) (y4 : Int32) (g : zSg) : Option (Int32 × zSg) := (zB (f_X9_skip g) (fun v1 g2 => (zB (f_X5_atom rs y1 g2) (fun v4 g5 => (zB (f_X4_add 11 (-y4) g5) (fun v7 g8 => k8 (y1) (v4) (y3 + 1) g8))))))
set_option maxRecDepth 100000 in
set_option maxHeartbeats 4000000 in
theorem p_X5_term_45 {sc : zSc} {hp : zHp} {d : Nat} (hD : 18 ≤ d) {Ds : Nat} (hD1 : Ds + 2 ≤ d) (rs : Int32 → zSg → Option (Int32 × zSg)) (hrs : ∀ (x1 : Int32) (g : zSg) (r : Int32 × zSg), rs x1 g = some r → zRn sc hp Ds zM_X5_sum [.ref 10, .int x1] (gm g) (some (.int r.1)) (gm r.2)) (k8 : Int32 → Int32 → Int32 → zSg → Option (Int32 × zSg)) (hk8 : ∀ (y1 : Int32) (y2 : Int32) (y3 : Int32) (g : zSg) (r : Int32 × zSg), k8 y1 y2 y3 g = some r → zG d sc hp (zcd zM_X5_term) 8 [some (.ref 10), some (.int y1), some (.int y2), some (.int y3), none] [] (gm g) ((some (.int r.1)), gm r.2)) (y1 : Int32) (y3 : Int32) (y4 : Int32) (g : zSg) (r : Int32 × zSg) (h : f_X5_term_45 rs k8 y1 y3 y4 g = some r) : zG d sc hp (zcd zM_X5_term) 45 [some (.ref 10), some (.int y1), none, some (.int y3), some (.int y4)] [] (gm g) ((some (.int r.1)), gm r.2) := by
  obtain ⟨d, rfl⟩ : ∃ d', d = d' + 1 := ⟨d - 1, by omega⟩
  unfold f_X5_term_45 at h
  refine g_run 2 (pc' := 49) (L' := [some (.ref 10), some (.int y1), none, some (.int y3), some (.int y4)]) (S' := [.ref 1]) (M' := gm g) rfl ?_
  replace h := zB_of h
  obtain ⟨v1, g2, e3, h⟩ := h
  refine g_inv2 (kd := 1) (p_X9_skip  e3) rfl rfl rfl (by decide) rfl rfl rfl rfl (by omega) (pc' := 52) rfl (S' := []) rfl ?_
  refine g_run 2 (pc' := 54) (L' := [some (.ref 10), some (.int y1), none, some (.int y3), some (.int y4)]) (S' := [.int y1, .ref 10]) (M' := gm g2) rfl ?_
  replace h := zB_of h
  obtain ⟨v4, g5, e6, h⟩ := h
  refine g_inv2 (kd := 1) (p_X5_atom rs hrs  e6) rfl rfl rfl (by decide) rfl rfl rfl rfl (Nat.max_le.mpr ⟨by omega, by omega⟩) (pc' := 57) rfl (S' := [.int v4]) rfl ?_
  refine g_run 5 (pc' := 65) (L' := [some (.ref 10), some (.int y1), some (.int v4), some (.int y3), some (.int y4)]) (S' := [.int ((-y4)), .ref 11]) (M' := gm g5) rfl ?_
  replace h := zB_of h
  obtain ⟨v7, g8, e9, h⟩ := h
  refine g_inv2 (kd := 1) (p_X4_add 11 rfl e9) rfl rfl rfl (by decide) rfl rfl rfl rfl (by omega) (pc' := 68) rfl (S' := []) rfl ?_
  refine g_run 2 (pc' := 8) (L' := [some (.ref 10), some (.int y1), some (.int v4), some (.int ((y3 + 1))), some (.int y4)]) (S' := []) (M' := gm g8) rfl ?_
  refine g_forget (L' := [some (.ref 10), some (.int y1), some (.int v4), some (.int ((y3 + 1))), none]) (And.intro rfl (And.intro rfl (And.intro rfl (And.intro rfl True.intro)))) ?_
  exact hk8 (y1) (v4) (y3 + 1) g8 _ h
def fb_X5_term_8 (rs : Int32 → zSg → Option (Int32 × zSg)) (kk : Int32 → Int32 → Int32 → zSg → Option (Int32 × zSg)) (y1 : Int32) (y2 : Int32) (y3 : Int32) (g : zSg) : Option (Int32 × zSg) := (if y2 = 0 then (if y2 = 0 ∨ y2 = 1 then some (y2, g) else none) else (if 240 ≤ y3 then (if y2 = 0 ∨ y2 = 1 then some (y2, g) else none) else (zB (f_X9_next g) (fun v5 g6 => (if v5 = 42 then f_X5_term_45 rs kk (y1) (y3) (v5) g6 else (if v5 = 47 then f_X5_term_45 rs kk (y1) (y3) (v5) g6 else (if y2 = 0 ∨ y2 = 1 then some (y2, g6) else none)))))))
def f_X5_term_8 (rs : Int32 → zSg → Option (Int32 × zSg)) : Nat → Int32 → Int32 → Int32 → zSg → Option (Int32 × zSg)
  | 0, _, _, _, _ => none
  | n + 1, y1, y2, y3, g => fb_X5_term_8 rs (f_X5_term_8 rs n) y1 y2 y3 g
set_option maxRecDepth 100000 in
set_option maxHeartbeats 4000000 in
theorem p_X5_term_8 {sc : zSc} {hp : zHp} {d : Nat} (hD : 18 ≤ d) {Ds : Nat} (hD1 : Ds + 2 ≤ d) (rs : Int32 → zSg → Option (Int32 × zSg)) (hrs : ∀ (x1 : Int32) (g : zSg) (r : Int32 × zSg), rs x1 g = some r → zRn sc hp Ds zM_X5_sum [.ref 10, .int x1] (gm g) (some (.int r.1)) (gm r.2)) : ∀ (n : Nat) (y1 : Int32) (y2 : Int32) (y3 : Int32) (g : zSg) (r : Int32 × zSg), f_X5_term_8 rs n y1 y2 y3 g = some r → zG d sc hp (zcd zM_X5_term) 8 [some (.ref 10), some (.int y1), some (.int y2), some (.int y3), none] [] (gm g) ((some (.int r.1)), gm r.2) := by
  obtain ⟨d, rfl⟩ : ∃ d', d = d' + 1 := ⟨d - 1, by omega⟩
  intro n
  induction n with
  | zero => intro y1 y2 y3 g r h; cases h
  | succ n ih =>
    intro y1 y2 y3 g r h
    replace h : fb_X5_term_8 rs (f_X5_term_8 rs n) y1 y2 y3 g = some r := h
    unfold fb_X5_term_8 at h
    refine g_run 1 (pc' := 9) (L' := [some (.ref 10), some (.int y1), some (.int y2), some (.int y3), none]) (S' := [.int y2]) (M' := gm g) rfl ?_
    refine g_if (y2 = 0) rfl (t := 74) rfl rfl (fun c1 => ?_) (fun c1 => ?_)
    · replace h := (if_pos c1).symm.trans h
      refine g_run 1 (pc' := 75) (L' := [some (.ref 10), some (.int y1), some (.int y2), some (.int y3), none]) (S' := [.int y2]) (M' := gm g) rfl ?_
      by_cases c2 : y2 = 0 ∨ y2 = 1
      case neg => exact nomatch ((if_neg c2).symm.trans h)
      replace h := (if_pos c2).symm.trans h
      cases h
      exact g_retz rfl rfl c2
    · replace h := (if_neg c1).symm.trans h
      refine g_run 2 (pc' := 16) (L' := [some (.ref 10), some (.int y1), some (.int y2), some (.int y3), none]) (S' := [.int 240, .int y3]) (M' := gm g) rfl ?_
      refine g_icmp (240 ≤ y3) rfl (t := 74) rfl rfl (fun c3 => ?_) (fun c3 => ?_)
      · replace h := (if_pos c3).symm.trans h
        refine g_run 1 (pc' := 75) (L' := [some (.ref 10), some (.int y1), some (.int y2), some (.int y3), none]) (S' := [.int y2]) (M' := gm g) rfl ?_
        by_cases c4 : y2 = 0 ∨ y2 = 1
        case neg => exact nomatch ((if_neg c4).symm.trans h)
        replace h := (if_pos c4).symm.trans h
        cases h
        exact g_retz rfl rfl c4
      · replace h := (if_neg c3).symm.trans h
        refine g_run 2 (pc' := 23) (L' := [some (.ref 10), some (.int y1), some (.int y2), some (.int y3), none]) (S' := [.ref 1]) (M' := gm g) rfl ?_
        replace h := zB_of h
        obtain ⟨v5, g6, e7, h⟩ := h
        refine g_inv2 (kd := 1) (p_X9_next  e7) rfl rfl rfl (by decide) rfl rfl rfl rfl (by omega) (pc' := 26) rfl (S' := [.int v5]) rfl ?_
        refine g_run 3 (pc' := 32) (L' := [some (.ref 10), some (.int y1), some (.int y2), some (.int y3), some (.int v5)]) (S' := [.int 42, .int v5]) (M' := gm g6) rfl ?_
        refine g_icmp (v5 = 42) rfl (t := 45) rfl rfl (fun c8 => ?_) (fun c8 => ?_)
        · replace h := (if_pos c8).symm.trans h
          refine g_forget (L' := [some (.ref 10), some (.int y1), none, some (.int y3), some (.int v5)]) (And.intro rfl (And.intro rfl (And.intro rfl (And.intro rfl True.intro)))) ?_
          exact p_X5_term_45 hD hD1 rs hrs (f_X5_term_8 rs n) ih (y1) (y3) (v5) g6 _ h
        · replace h := (if_neg c8).symm.trans h
          refine g_run 2 (pc' := 39) (L' := [some (.ref 10), some (.int y1), some (.int y2), some (.int y3), some (.int v5)]) (S' := [.int 47, .int v5]) (M' := gm g6) rfl ?_
          refine g_icmp (v5 = 47) rfl (t := 45) rfl rfl (fun c9 => ?_) (fun c9 => ?_)
          · replace h := (if_pos c9).symm.trans h
            refine g_forget (L' := [some (.ref 10), some (.int y1), none, some (.int y3), some (.int v5)]) (And.intro rfl (And.intro rfl (And.intro rfl (And.intro rfl True.intro)))) ?_
            exact p_X5_term_45 hD hD1 rs hrs (f_X5_term_8 rs n) ih (y1) (y3) (v5) g6 _ h
          · replace h := (if_neg c9).symm.trans h
            refine g_run 2 (pc' := 75) (L' := [some (.ref 10), some (.int y1), some (.int y2), some (.int y3), some (.int v5)]) (S' := [.int y2]) (M' := gm g6) rfl ?_
            by_cases c10 : y2 = 0 ∨ y2 = 1
            case neg => exact nomatch ((if_neg c10).symm.trans h)
            replace h := (if_pos c10).symm.trans h
            cases h
            exact g_retz rfl rfl c10
def f_X5_term (rs : Int32 → zSg → Option (Int32 × zSg)) (x1 : Int32) (g : zSg) : Option (Int32 × zSg) := (zB (f_X5_atom rs x1 g) (fun v1 g2 => f_X5_term_8 rs zFu (x1) (v1) (0) g2))
set_option maxRecDepth 100000 in
set_option maxHeartbeats 4000000 in
theorem p_X5_term {sc : zSc} {hp : zHp} {Ds : Nat} (rs : Int32 → zSg → Option (Int32 × zSg)) (hrs : ∀ (x1 : Int32) (g : zSg) (r : Int32 × zSg), rs x1 g = some r → zRn sc hp Ds zM_X5_sum [.ref 10, .int x1] (gm g) (some (.int r.1)) (gm r.2)) {x1 : Int32} {g : zSg} {r : Int32 × zSg} (h : f_X5_term rs x1 g = some r) : zRn sc hp (max (Ds + 2) 18) zM_X5_term [.ref 10, .int x1] (gm g) (some (.int r.1)) (gm r.2) := by
  intro d hD
  obtain ⟨hD1, hD⟩ := Nat.max_le.mp hD
  obtain ⟨d, rfl⟩ : ∃ d', d = d' + 1 := ⟨d - 1, by omega⟩
  show zG _ sc hp (zcd zM_X5_term) 0 [some (.ref 10), some (.int x1), none, none, none] [] (gm g) _
  unfold f_X5_term at h
  refine g_run 2 (pc' := 2) (L' := [some (.ref 10), some (.int x1), none, none, none]) (S' := [.int x1, .ref 10]) (M' := gm g) rfl ?_
  replace h := zB_of h
  obtain ⟨v1, g2, e3, h⟩ := h
  refine g_inv2 (kd := 1) (p_X5_atom rs hrs  e3) rfl rfl rfl (by decide) rfl rfl rfl rfl (Nat.max_le.mpr ⟨by omega, by omega⟩) (pc' := 5) rfl (S' := [.int v1]) rfl ?_
  refine g_run 3 (pc' := 8) (L' := [some (.ref 10), some (.int x1), some (.int v1), some (.int 0), none]) (S' := []) (M' := gm g2) rfl ?_
  exact p_X5_term_8 hD hD1 rs hrs zFu (x1) (v1) (0) g2 _ h
def f_X5_sum_45 (rs : Int32 → zSg → Option (Int32 × zSg)) (k8 : Int32 → Int32 → Int32 → zSg → Option (Int32 × zSg)) (y1 : Int32) (y3 : Int32) (y4 : Int32) (g : zSg) : Option (Int32 × zSg) := (zB (f_X9_skip g) (fun v1 g2 => (zB (f_X5_term rs y1 g2) (fun v4 g5 => (zB (f_X4_add 11 (-y4) g5) (fun v7 g8 => k8 (y1) (v4) (y3 + 1) g8))))))
set_option maxRecDepth 100000 in
set_option maxHeartbeats 4000000 in
theorem p_X5_sum_45 {sc : zSc} {hp : zHp} {d : Nat} (hD : 19 ≤ d) {Ds : Nat} (hD1 : Ds + 3 ≤ d) (rs : Int32 → zSg → Option (Int32 × zSg)) (hrs : ∀ (x1 : Int32) (g : zSg) (r : Int32 × zSg), rs x1 g = some r → zRn sc hp Ds zM_X5_sum [.ref 10, .int x1] (gm g) (some (.int r.1)) (gm r.2)) (k8 : Int32 → Int32 → Int32 → zSg → Option (Int32 × zSg)) (hk8 : ∀ (y1 : Int32) (y2 : Int32) (y3 : Int32) (g : zSg) (r : Int32 × zSg), k8 y1 y2 y3 g = some r → zG d sc hp (zcd zM_X5_sum) 8 [some (.ref 10), some (.int y1), some (.int y2), some (.int y3), none] [] (gm g) ((some (.int r.1)), gm r.2)) (y1 : Int32) (y3 : Int32) (y4 : Int32) (g : zSg) (r : Int32 × zSg) (h : f_X5_sum_45 rs k8 y1 y3 y4 g = some r) : zG d sc hp (zcd zM_X5_sum) 45 [some (.ref 10), some (.int y1), none, some (.int y3), some (.int y4)] [] (gm g) ((some (.int r.1)), gm r.2) := by
  obtain ⟨d, rfl⟩ : ∃ d', d = d' + 1 := ⟨d - 1, by omega⟩
  unfold f_X5_sum_45 at h
  refine g_run 2 (pc' := 49) (L' := [some (.ref 10), some (.int y1), none, some (.int y3), some (.int y4)]) (S' := [.ref 1]) (M' := gm g) rfl ?_
  replace h := zB_of h
  obtain ⟨v1, g2, e3, h⟩ := h
  refine g_inv2 (kd := 1) (p_X9_skip  e3) rfl rfl rfl (by decide) rfl rfl rfl rfl (by omega) (pc' := 52) rfl (S' := []) rfl ?_
  refine g_run 2 (pc' := 54) (L' := [some (.ref 10), some (.int y1), none, some (.int y3), some (.int y4)]) (S' := [.int y1, .ref 10]) (M' := gm g2) rfl ?_
  replace h := zB_of h
  obtain ⟨v4, g5, e6, h⟩ := h
  refine g_inv2 (kd := 1) (p_X5_term rs hrs  e6) rfl rfl rfl (by decide) rfl rfl rfl rfl (Nat.max_le.mpr ⟨by omega, by omega⟩) (pc' := 57) rfl (S' := [.int v4]) rfl ?_
  refine g_run 5 (pc' := 65) (L' := [some (.ref 10), some (.int y1), some (.int v4), some (.int y3), some (.int y4)]) (S' := [.int ((-y4)), .ref 11]) (M' := gm g5) rfl ?_
  replace h := zB_of h
  obtain ⟨v7, g8, e9, h⟩ := h
  refine g_inv2 (kd := 1) (p_X4_add 11 rfl e9) rfl rfl rfl (by decide) rfl rfl rfl rfl (by omega) (pc' := 68) rfl (S' := []) rfl ?_
  refine g_run 2 (pc' := 8) (L' := [some (.ref 10), some (.int y1), some (.int v4), some (.int ((y3 + 1))), some (.int y4)]) (S' := []) (M' := gm g8) rfl ?_
  refine g_forget (L' := [some (.ref 10), some (.int y1), some (.int v4), some (.int ((y3 + 1))), none]) (And.intro rfl (And.intro rfl (And.intro rfl (And.intro rfl True.intro)))) ?_
  exact hk8 (y1) (v4) (y3 + 1) g8 _ h
def fb_X5_sum_8 (rs : Int32 → zSg → Option (Int32 × zSg)) (kk : Int32 → Int32 → Int32 → zSg → Option (Int32 × zSg)) (y1 : Int32) (y2 : Int32) (y3 : Int32) (g : zSg) : Option (Int32 × zSg) := (if y2 = 0 then (if y2 = 0 ∨ y2 = 1 then some (y2, g) else none) else (if 240 ≤ y3 then (if y2 = 0 ∨ y2 = 1 then some (y2, g) else none) else (zB (f_X9_next g) (fun v5 g6 => (if v5 = 43 then f_X5_sum_45 rs kk (y1) (y3) (v5) g6 else (if v5 = 45 then f_X5_sum_45 rs kk (y1) (y3) (v5) g6 else (if y2 = 0 ∨ y2 = 1 then some (y2, g6) else none)))))))
def f_X5_sum_8 (rs : Int32 → zSg → Option (Int32 × zSg)) : Nat → Int32 → Int32 → Int32 → zSg → Option (Int32 × zSg)
  | 0, _, _, _, _ => none
  | n + 1, y1, y2, y3, g => fb_X5_sum_8 rs (f_X5_sum_8 rs n) y1 y2 y3 g
set_option maxRecDepth 100000 in
set_option maxHeartbeats 4000000 in
theorem p_X5_sum_8 {sc : zSc} {hp : zHp} {d : Nat} (hD : 19 ≤ d) {Ds : Nat} (hD1 : Ds + 3 ≤ d) (rs : Int32 → zSg → Option (Int32 × zSg)) (hrs : ∀ (x1 : Int32) (g : zSg) (r : Int32 × zSg), rs x1 g = some r → zRn sc hp Ds zM_X5_sum [.ref 10, .int x1] (gm g) (some (.int r.1)) (gm r.2)) : ∀ (n : Nat) (y1 : Int32) (y2 : Int32) (y3 : Int32) (g : zSg) (r : Int32 × zSg), f_X5_sum_8 rs n y1 y2 y3 g = some r → zG d sc hp (zcd zM_X5_sum) 8 [some (.ref 10), some (.int y1), some (.int y2), some (.int y3), none] [] (gm g) ((some (.int r.1)), gm r.2) := by
  obtain ⟨d, rfl⟩ : ∃ d', d = d' + 1 := ⟨d - 1, by omega⟩
  intro n
  induction n with
  | zero => intro y1 y2 y3 g r h; cases h
  | succ n ih =>
    intro y1 y2 y3 g r h
    replace h : fb_X5_sum_8 rs (f_X5_sum_8 rs n) y1 y2 y3 g = some r := h
    unfold fb_X5_sum_8 at h
    refine g_run 1 (pc' := 9) (L' := [some (.ref 10), some (.int y1), some (.int y2), some (.int y3), none]) (S' := [.int y2]) (M' := gm g) rfl ?_
    refine g_if (y2 = 0) rfl (t := 74) rfl rfl (fun c1 => ?_) (fun c1 => ?_)
    · replace h := (if_pos c1).symm.trans h
      refine g_run 1 (pc' := 75) (L' := [some (.ref 10), some (.int y1), some (.int y2), some (.int y3), none]) (S' := [.int y2]) (M' := gm g) rfl ?_
      by_cases c2 : y2 = 0 ∨ y2 = 1
      case neg => exact nomatch ((if_neg c2).symm.trans h)
      replace h := (if_pos c2).symm.trans h
      cases h
      exact g_retz rfl rfl c2
    · replace h := (if_neg c1).symm.trans h
      refine g_run 2 (pc' := 16) (L' := [some (.ref 10), some (.int y1), some (.int y2), some (.int y3), none]) (S' := [.int 240, .int y3]) (M' := gm g) rfl ?_
      refine g_icmp (240 ≤ y3) rfl (t := 74) rfl rfl (fun c3 => ?_) (fun c3 => ?_)
      · replace h := (if_pos c3).symm.trans h
        refine g_run 1 (pc' := 75) (L' := [some (.ref 10), some (.int y1), some (.int y2), some (.int y3), none]) (S' := [.int y2]) (M' := gm g) rfl ?_
        by_cases c4 : y2 = 0 ∨ y2 = 1
        case neg => exact nomatch ((if_neg c4).symm.trans h)
        replace h := (if_pos c4).symm.trans h
        cases h
        exact g_retz rfl rfl c4
      · replace h := (if_neg c3).symm.trans h
        refine g_run 2 (pc' := 23) (L' := [some (.ref 10), some (.int y1), some (.int y2), some (.int y3), none]) (S' := [.ref 1]) (M' := gm g) rfl ?_
        replace h := zB_of h
        obtain ⟨v5, g6, e7, h⟩ := h
        refine g_inv2 (kd := 1) (p_X9_next  e7) rfl rfl rfl (by decide) rfl rfl rfl rfl (by omega) (pc' := 26) rfl (S' := [.int v5]) rfl ?_
        refine g_run 3 (pc' := 32) (L' := [some (.ref 10), some (.int y1), some (.int y2), some (.int y3), some (.int v5)]) (S' := [.int 43, .int v5]) (M' := gm g6) rfl ?_
        refine g_icmp (v5 = 43) rfl (t := 45) rfl rfl (fun c8 => ?_) (fun c8 => ?_)
        · replace h := (if_pos c8).symm.trans h
          refine g_forget (L' := [some (.ref 10), some (.int y1), none, some (.int y3), some (.int v5)]) (And.intro rfl (And.intro rfl (And.intro rfl (And.intro rfl True.intro)))) ?_
          exact p_X5_sum_45 hD hD1 rs hrs (f_X5_sum_8 rs n) ih (y1) (y3) (v5) g6 _ h
        · replace h := (if_neg c8).symm.trans h
          refine g_run 2 (pc' := 39) (L' := [some (.ref 10), some (.int y1), some (.int y2), some (.int y3), some (.int v5)]) (S' := [.int 45, .int v5]) (M' := gm g6) rfl ?_
          refine g_icmp (v5 = 45) rfl (t := 45) rfl rfl (fun c9 => ?_) (fun c9 => ?_)
          · replace h := (if_pos c9).symm.trans h
            refine g_forget (L' := [some (.ref 10), some (.int y1), none, some (.int y3), some (.int v5)]) (And.intro rfl (And.intro rfl (And.intro rfl (And.intro rfl True.intro)))) ?_
            exact p_X5_sum_45 hD hD1 rs hrs (f_X5_sum_8 rs n) ih (y1) (y3) (v5) g6 _ h
          · replace h := (if_neg c9).symm.trans h
            refine g_run 2 (pc' := 75) (L' := [some (.ref 10), some (.int y1), some (.int y2), some (.int y3), some (.int v5)]) (S' := [.int y2]) (M' := gm g6) rfl ?_
            by_cases c10 : y2 = 0 ∨ y2 = 1
            case neg => exact nomatch ((if_neg c10).symm.trans h)
            replace h := (if_pos c10).symm.trans h
            cases h
            exact g_retz rfl rfl c10
def f_X5_sum_b (rs : Int32 → zSg → Option (Int32 × zSg)) (x1 : Int32) (g : zSg) : Option (Int32 × zSg) := (zB (f_X5_term rs x1 g) (fun v1 g2 => f_X5_sum_8 rs zFu (x1) (v1) (0) g2))
set_option maxRecDepth 100000 in
set_option maxHeartbeats 4000000 in
theorem p_X5_sum_b {sc : zSc} {hp : zHp} {Ds : Nat} (rs : Int32 → zSg → Option (Int32 × zSg)) (hrs : ∀ (x1 : Int32) (g : zSg) (r : Int32 × zSg), rs x1 g = some r → zRn sc hp Ds zM_X5_sum [.ref 10, .int x1] (gm g) (some (.int r.1)) (gm r.2)) {x1 : Int32} {g : zSg} {r : Int32 × zSg} (h : f_X5_sum_b rs x1 g = some r) : zRn sc hp (max (Ds + 3) 19) zM_X5_sum [.ref 10, .int x1] (gm g) (some (.int r.1)) (gm r.2) := by
  intro d hD
  obtain ⟨hD1, hD⟩ := Nat.max_le.mp hD
  obtain ⟨d, rfl⟩ : ∃ d', d = d' + 1 := ⟨d - 1, by omega⟩
  show zG _ sc hp (zcd zM_X5_sum) 0 [some (.ref 10), some (.int x1), none, none, none] [] (gm g) _
  unfold f_X5_sum_b at h
  refine g_run 2 (pc' := 2) (L' := [some (.ref 10), some (.int x1), none, none, none]) (S' := [.int x1, .ref 10]) (M' := gm g) rfl ?_
  replace h := zB_of h
  obtain ⟨v1, g2, e3, h⟩ := h
  refine g_inv2 (kd := 1) (p_X5_term rs hrs  e3) rfl rfl rfl (by decide) rfl rfl rfl rfl (Nat.max_le.mpr ⟨by omega, by omega⟩) (pc' := 5) rfl (S' := [.int v1]) rfl ?_
  refine g_run 3 (pc' := 8) (L' := [some (.ref 10), some (.int x1), some (.int v1), some (.int 0), none]) (S' := []) (M' := gm g2) rfl ?_
  exact p_X5_sum_8 hD hD1 rs hrs zFu (x1) (v1) (0) g2 _ h
def f_X5_sum : Nat → Int32 → zSg → Option (Int32 × zSg)
  | 0, _, _ => none
  | n + 1, x1, g => f_X5_sum_b (f_X5_sum n) x1 g
theorem p_X5_sum {sc : zSc} {hp : zHp} : ∀ (n : Nat) (x1 : Int32) (g : zSg) (r : Int32 × zSg), f_X5_sum n x1 g = some r → zRn sc hp (19 + 3 * n) zM_X5_sum [.ref 10, .int x1] (gm g) (some (.int r.1)) (gm r.2) := by
  intro n
  induction n with
  | zero => intro x1 g r h; cases h
  | succ n ih =>
    intro x1 g r h d hd
    exact p_X5_sum_b (f_X5_sum n) ih h d (Nat.max_le.mpr ⟨by omega, by omega⟩)
def f_X5_isComparing (x1 : Int32) (g : zSg) : Option (Int32 × zSg) := (if x1 = 61 then some (1, g) else (if x1 = 60 then some (1, g) else (if ¬ x1 = 62 then some (0, g) else some (1, g))))
set_option maxRecDepth 100000 in
set_option maxHeartbeats 4000000 in
theorem p_X5_isComparing {sc : zSc} {hp : zHp} {x1 : Int32} {g : zSg} {r : Int32 × zSg} (h : f_X5_isComparing x1 g = some r) : zRn sc hp 0 zM_X5_isComparing [.int x1] (gm g) (some (.int r.1)) (gm r.2) := by
  intro d hD
  show zG _ sc hp (zcd zM_X5_isComparing) 0 [some (.int x1)] [] (gm g) _
  unfold f_X5_isComparing at h
  refine g_run 2 (pc' := 3) (L' := [some (.int x1)]) (S' := [.int 61, .int x1]) (M' := gm g) rfl ?_
  refine g_icmp (x1 = 61) rfl (t := 18) rfl rfl (fun c1 => ?_) (fun c1 => ?_)
  · replace h := (if_pos c1).symm.trans h
    refine g_run 2 (pc' := 23) (L' := [some (.int x1)]) (S' := [.int 1]) (M' := gm g) rfl ?_
    cases h
    exact g_ret rfl rfl rfl rfl
  · replace h := (if_neg c1).symm.trans h
    refine g_run 2 (pc' := 9) (L' := [some (.int x1)]) (S' := [.int 60, .int x1]) (M' := gm g) rfl ?_
    refine g_icmp (x1 = 60) rfl (t := 18) rfl rfl (fun c2 => ?_) (fun c2 => ?_)
    · replace h := (if_pos c2).symm.trans h
      refine g_run 2 (pc' := 23) (L' := [some (.int x1)]) (S' := [.int 1]) (M' := gm g) rfl ?_
      cases h
      exact g_ret rfl rfl rfl rfl
    · replace h := (if_neg c2).symm.trans h
      refine g_run 2 (pc' := 15) (L' := [some (.int x1)]) (S' := [.int 62, .int x1]) (M' := gm g) rfl ?_
      refine g_icmp (¬ x1 = 62) rfl (t := 22) rfl rfl (fun c3 => ?_) (fun c3 => ?_)
      · replace h := (if_pos c3).symm.trans h
        refine g_run 1 (pc' := 23) (L' := [some (.int x1)]) (S' := [.int 0]) (M' := gm g) rfl ?_
        cases h
        exact g_ret rfl rfl rfl rfl
      · replace h := (if_neg c3).symm.trans h
        refine g_run 2 (pc' := 23) (L' := [some (.int x1)]) (S' := [.int 1]) (M' := gm g) rfl ?_
        cases h
        exact g_ret rfl rfl rfl rfl
def f_X5_comparison (x1 : Int32) (g : zSg) : Option (Int32 × zSg) := (zB (f_X9_next g) (fun v1 g2 => (zB (f_X5_isComparing v1 g2) (fun v4 g5 => (if ¬ v4 = 0 then (zB (f_X9_skip g5) (fun v8 g9 => (zB (f_X5_sum zDp x1 g9) (fun v11 g12 => (if ¬ v11 = 0 then (zB (f_X4_add 11 (-v1) g12) (fun v15 g16 => some (1, g16))) else some (0, g12)))))) else some (0, g5))))))
set_option maxRecDepth 100000 in
set_option maxHeartbeats 4000000 in
theorem p_X5_comparison {sc : zSc} {hp : zHp} {x1 : Int32} {g : zSg} {r : Int32 × zSg} (h : f_X5_comparison x1 g = some r) : zRn sc hp 92 zM_X5_comparison [.ref 10, .int x1] (gm g) (some (.int r.1)) (gm r.2) := by
  intro d hD
  obtain ⟨d, rfl⟩ : ∃ d', d = d' + 1 := ⟨d - 1, by omega⟩
  show zG _ sc hp (zcd zM_X5_comparison) 0 [some (.ref 10), some (.int x1), none] [] (gm g) _
  unfold f_X5_comparison at h
  refine g_run 2 (pc' := 4) (L' := [some (.ref 10), some (.int x1), none]) (S' := [.ref 1]) (M' := gm g) rfl ?_
  replace h := zB_of h
  obtain ⟨v1, g2, e3, h⟩ := h
  refine g_inv2 (kd := 1) (p_X9_next  e3) rfl rfl rfl (by decide) rfl rfl rfl rfl (by omega) (pc' := 7) rfl (S' := [.int v1]) rfl ?_
  refine g_run 2 (pc' := 9) (L' := [some (.ref 10), some (.int x1), some (.int v1)]) (S' := [.int v1]) (M' := gm g2) rfl ?_
  replace h := zB_of h
  obtain ⟨v4, g5, e6, h⟩ := h
  refine g_inv2 (kd := 0) (p_X5_isComparing  e6) rfl rfl rfl (by decide) rfl rfl rfl rfl (by omega) (pc' := 12) rfl (S' := [.int v4]) rfl ?_
  refine g_if (¬ v4 = 0) rfl (t := 17) rfl rfl (fun c7 => ?_) (fun c7 => ?_)
  · replace h := (if_pos c7).symm.trans h
    refine g_run 2 (pc' := 21) (L' := [some (.ref 10), some (.int x1), some (.int v1)]) (S' := [.ref 1]) (M' := gm g5) rfl ?_
    replace h := zB_of h
    obtain ⟨v8, g9, e10, h⟩ := h
    refine g_inv2 (kd := 1) (p_X9_skip  e10) rfl rfl rfl (by decide) rfl rfl rfl rfl (by omega) (pc' := 24) rfl (S' := []) rfl ?_
    refine g_run 2 (pc' := 26) (L' := [some (.ref 10), some (.int x1), some (.int v1)]) (S' := [.int x1, .ref 10]) (M' := gm g9) rfl ?_
    replace h := zB_of h
    obtain ⟨v11, g12, e13, h⟩ := h
    refine g_inv2 (kd := 1) (p_X5_sum zDp x1 g9 _ e13) rfl rfl rfl (by decide) rfl rfl rfl rfl (by show _ ≤ _; unfold zDp; omega) (pc' := 29) rfl (S' := [.int v11]) rfl ?_
    refine g_if (¬ v11 = 0) rfl (t := 34) rfl rfl (fun c14 => ?_) (fun c14 => ?_)
    · replace h := (if_pos c14).symm.trans h
      refine g_run 4 (pc' := 40) (L' := [some (.ref 10), some (.int x1), some (.int v1)]) (S' := [.int ((-v1)), .ref 11]) (M' := gm g12) rfl ?_
      replace h := zB_of h
      obtain ⟨v15, g16, e17, h⟩ := h
      refine g_inv2 (kd := 1) (p_X4_add 11 rfl e17) rfl rfl rfl (by decide) rfl rfl rfl rfl (by omega) (pc' := 43) rfl (S' := []) rfl ?_
      refine g_run 1 (pc' := 44) (L' := [some (.ref 10), some (.int x1), some (.int v1)]) (S' := [.int 1]) (M' := gm g16) rfl ?_
      cases h
      exact g_ret rfl rfl rfl rfl
    · replace h := (if_neg c14).symm.trans h
      refine g_run 1 (pc' := 33) (L' := [some (.ref 10), some (.int x1), some (.int v1)]) (S' := [.int 0]) (M' := gm g12) rfl ?_
      cases h
      exact g_ret rfl rfl rfl rfl
  · replace h := (if_neg c7).symm.trans h
    refine g_run 1 (pc' := 16) (L' := [some (.ref 10), some (.int x1), some (.int v1)]) (S' := [.int 0]) (M' := gm g5) rfl ?_
    cases h
    exact g_ret rfl rfl rfl rfl
def fb_X5_moreUnits_2 (rs : Int32 → zSg → Option (Int32 × zSg)) (kk : Int32 → Int32 → zSg → Option (Int32 × zSg)) (y1 : Int32) (y2 : Int32) (g : zSg) : Option (Int32 × zSg) := (if 240 ≤ y2 then some (1, g) else (zB (f_X9_take 38 g) (fun v2 g3 => (if v2 = 0 then some (1, g3) else (zB (rs y1 g3) (fun v6 g7 => (if ¬ v6 = 0 then (zB (f_X4_add 11 (-38) g7) (fun v10 g11 => kk (y1) (y2 + 1) g11)) else some (0, g7))))))))
def f_X5_moreUnits_2 (rs : Int32 → zSg → Option (Int32 × zSg)) : Nat → Int32 → Int32 → zSg → Option (Int32 × zSg)
  | 0, _, _, _ => none
  | n + 1, y1, y2, g => fb_X5_moreUnits_2 rs (f_X5_moreUnits_2 rs n) y1 y2 g
set_option maxRecDepth 100000 in
set_option maxHeartbeats 4000000 in
theorem p_X5_moreUnits_2 {sc : zSc} {hp : zHp} {d : Nat} (hD : 2 ≤ d) {Ds : Nat} (hD1 : Ds + 1 ≤ d) (rs : Int32 → zSg → Option (Int32 × zSg)) (hrs : ∀ (x1 : Int32) (g : zSg) (r : Int32 × zSg), rs x1 g = some r → zRn sc hp Ds zM_X5_unit [.ref 10, .int x1] (gm g) (some (.int r.1)) (gm r.2)) : ∀ (n : Nat) (y1 : Int32) (y2 : Int32) (g : zSg) (r : Int32 × zSg), f_X5_moreUnits_2 rs n y1 y2 g = some r → zG d sc hp (zcd zM_X5_moreUnits) 2 [some (.ref 10), some (.int y1), some (.int y2)] [] (gm g) ((some (.int r.1)), gm r.2) := by
  obtain ⟨d, rfl⟩ : ∃ d', d = d' + 1 := ⟨d - 1, by omega⟩
  intro n
  induction n with
  | zero => intro y1 y2 g r h; cases h
  | succ n ih =>
    intro y1 y2 g r h
    replace h : fb_X5_moreUnits_2 rs (f_X5_moreUnits_2 rs n) y1 y2 g = some r := h
    unfold fb_X5_moreUnits_2 at h
    refine g_run 2 (pc' := 6) (L' := [some (.ref 10), some (.int y1), some (.int y2)]) (S' := [.int 240, .int y2]) (M' := gm g) rfl ?_
    refine g_icmp (240 ≤ y2) rfl (t := 46) rfl rfl (fun c1 => ?_) (fun c1 => ?_)
    · replace h := (if_pos c1).symm.trans h
      refine g_run 1 (pc' := 47) (L' := [some (.ref 10), some (.int y1), some (.int y2)]) (S' := [.int 1]) (M' := gm g) rfl ?_
      cases h
      exact g_ret rfl rfl rfl rfl
    · replace h := (if_neg c1).symm.trans h
      refine g_run 3 (pc' := 15) (L' := [some (.ref 10), some (.int y1), some (.int y2)]) (S' := [.int 38, .ref 1]) (M' := gm g) rfl ?_
      replace h := zB_of h
      obtain ⟨v2, g3, e4, h⟩ := h
      refine g_inv2 (kd := 1) (p_X9_take  e4) rfl rfl rfl (by decide) rfl rfl rfl rfl (by omega) (pc' := 18) rfl (S' := [.int v2]) rfl ?_
      refine g_if (v2 = 0) rfl (t := 46) rfl rfl (fun c5 => ?_) (fun c5 => ?_)
      · replace h := (if_pos c5).symm.trans h
        refine g_run 1 (pc' := 47) (L' := [some (.ref 10), some (.int y1), some (.int y2)]) (S' := [.int 1]) (M' := gm g3) rfl ?_
        cases h
        exact g_ret rfl rfl rfl rfl
      · replace h := (if_neg c5).symm.trans h
        refine g_run 2 (pc' := 23) (L' := [some (.ref 10), some (.int y1), some (.int y2)]) (S' := [.int y1, .ref 10]) (M' := gm g3) rfl ?_
        replace h := zB_of h
        obtain ⟨v6, g7, e8, h⟩ := h
        refine g_inv2 (kd := 1) (hrs y1 g3 _ e8) rfl rfl rfl (by decide) rfl rfl rfl rfl (by omega) (pc' := 26) rfl (S' := [.int v6]) rfl ?_
        refine g_if (¬ v6 = 0) rfl (t := 31) rfl rfl (fun c9 => ?_) (fun c9 => ?_)
        · replace h := (if_pos c9).symm.trans h
          refine g_run 3 (pc' := 37) (L' := [some (.ref 10), some (.int y1), some (.int y2)]) (S' := [.int (-38), .ref 11]) (M' := gm g7) rfl ?_
          replace h := zB_of h
          obtain ⟨v10, g11, e12, h⟩ := h
          refine g_inv2 (kd := 1) (p_X4_add 11 rfl e12) rfl rfl rfl (by decide) rfl rfl rfl rfl (by omega) (pc' := 40) rfl (S' := []) rfl ?_
          refine g_run 2 (pc' := 2) (L' := [some (.ref 10), some (.int y1), some (.int ((y2 + 1)))]) (S' := []) (M' := gm g11) rfl ?_
          exact ih (y1) (y2 + 1) g11 _ h
        · replace h := (if_neg c9).symm.trans h
          refine g_run 1 (pc' := 30) (L' := [some (.ref 10), some (.int y1), some (.int y2)]) (S' := [.int 0]) (M' := gm g7) rfl ?_
          cases h
          exact g_ret rfl rfl rfl rfl
def f_X5_moreUnits (rs : Int32 → zSg → Option (Int32 × zSg)) (x1 : Int32) (g : zSg) : Option (Int32 × zSg) := f_X5_moreUnits_2 rs zFu (x1) (0) g
set_option maxRecDepth 100000 in
set_option maxHeartbeats 4000000 in
theorem p_X5_moreUnits {sc : zSc} {hp : zHp} {Ds : Nat} (rs : Int32 → zSg → Option (Int32 × zSg)) (hrs : ∀ (x1 : Int32) (g : zSg) (r : Int32 × zSg), rs x1 g = some r → zRn sc hp Ds zM_X5_unit [.ref 10, .int x1] (gm g) (some (.int r.1)) (gm r.2)) {x1 : Int32} {g : zSg} {r : Int32 × zSg} (h : f_X5_moreUnits rs x1 g = some r) : zRn sc hp (max (Ds + 1) 2) zM_X5_moreUnits [.ref 10, .int x1] (gm g) (some (.int r.1)) (gm r.2) := by
  intro d hD
  obtain ⟨hD1, hD⟩ := Nat.max_le.mp hD
  obtain ⟨d, rfl⟩ : ∃ d', d = d' + 1 := ⟨d - 1, by omega⟩
  show zG _ sc hp (zcd zM_X5_moreUnits) 0 [some (.ref 10), some (.int x1), none] [] (gm g) _
  unfold f_X5_moreUnits at h
  refine g_run 2 (pc' := 2) (L' := [some (.ref 10), some (.int x1), some (.int 0)]) (S' := []) (M' := gm g) rfl ?_
  exact p_X5_moreUnits_2 hD hD1 rs hrs zFu (x1) (0) g _ h
def fb_X5_moreTruths_2 (rs : Int32 → zSg → Option (Int32 × zSg)) (kk : Int32 → Int32 → zSg → Option (Int32 × zSg)) (y1 : Int32) (y2 : Int32) (g : zSg) : Option (Int32 × zSg) := (if 240 ≤ y2 then some (1, g) else (zB (f_X9_take 124 g) (fun v2 g3 => (if v2 = 0 then some (1, g3) else (zB (rs y1 g3) (fun v6 g7 => (if v6 = 0 then some (0, g7) else (zB (f_X5_moreUnits rs y1 g7) (fun v10 g11 => (if ¬ v10 = 0 then (zB (f_X4_add 11 (-124) g11) (fun v14 g15 => kk (y1) (y2 + 1) g15)) else some (0, g11)))))))))))
def f_X5_moreTruths_2 (rs : Int32 → zSg → Option (Int32 × zSg)) : Nat → Int32 → Int32 → zSg → Option (Int32 × zSg)
  | 0, _, _, _ => none
  | n + 1, y1, y2, g => fb_X5_moreTruths_2 rs (f_X5_moreTruths_2 rs n) y1 y2 g
set_option maxRecDepth 100000 in
set_option maxHeartbeats 4000000 in
theorem p_X5_moreTruths_2 {sc : zSc} {hp : zHp} {d : Nat} (hD : 3 ≤ d) {Ds : Nat} (hD1 : Ds + 2 ≤ d) (rs : Int32 → zSg → Option (Int32 × zSg)) (hrs : ∀ (x1 : Int32) (g : zSg) (r : Int32 × zSg), rs x1 g = some r → zRn sc hp Ds zM_X5_unit [.ref 10, .int x1] (gm g) (some (.int r.1)) (gm r.2)) : ∀ (n : Nat) (y1 : Int32) (y2 : Int32) (g : zSg) (r : Int32 × zSg), f_X5_moreTruths_2 rs n y1 y2 g = some r → zG d sc hp (zcd zM_X5_moreTruths) 2 [some (.ref 10), some (.int y1), some (.int y2)] [] (gm g) ((some (.int r.1)), gm r.2) := by
  obtain ⟨d, rfl⟩ : ∃ d', d = d' + 1 := ⟨d - 1, by omega⟩
  intro n
  induction n with
  | zero => intro y1 y2 g r h; cases h
  | succ n ih =>
    intro y1 y2 g r h
    replace h : fb_X5_moreTruths_2 rs (f_X5_moreTruths_2 rs n) y1 y2 g = some r := h
    unfold fb_X5_moreTruths_2 at h
    refine g_run 2 (pc' := 6) (L' := [some (.ref 10), some (.int y1), some (.int y2)]) (S' := [.int 240, .int y2]) (M' := gm g) rfl ?_
    refine g_icmp (240 ≤ y2) rfl (t := 54) rfl rfl (fun c1 => ?_) (fun c1 => ?_)
    · replace h := (if_pos c1).symm.trans h
      refine g_run 1 (pc' := 55) (L' := [some (.ref 10), some (.int y1), some (.int y2)]) (S' := [.int 1]) (M' := gm g) rfl ?_
      cases h
      exact g_ret rfl rfl rfl rfl
    · replace h := (if_neg c1).symm.trans h
      refine g_run 3 (pc' := 15) (L' := [some (.ref 10), some (.int y1), some (.int y2)]) (S' := [.int 124, .ref 1]) (M' := gm g) rfl ?_
      replace h := zB_of h
      obtain ⟨v2, g3, e4, h⟩ := h
      refine g_inv2 (kd := 1) (p_X9_take  e4) rfl rfl rfl (by decide) rfl rfl rfl rfl (by omega) (pc' := 18) rfl (S' := [.int v2]) rfl ?_
      refine g_if (v2 = 0) rfl (t := 54) rfl rfl (fun c5 => ?_) (fun c5 => ?_)
      · replace h := (if_pos c5).symm.trans h
        refine g_run 1 (pc' := 55) (L' := [some (.ref 10), some (.int y1), some (.int y2)]) (S' := [.int 1]) (M' := gm g3) rfl ?_
        cases h
        exact g_ret rfl rfl rfl rfl
      · replace h := (if_neg c5).symm.trans h
        refine g_run 2 (pc' := 23) (L' := [some (.ref 10), some (.int y1), some (.int y2)]) (S' := [.int y1, .ref 10]) (M' := gm g3) rfl ?_
        replace h := zB_of h
        obtain ⟨v6, g7, e8, h⟩ := h
        refine g_inv2 (kd := 1) (hrs y1 g3 _ e8) rfl rfl rfl (by decide) rfl rfl rfl rfl (by omega) (pc' := 26) rfl (S' := [.int v6]) rfl ?_
        refine g_if (v6 = 0) rfl (t := 37) rfl rfl (fun c9 => ?_) (fun c9 => ?_)
        · replace h := (if_pos c9).symm.trans h
          refine g_run 1 (pc' := 38) (L' := [some (.ref 10), some (.int y1), some (.int y2)]) (S' := [.int 0]) (M' := gm g7) rfl ?_
          cases h
          exact g_ret rfl rfl rfl rfl
        · replace h := (if_neg c9).symm.trans h
          refine g_run 2 (pc' := 31) (L' := [some (.ref 10), some (.int y1), some (.int y2)]) (S' := [.int y1, .ref 10]) (M' := gm g7) rfl ?_
          replace h := zB_of h
          obtain ⟨v10, g11, e12, h⟩ := h
          refine g_inv2 (kd := 1) (p_X5_moreUnits rs hrs  e12) rfl rfl rfl (by decide) rfl rfl rfl rfl (Nat.max_le.mpr ⟨by omega, by omega⟩) (pc' := 34) rfl (S' := [.int v10]) rfl ?_
          refine g_if (¬ v10 = 0) rfl (t := 39) rfl rfl (fun c13 => ?_) (fun c13 => ?_)
          · replace h := (if_pos c13).symm.trans h
            refine g_run 3 (pc' := 45) (L' := [some (.ref 10), some (.int y1), some (.int y2)]) (S' := [.int (-124), .ref 11]) (M' := gm g11) rfl ?_
            replace h := zB_of h
            obtain ⟨v14, g15, e16, h⟩ := h
            refine g_inv2 (kd := 1) (p_X4_add 11 rfl e16) rfl rfl rfl (by decide) rfl rfl rfl rfl (by omega) (pc' := 48) rfl (S' := []) rfl ?_
            refine g_run 2 (pc' := 2) (L' := [some (.ref 10), some (.int y1), some (.int ((y2 + 1)))]) (S' := []) (M' := gm g15) rfl ?_
            exact ih (y1) (y2 + 1) g15 _ h
          · replace h := (if_neg c13).symm.trans h
            refine g_run 1 (pc' := 38) (L' := [some (.ref 10), some (.int y1), some (.int y2)]) (S' := [.int 0]) (M' := gm g11) rfl ?_
            cases h
            exact g_ret rfl rfl rfl rfl
def f_X5_moreTruths (rs : Int32 → zSg → Option (Int32 × zSg)) (x1 : Int32) (g : zSg) : Option (Int32 × zSg) := f_X5_moreTruths_2 rs zFu (x1) (0) g
set_option maxRecDepth 100000 in
set_option maxHeartbeats 4000000 in
theorem p_X5_moreTruths {sc : zSc} {hp : zHp} {Ds : Nat} (rs : Int32 → zSg → Option (Int32 × zSg)) (hrs : ∀ (x1 : Int32) (g : zSg) (r : Int32 × zSg), rs x1 g = some r → zRn sc hp Ds zM_X5_unit [.ref 10, .int x1] (gm g) (some (.int r.1)) (gm r.2)) {x1 : Int32} {g : zSg} {r : Int32 × zSg} (h : f_X5_moreTruths rs x1 g = some r) : zRn sc hp (max (Ds + 2) 3) zM_X5_moreTruths [.ref 10, .int x1] (gm g) (some (.int r.1)) (gm r.2) := by
  intro d hD
  obtain ⟨hD1, hD⟩ := Nat.max_le.mp hD
  obtain ⟨d, rfl⟩ : ∃ d', d = d' + 1 := ⟨d - 1, by omega⟩
  show zG _ sc hp (zcd zM_X5_moreTruths) 0 [some (.ref 10), some (.int x1), none] [] (gm g) _
  unfold f_X5_moreTruths at h
  refine g_run 2 (pc' := 2) (L' := [some (.ref 10), some (.int x1), some (.int 0)]) (S' := []) (M' := gm g) rfl ?_
  exact p_X5_moreTruths_2 hD hD1 rs hrs zFu (x1) (0) g _ h
def f_X5_condition (rs : Int32 → zSg → Option (Int32 × zSg)) (x1 : Int32) (g : zSg) : Option (Int32 × zSg) := (zB (rs x1 g) (fun v1 g2 => (if v1 = 0 then some (0, g2) else (zB (f_X5_moreUnits rs x1 g2) (fun v5 g6 => (if v5 = 0 then some (0, g6) else (zB (f_X5_moreTruths rs x1 g6) (fun v9 g10 => (if v9 = 0 then some (0, g10) else some (1, g10))))))))))
set_option maxRecDepth 100000 in
set_option maxHeartbeats 4000000 in
theorem p_X5_condition {sc : zSc} {hp : zHp} {Ds : Nat} (rs : Int32 → zSg → Option (Int32 × zSg)) (hrs : ∀ (x1 : Int32) (g : zSg) (r : Int32 × zSg), rs x1 g = some r → zRn sc hp Ds zM_X5_unit [.ref 10, .int x1] (gm g) (some (.int r.1)) (gm r.2)) {x1 : Int32} {g : zSg} {r : Int32 × zSg} (h : f_X5_condition rs x1 g = some r) : zRn sc hp (max (Ds + 3) 4) zM_X5_condition [.ref 10, .int x1] (gm g) (some (.int r.1)) (gm r.2) := by
  intro d hD
  obtain ⟨hD1, hD⟩ := Nat.max_le.mp hD
  obtain ⟨d, rfl⟩ : ∃ d', d = d' + 1 := ⟨d - 1, by omega⟩
  show zG _ sc hp (zcd zM_X5_condition) 0 [some (.ref 10), some (.int x1)] [] (gm g) _
  unfold f_X5_condition at h
  refine g_run 2 (pc' := 2) (L' := [some (.ref 10), some (.int x1)]) (S' := [.int x1, .ref 10]) (M' := gm g) rfl ?_
  replace h := zB_of h
  obtain ⟨v1, g2, e3, h⟩ := h
  refine g_inv2 (kd := 1) (hrs x1 g _ e3) rfl rfl rfl (by decide) rfl rfl rfl rfl (by omega) (pc' := 5) rfl (S' := [.int v1]) rfl ?_
  refine g_if (v1 = 0) rfl (t := 28) rfl rfl (fun c4 => ?_) (fun c4 => ?_)
  · replace h := (if_pos c4).symm.trans h
    refine g_run 1 (pc' := 29) (L' := [some (.ref 10), some (.int x1)]) (S' := [.int 0]) (M' := gm g2) rfl ?_
    cases h
    exact g_ret rfl rfl rfl rfl
  · replace h := (if_neg c4).symm.trans h
    refine g_run 2 (pc' := 10) (L' := [some (.ref 10), some (.int x1)]) (S' := [.int x1, .ref 10]) (M' := gm g2) rfl ?_
    replace h := zB_of h
    obtain ⟨v5, g6, e7, h⟩ := h
    refine g_inv2 (kd := 1) (p_X5_moreUnits rs hrs  e7) rfl rfl rfl (by decide) rfl rfl rfl rfl (Nat.max_le.mpr ⟨by omega, by omega⟩) (pc' := 13) rfl (S' := [.int v5]) rfl ?_
    refine g_if (v5 = 0) rfl (t := 28) rfl rfl (fun c8 => ?_) (fun c8 => ?_)
    · replace h := (if_pos c8).symm.trans h
      refine g_run 1 (pc' := 29) (L' := [some (.ref 10), some (.int x1)]) (S' := [.int 0]) (M' := gm g6) rfl ?_
      cases h
      exact g_ret rfl rfl rfl rfl
    · replace h := (if_neg c8).symm.trans h
      refine g_run 2 (pc' := 18) (L' := [some (.ref 10), some (.int x1)]) (S' := [.int x1, .ref 10]) (M' := gm g6) rfl ?_
      replace h := zB_of h
      obtain ⟨v9, g10, e11, h⟩ := h
      refine g_inv2 (kd := 1) (p_X5_moreTruths rs hrs  e11) rfl rfl rfl (by decide) rfl rfl rfl rfl (Nat.max_le.mpr ⟨by omega, by omega⟩) (pc' := 21) rfl (S' := [.int v9]) rfl ?_
      refine g_if (v9 = 0) rfl (t := 28) rfl rfl (fun c12 => ?_) (fun c12 => ?_)
      · replace h := (if_pos c12).symm.trans h
        refine g_run 1 (pc' := 29) (L' := [some (.ref 10), some (.int x1)]) (S' := [.int 0]) (M' := gm g10) rfl ?_
        cases h
        exact g_ret rfl rfl rfl rfl
      · replace h := (if_neg c12).symm.trans h
        refine g_run 2 (pc' := 29) (L' := [some (.ref 10), some (.int x1)]) (S' := [.int 1]) (M' := gm g10) rfl ?_
        cases h
        exact g_ret rfl rfl rfl rfl
def f_X5_unit_42 (rs : Int32 → zSg → Option (Int32 × zSg)) (y1 : Int32) (y2 : Int32) (g : zSg) : Option (Int32 × zSg) := (if y1 < 6 then (zB (f_X9_skip g) (fun v2 g3 => (if ¬ y2 = 40 then (zB (rs (y1 + 1) g3) (fun v6 g7 => (if ¬ v6 = 0 then (zB (f_X4_add 11 (-33) g7) (fun v10 g11 => some (1, g11))) else some (0, g7)))) else (zB (f_X5_condition rs (y1 + 1) g3) (fun v13 g14 => (if v13 = 0 then some (0, g14) else (zB (f_X9_take 41 g14) (fun v17 g18 => (if v17 = 0 then some (0, g18) else some (1, g18)))))))))) else some (0, g))
set_option maxRecDepth 100000 in
set_option maxHeartbeats 4000000 in
theorem p_X5_unit_42 {sc : zSc} {hp : zHp} {d : Nat} (hD : 93 ≤ d) {Ds : Nat} (hD1 : Ds + 4 ≤ d) (rs : Int32 → zSg → Option (Int32 × zSg)) (hrs : ∀ (x1 : Int32) (g : zSg) (r : Int32 × zSg), rs x1 g = some r → zRn sc hp Ds zM_X5_unit [.ref 10, .int x1] (gm g) (some (.int r.1)) (gm r.2)) (y1 : Int32) (y2 : Int32) (g : zSg) (r : Int32 × zSg) (h : f_X5_unit_42 rs y1 y2 g = some r) : zG d sc hp (zcd zM_X5_unit) 42 [some (.ref 10), some (.int y1), some (.int y2)] [] (gm g) ((some (.int r.1)), gm r.2) := by
  obtain ⟨d, rfl⟩ : ∃ d', d = d' + 1 := ⟨d - 1, by omega⟩
  unfold f_X5_unit_42 at h
  refine g_run 2 (pc' := 45) (L' := [some (.ref 10), some (.int y1), some (.int y2)]) (S' := [.int 6, .int y1]) (M' := gm g) rfl ?_
  refine g_icmp (y1 < 6) rfl (t := 50) rfl rfl (fun c1 => ?_) (fun c1 => ?_)
  · replace h := (if_pos c1).symm.trans h
    refine g_run 2 (pc' := 54) (L' := [some (.ref 10), some (.int y1), some (.int y2)]) (S' := [.ref 1]) (M' := gm g) rfl ?_
    replace h := zB_of h
    obtain ⟨v2, g3, e4, h⟩ := h
    refine g_inv2 (kd := 1) (p_X9_skip  e4) rfl rfl rfl (by decide) rfl rfl rfl rfl (by omega) (pc' := 57) rfl (S' := []) rfl ?_
    refine g_run 2 (pc' := 60) (L' := [some (.ref 10), some (.int y1), some (.int y2)]) (S' := [.int 40, .int y2]) (M' := gm g3) rfl ?_
    refine g_icmp (¬ y2 = 40) rfl (t := 91) rfl rfl (fun c5 => ?_) (fun c5 => ?_)
    · replace h := (if_pos c5).symm.trans h
      refine g_run 4 (pc' := 95) (L' := [some (.ref 10), some (.int y1), some (.int y2)]) (S' := [.int ((y1 + 1)), .ref 10]) (M' := gm g3) rfl ?_
      replace h := zB_of h
      obtain ⟨v6, g7, e8, h⟩ := h
      refine g_inv2 (kd := 1) (hrs (y1 + 1) g3 _ e8) rfl rfl rfl (by decide) rfl rfl rfl rfl (by omega) (pc' := 98) rfl (S' := [.int v6]) rfl ?_
      refine g_if (¬ v6 = 0) rfl (t := 103) rfl rfl (fun c9 => ?_) (fun c9 => ?_)
      · replace h := (if_pos c9).symm.trans h
        refine g_run 3 (pc' := 109) (L' := [some (.ref 10), some (.int y1), some (.int y2)]) (S' := [.int (-33), .ref 11]) (M' := gm g7) rfl ?_
        replace h := zB_of h
        obtain ⟨v10, g11, e12, h⟩ := h
        refine g_inv2 (kd := 1) (p_X4_add 11 rfl e12) rfl rfl rfl (by decide) rfl rfl rfl rfl (by omega) (pc' := 112) rfl (S' := []) rfl ?_
        refine g_run 1 (pc' := 113) (L' := [some (.ref 10), some (.int y1), some (.int y2)]) (S' := [.int 1]) (M' := gm g11) rfl ?_
        cases h
        exact g_ret rfl rfl rfl rfl
      · replace h := (if_neg c9).symm.trans h
        refine g_run 1 (pc' := 102) (L' := [some (.ref 10), some (.int y1), some (.int y2)]) (S' := [.int 0]) (M' := gm g7) rfl ?_
        cases h
        exact g_ret rfl rfl rfl rfl
    · replace h := (if_neg c5).symm.trans h
      refine g_run 4 (pc' := 67) (L' := [some (.ref 10), some (.int y1), some (.int y2)]) (S' := [.int ((y1 + 1)), .ref 10]) (M' := gm g3) rfl ?_
      replace h := zB_of h
      obtain ⟨v13, g14, e15, h⟩ := h
      refine g_inv2 (kd := 1) (p_X5_condition rs hrs  e15) rfl rfl rfl (by decide) rfl rfl rfl rfl (Nat.max_le.mpr ⟨by omega, by omega⟩) (pc' := 70) rfl (S' := [.int v13]) rfl ?_
      refine g_if (v13 = 0) rfl (t := 89) rfl rfl (fun c16 => ?_) (fun c16 => ?_)
      · replace h := (if_pos c16).symm.trans h
        refine g_run 1 (pc' := 90) (L' := [some (.ref 10), some (.int y1), some (.int y2)]) (S' := [.int 0]) (M' := gm g14) rfl ?_
        cases h
        exact g_ret rfl rfl rfl rfl
      · replace h := (if_neg c16).symm.trans h
        refine g_run 3 (pc' := 79) (L' := [some (.ref 10), some (.int y1), some (.int y2)]) (S' := [.int 41, .ref 1]) (M' := gm g14) rfl ?_
        replace h := zB_of h
        obtain ⟨v17, g18, e19, h⟩ := h
        refine g_inv2 (kd := 1) (p_X9_take  e19) rfl rfl rfl (by decide) rfl rfl rfl rfl (by omega) (pc' := 82) rfl (S' := [.int v17]) rfl ?_
        refine g_if (v17 = 0) rfl (t := 89) rfl rfl (fun c20 => ?_) (fun c20 => ?_)
        · replace h := (if_pos c20).symm.trans h
          refine g_run 1 (pc' := 90) (L' := [some (.ref 10), some (.int y1), some (.int y2)]) (S' := [.int 0]) (M' := gm g18) rfl ?_
          cases h
          exact g_ret rfl rfl rfl rfl
        · replace h := (if_neg c20).symm.trans h
          refine g_run 2 (pc' := 90) (L' := [some (.ref 10), some (.int y1), some (.int y2)]) (S' := [.int 1]) (M' := gm g18) rfl ?_
          cases h
          exact g_ret rfl rfl rfl rfl
  · replace h := (if_neg c1).symm.trans h
    refine g_run 1 (pc' := 49) (L' := [some (.ref 10), some (.int y1), some (.int y2)]) (S' := [.int 0]) (M' := gm g) rfl ?_
    cases h
    exact g_ret rfl rfl rfl rfl
def f_X5_unit_b (rs : Int32 → zSg → Option (Int32 × zSg)) (x1 : Int32) (g : zSg) : Option (Int32 × zSg) := (zB (f_X9_next g) (fun v1 g2 => (if v1 = 33 then f_X5_unit_42 rs (x1) (v1) g2 else (if v1 = 40 then f_X5_unit_42 rs (x1) (v1) g2 else (zB (f_X5_sum zDp x1 g2) (fun v6 g7 => (if v6 = 0 then some (0, g7) else (zB (f_X5_comparison x1 g7) (fun v10 g11 => (if v10 = 0 then some (0, g11) else some (1, g11)))))))))))
set_option maxRecDepth 100000 in
set_option maxHeartbeats 4000000 in
theorem p_X5_unit_b {sc : zSc} {hp : zHp} {Ds : Nat} (rs : Int32 → zSg → Option (Int32 × zSg)) (hrs : ∀ (x1 : Int32) (g : zSg) (r : Int32 × zSg), rs x1 g = some r → zRn sc hp Ds zM_X5_unit [.ref 10, .int x1] (gm g) (some (.int r.1)) (gm r.2)) {x1 : Int32} {g : zSg} {r : Int32 × zSg} (h : f_X5_unit_b rs x1 g = some r) : zRn sc hp (max (Ds + 4) 93) zM_X5_unit [.ref 10, .int x1] (gm g) (some (.int r.1)) (gm r.2) := by
  intro d hD
  obtain ⟨hD1, hD⟩ := Nat.max_le.mp hD
  obtain ⟨d, rfl⟩ : ∃ d', d = d' + 1 := ⟨d - 1, by omega⟩
  show zG _ sc hp (zcd zM_X5_unit) 0 [some (.ref 10), some (.int x1), none] [] (gm g) _
  unfold f_X5_unit_b at h
  refine g_run 2 (pc' := 4) (L' := [some (.ref 10), some (.int x1), none]) (S' := [.ref 1]) (M' := gm g) rfl ?_
  replace h := zB_of h
  obtain ⟨v1, g2, e3, h⟩ := h
  refine g_inv2 (kd := 1) (p_X9_next  e3) rfl rfl rfl (by decide) rfl rfl rfl rfl (by omega) (pc' := 7) rfl (S' := [.int v1]) rfl ?_
  refine g_run 3 (pc' := 11) (L' := [some (.ref 10), some (.int x1), some (.int v1)]) (S' := [.int 33, .int v1]) (M' := gm g2) rfl ?_
  refine g_icmp (v1 = 33) rfl (t := 42) rfl rfl (fun c4 => ?_) (fun c4 => ?_)
  · replace h := (if_pos c4).symm.trans h
    exact p_X5_unit_42 hD hD1 rs hrs (x1) (v1) g2 _ h
  · replace h := (if_neg c4).symm.trans h
    refine g_run 2 (pc' := 17) (L' := [some (.ref 10), some (.int x1), some (.int v1)]) (S' := [.int 40, .int v1]) (M' := gm g2) rfl ?_
    refine g_icmp (v1 = 40) rfl (t := 42) rfl rfl (fun c5 => ?_) (fun c5 => ?_)
    · replace h := (if_pos c5).symm.trans h
      exact p_X5_unit_42 hD hD1 rs hrs (x1) (v1) g2 _ h
    · replace h := (if_neg c5).symm.trans h
      refine g_run 2 (pc' := 22) (L' := [some (.ref 10), some (.int x1), some (.int v1)]) (S' := [.int x1, .ref 10]) (M' := gm g2) rfl ?_
      replace h := zB_of h
      obtain ⟨v6, g7, e8, h⟩ := h
      refine g_inv2 (kd := 1) (p_X5_sum zDp x1 g2 _ e8) rfl rfl rfl (by decide) rfl rfl rfl rfl (by show _ ≤ _; unfold zDp; omega) (pc' := 25) rfl (S' := [.int v6]) rfl ?_
      refine g_if (v6 = 0) rfl (t := 40) rfl rfl (fun c9 => ?_) (fun c9 => ?_)
      · replace h := (if_pos c9).symm.trans h
        refine g_run 1 (pc' := 41) (L' := [some (.ref 10), some (.int x1), some (.int v1)]) (S' := [.int 0]) (M' := gm g7) rfl ?_
        cases h
        exact g_ret rfl rfl rfl rfl
      · replace h := (if_neg c9).symm.trans h
        refine g_run 2 (pc' := 30) (L' := [some (.ref 10), some (.int x1), some (.int v1)]) (S' := [.int x1, .ref 10]) (M' := gm g7) rfl ?_
        replace h := zB_of h
        obtain ⟨v10, g11, e12, h⟩ := h
        refine g_inv2 (kd := 1) (p_X5_comparison  e12) rfl rfl rfl (by decide) rfl rfl rfl rfl (by omega) (pc' := 33) rfl (S' := [.int v10]) rfl ?_
        refine g_if (v10 = 0) rfl (t := 40) rfl rfl (fun c13 => ?_) (fun c13 => ?_)
        · replace h := (if_pos c13).symm.trans h
          refine g_run 1 (pc' := 41) (L' := [some (.ref 10), some (.int x1), some (.int v1)]) (S' := [.int 0]) (M' := gm g11) rfl ?_
          cases h
          exact g_ret rfl rfl rfl rfl
        · replace h := (if_neg c13).symm.trans h
          refine g_run 2 (pc' := 41) (L' := [some (.ref 10), some (.int x1), some (.int v1)]) (S' := [.int 1]) (M' := gm g11) rfl ?_
          cases h
          exact g_ret rfl rfl rfl rfl
def f_X5_unit : Nat → Int32 → zSg → Option (Int32 × zSg)
  | 0, _, _ => none
  | n + 1, x1, g => f_X5_unit_b (f_X5_unit n) x1 g
theorem p_X5_unit {sc : zSc} {hp : zHp} : ∀ (n : Nat) (x1 : Int32) (g : zSg) (r : Int32 × zSg), f_X5_unit n x1 g = some r → zRn sc hp (93 + 4 * n) zM_X5_unit [.ref 10, .int x1] (gm g) (some (.int r.1)) (gm r.2) := by
  intro n
  induction n with
  | zero => intro x1 g r h; cases h
  | succ n ih =>
    intro x1 g r h d hd
    exact p_X5_unit_b (f_X5_unit n) ih h d (Nat.max_le.mpr ⟨by omega, by omega⟩)
def f_X5_conditional (g : zSg) : Option (Int32 × zSg) := (zB (f_X9_take 63 g) (fun v1 g2 => (if ¬ v1 = 0 then (zB (f_X4_addLeap 11 g2) (fun v5 g6 => (zB (f_X5_sum zDp 0 g6) (fun v8 g9 => (if ¬ v8 = 0 then (zB (f_X4_add 11 (-59) g9) (fun v12 g13 => (zB (f_X4_landHere 11 v5 g13) (fun v15 g16 => some (1, g16))))) else some (0, g9)))))) else some (0, g2))))
set_option maxRecDepth 100000 in
set_option maxHeartbeats 4000000 in
theorem p_X5_conditional {sc : zSc} {hp : zHp} {g : zSg} {r : Int32 × zSg} (h : f_X5_conditional g = some r) : zRn sc hp 92 zM_X5_conditional [.ref 10] (gm g) (some (.int r.1)) (gm r.2) := by
  intro d hD
  obtain ⟨d, rfl⟩ : ∃ d', d = d' + 1 := ⟨d - 1, by omega⟩
  show zG _ sc hp (zcd zM_X5_conditional) 0 [some (.ref 10), none] [] (gm g) _
  unfold f_X5_conditional at h
  refine g_run 3 (pc' := 6) (L' := [some (.ref 10), none]) (S' := [.int 63, .ref 1]) (M' := gm g) rfl ?_
  replace h := zB_of h
  obtain ⟨v1, g2, e3, h⟩ := h
  refine g_inv2 (kd := 1) (p_X9_take  e3) rfl rfl rfl (by decide) rfl rfl rfl rfl (by omega) (pc' := 9) rfl (S' := [.int v1]) rfl ?_
  refine g_if (¬ v1 = 0) rfl (t := 14) rfl rfl (fun c4 => ?_) (fun c4 => ?_)
  · replace h := (if_pos c4).symm.trans h
    refine g_run 2 (pc' := 18) (L' := [some (.ref 10), none]) (S' := [.ref 11]) (M' := gm g2) rfl ?_
    replace h := zB_of h
    obtain ⟨v5, g6, e7, h⟩ := h
    refine g_inv2 (kd := 1) (p_X4_addLeap 11 rfl e7) rfl rfl rfl (by decide) rfl rfl rfl rfl (by omega) (pc' := 21) rfl (S' := [.int v5]) rfl ?_
    refine g_run 3 (pc' := 24) (L' := [some (.ref 10), some (.int v5)]) (S' := [.int 0, .ref 10]) (M' := gm g6) rfl ?_
    replace h := zB_of h
    obtain ⟨v8, g9, e10, h⟩ := h
    refine g_inv2 (kd := 1) (p_X5_sum zDp 0 g6 _ e10) rfl rfl rfl (by decide) rfl rfl rfl rfl (by show _ ≤ _; unfold zDp; omega) (pc' := 27) rfl (S' := [.int v8]) rfl ?_
    refine g_if (¬ v8 = 0) rfl (t := 32) rfl rfl (fun c11 => ?_) (fun c11 => ?_)
    · replace h := (if_pos c11).symm.trans h
      refine g_run 3 (pc' := 38) (L' := [some (.ref 10), some (.int v5)]) (S' := [.int (-59), .ref 11]) (M' := gm g9) rfl ?_
      replace h := zB_of h
      obtain ⟨v12, g13, e14, h⟩ := h
      refine g_inv2 (kd := 1) (p_X4_add 11 rfl e14) rfl rfl rfl (by decide) rfl rfl rfl rfl (by omega) (pc' := 41) rfl (S' := []) rfl ?_
      refine g_run 3 (pc' := 46) (L' := [some (.ref 10), some (.int v5)]) (S' := [.int v5, .ref 11]) (M' := gm g13) rfl ?_
      replace h := zB_of h
      obtain ⟨v15, g16, e17, h⟩ := h
      refine g_inv2 (kd := 1) (p_X4_landHere 11 rfl e17) rfl rfl rfl (by decide) rfl rfl rfl rfl (by omega) (pc' := 49) rfl (S' := []) rfl ?_
      refine g_run 1 (pc' := 50) (L' := [some (.ref 10), some (.int v5)]) (S' := [.int 1]) (M' := gm g16) rfl ?_
      cases h
      exact g_ret rfl rfl rfl rfl
    · replace h := (if_neg c11).symm.trans h
      refine g_run 1 (pc' := 31) (L' := [some (.ref 10), some (.int v5)]) (S' := [.int 0]) (M' := gm g9) rfl ?_
      cases h
      exact g_ret rfl rfl rfl rfl
  · replace h := (if_neg c4).symm.trans h
    refine g_run 1 (pc' := 13) (L' := [some (.ref 10), none]) (S' := [.int 0]) (M' := gm g2) rfl ?_
    cases h
    exact g_ret rfl rfl rfl rfl
def f_X5_clause_46 (g : zSg) : Option (Int32 × zSg) := (zB (f_X5_condition (f_X5_unit zDp) 0 g) (fun v1 g2 => (if v1 = 0 then some (0, g2) else (zB (f_X5_conditional g2) (fun v5 g6 => (if v5 = 0 then some (0, g6) else some (1, g6)))))))
set_option maxRecDepth 100000 in
set_option maxHeartbeats 4000000 in
theorem p_X5_clause_46 {sc : zSc} {hp : zHp} {d : Nat} (hD : 198 ≤ d) (g : zSg) (r : Int32 × zSg) (h : f_X5_clause_46 g = some r) : zG d sc hp (zcd zM_X5_clause) 46 [some (.ref 10), none] [] (gm g) ((some (.int r.1)), gm r.2) := by
  obtain ⟨d, rfl⟩ : ∃ d', d = d' + 1 := ⟨d - 1, by omega⟩
  unfold f_X5_clause_46 at h
  refine g_run 2 (pc' := 48) (L' := [some (.ref 10), none]) (S' := [.int 0, .ref 10]) (M' := gm g) rfl ?_
  replace h := zB_of h
  obtain ⟨v1, g2, e3, h⟩ := h
  refine g_inv2 (kd := 1) (p_X5_condition (f_X5_unit zDp) (p_X5_unit zDp)  e3) rfl rfl rfl (by decide) rfl rfl rfl rfl (by show _ ≤ _; unfold zDp; omega) (pc' := 51) rfl (S' := [.int v1]) rfl ?_
  refine g_if (v1 = 0) rfl (t := 65) rfl rfl (fun c4 => ?_) (fun c4 => ?_)
  · replace h := (if_pos c4).symm.trans h
    refine g_run 1 (pc' := 66) (L' := [some (.ref 10), none]) (S' := [.int 0]) (M' := gm g2) rfl ?_
    cases h
    exact g_ret rfl rfl rfl rfl
  · replace h := (if_neg c4).symm.trans h
    refine g_run 1 (pc' := 55) (L' := [some (.ref 10), none]) (S' := [.ref 10]) (M' := gm g2) rfl ?_
    replace h := zB_of h
    obtain ⟨v5, g6, e7, h⟩ := h
    refine g_inv2 (kd := 1) (p_X5_conditional  e7) rfl rfl rfl (by decide) rfl rfl rfl rfl (by omega) (pc' := 58) rfl (S' := [.int v5]) rfl ?_
    refine g_if (v5 = 0) rfl (t := 65) rfl rfl (fun c8 => ?_) (fun c8 => ?_)
    · replace h := (if_pos c8).symm.trans h
      refine g_run 1 (pc' := 66) (L' := [some (.ref 10), none]) (S' := [.int 0]) (M' := gm g6) rfl ?_
      cases h
      exact g_ret rfl rfl rfl rfl
    · replace h := (if_neg c8).symm.trans h
      refine g_run 2 (pc' := 66) (L' := [some (.ref 10), none]) (S' := [.int 1]) (M' := gm g6) rfl ?_
      cases h
      exact g_ret rfl rfl rfl rfl
def f_X5_clause (g : zSg) : Option (Int32 × zSg) := (zB (f_X9_take 121 g) (fun v1 g2 => (if v1 = 0 then some (0, g2) else (zB (f_X9_take 58 g2) (fun v5 g6 => (if ¬ v5 = 0 then (zB (f_X9_next g6) (fun v9 g10 => (if v9 = 33 then f_X5_clause_46 g10 else (if ¬ v9 = 40 then (zB (f_X5_sum zDp 0 g10) (fun v14 g15 => (if ¬ v14 = 0 then (zB (f_X9_next g15) (fun v18 g19 => (zB (f_X5_isComparing v18 g19) (fun v21 g22 => (if v21 = 0 then (zB (f_X4_add 11 (-59) g22) (fun v25 g26 => some (1, g26))) else (zB (f_X5_comparison 0 g22) (fun v28 g29 => (if v28 = 0 then some (0, g29) else (zB (f_X5_moreUnits (f_X5_unit zDp) 0 g29) (fun v32 g33 => (if v32 = 0 then some (0, g33) else (zB (f_X5_moreTruths (f_X5_unit zDp) 0 g33) (fun v36 g37 => (if v36 = 0 then some (0, g37) else (zB (f_X5_conditional g37) (fun v40 g41 => (if v40 = 0 then some (0, g41) else some (1, g41)))))))))))))))))) else some (0, g15)))) else f_X5_clause_46 g10)))) else some (0, g6)))))))
set_option maxRecDepth 100000 in
set_option maxHeartbeats 4000000 in
theorem p_X5_clause {sc : zSc} {hp : zHp} {g : zSg} {r : Int32 × zSg} (h : f_X5_clause g = some r) : zRn sc hp 198 zM_X5_clause [.ref 10] (gm g) (some (.int r.1)) (gm r.2) := by
  intro d hD
  obtain ⟨d, rfl⟩ : ∃ d', d = d' + 1 := ⟨d - 1, by omega⟩
  show zG _ sc hp (zcd zM_X5_clause) 0 [some (.ref 10), none] [] (gm g) _
  unfold f_X5_clause at h
  refine g_run 3 (pc' := 6) (L' := [some (.ref 10), none]) (S' := [.int 121, .ref 1]) (M' := gm g) rfl ?_
  replace h := zB_of h
  obtain ⟨v1, g2, e3, h⟩ := h
  refine g_inv2 (kd := 1) (p_X9_take  e3) rfl rfl rfl (by decide) rfl rfl rfl rfl (by omega) (pc' := 9) rfl (S' := [.int v1]) rfl ?_
  refine g_if (v1 = 0) rfl (t := 24) rfl rfl (fun c4 => ?_) (fun c4 => ?_)
  · replace h := (if_pos c4).symm.trans h
    refine g_run 1 (pc' := 25) (L' := [some (.ref 10), none]) (S' := [.int 0]) (M' := gm g2) rfl ?_
    cases h
    exact g_ret rfl rfl rfl rfl
  · replace h := (if_neg c4).symm.trans h
    refine g_run 3 (pc' := 18) (L' := [some (.ref 10), none]) (S' := [.int 58, .ref 1]) (M' := gm g2) rfl ?_
    replace h := zB_of h
    obtain ⟨v5, g6, e7, h⟩ := h
    refine g_inv2 (kd := 1) (p_X9_take  e7) rfl rfl rfl (by decide) rfl rfl rfl rfl (by omega) (pc' := 21) rfl (S' := [.int v5]) rfl ?_
    refine g_if (¬ v5 = 0) rfl (t := 26) rfl rfl (fun c8 => ?_) (fun c8 => ?_)
    · replace h := (if_pos c8).symm.trans h
      refine g_run 2 (pc' := 30) (L' := [some (.ref 10), none]) (S' := [.ref 1]) (M' := gm g6) rfl ?_
      replace h := zB_of h
      obtain ⟨v9, g10, e11, h⟩ := h
      refine g_inv2 (kd := 1) (p_X9_next  e11) rfl rfl rfl (by decide) rfl rfl rfl rfl (by omega) (pc' := 33) rfl (S' := [.int v9]) rfl ?_
      refine g_run 3 (pc' := 37) (L' := [some (.ref 10), some (.int v9)]) (S' := [.int 33, .int v9]) (M' := gm g10) rfl ?_
      refine g_icmp (v9 = 33) rfl (t := 46) rfl rfl (fun c12 => ?_) (fun c12 => ?_)
      · replace h := (if_pos c12).symm.trans h
        refine g_forget (L' := [some (.ref 10), none]) (And.intro rfl True.intro) ?_
        exact p_X5_clause_46 hD g10 _ h
      · replace h := (if_neg c12).symm.trans h
        refine g_run 2 (pc' := 43) (L' := [some (.ref 10), some (.int v9)]) (S' := [.int 40, .int v9]) (M' := gm g10) rfl ?_
        refine g_icmp (¬ v9 = 40) rfl (t := 67) rfl rfl (fun c13 => ?_) (fun c13 => ?_)
        · replace h := (if_pos c13).symm.trans h
          refine g_run 2 (pc' := 69) (L' := [some (.ref 10), some (.int v9)]) (S' := [.int 0, .ref 10]) (M' := gm g10) rfl ?_
          replace h := zB_of h
          obtain ⟨v14, g15, e16, h⟩ := h
          refine g_inv2 (kd := 1) (p_X5_sum zDp 0 g10 _ e16) rfl rfl rfl (by decide) rfl rfl rfl rfl (by show _ ≤ _; unfold zDp; omega) (pc' := 72) rfl (S' := [.int v14]) rfl ?_
          refine g_if (¬ v14 = 0) rfl (t := 77) rfl rfl (fun c17 => ?_) (fun c17 => ?_)
          · replace h := (if_pos c17).symm.trans h
            refine g_run 2 (pc' := 81) (L' := [some (.ref 10), some (.int v9)]) (S' := [.ref 1]) (M' := gm g15) rfl ?_
            replace h := zB_of h
            obtain ⟨v18, g19, e20, h⟩ := h
            refine g_inv2 (kd := 1) (p_X9_next  e20) rfl rfl rfl (by decide) rfl rfl rfl rfl (by omega) (pc' := 84) rfl (S' := [.int v18]) rfl ?_
            replace h := zB_of h
            obtain ⟨v21, g22, e23, h⟩ := h
            refine g_inv2 (kd := 0) (p_X5_isComparing  e23) rfl rfl rfl (by decide) rfl rfl rfl rfl (by omega) (pc' := 87) rfl (S' := [.int v21]) rfl ?_
            refine g_if (v21 = 0) rfl (t := 127) rfl rfl (fun c24 => ?_) (fun c24 => ?_)
            · replace h := (if_pos c24).symm.trans h
              refine g_run 3 (pc' := 133) (L' := [some (.ref 10), some (.int v9)]) (S' := [.int (-59), .ref 11]) (M' := gm g22) rfl ?_
              replace h := zB_of h
              obtain ⟨v25, g26, e27, h⟩ := h
              refine g_inv2 (kd := 1) (p_X4_add 11 rfl e27) rfl rfl rfl (by decide) rfl rfl rfl rfl (by omega) (pc' := 136) rfl (S' := []) rfl ?_
              refine g_run 1 (pc' := 137) (L' := [some (.ref 10), some (.int v9)]) (S' := [.int 1]) (M' := gm g26) rfl ?_
              cases h
              exact g_ret rfl rfl rfl rfl
            · replace h := (if_neg c24).symm.trans h
              refine g_run 2 (pc' := 92) (L' := [some (.ref 10), some (.int v9)]) (S' := [.int 0, .ref 10]) (M' := gm g22) rfl ?_
              replace h := zB_of h
              obtain ⟨v28, g29, e30, h⟩ := h
              refine g_inv2 (kd := 1) (p_X5_comparison  e30) rfl rfl rfl (by decide) rfl rfl rfl rfl (by omega) (pc' := 95) rfl (S' := [.int v28]) rfl ?_
              refine g_if (v28 = 0) rfl (t := 125) rfl rfl (fun c31 => ?_) (fun c31 => ?_)
              · replace h := (if_pos c31).symm.trans h
                refine g_run 1 (pc' := 126) (L' := [some (.ref 10), some (.int v9)]) (S' := [.int 0]) (M' := gm g29) rfl ?_
                cases h
                exact g_ret rfl rfl rfl rfl
              · replace h := (if_neg c31).symm.trans h
                refine g_run 2 (pc' := 100) (L' := [some (.ref 10), some (.int v9)]) (S' := [.int 0, .ref 10]) (M' := gm g29) rfl ?_
                replace h := zB_of h
                obtain ⟨v32, g33, e34, h⟩ := h
                refine g_inv2 (kd := 1) (p_X5_moreUnits (f_X5_unit zDp) (p_X5_unit zDp)  e34) rfl rfl rfl (by decide) rfl rfl rfl rfl (by show _ ≤ _; unfold zDp; omega) (pc' := 103) rfl (S' := [.int v32]) rfl ?_
                refine g_if (v32 = 0) rfl (t := 125) rfl rfl (fun c35 => ?_) (fun c35 => ?_)
                · replace h := (if_pos c35).symm.trans h
                  refine g_run 1 (pc' := 126) (L' := [some (.ref 10), some (.int v9)]) (S' := [.int 0]) (M' := gm g33) rfl ?_
                  cases h
                  exact g_ret rfl rfl rfl rfl
                · replace h := (if_neg c35).symm.trans h
                  refine g_run 2 (pc' := 108) (L' := [some (.ref 10), some (.int v9)]) (S' := [.int 0, .ref 10]) (M' := gm g33) rfl ?_
                  replace h := zB_of h
                  obtain ⟨v36, g37, e38, h⟩ := h
                  refine g_inv2 (kd := 1) (p_X5_moreTruths (f_X5_unit zDp) (p_X5_unit zDp)  e38) rfl rfl rfl (by decide) rfl rfl rfl rfl (by show _ ≤ _; unfold zDp; omega) (pc' := 111) rfl (S' := [.int v36]) rfl ?_
                  refine g_if (v36 = 0) rfl (t := 125) rfl rfl (fun c39 => ?_) (fun c39 => ?_)
                  · replace h := (if_pos c39).symm.trans h
                    refine g_run 1 (pc' := 126) (L' := [some (.ref 10), some (.int v9)]) (S' := [.int 0]) (M' := gm g37) rfl ?_
                    cases h
                    exact g_ret rfl rfl rfl rfl
                  · replace h := (if_neg c39).symm.trans h
                    refine g_run 1 (pc' := 115) (L' := [some (.ref 10), some (.int v9)]) (S' := [.ref 10]) (M' := gm g37) rfl ?_
                    replace h := zB_of h
                    obtain ⟨v40, g41, e42, h⟩ := h
                    refine g_inv2 (kd := 1) (p_X5_conditional  e42) rfl rfl rfl (by decide) rfl rfl rfl rfl (by omega) (pc' := 118) rfl (S' := [.int v40]) rfl ?_
                    refine g_if (v40 = 0) rfl (t := 125) rfl rfl (fun c43 => ?_) (fun c43 => ?_)
                    · replace h := (if_pos c43).symm.trans h
                      refine g_run 1 (pc' := 126) (L' := [some (.ref 10), some (.int v9)]) (S' := [.int 0]) (M' := gm g41) rfl ?_
                      cases h
                      exact g_ret rfl rfl rfl rfl
                    · replace h := (if_neg c43).symm.trans h
                      refine g_run 2 (pc' := 126) (L' := [some (.ref 10), some (.int v9)]) (S' := [.int 1]) (M' := gm g41) rfl ?_
                      cases h
                      exact g_ret rfl rfl rfl rfl
          · replace h := (if_neg c17).symm.trans h
            refine g_run 1 (pc' := 76) (L' := [some (.ref 10), some (.int v9)]) (S' := [.int 0]) (M' := gm g15) rfl ?_
            cases h
            exact g_ret rfl rfl rfl rfl
        · replace h := (if_neg c13).symm.trans h
          refine g_forget (L' := [some (.ref 10), none]) (And.intro rfl True.intro) ?_
          exact p_X5_clause_46 hD g10 _ h
    · replace h := (if_neg c8).symm.trans h
      refine g_run 1 (pc' := 25) (L' := [some (.ref 10), none]) (S' := [.int 0]) (M' := gm g6) rfl ?_
      cases h
      exact g_ret rfl rfl rfl rfl
def f_X5_read_73 (g : zSg) : Option (Int32 × zSg) := (zB (f_X9_place g) (fun v1 g2 => some (v1, g2)))
set_option maxRecDepth 100000 in
set_option maxHeartbeats 4000000 in
theorem p_X5_read_73 {sc : zSc} {hp : zHp} {d : Nat} (hD : 199 ≤ d) (g : zSg) (r : Int32 × zSg) (h : f_X5_read_73 g = some r) : zG d sc hp (zcd zM_X5_read) 73 [some (.ref 10), none, none] [] (gm g) ((some (.int r.1)), gm r.2) := by
  obtain ⟨d, rfl⟩ : ∃ d', d = d' + 1 := ⟨d - 1, by omega⟩
  unfold f_X5_read_73 at h
  refine g_run 2 (pc' := 77) (L' := [some (.ref 10), none, none]) (S' := [.ref 1]) (M' := gm g) rfl ?_
  replace h := zB_of h
  obtain ⟨v1, g2, e3, h⟩ := h
  refine g_inv2 (kd := 1) (p_X9_place  e3) rfl rfl rfl (by decide) rfl rfl rfl rfl (by omega) (pc' := 80) rfl (S' := [.int v1]) rfl ?_
  cases h
  exact g_ret rfl rfl rfl rfl
def f_X5_read_55 (y1 : Int32) (g : zSg) : Option (Int32 × zSg) := (if y1 = 0 then f_X5_read_73 g else (zB (f_X9_next g) (fun v2 g3 => (if ¬ v2 = 0 then f_X5_read_73 g3 else some ((-1), g3)))))
set_option maxRecDepth 100000 in
set_option maxHeartbeats 4000000 in
theorem p_X5_read_55 {sc : zSc} {hp : zHp} {d : Nat} (hD : 199 ≤ d) (y1 : Int32) (g : zSg) (r : Int32 × zSg) (h : f_X5_read_55 y1 g = some r) : zG d sc hp (zcd zM_X5_read) 55 [some (.ref 10), some (.int y1), none] [] (gm g) ((some (.int r.1)), gm r.2) := by
  obtain ⟨d, rfl⟩ : ∃ d', d = d' + 1 := ⟨d - 1, by omega⟩
  unfold f_X5_read_55 at h
  refine g_run 1 (pc' := 56) (L' := [some (.ref 10), some (.int y1), none]) (S' := [.int y1]) (M' := gm g) rfl ?_
  refine g_if (y1 = 0) rfl (t := 73) rfl rfl (fun c1 => ?_) (fun c1 => ?_)
  · replace h := (if_pos c1).symm.trans h
    refine g_forget (L' := [some (.ref 10), none, none]) (And.intro rfl True.intro) ?_
    exact p_X5_read_73 hD g _ h
  · replace h := (if_neg c1).symm.trans h
    refine g_run 2 (pc' := 63) (L' := [some (.ref 10), some (.int y1), none]) (S' := [.ref 1]) (M' := gm g) rfl ?_
    replace h := zB_of h
    obtain ⟨v2, g3, e4, h⟩ := h
    refine g_inv2 (kd := 1) (p_X9_next  e4) rfl rfl rfl (by decide) rfl rfl rfl rfl (by omega) (pc' := 66) rfl (S' := [.int v2]) rfl ?_
    refine g_if (¬ v2 = 0) rfl (t := 73) rfl rfl (fun c5 => ?_) (fun c5 => ?_)
    · replace h := (if_pos c5).symm.trans h
      refine g_forget (L' := [some (.ref 10), none, none]) (And.intro rfl True.intro) ?_
      exact p_X5_read_73 hD g3 _ h
    · replace h := (if_neg c5).symm.trans h
      refine g_run 2 (pc' := 80) (L' := [some (.ref 10), some (.int y1), none]) (S' := [.int (-1)]) (M' := gm g3) rfl ?_
      cases h
      exact g_ret rfl rfl rfl rfl
def fb_X5_read_21 (kk : Int32 → Int32 → zSg → Option (Int32 × zSg)) (y1 : Int32) (y2 : Int32) (g : zSg) : Option (Int32 × zSg) := (if y1 = 0 then f_X5_read_55 (y1) g else (if 240 ≤ y2 then f_X5_read_55 (y1) g else (zB (f_X9_take 59 g) (fun v3 g4 => (if v3 = 0 then f_X5_read_55 (y1) g4 else (zB (f_X5_clause g4) (fun v7 g8 => kk (v7) (y2 + 1) g8)))))))
def f_X5_read_21 : Nat → Int32 → Int32 → zSg → Option (Int32 × zSg)
  | 0, _, _, _ => none
  | n + 1, y1, y2, g => fb_X5_read_21 (f_X5_read_21 n) y1 y2 g
set_option maxRecDepth 100000 in
set_option maxHeartbeats 4000000 in
theorem p_X5_read_21 {sc : zSc} {hp : zHp} {d : Nat} (hD : 199 ≤ d) : ∀ (n : Nat) (y1 : Int32) (y2 : Int32) (g : zSg) (r : Int32 × zSg), f_X5_read_21 n y1 y2 g = some r → zG d sc hp (zcd zM_X5_read) 21 [some (.ref 10), some (.int y1), some (.int y2)] [] (gm g) ((some (.int r.1)), gm r.2) := by
  obtain ⟨d, rfl⟩ : ∃ d', d = d' + 1 := ⟨d - 1, by omega⟩
  intro n
  induction n with
  | zero => intro y1 y2 g r h; cases h
  | succ n ih =>
    intro y1 y2 g r h
    replace h : fb_X5_read_21 (f_X5_read_21 n) y1 y2 g = some r := h
    unfold fb_X5_read_21 at h
    refine g_run 1 (pc' := 22) (L' := [some (.ref 10), some (.int y1), some (.int y2)]) (S' := [.int y1]) (M' := gm g) rfl ?_
    refine g_if (y1 = 0) rfl (t := 55) rfl rfl (fun c1 => ?_) (fun c1 => ?_)
    · replace h := (if_pos c1).symm.trans h
      refine g_forget (L' := [some (.ref 10), some (.int y1), none]) (And.intro rfl (And.intro rfl True.intro)) ?_
      exact p_X5_read_55 hD (y1) g _ h
    · replace h := (if_neg c1).symm.trans h
      refine g_run 2 (pc' := 29) (L' := [some (.ref 10), some (.int y1), some (.int y2)]) (S' := [.int 240, .int y2]) (M' := gm g) rfl ?_
      refine g_icmp (240 ≤ y2) rfl (t := 55) rfl rfl (fun c2 => ?_) (fun c2 => ?_)
      · replace h := (if_pos c2).symm.trans h
        refine g_forget (L' := [some (.ref 10), some (.int y1), none]) (And.intro rfl (And.intro rfl True.intro)) ?_
        exact p_X5_read_55 hD (y1) g _ h
      · replace h := (if_neg c2).symm.trans h
        refine g_run 3 (pc' := 38) (L' := [some (.ref 10), some (.int y1), some (.int y2)]) (S' := [.int 59, .ref 1]) (M' := gm g) rfl ?_
        replace h := zB_of h
        obtain ⟨v3, g4, e5, h⟩ := h
        refine g_inv2 (kd := 1) (p_X9_take  e5) rfl rfl rfl (by decide) rfl rfl rfl rfl (by omega) (pc' := 41) rfl (S' := [.int v3]) rfl ?_
        refine g_if (v3 = 0) rfl (t := 55) rfl rfl (fun c6 => ?_) (fun c6 => ?_)
        · replace h := (if_pos c6).symm.trans h
          refine g_forget (L' := [some (.ref 10), some (.int y1), none]) (And.intro rfl (And.intro rfl True.intro)) ?_
          exact p_X5_read_55 hD (y1) g4 _ h
        · replace h := (if_neg c6).symm.trans h
          refine g_run 1 (pc' := 45) (L' := [some (.ref 10), some (.int y1), some (.int y2)]) (S' := [.ref 10]) (M' := gm g4) rfl ?_
          replace h := zB_of h
          obtain ⟨v7, g8, e9, h⟩ := h
          refine g_inv2 (kd := 1) (p_X5_clause  e9) rfl rfl rfl (by decide) rfl rfl rfl rfl (by omega) (pc' := 48) rfl (S' := [.int v7]) rfl ?_
          refine g_run 3 (pc' := 21) (L' := [some (.ref 10), some (.int v7), some (.int ((y2 + 1)))]) (S' := []) (M' := gm g8) rfl ?_
          exact ih (v7) (y2 + 1) g8 _ h
def f_X5_read (g : zSg) : Option (Int32 × zSg) := (zB (f_X9_rewind g) (fun v1 g2 => (zB (f_X4_clear 11 g2) (fun v4 g5 => (zB (f_X5_clause g5) (fun v7 g8 => f_X5_read_21 zFu (v7) (0) g8))))))
set_option maxRecDepth 100000 in
set_option maxHeartbeats 4000000 in
theorem p_X5_read {sc : zSc} {hp : zHp} {g : zSg} {r : Int32 × zSg} (h : f_X5_read g = some r) : zRn sc hp 199 zM_X5_read [.ref 10] (gm g) (some (.int r.1)) (gm r.2) := by
  intro d hD
  obtain ⟨d, rfl⟩ : ∃ d', d = d' + 1 := ⟨d - 1, by omega⟩
  show zG _ sc hp (zcd zM_X5_read) 0 [some (.ref 10), none, none] [] (gm g) _
  unfold f_X5_read at h
  refine g_run 2 (pc' := 4) (L' := [some (.ref 10), none, none]) (S' := [.ref 1]) (M' := gm g) rfl ?_
  replace h := zB_of h
  obtain ⟨v1, g2, e3, h⟩ := h
  refine g_inv2 (kd := 1) (p_X9_rewind  e3) rfl rfl rfl (by decide) rfl rfl rfl rfl (by omega) (pc' := 7) rfl (S' := []) rfl ?_
  refine g_run 2 (pc' := 11) (L' := [some (.ref 10), none, none]) (S' := [.ref 11]) (M' := gm g2) rfl ?_
  replace h := zB_of h
  obtain ⟨v4, g5, e6, h⟩ := h
  refine g_inv2 (kd := 1) (p_X4_clear 11 rfl e6) rfl rfl rfl (by decide) rfl rfl rfl rfl (by omega) (pc' := 14) rfl (S' := []) rfl ?_
  refine g_run 1 (pc' := 15) (L' := [some (.ref 10), none, none]) (S' := [.ref 10]) (M' := gm g5) rfl ?_
  replace h := zB_of h
  obtain ⟨v7, g8, e9, h⟩ := h
  refine g_inv2 (kd := 1) (p_X5_clause  e9) rfl rfl rfl (by decide) rfl rfl rfl rfl (by omega) (pc' := 18) rfl (S' := [.int v7]) rfl ?_
  refine g_run 3 (pc' := 21) (L' := [some (.ref 10), some (.int v7), some (.int 0)]) (S' := []) (M' := gm g8) rfl ?_
  exact p_X5_read_21 hD zFu (v7) (0) g8 _ h
def f_X6_forget (g : zSg) : Option (Unit × zSg) := some ((), (gsI (gsI g 48 4 0) 48 6 0))
set_option maxRecDepth 100000 in
set_option maxHeartbeats 4000000 in
theorem p_X6_forget {sc : zSc} {hp : zHp} {g : zSg} {r : Unit × zSg} (h : f_X6_forget g = some r) : zRn sc hp 0 zM_X6_forget [.ref 48] (gm g) none (gm r.2) := by
  intro d hD
  show zG _ sc hp (zcd zM_X6_forget) 0 [some (.ref 48)] [] (gm g) _
  unfold f_X6_forget at h
  refine g_run 6 (pc' := 10) (L' := [some (.ref 48)]) (S' := []) (M' := gm (gsI (gsI g 48 4 0) 48 6 0)) rfl ?_
  cases h
  exact g_ret rfl rfl rfl rfl
def f_X6_acts (g : zSg) : Option (Int32 × zSg) := some ((gI g 48 6), g)
set_option maxRecDepth 100000 in
set_option maxHeartbeats 4000000 in
theorem p_X6_acts {sc : zSc} {hp : zHp} {g : zSg} {r : Int32 × zSg} (h : f_X6_acts g = some r) : zRn sc hp 0 zM_X6_acts [.ref 48] (gm g) (some (.int r.1)) (gm r.2) := by
  intro d hD
  show zG _ sc hp (zcd zM_X6_acts) 0 [some (.ref 48)] [] (gm g) _
  unfold f_X6_acts at h
  refine g_run 2 (pc' := 4) (L' := [some (.ref 48)]) (S' := [.int ((gI g 48 6))]) (M' := gm g) rfl ?_
  cases h
  exact g_ret rfl rfl rfl rfl
def f_X6_remember (b1 : Nat) (g : zSg) : Option (Unit × zSg) := (zB (f_X8_pick 49 (gI g 48 5) g) (fun v1 g2 => (zNu v1 (some ((), g2)) (fun a4 => if (zK0 a4).1 = 8 then (zB (f_X8_become a4 b1 g2) (fun v7 g8 => some ((), (gsI (gsI g8 48 5 (imod ((gI g8 48 5) + 1) 40)) 48 6 (imin 40 ((gI (gsI g8 48 5 (imod ((gI g8 48 5) + 1) 40)) 48 6) + 1)))))) else none))))
set_option maxRecDepth 100000 in
set_option maxHeartbeats 4000000 in
theorem p_X6_remember {sc : zSc} {hp : zHp} (b1 : Nat) (hb1 : (zK0 b1).1 = 8) {g : zSg} {r : Unit × zSg} (h : f_X6_remember b1 g = some r) : zRn sc hp 3 zM_X6_remember [.ref 48, .ref b1] (gm g) none (gm r.2) := by
  intro d hD
  obtain ⟨d, rfl⟩ : ∃ d', d = d' + 1 := ⟨d - 1, by omega⟩
  show zG _ sc hp (zcd zM_X6_remember) 0 [some (.ref 48), some (.ref b1), none] [] (gm g) _
  unfold f_X6_remember at h
  refine g_run 4 (pc' := 8) (L' := [some (.ref 48), some (.ref b1), none]) (S' := [.int ((gI g 48 5)), .ref 49]) (M' := gm g) rfl ?_
  replace h := zB_of h
  obtain ⟨v1, g2, e3, h⟩ := h
  refine g_inv2 (kd := 0) (p_X8_pick 49 rfl e3) rfl rfl rfl (by decide) rfl rfl rfl rfl (by omega) (pc' := 11) rfl (S' := [zrv v1]) rfl ?_
  refine g_astoren (v := v1) rfl (Nat.le_of_ble_eq_true rfl) (L' := [some (.ref 48), some (.ref b1), some (zrv v1)]) rfl ?_
  refine g_aloadn (v := v1) rfl rfl ?_
  rcases v1 with _ | a4
  · replace h := zNu_n h
    show zG _ _ _ _ 13 [some (.ref 48), some (.ref b1), some (.null)] [.null] (gm g2) _
    refine g_run 1 (pc' := 16) (L' := [some (.ref 48), some (.ref b1), some (.null)]) (S' := []) (M' := gm g2) rfl ?_
    cases h
    exact g_ret rfl rfl rfl rfl
  · replace h := zNu_s h
    by_cases h6 : (zK0 a4).1 = 8
    case neg => exact nomatch ((if_neg h6).symm.trans h)
    replace h := (if_pos h6).symm.trans h
    show zG _ _ _ _ 13 [some (.ref 48), some (.ref b1), some (.ref a4)] [.ref a4] (gm g2) _
    refine g_run 1 (pc' := 17) (L' := [some (.ref 48), some (.ref b1), some (.ref a4)]) (S' := []) (M' := gm g2) rfl ?_
    refine g_run 2 (pc' := 19) (L' := [some (.ref 48), some (.ref b1), some (.ref a4)]) (S' := [.ref b1, .ref a4]) (M' := gm g2) rfl ?_
    replace h := zB_of h
    obtain ⟨v7, g8, e9, h⟩ := h
    refine g_inv2 (kd := 1) (p_X8_become a4 b1 h6 hb1 e9) rfl rfl rfl (by decide) rfl (g_recv (a := a4) rfl (Nat.le_of_ble_eq_true rfl) (Nat.le_of_ble_eq_true rfl) (Nat.le_of_ble_eq_true rfl) (Nat.le_of_ble_eq_true rfl) rfl h6 (Nat.le_of_ble_eq_true rfl)) rfl rfl (by omega) (pc' := 22) rfl (S' := []) rfl ?_
    refine g_run 14 (pc' := 44) (L' := [some (.ref 48), some (.ref b1), some (.ref a4)]) (S' := [.int (((gI (gsI g8 48 5 (imod ((gI g8 48 5) + 1) 40)) 48 6) + 1)), .int 40, .ref 48]) (M' := gm (gsI g8 48 5 (imod ((gI g8 48 5) + 1) 40))) rfl ?_
    refine g_spec2 (kd := 0) rfl rfl rfl (by decide) rfl (jd := 1001) rfl (by decide) rfl (Or.inl (by decide)) (S' := [.int ((imin 40 ((gI (gsI g8 48 5 (imod ((gI g8 48 5) + 1) 40)) 48 6) + 1))), .ref 48]) (M' := gm (gsI g8 48 5 (imod ((gI g8 48 5) + 1) 40))) rfl rfl (pc' := 47) rfl ?_
    refine g_run 1 (pc' := 50) (L' := [some (.ref 48), some (.ref b1), some (.ref a4)]) (S' := []) (M' := gm (gsI (gsI g8 48 5 (imod ((gI g8 48 5) + 1) 40)) 48 6 (imin 40 ((gI (gsI g8 48 5 (imod ((gI g8 48 5) + 1) 40)) 48 6) + 1)))) rfl ?_
    cases h
    exact g_ret rfl rfl rfl rfl
def f_X6_recall (b1 : Nat) (g : zSg) : Option (Int32 × zSg) := (zB (f_X8_pick 49 (imod (((gI g 48 5) + 40) - 1) 40) g) (fun v1 g2 => (if (gI g2 48 6) < 1 then some (0, g2) else (zNu v1 (some (0, g2)) (fun a5 => if (zK0 a5).1 = 8 then (zB (f_X8_become b1 a5 g2) (fun v8 g9 => some (1, (gsI (gsI g9 48 5 (imod (((gI g 48 5) + 40) - 1) 40)) 48 6 ((gI (gsI g9 48 5 (imod (((gI g 48 5) + 40) - 1) 40)) 48 6) - 1))))) else none)))))
set_option maxRecDepth 100000 in
set_option maxHeartbeats 4000000 in
theorem p_X6_recall {sc : zSc} {hp : zHp} (b1 : Nat) (hb1 : (zK0 b1).1 = 8) {g : zSg} {r : Int32 × zSg} (h : f_X6_recall b1 g = some r) : zRn sc hp 3 zM_X6_recall [.ref 48, .ref b1] (gm g) (some (.int r.1)) (gm r.2) := by
  intro d hD
  obtain ⟨d, rfl⟩ : ∃ d', d = d' + 1 := ⟨d - 1, by omega⟩
  show zG _ sc hp (zcd zM_X6_recall) 0 [some (.ref 48), some (.ref b1), none, none] [] (gm g) _
  unfold f_X6_recall at h
  refine g_run 12 (pc' := 18) (L' := [some (.ref 48), some (.ref b1), some (.int ((imod (((gI g 48 5) + 40) - 1) 40))), none]) (S' := [.int ((imod (((gI g 48 5) + 40) - 1) 40)), .ref 49]) (M' := gm g) rfl ?_
  replace h := zB_of h
  obtain ⟨v1, g2, e3, h⟩ := h
  refine g_inv2 (kd := 0) (p_X8_pick 49 rfl e3) rfl rfl rfl (by decide) rfl rfl rfl rfl (by omega) (pc' := 21) rfl (S' := [zrv v1]) rfl ?_
  refine g_astoren (v := v1) rfl (Nat.le_of_ble_eq_true rfl) (L' := [some (.ref 48), some (.ref b1), some (.int ((imod (((gI g 48 5) + 40) - 1) 40))), some (zrv v1)]) rfl ?_
  refine g_run 3 (pc' := 27) (L' := [some (.ref 48), some (.ref b1), some (.int ((imod (((gI g 48 5) + 40) - 1) 40))), some (zrv v1)]) (S' := [.int 1, .int ((gI g2 48 6))]) (M' := gm g2) rfl ?_
  refine g_icmp ((gI g2 48 6) < 1) rfl (t := 34) rfl rfl (fun c4 => ?_) (fun c4 => ?_)
  · replace h := (if_pos c4).symm.trans h
    refine g_run 1 (pc' := 35) (L' := [some (.ref 48), some (.ref b1), some (.int ((imod (((gI g 48 5) + 40) - 1) 40))), some (zrv v1)]) (S' := [.int 0]) (M' := gm g2) rfl ?_
    cases h
    exact g_ret rfl rfl rfl rfl
  · replace h := (if_neg c4).symm.trans h
    refine g_aloadn (v := v1) rfl rfl ?_
    rcases v1 with _ | a5
    · replace h := zNu_n h
      show zG _ _ _ _ 31 [some (.ref 48), some (.ref b1), some (.int ((imod (((gI g 48 5) + 40) - 1) 40))), some (.null)] [.null] (gm g2) _
      refine g_run 1 (pc' := 34) (L' := [some (.ref 48), some (.ref b1), some (.int ((imod (((gI g 48 5) + 40) - 1) 40))), some (.null)]) (S' := []) (M' := gm g2) rfl ?_
      refine g_run 1 (pc' := 35) (L' := [some (.ref 48), some (.ref b1), some (.int ((imod (((gI g 48 5) + 40) - 1) 40))), some (.null)]) (S' := [.int 0]) (M' := gm g2) rfl ?_
      cases h
      exact g_ret rfl rfl rfl rfl
    · replace h := zNu_s h
      by_cases h7 : (zK0 a5).1 = 8
      case neg => exact nomatch ((if_neg h7).symm.trans h)
      replace h := (if_pos h7).symm.trans h
      show zG _ _ _ _ 31 [some (.ref 48), some (.ref b1), some (.int ((imod (((gI g 48 5) + 40) - 1) 40))), some (.ref a5)] [.ref a5] (gm g2) _
      refine g_run 1 (pc' := 36) (L' := [some (.ref 48), some (.ref b1), some (.int ((imod (((gI g 48 5) + 40) - 1) 40))), some (.ref a5)]) (S' := []) (M' := gm g2) rfl ?_
      refine g_run 2 (pc' := 38) (L' := [some (.ref 48), some (.ref b1), some (.int ((imod (((gI g 48 5) + 40) - 1) 40))), some (.ref a5)]) (S' := [.ref a5, .ref b1]) (M' := gm g2) rfl ?_
      replace h := zB_of h
      obtain ⟨v8, g9, e10, h⟩ := h
      refine g_inv2 (kd := 1) (p_X8_become b1 a5 hb1 h7 e10) rfl rfl rfl (by decide) rfl (g_recv (a := b1) rfl (Nat.le_of_ble_eq_true rfl) (Nat.le_of_ble_eq_true rfl) (Nat.le_of_ble_eq_true rfl) (Nat.le_of_ble_eq_true rfl) rfl hb1 (Nat.le_of_ble_eq_true rfl)) rfl rfl (by omega) (pc' := 41) rfl (S' := []) rfl ?_
      refine g_run 10 (pc' := 57) (L' := [some (.ref 48), some (.ref b1), some (.int ((imod (((gI g 48 5) + 40) - 1) 40))), some (.ref a5)]) (S' := [.int 1]) (M' := gm (gsI (gsI g9 48 5 (imod (((gI g 48 5) + 40) - 1) 40)) 48 6 ((gI (gsI g9 48 5 (imod (((gI g 48 5) + 40) - 1) 40)) 48 6) - 1))) rfl ?_
      cases h
      exact g_ret rfl rfl rfl rfl
def f_X6_write (b1 : Nat) (x2 : Int32) (g : zSg) : Option (Unit × zSg) := (zB (f_X7_set 50 ((imod (gI g (b1) 10) 100) * 3) x2 g) (fun v1 g2 => (zB (f_J6_bitCount_0f7a4 (gI g2 (b1) 5) g2) (fun v4 g5 => (zB (f_X7_set 50 (((imod (gI g (b1) 10) 100) * 3) + 1) v4 g5) (fun v7 g8 => (zB (f_X7_set 50 (((imod (gI g (b1) 10) 100) * 3) + 2) (gI g8 (b1) 7) g8) (fun v10 g11 => some ((), (gsI g11 (b1) 10 ((gI g11 (b1) 10) + 1)))))))))))
set_option maxRecDepth 100000 in
set_option maxHeartbeats 4000000 in
theorem p_X6_write {sc : zSc} {hp : zHp} (b1 : Nat) (hb1 : (zK0 b1).1 = 8) {x2 : Int32} {g : zSg} {r : Unit × zSg} (h : f_X6_write b1 x2 g = some r) : zRn sc hp 1 zM_X6_write [.ref 48, .ref b1, .int x2] (gm g) none (gm r.2) := by
  intro d hD
  obtain ⟨d, rfl⟩ : ∃ d', d = d' + 1 := ⟨d - 1, by omega⟩
  show zG _ sc hp (zcd zM_X6_write) 0 [some (.ref 48), some (.ref b1), some (.int x2), none] [] (gm g) _
  unfold f_X6_write at h
  refine g_run 1 (pc' := 1) (L' := [some (.ref 48), some (.ref b1), some (.int x2), none]) (S' := [.ref b1]) (M' := gm g) rfl ?_
  refine g_getf rfl (ci := 8) (k := 10) rfl hb1 rfl ?_
  refine g_run 9 (pc' := 16) (L' := [some (.ref 48), some (.ref b1), some (.int x2), some (.int (((imod (gI g (b1) 10) 100) * 3)))]) (S' := [.int x2, .int (((imod (gI g (b1) 10) 100) * 3)), .ref 50]) (M' := gm g) rfl ?_
  replace h := zB_of h
  obtain ⟨v1, g2, e3, h⟩ := h
  refine g_inv2 (kd := 1) (p_X7_set 50 rfl e3) rfl rfl rfl (by decide) rfl rfl rfl rfl (by omega) (pc' := 19) rfl (S' := []) rfl ?_
  refine g_run 6 (pc' := 27) (L' := [some (.ref 48), some (.ref b1), some (.int x2), some (.int (((imod (gI g (b1) 10) 100) * 3)))]) (S' := [.ref b1, .int ((((imod (gI g (b1) 10) 100) * 3) + 1)), .ref 50]) (M' := gm g2) rfl ?_
  refine g_getf rfl (ci := 8) (k := 5) rfl hb1 rfl ?_
  replace h := zB_of h
  obtain ⟨v4, g5, e6, h⟩ := h
  refine g_inv2 (kd := 0) (p_J6_bitCount_0f7a4  e6) rfl rfl rfl (by decide) rfl rfl rfl rfl (by omega) (pc' := 33) rfl (S' := [.int v4, .int ((((imod (gI g (b1) 10) 100) * 3) + 1)), .ref 50]) rfl ?_
  replace h := zB_of h
  obtain ⟨v7, g8, e9, h⟩ := h
  refine g_inv2 (kd := 1) (p_X7_set 50 rfl e9) rfl rfl rfl (by decide) rfl rfl rfl rfl (by omega) (pc' := 36) rfl (S' := []) rfl ?_
  refine g_run 6 (pc' := 44) (L' := [some (.ref 48), some (.ref b1), some (.int x2), some (.int (((imod (gI g (b1) 10) 100) * 3)))]) (S' := [.ref b1, .int ((((imod (gI g (b1) 10) 100) * 3) + 2)), .ref 50]) (M' := gm g8) rfl ?_
  refine g_getf rfl (ci := 8) (k := 7) rfl hb1 rfl ?_
  replace h := zB_of h
  obtain ⟨v10, g11, e12, h⟩ := h
  refine g_inv2 (kd := 1) (p_X7_set 50 rfl e12) rfl rfl rfl (by decide) rfl rfl rfl rfl (by omega) (pc' := 50) rfl (S' := []) rfl ?_
  refine g_run 2 (pc' := 52) (L' := [some (.ref 48), some (.ref b1), some (.int x2), some (.int (((imod (gI g (b1) 10) 100) * 3)))]) (S' := [.ref b1, .ref b1]) (M' := gm g11) rfl ?_
  refine g_getf rfl (ci := 8) (k := 10) rfl hb1 rfl ?_
  refine g_run 2 (pc' := 57) (L' := [some (.ref 48), some (.ref b1), some (.int x2), some (.int (((imod (gI g (b1) 10) 100) * 3)))]) (S' := [.int (((gI g11 (b1) 10) + 1)), .ref b1]) (M' := gm g11) rfl ?_
  refine g_putf rfl (ci := 8) (k := 10) rfl (a := b1) hb1 rfl (g' := gsI g11 (b1) 10 ((gI g11 (b1) 10) + 1)) rfl ?_
  cases h
  exact g_ret rfl rfl rfl rfl
def f_X6_logLength (b1 : Nat) (g : zSg) : Option (Int32 × zSg) := some ((imin 60 (gI g (b1) 10)), g)
set_option maxRecDepth 100000 in
set_option maxHeartbeats 4000000 in
theorem p_X6_logLength {sc : zSc} {hp : zHp} (b1 : Nat) (hb1 : (zK0 b1).1 = 8) {g : zSg} {r : Int32 × zSg} (h : f_X6_logLength b1 g = some r) : zRn sc hp 1 zM_X6_logLength [.ref 48, .ref b1] (gm g) (some (.int r.1)) (gm r.2) := by
  intro d hD
  obtain ⟨d, rfl⟩ : ∃ d', d = d' + 1 := ⟨d - 1, by omega⟩
  show zG _ sc hp (zcd zM_X6_logLength) 0 [some (.ref 48), some (.ref b1)] [] (gm g) _
  unfold f_X6_logLength at h
  refine g_run 2 (pc' := 3) (L' := [some (.ref 48), some (.ref b1)]) (S' := [.ref b1, .int 60]) (M' := gm g) rfl ?_
  refine g_getf rfl (ci := 8) (k := 10) rfl hb1 rfl ?_
  refine g_spec2 (kd := 0) rfl rfl rfl (by decide) rfl (jd := 1001) rfl (by decide) rfl (Or.inl (by decide)) (S' := [.int ((imin 60 (gI g (b1) 10)))]) (M' := gm g) rfl rfl (pc' := 9) rfl ?_
  cases h
  exact g_ret rfl rfl rfl rfl
def f_X6_read (b1 : Nat) (x2 : Int32) (x3 : Int32) (g : zSg) : Option (Int32 × zSg) := (if x2 < 0 then some ((-1), g) else (zB (f_X6_logLength b1 g) (fun v2 g3 => (if v2 ≤ x2 then some ((-1), g3) else (if x3 < 0 then some ((-1), g3) else (if x3 < 3 then (zB (f_X7_get 50 (((imod (((gI g3 (b1) 10) - 1) - x2) 100) * 3) + x3) g3) (fun v8 g9 => some (v8, g9))) else some ((-1), g3)))))))
set_option maxRecDepth 100000 in
set_option maxHeartbeats 4000000 in
theorem p_X6_read {sc : zSc} {hp : zHp} (b1 : Nat) (hb1 : (zK0 b1).1 = 8) {x2 : Int32} {x3 : Int32} {g : zSg} {r : Int32 × zSg} (h : f_X6_read b1 x2 x3 g = some r) : zRn sc hp 2 zM_X6_read [.ref 48, .ref b1, .int x2, .int x3] (gm g) (some (.int r.1)) (gm r.2) := by
  intro d hD
  obtain ⟨d, rfl⟩ : ∃ d', d = d' + 1 := ⟨d - 1, by omega⟩
  show zG _ sc hp (zcd zM_X6_read) 0 [some (.ref 48), some (.ref b1), some (.int x2), some (.int x3)] [] (gm g) _
  unfold f_X6_read at h
  refine g_run 1 (pc' := 1) (L' := [some (.ref 48), some (.ref b1), some (.int x2), some (.int x3)]) (S' := [.int x2]) (M' := gm g) rfl ?_
  refine g_if (x2 < 0) rfl (t := 22) rfl rfl (fun c1 => ?_) (fun c1 => ?_)
  · replace h := (if_pos c1).symm.trans h
    refine g_run 1 (pc' := 23) (L' := [some (.ref 48), some (.ref b1), some (.int x2), some (.int x3)]) (S' := [.int (-1)]) (M' := gm g) rfl ?_
    cases h
    exact g_ret rfl rfl rfl rfl
  · replace h := (if_neg c1).symm.trans h
    refine g_run 3 (pc' := 7) (L' := [some (.ref 48), some (.ref b1), some (.int x2), some (.int x3)]) (S' := [.ref b1, .ref 48, .int x2]) (M' := gm g) rfl ?_
    replace h := zB_of h
    obtain ⟨v2, g3, e4, h⟩ := h
    refine g_inv2 (kd := 1) (p_X6_logLength b1 hb1 e4) rfl rfl rfl (by decide) rfl rfl rfl rfl (by omega) (pc' := 10) rfl (S' := [.int v2, .int x2]) rfl ?_
    refine g_icmp (v2 ≤ x2) rfl (t := 22) rfl rfl (fun c5 => ?_) (fun c5 => ?_)
    · replace h := (if_pos c5).symm.trans h
      refine g_run 1 (pc' := 23) (L' := [some (.ref 48), some (.ref b1), some (.int x2), some (.int x3)]) (S' := [.int (-1)]) (M' := gm g3) rfl ?_
      cases h
      exact g_ret rfl rfl rfl rfl
    · replace h := (if_neg c5).symm.trans h
      refine g_run 1 (pc' := 14) (L' := [some (.ref 48), some (.ref b1), some (.int x2), some (.int x3)]) (S' := [.int x3]) (M' := gm g3) rfl ?_
      refine g_if (x3 < 0) rfl (t := 22) rfl rfl (fun c6 => ?_) (fun c6 => ?_)
      · replace h := (if_pos c6).symm.trans h
        refine g_run 1 (pc' := 23) (L' := [some (.ref 48), some (.ref b1), some (.int x2), some (.int x3)]) (S' := [.int (-1)]) (M' := gm g3) rfl ?_
        cases h
        exact g_ret rfl rfl rfl rfl
      · replace h := (if_neg c6).symm.trans h
        refine g_run 2 (pc' := 19) (L' := [some (.ref 48), some (.ref b1), some (.int x2), some (.int x3)]) (S' := [.int 3, .int x3]) (M' := gm g3) rfl ?_
        refine g_icmp (x3 < 3) rfl (t := 24) rfl rfl (fun c7 => ?_) (fun c7 => ?_)
        · replace h := (if_pos c7).symm.trans h
          refine g_run 3 (pc' := 29) (L' := [some (.ref 48), some (.ref b1), some (.int x2), some (.int x3)]) (S' := [.ref b1, .ref 50]) (M' := gm g3) rfl ?_
          refine g_getf rfl (ci := 8) (k := 10) rfl hb1 rfl ?_
          refine g_run 10 (pc' := 43) (L' := [some (.ref 48), some (.ref b1), some (.int x2), some (.int x3)]) (S' := [.int ((((imod (((gI g3 (b1) 10) - 1) - x2) 100) * 3) + x3)), .ref 50]) (M' := gm g3) rfl ?_
          replace h := zB_of h
          obtain ⟨v8, g9, e10, h⟩ := h
          refine g_inv2 (kd := 1) (p_X7_get 50 rfl e10) rfl rfl rfl (by decide) rfl rfl rfl rfl (by omega) (pc' := 46) rfl (S' := [.int v8]) rfl ?_
          cases h
          exact g_ret rfl rfl rfl rfl
        · replace h := (if_neg c7).symm.trans h
          refine g_run 1 (pc' := 23) (L' := [some (.ref 48), some (.ref b1), some (.int x2), some (.int x3)]) (S' := [.int (-1)]) (M' := gm g3) rfl ?_
          cases h
          exact g_ret rfl rfl rfl rfl
def f_X6_picture (b1 : Nat) (g : zSg) : Option (Unit × zSg) := (zB (f_X8_become 54 b1 g) (fun v1 g2 => (zB (f_X7_become 52 50 g2) (fun v4 g5 => some ((), (gsI g5 48 4 1))))))
set_option maxRecDepth 100000 in
set_option maxHeartbeats 4000000 in
theorem p_X6_picture {sc : zSc} {hp : zHp} (b1 : Nat) (hb1 : (zK0 b1).1 = 8) {g : zSg} {r : Unit × zSg} (h : f_X6_picture b1 g = some r) : zRn sc hp 3 zM_X6_picture [.ref 48, .ref b1] (gm g) none (gm r.2) := by
  intro d hD
  obtain ⟨d, rfl⟩ : ∃ d', d = d' + 1 := ⟨d - 1, by omega⟩
  show zG _ sc hp (zcd zM_X6_picture) 0 [some (.ref 48), some (.ref b1)] [] (gm g) _
  unfold f_X6_picture at h
  refine g_run 3 (pc' := 5) (L' := [some (.ref 48), some (.ref b1)]) (S' := [.ref b1, .ref 54]) (M' := gm g) rfl ?_
  replace h := zB_of h
  obtain ⟨v1, g2, e3, h⟩ := h
  refine g_inv2 (kd := 1) (p_X8_become 54 b1 rfl hb1 e3) rfl rfl rfl (by decide) rfl rfl rfl rfl (by omega) (pc' := 8) rfl (S' := []) rfl ?_
  refine g_run 4 (pc' := 16) (L' := [some (.ref 48), some (.ref b1)]) (S' := [.ref 50, .ref 52]) (M' := gm g2) rfl ?_
  replace h := zB_of h
  obtain ⟨v4, g5, e6, h⟩ := h
  refine g_inv2 (kd := 1) (p_X7_become 52 50 rfl rfl e6) rfl rfl rfl (by decide) rfl rfl rfl rfl (by omega) (pc' := 19) rfl (S' := []) rfl ?_
  refine g_run 3 (pc' := 24) (L' := [some (.ref 48), some (.ref b1)]) (S' := []) (M' := gm (gsI g5 48 4 1)) rfl ?_
  cases h
  exact g_ret rfl rfl rfl rfl
def f_X6_restore (b1 : Nat) (g : zSg) : Option (Int32 × zSg) := (if ¬ (gI g 48 4) = 0 then (zB (f_X8_become b1 54 g) (fun v2 g3 => (zB (f_X7_become 50 52 g3) (fun v5 g6 => some (1, (gsI g6 48 6 0)))))) else some (0, g))
set_option maxRecDepth 100000 in
set_option maxHeartbeats 4000000 in
theorem p_X6_restore {sc : zSc} {hp : zHp} (b1 : Nat) (hb1 : (zK0 b1).1 = 8) {g : zSg} {r : Int32 × zSg} (h : f_X6_restore b1 g = some r) : zRn sc hp 3 zM_X6_restore [.ref 48, .ref b1] (gm g) (some (.int r.1)) (gm r.2) := by
  intro d hD
  obtain ⟨d, rfl⟩ : ∃ d', d = d' + 1 := ⟨d - 1, by omega⟩
  show zG _ sc hp (zcd zM_X6_restore) 0 [some (.ref 48), some (.ref b1)] [] (gm g) _
  unfold f_X6_restore at h
  refine g_run 2 (pc' := 4) (L' := [some (.ref 48), some (.ref b1)]) (S' := [.int ((gI g 48 4))]) (M' := gm g) rfl ?_
  refine g_if (¬ (gI g 48 4) = 0) rfl (t := 9) rfl rfl (fun c1 => ?_) (fun c1 => ?_)
  · replace h := (if_pos c1).symm.trans h
    refine g_run 3 (pc' := 14) (L' := [some (.ref 48), some (.ref b1)]) (S' := [.ref 54, .ref b1]) (M' := gm g) rfl ?_
    replace h := zB_of h
    obtain ⟨v2, g3, e4, h⟩ := h
    refine g_inv2 (kd := 1) (p_X8_become b1 54 hb1 rfl e4) rfl rfl rfl (by decide) rfl (g_recv (a := b1) rfl (Nat.le_of_ble_eq_true rfl) (Nat.le_of_ble_eq_true rfl) (Nat.le_of_ble_eq_true rfl) (Nat.le_of_ble_eq_true rfl) rfl hb1 (Nat.le_of_ble_eq_true rfl)) rfl rfl (by omega) (pc' := 17) rfl (S' := []) rfl ?_
    refine g_run 4 (pc' := 25) (L' := [some (.ref 48), some (.ref b1)]) (S' := [.ref 52, .ref 50]) (M' := gm g3) rfl ?_
    replace h := zB_of h
    obtain ⟨v5, g6, e7, h⟩ := h
    refine g_inv2 (kd := 1) (p_X7_become 50 52 rfl rfl e7) rfl rfl rfl (by decide) rfl rfl rfl rfl (by omega) (pc' := 28) rfl (S' := []) rfl ?_
    refine g_run 4 (pc' := 34) (L' := [some (.ref 48), some (.ref b1)]) (S' := [.int 1]) (M' := gm (gsI g6 48 6 0)) rfl ?_
    cases h
    exact g_ret rfl rfl rfl rfl
  · replace h := (if_neg c1).symm.trans h
    refine g_run 1 (pc' := 8) (L' := [some (.ref 48), some (.ref b1)]) (S' := [.int 0]) (M' := gm g) rfl ?_
    cases h
    exact g_ret rfl rfl rfl rfl
def f_X8_clear (a : Nat) (g : zSg) : Option (Unit × zSg) := (zB (f_X7_clear (a + 1) g) (fun v1 g2 => (zB (f_X7_clear (a + 3) g2) (fun v4 g5 => (zB (f_X7_clear (a + 5) g5) (fun v7 g8 => (zB (f_X7_clear (a + 7) g8) (fun v10 g11 => some ((), (gsI (gsI (gsI (gsI g11 (a) 4 0) (a) 5 0) (a) 9 0) (a) 10 0))))))))))
set_option maxRecDepth 100000 in
set_option maxHeartbeats 4000000 in
theorem p_X8_clear {sc : zSc} {hp : zHp} (a : Nat) (ha : (zK0 a).1 = 8) {g : zSg} {r : Unit × zSg} (h : f_X8_clear a g = some r) : zRn sc hp 1 zM_X8_clear [.ref a] (gm g) none (gm r.2) := by
  intro d hD
  obtain ⟨d, rfl⟩ : ∃ d', d = d' + 1 := ⟨d - 1, by omega⟩
  show zG _ sc hp (zcd zM_X8_clear) 0 [some (.ref a)] [] (gm g) _
  unfold f_X8_clear at h
  refine g_run 1 (pc' := 1) (L' := [some (.ref a)]) (S' := [.ref a]) (M' := gm g) rfl ?_
  refine g_getf rfl (ci := 8) (k := 0) rfl ha (gfv_s0 ha) ?_
  replace h := zB_of h
  obtain ⟨v1, g2, e3, h⟩ := h
  refine g_inv2 (kd := 1) (p_X7_clear (a + 1) (zK0_s ha).1 e3) rfl rfl rfl (by decide) rfl (g_recv (a := a + 1) rfl (Nat.le_of_ble_eq_true rfl) (Nat.le_of_ble_eq_true rfl) (Nat.le_of_ble_eq_true rfl) (Nat.le_of_ble_eq_true rfl) rfl (zK0_s ha).1 (Nat.le_of_ble_eq_true rfl)) rfl rfl (by omega) (pc' := 7) rfl (S' := []) rfl ?_
  refine g_run 1 (pc' := 8) (L' := [some (.ref a)]) (S' := [.ref a]) (M' := gm g2) rfl ?_
  refine g_getf rfl (ci := 8) (k := 1) rfl ha (gfv_s1 ha) ?_
  replace h := zB_of h
  obtain ⟨v4, g5, e6, h⟩ := h
  refine g_inv2 (kd := 1) (p_X7_clear (a + 3) (zK0_s ha).2.1 e6) rfl rfl rfl (by decide) rfl (g_recv (a := a + 3) rfl (Nat.le_of_ble_eq_true rfl) (Nat.le_of_ble_eq_true rfl) (Nat.le_of_ble_eq_true rfl) (Nat.le_of_ble_eq_true rfl) rfl (zK0_s ha).2.1 (Nat.le_of_ble_eq_true rfl)) rfl rfl (by omega) (pc' := 14) rfl (S' := []) rfl ?_
  refine g_run 1 (pc' := 15) (L' := [some (.ref a)]) (S' := [.ref a]) (M' := gm g5) rfl ?_
  refine g_getf rfl (ci := 8) (k := 2) rfl ha (gfv_s2 ha) ?_
  replace h := zB_of h
  obtain ⟨v7, g8, e9, h⟩ := h
  refine g_inv2 (kd := 1) (p_X7_clear (a + 5) (zK0_s ha).2.2.1 e9) rfl rfl rfl (by decide) rfl (g_recv (a := a + 5) rfl (Nat.le_of_ble_eq_true rfl) (Nat.le_of_ble_eq_true rfl) (Nat.le_of_ble_eq_true rfl) (Nat.le_of_ble_eq_true rfl) rfl (zK0_s ha).2.2.1 (Nat.le_of_ble_eq_true rfl)) rfl rfl (by omega) (pc' := 21) rfl (S' := []) rfl ?_
  refine g_run 1 (pc' := 22) (L' := [some (.ref a)]) (S' := [.ref a]) (M' := gm g8) rfl ?_
  refine g_getf rfl (ci := 8) (k := 3) rfl ha (gfv_s3 ha) ?_
  replace h := zB_of h
  obtain ⟨v10, g11, e12, h⟩ := h
  refine g_inv2 (kd := 1) (p_X7_clear (a + 7) (zK0_s ha).2.2.2 e12) rfl rfl rfl (by decide) rfl (g_recv (a := a + 7) rfl (Nat.le_of_ble_eq_true rfl) (Nat.le_of_ble_eq_true rfl) (Nat.le_of_ble_eq_true rfl) (Nat.le_of_ble_eq_true rfl) rfl (zK0_s ha).2.2.2 (Nat.le_of_ble_eq_true rfl)) rfl rfl (by omega) (pc' := 28) rfl (S' := []) rfl ?_
  refine g_run 2 (pc' := 30) (L' := [some (.ref a)]) (S' := [.int 0, .ref a]) (M' := gm g11) rfl ?_
  refine g_putf rfl (ci := 8) (k := 4) rfl (a := a) ha rfl (g' := gsI g11 (a) 4 0) rfl ?_
  refine g_run 2 (pc' := 35) (L' := [some (.ref a)]) (S' := [.int 0, .ref a]) (M' := gm (gsI g11 (a) 4 0)) rfl ?_
  refine g_putf rfl (ci := 8) (k := 5) rfl (a := a) ha rfl (g' := gsI (gsI g11 (a) 4 0) (a) 5 0) rfl ?_
  refine g_run 2 (pc' := 40) (L' := [some (.ref a)]) (S' := [.int 0, .ref a]) (M' := gm (gsI (gsI g11 (a) 4 0) (a) 5 0)) rfl ?_
  refine g_putf rfl (ci := 8) (k := 9) rfl (a := a) ha rfl (g' := gsI (gsI (gsI g11 (a) 4 0) (a) 5 0) (a) 9 0) rfl ?_
  refine g_run 2 (pc' := 45) (L' := [some (.ref a)]) (S' := [.int 0, .ref a]) (M' := gm (gsI (gsI (gsI g11 (a) 4 0) (a) 5 0) (a) 9 0)) rfl ?_
  refine g_putf rfl (ci := 8) (k := 10) rfl (a := a) ha rfl (g' := gsI (gsI (gsI (gsI g11 (a) 4 0) (a) 5 0) (a) 9 0) (a) 10 0) rfl ?_
  cases h
  exact g_ret rfl rfl rfl rfl
def f_X8_turnHanging (a : Nat) (x1 : Int32) (g : zSg) : Option (Unit × zSg) := some ((), (gsI g (a) 4 ((gI g (a) 4) ^^^ (1 <<< (x1 &&& 31)))))
set_option maxRecDepth 100000 in
set_option maxHeartbeats 4000000 in
theorem p_X8_turnHanging {sc : zSc} {hp : zHp} (a : Nat) (ha : (zK0 a).1 = 8) {x1 : Int32} {g : zSg} {r : Unit × zSg} (h : f_X8_turnHanging a x1 g = some r) : zRn sc hp 0 zM_X8_turnHanging [.ref a, .int x1] (gm g) none (gm r.2) := by
  intro d hD
  show zG _ sc hp (zcd zM_X8_turnHanging) 0 [some (.ref a), some (.int x1)] [] (gm g) _
  unfold f_X8_turnHanging at h
  refine g_run 2 (pc' := 2) (L' := [some (.ref a), some (.int x1)]) (S' := [.ref a, .ref a]) (M' := gm g) rfl ?_
  refine g_getf rfl (ci := 8) (k := 4) rfl ha rfl ?_
  refine g_run 4 (pc' := 9) (L' := [some (.ref a), some (.int x1)]) (S' := [.int (((gI g (a) 4) ^^^ (1 <<< (x1 &&& 31)))), .ref a]) (M' := gm g) rfl ?_
  refine g_putf rfl (ci := 8) (k := 4) rfl (a := a) ha rfl (g' := gsI g (a) 4 ((gI g (a) 4) ^^^ (1 <<< (x1 &&& 31)))) rfl ?_
  cases h
  exact g_ret rfl rfl rfl rfl
def f_X8_learn (a : Nat) (x1 : Int32) (x2 : Int32) (g : zSg) : Option (Unit × zSg) := (zB (f_X7_get (a + 5) x2 g) (fun v1 g2 => (zB (f_X7_set (a + 5) x2 (v1 ||| (1 <<< (x1 &&& 31))) g2) (fun v4 g5 => some ((), g5)))))
set_option maxRecDepth 100000 in
set_option maxHeartbeats 4000000 in
theorem p_X8_learn {sc : zSc} {hp : zHp} (a : Nat) (ha : (zK0 a).1 = 8) {x1 : Int32} {x2 : Int32} {g : zSg} {r : Unit × zSg} (h : f_X8_learn a x1 x2 g = some r) : zRn sc hp 1 zM_X8_learn [.ref a, .int x1, .int x2] (gm g) none (gm r.2) := by
  intro d hD
  obtain ⟨d, rfl⟩ : ∃ d', d = d' + 1 := ⟨d - 1, by omega⟩
  show zG _ sc hp (zcd zM_X8_learn) 0 [some (.ref a), some (.int x1), some (.int x2)] [] (gm g) _
  unfold f_X8_learn at h
  refine g_run 1 (pc' := 1) (L' := [some (.ref a), some (.int x1), some (.int x2)]) (S' := [.ref a]) (M' := gm g) rfl ?_
  refine g_getf rfl (ci := 8) (k := 2) rfl ha (gfv_s2 ha) ?_
  refine g_run 2 (pc' := 6) (L' := [some (.ref a), some (.int x1), some (.int x2)]) (S' := [.ref a, .int x2, .ref (a + 5)]) (M' := gm g) rfl ?_
  refine g_getf rfl (ci := 8) (k := 2) rfl ha (gfv_s2 ha) ?_
  refine g_run 1 (pc' := 10) (L' := [some (.ref a), some (.int x1), some (.int x2)]) (S' := [.int x2, .ref (a + 5), .int x2, .ref (a + 5)]) (M' := gm g) rfl ?_
  replace h := zB_of h
  obtain ⟨v1, g2, e3, h⟩ := h
  refine g_inv2 (kd := 1) (p_X7_get (a + 5) (zK0_s ha).2.2.1 e3) rfl rfl rfl (by decide) rfl (g_recv (a := a + 5) rfl (Nat.le_of_ble_eq_true rfl) (Nat.le_of_ble_eq_true rfl) (Nat.le_of_ble_eq_true rfl) (Nat.le_of_ble_eq_true rfl) rfl (zK0_s ha).2.2.1 (Nat.le_of_ble_eq_true rfl)) rfl rfl (by omega) (pc' := 13) rfl (S' := [.int v1, .int x2, .ref (a + 5)]) rfl ?_
  refine g_run 4 (pc' := 17) (L' := [some (.ref a), some (.int x1), some (.int x2)]) (S' := [.int ((v1 ||| (1 <<< (x1 &&& 31)))), .int x2, .ref (a + 5)]) (M' := gm g2) rfl ?_
  replace h := zB_of h
  obtain ⟨v4, g5, e6, h⟩ := h
  refine g_inv2 (kd := 1) (p_X7_set (a + 5) (zK0_s ha).2.2.1 e6) rfl rfl rfl (by decide) rfl (g_recv (a := a + 5) rfl (Nat.le_of_ble_eq_true rfl) (Nat.le_of_ble_eq_true rfl) (Nat.le_of_ble_eq_true rfl) (Nat.le_of_ble_eq_true rfl) rfl (zK0_s ha).2.2.1 (Nat.le_of_ble_eq_true rfl)) rfl rfl (by omega) (pc' := 20) rfl (S' := []) rfl ?_
  cases h
  exact g_ret rfl rfl rfl rfl
def f_X8_knownBy_25 (a : Nat) (k4 : Int32 → Int32 → Int32 → zSg → Option (Int32 × zSg)) (y1 : Int32) (y2 : Int32) (y3 : Int32) (g : zSg) : Option (Int32 × zSg) := k4 (y1) (y2) (y3 + 1) g
set_option maxRecDepth 100000 in
set_option maxHeartbeats 4000000 in
theorem p_X8_knownBy_25 {sc : zSc} {hp : zHp} {d : Nat} (hD : 2 ≤ d) (a : Nat) (ha : (zK0 a).1 = 8) (k4 : Int32 → Int32 → Int32 → zSg → Option (Int32 × zSg)) (hk4 : ∀ (y1 : Int32) (y2 : Int32) (y3 : Int32) (g : zSg) (r : Int32 × zSg), k4 y1 y2 y3 g = some r → zG d sc hp (zcd zM_X8_knownBy) 4 [some (.ref a), some (.int y1), some (.int y2), some (.int y3)] [] (gm g) ((some (.int r.1)), gm r.2)) (y1 : Int32) (y2 : Int32) (y3 : Int32) (g : zSg) (r : Int32 × zSg) (h : f_X8_knownBy_25 a k4 y1 y2 y3 g = some r) : zG d sc hp (zcd zM_X8_knownBy) 25 [some (.ref a), some (.int y1), some (.int y2), some (.int y3)] [] (gm g) ((some (.int r.1)), gm r.2) := by
  obtain ⟨d, rfl⟩ : ∃ d', d = d' + 1 := ⟨d - 1, by omega⟩
  unfold f_X8_knownBy_25 at h
  refine g_run 2 (pc' := 4) (L' := [some (.ref a), some (.int y1), some (.int y2), some (.int ((y3 + 1)))]) (S' := []) (M' := gm g) rfl ?_
  exact hk4 (y1) (y2) (y3 + 1) g _ h
def fb_X8_knownBy_4 (a : Nat) (kk : Int32 → Int32 → Int32 → zSg → Option (Int32 × zSg)) (y1 : Int32) (y2 : Int32) (y3 : Int32) (g : zSg) : Option (Int32 × zSg) := (if 6 ≤ y3 then some (y2, g) else (zB (f_X8_knows a y1 y3 g) (fun v2 g3 => (if v2 = 0 then f_X8_knownBy_25 a kk (y1) (y2) (y3) g3 else f_X8_knownBy_25 a kk (y1) (y2 ||| (1 <<< (y3 &&& 31))) (y3) g3))))
def f_X8_knownBy_4 (a : Nat) : Nat → Int32 → Int32 → Int32 → zSg → Option (Int32 × zSg)
  | 0, _, _, _, _ => none
  | n + 1, y1, y2, y3, g => fb_X8_knownBy_4 a (f_X8_knownBy_4 a n) y1 y2 y3 g
set_option maxRecDepth 100000 in
set_option maxHeartbeats 4000000 in
theorem p_X8_knownBy_4 {sc : zSc} {hp : zHp} {d : Nat} (hD : 2 ≤ d) (a : Nat) (ha : (zK0 a).1 = 8) : ∀ (n : Nat) (y1 : Int32) (y2 : Int32) (y3 : Int32) (g : zSg) (r : Int32 × zSg), f_X8_knownBy_4 a n y1 y2 y3 g = some r → zG d sc hp (zcd zM_X8_knownBy) 4 [some (.ref a), some (.int y1), some (.int y2), some (.int y3)] [] (gm g) ((some (.int r.1)), gm r.2) := by
  obtain ⟨d, rfl⟩ : ∃ d', d = d' + 1 := ⟨d - 1, by omega⟩
  intro n
  induction n with
  | zero => intro y1 y2 y3 g r h; cases h
  | succ n ih =>
    intro y1 y2 y3 g r h
    replace h : fb_X8_knownBy_4 a (f_X8_knownBy_4 a n) y1 y2 y3 g = some r := h
    unfold fb_X8_knownBy_4 at h
    refine g_run 2 (pc' := 7) (L' := [some (.ref a), some (.int y1), some (.int y2), some (.int y3)]) (S' := [.int 6, .int y3]) (M' := gm g) rfl ?_
    refine g_icmp (6 ≤ y3) rfl (t := 31) rfl rfl (fun c1 => ?_) (fun c1 => ?_)
    · replace h := (if_pos c1).symm.trans h
      refine g_run 1 (pc' := 32) (L' := [some (.ref a), some (.int y1), some (.int y2), some (.int y3)]) (S' := [.int y2]) (M' := gm g) rfl ?_
      cases h
      exact g_ret rfl rfl rfl rfl
    · replace h := (if_neg c1).symm.trans h
      refine g_run 3 (pc' := 13) (L' := [some (.ref a), some (.int y1), some (.int y2), some (.int y3)]) (S' := [.int y3, .int y1, .ref a]) (M' := gm g) rfl ?_
      replace h := zB_of h
      obtain ⟨v2, g3, e4, h⟩ := h
      refine g_inv2 (kd := 1) (p_X8_knows a ha e4) rfl rfl rfl (by decide) rfl (g_recv (a := a) rfl (Nat.le_of_ble_eq_true rfl) (Nat.le_of_ble_eq_true rfl) (Nat.le_of_ble_eq_true rfl) (Nat.le_of_ble_eq_true rfl) rfl ha (Nat.le_of_ble_eq_true rfl)) rfl rfl (by omega) (pc' := 16) rfl (S' := [.int v2]) rfl ?_
      refine g_if (v2 = 0) rfl (t := 25) rfl rfl (fun c5 => ?_) (fun c5 => ?_)
      · replace h := (if_pos c5).symm.trans h
        exact p_X8_knownBy_25 hD a ha (f_X8_knownBy_4 a n) ih (y1) (y2) (y3) g3 _ h
      · replace h := (if_neg c5).symm.trans h
        refine g_run 6 (pc' := 25) (L' := [some (.ref a), some (.int y1), some (.int ((y2 ||| (1 <<< (y3 &&& 31))))), some (.int y3)]) (S' := []) (M' := gm g3) rfl ?_
        exact p_X8_knownBy_25 hD a ha (f_X8_knownBy_4 a n) ih (y1) (y2 ||| (1 <<< (y3 &&& 31))) (y3) g3 _ h
def f_X8_knownBy (a : Nat) (x1 : Int32) (g : zSg) : Option (Int32 × zSg) := f_X8_knownBy_4 a zFu (x1) (0) (0) g
set_option maxRecDepth 100000 in
set_option maxHeartbeats 4000000 in
theorem p_X8_knownBy {sc : zSc} {hp : zHp} (a : Nat) (ha : (zK0 a).1 = 8) {x1 : Int32} {g : zSg} {r : Int32 × zSg} (h : f_X8_knownBy a x1 g = some r) : zRn sc hp 2 zM_X8_knownBy [.ref a, .int x1] (gm g) (some (.int r.1)) (gm r.2) := by
  intro d hD
  obtain ⟨d, rfl⟩ : ∃ d', d = d' + 1 := ⟨d - 1, by omega⟩
  show zG _ sc hp (zcd zM_X8_knownBy) 0 [some (.ref a), some (.int x1), none, none] [] (gm g) _
  unfold f_X8_knownBy at h
  refine g_run 4 (pc' := 4) (L' := [some (.ref a), some (.int x1), some (.int 0), some (.int 0)]) (S' := []) (M' := gm g) rfl ?_
  exact p_X8_knownBy_4 hD a ha zFu (x1) (0) (0) g _ h
def f_X8_breathOf (a : Nat) (x1 : Int32) (x2 : Int32) (g : zSg) : Option (Int32 × zSg) := (zB (f_X7_get (a + 7) ((x1 * 6) + x2) g) (fun v1 g2 => some (v1, g2)))
set_option maxRecDepth 100000 in
set_option maxHeartbeats 4000000 in
theorem p_X8_breathOf {sc : zSc} {hp : zHp} (a : Nat) (ha : (zK0 a).1 = 8) {x1 : Int32} {x2 : Int32} {g : zSg} {r : Int32 × zSg} (h : f_X8_breathOf a x1 x2 g = some r) : zRn sc hp 1 zM_X8_breathOf [.ref a, .int x1, .int x2] (gm g) (some (.int r.1)) (gm r.2) := by
  intro d hD
  obtain ⟨d, rfl⟩ : ∃ d', d = d' + 1 := ⟨d - 1, by omega⟩
  show zG _ sc hp (zcd zM_X8_breathOf) 0 [some (.ref a), some (.int x1), some (.int x2)] [] (gm g) _
  unfold f_X8_breathOf at h
  refine g_run 1 (pc' := 1) (L' := [some (.ref a), some (.int x1), some (.int x2)]) (S' := [.ref a]) (M' := gm g) rfl ?_
  refine g_getf rfl (ci := 8) (k := 3) rfl ha (gfv_s3 ha) ?_
  refine g_run 5 (pc' := 10) (L' := [some (.ref a), some (.int x1), some (.int x2)]) (S' := [.int (((x1 * 6) + x2)), .ref (a + 7)]) (M' := gm g) rfl ?_
  replace h := zB_of h
  obtain ⟨v1, g2, e3, h⟩ := h
  refine g_inv2 (kd := 1) (p_X7_get (a + 7) (zK0_s ha).2.2.2 e3) rfl rfl rfl (by decide) rfl (g_recv (a := a + 7) rfl (Nat.le_of_ble_eq_true rfl) (Nat.le_of_ble_eq_true rfl) (Nat.le_of_ble_eq_true rfl) (Nat.le_of_ble_eq_true rfl) rfl (zK0_s ha).2.2.2 (Nat.le_of_ble_eq_true rfl)) rfl rfl (by omega) (pc' := 13) rfl (S' := [.int v1]) rfl ?_
  cases h
  exact g_ret rfl rfl rfl rfl
def fb_X8_breathsOf_4 (a : Nat) (kk : Int32 → Int32 → Int32 → zSg → Option (Int32 × zSg)) (y1 : Int32) (y2 : Int32) (y3 : Int32) (g : zSg) : Option (Int32 × zSg) := (if 6 ≤ y3 then some (y2, g) else (zB (f_X8_breathOf a y1 y3 g) (fun v2 g3 => kk (y1) (y2 + v2) (y3 + 1) g3)))
def f_X8_breathsOf_4 (a : Nat) : Nat → Int32 → Int32 → Int32 → zSg → Option (Int32 × zSg)
  | 0, _, _, _, _ => none
  | n + 1, y1, y2, y3, g => fb_X8_breathsOf_4 a (f_X8_breathsOf_4 a n) y1 y2 y3 g
set_option maxRecDepth 100000 in
set_option maxHeartbeats 4000000 in
theorem p_X8_breathsOf_4 {sc : zSc} {hp : zHp} {d : Nat} (hD : 2 ≤ d) (a : Nat) (ha : (zK0 a).1 = 8) : ∀ (n : Nat) (y1 : Int32) (y2 : Int32) (y3 : Int32) (g : zSg) (r : Int32 × zSg), f_X8_breathsOf_4 a n y1 y2 y3 g = some r → zG d sc hp (zcd zM_X8_breathsOf) 4 [some (.ref a), some (.int y1), some (.int y2), some (.int y3)] [] (gm g) ((some (.int r.1)), gm r.2) := by
  obtain ⟨d, rfl⟩ : ∃ d', d = d' + 1 := ⟨d - 1, by omega⟩
  intro n
  induction n with
  | zero => intro y1 y2 y3 g r h; cases h
  | succ n ih =>
    intro y1 y2 y3 g r h
    replace h : fb_X8_breathsOf_4 a (f_X8_breathsOf_4 a n) y1 y2 y3 g = some r := h
    unfold fb_X8_breathsOf_4 at h
    refine g_run 2 (pc' := 7) (L' := [some (.ref a), some (.int y1), some (.int y2), some (.int y3)]) (S' := [.int 6, .int y3]) (M' := gm g) rfl ?_
    refine g_icmp (6 ≤ y3) rfl (t := 25) rfl rfl (fun c1 => ?_) (fun c1 => ?_)
    · replace h := (if_pos c1).symm.trans h
      refine g_run 1 (pc' := 26) (L' := [some (.ref a), some (.int y1), some (.int y2), some (.int y3)]) (S' := [.int y2]) (M' := gm g) rfl ?_
      cases h
      exact g_ret rfl rfl rfl rfl
    · replace h := (if_neg c1).symm.trans h
      refine g_run 4 (pc' := 14) (L' := [some (.ref a), some (.int y1), some (.int y2), some (.int y3)]) (S' := [.int y3, .int y1, .ref a, .int y2]) (M' := gm g) rfl ?_
      replace h := zB_of h
      obtain ⟨v2, g3, e4, h⟩ := h
      refine g_inv2 (kd := 1) (p_X8_breathOf a ha e4) rfl rfl rfl (by decide) rfl (g_recv (a := a) rfl (Nat.le_of_ble_eq_true rfl) (Nat.le_of_ble_eq_true rfl) (Nat.le_of_ble_eq_true rfl) (Nat.le_of_ble_eq_true rfl) rfl ha (Nat.le_of_ble_eq_true rfl)) rfl rfl (by omega) (pc' := 17) rfl (S' := [.int v2, .int y2]) rfl ?_
      refine g_run 4 (pc' := 4) (L' := [some (.ref a), some (.int y1), some (.int ((y2 + v2))), some (.int ((y3 + 1)))]) (S' := []) (M' := gm g3) rfl ?_
      exact ih (y1) (y2 + v2) (y3 + 1) g3 _ h
def f_X8_breathsOf (a : Nat) (x1 : Int32) (g : zSg) : Option (Int32 × zSg) := f_X8_breathsOf_4 a zFu (x1) (0) (0) g
set_option maxRecDepth 100000 in
set_option maxHeartbeats 4000000 in
theorem p_X8_breathsOf {sc : zSc} {hp : zHp} (a : Nat) (ha : (zK0 a).1 = 8) {x1 : Int32} {g : zSg} {r : Int32 × zSg} (h : f_X8_breathsOf a x1 g = some r) : zRn sc hp 2 zM_X8_breathsOf [.ref a, .int x1] (gm g) (some (.int r.1)) (gm r.2) := by
  intro d hD
  obtain ⟨d, rfl⟩ : ∃ d', d = d' + 1 := ⟨d - 1, by omega⟩
  show zG _ sc hp (zcd zM_X8_breathsOf) 0 [some (.ref a), some (.int x1), none, none] [] (gm g) _
  unfold f_X8_breathsOf at h
  refine g_run 4 (pc' := 4) (L' := [some (.ref a), some (.int x1), some (.int 0), some (.int 0)]) (S' := []) (M' := gm g) rfl ?_
  exact p_X8_breathsOf_4 hD a ha zFu (x1) (0) (0) g _ h
def f_X9_bytesIn_22 (k5 : Int32 → Int32 → Int32 → zSg → Option (Int32 × zSg)) (y0 : Int32) (y1 : Int32) (y2 : Int32) (g : zSg) : Option (Int32 × zSg) := k5 (y0) (y1) (y2 + (-8)) g
set_option maxRecDepth 100000 in
set_option maxHeartbeats 4000000 in
theorem p_X9_bytesIn_22 {sc : zSc} {hp : zHp} {d : Nat} (hD : 0 ≤ d) (k5 : Int32 → Int32 → Int32 → zSg → Option (Int32 × zSg)) (hk5 : ∀ (y0 : Int32) (y1 : Int32) (y2 : Int32) (g : zSg) (r : Int32 × zSg), k5 y0 y1 y2 g = some r → zG d sc hp (zcd zM_X9_bytesIn) 5 [some (.int y0), some (.int y1), some (.int y2)] [] (gm g) ((some (.int r.1)), gm r.2)) (y0 : Int32) (y1 : Int32) (y2 : Int32) (g : zSg) (r : Int32 × zSg) (h : f_X9_bytesIn_22 k5 y0 y1 y2 g = some r) : zG d sc hp (zcd zM_X9_bytesIn) 22 [some (.int y0), some (.int y1), some (.int y2)] [] (gm g) ((some (.int r.1)), gm r.2) := by
  unfold f_X9_bytesIn_22 at h
  refine g_run 2 (pc' := 5) (L' := [some (.int y0), some (.int y1), some (.int ((y2 + (-8))))]) (S' := []) (M' := gm g) rfl ?_
  exact hk5 (y0) (y1) (y2 + (-8)) g _ h
def fb_X9_bytesIn_5 (kk : Int32 → Int32 → Int32 → zSg → Option (Int32 × zSg)) (y0 : Int32) (y1 : Int32) (y2 : Int32) (g : zSg) : Option (Int32 × zSg) := (if y2 < 0 then some (y1, g) else (if ((iushr y0 y2) &&& 255) = 0 then f_X9_bytesIn_22 kk (y0) (y1) (y2) g else f_X9_bytesIn_22 kk (y0) (y1 + 1) (y2) g))
def f_X9_bytesIn_5 : Nat → Int32 → Int32 → Int32 → zSg → Option (Int32 × zSg)
  | 0, _, _, _, _ => none
  | n + 1, y0, y1, y2, g => fb_X9_bytesIn_5 (f_X9_bytesIn_5 n) y0 y1 y2 g
set_option maxRecDepth 100000 in
set_option maxHeartbeats 4000000 in
theorem p_X9_bytesIn_5 {sc : zSc} {hp : zHp} {d : Nat} (hD : 0 ≤ d) : ∀ (n : Nat) (y0 : Int32) (y1 : Int32) (y2 : Int32) (g : zSg) (r : Int32 × zSg), f_X9_bytesIn_5 n y0 y1 y2 g = some r → zG d sc hp (zcd zM_X9_bytesIn) 5 [some (.int y0), some (.int y1), some (.int y2)] [] (gm g) ((some (.int r.1)), gm r.2) := by
  intro n
  induction n with
  | zero => intro y0 y1 y2 g r h; cases h
  | succ n ih =>
    intro y0 y1 y2 g r h
    replace h : fb_X9_bytesIn_5 (f_X9_bytesIn_5 n) y0 y1 y2 g = some r := h
    unfold fb_X9_bytesIn_5 at h
    refine g_run 1 (pc' := 6) (L' := [some (.int y0), some (.int y1), some (.int y2)]) (S' := [.int y2]) (M' := gm g) rfl ?_
    refine g_if (y2 < 0) rfl (t := 28) rfl rfl (fun c1 => ?_) (fun c1 => ?_)
    · replace h := (if_pos c1).symm.trans h
      refine g_run 1 (pc' := 29) (L' := [some (.int y0), some (.int y1), some (.int y2)]) (S' := [.int y1]) (M' := gm g) rfl ?_
      cases h
      exact g_ret rfl rfl rfl rfl
    · replace h := (if_neg c1).symm.trans h
      refine g_run 5 (pc' := 16) (L' := [some (.int y0), some (.int y1), some (.int y2)]) (S' := [.int (((iushr y0 y2) &&& 255))]) (M' := gm g) rfl ?_
      refine g_if (((iushr y0 y2) &&& 255) = 0) rfl (t := 22) rfl rfl (fun c2 => ?_) (fun c2 => ?_)
      · replace h := (if_pos c2).symm.trans h
        exact p_X9_bytesIn_22 hD (f_X9_bytesIn_5 n) ih (y0) (y1) (y2) g _ h
      · replace h := (if_neg c2).symm.trans h
        refine g_run 1 (pc' := 22) (L' := [some (.int y0), some (.int ((y1 + 1))), some (.int y2)]) (S' := []) (M' := gm g) rfl ?_
        exact p_X9_bytesIn_22 hD (f_X9_bytesIn_5 n) ih (y0) (y1 + 1) (y2) g _ h
def f_X9_bytesIn (x1 : Int32) (g : zSg) : Option (Int32 × zSg) := f_X9_bytesIn_5 zFu (x1) (0) (24) g
set_option maxRecDepth 100000 in
set_option maxHeartbeats 4000000 in
theorem p_X9_bytesIn {sc : zSc} {hp : zHp} {x1 : Int32} {g : zSg} {r : Int32 × zSg} (h : f_X9_bytesIn x1 g = some r) : zRn sc hp 0 zM_X9_bytesIn [.int x1] (gm g) (some (.int r.1)) (gm r.2) := by
  intro d hD
  show zG _ sc hp (zcd zM_X9_bytesIn) 0 [some (.int x1), none, none] [] (gm g) _
  unfold f_X9_bytesIn at h
  refine g_run 4 (pc' := 5) (L' := [some (.int x1), some (.int 0), some (.int 24)]) (S' := []) (M' := gm g) rfl ?_
  exact p_X9_bytesIn_5 hD zFu (x1) (0) (24) g _ h
def f_X9_addBytesOf_58 (k3 : Int32 → Int32 → zSg → Option (Unit × zSg)) (y1 : Int32) (y2 : Int32) (g : zSg) : Option (Unit × zSg) := k3 (y1) (y2 + (-8)) g
set_option maxRecDepth 100000 in
set_option maxHeartbeats 4000000 in
theorem p_X9_addBytesOf_58 {sc : zSc} {hp : zHp} {d : Nat} (hD : 0 ≤ d) (k3 : Int32 → Int32 → zSg → Option (Unit × zSg)) (hk3 : ∀ (y1 : Int32) (y2 : Int32) (g : zSg) (r : Unit × zSg), k3 y1 y2 g = some r → zG d sc hp (zcd zM_X9_addBytesOf) 3 [some (.ref 1), some (.int y1), some (.int y2), none] [] (gm g) (none, gm r.2)) (y1 : Int32) (y2 : Int32) (g : zSg) (r : Unit × zSg) (h : f_X9_addBytesOf_58 k3 y1 y2 g = some r) : zG d sc hp (zcd zM_X9_addBytesOf) 58 [some (.ref 1), some (.int y1), some (.int y2), none] [] (gm g) (none, gm r.2) := by
  unfold f_X9_addBytesOf_58 at h
  refine g_run 2 (pc' := 3) (L' := [some (.ref 1), some (.int y1), some (.int ((y2 + (-8)))), none]) (S' := []) (M' := gm g) rfl ?_
  exact hk3 (y1) (y2 + (-8)) g _ h
def fb_X9_addBytesOf_3 (kk : Int32 → Int32 → zSg → Option (Unit × zSg)) (y1 : Int32) (y2 : Int32) (g : zSg) : Option (Unit × zSg) := (if y2 < 0 then some ((), g) else (if ((iushr y1 y2) &&& 255) = 0 then f_X9_addBytesOf_58 kk (y1) (y2) g else (if (gI g 1 1) < 0 then f_X9_addBytesOf_58 kk (y1) (y2) g else (if 240 ≤ (gI g 1 1) then f_X9_addBytesOf_58 kk (y1) (y2) g else (if zib (gI g 1 1) 240 = true then f_X9_addBytesOf_58 kk (y1) (y2) (gsI (gsI g (2) (ix (gI g 1 1)) ((iushr y1 y2) &&& 255)) 1 1 ((gI (gsI g (2) (ix (gI g 1 1)) ((iushr y1 y2) &&& 255)) 1 1) + 1)) else none)))))
def f_X9_addBytesOf_3 : Nat → Int32 → Int32 → zSg → Option (Unit × zSg)
  | 0, _, _, _ => none
  | n + 1, y1, y2, g => fb_X9_addBytesOf_3 (f_X9_addBytesOf_3 n) y1 y2 g
set_option maxRecDepth 100000 in
set_option maxHeartbeats 4000000 in
theorem p_X9_addBytesOf_3 {sc : zSc} {hp : zHp} {d : Nat} (hD : 0 ≤ d) : ∀ (n : Nat) (y1 : Int32) (y2 : Int32) (g : zSg) (r : Unit × zSg), f_X9_addBytesOf_3 n y1 y2 g = some r → zG d sc hp (zcd zM_X9_addBytesOf) 3 [some (.ref 1), some (.int y1), some (.int y2), none] [] (gm g) (none, gm r.2) := by
  intro n
  induction n with
  | zero => intro y1 y2 g r h; cases h
  | succ n ih =>
    intro y1 y2 g r h
    replace h : fb_X9_addBytesOf_3 (f_X9_addBytesOf_3 n) y1 y2 g = some r := h
    unfold fb_X9_addBytesOf_3 at h
    refine g_run 1 (pc' := 4) (L' := [some (.ref 1), some (.int y1), some (.int y2), none]) (S' := [.int y2]) (M' := gm g) rfl ?_
    refine g_if (y2 < 0) rfl (t := 64) rfl rfl (fun c1 => ?_) (fun c1 => ?_)
    · replace h := (if_pos c1).symm.trans h
      cases h
      exact g_ret rfl rfl rfl rfl
    · replace h := (if_neg c1).symm.trans h
      refine g_run 7 (pc' := 16) (L' := [some (.ref 1), some (.int y1), some (.int y2), some (.int (((iushr y1 y2) &&& 255)))]) (S' := [.int (((iushr y1 y2) &&& 255))]) (M' := gm g) rfl ?_
      refine g_if (((iushr y1 y2) &&& 255) = 0) rfl (t := 58) rfl rfl (fun c2 => ?_) (fun c2 => ?_)
      · replace h := (if_pos c2).symm.trans h
        refine g_forget (L' := [some (.ref 1), some (.int y1), some (.int y2), none]) (And.intro rfl (And.intro rfl (And.intro rfl True.intro))) ?_
        exact p_X9_addBytesOf_58 hD (f_X9_addBytesOf_3 n) ih (y1) (y2) g _ h
      · replace h := (if_neg c2).symm.trans h
        refine g_run 2 (pc' := 23) (L' := [some (.ref 1), some (.int y1), some (.int y2), some (.int (((iushr y1 y2) &&& 255)))]) (S' := [.int ((gI g 1 1))]) (M' := gm g) rfl ?_
        refine g_if ((gI g 1 1) < 0) rfl (t := 58) rfl rfl (fun c3 => ?_) (fun c3 => ?_)
        · replace h := (if_pos c3).symm.trans h
          refine g_forget (L' := [some (.ref 1), some (.int y1), some (.int y2), none]) (And.intro rfl (And.intro rfl (And.intro rfl True.intro))) ?_
          exact p_X9_addBytesOf_58 hD (f_X9_addBytesOf_3 n) ih (y1) (y2) g _ h
        · replace h := (if_neg c3).symm.trans h
          refine g_run 5 (pc' := 35) (L' := [some (.ref 1), some (.int y1), some (.int y2), some (.int (((iushr y1 y2) &&& 255)))]) (S' := [.int 240, .int ((gI g 1 1))]) (M' := gm g) rfl ?_
          refine g_icmp (240 ≤ (gI g 1 1)) rfl (t := 58) rfl rfl (fun c4 => ?_) (fun c4 => ?_)
          · replace h := (if_pos c4).symm.trans h
            refine g_forget (L' := [some (.ref 1), some (.int y1), some (.int y2), none]) (And.intro rfl (And.intro rfl (And.intro rfl True.intro))) ?_
            exact p_X9_addBytesOf_58 hD (f_X9_addBytesOf_3 n) ih (y1) (y2) g _ h
          · replace h := (if_neg c4).symm.trans h
            refine g_run 5 (pc' := 47) (L' := [some (.ref 1), some (.int y1), some (.int y2), some (.int (((iushr y1 y2) &&& 255)))]) (S' := [.int (((iushr y1 y2) &&& 255)), .int ((gI g 1 1)), .ref 2]) (M' := gm g) rfl ?_
            by_cases c5 : zib (gI g 1 1) 240 = true
            case neg => exact nomatch ((if_neg c5).symm.trans h)
            replace h := (if_pos c5).symm.trans h
            refine g_iast rfl (a := 2) rfl c5 ?_
            refine g_run 6 (pc' := 58) (L' := [some (.ref 1), some (.int y1), some (.int y2), some (.int (((iushr y1 y2) &&& 255)))]) (S' := []) (M' := gm (gsI (gsI g (2) (ix (gI g 1 1)) ((iushr y1 y2) &&& 255)) 1 1 ((gI (gsI g (2) (ix (gI g 1 1)) ((iushr y1 y2) &&& 255)) 1 1) + 1))) rfl ?_
            refine g_forget (L' := [some (.ref 1), some (.int y1), some (.int y2), none]) (And.intro rfl (And.intro rfl (And.intro rfl True.intro))) ?_
            exact p_X9_addBytesOf_58 hD (f_X9_addBytesOf_3 n) ih (y1) (y2) (gsI (gsI g (2) (ix (gI g 1 1)) ((iushr y1 y2) &&& 255)) 1 1 ((gI (gsI g (2) (ix (gI g 1 1)) ((iushr y1 y2) &&& 255)) 1 1) + 1)) _ h
def f_X9_addBytesOf (x1 : Int32) (g : zSg) : Option (Unit × zSg) := f_X9_addBytesOf_3 zFu (x1) (24) g
set_option maxRecDepth 100000 in
set_option maxHeartbeats 4000000 in
theorem p_X9_addBytesOf {sc : zSc} {hp : zHp} {x1 : Int32} {g : zSg} {r : Unit × zSg} (h : f_X9_addBytesOf x1 g = some r) : zRn sc hp 0 zM_X9_addBytesOf [.ref 1, .int x1] (gm g) none (gm r.2) := by
  intro d hD
  show zG _ sc hp (zcd zM_X9_addBytesOf) 0 [some (.ref 1), some (.int x1), none, none] [] (gm g) _
  unfold f_X9_addBytesOf at h
  refine g_run 2 (pc' := 3) (L' := [some (.ref 1), some (.int x1), some (.int 24), none]) (S' := []) (M' := gm g) rfl ?_
  exact p_X9_addBytesOf_3 hD zFu (x1) (24) g _ h
def f_X9_length (g : zSg) : Option (Int32 × zSg) := some ((gI g 1 1), g)
set_option maxRecDepth 100000 in
set_option maxHeartbeats 4000000 in
theorem p_X9_length {sc : zSc} {hp : zHp} {g : zSg} {r : Int32 × zSg} (h : f_X9_length g = some r) : zRn sc hp 0 zM_X9_length [.ref 1] (gm g) (some (.int r.1)) (gm r.2) := by
  intro d hD
  show zG _ sc hp (zcd zM_X9_length) 0 [some (.ref 1)] [] (gm g) _
  unfold f_X9_length at h
  refine g_run 2 (pc' := 4) (L' := [some (.ref 1)]) (S' := [.int ((gI g 1 1))]) (M' := gm g) rfl ?_
  cases h
  exact g_ret rfl rfl rfl rfl
def f_X9_cutTo (x1 : Int32) (g : zSg) : Option (Unit × zSg) := some ((), (gsI g 1 1 x1))
set_option maxRecDepth 100000 in
set_option maxHeartbeats 4000000 in
theorem p_X9_cutTo {sc : zSc} {hp : zHp} {x1 : Int32} {g : zSg} {r : Unit × zSg} (h : f_X9_cutTo x1 g = some r) : zRn sc hp 0 zM_X9_cutTo [.ref 1, .int x1] (gm g) none (gm r.2) := by
  intro d hD
  show zG _ sc hp (zcd zM_X9_cutTo) 0 [some (.ref 1), some (.int x1)] [] (gm g) _
  unfold f_X9_cutTo at h
  refine g_run 3 (pc' := 5) (L' := [some (.ref 1), some (.int x1)]) (S' := []) (M' := gm (gsI g 1 1 x1)) rfl ?_
  cases h
  exact g_ret rfl rfl rfl rfl
def f_X10_obey (x1 : Option Nat) (g : zSg) : Option (Unit × zSg) := some ((), gsH g x1)
theorem p_X10_obey {sc : zSc} {hp : zHp} {x1 : Option Nat} {g : zSg} {r : Unit × zSg} (h : f_X10_obey x1 g = some r) : zRn sc hp 0 zM_X10_obey [.ref 423, zrv x1] (gm g) none (gm r.2) := by
  intro d hD
  cases h
  have hL : zent [.ref 423, zrv x1] 2 = [some (.ref 423), some (zrv x1)] := by cases x1 <;> rfl
  show zG _ sc hp (zcd zM_X10_obey) 0 (zent [.ref 423, zrv x1] 2) [] (gm g) _
  rw [hL]
  refine g_run 1 (pc' := 1) (L' := [some (.ref 423), some (zrv x1)]) (S' := [.ref 423]) (M' := gm g) rfl ?_
  refine g_aloadn (v := x1) rfl rfl ?_
  refine g_putf (v := zrv x1) rfl (ci := 10) (k := 4) rfl (a := 423) rfl rfl (gset_h x1) ?_
  exact g_ret rfl rfl rfl rfl

def fb_X10_begin_74 (b1 : Nat) (kk : Int32 → zSg → Option (Unit × zSg)) (y2 : Int32) (g : zSg) : Option (Unit × zSg) := (zB (f_X0_secrets 3 g) (fun v1 g2 => (if v1 ≤ y2 then some ((), g2) else (zB (f_X0_owner 3 y2 g2) (fun v5 g6 => (zB (f_X8_learn b1 v5 y2 g6) (fun v8 g9 => kk (y2 + 1) g9)))))))
def f_X10_begin_74 (b1 : Nat) : Nat → Int32 → zSg → Option (Unit × zSg)
  | 0, _, _ => none
  | n + 1, y2, g => fb_X10_begin_74 b1 (f_X10_begin_74 b1 n) y2 g
set_option maxRecDepth 100000 in
set_option maxHeartbeats 4000000 in
theorem p_X10_begin_74 {sc : zSc} {hp : zHp} {d : Nat} (hD : 2 ≤ d) (b1 : Nat) (hb1 : (zK0 b1).1 = 8) : ∀ (n : Nat) (y2 : Int32) (g : zSg) (r : Unit × zSg), f_X10_begin_74 b1 n y2 g = some r → zG d sc hp (zcd zM_X10_begin) 74 [some (.ref 423), some (.ref b1), some (.int y2)] [] (gm g) (none, gm r.2) := by
  obtain ⟨d, rfl⟩ : ∃ d', d = d' + 1 := ⟨d - 1, by omega⟩
  intro n
  induction n with
  | zero => intro y2 g r h; cases h
  | succ n ih =>
    intro y2 g r h
    replace h : fb_X10_begin_74 b1 (f_X10_begin_74 b1 n) y2 g = some r := h
    unfold fb_X10_begin_74 at h
    refine g_run 3 (pc' := 79) (L' := [some (.ref 423), some (.ref b1), some (.int y2)]) (S' := [.ref 3, .int y2]) (M' := gm g) rfl ?_
    replace h := zB_of h
    obtain ⟨v1, g2, e3, h⟩ := h
    refine g_inv2 (kd := 1) (p_X0_secrets 3 rfl e3) rfl rfl rfl (by decide) rfl rfl rfl rfl (by omega) (pc' := 82) rfl (S' := [.int v1, .int y2]) rfl ?_
    refine g_icmp (v1 ≤ y2) rfl (t := 104) rfl rfl (fun c4 => ?_) (fun c4 => ?_)
    · replace h := (if_pos c4).symm.trans h
      cases h
      exact g_ret rfl rfl rfl rfl
    · replace h := (if_neg c4).symm.trans h
      refine g_run 4 (pc' := 91) (L' := [some (.ref 423), some (.ref b1), some (.int y2)]) (S' := [.int y2, .ref 3, .ref b1]) (M' := gm g2) rfl ?_
      replace h := zB_of h
      obtain ⟨v5, g6, e7, h⟩ := h
      refine g_inv2 (kd := 1) (p_X0_owner 3 rfl e7) rfl rfl rfl (by decide) rfl rfl rfl rfl (by omega) (pc' := 94) rfl (S' := [.int v5, .ref b1]) rfl ?_
      refine g_run 1 (pc' := 95) (L' := [some (.ref 423), some (.ref b1), some (.int y2)]) (S' := [.int y2, .int v5, .ref b1]) (M' := gm g6) rfl ?_
      replace h := zB_of h
      obtain ⟨v8, g9, e10, h⟩ := h
      refine g_inv2 (kd := 1) (p_X8_learn b1 hb1 e10) rfl rfl rfl (by decide) rfl (g_recv (a := b1) rfl (Nat.le_of_ble_eq_true rfl) (Nat.le_of_ble_eq_true rfl) (Nat.le_of_ble_eq_true rfl) (Nat.le_of_ble_eq_true rfl) rfl hb1 (Nat.le_of_ble_eq_true rfl)) rfl rfl (by omega) (pc' := 98) rfl (S' := []) rfl ?_
      refine g_run 2 (pc' := 74) (L' := [some (.ref 423), some (.ref b1), some (.int ((y2 + 1)))]) (S' := []) (M' := gm g9) rfl ?_
      exact ih (y2 + 1) g9 _ h
def f_X10_begin_72 (b1 : Nat) (g : zSg) : Option (Unit × zSg) := f_X10_begin_74 b1 zFu (0) g
set_option maxRecDepth 100000 in
set_option maxHeartbeats 4000000 in
theorem p_X10_begin_72 {sc : zSc} {hp : zHp} {d : Nat} (hD : 2 ≤ d) (b1 : Nat) (hb1 : (zK0 b1).1 = 8) (g : zSg) (r : Unit × zSg) (h : f_X10_begin_72 b1 g = some r) : zG d sc hp (zcd zM_X10_begin) 72 [some (.ref 423), some (.ref b1), none] [] (gm g) (none, gm r.2) := by
  obtain ⟨d, rfl⟩ : ∃ d', d = d' + 1 := ⟨d - 1, by omega⟩
  unfold f_X10_begin_72 at h
  refine g_run 2 (pc' := 74) (L' := [some (.ref 423), some (.ref b1), some (.int 0)]) (S' := []) (M' := gm g) rfl ?_
  exact p_X10_begin_74 hD b1 hb1 zFu (0) g _ h
def fb_X10_begin_39 (b1 : Nat) (kk : Int32 → zSg → Option (Unit × zSg)) (y2 : Int32) (g : zSg) : Option (Unit × zSg) := (zB (f_X0_persons 3 g) (fun v1 g2 => (if v1 ≤ y2 then f_X10_begin_72 b1 g2 else (zB (f_X0_home 3 y2 g2) (fun v5 g6 => (zB (f_X7_set (b1 + 1) y2 v5 g6) (fun v8 g9 => kk (y2 + 1) g9)))))))
def f_X10_begin_39 (b1 : Nat) : Nat → Int32 → zSg → Option (Unit × zSg)
  | 0, _, _ => none
  | n + 1, y2, g => fb_X10_begin_39 b1 (f_X10_begin_39 b1 n) y2 g
set_option maxRecDepth 100000 in
set_option maxHeartbeats 4000000 in
theorem p_X10_begin_39 {sc : zSc} {hp : zHp} {d : Nat} (hD : 2 ≤ d) (b1 : Nat) (hb1 : (zK0 b1).1 = 8) : ∀ (n : Nat) (y2 : Int32) (g : zSg) (r : Unit × zSg), f_X10_begin_39 b1 n y2 g = some r → zG d sc hp (zcd zM_X10_begin) 39 [some (.ref 423), some (.ref b1), some (.int y2)] [] (gm g) (none, gm r.2) := by
  obtain ⟨d, rfl⟩ : ∃ d', d = d' + 1 := ⟨d - 1, by omega⟩
  intro n
  induction n with
  | zero => intro y2 g r h; cases h
  | succ n ih =>
    intro y2 g r h
    replace h : fb_X10_begin_39 b1 (f_X10_begin_39 b1 n) y2 g = some r := h
    unfold fb_X10_begin_39 at h
    refine g_run 3 (pc' := 44) (L' := [some (.ref 423), some (.ref b1), some (.int y2)]) (S' := [.ref 3, .int y2]) (M' := gm g) rfl ?_
    replace h := zB_of h
    obtain ⟨v1, g2, e3, h⟩ := h
    refine g_inv2 (kd := 1) (p_X0_persons 3 rfl e3) rfl rfl rfl (by decide) rfl rfl rfl rfl (by omega) (pc' := 47) rfl (S' := [.int v1, .int y2]) rfl ?_
    refine g_icmp (v1 ≤ y2) rfl (t := 72) rfl rfl (fun c4 => ?_) (fun c4 => ?_)
    · replace h := (if_pos c4).symm.trans h
      refine g_forget (L' := [some (.ref 423), some (.ref b1), none]) (And.intro rfl (And.intro rfl True.intro)) ?_
      exact p_X10_begin_72 hD b1 hb1 g2 _ h
    · replace h := (if_neg c4).symm.trans h
      refine g_run 1 (pc' := 51) (L' := [some (.ref 423), some (.ref b1), some (.int y2)]) (S' := [.ref b1]) (M' := gm g2) rfl ?_
      refine g_getf rfl (ci := 8) (k := 0) rfl hb1 (gfv_s0 hb1) ?_
      refine g_run 4 (pc' := 60) (L' := [some (.ref 423), some (.ref b1), some (.int y2)]) (S' := [.int y2, .ref 3, .int y2, .ref (b1 + 1)]) (M' := gm g2) rfl ?_
      replace h := zB_of h
      obtain ⟨v5, g6, e7, h⟩ := h
      refine g_inv2 (kd := 1) (p_X0_home 3 rfl e7) rfl rfl rfl (by decide) rfl rfl rfl rfl (by omega) (pc' := 63) rfl (S' := [.int v5, .int y2, .ref (b1 + 1)]) rfl ?_
      replace h := zB_of h
      obtain ⟨v8, g9, e10, h⟩ := h
      refine g_inv2 (kd := 1) (p_X7_set (b1 + 1) (zK0_s hb1).1 e10) rfl rfl rfl (by decide) rfl (g_recv (a := b1 + 1) rfl (Nat.le_of_ble_eq_true rfl) (Nat.le_of_ble_eq_true rfl) (Nat.le_of_ble_eq_true rfl) (Nat.le_of_ble_eq_true rfl) rfl (zK0_s hb1).1 (Nat.le_of_ble_eq_true rfl)) rfl rfl (by omega) (pc' := 66) rfl (S' := []) rfl ?_
      refine g_run 2 (pc' := 39) (L' := [some (.ref 423), some (.ref b1), some (.int ((y2 + 1)))]) (S' := []) (M' := gm g9) rfl ?_
      exact ih (y2 + 1) g9 _ h
def f_X10_begin (b1 : Nat) (g : zSg) : Option (Unit × zSg) := (zB (f_X8_clear b1 g) (fun v1 g2 => (zB (f_X0_windTold 3 g2) (fun v4 g5 => (zB (f_X0_oakTold 3 (gsI g5 (b1) 6 v4)) (fun v7 g8 => (zB (f_X0_coinsTold 3 (gsI g8 (b1) 7 v7)) (fun v10 g11 => f_X10_begin_39 b1 zFu (0) (gsI g11 (b1) 8 v10)))))))))
set_option maxRecDepth 100000 in
set_option maxHeartbeats 4000000 in
theorem p_X10_begin {sc : zSc} {hp : zHp} (b1 : Nat) (hb1 : (zK0 b1).1 = 8) {g : zSg} {r : Unit × zSg} (h : f_X10_begin b1 g = some r) : zRn sc hp 2 zM_X10_begin [.ref 423, .ref b1] (gm g) none (gm r.2) := by
  intro d hD
  obtain ⟨d, rfl⟩ : ∃ d', d = d' + 1 := ⟨d - 1, by omega⟩
  show zG _ sc hp (zcd zM_X10_begin) 0 [some (.ref 423), some (.ref b1), none] [] (gm g) _
  unfold f_X10_begin at h
  refine g_run 1 (pc' := 1) (L' := [some (.ref 423), some (.ref b1), none]) (S' := [.ref b1]) (M' := gm g) rfl ?_
  replace h := zB_of h
  obtain ⟨v1, g2, e3, h⟩ := h
  refine g_inv2 (kd := 1) (p_X8_clear b1 hb1 e3) rfl rfl rfl (by decide) rfl (g_recv (a := b1) rfl (Nat.le_of_ble_eq_true rfl) (Nat.le_of_ble_eq_true rfl) (Nat.le_of_ble_eq_true rfl) (Nat.le_of_ble_eq_true rfl) rfl hb1 (Nat.le_of_ble_eq_true rfl)) rfl rfl (by omega) (pc' := 4) rfl (S' := []) rfl ?_
  refine g_run 3 (pc' := 9) (L' := [some (.ref 423), some (.ref b1), none]) (S' := [.ref 3, .ref b1]) (M' := gm g2) rfl ?_
  replace h := zB_of h
  obtain ⟨v4, g5, e6, h⟩ := h
  refine g_inv2 (kd := 1) (p_X0_windTold 3 rfl e6) rfl rfl rfl (by decide) rfl rfl rfl rfl (by omega) (pc' := 12) rfl (S' := [.int v4, .ref b1]) rfl ?_
  refine g_putf rfl (ci := 8) (k := 6) rfl (a := b1) hb1 rfl (g' := gsI g5 (b1) 6 v4) rfl ?_
  refine g_run 3 (pc' := 20) (L' := [some (.ref 423), some (.ref b1), none]) (S' := [.ref 3, .ref b1]) (M' := gm (gsI g5 (b1) 6 v4)) rfl ?_
  replace h := zB_of h
  obtain ⟨v7, g8, e9, h⟩ := h
  refine g_inv2 (kd := 1) (p_X0_oakTold 3 rfl e9) rfl rfl rfl (by decide) rfl rfl rfl rfl (by omega) (pc' := 23) rfl (S' := [.int v7, .ref b1]) rfl ?_
  refine g_putf rfl (ci := 8) (k := 7) rfl (a := b1) hb1 rfl (g' := gsI g8 (b1) 7 v7) rfl ?_
  refine g_run 3 (pc' := 31) (L' := [some (.ref 423), some (.ref b1), none]) (S' := [.ref 3, .ref b1]) (M' := gm (gsI g8 (b1) 7 v7)) rfl ?_
  replace h := zB_of h
  obtain ⟨v10, g11, e12, h⟩ := h
  refine g_inv2 (kd := 1) (p_X0_coinsTold 3 rfl e12) rfl rfl rfl (by decide) rfl rfl rfl rfl (by omega) (pc' := 34) rfl (S' := [.int v10, .ref b1]) rfl ?_
  refine g_putf rfl (ci := 8) (k := 8) rfl (a := b1) hb1 rfl (g' := gsI g11 (b1) 8 v10) rfl ?_
  refine g_run 2 (pc' := 39) (L' := [some (.ref 423), some (.ref b1), some (.int 0)]) (S' := []) (M' := gm (gsI g11 (b1) 8 v10)) rfl ?_
  exact p_X10_begin_39 hD b1 hb1 zFu (0) (gsI g11 (b1) 8 v10) _ h
def f_X10_smellingCells_43 (b1 : Nat) (k5 : Int32 → Int32 → Int32 → zSg → Option (Int32 × zSg)) (y2 : Int32) (y3 : Int32) (y4 : Int32) (g : zSg) : Option (Int32 × zSg) := k5 (y2) (y3) (y4 + 1) g
set_option maxRecDepth 100000 in
set_option maxHeartbeats 4000000 in
theorem p_X10_smellingCells_43 {sc : zSc} {hp : zHp} {d : Nat} (hD : 19 ≤ d) (b1 : Nat) (hb1 : (zK0 b1).1 = 8) (k5 : Int32 → Int32 → Int32 → zSg → Option (Int32 × zSg)) (hk5 : ∀ (y2 : Int32) (y3 : Int32) (y4 : Int32) (g : zSg) (r : Int32 × zSg), k5 y2 y3 y4 g = some r → zG d sc hp (zcd zM_X10_smellingCells) 5 [some (.ref 423), some (.ref b1), some (.int y2), some (.int y3), some (.int y4)] [] (gm g) ((some (.int r.1)), gm r.2)) (y2 : Int32) (y3 : Int32) (y4 : Int32) (g : zSg) (r : Int32 × zSg) (h : f_X10_smellingCells_43 b1 k5 y2 y3 y4 g = some r) : zG d sc hp (zcd zM_X10_smellingCells) 43 [some (.ref 423), some (.ref b1), some (.int y2), some (.int y3), some (.int y4)] [] (gm g) ((some (.int r.1)), gm r.2) := by
  obtain ⟨d, rfl⟩ : ∃ d', d = d' + 1 := ⟨d - 1, by omega⟩
  unfold f_X10_smellingCells_43 at h
  refine g_run 2 (pc' := 5) (L' := [some (.ref 423), some (.ref b1), some (.int y2), some (.int y3), some (.int ((y4 + 1)))]) (S' := []) (M' := gm g) rfl ?_
  exact hk5 (y2) (y3) (y4 + 1) g _ h
def fb_X10_smellingCells_5 (b1 : Nat) (kk : Int32 → Int32 → Int32 → zSg → Option (Int32 × zSg)) (y2 : Int32) (y3 : Int32) (y4 : Int32) (g : zSg) : Option (Int32 × zSg) := (zB (f_X0_cells 3 g) (fun v1 g2 => (if v1 ≤ y4 then some (y3, g2) else (zB (f_X0_heavy 3 y2 g2) (fun v5 g6 => (zB (f_X10_strengthAt b1 y2 y4 v5 g6) (fun v8 g9 => (if v8 ≤ 0 then f_X10_smellingCells_43 b1 kk (y2) (y3) (y4) g9 else f_X10_smellingCells_43 b1 kk (y2) (y3 ||| (1 <<< (y4 &&& 31))) (y4) g9))))))))
def f_X10_smellingCells_5 (b1 : Nat) : Nat → Int32 → Int32 → Int32 → zSg → Option (Int32 × zSg)
  | 0, _, _, _, _ => none
  | n + 1, y2, y3, y4, g => fb_X10_smellingCells_5 b1 (f_X10_smellingCells_5 b1 n) y2 y3 y4 g
set_option maxRecDepth 100000 in
set_option maxHeartbeats 4000000 in
theorem p_X10_smellingCells_5 {sc : zSc} {hp : zHp} {d : Nat} (hD : 19 ≤ d) (b1 : Nat) (hb1 : (zK0 b1).1 = 8) : ∀ (n : Nat) (y2 : Int32) (y3 : Int32) (y4 : Int32) (g : zSg) (r : Int32 × zSg), f_X10_smellingCells_5 b1 n y2 y3 y4 g = some r → zG d sc hp (zcd zM_X10_smellingCells) 5 [some (.ref 423), some (.ref b1), some (.int y2), some (.int y3), some (.int y4)] [] (gm g) ((some (.int r.1)), gm r.2) := by
  obtain ⟨d, rfl⟩ : ∃ d', d = d' + 1 := ⟨d - 1, by omega⟩
  intro n
  induction n with
  | zero => intro y2 y3 y4 g r h; cases h
  | succ n ih =>
    intro y2 y3 y4 g r h
    replace h : fb_X10_smellingCells_5 b1 (f_X10_smellingCells_5 b1 n) y2 y3 y4 g = some r := h
    unfold fb_X10_smellingCells_5 at h
    refine g_run 3 (pc' := 11) (L' := [some (.ref 423), some (.ref b1), some (.int y2), some (.int y3), some (.int y4)]) (S' := [.ref 3, .int y4]) (M' := gm g) rfl ?_
    replace h := zB_of h
    obtain ⟨v1, g2, e3, h⟩ := h
    refine g_inv2 (kd := 1) (p_X0_cells 3 rfl e3) rfl rfl rfl (by decide) rfl rfl rfl rfl (by omega) (pc' := 14) rfl (S' := [.int v1, .int y4]) rfl ?_
    refine g_icmp (v1 ≤ y4) rfl (t := 49) rfl rfl (fun c4 => ?_) (fun c4 => ?_)
    · replace h := (if_pos c4).symm.trans h
      refine g_run 1 (pc' := 50) (L' := [some (.ref 423), some (.ref b1), some (.int y2), some (.int y3), some (.int y4)]) (S' := [.int y3]) (M' := gm g2) rfl ?_
      cases h
      exact g_ret rfl rfl rfl rfl
    · replace h := (if_neg c4).symm.trans h
      refine g_run 7 (pc' := 27) (L' := [some (.ref 423), some (.ref b1), some (.int y2), some (.int y3), some (.int y4)]) (S' := [.int y2, .ref 3, .int y4, .int y2, .ref b1, .ref 423]) (M' := gm g2) rfl ?_
      replace h := zB_of h
      obtain ⟨v5, g6, e7, h⟩ := h
      refine g_inv2 (kd := 1) (p_X0_heavy 3 rfl e7) rfl rfl rfl (by decide) rfl rfl rfl rfl (by omega) (pc' := 30) rfl (S' := [.int v5, .int y4, .int y2, .ref b1, .ref 423]) rfl ?_
      replace h := zB_of h
      obtain ⟨v8, g9, e10, h⟩ := h
      refine g_inv2 (kd := 1) (p_X10_strengthAt b1 hb1 e10) rfl rfl rfl (by decide) rfl rfl rfl rfl (by omega) (pc' := 33) rfl (S' := [.int v8]) rfl ?_
      refine g_if (v8 ≤ 0) rfl (t := 43) rfl rfl (fun c11 => ?_) (fun c11 => ?_)
      · replace h := (if_pos c11).symm.trans h
        exact p_X10_smellingCells_43 hD b1 hb1 (f_X10_smellingCells_5 b1 n) ih (y2) (y3) (y4) g9 _ h
      · replace h := (if_neg c11).symm.trans h
        refine g_run 6 (pc' := 43) (L' := [some (.ref 423), some (.ref b1), some (.int y2), some (.int ((y3 ||| (1 <<< (y4 &&& 31))))), some (.int y4)]) (S' := []) (M' := gm g9) rfl ?_
        exact p_X10_smellingCells_43 hD b1 hb1 (f_X10_smellingCells_5 b1 n) ih (y2) (y3 ||| (1 <<< (y4 &&& 31))) (y4) g9 _ h
def f_X10_smellingCells (b1 : Nat) (x2 : Int32) (g : zSg) : Option (Int32 × zSg) := f_X10_smellingCells_5 b1 zFu (x2) (0) (0) g
set_option maxRecDepth 100000 in
set_option maxHeartbeats 4000000 in
theorem p_X10_smellingCells {sc : zSc} {hp : zHp} (b1 : Nat) (hb1 : (zK0 b1).1 = 8) {x2 : Int32} {g : zSg} {r : Int32 × zSg} (h : f_X10_smellingCells b1 x2 g = some r) : zRn sc hp 19 zM_X10_smellingCells [.ref 423, .ref b1, .int x2] (gm g) (some (.int r.1)) (gm r.2) := by
  intro d hD
  obtain ⟨d, rfl⟩ : ∃ d', d = d' + 1 := ⟨d - 1, by omega⟩
  show zG _ sc hp (zcd zM_X10_smellingCells) 0 [some (.ref 423), some (.ref b1), some (.int x2), none, none] [] (gm g) _
  unfold f_X10_smellingCells at h
  refine g_run 4 (pc' := 5) (L' := [some (.ref 423), some (.ref b1), some (.int x2), some (.int 0), some (.int 0)]) (S' := []) (M' := gm g) rfl ?_
  exact p_X10_smellingCells_5 hD b1 hb1 zFu (x2) (0) (0) g _ h
def f_X10_foulCells_27 (b1 : Nat) (k4 : Int32 → Int32 → zSg → Option (Int32 × zSg)) (y2 : Int32) (y3 : Int32) (g : zSg) : Option (Int32 × zSg) := k4 (y2) (y3 + 1) g
set_option maxRecDepth 100000 in
set_option maxHeartbeats 4000000 in
theorem p_X10_foulCells_27 {sc : zSc} {hp : zHp} {d : Nat} (hD : 20 ≤ d) (b1 : Nat) (hb1 : (zK0 b1).1 = 8) (k4 : Int32 → Int32 → zSg → Option (Int32 × zSg)) (hk4 : ∀ (y2 : Int32) (y3 : Int32) (g : zSg) (r : Int32 × zSg), k4 y2 y3 g = some r → zG d sc hp (zcd zM_X10_foulCells) 4 [some (.ref 423), some (.ref b1), some (.int y2), some (.int y3)] [] (gm g) ((some (.int r.1)), gm r.2)) (y2 : Int32) (y3 : Int32) (g : zSg) (r : Int32 × zSg) (h : f_X10_foulCells_27 b1 k4 y2 y3 g = some r) : zG d sc hp (zcd zM_X10_foulCells) 27 [some (.ref 423), some (.ref b1), some (.int y2), some (.int y3)] [] (gm g) ((some (.int r.1)), gm r.2) := by
  obtain ⟨d, rfl⟩ : ∃ d', d = d' + 1 := ⟨d - 1, by omega⟩
  unfold f_X10_foulCells_27 at h
  refine g_run 2 (pc' := 4) (L' := [some (.ref 423), some (.ref b1), some (.int y2), some (.int ((y3 + 1)))]) (S' := []) (M' := gm g) rfl ?_
  exact hk4 (y2) (y3 + 1) g _ h
def fb_X10_foulCells_4 (b1 : Nat) (kk : Int32 → Int32 → zSg → Option (Int32 × zSg)) (y2 : Int32) (y3 : Int32) (g : zSg) : Option (Int32 × zSg) := (zB (f_X0_cells 3 g) (fun v1 g2 => (if v1 ≤ y3 then some (y2, g2) else (zB (f_X10_airAt b1 y3 g2) (fun v5 g6 => (if v5 ≤ 0 then f_X10_foulCells_27 b1 kk (y2) (y3) g6 else f_X10_foulCells_27 b1 kk (y2 + 1) (y3) g6))))))
def f_X10_foulCells_4 (b1 : Nat) : Nat → Int32 → Int32 → zSg → Option (Int32 × zSg)
  | 0, _, _, _ => none
  | n + 1, y2, y3, g => fb_X10_foulCells_4 b1 (f_X10_foulCells_4 b1 n) y2 y3 g
set_option maxRecDepth 100000 in
set_option maxHeartbeats 4000000 in
theorem p_X10_foulCells_4 {sc : zSc} {hp : zHp} {d : Nat} (hD : 20 ≤ d) (b1 : Nat) (hb1 : (zK0 b1).1 = 8) : ∀ (n : Nat) (y2 : Int32) (y3 : Int32) (g : zSg) (r : Int32 × zSg), f_X10_foulCells_4 b1 n y2 y3 g = some r → zG d sc hp (zcd zM_X10_foulCells) 4 [some (.ref 423), some (.ref b1), some (.int y2), some (.int y3)] [] (gm g) ((some (.int r.1)), gm r.2) := by
  obtain ⟨d, rfl⟩ : ∃ d', d = d' + 1 := ⟨d - 1, by omega⟩
  intro n
  induction n with
  | zero => intro y2 y3 g r h; cases h
  | succ n ih =>
    intro y2 y3 g r h
    replace h : fb_X10_foulCells_4 b1 (f_X10_foulCells_4 b1 n) y2 y3 g = some r := h
    unfold fb_X10_foulCells_4 at h
    refine g_run 3 (pc' := 9) (L' := [some (.ref 423), some (.ref b1), some (.int y2), some (.int y3)]) (S' := [.ref 3, .int y3]) (M' := gm g) rfl ?_
    replace h := zB_of h
    obtain ⟨v1, g2, e3, h⟩ := h
    refine g_inv2 (kd := 1) (p_X0_cells 3 rfl e3) rfl rfl rfl (by decide) rfl rfl rfl rfl (by omega) (pc' := 12) rfl (S' := [.int v1, .int y3]) rfl ?_
    refine g_icmp (v1 ≤ y3) rfl (t := 33) rfl rfl (fun c4 => ?_) (fun c4 => ?_)
    · replace h := (if_pos c4).symm.trans h
      refine g_run 1 (pc' := 34) (L' := [some (.ref 423), some (.ref b1), some (.int y2), some (.int y3)]) (S' := [.int y2]) (M' := gm g2) rfl ?_
      cases h
      exact g_ret rfl rfl rfl rfl
    · replace h := (if_neg c4).symm.trans h
      refine g_run 3 (pc' := 18) (L' := [some (.ref 423), some (.ref b1), some (.int y2), some (.int y3)]) (S' := [.int y3, .ref b1, .ref 423]) (M' := gm g2) rfl ?_
      replace h := zB_of h
      obtain ⟨v5, g6, e7, h⟩ := h
      refine g_inv2 (kd := 1) (p_X10_airAt b1 hb1 e7) rfl rfl rfl (by decide) rfl rfl rfl rfl (by omega) (pc' := 21) rfl (S' := [.int v5]) rfl ?_
      refine g_if (v5 ≤ 0) rfl (t := 27) rfl rfl (fun c8 => ?_) (fun c8 => ?_)
      · replace h := (if_pos c8).symm.trans h
        exact p_X10_foulCells_27 hD b1 hb1 (f_X10_foulCells_4 b1 n) ih (y2) (y3) g6 _ h
      · replace h := (if_neg c8).symm.trans h
        refine g_run 1 (pc' := 27) (L' := [some (.ref 423), some (.ref b1), some (.int ((y2 + 1))), some (.int y3)]) (S' := []) (M' := gm g6) rfl ?_
        exact p_X10_foulCells_27 hD b1 hb1 (f_X10_foulCells_4 b1 n) ih (y2 + 1) (y3) g6 _ h
def f_X10_foulCells (b1 : Nat) (g : zSg) : Option (Int32 × zSg) := f_X10_foulCells_4 b1 zFu (0) (0) g
set_option maxRecDepth 100000 in
set_option maxHeartbeats 4000000 in
theorem p_X10_foulCells {sc : zSc} {hp : zHp} (b1 : Nat) (hb1 : (zK0 b1).1 = 8) {g : zSg} {r : Int32 × zSg} (h : f_X10_foulCells b1 g = some r) : zRn sc hp 20 zM_X10_foulCells [.ref 423, .ref b1] (gm g) (some (.int r.1)) (gm r.2) := by
  intro d hD
  obtain ⟨d, rfl⟩ : ∃ d', d = d' + 1 := ⟨d - 1, by omega⟩
  show zG _ sc hp (zcd zM_X10_foulCells) 0 [some (.ref 423), some (.ref b1), none, none] [] (gm g) _
  unfold f_X10_foulCells at h
  refine g_run 4 (pc' := 4) (L' := [some (.ref 423), some (.ref b1), some (.int 0), some (.int 0)]) (S' := []) (M' := gm g) rfl ?_
  exact p_X10_foulCells_4 hD b1 hb1 zFu (0) (0) g _ h
def f_X10_safePersons_37 (b1 : Nat) (k4 : Int32 → Int32 → zSg → Option (Int32 × zSg)) (y2 : Int32) (y3 : Int32) (g : zSg) : Option (Int32 × zSg) := k4 (y2) (y3 + 1) g
set_option maxRecDepth 100000 in
set_option maxHeartbeats 4000000 in
theorem p_X10_safePersons_37 {sc : zSc} {hp : zHp} {d : Nat} (hD : 20 ≤ d) (b1 : Nat) (hb1 : (zK0 b1).1 = 8) (k4 : Int32 → Int32 → zSg → Option (Int32 × zSg)) (hk4 : ∀ (y2 : Int32) (y3 : Int32) (g : zSg) (r : Int32 × zSg), k4 y2 y3 g = some r → zG d sc hp (zcd zM_X10_safePersons) 4 [some (.ref 423), some (.ref b1), some (.int y2), some (.int y3)] [] (gm g) ((some (.int r.1)), gm r.2)) (y2 : Int32) (y3 : Int32) (g : zSg) (r : Int32 × zSg) (h : f_X10_safePersons_37 b1 k4 y2 y3 g = some r) : zG d sc hp (zcd zM_X10_safePersons) 37 [some (.ref 423), some (.ref b1), some (.int y2), some (.int y3)] [] (gm g) ((some (.int r.1)), gm r.2) := by
  obtain ⟨d, rfl⟩ : ∃ d', d = d' + 1 := ⟨d - 1, by omega⟩
  unfold f_X10_safePersons_37 at h
  refine g_run 2 (pc' := 4) (L' := [some (.ref 423), some (.ref b1), some (.int y2), some (.int ((y3 + 1)))]) (S' := []) (M' := gm g) rfl ?_
  exact hk4 (y2) (y3 + 1) g _ h
def fb_X10_safePersons_4 (b1 : Nat) (kk : Int32 → Int32 → zSg → Option (Int32 × zSg)) (y2 : Int32) (y3 : Int32) (g : zSg) : Option (Int32 × zSg) := (zB (f_X0_persons 3 g) (fun v1 g2 => (if v1 ≤ y3 then some (y2, g2) else (zB (f_X7_get (b1 + 1) y3 g2) (fun v5 g6 => (zB (f_X10_airAt b1 v5 g6) (fun v8 g9 => (if ¬ v8 = 0 then f_X10_safePersons_37 b1 kk (y2) (y3) g9 else f_X10_safePersons_37 b1 kk (y2 ||| (1 <<< (y3 &&& 31))) (y3) g9))))))))
def f_X10_safePersons_4 (b1 : Nat) : Nat → Int32 → Int32 → zSg → Option (Int32 × zSg)
  | 0, _, _, _ => none
  | n + 1, y2, y3, g => fb_X10_safePersons_4 b1 (f_X10_safePersons_4 b1 n) y2 y3 g
set_option maxRecDepth 100000 in
set_option maxHeartbeats 4000000 in
theorem p_X10_safePersons_4 {sc : zSc} {hp : zHp} {d : Nat} (hD : 20 ≤ d) (b1 : Nat) (hb1 : (zK0 b1).1 = 8) : ∀ (n : Nat) (y2 : Int32) (y3 : Int32) (g : zSg) (r : Int32 × zSg), f_X10_safePersons_4 b1 n y2 y3 g = some r → zG d sc hp (zcd zM_X10_safePersons) 4 [some (.ref 423), some (.ref b1), some (.int y2), some (.int y3)] [] (gm g) ((some (.int r.1)), gm r.2) := by
  obtain ⟨d, rfl⟩ : ∃ d', d = d' + 1 := ⟨d - 1, by omega⟩
  intro n
  induction n with
  | zero => intro y2 y3 g r h; cases h
  | succ n ih =>
    intro y2 y3 g r h
    replace h : fb_X10_safePersons_4 b1 (f_X10_safePersons_4 b1 n) y2 y3 g = some r := h
    unfold fb_X10_safePersons_4 at h
    refine g_run 3 (pc' := 9) (L' := [some (.ref 423), some (.ref b1), some (.int y2), some (.int y3)]) (S' := [.ref 3, .int y3]) (M' := gm g) rfl ?_
    replace h := zB_of h
    obtain ⟨v1, g2, e3, h⟩ := h
    refine g_inv2 (kd := 1) (p_X0_persons 3 rfl e3) rfl rfl rfl (by decide) rfl rfl rfl rfl (by omega) (pc' := 12) rfl (S' := [.int v1, .int y3]) rfl ?_
    refine g_icmp (v1 ≤ y3) rfl (t := 43) rfl rfl (fun c4 => ?_) (fun c4 => ?_)
    · replace h := (if_pos c4).symm.trans h
      refine g_run 1 (pc' := 44) (L' := [some (.ref 423), some (.ref b1), some (.int y2), some (.int y3)]) (S' := [.int y2]) (M' := gm g2) rfl ?_
      cases h
      exact g_ret rfl rfl rfl rfl
    · replace h := (if_neg c4).symm.trans h
      refine g_run 3 (pc' := 18) (L' := [some (.ref 423), some (.ref b1), some (.int y2), some (.int y3)]) (S' := [.ref b1, .ref b1, .ref 423]) (M' := gm g2) rfl ?_
      refine g_getf rfl (ci := 8) (k := 0) rfl hb1 (gfv_s0 hb1) ?_
      refine g_run 1 (pc' := 22) (L' := [some (.ref 423), some (.ref b1), some (.int y2), some (.int y3)]) (S' := [.int y3, .ref (b1 + 1), .ref b1, .ref 423]) (M' := gm g2) rfl ?_
      replace h := zB_of h
      obtain ⟨v5, g6, e7, h⟩ := h
      refine g_inv2 (kd := 1) (p_X7_get (b1 + 1) (zK0_s hb1).1 e7) rfl rfl rfl (by decide) rfl (g_recv (a := b1 + 1) rfl (Nat.le_of_ble_eq_true rfl) (Nat.le_of_ble_eq_true rfl) (Nat.le_of_ble_eq_true rfl) (Nat.le_of_ble_eq_true rfl) rfl (zK0_s hb1).1 (Nat.le_of_ble_eq_true rfl)) rfl rfl (by omega) (pc' := 25) rfl (S' := [.int v5, .ref b1, .ref 423]) rfl ?_
      replace h := zB_of h
      obtain ⟨v8, g9, e10, h⟩ := h
      refine g_inv2 (kd := 1) (p_X10_airAt b1 hb1 e10) rfl rfl rfl (by decide) rfl rfl rfl rfl (by omega) (pc' := 28) rfl (S' := [.int v8]) rfl ?_
      refine g_if (¬ v8 = 0) rfl (t := 37) rfl rfl (fun c11 => ?_) (fun c11 => ?_)
      · replace h := (if_pos c11).symm.trans h
        exact p_X10_safePersons_37 hD b1 hb1 (f_X10_safePersons_4 b1 n) ih (y2) (y3) g9 _ h
      · replace h := (if_neg c11).symm.trans h
        refine g_run 6 (pc' := 37) (L' := [some (.ref 423), some (.ref b1), some (.int ((y2 ||| (1 <<< (y3 &&& 31))))), some (.int y3)]) (S' := []) (M' := gm g9) rfl ?_
        exact p_X10_safePersons_37 hD b1 hb1 (f_X10_safePersons_4 b1 n) ih (y2 ||| (1 <<< (y3 &&& 31))) (y3) g9 _ h
def f_X10_safePersons (b1 : Nat) (g : zSg) : Option (Int32 × zSg) := f_X10_safePersons_4 b1 zFu (0) (0) g
set_option maxRecDepth 100000 in
set_option maxHeartbeats 4000000 in
theorem p_X10_safePersons {sc : zSc} {hp : zHp} (b1 : Nat) (hb1 : (zK0 b1).1 = 8) {g : zSg} {r : Int32 × zSg} (h : f_X10_safePersons b1 g = some r) : zRn sc hp 20 zM_X10_safePersons [.ref 423, .ref b1] (gm g) (some (.int r.1)) (gm r.2) := by
  intro d hD
  obtain ⟨d, rfl⟩ : ∃ d', d = d' + 1 := ⟨d - 1, by omega⟩
  show zG _ sc hp (zcd zM_X10_safePersons) 0 [some (.ref 423), some (.ref b1), none, none] [] (gm g) _
  unfold f_X10_safePersons at h
  refine g_run 4 (pc' := 4) (L' := [some (.ref 423), some (.ref b1), some (.int 0), some (.int 0)]) (S' := []) (M' := gm g) rfl ?_
  exact p_X10_safePersons_4 hD b1 hb1 zFu (0) (0) g _ h
def f_X10_tables_61 (b1 : Nat) (k4 : Int32 → Int32 → zSg → Option (Int32 × zSg)) (y2 : Int32) (y3 : Int32) (g : zSg) : Option (Int32 × zSg) := k4 (y2) (y3 + 1) g
set_option maxRecDepth 100000 in
set_option maxHeartbeats 4000000 in
theorem p_X10_tables_61 {sc : zSc} {hp : zHp} {d : Nat} (hD : 1 ≤ d) (b1 : Nat) (hb1 : (zK0 b1).1 = 8) (k4 : Int32 → Int32 → zSg → Option (Int32 × zSg)) (hk4 : ∀ (y2 : Int32) (y3 : Int32) (g : zSg) (r : Int32 × zSg), k4 y2 y3 g = some r → zG d sc hp (zcd zM_X10_tables) 4 [some (.ref 423), some (.ref b1), some (.int y2), some (.int y3), none] [] (gm g) ((some (.int r.1)), gm r.2)) (y2 : Int32) (y3 : Int32) (g : zSg) (r : Int32 × zSg) (h : f_X10_tables_61 b1 k4 y2 y3 g = some r) : zG d sc hp (zcd zM_X10_tables) 61 [some (.ref 423), some (.ref b1), some (.int y2), some (.int y3), none] [] (gm g) ((some (.int r.1)), gm r.2) := by
  obtain ⟨d, rfl⟩ : ∃ d', d = d' + 1 := ⟨d - 1, by omega⟩
  unfold f_X10_tables_61 at h
  refine g_run 2 (pc' := 4) (L' := [some (.ref 423), some (.ref b1), some (.int y2), some (.int ((y3 + 1))), none]) (S' := []) (M' := gm g) rfl ?_
  exact hk4 (y2) (y3 + 1) g _ h
def f_X10_tables_55 (b1 : Nat) (k4 : Int32 → Int32 → zSg → Option (Int32 × zSg)) (k20 : Int32 → Int32 → Int32 → zSg → Option (Int32 × zSg)) (y2 : Int32) (y3 : Int32) (y4 : Int32) (g : zSg) : Option (Int32 × zSg) := k20 (y2) (y3) (y4 + 1) g
set_option maxRecDepth 100000 in
set_option maxHeartbeats 4000000 in
theorem p_X10_tables_55 {sc : zSc} {hp : zHp} {d : Nat} (hD : 1 ≤ d) (b1 : Nat) (hb1 : (zK0 b1).1 = 8) (k4 : Int32 → Int32 → zSg → Option (Int32 × zSg)) (hk4 : ∀ (y2 : Int32) (y3 : Int32) (g : zSg) (r : Int32 × zSg), k4 y2 y3 g = some r → zG d sc hp (zcd zM_X10_tables) 4 [some (.ref 423), some (.ref b1), some (.int y2), some (.int y3), none] [] (gm g) ((some (.int r.1)), gm r.2)) (k20 : Int32 → Int32 → Int32 → zSg → Option (Int32 × zSg)) (hk20 : ∀ (y2 : Int32) (y3 : Int32) (y4 : Int32) (g : zSg) (r : Int32 × zSg), k20 y2 y3 y4 g = some r → zG d sc hp (zcd zM_X10_tables) 20 [some (.ref 423), some (.ref b1), some (.int y2), some (.int y3), some (.int y4)] [] (gm g) ((some (.int r.1)), gm r.2)) (y2 : Int32) (y3 : Int32) (y4 : Int32) (g : zSg) (r : Int32 × zSg) (h : f_X10_tables_55 b1 k4 k20 y2 y3 y4 g = some r) : zG d sc hp (zcd zM_X10_tables) 55 [some (.ref 423), some (.ref b1), some (.int y2), some (.int y3), some (.int y4)] [] (gm g) ((some (.int r.1)), gm r.2) := by
  obtain ⟨d, rfl⟩ : ∃ d', d = d' + 1 := ⟨d - 1, by omega⟩
  unfold f_X10_tables_55 at h
  refine g_run 2 (pc' := 20) (L' := [some (.ref 423), some (.ref b1), some (.int y2), some (.int y3), some (.int ((y4 + 1)))]) (S' := []) (M' := gm g) rfl ?_
  exact hk20 (y2) (y3) (y4 + 1) g _ h
def fb_X10_tables_20 (b1 : Nat) (k4 : Int32 → Int32 → zSg → Option (Int32 × zSg)) (kk : Int32 → Int32 → Int32 → zSg → Option (Int32 × zSg)) (y2 : Int32) (y3 : Int32) (y4 : Int32) (g : zSg) : Option (Int32 × zSg) := (zB (f_X0_persons 3 g) (fun v1 g2 => (if v1 ≤ y4 then f_X10_tables_61 b1 k4 (y2) (y3) g2 else (zB (f_X7_get (b1 + 1) y3 g2) (fun v5 g6 => (zB (f_X7_get (b1 + 1) y4 g6) (fun v8 g9 => (if ¬ v5 = v8 then f_X10_tables_55 b1 k4 kk (y2) (y3) (y4) g9 else f_X10_tables_55 b1 k4 kk (y2 + 1) (y3) (y4) g9))))))))
def f_X10_tables_20 (b1 : Nat) (k4 : Int32 → Int32 → zSg → Option (Int32 × zSg)) : Nat → Int32 → Int32 → Int32 → zSg → Option (Int32 × zSg)
  | 0, _, _, _, _ => none
  | n + 1, y2, y3, y4, g => fb_X10_tables_20 b1 k4 (f_X10_tables_20 b1 k4 n) y2 y3 y4 g
set_option maxRecDepth 100000 in
set_option maxHeartbeats 4000000 in
theorem p_X10_tables_20 {sc : zSc} {hp : zHp} {d : Nat} (hD : 1 ≤ d) (b1 : Nat) (hb1 : (zK0 b1).1 = 8) (k4 : Int32 → Int32 → zSg → Option (Int32 × zSg)) (hk4 : ∀ (y2 : Int32) (y3 : Int32) (g : zSg) (r : Int32 × zSg), k4 y2 y3 g = some r → zG d sc hp (zcd zM_X10_tables) 4 [some (.ref 423), some (.ref b1), some (.int y2), some (.int y3), none] [] (gm g) ((some (.int r.1)), gm r.2)) : ∀ (n : Nat) (y2 : Int32) (y3 : Int32) (y4 : Int32) (g : zSg) (r : Int32 × zSg), f_X10_tables_20 b1 k4 n y2 y3 y4 g = some r → zG d sc hp (zcd zM_X10_tables) 20 [some (.ref 423), some (.ref b1), some (.int y2), some (.int y3), some (.int y4)] [] (gm g) ((some (.int r.1)), gm r.2) := by
  obtain ⟨d, rfl⟩ : ∃ d', d = d' + 1 := ⟨d - 1, by omega⟩
  intro n
  induction n with
  | zero => intro y2 y3 y4 g r h; cases h
  | succ n ih =>
    intro y2 y3 y4 g r h
    replace h : fb_X10_tables_20 b1 k4 (f_X10_tables_20 b1 k4 n) y2 y3 y4 g = some r := h
    unfold fb_X10_tables_20 at h
    refine g_run 3 (pc' := 26) (L' := [some (.ref 423), some (.ref b1), some (.int y2), some (.int y3), some (.int y4)]) (S' := [.ref 3, .int y4]) (M' := gm g) rfl ?_
    replace h := zB_of h
    obtain ⟨v1, g2, e3, h⟩ := h
    refine g_inv2 (kd := 1) (p_X0_persons 3 rfl e3) rfl rfl rfl (by decide) rfl rfl rfl rfl (by omega) (pc' := 29) rfl (S' := [.int v1, .int y4]) rfl ?_
    refine g_icmp (v1 ≤ y4) rfl (t := 61) rfl rfl (fun c4 => ?_) (fun c4 => ?_)
    · replace h := (if_pos c4).symm.trans h
      refine g_forget (L' := [some (.ref 423), some (.ref b1), some (.int y2), some (.int y3), none]) (And.intro rfl (And.intro rfl (And.intro rfl (And.intro rfl True.intro)))) ?_
      exact p_X10_tables_61 hD b1 hb1 k4 hk4 (y2) (y3) g2 _ h
    · replace h := (if_neg c4).symm.trans h
      refine g_run 1 (pc' := 33) (L' := [some (.ref 423), some (.ref b1), some (.int y2), some (.int y3), some (.int y4)]) (S' := [.ref b1]) (M' := gm g2) rfl ?_
      refine g_getf rfl (ci := 8) (k := 0) rfl hb1 (gfv_s0 hb1) ?_
      refine g_run 1 (pc' := 37) (L' := [some (.ref 423), some (.ref b1), some (.int y2), some (.int y3), some (.int y4)]) (S' := [.int y3, .ref (b1 + 1)]) (M' := gm g2) rfl ?_
      replace h := zB_of h
      obtain ⟨v5, g6, e7, h⟩ := h
      refine g_inv2 (kd := 1) (p_X7_get (b1 + 1) (zK0_s hb1).1 e7) rfl rfl rfl (by decide) rfl (g_recv (a := b1 + 1) rfl (Nat.le_of_ble_eq_true rfl) (Nat.le_of_ble_eq_true rfl) (Nat.le_of_ble_eq_true rfl) (Nat.le_of_ble_eq_true rfl) rfl (zK0_s hb1).1 (Nat.le_of_ble_eq_true rfl)) rfl rfl (by omega) (pc' := 40) rfl (S' := [.int v5]) rfl ?_
      refine g_run 1 (pc' := 41) (L' := [some (.ref 423), some (.ref b1), some (.int y2), some (.int y3), some (.int y4)]) (S' := [.ref b1, .int v5]) (M' := gm g6) rfl ?_
      refine g_getf rfl (ci := 8) (k := 0) rfl hb1 (gfv_s0 hb1) ?_
      refine g_run 1 (pc' := 46) (L' := [some (.ref 423), some (.ref b1), some (.int y2), some (.int y3), some (.int y4)]) (S' := [.int y4, .ref (b1 + 1), .int v5]) (M' := gm g6) rfl ?_
      replace h := zB_of h
      obtain ⟨v8, g9, e10, h⟩ := h
      refine g_inv2 (kd := 1) (p_X7_get (b1 + 1) (zK0_s hb1).1 e10) rfl rfl rfl (by decide) rfl (g_recv (a := b1 + 1) rfl (Nat.le_of_ble_eq_true rfl) (Nat.le_of_ble_eq_true rfl) (Nat.le_of_ble_eq_true rfl) (Nat.le_of_ble_eq_true rfl) rfl (zK0_s hb1).1 (Nat.le_of_ble_eq_true rfl)) rfl rfl (by omega) (pc' := 49) rfl (S' := [.int v8, .int v5]) rfl ?_
      refine g_icmp (¬ v5 = v8) rfl (t := 55) rfl rfl (fun c11 => ?_) (fun c11 => ?_)
      · replace h := (if_pos c11).symm.trans h
        exact p_X10_tables_55 hD b1 hb1 k4 hk4 (f_X10_tables_20 b1 k4 n) ih (y2) (y3) (y4) g9 _ h
      · replace h := (if_neg c11).symm.trans h
        refine g_run 1 (pc' := 55) (L' := [some (.ref 423), some (.ref b1), some (.int ((y2 + 1))), some (.int y3), some (.int y4)]) (S' := []) (M' := gm g9) rfl ?_
        exact p_X10_tables_55 hD b1 hb1 k4 hk4 (f_X10_tables_20 b1 k4 n) ih (y2 + 1) (y3) (y4) g9 _ h
def fb_X10_tables_4 (b1 : Nat) (kk : Int32 → Int32 → zSg → Option (Int32 × zSg)) (y2 : Int32) (y3 : Int32) (g : zSg) : Option (Int32 × zSg) := (zB (f_X0_persons 3 g) (fun v1 g2 => (if v1 ≤ y3 then some (y2, g2) else f_X10_tables_20 b1 kk zFu (y2) (y3) (y3 + 1) g2)))
def f_X10_tables_4 (b1 : Nat) : Nat → Int32 → Int32 → zSg → Option (Int32 × zSg)
  | 0, _, _, _ => none
  | n + 1, y2, y3, g => fb_X10_tables_4 b1 (f_X10_tables_4 b1 n) y2 y3 g
set_option maxRecDepth 100000 in
set_option maxHeartbeats 4000000 in
theorem p_X10_tables_4 {sc : zSc} {hp : zHp} {d : Nat} (hD : 1 ≤ d) (b1 : Nat) (hb1 : (zK0 b1).1 = 8) : ∀ (n : Nat) (y2 : Int32) (y3 : Int32) (g : zSg) (r : Int32 × zSg), f_X10_tables_4 b1 n y2 y3 g = some r → zG d sc hp (zcd zM_X10_tables) 4 [some (.ref 423), some (.ref b1), some (.int y2), some (.int y3), none] [] (gm g) ((some (.int r.1)), gm r.2) := by
  obtain ⟨d, rfl⟩ : ∃ d', d = d' + 1 := ⟨d - 1, by omega⟩
  intro n
  induction n with
  | zero => intro y2 y3 g r h; cases h
  | succ n ih =>
    intro y2 y3 g r h
    replace h : fb_X10_tables_4 b1 (f_X10_tables_4 b1 n) y2 y3 g = some r := h
    unfold fb_X10_tables_4 at h
    refine g_run 3 (pc' := 9) (L' := [some (.ref 423), some (.ref b1), some (.int y2), some (.int y3), none]) (S' := [.ref 3, .int y3]) (M' := gm g) rfl ?_
    replace h := zB_of h
    obtain ⟨v1, g2, e3, h⟩ := h
    refine g_inv2 (kd := 1) (p_X0_persons 3 rfl e3) rfl rfl rfl (by decide) rfl rfl rfl rfl (by omega) (pc' := 12) rfl (S' := [.int v1, .int y3]) rfl ?_
    refine g_icmp (v1 ≤ y3) rfl (t := 67) rfl rfl (fun c4 => ?_) (fun c4 => ?_)
    · replace h := (if_pos c4).symm.trans h
      refine g_run 1 (pc' := 68) (L' := [some (.ref 423), some (.ref b1), some (.int y2), some (.int y3), none]) (S' := [.int y2]) (M' := gm g2) rfl ?_
      cases h
      exact g_ret rfl rfl rfl rfl
    · replace h := (if_neg c4).symm.trans h
      refine g_run 4 (pc' := 20) (L' := [some (.ref 423), some (.ref b1), some (.int y2), some (.int y3), some (.int ((y3 + 1)))]) (S' := []) (M' := gm g2) rfl ?_
      exact p_X10_tables_20 hD b1 hb1 (f_X10_tables_4 b1 n) ih zFu (y2) (y3) (y3 + 1) g2 _ h
def f_X10_tables (b1 : Nat) (g : zSg) : Option (Int32 × zSg) := f_X10_tables_4 b1 zFu (0) (0) g
set_option maxRecDepth 100000 in
set_option maxHeartbeats 4000000 in
theorem p_X10_tables {sc : zSc} {hp : zHp} (b1 : Nat) (hb1 : (zK0 b1).1 = 8) {g : zSg} {r : Int32 × zSg} (h : f_X10_tables b1 g = some r) : zRn sc hp 1 zM_X10_tables [.ref 423, .ref b1] (gm g) (some (.int r.1)) (gm r.2) := by
  intro d hD
  obtain ⟨d, rfl⟩ : ∃ d', d = d' + 1 := ⟨d - 1, by omega⟩
  show zG _ sc hp (zcd zM_X10_tables) 0 [some (.ref 423), some (.ref b1), none, none, none] [] (gm g) _
  unfold f_X10_tables at h
  refine g_run 4 (pc' := 4) (L' := [some (.ref 423), some (.ref b1), some (.int 0), some (.int 0), none]) (S' := []) (M' := gm g) rfl ?_
  exact p_X10_tables_4 hD b1 hb1 zFu (0) (0) g _ h
def fb_X10_lackedByAll_4 (b1 : Nat) (kk : Int32 → Int32 → zSg → Option (Int32 × zSg)) (y2 : Int32) (y3 : Int32) (g : zSg) : Option (Int32 × zSg) := (zB (f_X0_secrets 3 g) (fun v1 g2 => (if v1 ≤ y3 then some (y2, g2) else (zB (f_X10_lacks b1 y3 g2) (fun v5 g6 => kk (y2 + v5) (y3 + 1) g6)))))
def f_X10_lackedByAll_4 (b1 : Nat) : Nat → Int32 → Int32 → zSg → Option (Int32 × zSg)
  | 0, _, _, _ => none
  | n + 1, y2, y3, g => fb_X10_lackedByAll_4 b1 (f_X10_lackedByAll_4 b1 n) y2 y3 g
set_option maxRecDepth 100000 in
set_option maxHeartbeats 4000000 in
theorem p_X10_lackedByAll_4 {sc : zSc} {hp : zHp} {d : Nat} (hD : 3 ≤ d) (b1 : Nat) (hb1 : (zK0 b1).1 = 8) : ∀ (n : Nat) (y2 : Int32) (y3 : Int32) (g : zSg) (r : Int32 × zSg), f_X10_lackedByAll_4 b1 n y2 y3 g = some r → zG d sc hp (zcd zM_X10_lackedByAll) 4 [some (.ref 423), some (.ref b1), some (.int y2), some (.int y3)] [] (gm g) ((some (.int r.1)), gm r.2) := by
  obtain ⟨d, rfl⟩ : ∃ d', d = d' + 1 := ⟨d - 1, by omega⟩
  intro n
  induction n with
  | zero => intro y2 y3 g r h; cases h
  | succ n ih =>
    intro y2 y3 g r h
    replace h : fb_X10_lackedByAll_4 b1 (f_X10_lackedByAll_4 b1 n) y2 y3 g = some r := h
    unfold fb_X10_lackedByAll_4 at h
    refine g_run 3 (pc' := 9) (L' := [some (.ref 423), some (.ref b1), some (.int y2), some (.int y3)]) (S' := [.ref 3, .int y3]) (M' := gm g) rfl ?_
    replace h := zB_of h
    obtain ⟨v1, g2, e3, h⟩ := h
    refine g_inv2 (kd := 1) (p_X0_secrets 3 rfl e3) rfl rfl rfl (by decide) rfl rfl rfl rfl (by omega) (pc' := 12) rfl (S' := [.int v1, .int y3]) rfl ?_
    refine g_icmp (v1 ≤ y3) rfl (t := 30) rfl rfl (fun c4 => ?_) (fun c4 => ?_)
    · replace h := (if_pos c4).symm.trans h
      refine g_run 1 (pc' := 31) (L' := [some (.ref 423), some (.ref b1), some (.int y2), some (.int y3)]) (S' := [.int y2]) (M' := gm g2) rfl ?_
      cases h
      exact g_ret rfl rfl rfl rfl
    · replace h := (if_neg c4).symm.trans h
      refine g_run 4 (pc' := 19) (L' := [some (.ref 423), some (.ref b1), some (.int y2), some (.int y3)]) (S' := [.int y3, .ref b1, .ref 423, .int y2]) (M' := gm g2) rfl ?_
      replace h := zB_of h
      obtain ⟨v5, g6, e7, h⟩ := h
      refine g_inv2 (kd := 1) (p_X10_lacks b1 hb1 e7) rfl rfl rfl (by decide) rfl rfl rfl rfl (by omega) (pc' := 22) rfl (S' := [.int v5, .int y2]) rfl ?_
      refine g_run 4 (pc' := 4) (L' := [some (.ref 423), some (.ref b1), some (.int ((y2 + v5))), some (.int ((y3 + 1)))]) (S' := []) (M' := gm g6) rfl ?_
      exact ih (y2 + v5) (y3 + 1) g6 _ h
def f_X10_lackedByAll (b1 : Nat) (g : zSg) : Option (Int32 × zSg) := f_X10_lackedByAll_4 b1 zFu (0) (0) g
set_option maxRecDepth 100000 in
set_option maxHeartbeats 4000000 in
theorem p_X10_lackedByAll {sc : zSc} {hp : zHp} (b1 : Nat) (hb1 : (zK0 b1).1 = 8) {g : zSg} {r : Int32 × zSg} (h : f_X10_lackedByAll b1 g = some r) : zRn sc hp 3 zM_X10_lackedByAll [.ref 423, .ref b1] (gm g) (some (.int r.1)) (gm r.2) := by
  intro d hD
  obtain ⟨d, rfl⟩ : ∃ d', d = d' + 1 := ⟨d - 1, by omega⟩
  show zG _ sc hp (zcd zM_X10_lackedByAll) 0 [some (.ref 423), some (.ref b1), none, none] [] (gm g) _
  unfold f_X10_lackedByAll at h
  refine g_run 4 (pc' := 4) (L' := [some (.ref 423), some (.ref b1), some (.int 0), some (.int 0)]) (S' := []) (M' := gm g) rfl ?_
  exact p_X10_lackedByAll_4 hD b1 hb1 zFu (0) (0) g _ h
def f_X11_feed (x1 : Int32) (x2 : Int32) (x3 : Int32) (x4 : Int32) (x5 : Int32) (g : zSg) : Option (Int32 × zSg) := (zB (f_X9_bytesIn x1 g) (fun v1 g2 => (zB (f_X9_bytesIn x2 g2) (fun v4 g5 => (zB (f_X9_bytesIn x3 g5) (fun v7 g8 => (zB (f_X9_bytesIn x4 g8) (fun v10 g11 => (zB (f_X9_bytesIn x5 g11) (fun v13 g14 => (zB (f_X9_length g14) (fun v16 g17 => (if (v16 + ((((v1 + v4) + v7) + v10) + v13)) ≤ 240 then (zB (f_X9_addBytesOf x1 g17) (fun v20 g21 => (zB (f_X9_addBytesOf x2 g21) (fun v23 g24 => (zB (f_X9_addBytesOf x3 g24) (fun v26 g27 => (zB (f_X9_addBytesOf x4 g27) (fun v29 g30 => (zB (f_X9_addBytesOf x5 g30) (fun v32 g33 => (zB (f_X9_length g33) (fun v35 g36 => some (v35, g36))))))))))))) else some ((-1), g17))))))))))))))
set_option maxRecDepth 100000 in
set_option maxHeartbeats 4000000 in
theorem p_X11_feed {sc : zSc} {hp : zHp} {x1 : Int32} {x2 : Int32} {x3 : Int32} {x4 : Int32} {x5 : Int32} {g : zSg} {r : Int32 × zSg} (h : f_X11_feed x1 x2 x3 x4 x5 g = some r) : zRn sc hp 1 zM_X11_feed [.ref 0, .int x1, .int x2, .int x3, .int x4, .int x5] (gm g) (some (.int r.1)) (gm r.2) := by
  intro d hD
  obtain ⟨d, rfl⟩ : ∃ d', d = d' + 1 := ⟨d - 1, by omega⟩
  show zG _ sc hp (zcd zM_X11_feed) 0 [some (.ref 0), some (.int x1), some (.int x2), some (.int x3), some (.int x4), some (.int x5), none] [] (gm g) _
  unfold f_X11_feed at h
  refine g_run 1 (pc' := 1) (L' := [some (.ref 0), some (.int x1), some (.int x2), some (.int x3), some (.int x4), some (.int x5), none]) (S' := [.int x1]) (M' := gm g) rfl ?_
  replace h := zB_of h
  obtain ⟨v1, g2, e3, h⟩ := h
  refine g_inv2 (kd := 0) (p_X9_bytesIn  e3) rfl rfl rfl (by decide) rfl rfl rfl rfl (by omega) (pc' := 4) rfl (S' := [.int v1]) rfl ?_
  refine g_run 1 (pc' := 5) (L' := [some (.ref 0), some (.int x1), some (.int x2), some (.int x3), some (.int x4), some (.int x5), none]) (S' := [.int x2, .int v1]) (M' := gm g2) rfl ?_
  replace h := zB_of h
  obtain ⟨v4, g5, e6, h⟩ := h
  refine g_inv2 (kd := 0) (p_X9_bytesIn  e6) rfl rfl rfl (by decide) rfl rfl rfl rfl (by omega) (pc' := 8) rfl (S' := [.int v4, .int v1]) rfl ?_
  refine g_run 2 (pc' := 10) (L' := [some (.ref 0), some (.int x1), some (.int x2), some (.int x3), some (.int x4), some (.int x5), none]) (S' := [.int x3, .int ((v1 + v4))]) (M' := gm g5) rfl ?_
  replace h := zB_of h
  obtain ⟨v7, g8, e9, h⟩ := h
  refine g_inv2 (kd := 0) (p_X9_bytesIn  e9) rfl rfl rfl (by decide) rfl rfl rfl rfl (by omega) (pc' := 13) rfl (S' := [.int v7, .int ((v1 + v4))]) rfl ?_
  refine g_run 2 (pc' := 16) (L' := [some (.ref 0), some (.int x1), some (.int x2), some (.int x3), some (.int x4), some (.int x5), none]) (S' := [.int x4, .int (((v1 + v4) + v7))]) (M' := gm g8) rfl ?_
  replace h := zB_of h
  obtain ⟨v10, g11, e12, h⟩ := h
  refine g_inv2 (kd := 0) (p_X9_bytesIn  e12) rfl rfl rfl (by decide) rfl rfl rfl rfl (by omega) (pc' := 19) rfl (S' := [.int v10, .int (((v1 + v4) + v7))]) rfl ?_
  refine g_run 2 (pc' := 22) (L' := [some (.ref 0), some (.int x1), some (.int x2), some (.int x3), some (.int x4), some (.int x5), none]) (S' := [.int x5, .int ((((v1 + v4) + v7) + v10))]) (M' := gm g11) rfl ?_
  replace h := zB_of h
  obtain ⟨v13, g14, e15, h⟩ := h
  refine g_inv2 (kd := 0) (p_X9_bytesIn  e15) rfl rfl rfl (by decide) rfl rfl rfl rfl (by omega) (pc' := 25) rfl (S' := [.int v13, .int ((((v1 + v4) + v7) + v10))]) rfl ?_
  refine g_run 4 (pc' := 32) (L' := [some (.ref 0), some (.int x1), some (.int x2), some (.int x3), some (.int x4), some (.int x5), some (.int (((((v1 + v4) + v7) + v10) + v13)))]) (S' := [.ref 1]) (M' := gm g14) rfl ?_
  replace h := zB_of h
  obtain ⟨v16, g17, e18, h⟩ := h
  refine g_inv2 (kd := 1) (p_X9_length  e18) rfl rfl rfl (by decide) rfl rfl rfl rfl (by omega) (pc' := 35) rfl (S' := [.int v16]) rfl ?_
  refine g_run 3 (pc' := 41) (L' := [some (.ref 0), some (.int x1), some (.int x2), some (.int x3), some (.int x4), some (.int x5), some (.int (((((v1 + v4) + v7) + v10) + v13)))]) (S' := [.int 240, .int ((v16 + ((((v1 + v4) + v7) + v10) + v13)))]) (M' := gm g17) rfl ?_
  refine g_icmp ((v16 + ((((v1 + v4) + v7) + v10) + v13)) ≤ 240) rfl (t := 46) rfl rfl (fun c19 => ?_) (fun c19 => ?_)
  · replace h := (if_pos c19).symm.trans h
    refine g_run 3 (pc' := 51) (L' := [some (.ref 0), some (.int x1), some (.int x2), some (.int x3), some (.int x4), some (.int x5), some (.int (((((v1 + v4) + v7) + v10) + v13)))]) (S' := [.int x1, .ref 1]) (M' := gm g17) rfl ?_
    replace h := zB_of h
    obtain ⟨v20, g21, e22, h⟩ := h
    refine g_inv2 (kd := 1) (p_X9_addBytesOf  e22) rfl rfl rfl (by decide) rfl rfl rfl rfl (by omega) (pc' := 54) rfl (S' := []) rfl ?_
    refine g_run 3 (pc' := 59) (L' := [some (.ref 0), some (.int x1), some (.int x2), some (.int x3), some (.int x4), some (.int x5), some (.int (((((v1 + v4) + v7) + v10) + v13)))]) (S' := [.int x2, .ref 1]) (M' := gm g21) rfl ?_
    replace h := zB_of h
    obtain ⟨v23, g24, e25, h⟩ := h
    refine g_inv2 (kd := 1) (p_X9_addBytesOf  e25) rfl rfl rfl (by decide) rfl rfl rfl rfl (by omega) (pc' := 62) rfl (S' := []) rfl ?_
    refine g_run 3 (pc' := 67) (L' := [some (.ref 0), some (.int x1), some (.int x2), some (.int x3), some (.int x4), some (.int x5), some (.int (((((v1 + v4) + v7) + v10) + v13)))]) (S' := [.int x3, .ref 1]) (M' := gm g24) rfl ?_
    replace h := zB_of h
    obtain ⟨v26, g27, e28, h⟩ := h
    refine g_inv2 (kd := 1) (p_X9_addBytesOf  e28) rfl rfl rfl (by decide) rfl rfl rfl rfl (by omega) (pc' := 70) rfl (S' := []) rfl ?_
    refine g_run 3 (pc' := 76) (L' := [some (.ref 0), some (.int x1), some (.int x2), some (.int x3), some (.int x4), some (.int x5), some (.int (((((v1 + v4) + v7) + v10) + v13)))]) (S' := [.int x4, .ref 1]) (M' := gm g27) rfl ?_
    replace h := zB_of h
    obtain ⟨v29, g30, e31, h⟩ := h
    refine g_inv2 (kd := 1) (p_X9_addBytesOf  e31) rfl rfl rfl (by decide) rfl rfl rfl rfl (by omega) (pc' := 79) rfl (S' := []) rfl ?_
    refine g_run 3 (pc' := 85) (L' := [some (.ref 0), some (.int x1), some (.int x2), some (.int x3), some (.int x4), some (.int x5), some (.int (((((v1 + v4) + v7) + v10) + v13)))]) (S' := [.int x5, .ref 1]) (M' := gm g30) rfl ?_
    replace h := zB_of h
    obtain ⟨v32, g33, e34, h⟩ := h
    refine g_inv2 (kd := 1) (p_X9_addBytesOf  e34) rfl rfl rfl (by decide) rfl rfl rfl rfl (by omega) (pc' := 88) rfl (S' := []) rfl ?_
    refine g_run 2 (pc' := 92) (L' := [some (.ref 0), some (.int x1), some (.int x2), some (.int x3), some (.int x4), some (.int x5), some (.int (((((v1 + v4) + v7) + v10) + v13)))]) (S' := [.ref 1]) (M' := gm g33) rfl ?_
    replace h := zB_of h
    obtain ⟨v35, g36, e37, h⟩ := h
    refine g_inv2 (kd := 1) (p_X9_length  e37) rfl rfl rfl (by decide) rfl rfl rfl rfl (by omega) (pc' := 95) rfl (S' := [.int v35]) rfl ?_
    cases h
    exact g_ret rfl rfl rfl rfl
  · replace h := (if_neg c19).symm.trans h
    refine g_run 1 (pc' := 45) (L' := [some (.ref 0), some (.int x1), some (.int x2), some (.int x3), some (.int x4), some (.int x5), some (.int (((((v1 + v4) + v7) + v10) + v13)))]) (S' := [.int (-1)]) (M' := gm g17) rfl ?_
    cases h
    exact g_ret rfl rfl rfl rfl
def f_X11_end (x1 : Int32) (g : zSg) : Option (Int32 × zSg) := (if x1 < 0 then some (0, g) else (zB (f_X9_length g) (fun v2 g3 => (if x1 ≤ v2 then (zB (f_X9_cutTo x1 g3) (fun v6 g7 => some (1, g7))) else some (0, g3)))))
set_option maxRecDepth 100000 in
set_option maxHeartbeats 4000000 in
theorem p_X11_end {sc : zSc} {hp : zHp} {x1 : Int32} {g : zSg} {r : Int32 × zSg} (h : f_X11_end x1 g = some r) : zRn sc hp 1 zM_X11_end [.ref 0, .int x1] (gm g) (some (.int r.1)) (gm r.2) := by
  intro d hD
  obtain ⟨d, rfl⟩ : ∃ d', d = d' + 1 := ⟨d - 1, by omega⟩
  show zG _ sc hp (zcd zM_X11_end) 0 [some (.ref 0), some (.int x1)] [] (gm g) _
  unfold f_X11_end at h
  refine g_run 1 (pc' := 1) (L' := [some (.ref 0), some (.int x1)]) (S' := [.int x1]) (M' := gm g) rfl ?_
  refine g_if (x1 < 0) rfl (t := 15) rfl rfl (fun c1 => ?_) (fun c1 => ?_)
  · replace h := (if_pos c1).symm.trans h
    refine g_run 1 (pc' := 16) (L' := [some (.ref 0), some (.int x1)]) (S' := [.int 0]) (M' := gm g) rfl ?_
    cases h
    exact g_ret rfl rfl rfl rfl
  · replace h := (if_neg c1).symm.trans h
    refine g_run 3 (pc' := 9) (L' := [some (.ref 0), some (.int x1)]) (S' := [.ref 1, .int x1]) (M' := gm g) rfl ?_
    replace h := zB_of h
    obtain ⟨v2, g3, e4, h⟩ := h
    refine g_inv2 (kd := 1) (p_X9_length  e4) rfl rfl rfl (by decide) rfl rfl rfl rfl (by omega) (pc' := 12) rfl (S' := [.int v2, .int x1]) rfl ?_
    refine g_icmp (x1 ≤ v2) rfl (t := 17) rfl rfl (fun c5 => ?_) (fun c5 => ?_)
    · replace h := (if_pos c5).symm.trans h
      refine g_run 3 (pc' := 22) (L' := [some (.ref 0), some (.int x1)]) (S' := [.int x1, .ref 1]) (M' := gm g3) rfl ?_
      replace h := zB_of h
      obtain ⟨v6, g7, e8, h⟩ := h
      refine g_inv2 (kd := 1) (p_X9_cutTo  e8) rfl rfl rfl (by decide) rfl rfl rfl rfl (by omega) (pc' := 25) rfl (S' := []) rfl ?_
      refine g_run 1 (pc' := 26) (L' := [some (.ref 0), some (.int x1)]) (S' := [.int 1]) (M' := gm g7) rfl ?_
      cases h
      exact g_ret rfl rfl rfl rfl
    · replace h := (if_neg c5).symm.trans h
      refine g_run 1 (pc' := 16) (L' := [some (.ref 0), some (.int x1)]) (S' := [.int 0]) (M' := gm g3) rfl ?_
      cases h
      exact g_ret rfl rfl rfl rfl
def f_X11_fault (x1 : Int32) (g : zSg) : Option (Int32 × zSg) := (if ¬ x1 = 0 then (if ¬ x1 = 1 then some ((-2), g) else (zB (f_X5_read g) (fun v3 g4 => some (v3, g4)))) else (zB (f_X1_read g) (fun v6 g7 => some (v6, g7))))
set_option maxRecDepth 100000 in
set_option maxHeartbeats 4000000 in
theorem p_X11_fault {sc : zSc} {hp : zHp} {x1 : Int32} {g : zSg} {r : Int32 × zSg} (h : f_X11_fault x1 g = some r) : zRn sc hp 200 zM_X11_fault [.ref 0, .int x1] (gm g) (some (.int r.1)) (gm r.2) := by
  intro d hD
  obtain ⟨d, rfl⟩ : ∃ d', d = d' + 1 := ⟨d - 1, by omega⟩
  show zG _ sc hp (zcd zM_X11_fault) 0 [some (.ref 0), some (.int x1)] [] (gm g) _
  unfold f_X11_fault at h
  refine g_run 1 (pc' := 1) (L' := [some (.ref 0), some (.int x1)]) (S' := [.int x1]) (M' := gm g) rfl ?_
  refine g_if (¬ x1 = 0) rfl (t := 12) rfl rfl (fun c1 => ?_) (fun c1 => ?_)
  · replace h := (if_pos c1).symm.trans h
    refine g_run 2 (pc' := 14) (L' := [some (.ref 0), some (.int x1)]) (S' := [.int 1, .int x1]) (M' := gm g) rfl ?_
    refine g_icmp (¬ x1 = 1) rfl (t := 27) rfl rfl (fun c2 => ?_) (fun c2 => ?_)
    · replace h := (if_pos c2).symm.trans h
      refine g_run 1 (pc' := 29) (L' := [some (.ref 0), some (.int x1)]) (S' := [.int (-2)]) (M' := gm g) rfl ?_
      cases h
      exact g_ret rfl rfl rfl rfl
    · replace h := (if_neg c2).symm.trans h
      refine g_run 2 (pc' := 21) (L' := [some (.ref 0), some (.int x1)]) (S' := [.ref 10]) (M' := gm g) rfl ?_
      replace h := zB_of h
      obtain ⟨v3, g4, e5, h⟩ := h
      refine g_inv2 (kd := 1) (p_X5_read  e5) rfl rfl rfl (by decide) rfl rfl rfl rfl (by omega) (pc' := 24) rfl (S' := [.int v3]) rfl ?_
      refine g_run 1 (pc' := 29) (L' := [some (.ref 0), some (.int x1)]) (S' := [.int v3]) (M' := gm g4) rfl ?_
      cases h
      exact g_ret rfl rfl rfl rfl
  · replace h := (if_neg c1).symm.trans h
    refine g_run 2 (pc' := 8) (L' := [some (.ref 0), some (.int x1)]) (S' := [.ref 6]) (M' := gm g) rfl ?_
    replace h := zB_of h
    obtain ⟨v6, g7, e8, h⟩ := h
    refine g_inv2 (kd := 1) (p_X1_read  e8) rfl rfl rfl (by decide) rfl rfl rfl rfl (by omega) (pc' := 11) rfl (S' := [.int v6]) rfl ?_
    cases h
    exact g_ret rfl rfl rfl rfl
def f_X11_takeCoast (g : zSg) : Option (Int32 × zSg) := (zB (f_X9_cutTo 0 g) (fun v1 g2 => (zB (f_X1_draft g2) (fun v4 g5 => (zO v4 0 (fun a7 => (zB (f_X0_become 3 a7 g5) (fun v10 g11 => (zB (f_X10_begin 39 g11) (fun v13 g14 => (zB (f_X6_forget g14) (fun v16 g17 => (zB (f_X2_forget 39 g17) (fun v19 g20 => (zB (f_X0_cells 3 g20) (fun v22 g23 => some (v22, g23)))))))))))))))))
set_option maxRecDepth 100000 in
set_option maxHeartbeats 4000000 in
theorem p_X11_takeCoast {sc : zSc} {hp : zHp} {g : zSg} {r : Int32 × zSg} (h : f_X11_takeCoast g = some r) : zRn sc hp 4 zM_X11_takeCoast [.ref 0] (gm g) (some (.int r.1)) (gm r.2) := by
  intro d hD
  obtain ⟨d, rfl⟩ : ∃ d', d = d' + 1 := ⟨d - 1, by omega⟩
  show zG _ sc hp (zcd zM_X11_takeCoast) 0 [some (.ref 0)] [] (gm g) _
  unfold f_X11_takeCoast at h
  refine g_run 3 (pc' := 5) (L' := [some (.ref 0)]) (S' := [.int 0, .ref 1]) (M' := gm g) rfl ?_
  replace h := zB_of h
  obtain ⟨v1, g2, e3, h⟩ := h
  refine g_inv2 (kd := 1) (p_X9_cutTo  e3) rfl rfl rfl (by decide) rfl rfl rfl rfl (by omega) (pc' := 8) rfl (S' := []) rfl ?_
  refine g_run 4 (pc' := 16) (L' := [some (.ref 0)]) (S' := [.ref 6, .ref 3]) (M' := gm g2) rfl ?_
  replace h := zB_of h
  obtain ⟨v4, g5, e6, h⟩ := h
  refine g_inv2 (kd := 1) (p_X1_draft  e6) rfl rfl rfl (by decide) rfl rfl rfl rfl (by omega) (pc' := 19) rfl (S' := [zrv v4, .ref 3]) rfl ?_
  replace h := zO_of h
  obtain ⟨a7, q8, h9, h⟩ := h
  subst q8
  show zG _ _ _ _ 19 [some (.ref 0)] [.ref a7, .ref 3] (gm g5) _
  replace h := zB_of h
  obtain ⟨v10, g11, e12, h⟩ := h
  refine g_inv2 (kd := 1) (p_X0_become 3 a7 rfl h9 e12) rfl rfl rfl (by decide) rfl rfl rfl rfl (by omega) (pc' := 22) rfl (S' := []) rfl ?_
  refine g_run 4 (pc' := 30) (L' := [some (.ref 0)]) (S' := [.ref 39, .ref 423]) (M' := gm g11) rfl ?_
  replace h := zB_of h
  obtain ⟨v13, g14, e15, h⟩ := h
  refine g_inv2 (kd := 1) (p_X10_begin 39 rfl e15) rfl rfl rfl (by decide) rfl rfl rfl rfl (by omega) (pc' := 33) rfl (S' := []) rfl ?_
  refine g_run 2 (pc' := 37) (L' := [some (.ref 0)]) (S' := [.ref 48]) (M' := gm g14) rfl ?_
  replace h := zB_of h
  obtain ⟨v16, g17, e18, h⟩ := h
  refine g_inv2 (kd := 1) (p_X6_forget  e18) rfl rfl rfl (by decide) rfl rfl rfl rfl (by omega) (pc' := 40) rfl (S' := []) rfl ?_
  refine g_run 4 (pc' := 48) (L' := [some (.ref 0)]) (S' := [.ref 39, .ref 506]) (M' := gm g17) rfl ?_
  replace h := zB_of h
  obtain ⟨v19, g20, e21, h⟩ := h
  refine g_inv2 (kd := 1) (p_X2_forget 39 rfl e21) rfl rfl rfl (by decide) rfl rfl rfl rfl (by omega) (pc' := 51) rfl (S' := []) rfl ?_
  refine g_run 2 (pc' := 55) (L' := [some (.ref 0)]) (S' := [.ref 3]) (M' := gm g20) rfl ?_
  replace h := zB_of h
  obtain ⟨v22, g23, e24, h⟩ := h
  refine g_inv2 (kd := 1) (p_X0_cells 3 rfl e24) rfl rfl rfl (by decide) rfl rfl rfl rfl (by omega) (pc' := 58) rfl (S' := [.int v22]) rfl ?_
  cases h
  exact g_ret rfl rfl rfl rfl
def f_X11_lawAt_22 (g : zSg) : Option (Option Nat × zSg) := some (none, g)
set_option maxRecDepth 100000 in
set_option maxHeartbeats 4000000 in
theorem p_X11_lawAt_22 {sc : zSc} {hp : zHp} {d : Nat} (hD : 0 ≤ d) (g : zSg) (r : Option Nat × zSg) (h : f_X11_lawAt_22 g = some r) : zG d sc hp (zcd zM_X11_lawAt) 22 [none, none] [] (gm g) ((some (zrv r.1)), gm r.2) := by
  unfold f_X11_lawAt_22 at h
  refine g_run 1 (pc' := 23) (L' := [none, none]) (S' := [.null]) (M' := gm g) rfl ?_
  cases h
  exact g_reto (v := none) rfl rfl
def f_X11_lawAt (x1 : Int32) (g : zSg) : Option (Option Nat × zSg) := (if x1 < 0 then f_X11_lawAt_22 g else (if 4 ≤ x1 then f_X11_lawAt_22 g else (if zib x1 4 = true then some ((zR0 g.2.2.2 (16) (ix x1)), g) else none)))
set_option maxRecDepth 100000 in
set_option maxHeartbeats 4000000 in
theorem p_X11_lawAt {sc : zSc} {hp : zHp} {x1 : Int32} {g : zSg} {r : Option Nat × zSg} (h : f_X11_lawAt x1 g = some r) : zRn sc hp 0 zM_X11_lawAt [.ref 0, .int x1] (gm g) (some (zrv r.1)) (gm r.2) := by
  intro d hD
  show zG _ sc hp (zcd zM_X11_lawAt) 0 [some (.ref 0), some (.int x1)] [] (gm g) _
  unfold f_X11_lawAt at h
  refine g_run 1 (pc' := 1) (L' := [some (.ref 0), some (.int x1)]) (S' := [.int x1]) (M' := gm g) rfl ?_
  refine g_if (x1 < 0) rfl (t := 22) rfl rfl (fun c1 => ?_) (fun c1 => ?_)
  · replace h := (if_pos c1).symm.trans h
    refine g_forget (L' := [none, none]) True.intro ?_
    exact p_X11_lawAt_22 hD g _ h
  · replace h := (if_neg c1).symm.trans h
    refine g_run 4 (pc' := 10) (L' := [some (.ref 0), some (.int x1)]) (S' := [.int 4, .int x1]) (M' := gm g) rfl ?_
    refine g_icmp (4 ≤ x1) rfl (t := 22) rfl rfl (fun c2 => ?_) (fun c2 => ?_)
    · replace h := (if_pos c2).symm.trans h
      refine g_forget (L' := [none, none]) True.intro ?_
      exact p_X11_lawAt_22 hD g _ h
    · replace h := (if_neg c2).symm.trans h
      refine g_run 3 (pc' := 18) (L' := [some (.ref 0), some (.int x1)]) (S' := [.int x1, .ref 16]) (M' := gm g) rfl ?_
      by_cases c3 : zib x1 4 = true
      case neg => exact nomatch ((if_neg c3).symm.trans h)
      replace h := (if_pos c3).symm.trans h
      refine g_aald rfl (a := 16) (Or.inl rfl) c3 ?_
      refine g_run 1 (pc' := 23) (L' := [some (.ref 0), some (.int x1)]) (S' := [zrv ((zR0 g.2.2.2 (16) (ix x1)))]) (M' := gm g) rfl ?_
      cases h
      exact g_reto (v := (zR0 g.2.2.2 (16) (ix x1))) rfl rfl
