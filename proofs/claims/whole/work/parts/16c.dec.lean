/-! ===== decompiled functions (by program), 2 ===== -/
def f_X4_become (a : Nat) (b1 : Nat) (g : zSg) : Option (Unit × zSg) := (zB (f_X7_become (a + 1) (b1 + 1) g) (fun v1 g2 => some ((), (gsI g2 (a) 2 (gI g2 (b1) 2)))))
set_option maxRecDepth 100000 in
set_option maxHeartbeats 4000000 in
theorem p_X4_become {sc : zSc} {hp : zHp} (a : Nat) (b1 : Nat) (ha : (zK0 a).1 = 4) (hb1 : (zK0 b1).1 = 4) {g : zSg} {r : Unit × zSg} (h : f_X4_become a b1 g = some r) : zRn sc hp 2 zM_X4_become [.ref a, .ref b1] (gm g) none (gm r.2) := by
  intro d hD
  obtain ⟨d, rfl⟩ : ∃ d', d = d' + 1 := ⟨d - 1, by omega⟩
  show zG _ sc hp (zcd zM_X4_become) 0 [some (.ref a), some (.ref b1)] [] (gm g) _
  unfold f_X4_become at h
  refine g_run 1 (pc' := 1) (L' := [some (.ref a), some (.ref b1)]) (S' := [.ref a]) (M' := gm g) rfl ?_
  refine g_getf rfl (ci := 4) (k := 0) rfl ha (gfv_l0 ha) ?_
  refine g_run 1 (pc' := 5) (L' := [some (.ref a), some (.ref b1)]) (S' := [.ref b1, .ref (a + 1)]) (M' := gm g) rfl ?_
  refine g_getf rfl (ci := 4) (k := 0) rfl hb1 (gfv_l0 hb1) ?_
  replace h := zB_of h
  obtain ⟨v1, g2, e3, h⟩ := h
  refine g_inv2 (kd := 1) (p_X7_become (a + 1) (b1 + 1) (zK0_l ha).1 (zK0_l hb1).1 e3) rfl rfl rfl (by decide) rfl (g_recv (a := a + 1) rfl (Nat.le_of_ble_eq_true rfl) (Nat.le_of_ble_eq_true rfl) (Nat.le_of_ble_eq_true rfl) (Nat.le_of_ble_eq_true rfl) rfl (zK0_l ha).1 (Nat.le_of_ble_eq_true rfl)) rfl rfl (by omega) (pc' := 11) rfl (S' := []) rfl ?_
  refine g_run 2 (pc' := 13) (L' := [some (.ref a), some (.ref b1)]) (S' := [.ref b1, .ref a]) (M' := gm g2) rfl ?_
  refine g_getf rfl (ci := 4) (k := 2) rfl hb1 rfl ?_
  refine g_putf rfl (ci := 4) (k := 2) rfl (a := a) ha rfl (g' := gsI g2 (a) 2 (gI g2 (b1) 2)) rfl ?_
  cases h
  exact g_ret rfl rfl rfl rfl
def f_X4_add (a : Nat) (x1 : Int32) (g : zSg) : Option (Unit × zSg) := (if 256 ≤ (gI g (a) 2) then some ((), g) else (zB (f_X7_set (a + 1) (gI g (a) 2) x1 g) (fun v2 g3 => some ((), (gsI g3 (a) 2 ((gI g3 (a) 2) + 1))))))
set_option maxRecDepth 100000 in
set_option maxHeartbeats 4000000 in
theorem p_X4_add {sc : zSc} {hp : zHp} (a : Nat) (ha : (zK0 a).1 = 4) {x1 : Int32} {g : zSg} {r : Unit × zSg} (h : f_X4_add a x1 g = some r) : zRn sc hp 1 zM_X4_add [.ref a, .int x1] (gm g) none (gm r.2) := by
  intro d hD
  obtain ⟨d, rfl⟩ : ∃ d', d = d' + 1 := ⟨d - 1, by omega⟩
  show zG _ sc hp (zcd zM_X4_add) 0 [some (.ref a), some (.int x1)] [] (gm g) _
  unfold f_X4_add at h
  refine g_run 1 (pc' := 1) (L' := [some (.ref a), some (.int x1)]) (S' := [.ref a]) (M' := gm g) rfl ?_
  refine g_getf rfl (ci := 4) (k := 2) rfl ha rfl ?_
  refine g_run 1 (pc' := 7) (L' := [some (.ref a), some (.int x1)]) (S' := [.int 256, .int ((gI g (a) 2))]) (M' := gm g) rfl ?_
  refine g_icmp (256 ≤ (gI g (a) 2)) rfl (t := 32) rfl rfl (fun c1 => ?_) (fun c1 => ?_)
  · replace h := (if_pos c1).symm.trans h
    cases h
    exact g_ret rfl rfl rfl rfl
  · replace h := (if_neg c1).symm.trans h
    refine g_run 1 (pc' := 11) (L' := [some (.ref a), some (.int x1)]) (S' := [.ref a]) (M' := gm g) rfl ?_
    refine g_getf rfl (ci := 4) (k := 0) rfl ha (gfv_l0 ha) ?_
    refine g_run 1 (pc' := 15) (L' := [some (.ref a), some (.int x1)]) (S' := [.ref a, .ref (a + 1)]) (M' := gm g) rfl ?_
    refine g_getf rfl (ci := 4) (k := 2) rfl ha rfl ?_
    refine g_run 1 (pc' := 19) (L' := [some (.ref a), some (.int x1)]) (S' := [.int x1, .int ((gI g (a) 2)), .ref (a + 1)]) (M' := gm g) rfl ?_
    replace h := zB_of h
    obtain ⟨v2, g3, e4, h⟩ := h
    refine g_inv2 (kd := 1) (p_X7_set (a + 1) (zK0_l ha).1 e4) rfl rfl rfl (by decide) rfl (g_recv (a := a + 1) rfl (Nat.le_of_ble_eq_true rfl) (Nat.le_of_ble_eq_true rfl) (Nat.le_of_ble_eq_true rfl) (Nat.le_of_ble_eq_true rfl) rfl (zK0_l ha).1 (Nat.le_of_ble_eq_true rfl)) rfl rfl (by omega) (pc' := 22) rfl (S' := []) rfl ?_
    refine g_run 2 (pc' := 24) (L' := [some (.ref a), some (.int x1)]) (S' := [.ref a, .ref a]) (M' := gm g3) rfl ?_
    refine g_getf rfl (ci := 4) (k := 2) rfl ha rfl ?_
    refine g_run 2 (pc' := 29) (L' := [some (.ref a), some (.int x1)]) (S' := [.int (((gI g3 (a) 2) + 1)), .ref a]) (M' := gm g3) rfl ?_
    refine g_putf rfl (ci := 4) (k := 2) rfl (a := a) ha rfl (g' := gsI g3 (a) 2 ((gI g3 (a) 2) + 1)) rfl ?_
    cases h
    exact g_ret rfl rfl rfl rfl
def f_X4_addLeap (a : Nat) (g : zSg) : Option (Int32 × zSg) := (zB (f_X4_add a (-63) g) (fun v1 g2 => (zB (f_X4_add a 0 g2) (fun v4 g5 => some (((gI g5 (a) 2) - 1), g5)))))
set_option maxRecDepth 100000 in
set_option maxHeartbeats 4000000 in
theorem p_X4_addLeap {sc : zSc} {hp : zHp} (a : Nat) (ha : (zK0 a).1 = 4) {g : zSg} {r : Int32 × zSg} (h : f_X4_addLeap a g = some r) : zRn sc hp 2 zM_X4_addLeap [.ref a] (gm g) (some (.int r.1)) (gm r.2) := by
  intro d hD
  obtain ⟨d, rfl⟩ : ∃ d', d = d' + 1 := ⟨d - 1, by omega⟩
  show zG _ sc hp (zcd zM_X4_addLeap) 0 [some (.ref a)] [] (gm g) _
  unfold f_X4_addLeap at h
  refine g_run 2 (pc' := 3) (L' := [some (.ref a)]) (S' := [.int (-63), .ref a]) (M' := gm g) rfl ?_
  replace h := zB_of h
  obtain ⟨v1, g2, e3, h⟩ := h
  refine g_inv2 (kd := 1) (p_X4_add a ha e3) rfl rfl rfl (by decide) rfl (g_recv (a := a) rfl (Nat.le_of_ble_eq_true rfl) (Nat.le_of_ble_eq_true rfl) (Nat.le_of_ble_eq_true rfl) (Nat.le_of_ble_eq_true rfl) rfl ha (Nat.le_of_ble_eq_true rfl)) rfl rfl (by omega) (pc' := 6) rfl (S' := []) rfl ?_
  refine g_run 2 (pc' := 8) (L' := [some (.ref a)]) (S' := [.int 0, .ref a]) (M' := gm g2) rfl ?_
  replace h := zB_of h
  obtain ⟨v4, g5, e6, h⟩ := h
  refine g_inv2 (kd := 1) (p_X4_add a ha e6) rfl rfl rfl (by decide) rfl (g_recv (a := a) rfl (Nat.le_of_ble_eq_true rfl) (Nat.le_of_ble_eq_true rfl) (Nat.le_of_ble_eq_true rfl) (Nat.le_of_ble_eq_true rfl) rfl ha (Nat.le_of_ble_eq_true rfl)) rfl rfl (by omega) (pc' := 11) rfl (S' := []) rfl ?_
  refine g_run 1 (pc' := 12) (L' := [some (.ref a)]) (S' := [.ref a]) (M' := gm g5) rfl ?_
  refine g_getf rfl (ci := 4) (k := 2) rfl ha rfl ?_
  refine g_run 2 (pc' := 17) (L' := [some (.ref a)]) (S' := [.int (((gI g5 (a) 2) - 1))]) (M' := gm g5) rfl ?_
  cases h
  exact g_ret rfl rfl rfl rfl
def f_X4_landHere (a : Nat) (x1 : Int32) (g : zSg) : Option (Unit × zSg) := (zB (f_X7_set (a + 1) x1 (gI g (a) 2) g) (fun v1 g2 => some ((), g2)))
set_option maxRecDepth 100000 in
set_option maxHeartbeats 4000000 in
theorem p_X4_landHere {sc : zSc} {hp : zHp} (a : Nat) (ha : (zK0 a).1 = 4) {x1 : Int32} {g : zSg} {r : Unit × zSg} (h : f_X4_landHere a x1 g = some r) : zRn sc hp 1 zM_X4_landHere [.ref a, .int x1] (gm g) none (gm r.2) := by
  intro d hD
  obtain ⟨d, rfl⟩ : ∃ d', d = d' + 1 := ⟨d - 1, by omega⟩
  show zG _ sc hp (zcd zM_X4_landHere) 0 [some (.ref a), some (.int x1)] [] (gm g) _
  unfold f_X4_landHere at h
  refine g_run 1 (pc' := 1) (L' := [some (.ref a), some (.int x1)]) (S' := [.ref a]) (M' := gm g) rfl ?_
  refine g_getf rfl (ci := 4) (k := 0) rfl ha (gfv_l0 ha) ?_
  refine g_run 2 (pc' := 6) (L' := [some (.ref a), some (.int x1)]) (S' := [.ref a, .int x1, .ref (a + 1)]) (M' := gm g) rfl ?_
  refine g_getf rfl (ci := 4) (k := 2) rfl ha rfl ?_
  replace h := zB_of h
  obtain ⟨v1, g2, e3, h⟩ := h
  refine g_inv2 (kd := 1) (p_X7_set (a + 1) (zK0_l ha).1 e3) rfl rfl rfl (by decide) rfl (g_recv (a := a + 1) rfl (Nat.le_of_ble_eq_true rfl) (Nat.le_of_ble_eq_true rfl) (Nat.le_of_ble_eq_true rfl) (Nat.le_of_ble_eq_true rfl) rfl (zK0_l ha).1 (Nat.le_of_ble_eq_true rfl)) rfl rfl (by omega) (pc' := 12) rfl (S' := []) rfl ?_
  cases h
  exact g_ret rfl rfl rfl rfl
def f_X5_draft (g : zSg) : Option (Option Nat × zSg) := some (some (11), g)
set_option maxRecDepth 100000 in
set_option maxHeartbeats 4000000 in
theorem p_X5_draft {sc : zSc} {hp : zHp} {g : zSg} {r : Option Nat × zSg} (h : f_X5_draft g = some r) : zRn sc hp 0 zM_X5_draft [.ref 10] (gm g) (some (zrv r.1)) (gm r.2) := by
  intro d hD
  show zG _ sc hp (zcd zM_X5_draft) 0 [some (.ref 10)] [] (gm g) _
  unfold f_X5_draft at h
  refine g_run 2 (pc' := 4) (L' := [some (.ref 10)]) (S' := [.ref 11]) (M' := gm g) rfl ?_
  cases h
  exact g_reto (v := some (11)) rfl rfl
def f_X5_isComparing (x1 : Int32) (g : zSg) : Option (Int32 × zSg) := (if x1 = 61 then some (1, g) else (if x1 = 60 then some (1, g) else (if ¬ x1 = 62 then some (0, g) else some (1, g))))
set_option maxRecDepth 100000 in
set_option maxHeartbeats 4000000 in
theorem p_X5_isComparing {sc : zSc} {hp : zHp} {x1 : Int32} {g : zSg} {r : Int32 × zSg} (h : f_X5_isComparing x1 g = some r) : zRn sc hp 0 zM_X5_isComparing [.int x1] (gm g) (some (.int r.1)) (gm r.2) := by
  intro d hD
  show zG _ sc hp (zcd zM_X5_isComparing) 0 [some (.int x1)] [] (gm g) _
  unfold f_X5_isComparing at h
  refine g_run 2 (pc' := 3) (L' := [some (.int x1)]) (S' := [.int 61, .int x1]) (M' := gm g) rfl ?_
  refine g_icmp (x1 = 61) rfl (t := 18) rfl rfl (fun c1 => ?_) (fun c1 => ?_)
  · replace h := (if_pos c1).symm.trans h
    refine g_run 2 (pc' := 23) (L' := [some (.int x1)]) (S' := [.int 1]) (M' := gm g) rfl ?_
    cases h
    exact g_ret rfl rfl rfl rfl
  · replace h := (if_neg c1).symm.trans h
    refine g_run 2 (pc' := 9) (L' := [some (.int x1)]) (S' := [.int 60, .int x1]) (M' := gm g) rfl ?_
    refine g_icmp (x1 = 60) rfl (t := 18) rfl rfl (fun c2 => ?_) (fun c2 => ?_)
    · replace h := (if_pos c2).symm.trans h
      refine g_run 2 (pc' := 23) (L' := [some (.int x1)]) (S' := [.int 1]) (M' := gm g) rfl ?_
      cases h
      exact g_ret rfl rfl rfl rfl
    · replace h := (if_neg c2).symm.trans h
      refine g_run 2 (pc' := 15) (L' := [some (.int x1)]) (S' := [.int 62, .int x1]) (M' := gm g) rfl ?_
      refine g_icmp (¬ x1 = 62) rfl (t := 22) rfl rfl (fun c3 => ?_) (fun c3 => ?_)
      · replace h := (if_pos c3).symm.trans h
        refine g_run 1 (pc' := 23) (L' := [some (.int x1)]) (S' := [.int 0]) (M' := gm g) rfl ?_
        cases h
        exact g_ret rfl rfl rfl rfl
      · replace h := (if_neg c3).symm.trans h
        refine g_run 2 (pc' := 23) (L' := [some (.int x1)]) (S' := [.int 1]) (M' := gm g) rfl ?_
        cases h
        exact g_ret rfl rfl rfl rfl
def f_X6_forget (g : zSg) : Option (Unit × zSg) := some ((), (gsI (gsI g 48 4 0) 48 6 0))
set_option maxRecDepth 100000 in
set_option maxHeartbeats 4000000 in
theorem p_X6_forget {sc : zSc} {hp : zHp} {g : zSg} {r : Unit × zSg} (h : f_X6_forget g = some r) : zRn sc hp 0 zM_X6_forget [.ref 48] (gm g) none (gm r.2) := by
  intro d hD
  show zG _ sc hp (zcd zM_X6_forget) 0 [some (.ref 48)] [] (gm g) _
  unfold f_X6_forget at h
  refine g_run 6 (pc' := 10) (L' := [some (.ref 48)]) (S' := []) (M' := gm (gsI (gsI g 48 4 0) 48 6 0)) rfl ?_
  cases h
  exact g_ret rfl rfl rfl rfl
def f_X6_acts (g : zSg) : Option (Int32 × zSg) := some ((gI g 48 6), g)
set_option maxRecDepth 100000 in
set_option maxHeartbeats 4000000 in
theorem p_X6_acts {sc : zSc} {hp : zHp} {g : zSg} {r : Int32 × zSg} (h : f_X6_acts g = some r) : zRn sc hp 0 zM_X6_acts [.ref 48] (gm g) (some (.int r.1)) (gm r.2) := by
  intro d hD
  show zG _ sc hp (zcd zM_X6_acts) 0 [some (.ref 48)] [] (gm g) _
  unfold f_X6_acts at h
  refine g_run 2 (pc' := 4) (L' := [some (.ref 48)]) (S' := [.int ((gI g 48 6))]) (M' := gm g) rfl ?_
  cases h
  exact g_ret rfl rfl rfl rfl
def f_X6_remember (b1 : Nat) (g : zSg) : Option (Unit × zSg) := (zB (f_X8_pick 49 (gI g 48 5) g) (fun v1 g2 => (zNu v1 (some ((), g2)) (fun a4 => if (zK0 a4).1 = 8 then (zB (f_X8_become a4 b1 g2) (fun v7 g8 => some ((), (gsI (gsI g8 48 5 (imod ((gI g8 48 5) + 1) 40)) 48 6 (imin 40 ((gI (gsI g8 48 5 (imod ((gI g8 48 5) + 1) 40)) 48 6) + 1)))))) else none))))
set_option maxRecDepth 100000 in
set_option maxHeartbeats 4000000 in
theorem p_X6_remember {sc : zSc} {hp : zHp} (b1 : Nat) (hb1 : (zK0 b1).1 = 8) {g : zSg} {r : Unit × zSg} (h : f_X6_remember b1 g = some r) : zRn sc hp 3 zM_X6_remember [.ref 48, .ref b1] (gm g) none (gm r.2) := by
  intro d hD
  obtain ⟨d, rfl⟩ : ∃ d', d = d' + 1 := ⟨d - 1, by omega⟩
  show zG _ sc hp (zcd zM_X6_remember) 0 [some (.ref 48), some (.ref b1), none] [] (gm g) _
  unfold f_X6_remember at h
  refine g_run 4 (pc' := 8) (L' := [some (.ref 48), some (.ref b1), none]) (S' := [.int ((gI g 48 5)), .ref 49]) (M' := gm g) rfl ?_
  replace h := zB_of h
  obtain ⟨v1, g2, e3, h⟩ := h
  refine g_inv2 (kd := 0) (p_X8_pick 49 rfl e3) rfl rfl rfl (by decide) rfl rfl rfl rfl (by omega) (pc' := 11) rfl (S' := [zrv v1]) rfl ?_
  refine g_astoren (v := v1) rfl (Nat.le_of_ble_eq_true rfl) (L' := [some (.ref 48), some (.ref b1), some (zrv v1)]) rfl ?_
  refine g_aloadn (v := v1) rfl rfl ?_
  rcases v1 with _ | a4
  · replace h := zNu_n h
    show zG _ _ _ _ 13 [some (.ref 48), some (.ref b1), some (.null)] [.null] (gm g2) _
    refine g_run 1 (pc' := 16) (L' := [some (.ref 48), some (.ref b1), some (.null)]) (S' := []) (M' := gm g2) rfl ?_
    cases h
    exact g_ret rfl rfl rfl rfl
  · replace h := zNu_s h
    by_cases h6 : (zK0 a4).1 = 8
    case neg => exact nomatch ((if_neg h6).symm.trans h)
    replace h := (if_pos h6).symm.trans h
    show zG _ _ _ _ 13 [some (.ref 48), some (.ref b1), some (.ref a4)] [.ref a4] (gm g2) _
    refine g_run 1 (pc' := 17) (L' := [some (.ref 48), some (.ref b1), some (.ref a4)]) (S' := []) (M' := gm g2) rfl ?_
    refine g_run 2 (pc' := 19) (L' := [some (.ref 48), some (.ref b1), some (.ref a4)]) (S' := [.ref b1, .ref a4]) (M' := gm g2) rfl ?_
    replace h := zB_of h
    obtain ⟨v7, g8, e9, h⟩ := h
    refine g_inv2 (kd := 1) (p_X8_become a4 b1 h6 hb1 e9) rfl rfl rfl (by decide) rfl (g_recv (a := a4) rfl (Nat.le_of_ble_eq_true rfl) (Nat.le_of_ble_eq_true rfl) (Nat.le_of_ble_eq_true rfl) (Nat.le_of_ble_eq_true rfl) rfl h6 (Nat.le_of_ble_eq_true rfl)) rfl rfl (by omega) (pc' := 22) rfl (S' := []) rfl ?_
    refine g_run 14 (pc' := 44) (L' := [some (.ref 48), some (.ref b1), some (.ref a4)]) (S' := [.int (((gI (gsI g8 48 5 (imod ((gI g8 48 5) + 1) 40)) 48 6) + 1)), .int 40, .ref 48]) (M' := gm (gsI g8 48 5 (imod ((gI g8 48 5) + 1) 40))) rfl ?_
    refine g_spec2 (kd := 0) rfl rfl rfl (by decide) rfl (jd := 1001) rfl (by decide) rfl (Or.inl (by decide)) (S' := [.int ((imin 40 ((gI (gsI g8 48 5 (imod ((gI g8 48 5) + 1) 40)) 48 6) + 1))), .ref 48]) (M' := gm (gsI g8 48 5 (imod ((gI g8 48 5) + 1) 40))) rfl rfl (pc' := 47) rfl ?_
    refine g_run 1 (pc' := 50) (L' := [some (.ref 48), some (.ref b1), some (.ref a4)]) (S' := []) (M' := gm (gsI (gsI g8 48 5 (imod ((gI g8 48 5) + 1) 40)) 48 6 (imin 40 ((gI (gsI g8 48 5 (imod ((gI g8 48 5) + 1) 40)) 48 6) + 1)))) rfl ?_
    cases h
    exact g_ret rfl rfl rfl rfl
def f_X6_recall (b1 : Nat) (g : zSg) : Option (Int32 × zSg) := (zB (f_X8_pick 49 (imod (((gI g 48 5) + 40) - 1) 40) g) (fun v1 g2 => (if (gI g2 48 6) < 1 then some (0, g2) else (zNu v1 (some (0, g2)) (fun a5 => if (zK0 a5).1 = 8 then (zB (f_X8_become b1 a5 g2) (fun v8 g9 => some (1, (gsI (gsI g9 48 5 (imod (((gI g 48 5) + 40) - 1) 40)) 48 6 ((gI (gsI g9 48 5 (imod (((gI g 48 5) + 40) - 1) 40)) 48 6) - 1))))) else none)))))
set_option maxRecDepth 100000 in
set_option maxHeartbeats 4000000 in
theorem p_X6_recall {sc : zSc} {hp : zHp} (b1 : Nat) (hb1 : (zK0 b1).1 = 8) {g : zSg} {r : Int32 × zSg} (h : f_X6_recall b1 g = some r) : zRn sc hp 3 zM_X6_recall [.ref 48, .ref b1] (gm g) (some (.int r.1)) (gm r.2) := by
  intro d hD
  obtain ⟨d, rfl⟩ : ∃ d', d = d' + 1 := ⟨d - 1, by omega⟩
  show zG _ sc hp (zcd zM_X6_recall) 0 [some (.ref 48), some (.ref b1), none, none] [] (gm g) _
  unfold f_X6_recall at h
  refine g_run 12 (pc' := 18) (L' := [some (.ref 48), some (.ref b1), some (.int ((imod (((gI g 48 5) + 40) - 1) 40))), none]) (S' := [.int ((imod (((gI g 48 5) + 40) - 1) 40)), .ref 49]) (M' := gm g) rfl ?_
  replace h := zB_of h
  obtain ⟨v1, g2, e3, h⟩ := h
  refine g_inv2 (kd := 0) (p_X8_pick 49 rfl e3) rfl rfl rfl (by decide) rfl rfl rfl rfl (by omega) (pc' := 21) rfl (S' := [zrv v1]) rfl ?_
  refine g_astoren (v := v1) rfl (Nat.le_of_ble_eq_true rfl) (L' := [some (.ref 48), some (.ref b1), some (.int ((imod (((gI g 48 5) + 40) - 1) 40))), some (zrv v1)]) rfl ?_
  refine g_run 3 (pc' := 27) (L' := [some (.ref 48), some (.ref b1), some (.int ((imod (((gI g 48 5) + 40) - 1) 40))), some (zrv v1)]) (S' := [.int 1, .int ((gI g2 48 6))]) (M' := gm g2) rfl ?_
  refine g_icmp ((gI g2 48 6) < 1) rfl (t := 34) rfl rfl (fun c4 => ?_) (fun c4 => ?_)
  · replace h := (if_pos c4).symm.trans h
    refine g_run 1 (pc' := 35) (L' := [some (.ref 48), some (.ref b1), some (.int ((imod (((gI g 48 5) + 40) - 1) 40))), some (zrv v1)]) (S' := [.int 0]) (M' := gm g2) rfl ?_
    cases h
    exact g_ret rfl rfl rfl rfl
  · replace h := (if_neg c4).symm.trans h
    refine g_aloadn (v := v1) rfl rfl ?_
    rcases v1 with _ | a5
    · replace h := zNu_n h
      show zG _ _ _ _ 31 [some (.ref 48), some (.ref b1), some (.int ((imod (((gI g 48 5) + 40) - 1) 40))), some (.null)] [.null] (gm g2) _
      refine g_run 1 (pc' := 34) (L' := [some (.ref 48), some (.ref b1), some (.int ((imod (((gI g 48 5) + 40) - 1) 40))), some (.null)]) (S' := []) (M' := gm g2) rfl ?_
      refine g_run 1 (pc' := 35) (L' := [some (.ref 48), some (.ref b1), some (.int ((imod (((gI g 48 5) + 40) - 1) 40))), some (.null)]) (S' := [.int 0]) (M' := gm g2) rfl ?_
      cases h
      exact g_ret rfl rfl rfl rfl
    · replace h := zNu_s h
      by_cases h7 : (zK0 a5).1 = 8
      case neg => exact nomatch ((if_neg h7).symm.trans h)
      replace h := (if_pos h7).symm.trans h
      show zG _ _ _ _ 31 [some (.ref 48), some (.ref b1), some (.int ((imod (((gI g 48 5) + 40) - 1) 40))), some (.ref a5)] [.ref a5] (gm g2) _
      refine g_run 1 (pc' := 36) (L' := [some (.ref 48), some (.ref b1), some (.int ((imod (((gI g 48 5) + 40) - 1) 40))), some (.ref a5)]) (S' := []) (M' := gm g2) rfl ?_
      refine g_run 2 (pc' := 38) (L' := [some (.ref 48), some (.ref b1), some (.int ((imod (((gI g 48 5) + 40) - 1) 40))), some (.ref a5)]) (S' := [.ref a5, .ref b1]) (M' := gm g2) rfl ?_
      replace h := zB_of h
      obtain ⟨v8, g9, e10, h⟩ := h
      refine g_inv2 (kd := 1) (p_X8_become b1 a5 hb1 h7 e10) rfl rfl rfl (by decide) rfl (g_recv (a := b1) rfl (Nat.le_of_ble_eq_true rfl) (Nat.le_of_ble_eq_true rfl) (Nat.le_of_ble_eq_true rfl) (Nat.le_of_ble_eq_true rfl) rfl hb1 (Nat.le_of_ble_eq_true rfl)) rfl rfl (by omega) (pc' := 41) rfl (S' := []) rfl ?_
      refine g_run 10 (pc' := 57) (L' := [some (.ref 48), some (.ref b1), some (.int ((imod (((gI g 48 5) + 40) - 1) 40))), some (.ref a5)]) (S' := [.int 1]) (M' := gm (gsI (gsI g9 48 5 (imod (((gI g 48 5) + 40) - 1) 40)) 48 6 ((gI (gsI g9 48 5 (imod (((gI g 48 5) + 40) - 1) 40)) 48 6) - 1))) rfl ?_
      cases h
      exact g_ret rfl rfl rfl rfl
def f_X6_write (b1 : Nat) (x2 : Int32) (g : zSg) : Option (Unit × zSg) := (zB (f_X7_set 50 ((imod (gI g (b1) 10) 100) * 3) x2 g) (fun v1 g2 => (zB (f_J6_bitCount_0f7a4 (gI g2 (b1) 5) g2) (fun v4 g5 => (zB (f_X7_set 50 (((imod (gI g (b1) 10) 100) * 3) + 1) v4 g5) (fun v7 g8 => (zB (f_X7_set 50 (((imod (gI g (b1) 10) 100) * 3) + 2) (gI g8 (b1) 7) g8) (fun v10 g11 => some ((), (gsI g11 (b1) 10 ((gI g11 (b1) 10) + 1)))))))))))
set_option maxRecDepth 100000 in
set_option maxHeartbeats 4000000 in
theorem p_X6_write {sc : zSc} {hp : zHp} (b1 : Nat) (hb1 : (zK0 b1).1 = 8) {x2 : Int32} {g : zSg} {r : Unit × zSg} (h : f_X6_write b1 x2 g = some r) : zRn sc hp 1 zM_X6_write [.ref 48, .ref b1, .int x2] (gm g) none (gm r.2) := by
  intro d hD
  obtain ⟨d, rfl⟩ : ∃ d', d = d' + 1 := ⟨d - 1, by omega⟩
  show zG _ sc hp (zcd zM_X6_write) 0 [some (.ref 48), some (.ref b1), some (.int x2), none] [] (gm g) _
  unfold f_X6_write at h
  refine g_run 1 (pc' := 1) (L' := [some (.ref 48), some (.ref b1), some (.int x2), none]) (S' := [.ref b1]) (M' := gm g) rfl ?_
  refine g_getf rfl (ci := 8) (k := 10) rfl hb1 rfl ?_
  refine g_run 9 (pc' := 16) (L' := [some (.ref 48), some (.ref b1), some (.int x2), some (.int (((imod (gI g (b1) 10) 100) * 3)))]) (S' := [.int x2, .int (((imod (gI g (b1) 10) 100) * 3)), .ref 50]) (M' := gm g) rfl ?_
  replace h := zB_of h
  obtain ⟨v1, g2, e3, h⟩ := h
  refine g_inv2 (kd := 1) (p_X7_set 50 rfl e3) rfl rfl rfl (by decide) rfl rfl rfl rfl (by omega) (pc' := 19) rfl (S' := []) rfl ?_
  refine g_run 6 (pc' := 27) (L' := [some (.ref 48), some (.ref b1), some (.int x2), some (.int (((imod (gI g (b1) 10) 100) * 3)))]) (S' := [.ref b1, .int ((((imod (gI g (b1) 10) 100) * 3) + 1)), .ref 50]) (M' := gm g2) rfl ?_
  refine g_getf rfl (ci := 8) (k := 5) rfl hb1 rfl ?_
  replace h := zB_of h
  obtain ⟨v4, g5, e6, h⟩ := h
  refine g_inv2 (kd := 0) (p_J6_bitCount_0f7a4  e6) rfl rfl rfl (by decide) rfl rfl rfl rfl (by omega) (pc' := 33) rfl (S' := [.int v4, .int ((((imod (gI g (b1) 10) 100) * 3) + 1)), .ref 50]) rfl ?_
  replace h := zB_of h
  obtain ⟨v7, g8, e9, h⟩ := h
  refine g_inv2 (kd := 1) (p_X7_set 50 rfl e9) rfl rfl rfl (by decide) rfl rfl rfl rfl (by omega) (pc' := 36) rfl (S' := []) rfl ?_
  refine g_run 6 (pc' := 44) (L' := [some (.ref 48), some (.ref b1), some (.int x2), some (.int (((imod (gI g (b1) 10) 100) * 3)))]) (S' := [.ref b1, .int ((((imod (gI g (b1) 10) 100) * 3) + 2)), .ref 50]) (M' := gm g8) rfl ?_
  refine g_getf rfl (ci := 8) (k := 7) rfl hb1 rfl ?_
  replace h := zB_of h
  obtain ⟨v10, g11, e12, h⟩ := h
  refine g_inv2 (kd := 1) (p_X7_set 50 rfl e12) rfl rfl rfl (by decide) rfl rfl rfl rfl (by omega) (pc' := 50) rfl (S' := []) rfl ?_
  refine g_run 2 (pc' := 52) (L' := [some (.ref 48), some (.ref b1), some (.int x2), some (.int (((imod (gI g (b1) 10) 100) * 3)))]) (S' := [.ref b1, .ref b1]) (M' := gm g11) rfl ?_
  refine g_getf rfl (ci := 8) (k := 10) rfl hb1 rfl ?_
  refine g_run 2 (pc' := 57) (L' := [some (.ref 48), some (.ref b1), some (.int x2), some (.int (((imod (gI g (b1) 10) 100) * 3)))]) (S' := [.int (((gI g11 (b1) 10) + 1)), .ref b1]) (M' := gm g11) rfl ?_
  refine g_putf rfl (ci := 8) (k := 10) rfl (a := b1) hb1 rfl (g' := gsI g11 (b1) 10 ((gI g11 (b1) 10) + 1)) rfl ?_
  cases h
  exact g_ret rfl rfl rfl rfl
def f_X6_logLength (b1 : Nat) (g : zSg) : Option (Int32 × zSg) := some ((imin 60 (gI g (b1) 10)), g)
set_option maxRecDepth 100000 in
set_option maxHeartbeats 4000000 in
theorem p_X6_logLength {sc : zSc} {hp : zHp} (b1 : Nat) (hb1 : (zK0 b1).1 = 8) {g : zSg} {r : Int32 × zSg} (h : f_X6_logLength b1 g = some r) : zRn sc hp 1 zM_X6_logLength [.ref 48, .ref b1] (gm g) (some (.int r.1)) (gm r.2) := by
  intro d hD
  obtain ⟨d, rfl⟩ : ∃ d', d = d' + 1 := ⟨d - 1, by omega⟩
  show zG _ sc hp (zcd zM_X6_logLength) 0 [some (.ref 48), some (.ref b1)] [] (gm g) _
  unfold f_X6_logLength at h
  refine g_run 2 (pc' := 3) (L' := [some (.ref 48), some (.ref b1)]) (S' := [.ref b1, .int 60]) (M' := gm g) rfl ?_
  refine g_getf rfl (ci := 8) (k := 10) rfl hb1 rfl ?_
  refine g_spec2 (kd := 0) rfl rfl rfl (by decide) rfl (jd := 1001) rfl (by decide) rfl (Or.inl (by decide)) (S' := [.int ((imin 60 (gI g (b1) 10)))]) (M' := gm g) rfl rfl (pc' := 9) rfl ?_
  cases h
  exact g_ret rfl rfl rfl rfl
def f_X6_read (b1 : Nat) (x2 : Int32) (x3 : Int32) (g : zSg) : Option (Int32 × zSg) := (if x2 < 0 then some ((-1), g) else (zB (f_X6_logLength b1 g) (fun v2 g3 => (if v2 ≤ x2 then some ((-1), g3) else (if x3 < 0 then some ((-1), g3) else (if x3 < 3 then (zB (f_X7_get 50 (((imod (((gI g3 (b1) 10) - 1) - x2) 100) * 3) + x3) g3) (fun v8 g9 => some (v8, g9))) else some ((-1), g3)))))))
set_option maxRecDepth 100000 in
set_option maxHeartbeats 4000000 in
theorem p_X6_read {sc : zSc} {hp : zHp} (b1 : Nat) (hb1 : (zK0 b1).1 = 8) {x2 : Int32} {x3 : Int32} {g : zSg} {r : Int32 × zSg} (h : f_X6_read b1 x2 x3 g = some r) : zRn sc hp 2 zM_X6_read [.ref 48, .ref b1, .int x2, .int x3] (gm g) (some (.int r.1)) (gm r.2) := by
  intro d hD
  obtain ⟨d, rfl⟩ : ∃ d', d = d' + 1 := ⟨d - 1, by omega⟩
  show zG _ sc hp (zcd zM_X6_read) 0 [some (.ref 48), some (.ref b1), some (.int x2), some (.int x3)] [] (gm g) _
  unfold f_X6_read at h
  refine g_run 1 (pc' := 1) (L' := [some (.ref 48), some (.ref b1), some (.int x2), some (.int x3)]) (S' := [.int x2]) (M' := gm g) rfl ?_
  refine g_if (x2 < 0) rfl (t := 22) rfl rfl (fun c1 => ?_) (fun c1 => ?_)
  · replace h := (if_pos c1).symm.trans h
    refine g_run 1 (pc' := 23) (L' := [some (.ref 48), some (.ref b1), some (.int x2), some (.int x3)]) (S' := [.int (-1)]) (M' := gm g) rfl ?_
    cases h
    exact g_ret rfl rfl rfl rfl
  · replace h := (if_neg c1).symm.trans h
    refine g_run 3 (pc' := 7) (L' := [some (.ref 48), some (.ref b1), some (.int x2), some (.int x3)]) (S' := [.ref b1, .ref 48, .int x2]) (M' := gm g) rfl ?_
    replace h := zB_of h
    obtain ⟨v2, g3, e4, h⟩ := h
    refine g_inv2 (kd := 1) (p_X6_logLength b1 hb1 e4) rfl rfl rfl (by decide) rfl rfl rfl rfl (by omega) (pc' := 10) rfl (S' := [.int v2, .int x2]) rfl ?_
    refine g_icmp (v2 ≤ x2) rfl (t := 22) rfl rfl (fun c5 => ?_) (fun c5 => ?_)
    · replace h := (if_pos c5).symm.trans h
      refine g_run 1 (pc' := 23) (L' := [some (.ref 48), some (.ref b1), some (.int x2), some (.int x3)]) (S' := [.int (-1)]) (M' := gm g3) rfl ?_
      cases h
      exact g_ret rfl rfl rfl rfl
    · replace h := (if_neg c5).symm.trans h
      refine g_run 1 (pc' := 14) (L' := [some (.ref 48), some (.ref b1), some (.int x2), some (.int x3)]) (S' := [.int x3]) (M' := gm g3) rfl ?_
      refine g_if (x3 < 0) rfl (t := 22) rfl rfl (fun c6 => ?_) (fun c6 => ?_)
      · replace h := (if_pos c6).symm.trans h
        refine g_run 1 (pc' := 23) (L' := [some (.ref 48), some (.ref b1), some (.int x2), some (.int x3)]) (S' := [.int (-1)]) (M' := gm g3) rfl ?_
        cases h
        exact g_ret rfl rfl rfl rfl
      · replace h := (if_neg c6).symm.trans h
        refine g_run 2 (pc' := 19) (L' := [some (.ref 48), some (.ref b1), some (.int x2), some (.int x3)]) (S' := [.int 3, .int x3]) (M' := gm g3) rfl ?_
        refine g_icmp (x3 < 3) rfl (t := 24) rfl rfl (fun c7 => ?_) (fun c7 => ?_)
        · replace h := (if_pos c7).symm.trans h
          refine g_run 3 (pc' := 29) (L' := [some (.ref 48), some (.ref b1), some (.int x2), some (.int x3)]) (S' := [.ref b1, .ref 50]) (M' := gm g3) rfl ?_
          refine g_getf rfl (ci := 8) (k := 10) rfl hb1 rfl ?_
          refine g_run 10 (pc' := 43) (L' := [some (.ref 48), some (.ref b1), some (.int x2), some (.int x3)]) (S' := [.int ((((imod (((gI g3 (b1) 10) - 1) - x2) 100) * 3) + x3)), .ref 50]) (M' := gm g3) rfl ?_
          replace h := zB_of h
          obtain ⟨v8, g9, e10, h⟩ := h
          refine g_inv2 (kd := 1) (p_X7_get 50 rfl e10) rfl rfl rfl (by decide) rfl rfl rfl rfl (by omega) (pc' := 46) rfl (S' := [.int v8]) rfl ?_
          cases h
          exact g_ret rfl rfl rfl rfl
        · replace h := (if_neg c7).symm.trans h
          refine g_run 1 (pc' := 23) (L' := [some (.ref 48), some (.ref b1), some (.int x2), some (.int x3)]) (S' := [.int (-1)]) (M' := gm g3) rfl ?_
          cases h
          exact g_ret rfl rfl rfl rfl
def f_X6_picture (b1 : Nat) (g : zSg) : Option (Unit × zSg) := (zB (f_X8_become 54 b1 g) (fun v1 g2 => (zB (f_X7_become 52 50 g2) (fun v4 g5 => some ((), (gsI g5 48 4 1))))))
set_option maxRecDepth 100000 in
set_option maxHeartbeats 4000000 in
theorem p_X6_picture {sc : zSc} {hp : zHp} (b1 : Nat) (hb1 : (zK0 b1).1 = 8) {g : zSg} {r : Unit × zSg} (h : f_X6_picture b1 g = some r) : zRn sc hp 3 zM_X6_picture [.ref 48, .ref b1] (gm g) none (gm r.2) := by
  intro d hD
  obtain ⟨d, rfl⟩ : ∃ d', d = d' + 1 := ⟨d - 1, by omega⟩
  show zG _ sc hp (zcd zM_X6_picture) 0 [some (.ref 48), some (.ref b1)] [] (gm g) _
  unfold f_X6_picture at h
  refine g_run 3 (pc' := 5) (L' := [some (.ref 48), some (.ref b1)]) (S' := [.ref b1, .ref 54]) (M' := gm g) rfl ?_
  replace h := zB_of h
  obtain ⟨v1, g2, e3, h⟩ := h
  refine g_inv2 (kd := 1) (p_X8_become 54 b1 rfl hb1 e3) rfl rfl rfl (by decide) rfl rfl rfl rfl (by omega) (pc' := 8) rfl (S' := []) rfl ?_
  refine g_run 4 (pc' := 16) (L' := [some (.ref 48), some (.ref b1)]) (S' := [.ref 50, .ref 52]) (M' := gm g2) rfl ?_
  replace h := zB_of h
  obtain ⟨v4, g5, e6, h⟩ := h
  refine g_inv2 (kd := 1) (p_X7_become 52 50 rfl rfl e6) rfl rfl rfl (by decide) rfl rfl rfl rfl (by omega) (pc' := 19) rfl (S' := []) rfl ?_
  refine g_run 3 (pc' := 24) (L' := [some (.ref 48), some (.ref b1)]) (S' := []) (M' := gm (gsI g5 48 4 1)) rfl ?_
  cases h
  exact g_ret rfl rfl rfl rfl
def f_X6_restore (b1 : Nat) (g : zSg) : Option (Int32 × zSg) := (if ¬ (gI g 48 4) = 0 then (zB (f_X8_become b1 54 g) (fun v2 g3 => (zB (f_X7_become 50 52 g3) (fun v5 g6 => some (1, (gsI g6 48 6 0)))))) else some (0, g))
set_option maxRecDepth 100000 in
set_option maxHeartbeats 4000000 in
theorem p_X6_restore {sc : zSc} {hp : zHp} (b1 : Nat) (hb1 : (zK0 b1).1 = 8) {g : zSg} {r : Int32 × zSg} (h : f_X6_restore b1 g = some r) : zRn sc hp 3 zM_X6_restore [.ref 48, .ref b1] (gm g) (some (.int r.1)) (gm r.2) := by
  intro d hD
  obtain ⟨d, rfl⟩ : ∃ d', d = d' + 1 := ⟨d - 1, by omega⟩
  show zG _ sc hp (zcd zM_X6_restore) 0 [some (.ref 48), some (.ref b1)] [] (gm g) _
  unfold f_X6_restore at h
  refine g_run 2 (pc' := 4) (L' := [some (.ref 48), some (.ref b1)]) (S' := [.int ((gI g 48 4))]) (M' := gm g) rfl ?_
  refine g_if (¬ (gI g 48 4) = 0) rfl (t := 9) rfl rfl (fun c1 => ?_) (fun c1 => ?_)
  · replace h := (if_pos c1).symm.trans h
    refine g_run 3 (pc' := 14) (L' := [some (.ref 48), some (.ref b1)]) (S' := [.ref 54, .ref b1]) (M' := gm g) rfl ?_
    replace h := zB_of h
    obtain ⟨v2, g3, e4, h⟩ := h
    refine g_inv2 (kd := 1) (p_X8_become b1 54 hb1 rfl e4) rfl rfl rfl (by decide) rfl (g_recv (a := b1) rfl (Nat.le_of_ble_eq_true rfl) (Nat.le_of_ble_eq_true rfl) (Nat.le_of_ble_eq_true rfl) (Nat.le_of_ble_eq_true rfl) rfl hb1 (Nat.le_of_ble_eq_true rfl)) rfl rfl (by omega) (pc' := 17) rfl (S' := []) rfl ?_
    refine g_run 4 (pc' := 25) (L' := [some (.ref 48), some (.ref b1)]) (S' := [.ref 52, .ref 50]) (M' := gm g3) rfl ?_
    replace h := zB_of h
    obtain ⟨v5, g6, e7, h⟩ := h
    refine g_inv2 (kd := 1) (p_X7_become 50 52 rfl rfl e7) rfl rfl rfl (by decide) rfl rfl rfl rfl (by omega) (pc' := 28) rfl (S' := []) rfl ?_
    refine g_run 4 (pc' := 34) (L' := [some (.ref 48), some (.ref b1)]) (S' := [.int 1]) (M' := gm (gsI g6 48 6 0)) rfl ?_
    cases h
    exact g_ret rfl rfl rfl rfl
  · replace h := (if_neg c1).symm.trans h
    refine g_run 1 (pc' := 8) (L' := [some (.ref 48), some (.ref b1)]) (S' := [.int 0]) (M' := gm g) rfl ?_
    cases h
    exact g_ret rfl rfl rfl rfl
def f_X8_clear (a : Nat) (g : zSg) : Option (Unit × zSg) := (zB (f_X7_clear (a + 1) g) (fun v1 g2 => (zB (f_X7_clear (a + 3) g2) (fun v4 g5 => (zB (f_X7_clear (a + 5) g5) (fun v7 g8 => (zB (f_X7_clear (a + 7) g8) (fun v10 g11 => some ((), (gsI (gsI (gsI (gsI g11 (a) 4 0) (a) 5 0) (a) 9 0) (a) 10 0))))))))))
set_option maxRecDepth 100000 in
set_option maxHeartbeats 4000000 in
theorem p_X8_clear {sc : zSc} {hp : zHp} (a : Nat) (ha : (zK0 a).1 = 8) {g : zSg} {r : Unit × zSg} (h : f_X8_clear a g = some r) : zRn sc hp 1 zM_X8_clear [.ref a] (gm g) none (gm r.2) := by
  intro d hD
  obtain ⟨d, rfl⟩ : ∃ d', d = d' + 1 := ⟨d - 1, by omega⟩
  show zG _ sc hp (zcd zM_X8_clear) 0 [some (.ref a)] [] (gm g) _
  unfold f_X8_clear at h
  refine g_run 1 (pc' := 1) (L' := [some (.ref a)]) (S' := [.ref a]) (M' := gm g) rfl ?_
  refine g_getf rfl (ci := 8) (k := 0) rfl ha (gfv_s0 ha) ?_
  replace h := zB_of h
  obtain ⟨v1, g2, e3, h⟩ := h
  refine g_inv2 (kd := 1) (p_X7_clear (a + 1) (zK0_s ha).1 e3) rfl rfl rfl (by decide) rfl (g_recv (a := a + 1) rfl (Nat.le_of_ble_eq_true rfl) (Nat.le_of_ble_eq_true rfl) (Nat.le_of_ble_eq_true rfl) (Nat.le_of_ble_eq_true rfl) rfl (zK0_s ha).1 (Nat.le_of_ble_eq_true rfl)) rfl rfl (by omega) (pc' := 7) rfl (S' := []) rfl ?_
  refine g_run 1 (pc' := 8) (L' := [some (.ref a)]) (S' := [.ref a]) (M' := gm g2) rfl ?_
  refine g_getf rfl (ci := 8) (k := 1) rfl ha (gfv_s1 ha) ?_
  replace h := zB_of h
  obtain ⟨v4, g5, e6, h⟩ := h
  refine g_inv2 (kd := 1) (p_X7_clear (a + 3) (zK0_s ha).2.1 e6) rfl rfl rfl (by decide) rfl (g_recv (a := a + 3) rfl (Nat.le_of_ble_eq_true rfl) (Nat.le_of_ble_eq_true rfl) (Nat.le_of_ble_eq_true rfl) (Nat.le_of_ble_eq_true rfl) rfl (zK0_s ha).2.1 (Nat.le_of_ble_eq_true rfl)) rfl rfl (by omega) (pc' := 14) rfl (S' := []) rfl ?_
  refine g_run 1 (pc' := 15) (L' := [some (.ref a)]) (S' := [.ref a]) (M' := gm g5) rfl ?_
  refine g_getf rfl (ci := 8) (k := 2) rfl ha (gfv_s2 ha) ?_
  replace h := zB_of h
  obtain ⟨v7, g8, e9, h⟩ := h
  refine g_inv2 (kd := 1) (p_X7_clear (a + 5) (zK0_s ha).2.2.1 e9) rfl rfl rfl (by decide) rfl (g_recv (a := a + 5) rfl (Nat.le_of_ble_eq_true rfl) (Nat.le_of_ble_eq_true rfl) (Nat.le_of_ble_eq_true rfl) (Nat.le_of_ble_eq_true rfl) rfl (zK0_s ha).2.2.1 (Nat.le_of_ble_eq_true rfl)) rfl rfl (by omega) (pc' := 21) rfl (S' := []) rfl ?_
  refine g_run 1 (pc' := 22) (L' := [some (.ref a)]) (S' := [.ref a]) (M' := gm g8) rfl ?_
  refine g_getf rfl (ci := 8) (k := 3) rfl ha (gfv_s3 ha) ?_
  replace h := zB_of h
  obtain ⟨v10, g11, e12, h⟩ := h
  refine g_inv2 (kd := 1) (p_X7_clear (a + 7) (zK0_s ha).2.2.2 e12) rfl rfl rfl (by decide) rfl (g_recv (a := a + 7) rfl (Nat.le_of_ble_eq_true rfl) (Nat.le_of_ble_eq_true rfl) (Nat.le_of_ble_eq_true rfl) (Nat.le_of_ble_eq_true rfl) rfl (zK0_s ha).2.2.2 (Nat.le_of_ble_eq_true rfl)) rfl rfl (by omega) (pc' := 28) rfl (S' := []) rfl ?_
  refine g_run 2 (pc' := 30) (L' := [some (.ref a)]) (S' := [.int 0, .ref a]) (M' := gm g11) rfl ?_
  refine g_putf rfl (ci := 8) (k := 4) rfl (a := a) ha rfl (g' := gsI g11 (a) 4 0) rfl ?_
  refine g_run 2 (pc' := 35) (L' := [some (.ref a)]) (S' := [.int 0, .ref a]) (M' := gm (gsI g11 (a) 4 0)) rfl ?_
  refine g_putf rfl (ci := 8) (k := 5) rfl (a := a) ha rfl (g' := gsI (gsI g11 (a) 4 0) (a) 5 0) rfl ?_
  refine g_run 2 (pc' := 40) (L' := [some (.ref a)]) (S' := [.int 0, .ref a]) (M' := gm (gsI (gsI g11 (a) 4 0) (a) 5 0)) rfl ?_
  refine g_putf rfl (ci := 8) (k := 9) rfl (a := a) ha rfl (g' := gsI (gsI (gsI g11 (a) 4 0) (a) 5 0) (a) 9 0) rfl ?_
  refine g_run 2 (pc' := 45) (L' := [some (.ref a)]) (S' := [.int 0, .ref a]) (M' := gm (gsI (gsI (gsI g11 (a) 4 0) (a) 5 0) (a) 9 0)) rfl ?_
  refine g_putf rfl (ci := 8) (k := 10) rfl (a := a) ha rfl (g' := gsI (gsI (gsI (gsI g11 (a) 4 0) (a) 5 0) (a) 9 0) (a) 10 0) rfl ?_
  cases h
  exact g_ret rfl rfl rfl rfl
def f_X8_turnHanging (a : Nat) (x1 : Int32) (g : zSg) : Option (Unit × zSg) := some ((), (gsI g (a) 4 ((gI g (a) 4) ^^^ (1 <<< (x1 &&& 31)))))
set_option maxRecDepth 100000 in
set_option maxHeartbeats 4000000 in
theorem p_X8_turnHanging {sc : zSc} {hp : zHp} (a : Nat) (ha : (zK0 a).1 = 8) {x1 : Int32} {g : zSg} {r : Unit × zSg} (h : f_X8_turnHanging a x1 g = some r) : zRn sc hp 0 zM_X8_turnHanging [.ref a, .int x1] (gm g) none (gm r.2) := by
  intro d hD
  show zG _ sc hp (zcd zM_X8_turnHanging) 0 [some (.ref a), some (.int x1)] [] (gm g) _
  unfold f_X8_turnHanging at h
  refine g_run 2 (pc' := 2) (L' := [some (.ref a), some (.int x1)]) (S' := [.ref a, .ref a]) (M' := gm g) rfl ?_
  refine g_getf rfl (ci := 8) (k := 4) rfl ha rfl ?_
  refine g_run 4 (pc' := 9) (L' := [some (.ref a), some (.int x1)]) (S' := [.int (((gI g (a) 4) ^^^ (1 <<< (x1 &&& 31)))), .ref a]) (M' := gm g) rfl ?_
  refine g_putf rfl (ci := 8) (k := 4) rfl (a := a) ha rfl (g' := gsI g (a) 4 ((gI g (a) 4) ^^^ (1 <<< (x1 &&& 31)))) rfl ?_
  cases h
  exact g_ret rfl rfl rfl rfl
def f_X8_learn (a : Nat) (x1 : Int32) (x2 : Int32) (g : zSg) : Option (Unit × zSg) := (zB (f_X7_get (a + 5) x2 g) (fun v1 g2 => (zB (f_X7_set (a + 5) x2 (v1 ||| (1 <<< (x1 &&& 31))) g2) (fun v4 g5 => some ((), g5)))))
set_option maxRecDepth 100000 in
set_option maxHeartbeats 4000000 in
theorem p_X8_learn {sc : zSc} {hp : zHp} (a : Nat) (ha : (zK0 a).1 = 8) {x1 : Int32} {x2 : Int32} {g : zSg} {r : Unit × zSg} (h : f_X8_learn a x1 x2 g = some r) : zRn sc hp 1 zM_X8_learn [.ref a, .int x1, .int x2] (gm g) none (gm r.2) := by
  intro d hD
  obtain ⟨d, rfl⟩ : ∃ d', d = d' + 1 := ⟨d - 1, by omega⟩
  show zG _ sc hp (zcd zM_X8_learn) 0 [some (.ref a), some (.int x1), some (.int x2)] [] (gm g) _
  unfold f_X8_learn at h
  refine g_run 1 (pc' := 1) (L' := [some (.ref a), some (.int x1), some (.int x2)]) (S' := [.ref a]) (M' := gm g) rfl ?_
  refine g_getf rfl (ci := 8) (k := 2) rfl ha (gfv_s2 ha) ?_
  refine g_run 2 (pc' := 6) (L' := [some (.ref a), some (.int x1), some (.int x2)]) (S' := [.ref a, .int x2, .ref (a + 5)]) (M' := gm g) rfl ?_
  refine g_getf rfl (ci := 8) (k := 2) rfl ha (gfv_s2 ha) ?_
  refine g_run 1 (pc' := 10) (L' := [some (.ref a), some (.int x1), some (.int x2)]) (S' := [.int x2, .ref (a + 5), .int x2, .ref (a + 5)]) (M' := gm g) rfl ?_
  replace h := zB_of h
  obtain ⟨v1, g2, e3, h⟩ := h
  refine g_inv2 (kd := 1) (p_X7_get (a + 5) (zK0_s ha).2.2.1 e3) rfl rfl rfl (by decide) rfl (g_recv (a := a + 5) rfl (Nat.le_of_ble_eq_true rfl) (Nat.le_of_ble_eq_true rfl) (Nat.le_of_ble_eq_true rfl) (Nat.le_of_ble_eq_true rfl) rfl (zK0_s ha).2.2.1 (Nat.le_of_ble_eq_true rfl)) rfl rfl (by omega) (pc' := 13) rfl (S' := [.int v1, .int x2, .ref (a + 5)]) rfl ?_
  refine g_run 4 (pc' := 17) (L' := [some (.ref a), some (.int x1), some (.int x2)]) (S' := [.int ((v1 ||| (1 <<< (x1 &&& 31)))), .int x2, .ref (a + 5)]) (M' := gm g2) rfl ?_
  replace h := zB_of h
  obtain ⟨v4, g5, e6, h⟩ := h
  refine g_inv2 (kd := 1) (p_X7_set (a + 5) (zK0_s ha).2.2.1 e6) rfl rfl rfl (by decide) rfl (g_recv (a := a + 5) rfl (Nat.le_of_ble_eq_true rfl) (Nat.le_of_ble_eq_true rfl) (Nat.le_of_ble_eq_true rfl) (Nat.le_of_ble_eq_true rfl) rfl (zK0_s ha).2.2.1 (Nat.le_of_ble_eq_true rfl)) rfl rfl (by omega) (pc' := 20) rfl (S' := []) rfl ?_
  cases h
  exact g_ret rfl rfl rfl rfl
def f_X8_knownBy_25 (a : Nat) (k4 : Int32 → Int32 → Int32 → zSg → Option (Int32 × zSg)) (y1 : Int32) (y2 : Int32) (y3 : Int32) (g : zSg) : Option (Int32 × zSg) := k4 (y1) (y2) (y3 + 1) g
set_option maxRecDepth 100000 in
set_option maxHeartbeats 4000000 in
theorem p_X8_knownBy_25 {sc : zSc} {hp : zHp} {d : Nat} (hD : 2 ≤ d) (a : Nat) (ha : (zK0 a).1 = 8) (k4 : Int32 → Int32 → Int32 → zSg → Option (Int32 × zSg)) (hk4 : ∀ (y1 : Int32) (y2 : Int32) (y3 : Int32) (g : zSg) (r : Int32 × zSg), k4 y1 y2 y3 g = some r → zG d sc hp (zcd zM_X8_knownBy) 4 [some (.ref a), some (.int y1), some (.int y2), some (.int y3)] [] (gm g) ((some (.int r.1)), gm r.2)) (y1 : Int32) (y2 : Int32) (y3 : Int32) (g : zSg) (r : Int32 × zSg) (h : f_X8_knownBy_25 a k4 y1 y2 y3 g = some r) : zG d sc hp (zcd zM_X8_knownBy) 25 [some (.ref a), some (.int y1), some (.int y2), some (.int y3)] [] (gm g) ((some (.int r.1)), gm r.2) := by
  obtain ⟨d, rfl⟩ : ∃ d', d = d' + 1 := ⟨d - 1, by omega⟩
  unfold f_X8_knownBy_25 at h
  refine g_run 2 (pc' := 4) (L' := [some (.ref a), some (.int y1), some (.int y2), some (.int ((y3 + 1)))]) (S' := []) (M' := gm g) rfl ?_
  exact hk4 (y1) (y2) (y3 + 1) g _ h
def fb_X8_knownBy_4 (a : Nat) (kk : Int32 → Int32 → Int32 → zSg → Option (Int32 × zSg)) (y1 : Int32) (y2 : Int32) (y3 : Int32) (g : zSg) : Option (Int32 × zSg) := (if 6 ≤ y3 then some (y2, g) else (zB (f_X8_knows a y1 y3 g) (fun v2 g3 => (if v2 = 0 then f_X8_knownBy_25 a kk (y1) (y2) (y3) g3 else f_X8_knownBy_25 a kk (y1) (y2 ||| (1 <<< (y3 &&& 31))) (y3) g3))))
def f_X8_knownBy_4 (a : Nat) : Nat → Int32 → Int32 → Int32 → zSg → Option (Int32 × zSg)
  | 0, _, _, _, _ => none
  | n + 1, y1, y2, y3, g => fb_X8_knownBy_4 a (f_X8_knownBy_4 a n) y1 y2 y3 g
set_option maxRecDepth 100000 in
set_option maxHeartbeats 4000000 in
theorem p_X8_knownBy_4 {sc : zSc} {hp : zHp} {d : Nat} (hD : 2 ≤ d) (a : Nat) (ha : (zK0 a).1 = 8) : ∀ (n : Nat) (y1 : Int32) (y2 : Int32) (y3 : Int32) (g : zSg) (r : Int32 × zSg), f_X8_knownBy_4 a n y1 y2 y3 g = some r → zG d sc hp (zcd zM_X8_knownBy) 4 [some (.ref a), some (.int y1), some (.int y2), some (.int y3)] [] (gm g) ((some (.int r.1)), gm r.2) := by
  obtain ⟨d, rfl⟩ : ∃ d', d = d' + 1 := ⟨d - 1, by omega⟩
  intro n
  induction n with
  | zero => intro y1 y2 y3 g r h; cases h
  | succ n ih =>
    intro y1 y2 y3 g r h
    replace h : fb_X8_knownBy_4 a (f_X8_knownBy_4 a n) y1 y2 y3 g = some r := h
    unfold fb_X8_knownBy_4 at h
    refine g_run 2 (pc' := 7) (L' := [some (.ref a), some (.int y1), some (.int y2), some (.int y3)]) (S' := [.int 6, .int y3]) (M' := gm g) rfl ?_
    refine g_icmp (6 ≤ y3) rfl (t := 31) rfl rfl (fun c1 => ?_) (fun c1 => ?_)
    · replace h := (if_pos c1).symm.trans h
      refine g_run 1 (pc' := 32) (L' := [some (.ref a), some (.int y1), some (.int y2), some (.int y3)]) (S' := [.int y2]) (M' := gm g) rfl ?_
      cases h
      exact g_ret rfl rfl rfl rfl
    · replace h := (if_neg c1).symm.trans h
      refine g_run 3 (pc' := 13) (L' := [some (.ref a), some (.int y1), some (.int y2), some (.int y3)]) (S' := [.int y3, .int y1, .ref a]) (M' := gm g) rfl ?_
      replace h := zB_of h
      obtain ⟨v2, g3, e4, h⟩ := h
      refine g_inv2 (kd := 1) (p_X8_knows a ha e4) rfl rfl rfl (by decide) rfl (g_recv (a := a) rfl (Nat.le_of_ble_eq_true rfl) (Nat.le_of_ble_eq_true rfl) (Nat.le_of_ble_eq_true rfl) (Nat.le_of_ble_eq_true rfl) rfl ha (Nat.le_of_ble_eq_true rfl)) rfl rfl (by omega) (pc' := 16) rfl (S' := [.int v2]) rfl ?_
      refine g_if (v2 = 0) rfl (t := 25) rfl rfl (fun c5 => ?_) (fun c5 => ?_)
      · replace h := (if_pos c5).symm.trans h
        exact p_X8_knownBy_25 hD a ha (f_X8_knownBy_4 a n) ih (y1) (y2) (y3) g3 _ h
      · replace h := (if_neg c5).symm.trans h
        refine g_run 6 (pc' := 25) (L' := [some (.ref a), some (.int y1), some (.int ((y2 ||| (1 <<< (y3 &&& 31))))), some (.int y3)]) (S' := []) (M' := gm g3) rfl ?_
        exact p_X8_knownBy_25 hD a ha (f_X8_knownBy_4 a n) ih (y1) (y2 ||| (1 <<< (y3 &&& 31))) (y3) g3 _ h
def f_X8_knownBy (a : Nat) (x1 : Int32) (g : zSg) : Option (Int32 × zSg) := f_X8_knownBy_4 a zFu (x1) (0) (0) g
set_option maxRecDepth 100000 in
set_option maxHeartbeats 4000000 in
theorem p_X8_knownBy {sc : zSc} {hp : zHp} (a : Nat) (ha : (zK0 a).1 = 8) {x1 : Int32} {g : zSg} {r : Int32 × zSg} (h : f_X8_knownBy a x1 g = some r) : zRn sc hp 2 zM_X8_knownBy [.ref a, .int x1] (gm g) (some (.int r.1)) (gm r.2) := by
  intro d hD
  obtain ⟨d, rfl⟩ : ∃ d', d = d' + 1 := ⟨d - 1, by omega⟩
  show zG _ sc hp (zcd zM_X8_knownBy) 0 [some (.ref a), some (.int x1), none, none] [] (gm g) _
  unfold f_X8_knownBy at h
  refine g_run 4 (pc' := 4) (L' := [some (.ref a), some (.int x1), some (.int 0), some (.int 0)]) (S' := []) (M' := gm g) rfl ?_
  exact p_X8_knownBy_4 hD a ha zFu (x1) (0) (0) g _ h
def f_X8_breathOf (a : Nat) (x1 : Int32) (x2 : Int32) (g : zSg) : Option (Int32 × zSg) := (zB (f_X7_get (a + 7) ((x1 * 6) + x2) g) (fun v1 g2 => some (v1, g2)))
set_option maxRecDepth 100000 in
set_option maxHeartbeats 4000000 in
theorem p_X8_breathOf {sc : zSc} {hp : zHp} (a : Nat) (ha : (zK0 a).1 = 8) {x1 : Int32} {x2 : Int32} {g : zSg} {r : Int32 × zSg} (h : f_X8_breathOf a x1 x2 g = some r) : zRn sc hp 1 zM_X8_breathOf [.ref a, .int x1, .int x2] (gm g) (some (.int r.1)) (gm r.2) := by
  intro d hD
  obtain ⟨d, rfl⟩ : ∃ d', d = d' + 1 := ⟨d - 1, by omega⟩
  show zG _ sc hp (zcd zM_X8_breathOf) 0 [some (.ref a), some (.int x1), some (.int x2)] [] (gm g) _
  unfold f_X8_breathOf at h
  refine g_run 1 (pc' := 1) (L' := [some (.ref a), some (.int x1), some (.int x2)]) (S' := [.ref a]) (M' := gm g) rfl ?_
  refine g_getf rfl (ci := 8) (k := 3) rfl ha (gfv_s3 ha) ?_
  refine g_run 5 (pc' := 10) (L' := [some (.ref a), some (.int x1), some (.int x2)]) (S' := [.int (((x1 * 6) + x2)), .ref (a + 7)]) (M' := gm g) rfl ?_
  replace h := zB_of h
  obtain ⟨v1, g2, e3, h⟩ := h
  refine g_inv2 (kd := 1) (p_X7_get (a + 7) (zK0_s ha).2.2.2 e3) rfl rfl rfl (by decide) rfl (g_recv (a := a + 7) rfl (Nat.le_of_ble_eq_true rfl) (Nat.le_of_ble_eq_true rfl) (Nat.le_of_ble_eq_true rfl) (Nat.le_of_ble_eq_true rfl) rfl (zK0_s ha).2.2.2 (Nat.le_of_ble_eq_true rfl)) rfl rfl (by omega) (pc' := 13) rfl (S' := [.int v1]) rfl ?_
  cases h
  exact g_ret rfl rfl rfl rfl
def fb_X8_breathsOf_4 (a : Nat) (kk : Int32 → Int32 → Int32 → zSg → Option (Int32 × zSg)) (y1 : Int32) (y2 : Int32) (y3 : Int32) (g : zSg) : Option (Int32 × zSg) := (if 6 ≤ y3 then some (y2, g) else (zB (f_X8_breathOf a y1 y3 g) (fun v2 g3 => kk (y1) (y2 + v2) (y3 + 1) g3)))
def f_X8_breathsOf_4 (a : Nat) : Nat → Int32 → Int32 → Int32 → zSg → Option (Int32 × zSg)
  | 0, _, _, _, _ => none
  | n + 1, y1, y2, y3, g => fb_X8_breathsOf_4 a (f_X8_breathsOf_4 a n) y1 y2 y3 g
set_option maxRecDepth 100000 in
set_option maxHeartbeats 4000000 in
theorem p_X8_breathsOf_4 {sc : zSc} {hp : zHp} {d : Nat} (hD : 2 ≤ d) (a : Nat) (ha : (zK0 a).1 = 8) : ∀ (n : Nat) (y1 : Int32) (y2 : Int32) (y3 : Int32) (g : zSg) (r : Int32 × zSg), f_X8_breathsOf_4 a n y1 y2 y3 g = some r → zG d sc hp (zcd zM_X8_breathsOf) 4 [some (.ref a), some (.int y1), some (.int y2), some (.int y3)] [] (gm g) ((some (.int r.1)), gm r.2) := by
  obtain ⟨d, rfl⟩ : ∃ d', d = d' + 1 := ⟨d - 1, by omega⟩
  intro n
  induction n with
  | zero => intro y1 y2 y3 g r h; cases h
  | succ n ih =>
    intro y1 y2 y3 g r h
    replace h : fb_X8_breathsOf_4 a (f_X8_breathsOf_4 a n) y1 y2 y3 g = some r := h
    unfold fb_X8_breathsOf_4 at h
    refine g_run 2 (pc' := 7) (L' := [some (.ref a), some (.int y1), some (.int y2), some (.int y3)]) (S' := [.int 6, .int y3]) (M' := gm g) rfl ?_
    refine g_icmp (6 ≤ y3) rfl (t := 25) rfl rfl (fun c1 => ?_) (fun c1 => ?_)
    · replace h := (if_pos c1).symm.trans h
      refine g_run 1 (pc' := 26) (L' := [some (.ref a), some (.int y1), some (.int y2), some (.int y3)]) (S' := [.int y2]) (M' := gm g) rfl ?_
      cases h
      exact g_ret rfl rfl rfl rfl
    · replace h := (if_neg c1).symm.trans h
      refine g_run 4 (pc' := 14) (L' := [some (.ref a), some (.int y1), some (.int y2), some (.int y3)]) (S' := [.int y3, .int y1, .ref a, .int y2]) (M' := gm g) rfl ?_
      replace h := zB_of h
      obtain ⟨v2, g3, e4, h⟩ := h
      refine g_inv2 (kd := 1) (p_X8_breathOf a ha e4) rfl rfl rfl (by decide) rfl (g_recv (a := a) rfl (Nat.le_of_ble_eq_true rfl) (Nat.le_of_ble_eq_true rfl) (Nat.le_of_ble_eq_true rfl) (Nat.le_of_ble_eq_true rfl) rfl ha (Nat.le_of_ble_eq_true rfl)) rfl rfl (by omega) (pc' := 17) rfl (S' := [.int v2, .int y2]) rfl ?_
      refine g_run 4 (pc' := 4) (L' := [some (.ref a), some (.int y1), some (.int ((y2 + v2))), some (.int ((y3 + 1)))]) (S' := []) (M' := gm g3) rfl ?_
      exact ih (y1) (y2 + v2) (y3 + 1) g3 _ h
def f_X8_breathsOf (a : Nat) (x1 : Int32) (g : zSg) : Option (Int32 × zSg) := f_X8_breathsOf_4 a zFu (x1) (0) (0) g
set_option maxRecDepth 100000 in
set_option maxHeartbeats 4000000 in
theorem p_X8_breathsOf {sc : zSc} {hp : zHp} (a : Nat) (ha : (zK0 a).1 = 8) {x1 : Int32} {g : zSg} {r : Int32 × zSg} (h : f_X8_breathsOf a x1 g = some r) : zRn sc hp 2 zM_X8_breathsOf [.ref a, .int x1] (gm g) (some (.int r.1)) (gm r.2) := by
  intro d hD
  obtain ⟨d, rfl⟩ : ∃ d', d = d' + 1 := ⟨d - 1, by omega⟩
  show zG _ sc hp (zcd zM_X8_breathsOf) 0 [some (.ref a), some (.int x1), none, none] [] (gm g) _
  unfold f_X8_breathsOf at h
  refine g_run 4 (pc' := 4) (L' := [some (.ref a), some (.int x1), some (.int 0), some (.int 0)]) (S' := []) (M' := gm g) rfl ?_
  exact p_X8_breathsOf_4 hD a ha zFu (x1) (0) (0) g _ h
def f_X9_bytesIn_22 (k5 : Int32 → Int32 → Int32 → zSg → Option (Int32 × zSg)) (y0 : Int32) (y1 : Int32) (y2 : Int32) (g : zSg) : Option (Int32 × zSg) := k5 (y0) (y1) (y2 + (-8)) g
set_option maxRecDepth 100000 in
set_option maxHeartbeats 4000000 in
theorem p_X9_bytesIn_22 {sc : zSc} {hp : zHp} {d : Nat} (hD : 0 ≤ d) (k5 : Int32 → Int32 → Int32 → zSg → Option (Int32 × zSg)) (hk5 : ∀ (y0 : Int32) (y1 : Int32) (y2 : Int32) (g : zSg) (r : Int32 × zSg), k5 y0 y1 y2 g = some r → zG d sc hp (zcd zM_X9_bytesIn) 5 [some (.int y0), some (.int y1), some (.int y2)] [] (gm g) ((some (.int r.1)), gm r.2)) (y0 : Int32) (y1 : Int32) (y2 : Int32) (g : zSg) (r : Int32 × zSg) (h : f_X9_bytesIn_22 k5 y0 y1 y2 g = some r) : zG d sc hp (zcd zM_X9_bytesIn) 22 [some (.int y0), some (.int y1), some (.int y2)] [] (gm g) ((some (.int r.1)), gm r.2) := by
  unfold f_X9_bytesIn_22 at h
  refine g_run 2 (pc' := 5) (L' := [some (.int y0), some (.int y1), some (.int ((y2 + (-8))))]) (S' := []) (M' := gm g) rfl ?_
  exact hk5 (y0) (y1) (y2 + (-8)) g _ h
def fb_X9_bytesIn_5 (kk : Int32 → Int32 → Int32 → zSg → Option (Int32 × zSg)) (y0 : Int32) (y1 : Int32) (y2 : Int32) (g : zSg) : Option (Int32 × zSg) := (if y2 < 0 then some (y1, g) else (if ((iushr y0 y2) &&& 255) = 0 then f_X9_bytesIn_22 kk (y0) (y1) (y2) g else f_X9_bytesIn_22 kk (y0) (y1 + 1) (y2) g))
def f_X9_bytesIn_5 : Nat → Int32 → Int32 → Int32 → zSg → Option (Int32 × zSg)
  | 0, _, _, _, _ => none
  | n + 1, y0, y1, y2, g => fb_X9_bytesIn_5 (f_X9_bytesIn_5 n) y0 y1 y2 g
set_option maxRecDepth 100000 in
set_option maxHeartbeats 4000000 in
theorem p_X9_bytesIn_5 {sc : zSc} {hp : zHp} {d : Nat} (hD : 0 ≤ d) : ∀ (n : Nat) (y0 : Int32) (y1 : Int32) (y2 : Int32) (g : zSg) (r : Int32 × zSg), f_X9_bytesIn_5 n y0 y1 y2 g = some r → zG d sc hp (zcd zM_X9_bytesIn) 5 [some (.int y0), some (.int y1), some (.int y2)] [] (gm g) ((some (.int r.1)), gm r.2) := by
  intro n
  induction n with
  | zero => intro y0 y1 y2 g r h; cases h
  | succ n ih =>
    intro y0 y1 y2 g r h
    replace h : fb_X9_bytesIn_5 (f_X9_bytesIn_5 n) y0 y1 y2 g = some r := h
    unfold fb_X9_bytesIn_5 at h
    refine g_run 1 (pc' := 6) (L' := [some (.int y0), some (.int y1), some (.int y2)]) (S' := [.int y2]) (M' := gm g) rfl ?_
    refine g_if (y2 < 0) rfl (t := 28) rfl rfl (fun c1 => ?_) (fun c1 => ?_)
    · replace h := (if_pos c1).symm.trans h
      refine g_run 1 (pc' := 29) (L' := [some (.int y0), some (.int y1), some (.int y2)]) (S' := [.int y1]) (M' := gm g) rfl ?_
      cases h
      exact g_ret rfl rfl rfl rfl
    · replace h := (if_neg c1).symm.trans h
      refine g_run 5 (pc' := 16) (L' := [some (.int y0), some (.int y1), some (.int y2)]) (S' := [.int (((iushr y0 y2) &&& 255))]) (M' := gm g) rfl ?_
      refine g_if (((iushr y0 y2) &&& 255) = 0) rfl (t := 22) rfl rfl (fun c2 => ?_) (fun c2 => ?_)
      · replace h := (if_pos c2).symm.trans h
        exact p_X9_bytesIn_22 hD (f_X9_bytesIn_5 n) ih (y0) (y1) (y2) g _ h
      · replace h := (if_neg c2).symm.trans h
        refine g_run 1 (pc' := 22) (L' := [some (.int y0), some (.int ((y1 + 1))), some (.int y2)]) (S' := []) (M' := gm g) rfl ?_
        exact p_X9_bytesIn_22 hD (f_X9_bytesIn_5 n) ih (y0) (y1 + 1) (y2) g _ h
def f_X9_bytesIn (x1 : Int32) (g : zSg) : Option (Int32 × zSg) := f_X9_bytesIn_5 zFu (x1) (0) (24) g
set_option maxRecDepth 100000 in
set_option maxHeartbeats 4000000 in
theorem p_X9_bytesIn {sc : zSc} {hp : zHp} {x1 : Int32} {g : zSg} {r : Int32 × zSg} (h : f_X9_bytesIn x1 g = some r) : zRn sc hp 0 zM_X9_bytesIn [.int x1] (gm g) (some (.int r.1)) (gm r.2) := by
  intro d hD
  show zG _ sc hp (zcd zM_X9_bytesIn) 0 [some (.int x1), none, none] [] (gm g) _
  unfold f_X9_bytesIn at h
  refine g_run 4 (pc' := 5) (L' := [some (.int x1), some (.int 0), some (.int 24)]) (S' := []) (M' := gm g) rfl ?_
  exact p_X9_bytesIn_5 hD zFu (x1) (0) (24) g _ h
def f_X9_addBytesOf_58 (k3 : Int32 → Int32 → zSg → Option (Unit × zSg)) (y1 : Int32) (y2 : Int32) (g : zSg) : Option (Unit × zSg) := k3 (y1) (y2 + (-8)) g
set_option maxRecDepth 100000 in
set_option maxHeartbeats 4000000 in
theorem p_X9_addBytesOf_58 {sc : zSc} {hp : zHp} {d : Nat} (hD : 0 ≤ d) (k3 : Int32 → Int32 → zSg → Option (Unit × zSg)) (hk3 : ∀ (y1 : Int32) (y2 : Int32) (g : zSg) (r : Unit × zSg), k3 y1 y2 g = some r → zG d sc hp (zcd zM_X9_addBytesOf) 3 [some (.ref 1), some (.int y1), some (.int y2), none] [] (gm g) (none, gm r.2)) (y1 : Int32) (y2 : Int32) (g : zSg) (r : Unit × zSg) (h : f_X9_addBytesOf_58 k3 y1 y2 g = some r) : zG d sc hp (zcd zM_X9_addBytesOf) 58 [some (.ref 1), some (.int y1), some (.int y2), none] [] (gm g) (none, gm r.2) := by
  unfold f_X9_addBytesOf_58 at h
  refine g_run 2 (pc' := 3) (L' := [some (.ref 1), some (.int y1), some (.int ((y2 + (-8)))), none]) (S' := []) (M' := gm g) rfl ?_
  exact hk3 (y1) (y2 + (-8)) g _ h
def fb_X9_addBytesOf_3 (kk : Int32 → Int32 → zSg → Option (Unit × zSg)) (y1 : Int32) (y2 : Int32) (g : zSg) : Option (Unit × zSg) := (if y2 < 0 then some ((), g) else (if ((iushr y1 y2) &&& 255) = 0 then f_X9_addBytesOf_58 kk (y1) (y2) g else (if (gI g 1 1) < 0 then f_X9_addBytesOf_58 kk (y1) (y2) g else (if 240 ≤ (gI g 1 1) then f_X9_addBytesOf_58 kk (y1) (y2) g else (if zib (gI g 1 1) 240 = true then f_X9_addBytesOf_58 kk (y1) (y2) (gsI (gsI g (2) (ix (gI g 1 1)) ((iushr y1 y2) &&& 255)) 1 1 ((gI (gsI g (2) (ix (gI g 1 1)) ((iushr y1 y2) &&& 255)) 1 1) + 1)) else none)))))
def f_X9_addBytesOf_3 : Nat → Int32 → Int32 → zSg → Option (Unit × zSg)
  | 0, _, _, _ => none
  | n + 1, y1, y2, g => fb_X9_addBytesOf_3 (f_X9_addBytesOf_3 n) y1 y2 g
set_option maxRecDepth 100000 in
set_option maxHeartbeats 4000000 in
theorem p_X9_addBytesOf_3 {sc : zSc} {hp : zHp} {d : Nat} (hD : 0 ≤ d) : ∀ (n : Nat) (y1 : Int32) (y2 : Int32) (g : zSg) (r : Unit × zSg), f_X9_addBytesOf_3 n y1 y2 g = some r → zG d sc hp (zcd zM_X9_addBytesOf) 3 [some (.ref 1), some (.int y1), some (.int y2), none] [] (gm g) (none, gm r.2) := by
  intro n
  induction n with
  | zero => intro y1 y2 g r h; cases h
  | succ n ih =>
    intro y1 y2 g r h
    replace h : fb_X9_addBytesOf_3 (f_X9_addBytesOf_3 n) y1 y2 g = some r := h
    unfold fb_X9_addBytesOf_3 at h
    refine g_run 1 (pc' := 4) (L' := [some (.ref 1), some (.int y1), some (.int y2), none]) (S' := [.int y2]) (M' := gm g) rfl ?_
    refine g_if (y2 < 0) rfl (t := 64) rfl rfl (fun c1 => ?_) (fun c1 => ?_)
    · replace h := (if_pos c1).symm.trans h
      cases h
      exact g_ret rfl rfl rfl rfl
    · replace h := (if_neg c1).symm.trans h
      refine g_run 7 (pc' := 16) (L' := [some (.ref 1), some (.int y1), some (.int y2), some (.int (((iushr y1 y2) &&& 255)))]) (S' := [.int (((iushr y1 y2) &&& 255))]) (M' := gm g) rfl ?_
      refine g_if (((iushr y1 y2) &&& 255) = 0) rfl (t := 58) rfl rfl (fun c2 => ?_) (fun c2 => ?_)
      · replace h := (if_pos c2).symm.trans h
        refine g_forget (L' := [some (.ref 1), some (.int y1), some (.int y2), none]) (And.intro rfl (And.intro rfl (And.intro rfl True.intro))) ?_
        exact p_X9_addBytesOf_58 hD (f_X9_addBytesOf_3 n) ih (y1) (y2) g _ h
      · replace h := (if_neg c2).symm.trans h
        refine g_run 2 (pc' := 23) (L' := [some (.ref 1), some (.int y1), some (.int y2), some (.int (((iushr y1 y2) &&& 255)))]) (S' := [.int ((gI g 1 1))]) (M' := gm g) rfl ?_
        refine g_if ((gI g 1 1) < 0) rfl (t := 58) rfl rfl (fun c3 => ?_) (fun c3 => ?_)
        · replace h := (if_pos c3).symm.trans h
          refine g_forget (L' := [some (.ref 1), some (.int y1), some (.int y2), none]) (And.intro rfl (And.intro rfl (And.intro rfl True.intro))) ?_
          exact p_X9_addBytesOf_58 hD (f_X9_addBytesOf_3 n) ih (y1) (y2) g _ h
        · replace h := (if_neg c3).symm.trans h
          refine g_run 5 (pc' := 35) (L' := [some (.ref 1), some (.int y1), some (.int y2), some (.int (((iushr y1 y2) &&& 255)))]) (S' := [.int 240, .int ((gI g 1 1))]) (M' := gm g) rfl ?_
          refine g_icmp (240 ≤ (gI g 1 1)) rfl (t := 58) rfl rfl (fun c4 => ?_) (fun c4 => ?_)
          · replace h := (if_pos c4).symm.trans h
            refine g_forget (L' := [some (.ref 1), some (.int y1), some (.int y2), none]) (And.intro rfl (And.intro rfl (And.intro rfl True.intro))) ?_
            exact p_X9_addBytesOf_58 hD (f_X9_addBytesOf_3 n) ih (y1) (y2) g _ h
          · replace h := (if_neg c4).symm.trans h
            refine g_run 5 (pc' := 47) (L' := [some (.ref 1), some (.int y1), some (.int y2), some (.int (((iushr y1 y2) &&& 255)))]) (S' := [.int (((iushr y1 y2) &&& 255)), .int ((gI g 1 1)), .ref 2]) (M' := gm g) rfl ?_
            by_cases c5 : zib (gI g 1 1) 240 = true
            case neg => exact nomatch ((if_neg c5).symm.trans h)
            replace h := (if_pos c5).symm.trans h
            refine g_iast rfl (a := 2) rfl c5 ?_
            refine g_run 6 (pc' := 58) (L' := [some (.ref 1), some (.int y1), some (.int y2), some (.int (((iushr y1 y2) &&& 255)))]) (S' := []) (M' := gm (gsI (gsI g (2) (ix (gI g 1 1)) ((iushr y1 y2) &&& 255)) 1 1 ((gI (gsI g (2) (ix (gI g 1 1)) ((iushr y1 y2) &&& 255)) 1 1) + 1))) rfl ?_
            refine g_forget (L' := [some (.ref 1), some (.int y1), some (.int y2), none]) (And.intro rfl (And.intro rfl (And.intro rfl True.intro))) ?_
            exact p_X9_addBytesOf_58 hD (f_X9_addBytesOf_3 n) ih (y1) (y2) (gsI (gsI g (2) (ix (gI g 1 1)) ((iushr y1 y2) &&& 255)) 1 1 ((gI (gsI g (2) (ix (gI g 1 1)) ((iushr y1 y2) &&& 255)) 1 1) + 1)) _ h
def f_X9_addBytesOf (x1 : Int32) (g : zSg) : Option (Unit × zSg) := f_X9_addBytesOf_3 zFu (x1) (24) g
set_option maxRecDepth 100000 in
set_option maxHeartbeats 4000000 in
theorem p_X9_addBytesOf {sc : zSc} {hp : zHp} {x1 : Int32} {g : zSg} {r : Unit × zSg} (h : f_X9_addBytesOf x1 g = some r) : zRn sc hp 0 zM_X9_addBytesOf [.ref 1, .int x1] (gm g) none (gm r.2) := by
  intro d hD
  show zG _ sc hp (zcd zM_X9_addBytesOf) 0 [some (.ref 1), some (.int x1), none, none] [] (gm g) _
  unfold f_X9_addBytesOf at h
  refine g_run 2 (pc' := 3) (L' := [some (.ref 1), some (.int x1), some (.int 24), none]) (S' := []) (M' := gm g) rfl ?_
  exact p_X9_addBytesOf_3 hD zFu (x1) (24) g _ h
def f_X9_length (g : zSg) : Option (Int32 × zSg) := some ((gI g 1 1), g)
set_option maxRecDepth 100000 in
set_option maxHeartbeats 4000000 in
theorem p_X9_length {sc : zSc} {hp : zHp} {g : zSg} {r : Int32 × zSg} (h : f_X9_length g = some r) : zRn sc hp 0 zM_X9_length [.ref 1] (gm g) (some (.int r.1)) (gm r.2) := by
  intro d hD
  show zG _ sc hp (zcd zM_X9_length) 0 [some (.ref 1)] [] (gm g) _
  unfold f_X9_length at h
  refine g_run 2 (pc' := 4) (L' := [some (.ref 1)]) (S' := [.int ((gI g 1 1))]) (M' := gm g) rfl ?_
  cases h
  exact g_ret rfl rfl rfl rfl
def f_X9_cutTo (x1 : Int32) (g : zSg) : Option (Unit × zSg) := some ((), (gsI g 1 1 x1))
set_option maxRecDepth 100000 in
set_option maxHeartbeats 4000000 in
theorem p_X9_cutTo {sc : zSc} {hp : zHp} {x1 : Int32} {g : zSg} {r : Unit × zSg} (h : f_X9_cutTo x1 g = some r) : zRn sc hp 0 zM_X9_cutTo [.ref 1, .int x1] (gm g) none (gm r.2) := by
  intro d hD
  show zG _ sc hp (zcd zM_X9_cutTo) 0 [some (.ref 1), some (.int x1)] [] (gm g) _
  unfold f_X9_cutTo at h
  refine g_run 3 (pc' := 5) (L' := [some (.ref 1), some (.int x1)]) (S' := []) (M' := gm (gsI g 1 1 x1)) rfl ?_
  cases h
  exact g_ret rfl rfl rfl rfl
def f_X10_obey (x1 : Option Nat) (g : zSg) : Option (Unit × zSg) := some ((), gsH g x1)
theorem p_X10_obey {sc : zSc} {hp : zHp} {x1 : Option Nat} {g : zSg} {r : Unit × zSg} (h : f_X10_obey x1 g = some r) : zRn sc hp 0 zM_X10_obey [.ref 423, zrv x1] (gm g) none (gm r.2) := by
  intro d hD
  cases h
  have hL : zent [.ref 423, zrv x1] 2 = [some (.ref 423), some (zrv x1)] := by cases x1 <;> rfl
  show zG _ sc hp (zcd zM_X10_obey) 0 (zent [.ref 423, zrv x1] 2) [] (gm g) _
  rw [hL]
  refine g_run 1 (pc' := 1) (L' := [some (.ref 423), some (zrv x1)]) (S' := [.ref 423]) (M' := gm g) rfl ?_
  refine g_aloadn (v := x1) rfl rfl ?_
  refine g_putf (v := zrv x1) rfl (ci := 10) (k := 4) rfl (a := 423) rfl rfl (gset_h x1) ?_
  exact g_ret rfl rfl rfl rfl

def fb_X10_begin_74 (b1 : Nat) (kk : Int32 → zSg → Option (Unit × zSg)) (y2 : Int32) (g : zSg) : Option (Unit × zSg) := (zB (f_X0_secrets 3 g) (fun v1 g2 => (if v1 ≤ y2 then some ((), g2) else (zB (f_X0_owner 3 y2 g2) (fun v5 g6 => (zB (f_X8_learn b1 v5 y2 g6) (fun v8 g9 => kk (y2 + 1) g9)))))))
def f_X10_begin_74 (b1 : Nat) : Nat → Int32 → zSg → Option (Unit × zSg)
  | 0, _, _ => none
  | n + 1, y2, g => fb_X10_begin_74 b1 (f_X10_begin_74 b1 n) y2 g
set_option maxRecDepth 100000 in
set_option maxHeartbeats 4000000 in
theorem p_X10_begin_74 {sc : zSc} {hp : zHp} {d : Nat} (hD : 2 ≤ d) (b1 : Nat) (hb1 : (zK0 b1).1 = 8) : ∀ (n : Nat) (y2 : Int32) (g : zSg) (r : Unit × zSg), f_X10_begin_74 b1 n y2 g = some r → zG d sc hp (zcd zM_X10_begin) 74 [some (.ref 423), some (.ref b1), some (.int y2)] [] (gm g) (none, gm r.2) := by
  obtain ⟨d, rfl⟩ : ∃ d', d = d' + 1 := ⟨d - 1, by omega⟩
  intro n
  induction n with
  | zero => intro y2 g r h; cases h
  | succ n ih =>
    intro y2 g r h
    replace h : fb_X10_begin_74 b1 (f_X10_begin_74 b1 n) y2 g = some r := h
    unfold fb_X10_begin_74 at h
    refine g_run 3 (pc' := 79) (L' := [some (.ref 423), some (.ref b1), some (.int y2)]) (S' := [.ref 3, .int y2]) (M' := gm g) rfl ?_
    replace h := zB_of h
    obtain ⟨v1, g2, e3, h⟩ := h
    refine g_inv2 (kd := 1) (p_X0_secrets 3 rfl e3) rfl rfl rfl (by decide) rfl rfl rfl rfl (by omega) (pc' := 82) rfl (S' := [.int v1, .int y2]) rfl ?_
    refine g_icmp (v1 ≤ y2) rfl (t := 104) rfl rfl (fun c4 => ?_) (fun c4 => ?_)
    · replace h := (if_pos c4).symm.trans h
      cases h
      exact g_ret rfl rfl rfl rfl
    · replace h := (if_neg c4).symm.trans h
      refine g_run 4 (pc' := 91) (L' := [some (.ref 423), some (.ref b1), some (.int y2)]) (S' := [.int y2, .ref 3, .ref b1]) (M' := gm g2) rfl ?_
      replace h := zB_of h
      obtain ⟨v5, g6, e7, h⟩ := h
      refine g_inv2 (kd := 1) (p_X0_owner 3 rfl e7) rfl rfl rfl (by decide) rfl rfl rfl rfl (by omega) (pc' := 94) rfl (S' := [.int v5, .ref b1]) rfl ?_
      refine g_run 1 (pc' := 95) (L' := [some (.ref 423), some (.ref b1), some (.int y2)]) (S' := [.int y2, .int v5, .ref b1]) (M' := gm g6) rfl ?_
      replace h := zB_of h
      obtain ⟨v8, g9, e10, h⟩ := h
      refine g_inv2 (kd := 1) (p_X8_learn b1 hb1 e10) rfl rfl rfl (by decide) rfl (g_recv (a := b1) rfl (Nat.le_of_ble_eq_true rfl) (Nat.le_of_ble_eq_true rfl) (Nat.le_of_ble_eq_true rfl) (Nat.le_of_ble_eq_true rfl) rfl hb1 (Nat.le_of_ble_eq_true rfl)) rfl rfl (by omega) (pc' := 98) rfl (S' := []) rfl ?_
      refine g_run 2 (pc' := 74) (L' := [some (.ref 423), some (.ref b1), some (.int ((y2 + 1)))]) (S' := []) (M' := gm g9) rfl ?_
      exact ih (y2 + 1) g9 _ h
def f_X10_begin_72 (b1 : Nat) (g : zSg) : Option (Unit × zSg) := f_X10_begin_74 b1 zFu (0) g
set_option maxRecDepth 100000 in
set_option maxHeartbeats 4000000 in
theorem p_X10_begin_72 {sc : zSc} {hp : zHp} {d : Nat} (hD : 2 ≤ d) (b1 : Nat) (hb1 : (zK0 b1).1 = 8) (g : zSg) (r : Unit × zSg) (h : f_X10_begin_72 b1 g = some r) : zG d sc hp (zcd zM_X10_begin) 72 [some (.ref 423), some (.ref b1), none] [] (gm g) (none, gm r.2) := by
  obtain ⟨d, rfl⟩ : ∃ d', d = d' + 1 := ⟨d - 1, by omega⟩
  unfold f_X10_begin_72 at h
  refine g_run 2 (pc' := 74) (L' := [some (.ref 423), some (.ref b1), some (.int 0)]) (S' := []) (M' := gm g) rfl ?_
  exact p_X10_begin_74 hD b1 hb1 zFu (0) g _ h
def fb_X10_begin_39 (b1 : Nat) (kk : Int32 → zSg → Option (Unit × zSg)) (y2 : Int32) (g : zSg) : Option (Unit × zSg) := (zB (f_X0_persons 3 g) (fun v1 g2 => (if v1 ≤ y2 then f_X10_begin_72 b1 g2 else (zB (f_X0_home 3 y2 g2) (fun v5 g6 => (zB (f_X7_set (b1 + 1) y2 v5 g6) (fun v8 g9 => kk (y2 + 1) g9)))))))
def f_X10_begin_39 (b1 : Nat) : Nat → Int32 → zSg → Option (Unit × zSg)
  | 0, _, _ => none
  | n + 1, y2, g => fb_X10_begin_39 b1 (f_X10_begin_39 b1 n) y2 g
set_option maxRecDepth 100000 in
set_option maxHeartbeats 4000000 in
theorem p_X10_begin_39 {sc : zSc} {hp : zHp} {d : Nat} (hD : 2 ≤ d) (b1 : Nat) (hb1 : (zK0 b1).1 = 8) : ∀ (n : Nat) (y2 : Int32) (g : zSg) (r : Unit × zSg), f_X10_begin_39 b1 n y2 g = some r → zG d sc hp (zcd zM_X10_begin) 39 [some (.ref 423), some (.ref b1), some (.int y2)] [] (gm g) (none, gm r.2) := by
  obtain ⟨d, rfl⟩ : ∃ d', d = d' + 1 := ⟨d - 1, by omega⟩
  intro n
  induction n with
  | zero => intro y2 g r h; cases h
  | succ n ih =>
    intro y2 g r h
    replace h : fb_X10_begin_39 b1 (f_X10_begin_39 b1 n) y2 g = some r := h
    unfold fb_X10_begin_39 at h
    refine g_run 3 (pc' := 44) (L' := [some (.ref 423), some (.ref b1), some (.int y2)]) (S' := [.ref 3, .int y2]) (M' := gm g) rfl ?_
    replace h := zB_of h
    obtain ⟨v1, g2, e3, h⟩ := h
    refine g_inv2 (kd := 1) (p_X0_persons 3 rfl e3) rfl rfl rfl (by decide) rfl rfl rfl rfl (by omega) (pc' := 47) rfl (S' := [.int v1, .int y2]) rfl ?_
    refine g_icmp (v1 ≤ y2) rfl (t := 72) rfl rfl (fun c4 => ?_) (fun c4 => ?_)
    · replace h := (if_pos c4).symm.trans h
      refine g_forget (L' := [some (.ref 423), some (.ref b1), none]) (And.intro rfl (And.intro rfl True.intro)) ?_
      exact p_X10_begin_72 hD b1 hb1 g2 _ h
    · replace h := (if_neg c4).symm.trans h
      refine g_run 1 (pc' := 51) (L' := [some (.ref 423), some (.ref b1), some (.int y2)]) (S' := [.ref b1]) (M' := gm g2) rfl ?_
      refine g_getf rfl (ci := 8) (k := 0) rfl hb1 (gfv_s0 hb1) ?_
      refine g_run 4 (pc' := 60) (L' := [some (.ref 423), some (.ref b1), some (.int y2)]) (S' := [.int y2, .ref 3, .int y2, .ref (b1 + 1)]) (M' := gm g2) rfl ?_
      replace h := zB_of h
      obtain ⟨v5, g6, e7, h⟩ := h
      refine g_inv2 (kd := 1) (p_X0_home 3 rfl e7) rfl rfl rfl (by decide) rfl rfl rfl rfl (by omega) (pc' := 63) rfl (S' := [.int v5, .int y2, .ref (b1 + 1)]) rfl ?_
      replace h := zB_of h
      obtain ⟨v8, g9, e10, h⟩ := h
      refine g_inv2 (kd := 1) (p_X7_set (b1 + 1) (zK0_s hb1).1 e10) rfl rfl rfl (by decide) rfl (g_recv (a := b1 + 1) rfl (Nat.le_of_ble_eq_true rfl) (Nat.le_of_ble_eq_true rfl) (Nat.le_of_ble_eq_true rfl) (Nat.le_of_ble_eq_true rfl) rfl (zK0_s hb1).1 (Nat.le_of_ble_eq_true rfl)) rfl rfl (by omega) (pc' := 66) rfl (S' := []) rfl ?_
      refine g_run 2 (pc' := 39) (L' := [some (.ref 423), some (.ref b1), some (.int ((y2 + 1)))]) (S' := []) (M' := gm g9) rfl ?_
      exact ih (y2 + 1) g9 _ h
def f_X10_begin (b1 : Nat) (g : zSg) : Option (Unit × zSg) := (zB (f_X8_clear b1 g) (fun v1 g2 => (zB (f_X0_windTold 3 g2) (fun v4 g5 => (zB (f_X0_oakTold 3 (gsI g5 (b1) 6 v4)) (fun v7 g8 => (zB (f_X0_coinsTold 3 (gsI g8 (b1) 7 v7)) (fun v10 g11 => f_X10_begin_39 b1 zFu (0) (gsI g11 (b1) 8 v10)))))))))
set_option maxRecDepth 100000 in
set_option maxHeartbeats 4000000 in
theorem p_X10_begin {sc : zSc} {hp : zHp} (b1 : Nat) (hb1 : (zK0 b1).1 = 8) {g : zSg} {r : Unit × zSg} (h : f_X10_begin b1 g = some r) : zRn sc hp 2 zM_X10_begin [.ref 423, .ref b1] (gm g) none (gm r.2) := by
  intro d hD
  obtain ⟨d, rfl⟩ : ∃ d', d = d' + 1 := ⟨d - 1, by omega⟩
  show zG _ sc hp (zcd zM_X10_begin) 0 [some (.ref 423), some (.ref b1), none] [] (gm g) _
  unfold f_X10_begin at h
  refine g_run 1 (pc' := 1) (L' := [some (.ref 423), some (.ref b1), none]) (S' := [.ref b1]) (M' := gm g) rfl ?_
  replace h := zB_of h
  obtain ⟨v1, g2, e3, h⟩ := h
  refine g_inv2 (kd := 1) (p_X8_clear b1 hb1 e3) rfl rfl rfl (by decide) rfl (g_recv (a := b1) rfl (Nat.le_of_ble_eq_true rfl) (Nat.le_of_ble_eq_true rfl) (Nat.le_of_ble_eq_true rfl) (Nat.le_of_ble_eq_true rfl) rfl hb1 (Nat.le_of_ble_eq_true rfl)) rfl rfl (by omega) (pc' := 4) rfl (S' := []) rfl ?_
  refine g_run 3 (pc' := 9) (L' := [some (.ref 423), some (.ref b1), none]) (S' := [.ref 3, .ref b1]) (M' := gm g2) rfl ?_
  replace h := zB_of h
  obtain ⟨v4, g5, e6, h⟩ := h
  refine g_inv2 (kd := 1) (p_X0_windTold 3 rfl e6) rfl rfl rfl (by decide) rfl rfl rfl rfl (by omega) (pc' := 12) rfl (S' := [.int v4, .ref b1]) rfl ?_
  refine g_putf rfl (ci := 8) (k := 6) rfl (a := b1) hb1 rfl (g' := gsI g5 (b1) 6 v4) rfl ?_
  refine g_run 3 (pc' := 20) (L' := [some (.ref 423), some (.ref b1), none]) (S' := [.ref 3, .ref b1]) (M' := gm (gsI g5 (b1) 6 v4)) rfl ?_
  replace h := zB_of h
  obtain ⟨v7, g8, e9, h⟩ := h
  refine g_inv2 (kd := 1) (p_X0_oakTold 3 rfl e9) rfl rfl rfl (by decide) rfl rfl rfl rfl (by omega) (pc' := 23) rfl (S' := [.int v7, .ref b1]) rfl ?_
  refine g_putf rfl (ci := 8) (k := 7) rfl (a := b1) hb1 rfl (g' := gsI g8 (b1) 7 v7) rfl ?_
  refine g_run 3 (pc' := 31) (L' := [some (.ref 423), some (.ref b1), none]) (S' := [.ref 3, .ref b1]) (M' := gm (gsI g8 (b1) 7 v7)) rfl ?_
  replace h := zB_of h
  obtain ⟨v10, g11, e12, h⟩ := h
  refine g_inv2 (kd := 1) (p_X0_coinsTold 3 rfl e12) rfl rfl rfl (by decide) rfl rfl rfl rfl (by omega) (pc' := 34) rfl (S' := [.int v10, .ref b1]) rfl ?_
  refine g_putf rfl (ci := 8) (k := 8) rfl (a := b1) hb1 rfl (g' := gsI g11 (b1) 8 v10) rfl ?_
  refine g_run 2 (pc' := 39) (L' := [some (.ref 423), some (.ref b1), some (.int 0)]) (S' := []) (M' := gm (gsI g11 (b1) 8 v10)) rfl ?_
  exact p_X10_begin_39 hD b1 hb1 zFu (0) (gsI g11 (b1) 8 v10) _ h
def f_X10_smellingCells_43 (b1 : Nat) (k5 : Int32 → Int32 → Int32 → zSg → Option (Int32 × zSg)) (y2 : Int32) (y3 : Int32) (y4 : Int32) (g : zSg) : Option (Int32 × zSg) := k5 (y2) (y3) (y4 + 1) g
set_option maxRecDepth 100000 in
set_option maxHeartbeats 4000000 in
theorem p_X10_smellingCells_43 {sc : zSc} {hp : zHp} {d : Nat} (hD : 19 ≤ d) (b1 : Nat) (hb1 : (zK0 b1).1 = 8) (k5 : Int32 → Int32 → Int32 → zSg → Option (Int32 × zSg)) (hk5 : ∀ (y2 : Int32) (y3 : Int32) (y4 : Int32) (g : zSg) (r : Int32 × zSg), k5 y2 y3 y4 g = some r → zG d sc hp (zcd zM_X10_smellingCells) 5 [some (.ref 423), some (.ref b1), some (.int y2), some (.int y3), some (.int y4)] [] (gm g) ((some (.int r.1)), gm r.2)) (y2 : Int32) (y3 : Int32) (y4 : Int32) (g : zSg) (r : Int32 × zSg) (h : f_X10_smellingCells_43 b1 k5 y2 y3 y4 g = some r) : zG d sc hp (zcd zM_X10_smellingCells) 43 [some (.ref 423), some (.ref b1), some (.int y2), some (.int y3), some (.int y4)] [] (gm g) ((some (.int r.1)), gm r.2) := by
  obtain ⟨d, rfl⟩ : ∃ d', d = d' + 1 := ⟨d - 1, by omega⟩
  unfold f_X10_smellingCells_43 at h
  refine g_run 2 (pc' := 5) (L' := [some (.ref 423), some (.ref b1), some (.int y2), some (.int y3), some (.int ((y4 + 1)))]) (S' := []) (M' := gm g) rfl ?_
  exact hk5 (y2) (y3) (y4 + 1) g _ h
def fb_X10_smellingCells_5 (b1 : Nat) (kk : Int32 → Int32 → Int32 → zSg → Option (Int32 × zSg)) (y2 : Int32) (y3 : Int32) (y4 : Int32) (g : zSg) : Option (Int32 × zSg) := (zB (f_X0_cells 3 g) (fun v1 g2 => (if v1 ≤ y4 then some (y3, g2) else (zB (f_X0_heavy 3 y2 g2) (fun v5 g6 => (zB (f_X10_strengthAt b1 y2 y4 v5 g6) (fun v8 g9 => (if v8 ≤ 0 then f_X10_smellingCells_43 b1 kk (y2) (y3) (y4) g9 else f_X10_smellingCells_43 b1 kk (y2) (y3 ||| (1 <<< (y4 &&& 31))) (y4) g9))))))))
def f_X10_smellingCells_5 (b1 : Nat) : Nat → Int32 → Int32 → Int32 → zSg → Option (Int32 × zSg)
  | 0, _, _, _, _ => none
  | n + 1, y2, y3, y4, g => fb_X10_smellingCells_5 b1 (f_X10_smellingCells_5 b1 n) y2 y3 y4 g
set_option maxRecDepth 100000 in
set_option maxHeartbeats 4000000 in
theorem p_X10_smellingCells_5 {sc : zSc} {hp : zHp} {d : Nat} (hD : 19 ≤ d) (b1 : Nat) (hb1 : (zK0 b1).1 = 8) : ∀ (n : Nat) (y2 : Int32) (y3 : Int32) (y4 : Int32) (g : zSg) (r : Int32 × zSg), f_X10_smellingCells_5 b1 n y2 y3 y4 g = some r → zG d sc hp (zcd zM_X10_smellingCells) 5 [some (.ref 423), some (.ref b1), some (.int y2), some (.int y3), some (.int y4)] [] (gm g) ((some (.int r.1)), gm r.2) := by
  obtain ⟨d, rfl⟩ : ∃ d', d = d' + 1 := ⟨d - 1, by omega⟩
  intro n
  induction n with
  | zero => intro y2 y3 y4 g r h; cases h
  | succ n ih =>
    intro y2 y3 y4 g r h
    replace h : fb_X10_smellingCells_5 b1 (f_X10_smellingCells_5 b1 n) y2 y3 y4 g = some r := h
    unfold fb_X10_smellingCells_5 at h
    refine g_run 3 (pc' := 11) (L' := [some (.ref 423), some (.ref b1), some (.int y2), some (.int y3), some (.int y4)]) (S' := [.ref 3, .int y4]) (M' := gm g) rfl ?_
    replace h := zB_of h
    obtain ⟨v1, g2, e3, h⟩ := h
    refine g_inv2 (kd := 1) (p_X0_cells 3 rfl e3) rfl rfl rfl (by decide) rfl rfl rfl rfl (by omega) (pc' := 14) rfl (S' := [.int v1, .int y4]) rfl ?_
    refine g_icmp (v1 ≤ y4) rfl (t := 49) rfl rfl (fun c4 => ?_) (fun c4 => ?_)
    · replace h := (if_pos c4).symm.trans h
      refine g_run 1 (pc' := 50) (L' := [some (.ref 423), some (.ref b1), some (.int y2), some (.int y3), some (.int y4)]) (S' := [.int y3]) (M' := gm g2) rfl ?_
      cases h
      exact g_ret rfl rfl rfl rfl
    · replace h := (if_neg c4).symm.trans h
      refine g_run 7 (pc' := 27) (L' := [some (.ref 423), some (.ref b1), some (.int y2), some (.int y3), some (.int y4)]) (S' := [.int y2, .ref 3, .int y4, .int y2, .ref b1, .ref 423]) (M' := gm g2) rfl ?_
      replace h := zB_of h
      obtain ⟨v5, g6, e7, h⟩ := h
      refine g_inv2 (kd := 1) (p_X0_heavy 3 rfl e7) rfl rfl rfl (by decide) rfl rfl rfl rfl (by omega) (pc' := 30) rfl (S' := [.int v5, .int y4, .int y2, .ref b1, .ref 423]) rfl ?_
      replace h := zB_of h
      obtain ⟨v8, g9, e10, h⟩ := h
      refine g_inv2 (kd := 1) (p_X10_strengthAt b1 hb1 e10) rfl rfl rfl (by decide) rfl rfl rfl rfl (by omega) (pc' := 33) rfl (S' := [.int v8]) rfl ?_
      refine g_if (v8 ≤ 0) rfl (t := 43) rfl rfl (fun c11 => ?_) (fun c11 => ?_)
      · replace h := (if_pos c11).symm.trans h
        exact p_X10_smellingCells_43 hD b1 hb1 (f_X10_smellingCells_5 b1 n) ih (y2) (y3) (y4) g9 _ h
      · replace h := (if_neg c11).symm.trans h
        refine g_run 6 (pc' := 43) (L' := [some (.ref 423), some (.ref b1), some (.int y2), some (.int ((y3 ||| (1 <<< (y4 &&& 31))))), some (.int y4)]) (S' := []) (M' := gm g9) rfl ?_
        exact p_X10_smellingCells_43 hD b1 hb1 (f_X10_smellingCells_5 b1 n) ih (y2) (y3 ||| (1 <<< (y4 &&& 31))) (y4) g9 _ h
def f_X10_smellingCells (b1 : Nat) (x2 : Int32) (g : zSg) : Option (Int32 × zSg) := f_X10_smellingCells_5 b1 zFu (x2) (0) (0) g
set_option maxRecDepth 100000 in
set_option maxHeartbeats 4000000 in
theorem p_X10_smellingCells {sc : zSc} {hp : zHp} (b1 : Nat) (hb1 : (zK0 b1).1 = 8) {x2 : Int32} {g : zSg} {r : Int32 × zSg} (h : f_X10_smellingCells b1 x2 g = some r) : zRn sc hp 19 zM_X10_smellingCells [.ref 423, .ref b1, .int x2] (gm g) (some (.int r.1)) (gm r.2) := by
  intro d hD
  obtain ⟨d, rfl⟩ : ∃ d', d = d' + 1 := ⟨d - 1, by omega⟩
  show zG _ sc hp (zcd zM_X10_smellingCells) 0 [some (.ref 423), some (.ref b1), some (.int x2), none, none] [] (gm g) _
  unfold f_X10_smellingCells at h
  refine g_run 4 (pc' := 5) (L' := [some (.ref 423), some (.ref b1), some (.int x2), some (.int 0), some (.int 0)]) (S' := []) (M' := gm g) rfl ?_
  exact p_X10_smellingCells_5 hD b1 hb1 zFu (x2) (0) (0) g _ h
def f_X10_foulCells_27 (b1 : Nat) (k4 : Int32 → Int32 → zSg → Option (Int32 × zSg)) (y2 : Int32) (y3 : Int32) (g : zSg) : Option (Int32 × zSg) := k4 (y2) (y3 + 1) g
set_option maxRecDepth 100000 in
set_option maxHeartbeats 4000000 in
theorem p_X10_foulCells_27 {sc : zSc} {hp : zHp} {d : Nat} (hD : 20 ≤ d) (b1 : Nat) (hb1 : (zK0 b1).1 = 8) (k4 : Int32 → Int32 → zSg → Option (Int32 × zSg)) (hk4 : ∀ (y2 : Int32) (y3 : Int32) (g : zSg) (r : Int32 × zSg), k4 y2 y3 g = some r → zG d sc hp (zcd zM_X10_foulCells) 4 [some (.ref 423), some (.ref b1), some (.int y2), some (.int y3)] [] (gm g) ((some (.int r.1)), gm r.2)) (y2 : Int32) (y3 : Int32) (g : zSg) (r : Int32 × zSg) (h : f_X10_foulCells_27 b1 k4 y2 y3 g = some r) : zG d sc hp (zcd zM_X10_foulCells) 27 [some (.ref 423), some (.ref b1), some (.int y2), some (.int y3)] [] (gm g) ((some (.int r.1)), gm r.2) := by
  obtain ⟨d, rfl⟩ : ∃ d', d = d' + 1 := ⟨d - 1, by omega⟩
  unfold f_X10_foulCells_27 at h
  refine g_run 2 (pc' := 4) (L' := [some (.ref 423), some (.ref b1), some (.int y2), some (.int ((y3 + 1)))]) (S' := []) (M' := gm g) rfl ?_
  exact hk4 (y2) (y3 + 1) g _ h
def fb_X10_foulCells_4 (b1 : Nat) (kk : Int32 → Int32 → zSg → Option (Int32 × zSg)) (y2 : Int32) (y3 : Int32) (g : zSg) : Option (Int32 × zSg) := (zB (f_X0_cells 3 g) (fun v1 g2 => (if v1 ≤ y3 then some (y2, g2) else (zB (f_X10_airAt b1 y3 g2) (fun v5 g6 => (if v5 ≤ 0 then f_X10_foulCells_27 b1 kk (y2) (y3) g6 else f_X10_foulCells_27 b1 kk (y2 + 1) (y3) g6))))))
def f_X10_foulCells_4 (b1 : Nat) : Nat → Int32 → Int32 → zSg → Option (Int32 × zSg)
  | 0, _, _, _ => none
  | n + 1, y2, y3, g => fb_X10_foulCells_4 b1 (f_X10_foulCells_4 b1 n) y2 y3 g
set_option maxRecDepth 100000 in
set_option maxHeartbeats 4000000 in
theorem p_X10_foulCells_4 {sc : zSc} {hp : zHp} {d : Nat} (hD : 20 ≤ d) (b1 : Nat) (hb1 : (zK0 b1).1 = 8) : ∀ (n : Nat) (y2 : Int32) (y3 : Int32) (g : zSg) (r : Int32 × zSg), f_X10_foulCells_4 b1 n y2 y3 g = some r → zG d sc hp (zcd zM_X10_foulCells) 4 [some (.ref 423), some (.ref b1), some (.int y2), some (.int y3)] [] (gm g) ((some (.int r.1)), gm r.2) := by
  obtain ⟨d, rfl⟩ : ∃ d', d = d' + 1 := ⟨d - 1, by omega⟩
  intro n
  induction n with
  | zero => intro y2 y3 g r h; cases h
  | succ n ih =>
    intro y2 y3 g r h
    replace h : fb_X10_foulCells_4 b1 (f_X10_foulCells_4 b1 n) y2 y3 g = some r := h
    unfold fb_X10_foulCells_4 at h
    refine g_run 3 (pc' := 9) (L' := [some (.ref 423), some (.ref b1), some (.int y2), some (.int y3)]) (S' := [.ref 3, .int y3]) (M' := gm g) rfl ?_
    replace h := zB_of h
    obtain ⟨v1, g2, e3, h⟩ := h
    refine g_inv2 (kd := 1) (p_X0_cells 3 rfl e3) rfl rfl rfl (by decide) rfl rfl rfl rfl (by omega) (pc' := 12) rfl (S' := [.int v1, .int y3]) rfl ?_
    refine g_icmp (v1 ≤ y3) rfl (t := 33) rfl rfl (fun c4 => ?_) (fun c4 => ?_)
    · replace h := (if_pos c4).symm.trans h
      refine g_run 1 (pc' := 34) (L' := [some (.ref 423), some (.ref b1), some (.int y2), some (.int y3)]) (S' := [.int y2]) (M' := gm g2) rfl ?_
      cases h
      exact g_ret rfl rfl rfl rfl
    · replace h := (if_neg c4).symm.trans h
      refine g_run 3 (pc' := 18) (L' := [some (.ref 423), some (.ref b1), some (.int y2), some (.int y3)]) (S' := [.int y3, .ref b1, .ref 423]) (M' := gm g2) rfl ?_
      replace h := zB_of h
      obtain ⟨v5, g6, e7, h⟩ := h
      refine g_inv2 (kd := 1) (p_X10_airAt b1 hb1 e7) rfl rfl rfl (by decide) rfl rfl rfl rfl (by omega) (pc' := 21) rfl (S' := [.int v5]) rfl ?_
      refine g_if (v5 ≤ 0) rfl (t := 27) rfl rfl (fun c8 => ?_) (fun c8 => ?_)
      · replace h := (if_pos c8).symm.trans h
        exact p_X10_foulCells_27 hD b1 hb1 (f_X10_foulCells_4 b1 n) ih (y2) (y3) g6 _ h
      · replace h := (if_neg c8).symm.trans h
        refine g_run 1 (pc' := 27) (L' := [some (.ref 423), some (.ref b1), some (.int ((y2 + 1))), some (.int y3)]) (S' := []) (M' := gm g6) rfl ?_
        exact p_X10_foulCells_27 hD b1 hb1 (f_X10_foulCells_4 b1 n) ih (y2 + 1) (y3) g6 _ h
def f_X10_foulCells (b1 : Nat) (g : zSg) : Option (Int32 × zSg) := f_X10_foulCells_4 b1 zFu (0) (0) g
set_option maxRecDepth 100000 in
set_option maxHeartbeats 4000000 in
theorem p_X10_foulCells {sc : zSc} {hp : zHp} (b1 : Nat) (hb1 : (zK0 b1).1 = 8) {g : zSg} {r : Int32 × zSg} (h : f_X10_foulCells b1 g = some r) : zRn sc hp 20 zM_X10_foulCells [.ref 423, .ref b1] (gm g) (some (.int r.1)) (gm r.2) := by
  intro d hD
  obtain ⟨d, rfl⟩ : ∃ d', d = d' + 1 := ⟨d - 1, by omega⟩
  show zG _ sc hp (zcd zM_X10_foulCells) 0 [some (.ref 423), some (.ref b1), none, none] [] (gm g) _
  unfold f_X10_foulCells at h
  refine g_run 4 (pc' := 4) (L' := [some (.ref 423), some (.ref b1), some (.int 0), some (.int 0)]) (S' := []) (M' := gm g) rfl ?_
  exact p_X10_foulCells_4 hD b1 hb1 zFu (0) (0) g _ h
def f_X10_safePersons_37 (b1 : Nat) (k4 : Int32 → Int32 → zSg → Option (Int32 × zSg)) (y2 : Int32) (y3 : Int32) (g : zSg) : Option (Int32 × zSg) := k4 (y2) (y3 + 1) g
set_option maxRecDepth 100000 in
set_option maxHeartbeats 4000000 in
theorem p_X10_safePersons_37 {sc : zSc} {hp : zHp} {d : Nat} (hD : 20 ≤ d) (b1 : Nat) (hb1 : (zK0 b1).1 = 8) (k4 : Int32 → Int32 → zSg → Option (Int32 × zSg)) (hk4 : ∀ (y2 : Int32) (y3 : Int32) (g : zSg) (r : Int32 × zSg), k4 y2 y3 g = some r → zG d sc hp (zcd zM_X10_safePersons) 4 [some (.ref 423), some (.ref b1), some (.int y2), some (.int y3)] [] (gm g) ((some (.int r.1)), gm r.2)) (y2 : Int32) (y3 : Int32) (g : zSg) (r : Int32 × zSg) (h : f_X10_safePersons_37 b1 k4 y2 y3 g = some r) : zG d sc hp (zcd zM_X10_safePersons) 37 [some (.ref 423), some (.ref b1), some (.int y2), some (.int y3)] [] (gm g) ((some (.int r.1)), gm r.2) := by
  obtain ⟨d, rfl⟩ : ∃ d', d = d' + 1 := ⟨d - 1, by omega⟩
  unfold f_X10_safePersons_37 at h
  refine g_run 2 (pc' := 4) (L' := [some (.ref 423), some (.ref b1), some (.int y2), some (.int ((y3 + 1)))]) (S' := []) (M' := gm g) rfl ?_
  exact hk4 (y2) (y3 + 1) g _ h
def fb_X10_safePersons_4 (b1 : Nat) (kk : Int32 → Int32 → zSg → Option (Int32 × zSg)) (y2 : Int32) (y3 : Int32) (g : zSg) : Option (Int32 × zSg) := (zB (f_X0_persons 3 g) (fun v1 g2 => (if v1 ≤ y3 then some (y2, g2) else (zB (f_X7_get (b1 + 1) y3 g2) (fun v5 g6 => (zB (f_X10_airAt b1 v5 g6) (fun v8 g9 => (if ¬ v8 = 0 then f_X10_safePersons_37 b1 kk (y2) (y3) g9 else f_X10_safePersons_37 b1 kk (y2 ||| (1 <<< (y3 &&& 31))) (y3) g9))))))))
def f_X10_safePersons_4 (b1 : Nat) : Nat → Int32 → Int32 → zSg → Option (Int32 × zSg)
  | 0, _, _, _ => none
  | n + 1, y2, y3, g => fb_X10_safePersons_4 b1 (f_X10_safePersons_4 b1 n) y2 y3 g
set_option maxRecDepth 100000 in
set_option maxHeartbeats 4000000 in
theorem p_X10_safePersons_4 {sc : zSc} {hp : zHp} {d : Nat} (hD : 20 ≤ d) (b1 : Nat) (hb1 : (zK0 b1).1 = 8) : ∀ (n : Nat) (y2 : Int32) (y3 : Int32) (g : zSg) (r : Int32 × zSg), f_X10_safePersons_4 b1 n y2 y3 g = some r → zG d sc hp (zcd zM_X10_safePersons) 4 [some (.ref 423), some (.ref b1), some (.int y2), some (.int y3)] [] (gm g) ((some (.int r.1)), gm r.2) := by
  obtain ⟨d, rfl⟩ : ∃ d', d = d' + 1 := ⟨d - 1, by omega⟩
  intro n
  induction n with
  | zero => intro y2 y3 g r h; cases h
  | succ n ih =>
    intro y2 y3 g r h
    replace h : fb_X10_safePersons_4 b1 (f_X10_safePersons_4 b1 n) y2 y3 g = some r := h
    unfold fb_X10_safePersons_4 at h
    refine g_run 3 (pc' := 9) (L' := [some (.ref 423), some (.ref b1), some (.int y2), some (.int y3)]) (S' := [.ref 3, .int y3]) (M' := gm g) rfl ?_
    replace h := zB_of h
    obtain ⟨v1, g2, e3, h⟩ := h
    refine g_inv2 (kd := 1) (p_X0_persons 3 rfl e3) rfl rfl rfl (by decide) rfl rfl rfl rfl (by omega) (pc' := 12) rfl (S' := [.int v1, .int y3]) rfl ?_
    refine g_icmp (v1 ≤ y3) rfl (t := 43) rfl rfl (fun c4 => ?_) (fun c4 => ?_)
    · replace h := (if_pos c4).symm.trans h
      refine g_run 1 (pc' := 44) (L' := [some (.ref 423), some (.ref b1), some (.int y2), some (.int y3)]) (S' := [.int y2]) (M' := gm g2) rfl ?_
      cases h
      exact g_ret rfl rfl rfl rfl
    · replace h := (if_neg c4).symm.trans h
      refine g_run 3 (pc' := 18) (L' := [some (.ref 423), some (.ref b1), some (.int y2), some (.int y3)]) (S' := [.ref b1, .ref b1, .ref 423]) (M' := gm g2) rfl ?_
      refine g_getf rfl (ci := 8) (k := 0) rfl hb1 (gfv_s0 hb1) ?_
      refine g_run 1 (pc' := 22) (L' := [some (.ref 423), some (.ref b1), some (.int y2), some (.int y3)]) (S' := [.int y3, .ref (b1 + 1), .ref b1, .ref 423]) (M' := gm g2) rfl ?_
      replace h := zB_of h
      obtain ⟨v5, g6, e7, h⟩ := h
      refine g_inv2 (kd := 1) (p_X7_get (b1 + 1) (zK0_s hb1).1 e7) rfl rfl rfl (by decide) rfl (g_recv (a := b1 + 1) rfl (Nat.le_of_ble_eq_true rfl) (Nat.le_of_ble_eq_true rfl) (Nat.le_of_ble_eq_true rfl) (Nat.le_of_ble_eq_true rfl) rfl (zK0_s hb1).1 (Nat.le_of_ble_eq_true rfl)) rfl rfl (by omega) (pc' := 25) rfl (S' := [.int v5, .ref b1, .ref 423]) rfl ?_
      replace h := zB_of h
      obtain ⟨v8, g9, e10, h⟩ := h
      refine g_inv2 (kd := 1) (p_X10_airAt b1 hb1 e10) rfl rfl rfl (by decide) rfl rfl rfl rfl (by omega) (pc' := 28) rfl (S' := [.int v8]) rfl ?_
      refine g_if (¬ v8 = 0) rfl (t := 37) rfl rfl (fun c11 => ?_) (fun c11 => ?_)
      · replace h := (if_pos c11).symm.trans h
        exact p_X10_safePersons_37 hD b1 hb1 (f_X10_safePersons_4 b1 n) ih (y2) (y3) g9 _ h
      · replace h := (if_neg c11).symm.trans h
        refine g_run 6 (pc' := 37) (L' := [some (.ref 423), some (.ref b1), some (.int ((y2 ||| (1 <<< (y3 &&& 31))))), some (.int y3)]) (S' := []) (M' := gm g9) rfl ?_
        exact p_X10_safePersons_37 hD b1 hb1 (f_X10_safePersons_4 b1 n) ih (y2 ||| (1 <<< (y3 &&& 31))) (y3) g9 _ h
def f_X10_safePersons (b1 : Nat) (g : zSg) : Option (Int32 × zSg) := f_X10_safePersons_4 b1 zFu (0) (0) g
set_option maxRecDepth 100000 in
set_option maxHeartbeats 4000000 in
theorem p_X10_safePersons {sc : zSc} {hp : zHp} (b1 : Nat) (hb1 : (zK0 b1).1 = 8) {g : zSg} {r : Int32 × zSg} (h : f_X10_safePersons b1 g = some r) : zRn sc hp 20 zM_X10_safePersons [.ref 423, .ref b1] (gm g) (some (.int r.1)) (gm r.2) := by
  intro d hD
  obtain ⟨d, rfl⟩ : ∃ d', d = d' + 1 := ⟨d - 1, by omega⟩
  show zG _ sc hp (zcd zM_X10_safePersons) 0 [some (.ref 423), some (.ref b1), none, none] [] (gm g) _
  unfold f_X10_safePersons at h
  refine g_run 4 (pc' := 4) (L' := [some (.ref 423), some (.ref b1), some (.int 0), some (.int 0)]) (S' := []) (M' := gm g) rfl ?_
  exact p_X10_safePersons_4 hD b1 hb1 zFu (0) (0) g _ h
def f_X10_tables_61 (b1 : Nat) (k4 : Int32 → Int32 → zSg → Option (Int32 × zSg)) (y2 : Int32) (y3 : Int32) (g : zSg) : Option (Int32 × zSg) := k4 (y2) (y3 + 1) g
set_option maxRecDepth 100000 in
set_option maxHeartbeats 4000000 in
theorem p_X10_tables_61 {sc : zSc} {hp : zHp} {d : Nat} (hD : 1 ≤ d) (b1 : Nat) (hb1 : (zK0 b1).1 = 8) (k4 : Int32 → Int32 → zSg → Option (Int32 × zSg)) (hk4 : ∀ (y2 : Int32) (y3 : Int32) (g : zSg) (r : Int32 × zSg), k4 y2 y3 g = some r → zG d sc hp (zcd zM_X10_tables) 4 [some (.ref 423), some (.ref b1), some (.int y2), some (.int y3), none] [] (gm g) ((some (.int r.1)), gm r.2)) (y2 : Int32) (y3 : Int32) (g : zSg) (r : Int32 × zSg) (h : f_X10_tables_61 b1 k4 y2 y3 g = some r) : zG d sc hp (zcd zM_X10_tables) 61 [some (.ref 423), some (.ref b1), some (.int y2), some (.int y3), none] [] (gm g) ((some (.int r.1)), gm r.2) := by
  obtain ⟨d, rfl⟩ : ∃ d', d = d' + 1 := ⟨d - 1, by omega⟩
  unfold f_X10_tables_61 at h
  refine g_run 2 (pc' := 4) (L' := [some (.ref 423), some (.ref b1), some (.int y2), some (.int ((y3 + 1))), none]) (S' := []) (M' := gm g) rfl ?_
  exact hk4 (y2) (y3 + 1) g _ h
def f_X10_tables_55 (b1 : Nat) (k4 : Int32 → Int32 → zSg → Option (Int32 × zSg)) (k20 : Int32 → Int32 → Int32 → zSg → Option (Int32 × zSg)) (y2 : Int32) (y3 : Int32) (y4 : Int32) (g : zSg) : Option (Int32 × zSg) := k20 (y2) (y3) (y4 + 1) g
set_option maxRecDepth 100000 in
set_option maxHeartbeats 4000000 in
theorem p_X10_tables_55 {sc : zSc} {hp : zHp} {d : Nat} (hD : 1 ≤ d) (b1 : Nat) (hb1 : (zK0 b1).1 = 8) (k4 : Int32 → Int32 → zSg → Option (Int32 × zSg)) (hk4 : ∀ (y2 : Int32) (y3 : Int32) (g : zSg) (r : Int32 × zSg), k4 y2 y3 g = some r → zG d sc hp (zcd zM_X10_tables) 4 [some (.ref 423), some (.ref b1), some (.int y2), some (.int y3), none] [] (gm g) ((some (.int r.1)), gm r.2)) (k20 : Int32 → Int32 → Int32 → zSg → Option (Int32 × zSg)) (hk20 : ∀ (y2 : Int32) (y3 : Int32) (y4 : Int32) (g : zSg) (r : Int32 × zSg), k20 y2 y3 y4 g = some r → zG d sc hp (zcd zM_X10_tables) 20 [some (.ref 423), some (.ref b1), some (.int y2), some (.int y3), some (.int y4)] [] (gm g) ((some (.int r.1)), gm r.2)) (y2 : Int32) (y3 : Int32) (y4 : Int32) (g : zSg) (r : Int32 × zSg) (h : f_X10_tables_55 b1 k4 k20 y2 y3 y4 g = some r) : zG d sc hp (zcd zM_X10_tables) 55 [some (.ref 423), some (.ref b1), some (.int y2), some (.int y3), some (.int y4)] [] (gm g) ((some (.int r.1)), gm r.2) := by
  obtain ⟨d, rfl⟩ : ∃ d', d = d' + 1 := ⟨d - 1, by omega⟩
  unfold f_X10_tables_55 at h
  refine g_run 2 (pc' := 20) (L' := [some (.ref 423), some (.ref b1), some (.int y2), some (.int y3), some (.int ((y4 + 1)))]) (S' := []) (M' := gm g) rfl ?_
  exact hk20 (y2) (y3) (y4 + 1) g _ h
def fb_X10_tables_20 (b1 : Nat) (k4 : Int32 → Int32 → zSg → Option (Int32 × zSg)) (kk : Int32 → Int32 → Int32 → zSg → Option (Int32 × zSg)) (y2 : Int32) (y3 : Int32) (y4 : Int32) (g : zSg) : Option (Int32 × zSg) := (zB (f_X0_persons 3 g) (fun v1 g2 => (if v1 ≤ y4 then f_X10_tables_61 b1 k4 (y2) (y3) g2 else (zB (f_X7_get (b1 + 1) y3 g2) (fun v5 g6 => (zB (f_X7_get (b1 + 1) y4 g6) (fun v8 g9 => (if ¬ v5 = v8 then f_X10_tables_55 b1 k4 kk (y2) (y3) (y4) g9 else f_X10_tables_55 b1 k4 kk (y2 + 1) (y3) (y4) g9))))))))
def f_X10_tables_20 (b1 : Nat) (k4 : Int32 → Int32 → zSg → Option (Int32 × zSg)) : Nat → Int32 → Int32 → Int32 → zSg → Option (Int32 × zSg)
  | 0, _, _, _, _ => none
  | n + 1, y2, y3, y4, g => fb_X10_tables_20 b1 k4 (f_X10_tables_20 b1 k4 n) y2 y3 y4 g
set_option maxRecDepth 100000 in
set_option maxHeartbeats 4000000 in
theorem p_X10_tables_20 {sc : zSc} {hp : zHp} {d : Nat} (hD : 1 ≤ d) (b1 : Nat) (hb1 : (zK0 b1).1 = 8) (k4 : Int32 → Int32 → zSg → Option (Int32 × zSg)) (hk4 : ∀ (y2 : Int32) (y3 : Int32) (g : zSg) (r : Int32 × zSg), k4 y2 y3 g = some r → zG d sc hp (zcd zM_X10_tables) 4 [some (.ref 423), some (.ref b1), some (.int y2), some (.int y3), none] [] (gm g) ((some (.int r.1)), gm r.2)) : ∀ (n : Nat) (y2 : Int32) (y3 : Int32) (y4 : Int32) (g : zSg) (r : Int32 × zSg), f_X10_tables_20 b1 k4 n y2 y3 y4 g = some r → zG d sc hp (zcd zM_X10_tables) 20 [some (.ref 423), some (.ref b1), some (.int y2), some (.int y3), some (.int y4)] [] (gm g) ((some (.int r.1)), gm r.2) := by
  obtain ⟨d, rfl⟩ : ∃ d', d = d' + 1 := ⟨d - 1, by omega⟩
  intro n
  induction n with
  | zero => intro y2 y3 y4 g r h; cases h
  | succ n ih =>
    intro y2 y3 y4 g r h
    replace h : fb_X10_tables_20 b1 k4 (f_X10_tables_20 b1 k4 n) y2 y3 y4 g = some r := h
    unfold fb_X10_tables_20 at h
    refine g_run 3 (pc' := 26) (L' := [some (.ref 423), some (.ref b1), some (.int y2), some (.int y3), some (.int y4)]) (S' := [.ref 3, .int y4]) (M' := gm g) rfl ?_
    replace h := zB_of h
    obtain ⟨v1, g2, e3, h⟩ := h
    refine g_inv2 (kd := 1) (p_X0_persons 3 rfl e3) rfl rfl rfl (by decide) rfl rfl rfl rfl (by omega) (pc' := 29) rfl (S' := [.int v1, .int y4]) rfl ?_
    refine g_icmp (v1 ≤ y4) rfl (t := 61) rfl rfl (fun c4 => ?_) (fun c4 => ?_)
    · replace h := (if_pos c4).symm.trans h
      refine g_forget (L' := [some (.ref 423), some (.ref b1), some (.int y2), some (.int y3), none]) (And.intro rfl (And.intro rfl (And.intro rfl (And.intro rfl True.intro)))) ?_
      exact p_X10_tables_61 hD b1 hb1 k4 hk4 (y2) (y3) g2 _ h
    · replace h := (if_neg c4).symm.trans h
      refine g_run 1 (pc' := 33) (L' := [some (.ref 423), some (.ref b1), some (.int y2), some (.int y3), some (.int y4)]) (S' := [.ref b1]) (M' := gm g2) rfl ?_
      refine g_getf rfl (ci := 8) (k := 0) rfl hb1 (gfv_s0 hb1) ?_
      refine g_run 1 (pc' := 37) (L' := [some (.ref 423), some (.ref b1), some (.int y2), some (.int y3), some (.int y4)]) (S' := [.int y3, .ref (b1 + 1)]) (M' := gm g2) rfl ?_
      replace h := zB_of h
      obtain ⟨v5, g6, e7, h⟩ := h
      refine g_inv2 (kd := 1) (p_X7_get (b1 + 1) (zK0_s hb1).1 e7) rfl rfl rfl (by decide) rfl (g_recv (a := b1 + 1) rfl (Nat.le_of_ble_eq_true rfl) (Nat.le_of_ble_eq_true rfl) (Nat.le_of_ble_eq_true rfl) (Nat.le_of_ble_eq_true rfl) rfl (zK0_s hb1).1 (Nat.le_of_ble_eq_true rfl)) rfl rfl (by omega) (pc' := 40) rfl (S' := [.int v5]) rfl ?_
      refine g_run 1 (pc' := 41) (L' := [some (.ref 423), some (.ref b1), some (.int y2), some (.int y3), some (.int y4)]) (S' := [.ref b1, .int v5]) (M' := gm g6) rfl ?_
      refine g_getf rfl (ci := 8) (k := 0) rfl hb1 (gfv_s0 hb1) ?_
      refine g_run 1 (pc' := 46) (L' := [some (.ref 423), some (.ref b1), some (.int y2), some (.int y3), some (.int y4)]) (S' := [.int y4, .ref (b1 + 1), .int v5]) (M' := gm g6) rfl ?_
      replace h := zB_of h
      obtain ⟨v8, g9, e10, h⟩ := h
      refine g_inv2 (kd := 1) (p_X7_get (b1 + 1) (zK0_s hb1).1 e10) rfl rfl rfl (by decide) rfl (g_recv (a := b1 + 1) rfl (Nat.le_of_ble_eq_true rfl) (Nat.le_of_ble_eq_true rfl) (Nat.le_of_ble_eq_true rfl) (Nat.le_of_ble_eq_true rfl) rfl (zK0_s hb1).1 (Nat.le_of_ble_eq_true rfl)) rfl rfl (by omega) (pc' := 49) rfl (S' := [.int v8, .int v5]) rfl ?_
      refine g_icmp (¬ v5 = v8) rfl (t := 55) rfl rfl (fun c11 => ?_) (fun c11 => ?_)
      · replace h := (if_pos c11).symm.trans h
        exact p_X10_tables_55 hD b1 hb1 k4 hk4 (f_X10_tables_20 b1 k4 n) ih (y2) (y3) (y4) g9 _ h
      · replace h := (if_neg c11).symm.trans h
        refine g_run 1 (pc' := 55) (L' := [some (.ref 423), some (.ref b1), some (.int ((y2 + 1))), some (.int y3), some (.int y4)]) (S' := []) (M' := gm g9) rfl ?_
        exact p_X10_tables_55 hD b1 hb1 k4 hk4 (f_X10_tables_20 b1 k4 n) ih (y2 + 1) (y3) (y4) g9 _ h
def fb_X10_tables_4 (b1 : Nat) (kk : Int32 → Int32 → zSg → Option (Int32 × zSg)) (y2 : Int32) (y3 : Int32) (g : zSg) : Option (Int32 × zSg) := (zB (f_X0_persons 3 g) (fun v1 g2 => (if v1 ≤ y3 then some (y2, g2) else f_X10_tables_20 b1 kk zFu (y2) (y3) (y3 + 1) g2)))
def f_X10_tables_4 (b1 : Nat) : Nat → Int32 → Int32 → zSg → Option (Int32 × zSg)
  | 0, _, _, _ => none
  | n + 1, y2, y3, g => fb_X10_tables_4 b1 (f_X10_tables_4 b1 n) y2 y3 g
set_option maxRecDepth 100000 in
set_option maxHeartbeats 4000000 in
theorem p_X10_tables_4 {sc : zSc} {hp : zHp} {d : Nat} (hD : 1 ≤ d) (b1 : Nat) (hb1 : (zK0 b1).1 = 8) : ∀ (n : Nat) (y2 : Int32) (y3 : Int32) (g : zSg) (r : Int32 × zSg), f_X10_tables_4 b1 n y2 y3 g = some r → zG d sc hp (zcd zM_X10_tables) 4 [some (.ref 423), some (.ref b1), some (.int y2), some (.int y3), none] [] (gm g) ((some (.int r.1)), gm r.2) := by
  obtain ⟨d, rfl⟩ : ∃ d', d = d' + 1 := ⟨d - 1, by omega⟩
  intro n
  induction n with
  | zero => intro y2 y3 g r h; cases h
  | succ n ih =>
    intro y2 y3 g r h
    replace h : fb_X10_tables_4 b1 (f_X10_tables_4 b1 n) y2 y3 g = some r := h
    unfold fb_X10_tables_4 at h
    refine g_run 3 (pc' := 9) (L' := [some (.ref 423), some (.ref b1), some (.int y2), some (.int y3), none]) (S' := [.ref 3, .int y3]) (M' := gm g) rfl ?_
    replace h := zB_of h
    obtain ⟨v1, g2, e3, h⟩ := h
    refine g_inv2 (kd := 1) (p_X0_persons 3 rfl e3) rfl rfl rfl (by decide) rfl rfl rfl rfl (by omega) (pc' := 12) rfl (S' := [.int v1, .int y3]) rfl ?_
    refine g_icmp (v1 ≤ y3) rfl (t := 67) rfl rfl (fun c4 => ?_) (fun c4 => ?_)
    · replace h := (if_pos c4).symm.trans h
      refine g_run 1 (pc' := 68) (L' := [some (.ref 423), some (.ref b1), some (.int y2), some (.int y3), none]) (S' := [.int y2]) (M' := gm g2) rfl ?_
      cases h
      exact g_ret rfl rfl rfl rfl
    · replace h := (if_neg c4).symm.trans h
      refine g_run 4 (pc' := 20) (L' := [some (.ref 423), some (.ref b1), some (.int y2), some (.int y3), some (.int ((y3 + 1)))]) (S' := []) (M' := gm g2) rfl ?_
      exact p_X10_tables_20 hD b1 hb1 (f_X10_tables_4 b1 n) ih zFu (y2) (y3) (y3 + 1) g2 _ h
def f_X10_tables (b1 : Nat) (g : zSg) : Option (Int32 × zSg) := f_X10_tables_4 b1 zFu (0) (0) g
set_option maxRecDepth 100000 in
set_option maxHeartbeats 4000000 in
theorem p_X10_tables {sc : zSc} {hp : zHp} (b1 : Nat) (hb1 : (zK0 b1).1 = 8) {g : zSg} {r : Int32 × zSg} (h : f_X10_tables b1 g = some r) : zRn sc hp 1 zM_X10_tables [.ref 423, .ref b1] (gm g) (some (.int r.1)) (gm r.2) := by
  intro d hD
  obtain ⟨d, rfl⟩ : ∃ d', d = d' + 1 := ⟨d - 1, by omega⟩
  show zG _ sc hp (zcd zM_X10_tables) 0 [some (.ref 423), some (.ref b1), none, none, none] [] (gm g) _
  unfold f_X10_tables at h
  refine g_run 4 (pc' := 4) (L' := [some (.ref 423), some (.ref b1), some (.int 0), some (.int 0), none]) (S' := []) (M' := gm g) rfl ?_
  exact p_X10_tables_4 hD b1 hb1 zFu (0) (0) g _ h
def fb_X10_lackedByAll_4 (b1 : Nat) (kk : Int32 → Int32 → zSg → Option (Int32 × zSg)) (y2 : Int32) (y3 : Int32) (g : zSg) : Option (Int32 × zSg) := (zB (f_X0_secrets 3 g) (fun v1 g2 => (if v1 ≤ y3 then some (y2, g2) else (zB (f_X10_lacks b1 y3 g2) (fun v5 g6 => kk (y2 + v5) (y3 + 1) g6)))))
def f_X10_lackedByAll_4 (b1 : Nat) : Nat → Int32 → Int32 → zSg → Option (Int32 × zSg)
  | 0, _, _, _ => none
  | n + 1, y2, y3, g => fb_X10_lackedByAll_4 b1 (f_X10_lackedByAll_4 b1 n) y2 y3 g
set_option maxRecDepth 100000 in
set_option maxHeartbeats 4000000 in
theorem p_X10_lackedByAll_4 {sc : zSc} {hp : zHp} {d : Nat} (hD : 3 ≤ d) (b1 : Nat) (hb1 : (zK0 b1).1 = 8) : ∀ (n : Nat) (y2 : Int32) (y3 : Int32) (g : zSg) (r : Int32 × zSg), f_X10_lackedByAll_4 b1 n y2 y3 g = some r → zG d sc hp (zcd zM_X10_lackedByAll) 4 [some (.ref 423), some (.ref b1), some (.int y2), some (.int y3)] [] (gm g) ((some (.int r.1)), gm r.2) := by
  obtain ⟨d, rfl⟩ : ∃ d', d = d' + 1 := ⟨d - 1, by omega⟩
  intro n
  induction n with
  | zero => intro y2 y3 g r h; cases h
  | succ n ih =>
    intro y2 y3 g r h
    replace h : fb_X10_lackedByAll_4 b1 (f_X10_lackedByAll_4 b1 n) y2 y3 g = some r := h
    unfold fb_X10_lackedByAll_4 at h
    refine g_run 3 (pc' := 9) (L' := [some (.ref 423), some (.ref b1), some (.int y2), some (.int y3)]) (S' := [.ref 3, .int y3]) (M' := gm g) rfl ?_
    replace h := zB_of h
    obtain ⟨v1, g2, e3, h⟩ := h
    refine g_inv2 (kd := 1) (p_X0_secrets 3 rfl e3) rfl rfl rfl (by decide) rfl rfl rfl rfl (by omega) (pc' := 12) rfl (S' := [.int v1, .int y3]) rfl ?_
    refine g_icmp (v1 ≤ y3) rfl (t := 30) rfl rfl (fun c4 => ?_) (fun c4 => ?_)
    · replace h := (if_pos c4).symm.trans h
      refine g_run 1 (pc' := 31) (L' := [some (.ref 423), some (.ref b1), some (.int y2), some (.int y3)]) (S' := [.int y2]) (M' := gm g2) rfl ?_
      cases h
      exact g_ret rfl rfl rfl rfl
    · replace h := (if_neg c4).symm.trans h
      refine g_run 4 (pc' := 19) (L' := [some (.ref 423), some (.ref b1), some (.int y2), some (.int y3)]) (S' := [.int y3, .ref b1, .ref 423, .int y2]) (M' := gm g2) rfl ?_
      replace h := zB_of h
      obtain ⟨v5, g6, e7, h⟩ := h
      refine g_inv2 (kd := 1) (p_X10_lacks b1 hb1 e7) rfl rfl rfl (by decide) rfl rfl rfl rfl (by omega) (pc' := 22) rfl (S' := [.int v5, .int y2]) rfl ?_
      refine g_run 4 (pc' := 4) (L' := [some (.ref 423), some (.ref b1), some (.int ((y2 + v5))), some (.int ((y3 + 1)))]) (S' := []) (M' := gm g6) rfl ?_
      exact ih (y2 + v5) (y3 + 1) g6 _ h
def f_X10_lackedByAll (b1 : Nat) (g : zSg) : Option (Int32 × zSg) := f_X10_lackedByAll_4 b1 zFu (0) (0) g
set_option maxRecDepth 100000 in
set_option maxHeartbeats 4000000 in
theorem p_X10_lackedByAll {sc : zSc} {hp : zHp} (b1 : Nat) (hb1 : (zK0 b1).1 = 8) {g : zSg} {r : Int32 × zSg} (h : f_X10_lackedByAll b1 g = some r) : zRn sc hp 3 zM_X10_lackedByAll [.ref 423, .ref b1] (gm g) (some (.int r.1)) (gm r.2) := by
  intro d hD
  obtain ⟨d, rfl⟩ : ∃ d', d = d' + 1 := ⟨d - 1, by omega⟩
  show zG _ sc hp (zcd zM_X10_lackedByAll) 0 [some (.ref 423), some (.ref b1), none, none] [] (gm g) _
  unfold f_X10_lackedByAll at h
  refine g_run 4 (pc' := 4) (L' := [some (.ref 423), some (.ref b1), some (.int 0), some (.int 0)]) (S' := []) (M' := gm g) rfl ?_
  exact p_X10_lackedByAll_4 hD b1 hb1 zFu (0) (0) g _ h
def f_X11_feed (x1 : Int32) (x2 : Int32) (x3 : Int32) (x4 : Int32) (x5 : Int32) (g : zSg) : Option (Int32 × zSg) := (zB (f_X9_bytesIn x1 g) (fun v1 g2 => (zB (f_X9_bytesIn x2 g2) (fun v4 g5 => (zB (f_X9_bytesIn x3 g5) (fun v7 g8 => (zB (f_X9_bytesIn x4 g8) (fun v10 g11 => (zB (f_X9_bytesIn x5 g11) (fun v13 g14 => (zB (f_X9_length g14) (fun v16 g17 => (if (v16 + ((((v1 + v4) + v7) + v10) + v13)) ≤ 240 then (zB (f_X9_addBytesOf x1 g17) (fun v20 g21 => (zB (f_X9_addBytesOf x2 g21) (fun v23 g24 => (zB (f_X9_addBytesOf x3 g24) (fun v26 g27 => (zB (f_X9_addBytesOf x4 g27) (fun v29 g30 => (zB (f_X9_addBytesOf x5 g30) (fun v32 g33 => (zB (f_X9_length g33) (fun v35 g36 => some (v35, g36))))))))))))) else some ((-1), g17))))))))))))))
set_option maxRecDepth 100000 in
set_option maxHeartbeats 4000000 in
theorem p_X11_feed {sc : zSc} {hp : zHp} {x1 : Int32} {x2 : Int32} {x3 : Int32} {x4 : Int32} {x5 : Int32} {g : zSg} {r : Int32 × zSg} (h : f_X11_feed x1 x2 x3 x4 x5 g = some r) : zRn sc hp 1 zM_X11_feed [.ref 0, .int x1, .int x2, .int x3, .int x4, .int x5] (gm g) (some (.int r.1)) (gm r.2) := by
  intro d hD
  obtain ⟨d, rfl⟩ : ∃ d', d = d' + 1 := ⟨d - 1, by omega⟩
  show zG _ sc hp (zcd zM_X11_feed) 0 [some (.ref 0), some (.int x1), some (.int x2), some (.int x3), some (.int x4), some (.int x5), none] [] (gm g) _
  unfold f_X11_feed at h
  refine g_run 1 (pc' := 1) (L' := [some (.ref 0), some (.int x1), some (.int x2), some (.int x3), some (.int x4), some (.int x5), none]) (S' := [.int x1]) (M' := gm g) rfl ?_
  replace h := zB_of h
  obtain ⟨v1, g2, e3, h⟩ := h
  refine g_inv2 (kd := 0) (p_X9_bytesIn  e3) rfl rfl rfl (by decide) rfl rfl rfl rfl (by omega) (pc' := 4) rfl (S' := [.int v1]) rfl ?_
  refine g_run 1 (pc' := 5) (L' := [some (.ref 0), some (.int x1), some (.int x2), some (.int x3), some (.int x4), some (.int x5), none]) (S' := [.int x2, .int v1]) (M' := gm g2) rfl ?_
  replace h := zB_of h
  obtain ⟨v4, g5, e6, h⟩ := h
  refine g_inv2 (kd := 0) (p_X9_bytesIn  e6) rfl rfl rfl (by decide) rfl rfl rfl rfl (by omega) (pc' := 8) rfl (S' := [.int v4, .int v1]) rfl ?_
  refine g_run 2 (pc' := 10) (L' := [some (.ref 0), some (.int x1), some (.int x2), some (.int x3), some (.int x4), some (.int x5), none]) (S' := [.int x3, .int ((v1 + v4))]) (M' := gm g5) rfl ?_
  replace h := zB_of h
  obtain ⟨v7, g8, e9, h⟩ := h
  refine g_inv2 (kd := 0) (p_X9_bytesIn  e9) rfl rfl rfl (by decide) rfl rfl rfl rfl (by omega) (pc' := 13) rfl (S' := [.int v7, .int ((v1 + v4))]) rfl ?_
  refine g_run 2 (pc' := 16) (L' := [some (.ref 0), some (.int x1), some (.int x2), some (.int x3), some (.int x4), some (.int x5), none]) (S' := [.int x4, .int (((v1 + v4) + v7))]) (M' := gm g8) rfl ?_
  replace h := zB_of h
  obtain ⟨v10, g11, e12, h⟩ := h
  refine g_inv2 (kd := 0) (p_X9_bytesIn  e12) rfl rfl rfl (by decide) rfl rfl rfl rfl (by omega) (pc' := 19) rfl (S' := [.int v10, .int (((v1 + v4) + v7))]) rfl ?_
  refine g_run 2 (pc' := 22) (L' := [some (.ref 0), some (.int x1), some (.int x2), some (.int x3), some (.int x4), some (.int x5), none]) (S' := [.int x5, .int ((((v1 + v4) + v7) + v10))]) (M' := gm g11) rfl ?_
  replace h := zB_of h
  obtain ⟨v13, g14, e15, h⟩ := h
  refine g_inv2 (kd := 0) (p_X9_bytesIn  e15) rfl rfl rfl (by decide) rfl rfl rfl rfl (by omega) (pc' := 25) rfl (S' := [.int v13, .int ((((v1 + v4) + v7) + v10))]) rfl ?_
  refine g_run 4 (pc' := 32) (L' := [some (.ref 0), some (.int x1), some (.int x2), some (.int x3), some (.int x4), some (.int x5), some (.int (((((v1 + v4) + v7) + v10) + v13)))]) (S' := [.ref 1]) (M' := gm g14) rfl ?_
  replace h := zB_of h
  obtain ⟨v16, g17, e18, h⟩ := h
  refine g_inv2 (kd := 1) (p_X9_length  e18) rfl rfl rfl (by decide) rfl rfl rfl rfl (by omega) (pc' := 35) rfl (S' := [.int v16]) rfl ?_
  refine g_run 3 (pc' := 41) (L' := [some (.ref 0), some (.int x1), some (.int x2), some (.int x3), some (.int x4), some (.int x5), some (.int (((((v1 + v4) + v7) + v10) + v13)))]) (S' := [.int 240, .int ((v16 + ((((v1 + v4) + v7) + v10) + v13)))]) (M' := gm g17) rfl ?_
  refine g_icmp ((v16 + ((((v1 + v4) + v7) + v10) + v13)) ≤ 240) rfl (t := 46) rfl rfl (fun c19 => ?_) (fun c19 => ?_)
  · replace h := (if_pos c19).symm.trans h
    refine g_run 3 (pc' := 51) (L' := [some (.ref 0), some (.int x1), some (.int x2), some (.int x3), some (.int x4), some (.int x5), some (.int (((((v1 + v4) + v7) + v10) + v13)))]) (S' := [.int x1, .ref 1]) (M' := gm g17) rfl ?_
    replace h := zB_of h
    obtain ⟨v20, g21, e22, h⟩ := h
    refine g_inv2 (kd := 1) (p_X9_addBytesOf  e22) rfl rfl rfl (by decide) rfl rfl rfl rfl (by omega) (pc' := 54) rfl (S' := []) rfl ?_
    refine g_run 3 (pc' := 59) (L' := [some (.ref 0), some (.int x1), some (.int x2), some (.int x3), some (.int x4), some (.int x5), some (.int (((((v1 + v4) + v7) + v10) + v13)))]) (S' := [.int x2, .ref 1]) (M' := gm g21) rfl ?_
    replace h := zB_of h
    obtain ⟨v23, g24, e25, h⟩ := h
    refine g_inv2 (kd := 1) (p_X9_addBytesOf  e25) rfl rfl rfl (by decide) rfl rfl rfl rfl (by omega) (pc' := 62) rfl (S' := []) rfl ?_
    refine g_run 3 (pc' := 67) (L' := [some (.ref 0), some (.int x1), some (.int x2), some (.int x3), some (.int x4), some (.int x5), some (.int (((((v1 + v4) + v7) + v10) + v13)))]) (S' := [.int x3, .ref 1]) (M' := gm g24) rfl ?_
    replace h := zB_of h
    obtain ⟨v26, g27, e28, h⟩ := h
    refine g_inv2 (kd := 1) (p_X9_addBytesOf  e28) rfl rfl rfl (by decide) rfl rfl rfl rfl (by omega) (pc' := 70) rfl (S' := []) rfl ?_
    refine g_run 3 (pc' := 76) (L' := [some (.ref 0), some (.int x1), some (.int x2), some (.int x3), some (.int x4), some (.int x5), some (.int (((((v1 + v4) + v7) + v10) + v13)))]) (S' := [.int x4, .ref 1]) (M' := gm g27) rfl ?_
    replace h := zB_of h
    obtain ⟨v29, g30, e31, h⟩ := h
    refine g_inv2 (kd := 1) (p_X9_addBytesOf  e31) rfl rfl rfl (by decide) rfl rfl rfl rfl (by omega) (pc' := 79) rfl (S' := []) rfl ?_
    refine g_run 3 (pc' := 85) (L' := [some (.ref 0), some (.int x1), some (.int x2), some (.int x3), some (.int x4), some (.int x5), some (.int (((((v1 + v4) + v7) + v10) + v13)))]) (S' := [.int x5, .ref 1]) (M' := gm g30) rfl ?_
    replace h := zB_of h
    obtain ⟨v32, g33, e34, h⟩ := h
    refine g_inv2 (kd := 1) (p_X9_addBytesOf  e34) rfl rfl rfl (by decide) rfl rfl rfl rfl (by omega) (pc' := 88) rfl (S' := []) rfl ?_
    refine g_run 2 (pc' := 92) (L' := [some (.ref 0), some (.int x1), some (.int x2), some (.int x3), some (.int x4), some (.int x5), some (.int (((((v1 + v4) + v7) + v10) + v13)))]) (S' := [.ref 1]) (M' := gm g33) rfl ?_
    replace h := zB_of h
    obtain ⟨v35, g36, e37, h⟩ := h
    refine g_inv2 (kd := 1) (p_X9_length  e37) rfl rfl rfl (by decide) rfl rfl rfl rfl (by omega) (pc' := 95) rfl (S' := [.int v35]) rfl ?_
    cases h
    exact g_ret rfl rfl rfl rfl
  · replace h := (if_neg c19).symm.trans h
    refine g_run 1 (pc' := 45) (L' := [some (.ref 0), some (.int x1), some (.int x2), some (.int x3), some (.int x4), some (.int x5), some (.int (((((v1 + v4) + v7) + v10) + v13)))]) (S' := [.int (-1)]) (M' := gm g17) rfl ?_
    cases h
    exact g_ret rfl rfl rfl rfl
def f_X11_end (x1 : Int32) (g : zSg) : Option (Int32 × zSg) := (if x1 < 0 then some (0, g) else (zB (f_X9_length g) (fun v2 g3 => (if x1 ≤ v2 then (zB (f_X9_cutTo x1 g3) (fun v6 g7 => some (1, g7))) else some (0, g3)))))
set_option maxRecDepth 100000 in
set_option maxHeartbeats 4000000 in
theorem p_X11_end {sc : zSc} {hp : zHp} {x1 : Int32} {g : zSg} {r : Int32 × zSg} (h : f_X11_end x1 g = some r) : zRn sc hp 1 zM_X11_end [.ref 0, .int x1] (gm g) (some (.int r.1)) (gm r.2) := by
  intro d hD
  obtain ⟨d, rfl⟩ : ∃ d', d = d' + 1 := ⟨d - 1, by omega⟩
  show zG _ sc hp (zcd zM_X11_end) 0 [some (.ref 0), some (.int x1)] [] (gm g) _
  unfold f_X11_end at h
  refine g_run 1 (pc' := 1) (L' := [some (.ref 0), some (.int x1)]) (S' := [.int x1]) (M' := gm g) rfl ?_
  refine g_if (x1 < 0) rfl (t := 15) rfl rfl (fun c1 => ?_) (fun c1 => ?_)
  · replace h := (if_pos c1).symm.trans h
    refine g_run 1 (pc' := 16) (L' := [some (.ref 0), some (.int x1)]) (S' := [.int 0]) (M' := gm g) rfl ?_
    cases h
    exact g_ret rfl rfl rfl rfl
  · replace h := (if_neg c1).symm.trans h
    refine g_run 3 (pc' := 9) (L' := [some (.ref 0), some (.int x1)]) (S' := [.ref 1, .int x1]) (M' := gm g) rfl ?_
    replace h := zB_of h
    obtain ⟨v2, g3, e4, h⟩ := h
    refine g_inv2 (kd := 1) (p_X9_length  e4) rfl rfl rfl (by decide) rfl rfl rfl rfl (by omega) (pc' := 12) rfl (S' := [.int v2, .int x1]) rfl ?_
    refine g_icmp (x1 ≤ v2) rfl (t := 17) rfl rfl (fun c5 => ?_) (fun c5 => ?_)
    · replace h := (if_pos c5).symm.trans h
      refine g_run 3 (pc' := 22) (L' := [some (.ref 0), some (.int x1)]) (S' := [.int x1, .ref 1]) (M' := gm g3) rfl ?_
      replace h := zB_of h
      obtain ⟨v6, g7, e8, h⟩ := h
      refine g_inv2 (kd := 1) (p_X9_cutTo  e8) rfl rfl rfl (by decide) rfl rfl rfl rfl (by omega) (pc' := 25) rfl (S' := []) rfl ?_
      refine g_run 1 (pc' := 26) (L' := [some (.ref 0), some (.int x1)]) (S' := [.int 1]) (M' := gm g7) rfl ?_
      cases h
      exact g_ret rfl rfl rfl rfl
    · replace h := (if_neg c5).symm.trans h
      refine g_run 1 (pc' := 16) (L' := [some (.ref 0), some (.int x1)]) (S' := [.int 0]) (M' := gm g3) rfl ?_
      cases h
      exact g_ret rfl rfl rfl rfl
def f_X11_takeCoast (g : zSg) : Option (Int32 × zSg) := (zB (f_X9_cutTo 0 g) (fun v1 g2 => (zB (f_X1_draft g2) (fun v4 g5 => (zO v4 0 (fun a7 => (zB (f_X0_become 3 a7 g5) (fun v10 g11 => (zB (f_X10_begin 39 g11) (fun v13 g14 => (zB (f_X6_forget g14) (fun v16 g17 => (zB (f_X2_forget 39 g17) (fun v19 g20 => (zB (f_X0_cells 3 g20) (fun v22 g23 => some (v22, g23)))))))))))))))))
set_option maxRecDepth 100000 in
set_option maxHeartbeats 4000000 in
theorem p_X11_takeCoast {sc : zSc} {hp : zHp} {g : zSg} {r : Int32 × zSg} (h : f_X11_takeCoast g = some r) : zRn sc hp 4 zM_X11_takeCoast [.ref 0] (gm g) (some (.int r.1)) (gm r.2) := by
  intro d hD
  obtain ⟨d, rfl⟩ : ∃ d', d = d' + 1 := ⟨d - 1, by omega⟩
  show zG _ sc hp (zcd zM_X11_takeCoast) 0 [some (.ref 0)] [] (gm g) _
  unfold f_X11_takeCoast at h
  refine g_run 3 (pc' := 5) (L' := [some (.ref 0)]) (S' := [.int 0, .ref 1]) (M' := gm g) rfl ?_
  replace h := zB_of h
  obtain ⟨v1, g2, e3, h⟩ := h
  refine g_inv2 (kd := 1) (p_X9_cutTo  e3) rfl rfl rfl (by decide) rfl rfl rfl rfl (by omega) (pc' := 8) rfl (S' := []) rfl ?_
  refine g_run 4 (pc' := 16) (L' := [some (.ref 0)]) (S' := [.ref 6, .ref 3]) (M' := gm g2) rfl ?_
  replace h := zB_of h
  obtain ⟨v4, g5, e6, h⟩ := h
  refine g_inv2 (kd := 1) (p_X1_draft  e6) rfl rfl rfl (by decide) rfl rfl rfl rfl (by omega) (pc' := 19) rfl (S' := [zrv v4, .ref 3]) rfl ?_
  replace h := zO_of h
  obtain ⟨a7, q8, h9, h⟩ := h
  subst q8
  show zG _ _ _ _ 19 [some (.ref 0)] [.ref a7, .ref 3] (gm g5) _
  replace h := zB_of h
  obtain ⟨v10, g11, e12, h⟩ := h
  refine g_inv2 (kd := 1) (p_X0_become 3 a7 rfl h9 e12) rfl rfl rfl (by decide) rfl rfl rfl rfl (by omega) (pc' := 22) rfl (S' := []) rfl ?_
  refine g_run 4 (pc' := 30) (L' := [some (.ref 0)]) (S' := [.ref 39, .ref 423]) (M' := gm g11) rfl ?_
  replace h := zB_of h
  obtain ⟨v13, g14, e15, h⟩ := h
  refine g_inv2 (kd := 1) (p_X10_begin 39 rfl e15) rfl rfl rfl (by decide) rfl rfl rfl rfl (by omega) (pc' := 33) rfl (S' := []) rfl ?_
  refine g_run 2 (pc' := 37) (L' := [some (.ref 0)]) (S' := [.ref 48]) (M' := gm g14) rfl ?_
  replace h := zB_of h
  obtain ⟨v16, g17, e18, h⟩ := h
  refine g_inv2 (kd := 1) (p_X6_forget  e18) rfl rfl rfl (by decide) rfl rfl rfl rfl (by omega) (pc' := 40) rfl (S' := []) rfl ?_
  refine g_run 4 (pc' := 48) (L' := [some (.ref 0)]) (S' := [.ref 39, .ref 506]) (M' := gm g17) rfl ?_
  replace h := zB_of h
  obtain ⟨v19, g20, e21, h⟩ := h
  refine g_inv2 (kd := 1) (p_X2_forget 39 rfl e21) rfl rfl rfl (by decide) rfl rfl rfl rfl (by omega) (pc' := 51) rfl (S' := []) rfl ?_
  refine g_run 2 (pc' := 55) (L' := [some (.ref 0)]) (S' := [.ref 3]) (M' := gm g20) rfl ?_
  replace h := zB_of h
  obtain ⟨v22, g23, e24, h⟩ := h
  refine g_inv2 (kd := 1) (p_X0_cells 3 rfl e24) rfl rfl rfl (by decide) rfl rfl rfl rfl (by omega) (pc' := 58) rfl (S' := [.int v22]) rfl ?_
  cases h
  exact g_ret rfl rfl rfl rfl
def f_X11_lawAt_22 (g : zSg) : Option (Option Nat × zSg) := some (none, g)
set_option maxRecDepth 100000 in
set_option maxHeartbeats 4000000 in
theorem p_X11_lawAt_22 {sc : zSc} {hp : zHp} {d : Nat} (hD : 0 ≤ d) (g : zSg) (r : Option Nat × zSg) (h : f_X11_lawAt_22 g = some r) : zG d sc hp (zcd zM_X11_lawAt) 22 [none, none] [] (gm g) ((some (zrv r.1)), gm r.2) := by
  unfold f_X11_lawAt_22 at h
  refine g_run 1 (pc' := 23) (L' := [none, none]) (S' := [.null]) (M' := gm g) rfl ?_
  cases h
  exact g_reto (v := none) rfl rfl
def f_X11_lawAt (x1 : Int32) (g : zSg) : Option (Option Nat × zSg) := (if x1 < 0 then f_X11_lawAt_22 g else (if 4 ≤ x1 then f_X11_lawAt_22 g else (if zib x1 4 = true then some ((zR0 g.2.2.2 (16) (ix x1)), g) else none)))
set_option maxRecDepth 100000 in
set_option maxHeartbeats 4000000 in
theorem p_X11_lawAt {sc : zSc} {hp : zHp} {x1 : Int32} {g : zSg} {r : Option Nat × zSg} (h : f_X11_lawAt x1 g = some r) : zRn sc hp 0 zM_X11_lawAt [.ref 0, .int x1] (gm g) (some (zrv r.1)) (gm r.2) := by
  intro d hD
  show zG _ sc hp (zcd zM_X11_lawAt) 0 [some (.ref 0), some (.int x1)] [] (gm g) _
  unfold f_X11_lawAt at h
  refine g_run 1 (pc' := 1) (L' := [some (.ref 0), some (.int x1)]) (S' := [.int x1]) (M' := gm g) rfl ?_
  refine g_if (x1 < 0) rfl (t := 22) rfl rfl (fun c1 => ?_) (fun c1 => ?_)
  · replace h := (if_pos c1).symm.trans h
    refine g_forget (L' := [none, none]) True.intro ?_
    exact p_X11_lawAt_22 hD g _ h
  · replace h := (if_neg c1).symm.trans h
    refine g_run 4 (pc' := 10) (L' := [some (.ref 0), some (.int x1)]) (S' := [.int 4, .int x1]) (M' := gm g) rfl ?_
    refine g_icmp (4 ≤ x1) rfl (t := 22) rfl rfl (fun c2 => ?_) (fun c2 => ?_)
    · replace h := (if_pos c2).symm.trans h
      refine g_forget (L' := [none, none]) True.intro ?_
      exact p_X11_lawAt_22 hD g _ h
    · replace h := (if_neg c2).symm.trans h
      refine g_run 3 (pc' := 18) (L' := [some (.ref 0), some (.int x1)]) (S' := [.int x1, .ref 16]) (M' := gm g) rfl ?_
      by_cases c3 : zib x1 4 = true
      case neg => exact nomatch ((if_neg c3).symm.trans h)
      replace h := (if_pos c3).symm.trans h
      refine g_aald rfl (a := 16) (Or.inl rfl) c3 ?_
      refine g_run 1 (pc' := 23) (L' := [some (.ref 0), some (.int x1)]) (S' := [zrv ((zR0 g.2.2.2 (16) (ix x1)))]) (M' := gm g) rfl ?_
      cases h
      exact g_reto (v := (zR0 g.2.2.2 (16) (ix x1))) rfl rfl
def f_X11_takeLaw (g : zSg) : Option (Int32 × zSg) := (zB (f_X11_lawAt (gI g 0 11) g) (fun v1 g2 => (zNu v1 (some ((-1), g2)) (fun a4 => if (zK0 a4).1 = 4 then (zB (f_X9_cutTo 0 g2) (fun v7 g8 => (zB (f_X5_draft g8) (fun v10 g11 => (zO v10 4 (fun a13 => (zB (f_X4_become a4 a13 g11) (fun v16 g17 => some (((gI (gsI g17 0 11 ((gI g17 0 11) + 1)) 0 11) - 1), (gsI g17 0 11 ((gI g17 0 11) + 1))))))))))) else none))))
set_option maxRecDepth 100000 in
set_option maxHeartbeats 4000000 in
theorem p_X11_takeLaw {sc : zSc} {hp : zHp} {g : zSg} {r : Int32 × zSg} (h : f_X11_takeLaw g = some r) : zRn sc hp 3 zM_X11_takeLaw [.ref 0] (gm g) (some (.int r.1)) (gm r.2) := by
  intro d hD
  obtain ⟨d, rfl⟩ : ∃ d', d = d' + 1 := ⟨d - 1, by omega⟩
  show zG _ sc hp (zcd zM_X11_takeLaw) 0 [some (.ref 0), none] [] (gm g) _
  unfold f_X11_takeLaw at h
  refine g_run 3 (pc' := 5) (L' := [some (.ref 0), none]) (S' := [.int ((gI g 0 11)), .ref 0]) (M' := gm g) rfl ?_
  replace h := zB_of h
  obtain ⟨v1, g2, e3, h⟩ := h
  refine g_inv2 (kd := 1) (p_X11_lawAt  e3) rfl rfl rfl (by decide) rfl rfl rfl rfl (by omega) (pc' := 8) rfl (S' := [zrv v1]) rfl ?_
  refine g_astoren (v := v1) rfl (Nat.le_of_ble_eq_true rfl) (L' := [some (.ref 0), some (zrv v1)]) rfl ?_
  refine g_aloadn (v := v1) rfl rfl ?_
  rcases v1 with _ | a4
  · replace h := zNu_n h
    show zG _ _ _ _ 10 [some (.ref 0), some (.null)] [.null] (gm g2) _
    refine g_run 1 (pc' := 13) (L' := [some (.ref 0), some (.null)]) (S' := []) (M' := gm g2) rfl ?_
    refine g_run 1 (pc' := 14) (L' := [some (.ref 0), some (.null)]) (S' := [.int (-1)]) (M' := gm g2) rfl ?_
    cases h
    exact g_ret rfl rfl rfl rfl
  · replace h := zNu_s h
    by_cases h6 : (zK0 a4).1 = 4
    case neg => exact nomatch ((if_neg h6).symm.trans h)
    replace h := (if_pos h6).symm.trans h
    show zG _ _ _ _ 10 [some (.ref 0), some (.ref a4)] [.ref a4] (gm g2) _
    refine g_run 1 (pc' := 15) (L' := [some (.ref 0), some (.ref a4)]) (S' := []) (M' := gm g2) rfl ?_
    refine g_run 3 (pc' := 20) (L' := [some (.ref 0), some (.ref a4)]) (S' := [.int 0, .ref 1]) (M' := gm g2) rfl ?_
    replace h := zB_of h
    obtain ⟨v7, g8, e9, h⟩ := h
    refine g_inv2 (kd := 1) (p_X9_cutTo  e9) rfl rfl rfl (by decide) rfl rfl rfl rfl (by omega) (pc' := 23) rfl (S' := []) rfl ?_
    refine g_run 3 (pc' := 28) (L' := [some (.ref 0), some (.ref a4)]) (S' := [.ref 10, .ref a4]) (M' := gm g8) rfl ?_
    replace h := zB_of h
    obtain ⟨v10, g11, e12, h⟩ := h
    refine g_inv2 (kd := 1) (p_X5_draft  e12) rfl rfl rfl (by decide) rfl rfl rfl rfl (by omega) (pc' := 31) rfl (S' := [zrv v10, .ref a4]) rfl ?_
    replace h := zO_of h
    obtain ⟨a13, q14, h15, h⟩ := h
    subst q14
    show zG _ _ _ _ 31 [some (.ref 0), some (.ref a4)] [.ref a13, .ref a4] (gm g11) _
    replace h := zB_of h
    obtain ⟨v16, g17, e18, h⟩ := h
    refine g_inv2 (kd := 1) (p_X4_become a4 a13 h6 h15 e18) rfl rfl rfl (by decide) rfl (g_recv (a := a4) rfl (Nat.le_of_ble_eq_true rfl) (Nat.le_of_ble_eq_true rfl) (Nat.le_of_ble_eq_true rfl) (Nat.le_of_ble_eq_true rfl) rfl h6 (Nat.le_of_ble_eq_true rfl)) rfl rfl (by omega) (pc' := 34) rfl (S' := []) rfl ?_
    refine g_run 10 (pc' := 50) (L' := [some (.ref 0), some (.ref a4)]) (S' := [.int (((gI (gsI g17 0 11 ((gI g17 0 11) + 1)) 0 11) - 1))]) (M' := gm (gsI g17 0 11 ((gI g17 0 11) + 1))) rfl ?_
    cases h
    exact g_ret rfl rfl rfl rfl
def f_X11_law_29 (y1 : Int32) (y2 : Option Nat) (g : zSg) : Option (Int32 × zSg) := (zNu y2 (zB (f_X10_obey none (gsI g 0 12 y1)) (fun v4 g5 => some (1, g5))) (fun a1 => if (zK0 a1).1 = 4 then (zB (f_X10_obey (some (a1)) (gsI g 0 12 y1)) (fun v7 g8 => some (1, g8))) else none))
set_option maxRecDepth 100000 in
set_option maxHeartbeats 4000000 in
theorem p_X11_law_29 {sc : zSc} {hp : zHp} {d : Nat} (hD : 1 ≤ d) (y1 : Int32) (y2 : Option Nat) (g : zSg) (r : Int32 × zSg) (h : f_X11_law_29 y1 y2 g = some r) : zG d sc hp (zcd zM_X11_law) 29 [some (.ref 0), some (.int y1), some (zrv y2)] [] (gm g) ((some (.int r.1)), gm r.2) := by
  obtain ⟨d, rfl⟩ : ∃ d', d = d' + 1 := ⟨d - 1, by omega⟩
  unfold f_X11_law_29 at h
  refine g_run 5 (pc' := 38) (L' := [some (.ref 0), some (.int y1), some (zrv y2)]) (S' := [.ref 423]) (M' := gm (gsI g 0 12 y1)) rfl ?_
  refine g_aloadn (v := y2) rfl rfl ?_
  rcases y2 with _ | a1
  · replace h := zNu_n h
    show zG _ _ _ _ 39 [some (.ref 0), some (.int y1), some (.null)] [.null, .ref 423] (gm (gsI g 0 12 y1)) _
    replace h := zB_of h
    obtain ⟨v4, g5, e6, h⟩ := h
    refine g_inv2 (kd := 1) (p_X10_obey  e6) rfl rfl rfl (by decide) rfl rfl rfl rfl (by omega) (pc' := 42) rfl (S' := []) rfl ?_
    refine g_run 1 (pc' := 43) (L' := [some (.ref 0), some (.int y1), some (.null)]) (S' := [.int 1]) (M' := gm g5) rfl ?_
    cases h
    exact g_ret rfl rfl rfl rfl
  · replace h := zNu_s h
    by_cases h3 : (zK0 a1).1 = 4
    case neg => exact nomatch ((if_neg h3).symm.trans h)
    replace h := (if_pos h3).symm.trans h
    show zG _ _ _ _ 39 [some (.ref 0), some (.int y1), some (.ref a1)] [.ref a1, .ref 423] (gm (gsI g 0 12 y1)) _
    replace h := zB_of h
    obtain ⟨v7, g8, e9, h⟩ := h
    refine g_inv2 (kd := 1) (p_X10_obey  e9) rfl rfl rfl (by decide) rfl rfl rfl rfl (by omega) (pc' := 42) rfl (S' := []) rfl ?_
    refine g_run 1 (pc' := 43) (L' := [some (.ref 0), some (.int y1), some (.ref a1)]) (S' := [.int 1]) (M' := gm g8) rfl ?_
    cases h
    exact g_ret rfl rfl rfl rfl
def f_X11_law_17 (y1 : Int32) (s0 : Option Nat) (g : zSg) : Option (Int32 × zSg) := (zNu s0 (if y1 = (-1) then f_X11_law_29 (y1) none g else some (0, g)) (fun a1 => if (zK0 a1).1 = 4 then f_X11_law_29 (y1) (some (a1)) g else none))
set_option maxRecDepth 100000 in
set_option maxHeartbeats 4000000 in
theorem p_X11_law_17 {sc : zSc} {hp : zHp} {d : Nat} (hD : 1 ≤ d) (y1 : Int32) (s0 : Option Nat) (g : zSg) (r : Int32 × zSg) (h : f_X11_law_17 y1 s0 g = some r) : zG d sc hp (zcd zM_X11_law) 17 [some (.ref 0), some (.int y1), none] [zrv s0] (gm g) ((some (.int r.1)), gm r.2) := by
  obtain ⟨d, rfl⟩ : ∃ d', d = d' + 1 := ⟨d - 1, by omega⟩
  unfold f_X11_law_17 at h
  refine g_astoren (v := s0) rfl (Nat.le_of_ble_eq_true rfl) (L' := [some (.ref 0), some (.int y1), some (zrv s0)]) rfl ?_
  refine g_aloadn (v := s0) rfl rfl ?_
  rcases s0 with _ | a1
  · replace h := zNu_n h
    show zG _ _ _ _ 19 [some (.ref 0), some (.int y1), some (.null)] [.null] (gm g) _
    refine g_run 1 (pc' := 22) (L' := [some (.ref 0), some (.int y1), some (.null)]) (S' := []) (M' := gm g) rfl ?_
    refine g_run 2 (pc' := 24) (L' := [some (.ref 0), some (.int y1), some (.null)]) (S' := [.int (-1), .int y1]) (M' := gm g) rfl ?_
    refine g_icmp (y1 = (-1)) rfl (t := 29) rfl rfl (fun c4 => ?_) (fun c4 => ?_)
    · replace h := (if_pos c4).symm.trans h
      exact p_X11_law_29 hD (y1) none g _ h
    · replace h := (if_neg c4).symm.trans h
      refine g_run 1 (pc' := 28) (L' := [some (.ref 0), some (.int y1), some (.null)]) (S' := [.int 0]) (M' := gm g) rfl ?_
      cases h
      exact g_ret rfl rfl rfl rfl
  · replace h := zNu_s h
    by_cases h3 : (zK0 a1).1 = 4
    case neg => exact nomatch ((if_neg h3).symm.trans h)
    replace h := (if_pos h3).symm.trans h
    show zG _ _ _ _ 19 [some (.ref 0), some (.int y1), some (.ref a1)] [.ref a1] (gm g) _
    refine g_run 1 (pc' := 29) (L' := [some (.ref 0), some (.int y1), some (.ref a1)]) (S' := []) (M' := gm g) rfl ?_
    exact p_X11_law_29 hD (y1) (some (a1)) g _ h
def f_X11_law (x1 : Int32) (g : zSg) : Option (Int32 × zSg) := (if (gI g 0 11) ≤ x1 then f_X11_law_17 (x1) none g else (zB (f_X11_lawAt x1 g) (fun v2 g3 => f_X11_law_17 (x1) v2 g3)))
set_option maxRecDepth 100000 in
set_option maxHeartbeats 4000000 in
theorem p_X11_law {sc : zSc} {hp : zHp} {x1 : Int32} {g : zSg} {r : Int32 × zSg} (h : f_X11_law x1 g = some r) : zRn sc hp 1 zM_X11_law [.ref 0, .int x1] (gm g) (some (.int r.1)) (gm r.2) := by
  intro d hD
  obtain ⟨d, rfl⟩ : ∃ d', d = d' + 1 := ⟨d - 1, by omega⟩
  show zG _ sc hp (zcd zM_X11_law) 0 [some (.ref 0), some (.int x1), none] [] (gm g) _
  unfold f_X11_law at h
  refine g_run 3 (pc' := 5) (L' := [some (.ref 0), some (.int x1), none]) (S' := [.int ((gI g 0 11)), .int x1]) (M' := gm g) rfl ?_
  refine g_icmp ((gI g 0 11) ≤ x1) rfl (t := 16) rfl rfl (fun c1 => ?_) (fun c1 => ?_)
  · replace h := (if_pos c1).symm.trans h
    refine g_run 1 (pc' := 17) (L' := [some (.ref 0), some (.int x1), none]) (S' := [.null]) (M' := gm g) rfl ?_
    exact p_X11_law_17 hD (x1) none g _ h
  · replace h := (if_neg c1).symm.trans h
    refine g_run 2 (pc' := 10) (L' := [some (.ref 0), some (.int x1), none]) (S' := [.int x1, .ref 0]) (M' := gm g) rfl ?_
    replace h := zB_of h
    obtain ⟨v2, g3, e4, h⟩ := h
    refine g_inv2 (kd := 1) (p_X11_lawAt  e4) rfl rfl rfl (by decide) rfl rfl rfl rfl (by omega) (pc' := 13) rfl (S' := [zrv v2]) rfl ?_
    refine g_run 1 (pc' := 17) (L' := [some (.ref 0), some (.int x1), none]) (S' := [zrv v2]) (M' := gm g3) rfl ?_
    exact p_X11_law_17 hD (x1) v2 g3 _ h
def f_X11_rule (x1 : Int32) (g : zSg) : Option (Int32 × zSg) := (zB (f_X0_isTold 3 g) (fun v1 g2 => (if ¬ v1 = 0 then (if x1 = 0 then (zB (f_X0_wide 3 g2) (fun v6 g7 => some (v6, g7))) else (if x1 = 1 then (zB (f_X0_rows 3 g2) (fun v10 g11 => some (v10, g11))) else (if x1 = 2 then some ((gI g2 39 7), g2) else (if x1 = 3 then some ((gI g2 39 8), g2) else some ((-1), g2))))) else some ((-1), g2))))
set_option maxRecDepth 100000 in
set_option maxHeartbeats 4000000 in
theorem p_X11_rule {sc : zSc} {hp : zHp} {x1 : Int32} {g : zSg} {r : Int32 × zSg} (h : f_X11_rule x1 g = some r) : zRn sc hp 2 zM_X11_rule [.ref 0, .int x1] (gm g) (some (.int r.1)) (gm r.2) := by
  intro d hD
  obtain ⟨d, rfl⟩ : ∃ d', d = d' + 1 := ⟨d - 1, by omega⟩
  show zG _ sc hp (zcd zM_X11_rule) 0 [some (.ref 0), some (.int x1)] [] (gm g) _
  unfold f_X11_rule at h
  refine g_run 2 (pc' := 4) (L' := [some (.ref 0), some (.int x1)]) (S' := [.ref 3]) (M' := gm g) rfl ?_
  replace h := zB_of h
  obtain ⟨v1, g2, e3, h⟩ := h
  refine g_inv2 (kd := 1) (p_X0_isTold 3 rfl e3) rfl rfl rfl (by decide) rfl rfl rfl rfl (by omega) (pc' := 7) rfl (S' := [.int v1]) rfl ?_
  refine g_if (¬ v1 = 0) rfl (t := 12) rfl rfl (fun c4 => ?_) (fun c4 => ?_)
  · replace h := (if_pos c4).symm.trans h
    refine g_run 1 (pc' := 13) (L' := [some (.ref 0), some (.int x1)]) (S' := [.int x1]) (M' := gm g2) rfl ?_
    by_cases c5 : x1 = 0
    · replace h := (if_pos c5).symm.trans h
      refine g_swc c5 rfl rfl rfl (pc' := 44) rfl ?_
      refine g_run 2 (pc' := 48) (L' := [some (.ref 0), some (.int x1)]) (S' := [.ref 3]) (M' := gm g2) rfl ?_
      replace h := zB_of h
      obtain ⟨v6, g7, e8, h⟩ := h
      refine g_inv2 (kd := 1) (p_X0_wide 3 rfl e8) rfl rfl rfl (by decide) rfl rfl rfl rfl (by omega) (pc' := 51) rfl (S' := [.int v6]) rfl ?_
      cases h
      exact g_ret rfl rfl rfl rfl
    replace h := (if_neg c5).symm.trans h
    by_cases c9 : x1 = 1
    · replace h := (if_pos c9).symm.trans h
      refine g_swc c9 rfl rfl rfl (pc' := 52) rfl ?_
      refine g_run 2 (pc' := 56) (L' := [some (.ref 0), some (.int x1)]) (S' := [.ref 3]) (M' := gm g2) rfl ?_
      replace h := zB_of h
      obtain ⟨v10, g11, e12, h⟩ := h
      refine g_inv2 (kd := 1) (p_X0_rows 3 rfl e12) rfl rfl rfl (by decide) rfl rfl rfl rfl (by omega) (pc' := 59) rfl (S' := [.int v10]) rfl ?_
      cases h
      exact g_ret rfl rfl rfl rfl
    replace h := (if_neg c9).symm.trans h
    by_cases c13 : x1 = 2
    · replace h := (if_pos c13).symm.trans h
      refine g_swc c13 rfl rfl rfl (pc' := 60) rfl ?_
      refine g_run 3 (pc' := 67) (L' := [some (.ref 0), some (.int x1)]) (S' := [.int ((gI g2 39 7))]) (M' := gm g2) rfl ?_
      cases h
      exact g_ret rfl rfl rfl rfl
    replace h := (if_neg c13).symm.trans h
    by_cases c14 : x1 = 3
    · replace h := (if_pos c14).symm.trans h
      refine g_swc c14 rfl rfl rfl (pc' := 68) rfl ?_
      refine g_run 3 (pc' := 75) (L' := [some (.ref 0), some (.int x1)]) (S' := [.int ((gI g2 39 8))]) (M' := gm g2) rfl ?_
      cases h
      exact g_ret rfl rfl rfl rfl
    replace h := (if_neg c14).symm.trans h
    have hsw : (x1).toInt < 0 ∨ 3 < (x1).toInt := by
      have nc5 := lv_neT c5 (a := 0) rfl
      have nc9 := lv_neT c9 (a := 1) rfl
      have nc13 := lv_neT c13 (a := 2) rfl
      have nc14 := lv_neT c14 (a := 3) rfl
      omega
    refine g_tsd rfl hsw (t := 76) rfl ?_
    refine g_run 1 (pc' := 77) (L' := [some (.ref 0), some (.int x1)]) (S' := [.int (-1)]) (M' := gm g2) rfl ?_
    cases h
    exact g_ret rfl rfl rfl rfl
  · replace h := (if_neg c4).symm.trans h
    refine g_run 1 (pc' := 11) (L' := [some (.ref 0), some (.int x1)]) (S' := [.int (-1)]) (M' := gm g2) rfl ?_
    cases h
    exact g_ret rfl rfl rfl rfl
def f_X11_person_20 (g : zSg) : Option (Int32 × zSg) := none
set_option maxRecDepth 100000 in
set_option maxHeartbeats 4000000 in
theorem p_X11_person_20 {sc : zSc} {hp : zHp} {d : Nat} (hD : 3 ≤ d) (g : zSg) (r : Int32 × zSg) (h : f_X11_person_20 g = some r) : zG d sc hp (zcd zM_X11_person) 20 [none, none, none] [] (gm g) ((some (.int r.1)), gm r.2) := by
  obtain ⟨d, rfl⟩ : ∃ d', d = d' + 1 := ⟨d - 1, by omega⟩
  unfold f_X11_person_20 at h
  cases h
def f_X11_person (x1 : Int32) (x2 : Int32) (g : zSg) : Option (Int32 × zSg) := (zB (f_X0_hasPerson 3 x1 g) (fun v1 g2 => (if v1 = 0 then f_X11_person_20 g2 else (if x2 < 0 then f_X11_person_20 g2 else (if x2 ≤ 2 then (if x2 = 0 then (zB (f_X7_get 40 x1 g2) (fun v8 g9 => some (v8, g9))) else (if x2 = 1 then (zB (f_X0_nose 3 x1 g2) (fun v12 g13 => some (v12, g13))) else (zB (f_X8_knownBy 39 x1 g2) (fun v15 g16 => some (v15, g16))))) else f_X11_person_20 g2)))))
set_option maxRecDepth 100000 in
set_option maxHeartbeats 4000000 in
theorem p_X11_person {sc : zSc} {hp : zHp} {x1 : Int32} {x2 : Int32} {g : zSg} {r : Int32 × zSg} (h : f_X11_person x1 x2 g = some r) : zRn sc hp 3 zM_X11_person [.ref 0, .int x1, .int x2] (gm g) (some (.int r.1)) (gm r.2) := by
  intro d hD
  obtain ⟨d, rfl⟩ : ∃ d', d = d' + 1 := ⟨d - 1, by omega⟩
  show zG _ sc hp (zcd zM_X11_person) 0 [some (.ref 0), some (.int x1), some (.int x2)] [] (gm g) _
  unfold f_X11_person at h
  refine g_run 3 (pc' := 5) (L' := [some (.ref 0), some (.int x1), some (.int x2)]) (S' := [.int x1, .ref 3]) (M' := gm g) rfl ?_
  replace h := zB_of h
  obtain ⟨v1, g2, e3, h⟩ := h
  refine g_inv2 (kd := 1) (p_X0_hasPerson 3 rfl e3) rfl rfl rfl (by decide) rfl rfl rfl rfl (by omega) (pc' := 8) rfl (S' := [.int v1]) rfl ?_
  refine g_if (v1 = 0) rfl (t := 20) rfl rfl (fun c4 => ?_) (fun c4 => ?_)
  · replace h := (if_pos c4).symm.trans h
    refine g_forget (L' := [none, none, none]) True.intro ?_
    exact p_X11_person_20 hD g2 _ h
  · replace h := (if_neg c4).symm.trans h
    refine g_run 1 (pc' := 12) (L' := [some (.ref 0), some (.int x1), some (.int x2)]) (S' := [.int x2]) (M' := gm g2) rfl ?_
    refine g_if (x2 < 0) rfl (t := 20) rfl rfl (fun c5 => ?_) (fun c5 => ?_)
    · replace h := (if_pos c5).symm.trans h
      refine g_forget (L' := [none, none, none]) True.intro ?_
      exact p_X11_person_20 hD g2 _ h
    · replace h := (if_neg c5).symm.trans h
      refine g_run 2 (pc' := 17) (L' := [some (.ref 0), some (.int x1), some (.int x2)]) (S' := [.int 2, .int x2]) (M' := gm g2) rfl ?_
      refine g_icmp (x2 ≤ 2) rfl (t := 28) rfl rfl (fun c6 => ?_) (fun c6 => ?_)
      · replace h := (if_pos c6).symm.trans h
        refine g_run 1 (pc' := 29) (L' := [some (.ref 0), some (.int x1), some (.int x2)]) (S' := [.int x2]) (M' := gm g2) rfl ?_
        by_cases c7 : x2 = 0
        · replace h := (if_pos c7).symm.trans h
          refine g_swc c7 rfl rfl rfl (pc' := 56) rfl ?_
          refine g_run 4 (pc' := 64) (L' := [some (.ref 0), some (.int x1), some (.int x2)]) (S' := [.int x1, .ref 40]) (M' := gm g2) rfl ?_
          replace h := zB_of h
          obtain ⟨v8, g9, e10, h⟩ := h
          refine g_inv2 (kd := 1) (p_X7_get 40 rfl e10) rfl rfl rfl (by decide) rfl rfl rfl rfl (by omega) (pc' := 67) rfl (S' := [.int v8]) rfl ?_
          cases h
          exact g_ret rfl rfl rfl rfl
        replace h := (if_neg c7).symm.trans h
        by_cases c11 : x2 = 1
        · replace h := (if_pos c11).symm.trans h
          refine g_swc c11 rfl rfl rfl (pc' := 68) rfl ?_
          refine g_run 3 (pc' := 73) (L' := [some (.ref 0), some (.int x1), some (.int x2)]) (S' := [.int x1, .ref 3]) (M' := gm g2) rfl ?_
          replace h := zB_of h
          obtain ⟨v12, g13, e14, h⟩ := h
          refine g_inv2 (kd := 1) (p_X0_nose 3 rfl e14) rfl rfl rfl (by decide) rfl rfl rfl rfl (by omega) (pc' := 76) rfl (S' := [.int v12]) rfl ?_
          cases h
          exact g_ret rfl rfl rfl rfl
        replace h := (if_neg c11).symm.trans h
        refine g_lsd rfl rfl (off := 48) (by show Op.lookupswitch.offset [(0, 27), (1, 39)] 48 (x2).toInt = _; rw [lv_osw (a := 0) c7 rfl]; rw [lv_osw (a := 1) c11 rfl]; rfl) (t := 77) rfl ?_
        refine g_run 3 (pc' := 82) (L' := [some (.ref 0), some (.int x1), some (.int x2)]) (S' := [.int x1, .ref 39]) (M' := gm g2) rfl ?_
        replace h := zB_of h
        obtain ⟨v15, g16, e17, h⟩ := h
        refine g_inv2 (kd := 1) (p_X8_knownBy 39 rfl e17) rfl rfl rfl (by decide) rfl rfl rfl rfl (by omega) (pc' := 85) rfl (S' := [.int v15]) rfl ?_
        cases h
        exact g_ret rfl rfl rfl rfl
      · replace h := (if_neg c6).symm.trans h
        refine g_forget (L' := [none, none, none]) True.intro ?_
        exact p_X11_person_20 hD g2 _ h
def f_X11_secret (x1 : Int32) (x2 : Int32) (g : zSg) : Option (Int32 × zSg) := (zB (f_X0_hasSecret 3 x1 g) (fun v1 g2 => (if ¬ v1 = 0 then (if x2 = 0 then (zB (f_X0_owner 3 x1 g2) (fun v6 g7 => some (v6, g7))) else (if x2 = 1 then (zB (f_X0_heavy 3 x1 g2) (fun v10 g11 => some (v10, g11))) else (if x2 = 2 then (zB (f_X0_shed 3 x1 g2) (fun v14 g15 => some (v14, g15))) else (if x2 = 3 then (zB (f_X8_hangs 39 x1 g2) (fun v18 g19 => (if v18 = 0 then some (0, g19) else some (1, g19)))) else (if x2 = 4 then (zB (f_X7_get 42 x1 g2) (fun v23 g24 => some (v23, g24))) else (if x2 = 5 then (zB (f_X8_isCured 39 x1 g2) (fun v27 g28 => (if v27 = 0 then some (0, g28) else some (1, g28)))) else (if x2 = 6 then (zB (f_X7_get 44 x1 g2) (fun v32 g33 => some (v32, g33))) else some ((-1), g2)))))))) else some ((-1), g2))))
set_option maxRecDepth 100000 in
set_option maxHeartbeats 4000000 in
theorem p_X11_secret {sc : zSc} {hp : zHp} {x1 : Int32} {x2 : Int32} {g : zSg} {r : Int32 × zSg} (h : f_X11_secret x1 x2 g = some r) : zRn sc hp 2 zM_X11_secret [.ref 0, .int x1, .int x2] (gm g) (some (.int r.1)) (gm r.2) := by
  intro d hD
  obtain ⟨d, rfl⟩ : ∃ d', d = d' + 1 := ⟨d - 1, by omega⟩
  show zG _ sc hp (zcd zM_X11_secret) 0 [some (.ref 0), some (.int x1), some (.int x2)] [] (gm g) _
  unfold f_X11_secret at h
  refine g_run 3 (pc' := 5) (L' := [some (.ref 0), some (.int x1), some (.int x2)]) (S' := [.int x1, .ref 3]) (M' := gm g) rfl ?_
  replace h := zB_of h
  obtain ⟨v1, g2, e3, h⟩ := h
  refine g_inv2 (kd := 1) (p_X0_hasSecret 3 rfl e3) rfl rfl rfl (by decide) rfl rfl rfl rfl (by omega) (pc' := 8) rfl (S' := [.int v1]) rfl ?_
  refine g_if (¬ v1 = 0) rfl (t := 13) rfl rfl (fun c4 => ?_) (fun c4 => ?_)
  · replace h := (if_pos c4).symm.trans h
    refine g_run 1 (pc' := 14) (L' := [some (.ref 0), some (.int x1), some (.int x2)]) (S' := [.int x2]) (M' := gm g2) rfl ?_
    by_cases c5 : x2 = 0
    · replace h := (if_pos c5).symm.trans h
      refine g_swc c5 rfl rfl rfl (pc' := 56) rfl ?_
      refine g_run 3 (pc' := 61) (L' := [some (.ref 0), some (.int x1), some (.int x2)]) (S' := [.int x1, .ref 3]) (M' := gm g2) rfl ?_
      replace h := zB_of h
      obtain ⟨v6, g7, e8, h⟩ := h
      refine g_inv2 (kd := 1) (p_X0_owner 3 rfl e8) rfl rfl rfl (by decide) rfl rfl rfl rfl (by omega) (pc' := 64) rfl (S' := [.int v6]) rfl ?_
      cases h
      exact g_ret rfl rfl rfl rfl
    replace h := (if_neg c5).symm.trans h
    by_cases c9 : x2 = 1
    · replace h := (if_pos c9).symm.trans h
      refine g_swc c9 rfl rfl rfl (pc' := 65) rfl ?_
      refine g_run 3 (pc' := 70) (L' := [some (.ref 0), some (.int x1), some (.int x2)]) (S' := [.int x1, .ref 3]) (M' := gm g2) rfl ?_
      replace h := zB_of h
      obtain ⟨v10, g11, e12, h⟩ := h
      refine g_inv2 (kd := 1) (p_X0_heavy 3 rfl e12) rfl rfl rfl (by decide) rfl rfl rfl rfl (by omega) (pc' := 73) rfl (S' := [.int v10]) rfl ?_
      cases h
      exact g_ret rfl rfl rfl rfl
    replace h := (if_neg c9).symm.trans h
    by_cases c13 : x2 = 2
    · replace h := (if_pos c13).symm.trans h
      refine g_swc c13 rfl rfl rfl (pc' := 74) rfl ?_
      refine g_run 3 (pc' := 79) (L' := [some (.ref 0), some (.int x1), some (.int x2)]) (S' := [.int x1, .ref 3]) (M' := gm g2) rfl ?_
      replace h := zB_of h
      obtain ⟨v14, g15, e16, h⟩ := h
      refine g_inv2 (kd := 1) (p_X0_shed 3 rfl e16) rfl rfl rfl (by decide) rfl rfl rfl rfl (by omega) (pc' := 82) rfl (S' := [.int v14]) rfl ?_
      cases h
      exact g_ret rfl rfl rfl rfl
    replace h := (if_neg c13).symm.trans h
    by_cases c17 : x2 = 3
    · replace h := (if_pos c17).symm.trans h
      refine g_swc c17 rfl rfl rfl (pc' := 83) rfl ?_
      refine g_run 3 (pc' := 88) (L' := [some (.ref 0), some (.int x1), some (.int x2)]) (S' := [.int x1, .ref 39]) (M' := gm g2) rfl ?_
      replace h := zB_of h
      obtain ⟨v18, g19, e20, h⟩ := h
      refine g_inv2 (kd := 1) (p_X8_hangs 39 rfl e20) rfl rfl rfl (by decide) rfl rfl rfl rfl (by omega) (pc' := 91) rfl (S' := [.int v18]) rfl ?_
      refine g_if (v18 = 0) rfl (t := 98) rfl rfl (fun c21 => ?_) (fun c21 => ?_)
      · replace h := (if_pos c21).symm.trans h
        refine g_run 1 (pc' := 99) (L' := [some (.ref 0), some (.int x1), some (.int x2)]) (S' := [.int 0]) (M' := gm g19) rfl ?_
        cases h
        exact g_ret rfl rfl rfl rfl
      · replace h := (if_neg c21).symm.trans h
        refine g_run 2 (pc' := 99) (L' := [some (.ref 0), some (.int x1), some (.int x2)]) (S' := [.int 1]) (M' := gm g19) rfl ?_
        cases h
        exact g_ret rfl rfl rfl rfl
    replace h := (if_neg c17).symm.trans h
    by_cases c22 : x2 = 4
    · replace h := (if_pos c22).symm.trans h
      refine g_swc c22 rfl rfl rfl (pc' := 100) rfl ?_
      refine g_run 4 (pc' := 108) (L' := [some (.ref 0), some (.int x1), some (.int x2)]) (S' := [.int x1, .ref 42]) (M' := gm g2) rfl ?_
      replace h := zB_of h
      obtain ⟨v23, g24, e25, h⟩ := h
      refine g_inv2 (kd := 1) (p_X7_get 42 rfl e25) rfl rfl rfl (by decide) rfl rfl rfl rfl (by omega) (pc' := 111) rfl (S' := [.int v23]) rfl ?_
      cases h
      exact g_ret rfl rfl rfl rfl
    replace h := (if_neg c22).symm.trans h
    by_cases c26 : x2 = 5
    · replace h := (if_pos c26).symm.trans h
      refine g_swc c26 rfl rfl rfl (pc' := 112) rfl ?_
      refine g_run 3 (pc' := 117) (L' := [some (.ref 0), some (.int x1), some (.int x2)]) (S' := [.int x1, .ref 39]) (M' := gm g2) rfl ?_
      replace h := zB_of h
      obtain ⟨v27, g28, e29, h⟩ := h
      refine g_inv2 (kd := 1) (p_X8_isCured 39 rfl e29) rfl rfl rfl (by decide) rfl rfl rfl rfl (by omega) (pc' := 120) rfl (S' := [.int v27]) rfl ?_
      refine g_if (v27 = 0) rfl (t := 127) rfl rfl (fun c30 => ?_) (fun c30 => ?_)
      · replace h := (if_pos c30).symm.trans h
        refine g_run 1 (pc' := 128) (L' := [some (.ref 0), some (.int x1), some (.int x2)]) (S' := [.int 0]) (M' := gm g28) rfl ?_
        cases h
        exact g_ret rfl rfl rfl rfl
      · replace h := (if_neg c30).symm.trans h
        refine g_run 2 (pc' := 128) (L' := [some (.ref 0), some (.int x1), some (.int x2)]) (S' := [.int 1]) (M' := gm g28) rfl ?_
        cases h
        exact g_ret rfl rfl rfl rfl
    replace h := (if_neg c26).symm.trans h
    by_cases c31 : x2 = 6
    · replace h := (if_pos c31).symm.trans h
      refine g_swc c31 rfl rfl rfl (pc' := 129) rfl ?_
      refine g_run 4 (pc' := 137) (L' := [some (.ref 0), some (.int x1), some (.int x2)]) (S' := [.int x1, .ref 44]) (M' := gm g2) rfl ?_
      replace h := zB_of h
      obtain ⟨v32, g33, e34, h⟩ := h
      refine g_inv2 (kd := 1) (p_X7_get 44 rfl e34) rfl rfl rfl (by decide) rfl rfl rfl rfl (by omega) (pc' := 140) rfl (S' := [.int v32]) rfl ?_
      cases h
      exact g_ret rfl rfl rfl rfl
    replace h := (if_neg c31).symm.trans h
    have hsw : (x2).toInt < 0 ∨ 6 < (x2).toInt := by
      have nc5 := lv_neT c5 (a := 0) rfl
      have nc9 := lv_neT c9 (a := 1) rfl
      have nc13 := lv_neT c13 (a := 2) rfl
      have nc17 := lv_neT c17 (a := 3) rfl
      have nc22 := lv_neT c22 (a := 4) rfl
      have nc26 := lv_neT c26 (a := 5) rfl
      have nc31 := lv_neT c31 (a := 6) rfl
      omega
    refine g_tsd rfl hsw (t := 141) rfl ?_
    refine g_run 1 (pc' := 142) (L' := [some (.ref 0), some (.int x1), some (.int x2)]) (S' := [.int (-1)]) (M' := gm g2) rfl ?_
    cases h
    exact g_ret rfl rfl rfl rfl
  · replace h := (if_neg c4).symm.trans h
    refine g_run 1 (pc' := 12) (L' := [some (.ref 0), some (.int x1), some (.int x2)]) (S' := [.int (-1)]) (M' := gm g2) rfl ?_
    cases h
    exact g_ret rfl rfl rfl rfl
def f_X11_breath (x1 : Int32) (x2 : Int32) (g : zSg) : Option (Int32 × zSg) := (zB (f_X0_hasBoth 3 x1 x2 g) (fun v1 g2 => (if v1 = 0 then some ((-1), g2) else (zB (f_X8_breathOf 39 x1 x2 g2) (fun v5 g6 => some (v5, g6))))))
set_option maxRecDepth 100000 in
set_option maxHeartbeats 4000000 in
theorem p_X11_breath {sc : zSc} {hp : zHp} {x1 : Int32} {x2 : Int32} {g : zSg} {r : Int32 × zSg} (h : f_X11_breath x1 x2 g = some r) : zRn sc hp 2 zM_X11_breath [.ref 0, .int x1, .int x2] (gm g) (some (.int r.1)) (gm r.2) := by
  intro d hD
  obtain ⟨d, rfl⟩ : ∃ d', d = d' + 1 := ⟨d - 1, by omega⟩
  show zG _ sc hp (zcd zM_X11_breath) 0 [some (.ref 0), some (.int x1), some (.int x2)] [] (gm g) _
  unfold f_X11_breath at h
  refine g_run 4 (pc' := 6) (L' := [some (.ref 0), some (.int x1), some (.int x2)]) (S' := [.int x2, .int x1, .ref 3]) (M' := gm g) rfl ?_
  replace h := zB_of h
  obtain ⟨v1, g2, e3, h⟩ := h
  refine g_inv2 (kd := 1) (p_X0_hasBoth 3 rfl e3) rfl rfl rfl (by decide) rfl rfl rfl rfl (by omega) (pc' := 9) rfl (S' := [.int v1]) rfl ?_
  refine g_if (v1 = 0) rfl (t := 24) rfl rfl (fun c4 => ?_) (fun c4 => ?_)
  · replace h := (if_pos c4).symm.trans h
    refine g_run 1 (pc' := 25) (L' := [some (.ref 0), some (.int x1), some (.int x2)]) (S' := [.int (-1)]) (M' := gm g2) rfl ?_
    cases h
    exact g_ret rfl rfl rfl rfl
  · replace h := (if_neg c4).symm.trans h
    refine g_run 4 (pc' := 18) (L' := [some (.ref 0), some (.int x1), some (.int x2)]) (S' := [.int x2, .int x1, .ref 39]) (M' := gm g2) rfl ?_
    replace h := zB_of h
    obtain ⟨v5, g6, e7, h⟩ := h
    refine g_inv2 (kd := 1) (p_X8_breathOf 39 rfl e7) rfl rfl rfl (by decide) rfl rfl rfl rfl (by omega) (pc' := 21) rfl (S' := [.int v5]) rfl ?_
    refine g_run 1 (pc' := 25) (L' := [some (.ref 0), some (.int x1), some (.int x2)]) (S' := [.int v5]) (M' := gm g6) rfl ?_
    cases h
    exact g_ret rfl rfl rfl rfl
def f_X11_strength (x1 : Int32) (x2 : Int32) (g : zSg) : Option (Int32 × zSg) := (zB (f_X0_hasSecret 3 x1 g) (fun v1 g2 => (if v1 = 0 then some ((-1), g2) else (zB (f_X0_hasCell 3 x2 g2) (fun v5 g6 => (if ¬ v5 = 0 then (zB (f_X0_heavy 3 x1 g6) (fun v9 g10 => (zB (f_X10_strengthAt 39 x1 x2 v9 g10) (fun v12 g13 => some (v12, g13))))) else some ((-1), g6)))))))
set_option maxRecDepth 100000 in
set_option maxHeartbeats 4000000 in
theorem p_X11_strength {sc : zSc} {hp : zHp} {x1 : Int32} {x2 : Int32} {g : zSg} {r : Int32 × zSg} (h : f_X11_strength x1 x2 g = some r) : zRn sc hp 19 zM_X11_strength [.ref 0, .int x1, .int x2] (gm g) (some (.int r.1)) (gm r.2) := by
  intro d hD
  obtain ⟨d, rfl⟩ : ∃ d', d = d' + 1 := ⟨d - 1, by omega⟩
  show zG _ sc hp (zcd zM_X11_strength) 0 [some (.ref 0), some (.int x1), some (.int x2)] [] (gm g) _
  unfold f_X11_strength at h
  refine g_run 3 (pc' := 5) (L' := [some (.ref 0), some (.int x1), some (.int x2)]) (S' := [.int x1, .ref 3]) (M' := gm g) rfl ?_
  replace h := zB_of h
  obtain ⟨v1, g2, e3, h⟩ := h
  refine g_inv2 (kd := 1) (p_X0_hasSecret 3 rfl e3) rfl rfl rfl (by decide) rfl rfl rfl rfl (by omega) (pc' := 8) rfl (S' := [.int v1]) rfl ?_
  refine g_if (v1 = 0) rfl (t := 22) rfl rfl (fun c4 => ?_) (fun c4 => ?_)
  · replace h := (if_pos c4).symm.trans h
    refine g_run 1 (pc' := 23) (L' := [some (.ref 0), some (.int x1), some (.int x2)]) (S' := [.int (-1)]) (M' := gm g2) rfl ?_
    cases h
    exact g_ret rfl rfl rfl rfl
  · replace h := (if_neg c4).symm.trans h
    refine g_run 3 (pc' := 16) (L' := [some (.ref 0), some (.int x1), some (.int x2)]) (S' := [.int x2, .ref 3]) (M' := gm g2) rfl ?_
    replace h := zB_of h
    obtain ⟨v5, g6, e7, h⟩ := h
    refine g_inv2 (kd := 1) (p_X0_hasCell 3 rfl e7) rfl rfl rfl (by decide) rfl rfl rfl rfl (by omega) (pc' := 19) rfl (S' := [.int v5]) rfl ?_
    refine g_if (¬ v5 = 0) rfl (t := 24) rfl rfl (fun c8 => ?_) (fun c8 => ?_)
    · replace h := (if_pos c8).symm.trans h
      refine g_run 9 (pc' := 39) (L' := [some (.ref 0), some (.int x1), some (.int x2)]) (S' := [.int x1, .ref 3, .int x2, .int x1, .ref 39, .ref 423]) (M' := gm g6) rfl ?_
      replace h := zB_of h
      obtain ⟨v9, g10, e11, h⟩ := h
      refine g_inv2 (kd := 1) (p_X0_heavy 3 rfl e11) rfl rfl rfl (by decide) rfl rfl rfl rfl (by omega) (pc' := 42) rfl (S' := [.int v9, .int x2, .int x1, .ref 39, .ref 423]) rfl ?_
      replace h := zB_of h
      obtain ⟨v12, g13, e14, h⟩ := h
      refine g_inv2 (kd := 1) (p_X10_strengthAt 39 rfl e14) rfl rfl rfl (by decide) rfl rfl rfl rfl (by omega) (pc' := 45) rfl (S' := [.int v12]) rfl ?_
      cases h
      exact g_ret rfl rfl rfl rfl
    · replace h := (if_neg c8).symm.trans h
      refine g_run 1 (pc' := 23) (L' := [some (.ref 0), some (.int x1), some (.int x2)]) (S' := [.int (-1)]) (M' := gm g6) rfl ?_
      cases h
      exact g_ret rfl rfl rfl rfl
def f_X11_smells (x1 : Int32) (g : zSg) : Option (Int32 × zSg) := (zB (f_X0_hasSecret 3 x1 g) (fun v1 g2 => (if v1 = 0 then some ((-1), g2) else (zB (f_X10_smellingCells 39 x1 g2) (fun v5 g6 => some (v5, g6))))))
set_option maxRecDepth 100000 in
set_option maxHeartbeats 4000000 in
theorem p_X11_smells {sc : zSc} {hp : zHp} {x1 : Int32} {g : zSg} {r : Int32 × zSg} (h : f_X11_smells x1 g = some r) : zRn sc hp 20 zM_X11_smells [.ref 0, .int x1] (gm g) (some (.int r.1)) (gm r.2) := by
  intro d hD
  obtain ⟨d, rfl⟩ : ∃ d', d = d' + 1 := ⟨d - 1, by omega⟩
  show zG _ sc hp (zcd zM_X11_smells) 0 [some (.ref 0), some (.int x1)] [] (gm g) _
  unfold f_X11_smells at h
  refine g_run 3 (pc' := 5) (L' := [some (.ref 0), some (.int x1)]) (S' := [.int x1, .ref 3]) (M' := gm g) rfl ?_
  replace h := zB_of h
  obtain ⟨v1, g2, e3, h⟩ := h
  refine g_inv2 (kd := 1) (p_X0_hasSecret 3 rfl e3) rfl rfl rfl (by decide) rfl rfl rfl rfl (by omega) (pc' := 8) rfl (S' := [.int v1]) rfl ?_
  refine g_if (v1 = 0) rfl (t := 26) rfl rfl (fun c4 => ?_) (fun c4 => ?_)
  · replace h := (if_pos c4).symm.trans h
    refine g_run 1 (pc' := 27) (L' := [some (.ref 0), some (.int x1)]) (S' := [.int (-1)]) (M' := gm g2) rfl ?_
    cases h
    exact g_ret rfl rfl rfl rfl
  · replace h := (if_neg c4).symm.trans h
    refine g_run 5 (pc' := 20) (L' := [some (.ref 0), some (.int x1)]) (S' := [.int x1, .ref 39, .ref 423]) (M' := gm g2) rfl ?_
    replace h := zB_of h
    obtain ⟨v5, g6, e7, h⟩ := h
    refine g_inv2 (kd := 1) (p_X10_smellingCells 39 rfl e7) rfl rfl rfl (by decide) rfl rfl rfl rfl (by omega) (pc' := 23) rfl (S' := [.int v5]) rfl ?_
    refine g_run 1 (pc' := 27) (L' := [some (.ref 0), some (.int x1)]) (S' := [.int v5]) (M' := gm g6) rfl ?_
    cases h
    exact g_ret rfl rfl rfl rfl
def f_X11_air (x1 : Int32) (g : zSg) : Option (Int32 × zSg) := (zB (f_X0_hasCell 3 x1 g) (fun v1 g2 => (if v1 = 0 then some ((-1), g2) else (zB (f_X10_airAt 39 x1 g2) (fun v5 g6 => some (v5, g6))))))
set_option maxRecDepth 100000 in
set_option maxHeartbeats 4000000 in
theorem p_X11_air {sc : zSc} {hp : zHp} {x1 : Int32} {g : zSg} {r : Int32 × zSg} (h : f_X11_air x1 g = some r) : zRn sc hp 20 zM_X11_air [.ref 0, .int x1] (gm g) (some (.int r.1)) (gm r.2) := by
  intro d hD
  obtain ⟨d, rfl⟩ : ∃ d', d = d' + 1 := ⟨d - 1, by omega⟩
  show zG _ sc hp (zcd zM_X11_air) 0 [some (.ref 0), some (.int x1)] [] (gm g) _
  unfold f_X11_air at h
  refine g_run 3 (pc' := 5) (L' := [some (.ref 0), some (.int x1)]) (S' := [.int x1, .ref 3]) (M' := gm g) rfl ?_
  replace h := zB_of h
  obtain ⟨v1, g2, e3, h⟩ := h
  refine g_inv2 (kd := 1) (p_X0_hasCell 3 rfl e3) rfl rfl rfl (by decide) rfl rfl rfl rfl (by omega) (pc' := 8) rfl (S' := [.int v1]) rfl ?_
  refine g_if (v1 = 0) rfl (t := 26) rfl rfl (fun c4 => ?_) (fun c4 => ?_)
  · replace h := (if_pos c4).symm.trans h
    refine g_run 1 (pc' := 27) (L' := [some (.ref 0), some (.int x1)]) (S' := [.int (-1)]) (M' := gm g2) rfl ?_
    cases h
    exact g_ret rfl rfl rfl rfl
  · replace h := (if_neg c4).symm.trans h
    refine g_run 5 (pc' := 20) (L' := [some (.ref 0), some (.int x1)]) (S' := [.int x1, .ref 39, .ref 423]) (M' := gm g2) rfl ?_
    replace h := zB_of h
    obtain ⟨v5, g6, e7, h⟩ := h
    refine g_inv2 (kd := 1) (p_X10_airAt 39 rfl e7) rfl rfl rfl (by decide) rfl rfl rfl rfl (by omega) (pc' := 23) rfl (S' := [.int v5]) rfl ?_
    refine g_run 1 (pc' := 27) (L' := [some (.ref 0), some (.int x1)]) (S' := [.int v5]) (M' := gm g6) rfl ?_
    cases h
    exact g_ret rfl rfl rfl rfl
def f_X11_shares_59 (y1 : Int32) (y2 : Int32) (y3 : Int32) (g : zSg) : Option (Int32 × zSg) := (if ¬ y3 = 0 then (zB (f_X8_breathsOf 39 y1 g) (fun v2 g3 => (if y3 = 0 then none else some (((y2 * v2) / y3), g3)))) else some (0, g))
set_option maxRecDepth 100000 in
set_option maxHeartbeats 4000000 in
theorem p_X11_shares_59 {sc : zSc} {hp : zHp} {d : Nat} (hD : 3 ≤ d) (y1 : Int32) (y2 : Int32) (y3 : Int32) (g : zSg) (r : Int32 × zSg) (h : f_X11_shares_59 y1 y2 y3 g = some r) : zG d sc hp (zcd zM_X11_shares) 59 [some (.ref 0), some (.int y1), some (.int y2), some (.int y3), none] [] (gm g) ((some (.int r.1)), gm r.2) := by
  obtain ⟨d, rfl⟩ : ∃ d', d = d' + 1 := ⟨d - 1, by omega⟩
  unfold f_X11_shares_59 at h
  refine g_run 1 (pc' := 60) (L' := [some (.ref 0), some (.int y1), some (.int y2), some (.int y3), none]) (S' := [.int y3]) (M' := gm g) rfl ?_
  refine g_if (¬ y3 = 0) rfl (t := 67) rfl rfl (fun c1 => ?_) (fun c1 => ?_)
  · replace h := (if_pos c1).symm.trans h
    refine g_run 4 (pc' := 73) (L' := [some (.ref 0), some (.int y1), some (.int y2), some (.int y3), none]) (S' := [.int y1, .ref 39, .int y2]) (M' := gm g) rfl ?_
    replace h := zB_of h
    obtain ⟨v2, g3, e4, h⟩ := h
    refine g_inv2 (kd := 1) (p_X8_breathsOf 39 rfl e4) rfl rfl rfl (by decide) rfl rfl rfl rfl (by omega) (pc' := 76) rfl (S' := [.int v2, .int y2]) rfl ?_
    refine g_run 2 (pc' := 78) (L' := [some (.ref 0), some (.int y1), some (.int y2), some (.int y3), none]) (S' := [.int y3, .int ((y2 * v2))]) (M' := gm g3) rfl ?_
    by_cases c5 : y3 = 0
    case pos => exact nomatch ((if_pos c5).symm.trans h)
    replace h := (if_neg c5).symm.trans h
    refine g_div rfl c5 ?_
    cases h
    exact g_ret rfl rfl rfl rfl
  · replace h := (if_neg c1).symm.trans h
    refine g_run 2 (pc' := 79) (L' := [some (.ref 0), some (.int y1), some (.int y2), some (.int y3), none]) (S' := [.int 0]) (M' := gm g) rfl ?_
    cases h
    exact g_ret rfl rfl rfl rfl
def fb_X11_shares_29 (kk : Int32 → Int32 → Int32 → Int32 → zSg → Option (Int32 × zSg)) (y1 : Int32) (y2 : Int32) (y3 : Int32) (y4 : Int32) (g : zSg) : Option (Int32 × zSg) := (zB (f_X0_persons 3 g) (fun v1 g2 => (if v1 ≤ y4 then f_X11_shares_59 (y1) (y2) (y3) g2 else (zB (f_X8_breathsOf 39 y4 g2) (fun v5 g6 => kk (y1) (y2) (y3 + v5) (y4 + 1) g6)))))
def f_X11_shares_29 : Nat → Int32 → Int32 → Int32 → Int32 → zSg → Option (Int32 × zSg)
  | 0, _, _, _, _, _ => none
  | n + 1, y1, y2, y3, y4, g => fb_X11_shares_29 (f_X11_shares_29 n) y1 y2 y3 y4 g
set_option maxRecDepth 100000 in
set_option maxHeartbeats 4000000 in
theorem p_X11_shares_29 {sc : zSc} {hp : zHp} {d : Nat} (hD : 3 ≤ d) : ∀ (n : Nat) (y1 : Int32) (y2 : Int32) (y3 : Int32) (y4 : Int32) (g : zSg) (r : Int32 × zSg), f_X11_shares_29 n y1 y2 y3 y4 g = some r → zG d sc hp (zcd zM_X11_shares) 29 [some (.ref 0), some (.int y1), some (.int y2), some (.int y3), some (.int y4)] [] (gm g) ((some (.int r.1)), gm r.2) := by
  obtain ⟨d, rfl⟩ : ∃ d', d = d' + 1 := ⟨d - 1, by omega⟩
  intro n
  induction n with
  | zero => intro y1 y2 y3 y4 g r h; cases h
  | succ n ih =>
    intro y1 y2 y3 y4 g r h
    replace h : fb_X11_shares_29 (f_X11_shares_29 n) y1 y2 y3 y4 g = some r := h
    unfold fb_X11_shares_29 at h
    refine g_run 3 (pc' := 35) (L' := [some (.ref 0), some (.int y1), some (.int y2), some (.int y3), some (.int y4)]) (S' := [.ref 3, .int y4]) (M' := gm g) rfl ?_
    replace h := zB_of h
    obtain ⟨v1, g2, e3, h⟩ := h
    refine g_inv2 (kd := 1) (p_X0_persons 3 rfl e3) rfl rfl rfl (by decide) rfl rfl rfl rfl (by omega) (pc' := 38) rfl (S' := [.int v1, .int y4]) rfl ?_
    refine g_icmp (v1 ≤ y4) rfl (t := 59) rfl rfl (fun c4 => ?_) (fun c4 => ?_)
    · replace h := (if_pos c4).symm.trans h
      refine g_forget (L' := [some (.ref 0), some (.int y1), some (.int y2), some (.int y3), none]) (And.intro rfl (And.intro rfl (And.intro rfl (And.intro rfl True.intro)))) ?_
      exact p_X11_shares_59 hD (y1) (y2) (y3) g2 _ h
    · replace h := (if_neg c4).symm.trans h
      refine g_run 4 (pc' := 48) (L' := [some (.ref 0), some (.int y1), some (.int y2), some (.int y3), some (.int y4)]) (S' := [.int y4, .ref 39, .int y3]) (M' := gm g2) rfl ?_
      replace h := zB_of h
      obtain ⟨v5, g6, e7, h⟩ := h
      refine g_inv2 (kd := 1) (p_X8_breathsOf 39 rfl e7) rfl rfl rfl (by decide) rfl rfl rfl rfl (by omega) (pc' := 51) rfl (S' := [.int v5, .int y3]) rfl ?_
      refine g_run 4 (pc' := 29) (L' := [some (.ref 0), some (.int y1), some (.int y2), some (.int ((y3 + v5))), some (.int ((y4 + 1)))]) (S' := []) (M' := gm g6) rfl ?_
      exact ih (y1) (y2) (y3 + v5) (y4 + 1) g6 _ h
def f_X11_shares (x1 : Int32) (x2 : Int32) (g : zSg) : Option (Int32 × zSg) := (zB (f_X0_hasPerson 3 x1 g) (fun v1 g2 => (if v1 = 0 then some ((-1), g2) else (if x2 < 0 then some ((-1), g2) else (if x2 ≤ 999 then f_X11_shares_29 zFu (x1) (x2) (0) (0) g2 else some ((-1), g2))))))
set_option maxRecDepth 100000 in
set_option maxHeartbeats 4000000 in
theorem p_X11_shares {sc : zSc} {hp : zHp} {x1 : Int32} {x2 : Int32} {g : zSg} {r : Int32 × zSg} (h : f_X11_shares x1 x2 g = some r) : zRn sc hp 3 zM_X11_shares [.ref 0, .int x1, .int x2] (gm g) (some (.int r.1)) (gm r.2) := by
  intro d hD
  obtain ⟨d, rfl⟩ : ∃ d', d = d' + 1 := ⟨d - 1, by omega⟩
  show zG _ sc hp (zcd zM_X11_shares) 0 [some (.ref 0), some (.int x1), some (.int x2), none, none] [] (gm g) _
  unfold f_X11_shares at h
  refine g_run 3 (pc' := 5) (L' := [some (.ref 0), some (.int x1), some (.int x2), none, none]) (S' := [.int x1, .ref 3]) (M' := gm g) rfl ?_
  replace h := zB_of h
  obtain ⟨v1, g2, e3, h⟩ := h
  refine g_inv2 (kd := 1) (p_X0_hasPerson 3 rfl e3) rfl rfl rfl (by decide) rfl rfl rfl rfl (by omega) (pc' := 8) rfl (S' := [.int v1]) rfl ?_
  refine g_if (v1 = 0) rfl (t := 22) rfl rfl (fun c4 => ?_) (fun c4 => ?_)
  · replace h := (if_pos c4).symm.trans h
    refine g_run 1 (pc' := 23) (L' := [some (.ref 0), some (.int x1), some (.int x2), none, none]) (S' := [.int (-1)]) (M' := gm g2) rfl ?_
    cases h
    exact g_ret rfl rfl rfl rfl
  · replace h := (if_neg c4).symm.trans h
    refine g_run 1 (pc' := 12) (L' := [some (.ref 0), some (.int x1), some (.int x2), none, none]) (S' := [.int x2]) (M' := gm g2) rfl ?_
    refine g_if (x2 < 0) rfl (t := 22) rfl rfl (fun c5 => ?_) (fun c5 => ?_)
    · replace h := (if_pos c5).symm.trans h
      refine g_run 1 (pc' := 23) (L' := [some (.ref 0), some (.int x1), some (.int x2), none, none]) (S' := [.int (-1)]) (M' := gm g2) rfl ?_
      cases h
      exact g_ret rfl rfl rfl rfl
    · replace h := (if_neg c5).symm.trans h
      refine g_run 2 (pc' := 19) (L' := [some (.ref 0), some (.int x1), some (.int x2), none, none]) (S' := [.int 999, .int x2]) (M' := gm g2) rfl ?_
      refine g_icmp (x2 ≤ 999) rfl (t := 24) rfl rfl (fun c6 => ?_) (fun c6 => ?_)
      · replace h := (if_pos c6).symm.trans h
        refine g_run 4 (pc' := 29) (L' := [some (.ref 0), some (.int x1), some (.int x2), some (.int 0), some (.int 0)]) (S' := []) (M' := gm g2) rfl ?_
        exact p_X11_shares_29 hD zFu (x1) (x2) (0) (0) g2 _ h
      · replace h := (if_neg c6).symm.trans h
        refine g_run 1 (pc' := 23) (L' := [some (.ref 0), some (.int x1), some (.int x2), none, none]) (S' := [.int (-1)]) (M' := gm g2) rfl ?_
        cases h
        exact g_ret rfl rfl rfl rfl
def f_X11_measure (x1 : Int32) (x2 : Int32) (g : zSg) : Option (Int32 × zSg) := (if x1 = 0 then (zB (f_X8_knownBy 39 x2 g) (fun v2 g3 => (zB (f_J6_bitCount_0f7a4 v2 g3) (fun v5 g6 => some (v5, g6))))) else (if x1 = 1 then (zB (f_X0_nose 3 x2 g) (fun v9 g10 => some ((-v9), g10))) else (if x1 = 2 then (zB (f_X8_breathsOf 39 x2 g) (fun v13 g14 => some (v13, g14))) else (if x1 = 3 then (zB (f_X7_get 44 x2 g) (fun v17 g18 => (zB (f_J6_bitCount_0f7a4 v17 g18) (fun v20 g21 => some ((-v20), g21))))) else (zB (f_X0_heavy 3 x2 g) (fun v23 g24 => some (v23, g24)))))))
set_option maxRecDepth 100000 in
set_option maxHeartbeats 4000000 in
theorem p_X11_measure {sc : zSc} {hp : zHp} {x1 : Int32} {x2 : Int32} {g : zSg} {r : Int32 × zSg} (h : f_X11_measure x1 x2 g = some r) : zRn sc hp 3 zM_X11_measure [.ref 0, .int x1, .int x2] (gm g) (some (.int r.1)) (gm r.2) := by
  intro d hD
  obtain ⟨d, rfl⟩ : ∃ d', d = d' + 1 := ⟨d - 1, by omega⟩
  show zG _ sc hp (zcd zM_X11_measure) 0 [some (.ref 0), some (.int x1), some (.int x2)] [] (gm g) _
  unfold f_X11_measure at h
  refine g_run 1 (pc' := 1) (L' := [some (.ref 0), some (.int x1), some (.int x2)]) (S' := [.int x1]) (M' := gm g) rfl ?_
  by_cases c1 : x1 = 0
  · replace h := (if_pos c1).symm.trans h
    refine g_swc c1 rfl rfl rfl (pc' := 32) rfl ?_
    refine g_run 3 (pc' := 37) (L' := [some (.ref 0), some (.int x1), some (.int x2)]) (S' := [.int x2, .ref 39]) (M' := gm g) rfl ?_
    replace h := zB_of h
    obtain ⟨v2, g3, e4, h⟩ := h
    refine g_inv2 (kd := 1) (p_X8_knownBy 39 rfl e4) rfl rfl rfl (by decide) rfl rfl rfl rfl (by omega) (pc' := 40) rfl (S' := [.int v2]) rfl ?_
    replace h := zB_of h
    obtain ⟨v5, g6, e7, h⟩ := h
    refine g_inv2 (kd := 0) (p_J6_bitCount_0f7a4  e7) rfl rfl rfl (by decide) rfl rfl rfl rfl (by omega) (pc' := 43) rfl (S' := [.int v5]) rfl ?_
    cases h
    exact g_ret rfl rfl rfl rfl
  replace h := (if_neg c1).symm.trans h
  by_cases c8 : x1 = 1
  · replace h := (if_pos c8).symm.trans h
    refine g_swc c8 rfl rfl rfl (pc' := 44) rfl ?_
    refine g_run 3 (pc' := 49) (L' := [some (.ref 0), some (.int x1), some (.int x2)]) (S' := [.int x2, .ref 3]) (M' := gm g) rfl ?_
    replace h := zB_of h
    obtain ⟨v9, g10, e11, h⟩ := h
    refine g_inv2 (kd := 1) (p_X0_nose 3 rfl e11) rfl rfl rfl (by decide) rfl rfl rfl rfl (by omega) (pc' := 52) rfl (S' := [.int v9]) rfl ?_
    refine g_run 1 (pc' := 53) (L' := [some (.ref 0), some (.int x1), some (.int x2)]) (S' := [.int ((-v9))]) (M' := gm g10) rfl ?_
    cases h
    exact g_ret rfl rfl rfl rfl
  replace h := (if_neg c8).symm.trans h
  by_cases c12 : x1 = 2
  · replace h := (if_pos c12).symm.trans h
    refine g_swc c12 rfl rfl rfl (pc' := 54) rfl ?_
    refine g_run 3 (pc' := 59) (L' := [some (.ref 0), some (.int x1), some (.int x2)]) (S' := [.int x2, .ref 39]) (M' := gm g) rfl ?_
    replace h := zB_of h
    obtain ⟨v13, g14, e15, h⟩ := h
    refine g_inv2 (kd := 1) (p_X8_breathsOf 39 rfl e15) rfl rfl rfl (by decide) rfl rfl rfl rfl (by omega) (pc' := 62) rfl (S' := [.int v13]) rfl ?_
    cases h
    exact g_ret rfl rfl rfl rfl
  replace h := (if_neg c12).symm.trans h
  by_cases c16 : x1 = 3
  · replace h := (if_pos c16).symm.trans h
    refine g_swc c16 rfl rfl rfl (pc' := 63) rfl ?_
    refine g_run 4 (pc' := 71) (L' := [some (.ref 0), some (.int x1), some (.int x2)]) (S' := [.int x2, .ref 44]) (M' := gm g) rfl ?_
    replace h := zB_of h
    obtain ⟨v17, g18, e19, h⟩ := h
    refine g_inv2 (kd := 1) (p_X7_get 44 rfl e19) rfl rfl rfl (by decide) rfl rfl rfl rfl (by omega) (pc' := 74) rfl (S' := [.int v17]) rfl ?_
    replace h := zB_of h
    obtain ⟨v20, g21, e22, h⟩ := h
    refine g_inv2 (kd := 0) (p_J6_bitCount_0f7a4  e22) rfl rfl rfl (by decide) rfl rfl rfl rfl (by omega) (pc' := 77) rfl (S' := [.int v20]) rfl ?_
    refine g_run 1 (pc' := 78) (L' := [some (.ref 0), some (.int x1), some (.int x2)]) (S' := [.int ((-v20))]) (M' := gm g21) rfl ?_
    cases h
    exact g_ret rfl rfl rfl rfl
  replace h := (if_neg c16).symm.trans h
  have hsw : (x1).toInt < 0 ∨ 3 < (x1).toInt := by
    have nc1 := lv_neT c1 (a := 0) rfl
    have nc8 := lv_neT c8 (a := 1) rfl
    have nc12 := lv_neT c12 (a := 2) rfl
    have nc16 := lv_neT c16 (a := 3) rfl
    omega
  refine g_tsd rfl hsw (t := 79) rfl ?_
  refine g_run 3 (pc' := 84) (L' := [some (.ref 0), some (.int x1), some (.int x2)]) (S' := [.int x2, .ref 3]) (M' := gm g) rfl ?_
  replace h := zB_of h
  obtain ⟨v23, g24, e25, h⟩ := h
  refine g_inv2 (kd := 1) (p_X0_heavy 3 rfl e25) rfl rfl rfl (by decide) rfl rfl rfl rfl (by omega) (pc' := 87) rfl (S' := [.int v23]) rfl ?_
  cases h
  exact g_ret rfl rfl rfl rfl
def f_X11_firstOfMost_30 (k5 : Int32 → Int32 → Int32 → Int32 → zSg → Option (Int32 × zSg)) (y1 : Int32) (y2 : Int32) (y3 : Int32) (y4 : Int32) (g : zSg) : Option (Int32 × zSg) := k5 (y1) (y2) (y3) (y4 + 1) g
set_option maxRecDepth 100000 in
set_option maxHeartbeats 4000000 in
theorem p_X11_firstOfMost_30 {sc : zSc} {hp : zHp} {d : Nat} (hD : 4 ≤ d) (k5 : Int32 → Int32 → Int32 → Int32 → zSg → Option (Int32 × zSg)) (hk5 : ∀ (y1 : Int32) (y2 : Int32) (y3 : Int32) (y4 : Int32) (g : zSg) (r : Int32 × zSg), k5 y1 y2 y3 y4 g = some r → zG d sc hp (zcd zM_X11_firstOfMost) 5 [some (.ref 0), some (.int y1), some (.int y2), some (.int y3), some (.int y4)] [] (gm g) ((some (.int r.1)), gm r.2)) (y1 : Int32) (y2 : Int32) (y3 : Int32) (y4 : Int32) (g : zSg) (r : Int32 × zSg) (h : f_X11_firstOfMost_30 k5 y1 y2 y3 y4 g = some r) : zG d sc hp (zcd zM_X11_firstOfMost) 30 [some (.ref 0), some (.int y1), some (.int y2), some (.int y3), some (.int y4)] [] (gm g) ((some (.int r.1)), gm r.2) := by
  obtain ⟨d, rfl⟩ : ∃ d', d = d' + 1 := ⟨d - 1, by omega⟩
  unfold f_X11_firstOfMost_30 at h
  refine g_run 2 (pc' := 5) (L' := [some (.ref 0), some (.int y1), some (.int y2), some (.int y3), some (.int ((y4 + 1)))]) (S' := []) (M' := gm g) rfl ?_
  exact hk5 (y1) (y2) (y3) (y4 + 1) g _ h
def fb_X11_firstOfMost_5 (kk : Int32 → Int32 → Int32 → Int32 → zSg → Option (Int32 × zSg)) (y1 : Int32) (y2 : Int32) (y3 : Int32) (y4 : Int32) (g : zSg) : Option (Int32 × zSg) := (if y2 ≤ y4 then some (y3, g) else (zB (f_X11_measure y1 y4 g) (fun v2 g3 => (zB (f_X11_measure y1 y3 g3) (fun v5 g6 => (if v2 ≤ v5 then f_X11_firstOfMost_30 kk (y1) (y2) (y3) (y4) g6 else f_X11_firstOfMost_30 kk (y1) (y2) (y4) (y4) g6))))))
def f_X11_firstOfMost_5 : Nat → Int32 → Int32 → Int32 → Int32 → zSg → Option (Int32 × zSg)
  | 0, _, _, _, _, _ => none
  | n + 1, y1, y2, y3, y4, g => fb_X11_firstOfMost_5 (f_X11_firstOfMost_5 n) y1 y2 y3 y4 g
set_option maxRecDepth 100000 in
set_option maxHeartbeats 4000000 in
theorem p_X11_firstOfMost_5 {sc : zSc} {hp : zHp} {d : Nat} (hD : 4 ≤ d) : ∀ (n : Nat) (y1 : Int32) (y2 : Int32) (y3 : Int32) (y4 : Int32) (g : zSg) (r : Int32 × zSg), f_X11_firstOfMost_5 n y1 y2 y3 y4 g = some r → zG d sc hp (zcd zM_X11_firstOfMost) 5 [some (.ref 0), some (.int y1), some (.int y2), some (.int y3), some (.int y4)] [] (gm g) ((some (.int r.1)), gm r.2) := by
  obtain ⟨d, rfl⟩ : ∃ d', d = d' + 1 := ⟨d - 1, by omega⟩
  intro n
  induction n with
  | zero => intro y1 y2 y3 y4 g r h; cases h
  | succ n ih =>
    intro y1 y2 y3 y4 g r h
    replace h : fb_X11_firstOfMost_5 (f_X11_firstOfMost_5 n) y1 y2 y3 y4 g = some r := h
    unfold fb_X11_firstOfMost_5 at h
    refine g_run 2 (pc' := 8) (L' := [some (.ref 0), some (.int y1), some (.int y2), some (.int y3), some (.int y4)]) (S' := [.int y2, .int y4]) (M' := gm g) rfl ?_
    refine g_icmp (y2 ≤ y4) rfl (t := 36) rfl rfl (fun c1 => ?_) (fun c1 => ?_)
    · replace h := (if_pos c1).symm.trans h
      refine g_run 1 (pc' := 37) (L' := [some (.ref 0), some (.int y1), some (.int y2), some (.int y3), some (.int y4)]) (S' := [.int y3]) (M' := gm g) rfl ?_
      cases h
      exact g_ret rfl rfl rfl rfl
    · replace h := (if_neg c1).symm.trans h
      refine g_run 3 (pc' := 15) (L' := [some (.ref 0), some (.int y1), some (.int y2), some (.int y3), some (.int y4)]) (S' := [.int y4, .int y1, .ref 0]) (M' := gm g) rfl ?_
      replace h := zB_of h
      obtain ⟨v2, g3, e4, h⟩ := h
      refine g_inv2 (kd := 1) (p_X11_measure  e4) rfl rfl rfl (by decide) rfl rfl rfl rfl (by omega) (pc' := 18) rfl (S' := [.int v2]) rfl ?_
      refine g_run 3 (pc' := 21) (L' := [some (.ref 0), some (.int y1), some (.int y2), some (.int y3), some (.int y4)]) (S' := [.int y3, .int y1, .ref 0, .int v2]) (M' := gm g3) rfl ?_
      replace h := zB_of h
      obtain ⟨v5, g6, e7, h⟩ := h
      refine g_inv2 (kd := 1) (p_X11_measure  e7) rfl rfl rfl (by decide) rfl rfl rfl rfl (by omega) (pc' := 24) rfl (S' := [.int v5, .int v2]) rfl ?_
      refine g_icmp (v2 ≤ v5) rfl (t := 30) rfl rfl (fun c8 => ?_) (fun c8 => ?_)
      · replace h := (if_pos c8).symm.trans h
        exact p_X11_firstOfMost_30 hD (f_X11_firstOfMost_5 n) ih (y1) (y2) (y3) (y4) g6 _ h
      · replace h := (if_neg c8).symm.trans h
        refine g_run 2 (pc' := 30) (L' := [some (.ref 0), some (.int y1), some (.int y2), some (.int y4), some (.int y4)]) (S' := []) (M' := gm g6) rfl ?_
        exact p_X11_firstOfMost_30 hD (f_X11_firstOfMost_5 n) ih (y1) (y2) (y4) (y4) g6 _ h
def f_X11_firstOfMost (x1 : Int32) (x2 : Int32) (g : zSg) : Option (Int32 × zSg) := f_X11_firstOfMost_5 zFu (x1) (x2) (0) (1) g
set_option maxRecDepth 100000 in
set_option maxHeartbeats 4000000 in
theorem p_X11_firstOfMost {sc : zSc} {hp : zHp} {x1 : Int32} {x2 : Int32} {g : zSg} {r : Int32 × zSg} (h : f_X11_firstOfMost x1 x2 g = some r) : zRn sc hp 4 zM_X11_firstOfMost [.ref 0, .int x1, .int x2] (gm g) (some (.int r.1)) (gm r.2) := by
  intro d hD
  obtain ⟨d, rfl⟩ : ∃ d', d = d' + 1 := ⟨d - 1, by omega⟩
  show zG _ sc hp (zcd zM_X11_firstOfMost) 0 [some (.ref 0), some (.int x1), some (.int x2), none, none] [] (gm g) _
  unfold f_X11_firstOfMost at h
  refine g_run 4 (pc' := 5) (L' := [some (.ref 0), some (.int x1), some (.int x2), some (.int 0), some (.int 1)]) (S' := []) (M' := gm g) rfl ?_
  exact p_X11_firstOfMost_5 hD zFu (x1) (x2) (0) (1) g _ h
