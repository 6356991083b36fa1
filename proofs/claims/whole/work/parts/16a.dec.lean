/-! ===== decompiled functions (by program), 0 ===== -/
def fb_X7_clear_2 (a : Nat) (kk : Int32 → zSg → Option (Unit × zSg)) (y1 : Int32) (g : zSg) : Option (Unit × zSg) := (if (Int32.ofNat (zK0 (a + 1)).2) ≤ y1 then some ((), g) else (if zib y1 (zK0 (a + 1)).2 = true then kk (y1 + 1) (gsI g (a + 1) (ix y1) 0) else none))
def f_X7_clear_2 (a : Nat) : Nat → Int32 → zSg → Option (Unit × zSg)
  | 0, _, _ => none
  | n + 1, y1, g => fb_X7_clear_2 a (f_X7_clear_2 a n) y1 g
set_option maxRecDepth 100000 in
set_option maxHeartbeats 4000000 in
theorem p_X7_clear_2 {sc : zSc} {hp : zHp} {d : Nat} (hD : 0 ≤ d) (a : Nat) (ha : (zK0 a).1 = 7) : ∀ (n : Nat) (y1 : Int32) (g : zSg) (r : Unit × zSg), f_X7_clear_2 a n y1 g = some r → zG d sc hp (zcd zM_X7_clear) 2 [some (.ref a), some (.int y1)] [] (gm g) (none, gm r.2) := by
  intro n
  induction n with
  | zero => intro y1 g r h; cases h
  | succ n ih =>
    intro y1 g r h
    replace h : fb_X7_clear_2 a (f_X7_clear_2 a n) y1 g = some r := h
    unfold fb_X7_clear_2 at h
    refine g_run 2 (pc' := 4) (L' := [some (.ref a), some (.int y1)]) (S' := [.ref a, .int y1]) (M' := gm g) rfl ?_
    refine g_getf rfl (ci := 7) (k := 0) rfl ha (gfv_r0 ha) ?_
    refine g_alen rfl (a := a + 1) (by rw [(zK0_r ha)]; decide) ?_
    refine g_icmp ((Int32.ofNat (zK0 (a + 1)).2) ≤ y1) rfl (t := 24) rfl rfl (fun c1 => ?_) (fun c1 => ?_)
    · replace h := (if_pos c1).symm.trans h
      cases h
      exact g_ret rfl rfl rfl rfl
    · replace h := (if_neg c1).symm.trans h
      refine g_run 1 (pc' := 12) (L' := [some (.ref a), some (.int y1)]) (S' := [.ref a]) (M' := gm g) rfl ?_
      refine g_getf rfl (ci := 7) (k := 0) rfl ha (gfv_r0 ha) ?_
      refine g_run 2 (pc' := 17) (L' := [some (.ref a), some (.int y1)]) (S' := [.int 0, .int y1, .ref (a + 1)]) (M' := gm g) rfl ?_
      by_cases c2 : zib y1 (zK0 (a + 1)).2 = true
      case neg => exact nomatch ((if_neg c2).symm.trans h)
      replace h := (if_pos c2).symm.trans h
      refine g_iast rfl (a := a + 1) (zK0_r ha) c2 ?_
      refine g_run 2 (pc' := 2) (L' := [some (.ref a), some (.int ((y1 + 1)))]) (S' := []) (M' := gm (gsI g (a + 1) (ix y1) 0)) rfl ?_
      exact ih (y1 + 1) (gsI g (a + 1) (ix y1) 0) _ h
def f_X7_clear (a : Nat) (g : zSg) : Option (Unit × zSg) := f_X7_clear_2 a zFu (0) g
set_option maxRecDepth 100000 in
set_option maxHeartbeats 4000000 in
theorem p_X7_clear {sc : zSc} {hp : zHp} (a : Nat) (ha : (zK0 a).1 = 7) {g : zSg} {r : Unit × zSg} (h : f_X7_clear a g = some r) : zRn sc hp 0 zM_X7_clear [.ref a] (gm g) none (gm r.2) := by
  intro d hD
  show zG _ sc hp (zcd zM_X7_clear) 0 [some (.ref a), none] [] (gm g) _
  unfold f_X7_clear at h
  refine g_run 2 (pc' := 2) (L' := [some (.ref a), some (.int 0)]) (S' := []) (M' := gm g) rfl ?_
  exact p_X7_clear_2 hD a ha zFu (0) g _ h
def f_X0_clear (a : Nat) (g : zSg) : Option (Unit × zSg) := (zB (f_X7_clear (a + 1) g) (fun v1 g2 => some ((), (gsI (gsI (gsI g2 (a) 1 0) (a) 2 0) (a) 3 0))))
set_option maxRecDepth 100000 in
set_option maxHeartbeats 4000000 in
theorem p_X0_clear {sc : zSc} {hp : zHp} (a : Nat) (ha : (zK0 a).1 = 0) {g : zSg} {r : Unit × zSg} (h : f_X0_clear a g = some r) : zRn sc hp 1 zM_X0_clear [.ref a] (gm g) none (gm r.2) := by
  intro d hD
  obtain ⟨d, rfl⟩ : ∃ d', d = d' + 1 := ⟨d - 1, by omega⟩
  show zG _ sc hp (zcd zM_X0_clear) 0 [some (.ref a)] [] (gm g) _
  unfold f_X0_clear at h
  refine g_run 1 (pc' := 1) (L' := [some (.ref a)]) (S' := [.ref a]) (M' := gm g) rfl ?_
  refine g_getf rfl (ci := 0) (k := 0) rfl ha (gfv_c0 ha) ?_
  replace h := zB_of h
  obtain ⟨v1, g2, e3, h⟩ := h
  refine g_inv2 (kd := 1) (p_X7_clear (a + 1) (zK0_c ha) e3) rfl rfl rfl (by decide) rfl (g_recv (a := a + 1) rfl (Nat.le_of_ble_eq_true rfl) (Nat.le_of_ble_eq_true rfl) (Nat.le_of_ble_eq_true rfl) (Nat.le_of_ble_eq_true rfl) rfl (zK0_c ha) (Nat.le_of_ble_eq_true rfl)) rfl rfl (by omega) (pc' := 7) rfl (S' := []) rfl ?_
  refine g_run 2 (pc' := 9) (L' := [some (.ref a)]) (S' := [.int 0, .ref a]) (M' := gm g2) rfl ?_
  refine g_putf rfl (ci := 0) (k := 1) rfl (a := a) ha rfl (g' := gsI g2 (a) 1 0) rfl ?_
  refine g_run 2 (pc' := 14) (L' := [some (.ref a)]) (S' := [.int 0, .ref a]) (M' := gm (gsI g2 (a) 1 0)) rfl ?_
  refine g_putf rfl (ci := 0) (k := 2) rfl (a := a) ha rfl (g' := gsI (gsI g2 (a) 1 0) (a) 2 0) rfl ?_
  refine g_run 2 (pc' := 19) (L' := [some (.ref a)]) (S' := [.int 0, .ref a]) (M' := gm (gsI (gsI g2 (a) 1 0) (a) 2 0)) rfl ?_
  refine g_putf rfl (ci := 0) (k := 3) rfl (a := a) ha rfl (g' := gsI (gsI (gsI g2 (a) 1 0) (a) 2 0) (a) 3 0) rfl ?_
  cases h
  exact g_ret rfl rfl rfl rfl
def f_X7_become (a : Nat) (b1 : Nat) (g : zSg) : Option (Unit × zSg) := (if ¬ (0 : Int32) < 0 ∧ ¬ (0 : Int32) < 0 ∧ ¬ (imin (Int32.ofNat (zK0 (a + 1)).2) (Int32.ofNat (zK0 (b1 + 1)).2)) < 0 ∧ ix (0 : Int32) + ix (imin (Int32.ofNat (zK0 (a + 1)).2) (Int32.ofNat (zK0 (b1 + 1)).2)) ≤ (zK0 (b1 + 1)).2 ∧ ix (0 : Int32) + ix (imin (Int32.ofNat (zK0 (a + 1)).2) (Int32.ofNat (zK0 (b1 + 1)).2)) ≤ (zK0 (a + 1)).2 then some ((), (gsRow g (a + 1) (va_cpy (gI g (b1 + 1)) (gI g (a + 1)) (ix (0 : Int32)) (ix (0 : Int32)) (ix (imin (Int32.ofNat (zK0 (a + 1)).2) (Int32.ofNat (zK0 (b1 + 1)).2)))))) else none)
set_option maxRecDepth 100000 in
set_option maxHeartbeats 4000000 in
theorem p_X7_become {sc : zSc} {hp : zHp} (a : Nat) (b1 : Nat) (ha : (zK0 a).1 = 7) (hb1 : (zK0 b1).1 = 7) {g : zSg} {r : Unit × zSg} (h : f_X7_become a b1 g = some r) : zRn sc hp 1 zM_X7_become [.ref a, .ref b1] (gm g) none (gm r.2) := by
  intro d hD
  obtain ⟨d, rfl⟩ : ∃ d', d = d' + 1 := ⟨d - 1, by omega⟩
  show zG _ sc hp (zcd zM_X7_become) 0 [some (.ref a), some (.ref b1)] [] (gm g) _
  unfold f_X7_become at h
  refine g_run 1 (pc' := 1) (L' := [some (.ref a), some (.ref b1)]) (S' := [.ref b1]) (M' := gm g) rfl ?_
  refine g_getf rfl (ci := 7) (k := 0) rfl hb1 (gfv_r0 hb1) ?_
  refine g_run 2 (pc' := 6) (L' := [some (.ref a), some (.ref b1)]) (S' := [.ref a, .int 0, .ref (b1 + 1)]) (M' := gm g) rfl ?_
  refine g_getf rfl (ci := 7) (k := 0) rfl ha (gfv_r0 ha) ?_
  refine g_run 2 (pc' := 11) (L' := [some (.ref a), some (.ref b1)]) (S' := [.ref a, .int 0, .ref (a + 1), .int 0, .ref (b1 + 1)]) (M' := gm g) rfl ?_
  refine g_getf rfl (ci := 7) (k := 0) rfl ha (gfv_r0 ha) ?_
  refine g_alen rfl (a := a + 1) (by rw [(zK0_r ha)]; decide) ?_
  refine g_run 1 (pc' := 16) (L' := [some (.ref a), some (.ref b1)]) (S' := [.ref b1, .int ((Int32.ofNat (zK0 (a + 1)).2)), .int 0, .ref (a + 1), .int 0, .ref (b1 + 1)]) (M' := gm g) rfl ?_
  refine g_getf rfl (ci := 7) (k := 0) rfl hb1 (gfv_r0 hb1) ?_
  refine g_alen rfl (a := b1 + 1) (by rw [(zK0_r hb1)]; decide) ?_
  refine g_spec2 (kd := 0) rfl rfl rfl (by decide) rfl (jd := 1001) rfl (by decide) rfl (Or.inl (by decide)) (S' := [.int ((imin (Int32.ofNat (zK0 (a + 1)).2) (Int32.ofNat (zK0 (b1 + 1)).2))), .int 0, .ref (a + 1), .int 0, .ref (b1 + 1)]) (M' := gm g) rfl rfl (pc' := 23) rfl ?_
  by_cases c1 : ¬ (0 : Int32) < 0 ∧ ¬ (0 : Int32) < 0 ∧ ¬ (imin (Int32.ofNat (zK0 (a + 1)).2) (Int32.ofNat (zK0 (b1 + 1)).2)) < 0 ∧ ix (0 : Int32) + ix (imin (Int32.ofNat (zK0 (a + 1)).2) (Int32.ofNat (zK0 (b1 + 1)).2)) ≤ (zK0 (b1 + 1)).2 ∧ ix (0 : Int32) + ix (imin (Int32.ofNat (zK0 (a + 1)).2) (Int32.ofNat (zK0 (b1 + 1)).2)) ≤ (zK0 (a + 1)).2
  case neg => exact nomatch ((if_neg c1).symm.trans h)
  replace h := (if_pos c1).symm.trans h
  refine g_copy rfl rfl rfl rfl (Nat.le_of_ble_eq_true rfl) (a := b1 + 1) (a1 := a + 1) (zK0_r hb1) (zK0_r ha) c1 ?_
  cases h
  exact g_ret rfl rfl rfl rfl
def f_X7_get (a : Nat) (x1 : Int32) (g : zSg) : Option (Int32 × zSg) := (if x1 < 0 then some (0, g) else (if (Int32.ofNat (zK0 (a + 1)).2) ≤ x1 then some (0, g) else (if zib x1 (zK0 (a + 1)).2 = true then some ((gI g (a + 1) (ix x1)), g) else none)))
set_option maxRecDepth 100000 in
set_option maxHeartbeats 4000000 in
theorem p_X7_get {sc : zSc} {hp : zHp} (a : Nat) (ha : (zK0 a).1 = 7) {x1 : Int32} {g : zSg} {r : Int32 × zSg} (h : f_X7_get a x1 g = some r) : zRn sc hp 0 zM_X7_get [.ref a, .int x1] (gm g) (some (.int r.1)) (gm r.2) := by
  intro d hD
  show zG _ sc hp (zcd zM_X7_get) 0 [some (.ref a), some (.int x1)] [] (gm g) _
  unfold f_X7_get at h
  refine g_run 1 (pc' := 1) (L' := [some (.ref a), some (.int x1)]) (S' := [.int x1]) (M' := gm g) rfl ?_
  refine g_if (x1 < 0) rfl (t := 22) rfl rfl (fun c1 => ?_) (fun c1 => ?_)
  · replace h := (if_pos c1).symm.trans h
    refine g_run 1 (pc' := 23) (L' := [some (.ref a), some (.int x1)]) (S' := [.int 0]) (M' := gm g) rfl ?_
    cases h
    exact g_ret rfl rfl rfl rfl
  · replace h := (if_neg c1).symm.trans h
    refine g_run 2 (pc' := 6) (L' := [some (.ref a), some (.int x1)]) (S' := [.ref a, .int x1]) (M' := gm g) rfl ?_
    refine g_getf rfl (ci := 7) (k := 0) rfl ha (gfv_r0 ha) ?_
    refine g_alen rfl (a := a + 1) (by rw [(zK0_r ha)]; decide) ?_
    refine g_icmp ((Int32.ofNat (zK0 (a + 1)).2) ≤ x1) rfl (t := 22) rfl rfl (fun c2 => ?_) (fun c2 => ?_)
    · replace h := (if_pos c2).symm.trans h
      refine g_run 1 (pc' := 23) (L' := [some (.ref a), some (.int x1)]) (S' := [.int 0]) (M' := gm g) rfl ?_
      cases h
      exact g_ret rfl rfl rfl rfl
    · replace h := (if_neg c2).symm.trans h
      refine g_run 1 (pc' := 14) (L' := [some (.ref a), some (.int x1)]) (S' := [.ref a]) (M' := gm g) rfl ?_
      refine g_getf rfl (ci := 7) (k := 0) rfl ha (gfv_r0 ha) ?_
      refine g_run 1 (pc' := 18) (L' := [some (.ref a), some (.int x1)]) (S' := [.int x1, .ref (a + 1)]) (M' := gm g) rfl ?_
      by_cases c3 : zib x1 (zK0 (a + 1)).2 = true
      case neg => exact nomatch ((if_neg c3).symm.trans h)
      replace h := (if_pos c3).symm.trans h
      refine g_iald rfl (a := a + 1) (zK0_r ha) c3 ?_
      refine g_run 1 (pc' := 23) (L' := [some (.ref a), some (.int x1)]) (S' := [.int ((gI g (a + 1) (ix x1)))]) (M' := gm g) rfl ?_
      cases h
      exact g_ret rfl rfl rfl rfl
def f_X0_become (a : Nat) (b1 : Nat) (g : zSg) : Option (Unit × zSg) := (zB (f_X7_become (a + 1) (b1 + 1) g) (fun v1 g2 => (zB (f_X7_get (a + 1) 0 g2) (fun v4 g5 => some ((), (gsI (gsI (gsI g5 (a) 1 v4) (a) 2 (gI (gsI g5 (a) 1 v4) (b1) 2)) (a) 3 (gI (gsI (gsI g5 (a) 1 v4) (a) 2 (gI (gsI g5 (a) 1 v4) (b1) 2)) (b1) 3)))))))
set_option maxRecDepth 100000 in
set_option maxHeartbeats 4000000 in
theorem p_X0_become {sc : zSc} {hp : zHp} (a : Nat) (b1 : Nat) (ha : (zK0 a).1 = 0) (hb1 : (zK0 b1).1 = 0) {g : zSg} {r : Unit × zSg} (h : f_X0_become a b1 g = some r) : zRn sc hp 2 zM_X0_become [.ref a, .ref b1] (gm g) none (gm r.2) := by
  intro d hD
  obtain ⟨d, rfl⟩ : ∃ d', d = d' + 1 := ⟨d - 1, by omega⟩
  show zG _ sc hp (zcd zM_X0_become) 0 [some (.ref a), some (.ref b1)] [] (gm g) _
  unfold f_X0_become at h
  refine g_run 1 (pc' := 1) (L' := [some (.ref a), some (.ref b1)]) (S' := [.ref a]) (M' := gm g) rfl ?_
  refine g_getf rfl (ci := 0) (k := 0) rfl ha (gfv_c0 ha) ?_
  refine g_run 1 (pc' := 5) (L' := [some (.ref a), some (.ref b1)]) (S' := [.ref b1, .ref (a + 1)]) (M' := gm g) rfl ?_
  refine g_getf rfl (ci := 0) (k := 0) rfl hb1 (gfv_c0 hb1) ?_
  replace h := zB_of h
  obtain ⟨v1, g2, e3, h⟩ := h
  refine g_inv2 (kd := 1) (p_X7_become (a + 1) (b1 + 1) (zK0_c ha) (zK0_c hb1) e3) rfl rfl rfl (by decide) rfl (g_recv (a := a + 1) rfl (Nat.le_of_ble_eq_true rfl) (Nat.le_of_ble_eq_true rfl) (Nat.le_of_ble_eq_true rfl) (Nat.le_of_ble_eq_true rfl) rfl (zK0_c ha) (Nat.le_of_ble_eq_true rfl)) rfl rfl (by omega) (pc' := 11) rfl (S' := []) rfl ?_
  refine g_run 2 (pc' := 13) (L' := [some (.ref a), some (.ref b1)]) (S' := [.ref a, .ref a]) (M' := gm g2) rfl ?_
  refine g_getf rfl (ci := 0) (k := 0) rfl ha (gfv_c0 ha) ?_
  refine g_run 1 (pc' := 17) (L' := [some (.ref a), some (.ref b1)]) (S' := [.int 0, .ref (a + 1), .ref a]) (M' := gm g2) rfl ?_
  replace h := zB_of h
  obtain ⟨v4, g5, e6, h⟩ := h
  refine g_inv2 (kd := 1) (p_X7_get (a + 1) (zK0_c ha) e6) rfl rfl rfl (by decide) rfl (g_recv (a := a + 1) rfl (Nat.le_of_ble_eq_true rfl) (Nat.le_of_ble_eq_true rfl) (Nat.le_of_ble_eq_true rfl) (Nat.le_of_ble_eq_true rfl) rfl (zK0_c ha) (Nat.le_of_ble_eq_true rfl)) rfl rfl (by omega) (pc' := 20) rfl (S' := [.int v4, .ref a]) rfl ?_
  refine g_putf rfl (ci := 0) (k := 1) rfl (a := a) ha rfl (g' := gsI g5 (a) 1 v4) rfl ?_
  refine g_run 2 (pc' := 25) (L' := [some (.ref a), some (.ref b1)]) (S' := [.ref b1, .ref a]) (M' := gm (gsI g5 (a) 1 v4)) rfl ?_
  refine g_getf rfl (ci := 0) (k := 2) rfl hb1 rfl ?_
  refine g_putf rfl (ci := 0) (k := 2) rfl (a := a) ha rfl (g' := gsI (gsI g5 (a) 1 v4) (a) 2 (gI (gsI g5 (a) 1 v4) (b1) 2)) rfl ?_
  refine g_run 2 (pc' := 33) (L' := [some (.ref a), some (.ref b1)]) (S' := [.ref b1, .ref a]) (M' := gm (gsI (gsI g5 (a) 1 v4) (a) 2 (gI (gsI g5 (a) 1 v4) (b1) 2))) rfl ?_
  refine g_getf rfl (ci := 0) (k := 3) rfl hb1 rfl ?_
  refine g_putf rfl (ci := 0) (k := 3) rfl (a := a) ha rfl (g' := gsI (gsI (gsI g5 (a) 1 v4) (a) 2 (gI (gsI g5 (a) 1 v4) (b1) 2)) (a) 3 (gI (gsI (gsI g5 (a) 1 v4) (a) 2 (gI (gsI g5 (a) 1 v4) (b1) 2)) (b1) 3)) rfl ?_
  cases h
  exact g_ret rfl rfl rfl rfl
def f_X0_addPerson (a : Nat) (g : zSg) : Option (Int32 × zSg) := some ((5 + (3 * ((gI (gsI g (a) 2 ((gI g (a) 2) + 1)) (a) 2) - 1))), (gsI g (a) 2 ((gI g (a) 2) + 1)))
set_option maxRecDepth 100000 in
set_option maxHeartbeats 4000000 in
theorem p_X0_addPerson {sc : zSc} {hp : zHp} (a : Nat) (ha : (zK0 a).1 = 0) {g : zSg} {r : Int32 × zSg} (h : f_X0_addPerson a g = some r) : zRn sc hp 0 zM_X0_addPerson [.ref a] (gm g) (some (.int r.1)) (gm r.2) := by
  intro d hD
  show zG _ sc hp (zcd zM_X0_addPerson) 0 [some (.ref a)] [] (gm g) _
  unfold f_X0_addPerson at h
  refine g_run 2 (pc' := 2) (L' := [some (.ref a)]) (S' := [.ref a, .ref a]) (M' := gm g) rfl ?_
  refine g_getf rfl (ci := 0) (k := 2) rfl ha rfl ?_
  refine g_run 2 (pc' := 7) (L' := [some (.ref a)]) (S' := [.int (((gI g (a) 2) + 1)), .ref a]) (M' := gm g) rfl ?_
  refine g_putf rfl (ci := 0) (k := 2) rfl (a := a) ha rfl (g' := gsI g (a) 2 ((gI g (a) 2) + 1)) rfl ?_
  refine g_run 3 (pc' := 13) (L' := [some (.ref a)]) (S' := [.ref a, .int 3, .int 5]) (M' := gm (gsI g (a) 2 ((gI g (a) 2) + 1))) rfl ?_
  refine g_getf rfl (ci := 0) (k := 2) rfl ha rfl ?_
  refine g_run 4 (pc' := 20) (L' := [some (.ref a)]) (S' := [.int ((5 + (3 * ((gI (gsI g (a) 2 ((gI g (a) 2) + 1)) (a) 2) - 1))))]) (M' := gm (gsI g (a) 2 ((gI g (a) 2) + 1))) rfl ?_
  cases h
  exact g_ret rfl rfl rfl rfl
def f_X0_addSecret (a : Nat) (g : zSg) : Option (Int32 × zSg) := some ((23 + (4 * ((gI (gsI g (a) 3 ((gI g (a) 3) + 1)) (a) 3) - 1))), (gsI g (a) 3 ((gI g (a) 3) + 1)))
set_option maxRecDepth 100000 in
set_option maxHeartbeats 4000000 in
theorem p_X0_addSecret {sc : zSc} {hp : zHp} (a : Nat) (ha : (zK0 a).1 = 0) {g : zSg} {r : Int32 × zSg} (h : f_X0_addSecret a g = some r) : zRn sc hp 0 zM_X0_addSecret [.ref a] (gm g) (some (.int r.1)) (gm r.2) := by
  intro d hD
  show zG _ sc hp (zcd zM_X0_addSecret) 0 [some (.ref a)] [] (gm g) _
  unfold f_X0_addSecret at h
  refine g_run 2 (pc' := 2) (L' := [some (.ref a)]) (S' := [.ref a, .ref a]) (M' := gm g) rfl ?_
  refine g_getf rfl (ci := 0) (k := 3) rfl ha rfl ?_
  refine g_run 2 (pc' := 7) (L' := [some (.ref a)]) (S' := [.int (((gI g (a) 3) + 1)), .ref a]) (M' := gm g) rfl ?_
  refine g_putf rfl (ci := 0) (k := 3) rfl (a := a) ha rfl (g' := gsI g (a) 3 ((gI g (a) 3) + 1)) rfl ?_
  refine g_run 3 (pc' := 14) (L' := [some (.ref a)]) (S' := [.ref a, .int 4, .int 23]) (M' := gm (gsI g (a) 3 ((gI g (a) 3) + 1))) rfl ?_
  refine g_getf rfl (ci := 0) (k := 3) rfl ha rfl ?_
  refine g_run 4 (pc' := 21) (L' := [some (.ref a)]) (S' := [.int ((23 + (4 * ((gI (gsI g (a) 3 ((gI g (a) 3) + 1)) (a) 3) - 1))))]) (M' := gm (gsI g (a) 3 ((gI g (a) 3) + 1))) rfl ?_
  cases h
  exact g_ret rfl rfl rfl rfl
def f_X0_isTold (a : Nat) (g : zSg) : Option (Int32 × zSg) := (if (gI g (a) 2) ≤ 0 then some (0, g) else some (1, g))
set_option maxRecDepth 100000 in
set_option maxHeartbeats 4000000 in
theorem p_X0_isTold {sc : zSc} {hp : zHp} (a : Nat) (ha : (zK0 a).1 = 0) {g : zSg} {r : Int32 × zSg} (h : f_X0_isTold a g = some r) : zRn sc hp 0 zM_X0_isTold [.ref a] (gm g) (some (.int r.1)) (gm r.2) := by
  intro d hD
  show zG _ sc hp (zcd zM_X0_isTold) 0 [some (.ref a)] [] (gm g) _
  unfold f_X0_isTold at h
  refine g_run 1 (pc' := 1) (L' := [some (.ref a)]) (S' := [.ref a]) (M' := gm g) rfl ?_
  refine g_getf rfl (ci := 0) (k := 2) rfl ha rfl ?_
  refine g_if ((gI g (a) 2) ≤ 0) rfl (t := 11) rfl rfl (fun c1 => ?_) (fun c1 => ?_)
  · replace h := (if_pos c1).symm.trans h
    refine g_run 1 (pc' := 12) (L' := [some (.ref a)]) (S' := [.int 0]) (M' := gm g) rfl ?_
    cases h
    exact g_ret rfl rfl rfl rfl
  · replace h := (if_neg c1).symm.trans h
    refine g_run 2 (pc' := 12) (L' := [some (.ref a)]) (S' := [.int 1]) (M' := gm g) rfl ?_
    cases h
    exact g_ret rfl rfl rfl rfl
def f_X0_wide (a : Nat) (g : zSg) : Option (Int32 × zSg) := some ((gI g (a) 1), g)
set_option maxRecDepth 100000 in
set_option maxHeartbeats 4000000 in
theorem p_X0_wide {sc : zSc} {hp : zHp} (a : Nat) (ha : (zK0 a).1 = 0) {g : zSg} {r : Int32 × zSg} (h : f_X0_wide a g = some r) : zRn sc hp 0 zM_X0_wide [.ref a] (gm g) (some (.int r.1)) (gm r.2) := by
  intro d hD
  show zG _ sc hp (zcd zM_X0_wide) 0 [some (.ref a)] [] (gm g) _
  unfold f_X0_wide at h
  refine g_run 1 (pc' := 1) (L' := [some (.ref a)]) (S' := [.ref a]) (M' := gm g) rfl ?_
  refine g_getf rfl (ci := 0) (k := 1) rfl ha rfl ?_
  cases h
  exact g_ret rfl rfl rfl rfl
def f_X0_rows (a : Nat) (g : zSg) : Option (Int32 × zSg) := (zB (f_X7_get (a + 1) 1 g) (fun v1 g2 => some (v1, g2)))
set_option maxRecDepth 100000 in
set_option maxHeartbeats 4000000 in
theorem p_X0_rows {sc : zSc} {hp : zHp} (a : Nat) (ha : (zK0 a).1 = 0) {g : zSg} {r : Int32 × zSg} (h : f_X0_rows a g = some r) : zRn sc hp 1 zM_X0_rows [.ref a] (gm g) (some (.int r.1)) (gm r.2) := by
  intro d hD
  obtain ⟨d, rfl⟩ : ∃ d', d = d' + 1 := ⟨d - 1, by omega⟩
  show zG _ sc hp (zcd zM_X0_rows) 0 [some (.ref a)] [] (gm g) _
  unfold f_X0_rows at h
  refine g_run 1 (pc' := 1) (L' := [some (.ref a)]) (S' := [.ref a]) (M' := gm g) rfl ?_
  refine g_getf rfl (ci := 0) (k := 0) rfl ha (gfv_c0 ha) ?_
  refine g_run 1 (pc' := 5) (L' := [some (.ref a)]) (S' := [.int 1, .ref (a + 1)]) (M' := gm g) rfl ?_
  replace h := zB_of h
  obtain ⟨v1, g2, e3, h⟩ := h
  refine g_inv2 (kd := 1) (p_X7_get (a + 1) (zK0_c ha) e3) rfl rfl rfl (by decide) rfl (g_recv (a := a + 1) rfl (Nat.le_of_ble_eq_true rfl) (Nat.le_of_ble_eq_true rfl) (Nat.le_of_ble_eq_true rfl) (Nat.le_of_ble_eq_true rfl) rfl (zK0_c ha) (Nat.le_of_ble_eq_true rfl)) rfl rfl (by omega) (pc' := 8) rfl (S' := [.int v1]) rfl ?_
  cases h
  exact g_ret rfl rfl rfl rfl
def f_X0_oakTold (a : Nat) (g : zSg) : Option (Int32 × zSg) := (zB (f_X7_get (a + 1) 2 g) (fun v1 g2 => some (v1, g2)))
set_option maxRecDepth 100000 in
set_option maxHeartbeats 4000000 in
theorem p_X0_oakTold {sc : zSc} {hp : zHp} (a : Nat) (ha : (zK0 a).1 = 0) {g : zSg} {r : Int32 × zSg} (h : f_X0_oakTold a g = some r) : zRn sc hp 1 zM_X0_oakTold [.ref a] (gm g) (some (.int r.1)) (gm r.2) := by
  intro d hD
  obtain ⟨d, rfl⟩ : ∃ d', d = d' + 1 := ⟨d - 1, by omega⟩
  show zG _ sc hp (zcd zM_X0_oakTold) 0 [some (.ref a)] [] (gm g) _
  unfold f_X0_oakTold at h
  refine g_run 1 (pc' := 1) (L' := [some (.ref a)]) (S' := [.ref a]) (M' := gm g) rfl ?_
  refine g_getf rfl (ci := 0) (k := 0) rfl ha (gfv_c0 ha) ?_
  refine g_run 1 (pc' := 5) (L' := [some (.ref a)]) (S' := [.int 2, .ref (a + 1)]) (M' := gm g) rfl ?_
  replace h := zB_of h
  obtain ⟨v1, g2, e3, h⟩ := h
  refine g_inv2 (kd := 1) (p_X7_get (a + 1) (zK0_c ha) e3) rfl rfl rfl (by decide) rfl (g_recv (a := a + 1) rfl (Nat.le_of_ble_eq_true rfl) (Nat.le_of_ble_eq_true rfl) (Nat.le_of_ble_eq_true rfl) (Nat.le_of_ble_eq_true rfl) rfl (zK0_c ha) (Nat.le_of_ble_eq_true rfl)) rfl rfl (by omega) (pc' := 8) rfl (S' := [.int v1]) rfl ?_
  cases h
  exact g_ret rfl rfl rfl rfl
def f_X0_coinsTold (a : Nat) (g : zSg) : Option (Int32 × zSg) := (zB (f_X7_get (a + 1) 3 g) (fun v1 g2 => some (v1, g2)))
set_option maxRecDepth 100000 in
set_option maxHeartbeats 4000000 in
theorem p_X0_coinsTold {sc : zSc} {hp : zHp} (a : Nat) (ha : (zK0 a).1 = 0) {g : zSg} {r : Int32 × zSg} (h : f_X0_coinsTold a g = some r) : zRn sc hp 1 zM_X0_coinsTold [.ref a] (gm g) (some (.int r.1)) (gm r.2) := by
  intro d hD
  obtain ⟨d, rfl⟩ : ∃ d', d = d' + 1 := ⟨d - 1, by omega⟩
  show zG _ sc hp (zcd zM_X0_coinsTold) 0 [some (.ref a)] [] (gm g) _
  unfold f_X0_coinsTold at h
  refine g_run 1 (pc' := 1) (L' := [some (.ref a)]) (S' := [.ref a]) (M' := gm g) rfl ?_
  refine g_getf rfl (ci := 0) (k := 0) rfl ha (gfv_c0 ha) ?_
  refine g_run 1 (pc' := 5) (L' := [some (.ref a)]) (S' := [.int 3, .ref (a + 1)]) (M' := gm g) rfl ?_
  replace h := zB_of h
  obtain ⟨v1, g2, e3, h⟩ := h
  refine g_inv2 (kd := 1) (p_X7_get (a + 1) (zK0_c ha) e3) rfl rfl rfl (by decide) rfl (g_recv (a := a + 1) rfl (Nat.le_of_ble_eq_true rfl) (Nat.le_of_ble_eq_true rfl) (Nat.le_of_ble_eq_true rfl) (Nat.le_of_ble_eq_true rfl) rfl (zK0_c ha) (Nat.le_of_ble_eq_true rfl)) rfl rfl (by omega) (pc' := 8) rfl (S' := [.int v1]) rfl ?_
  cases h
  exact g_ret rfl rfl rfl rfl
def f_X0_windTold (a : Nat) (g : zSg) : Option (Int32 × zSg) := (zB (f_X7_get (a + 1) 4 g) (fun v1 g2 => some (v1, g2)))
set_option maxRecDepth 100000 in
set_option maxHeartbeats 4000000 in
theorem p_X0_windTold {sc : zSc} {hp : zHp} (a : Nat) (ha : (zK0 a).1 = 0) {g : zSg} {r : Int32 × zSg} (h : f_X0_windTold a g = some r) : zRn sc hp 1 zM_X0_windTold [.ref a] (gm g) (some (.int r.1)) (gm r.2) := by
  intro d hD
  obtain ⟨d, rfl⟩ : ∃ d', d = d' + 1 := ⟨d - 1, by omega⟩
  show zG _ sc hp (zcd zM_X0_windTold) 0 [some (.ref a)] [] (gm g) _
  unfold f_X0_windTold at h
  refine g_run 1 (pc' := 1) (L' := [some (.ref a)]) (S' := [.ref a]) (M' := gm g) rfl ?_
  refine g_getf rfl (ci := 0) (k := 0) rfl ha (gfv_c0 ha) ?_
  refine g_run 1 (pc' := 5) (L' := [some (.ref a)]) (S' := [.int 4, .ref (a + 1)]) (M' := gm g) rfl ?_
  replace h := zB_of h
  obtain ⟨v1, g2, e3, h⟩ := h
  refine g_inv2 (kd := 1) (p_X7_get (a + 1) (zK0_c ha) e3) rfl rfl rfl (by decide) rfl (g_recv (a := a + 1) rfl (Nat.le_of_ble_eq_true rfl) (Nat.le_of_ble_eq_true rfl) (Nat.le_of_ble_eq_true rfl) (Nat.le_of_ble_eq_true rfl) rfl (zK0_c ha) (Nat.le_of_ble_eq_true rfl)) rfl rfl (by omega) (pc' := 8) rfl (S' := [.int v1]) rfl ?_
  cases h
  exact g_ret rfl rfl rfl rfl
def f_X0_cells (a : Nat) (g : zSg) : Option (Int32 × zSg) := (zB (f_X0_rows a g) (fun v1 g2 => some (((gI g (a) 1) * v1), g2)))
set_option maxRecDepth 100000 in
set_option maxHeartbeats 4000000 in
theorem p_X0_cells {sc : zSc} {hp : zHp} (a : Nat) (ha : (zK0 a).1 = 0) {g : zSg} {r : Int32 × zSg} (h : f_X0_cells a g = some r) : zRn sc hp 2 zM_X0_cells [.ref a] (gm g) (some (.int r.1)) (gm r.2) := by
  intro d hD
  obtain ⟨d, rfl⟩ : ∃ d', d = d' + 1 := ⟨d - 1, by omega⟩
  show zG _ sc hp (zcd zM_X0_cells) 0 [some (.ref a)] [] (gm g) _
  unfold f_X0_cells at h
  refine g_run 1 (pc' := 1) (L' := [some (.ref a)]) (S' := [.ref a]) (M' := gm g) rfl ?_
  refine g_getf rfl (ci := 0) (k := 1) rfl ha rfl ?_
  refine g_run 1 (pc' := 5) (L' := [some (.ref a)]) (S' := [.ref a, .int ((gI g (a) 1))]) (M' := gm g) rfl ?_
  replace h := zB_of h
  obtain ⟨v1, g2, e3, h⟩ := h
  refine g_inv2 (kd := 1) (p_X0_rows a ha e3) rfl rfl rfl (by decide) rfl (g_recv (a := a) rfl (Nat.le_of_ble_eq_true rfl) (Nat.le_of_ble_eq_true rfl) (Nat.le_of_ble_eq_true rfl) (Nat.le_of_ble_eq_true rfl) rfl ha (Nat.le_of_ble_eq_true rfl)) rfl rfl (by omega) (pc' := 8) rfl (S' := [.int v1, .int ((gI g (a) 1))]) rfl ?_
  refine g_run 1 (pc' := 9) (L' := [some (.ref a)]) (S' := [.int (((gI g (a) 1) * v1))]) (M' := gm g2) rfl ?_
  cases h
  exact g_ret rfl rfl rfl rfl
def f_X0_persons (a : Nat) (g : zSg) : Option (Int32 × zSg) := some ((gI g (a) 2), g)
set_option maxRecDepth 100000 in
set_option maxHeartbeats 4000000 in
theorem p_X0_persons {sc : zSc} {hp : zHp} (a : Nat) (ha : (zK0 a).1 = 0) {g : zSg} {r : Int32 × zSg} (h : f_X0_persons a g = some r) : zRn sc hp 0 zM_X0_persons [.ref a] (gm g) (some (.int r.1)) (gm r.2) := by
  intro d hD
  show zG _ sc hp (zcd zM_X0_persons) 0 [some (.ref a)] [] (gm g) _
  unfold f_X0_persons at h
  refine g_run 1 (pc' := 1) (L' := [some (.ref a)]) (S' := [.ref a]) (M' := gm g) rfl ?_
  refine g_getf rfl (ci := 0) (k := 2) rfl ha rfl ?_
  cases h
  exact g_ret rfl rfl rfl rfl
def f_X0_secrets (a : Nat) (g : zSg) : Option (Int32 × zSg) := some ((gI g (a) 3), g)
set_option maxRecDepth 100000 in
set_option maxHeartbeats 4000000 in
theorem p_X0_secrets {sc : zSc} {hp : zHp} (a : Nat) (ha : (zK0 a).1 = 0) {g : zSg} {r : Int32 × zSg} (h : f_X0_secrets a g = some r) : zRn sc hp 0 zM_X0_secrets [.ref a] (gm g) (some (.int r.1)) (gm r.2) := by
  intro d hD
  show zG _ sc hp (zcd zM_X0_secrets) 0 [some (.ref a)] [] (gm g) _
  unfold f_X0_secrets at h
  refine g_run 1 (pc' := 1) (L' := [some (.ref a)]) (S' := [.ref a]) (M' := gm g) rfl ?_
  refine g_getf rfl (ci := 0) (k := 3) rfl ha rfl ?_
  cases h
  exact g_ret rfl rfl rfl rfl
def f_X0_hasCell (a : Nat) (x1 : Int32) (g : zSg) : Option (Int32 × zSg) := (if x1 < 0 then some (0, g) else (zB (f_X0_cells a g) (fun v2 g3 => (if v2 ≤ x1 then some (0, g3) else some (1, g3)))))
set_option maxRecDepth 100000 in
set_option maxHeartbeats 4000000 in
theorem p_X0_hasCell {sc : zSc} {hp : zHp} (a : Nat) (ha : (zK0 a).1 = 0) {x1 : Int32} {g : zSg} {r : Int32 × zSg} (h : f_X0_hasCell a x1 g = some r) : zRn sc hp 3 zM_X0_hasCell [.ref a, .int x1] (gm g) (some (.int r.1)) (gm r.2) := by
  intro d hD
  obtain ⟨d, rfl⟩ : ∃ d', d = d' + 1 := ⟨d - 1, by omega⟩
  show zG _ sc hp (zcd zM_X0_hasCell) 0 [some (.ref a), some (.int x1)] [] (gm g) _
  unfold f_X0_hasCell at h
  refine g_run 1 (pc' := 1) (L' := [some (.ref a), some (.int x1)]) (S' := [.int x1]) (M' := gm g) rfl ?_
  refine g_if (x1 < 0) rfl (t := 16) rfl rfl (fun c1 => ?_) (fun c1 => ?_)
  · replace h := (if_pos c1).symm.trans h
    refine g_run 1 (pc' := 17) (L' := [some (.ref a), some (.int x1)]) (S' := [.int 0]) (M' := gm g) rfl ?_
    cases h
    exact g_ret rfl rfl rfl rfl
  · replace h := (if_neg c1).symm.trans h
    refine g_run 2 (pc' := 6) (L' := [some (.ref a), some (.int x1)]) (S' := [.ref a, .int x1]) (M' := gm g) rfl ?_
    replace h := zB_of h
    obtain ⟨v2, g3, e4, h⟩ := h
    refine g_inv2 (kd := 1) (p_X0_cells a ha e4) rfl rfl rfl (by decide) rfl (g_recv (a := a) rfl (Nat.le_of_ble_eq_true rfl) (Nat.le_of_ble_eq_true rfl) (Nat.le_of_ble_eq_true rfl) (Nat.le_of_ble_eq_true rfl) rfl ha (Nat.le_of_ble_eq_true rfl)) rfl rfl (by omega) (pc' := 9) rfl (S' := [.int v2, .int x1]) rfl ?_
    refine g_icmp (v2 ≤ x1) rfl (t := 16) rfl rfl (fun c5 => ?_) (fun c5 => ?_)
    · replace h := (if_pos c5).symm.trans h
      refine g_run 1 (pc' := 17) (L' := [some (.ref a), some (.int x1)]) (S' := [.int 0]) (M' := gm g3) rfl ?_
      cases h
      exact g_ret rfl rfl rfl rfl
    · replace h := (if_neg c5).symm.trans h
      refine g_run 2 (pc' := 17) (L' := [some (.ref a), some (.int x1)]) (S' := [.int 1]) (M' := gm g3) rfl ?_
      cases h
      exact g_ret rfl rfl rfl rfl
def f_X0_hasPerson (a : Nat) (x1 : Int32) (g : zSg) : Option (Int32 × zSg) := (if x1 < 0 then some (0, g) else (if (gI g (a) 2) ≤ x1 then some (0, g) else some (1, g)))
set_option maxRecDepth 100000 in
set_option maxHeartbeats 4000000 in
theorem p_X0_hasPerson {sc : zSc} {hp : zHp} (a : Nat) (ha : (zK0 a).1 = 0) {x1 : Int32} {g : zSg} {r : Int32 × zSg} (h : f_X0_hasPerson a x1 g = some r) : zRn sc hp 0 zM_X0_hasPerson [.ref a, .int x1] (gm g) (some (.int r.1)) (gm r.2) := by
  intro d hD
  show zG _ sc hp (zcd zM_X0_hasPerson) 0 [some (.ref a), some (.int x1)] [] (gm g) _
  unfold f_X0_hasPerson at h
  refine g_run 1 (pc' := 1) (L' := [some (.ref a), some (.int x1)]) (S' := [.int x1]) (M' := gm g) rfl ?_
  refine g_if (x1 < 0) rfl (t := 16) rfl rfl (fun c1 => ?_) (fun c1 => ?_)
  · replace h := (if_pos c1).symm.trans h
    refine g_run 1 (pc' := 17) (L' := [some (.ref a), some (.int x1)]) (S' := [.int 0]) (M' := gm g) rfl ?_
    cases h
    exact g_ret rfl rfl rfl rfl
  · replace h := (if_neg c1).symm.trans h
    refine g_run 2 (pc' := 6) (L' := [some (.ref a), some (.int x1)]) (S' := [.ref a, .int x1]) (M' := gm g) rfl ?_
    refine g_getf rfl (ci := 0) (k := 2) rfl ha rfl ?_
    refine g_icmp ((gI g (a) 2) ≤ x1) rfl (t := 16) rfl rfl (fun c2 => ?_) (fun c2 => ?_)
    · replace h := (if_pos c2).symm.trans h
      refine g_run 1 (pc' := 17) (L' := [some (.ref a), some (.int x1)]) (S' := [.int 0]) (M' := gm g) rfl ?_
      cases h
      exact g_ret rfl rfl rfl rfl
    · replace h := (if_neg c2).symm.trans h
      refine g_run 2 (pc' := 17) (L' := [some (.ref a), some (.int x1)]) (S' := [.int 1]) (M' := gm g) rfl ?_
      cases h
      exact g_ret rfl rfl rfl rfl
def f_X0_hasSecret (a : Nat) (x1 : Int32) (g : zSg) : Option (Int32 × zSg) := (if x1 < 0 then some (0, g) else (if (gI g (a) 3) ≤ x1 then some (0, g) else some (1, g)))
set_option maxRecDepth 100000 in
set_option maxHeartbeats 4000000 in
theorem p_X0_hasSecret {sc : zSc} {hp : zHp} (a : Nat) (ha : (zK0 a).1 = 0) {x1 : Int32} {g : zSg} {r : Int32 × zSg} (h : f_X0_hasSecret a x1 g = some r) : zRn sc hp 0 zM_X0_hasSecret [.ref a, .int x1] (gm g) (some (.int r.1)) (gm r.2) := by
  intro d hD
  show zG _ sc hp (zcd zM_X0_hasSecret) 0 [some (.ref a), some (.int x1)] [] (gm g) _
  unfold f_X0_hasSecret at h
  refine g_run 1 (pc' := 1) (L' := [some (.ref a), some (.int x1)]) (S' := [.int x1]) (M' := gm g) rfl ?_
  refine g_if (x1 < 0) rfl (t := 16) rfl rfl (fun c1 => ?_) (fun c1 => ?_)
  · replace h := (if_pos c1).symm.trans h
    refine g_run 1 (pc' := 17) (L' := [some (.ref a), some (.int x1)]) (S' := [.int 0]) (M' := gm g) rfl ?_
    cases h
    exact g_ret rfl rfl rfl rfl
  · replace h := (if_neg c1).symm.trans h
    refine g_run 2 (pc' := 6) (L' := [some (.ref a), some (.int x1)]) (S' := [.ref a, .int x1]) (M' := gm g) rfl ?_
    refine g_getf rfl (ci := 0) (k := 3) rfl ha rfl ?_
    refine g_icmp ((gI g (a) 3) ≤ x1) rfl (t := 16) rfl rfl (fun c2 => ?_) (fun c2 => ?_)
    · replace h := (if_pos c2).symm.trans h
      refine g_run 1 (pc' := 17) (L' := [some (.ref a), some (.int x1)]) (S' := [.int 0]) (M' := gm g) rfl ?_
      cases h
      exact g_ret rfl rfl rfl rfl
    · replace h := (if_neg c2).symm.trans h
      refine g_run 2 (pc' := 17) (L' := [some (.ref a), some (.int x1)]) (S' := [.int 1]) (M' := gm g) rfl ?_
      cases h
      exact g_ret rfl rfl rfl rfl
def f_X0_hasBoth (a : Nat) (x1 : Int32) (x2 : Int32) (g : zSg) : Option (Int32 × zSg) := (zB (f_X0_hasPerson a x1 g) (fun v1 g2 => (if v1 = 0 then some (0, g2) else (zB (f_X0_hasSecret a x2 g2) (fun v5 g6 => (if v5 = 0 then some (0, g6) else some (1, g6)))))))
set_option maxRecDepth 100000 in
set_option maxHeartbeats 4000000 in
theorem p_X0_hasBoth {sc : zSc} {hp : zHp} (a : Nat) (ha : (zK0 a).1 = 0) {x1 : Int32} {x2 : Int32} {g : zSg} {r : Int32 × zSg} (h : f_X0_hasBoth a x1 x2 g = some r) : zRn sc hp 1 zM_X0_hasBoth [.ref a, .int x1, .int x2] (gm g) (some (.int r.1)) (gm r.2) := by
  intro d hD
  obtain ⟨d, rfl⟩ : ∃ d', d = d' + 1 := ⟨d - 1, by omega⟩
  show zG _ sc hp (zcd zM_X0_hasBoth) 0 [some (.ref a), some (.int x1), some (.int x2)] [] (gm g) _
  unfold f_X0_hasBoth at h
  refine g_run 2 (pc' := 2) (L' := [some (.ref a), some (.int x1), some (.int x2)]) (S' := [.int x1, .ref a]) (M' := gm g) rfl ?_
  replace h := zB_of h
  obtain ⟨v1, g2, e3, h⟩ := h
  refine g_inv2 (kd := 1) (p_X0_hasPerson a ha e3) rfl rfl rfl (by decide) rfl (g_recv (a := a) rfl (Nat.le_of_ble_eq_true rfl) (Nat.le_of_ble_eq_true rfl) (Nat.le_of_ble_eq_true rfl) (Nat.le_of_ble_eq_true rfl) rfl ha (Nat.le_of_ble_eq_true rfl)) rfl rfl (by omega) (pc' := 5) rfl (S' := [.int v1]) rfl ?_
  refine g_if (v1 = 0) rfl (t := 20) rfl rfl (fun c4 => ?_) (fun c4 => ?_)
  · replace h := (if_pos c4).symm.trans h
    refine g_run 1 (pc' := 21) (L' := [some (.ref a), some (.int x1), some (.int x2)]) (S' := [.int 0]) (M' := gm g2) rfl ?_
    cases h
    exact g_ret rfl rfl rfl rfl
  · replace h := (if_neg c4).symm.trans h
    refine g_run 2 (pc' := 10) (L' := [some (.ref a), some (.int x1), some (.int x2)]) (S' := [.int x2, .ref a]) (M' := gm g2) rfl ?_
    replace h := zB_of h
    obtain ⟨v5, g6, e7, h⟩ := h
    refine g_inv2 (kd := 1) (p_X0_hasSecret a ha e7) rfl rfl rfl (by decide) rfl (g_recv (a := a) rfl (Nat.le_of_ble_eq_true rfl) (Nat.le_of_ble_eq_true rfl) (Nat.le_of_ble_eq_true rfl) (Nat.le_of_ble_eq_true rfl) rfl ha (Nat.le_of_ble_eq_true rfl)) rfl rfl (by omega) (pc' := 13) rfl (S' := [.int v5]) rfl ?_
    refine g_if (v5 = 0) rfl (t := 20) rfl rfl (fun c8 => ?_) (fun c8 => ?_)
    · replace h := (if_pos c8).symm.trans h
      refine g_run 1 (pc' := 21) (L' := [some (.ref a), some (.int x1), some (.int x2)]) (S' := [.int 0]) (M' := gm g6) rfl ?_
      cases h
      exact g_ret rfl rfl rfl rfl
    · replace h := (if_neg c8).symm.trans h
      refine g_run 2 (pc' := 21) (L' := [some (.ref a), some (.int x1), some (.int x2)]) (S' := [.int 1]) (M' := gm g6) rfl ?_
      cases h
      exact g_ret rfl rfl rfl rfl
def f_X0_hasTwo (a : Nat) (x1 : Int32) (x2 : Int32) (g : zSg) : Option (Int32 × zSg) := (zB (f_X0_hasPerson a x1 g) (fun v1 g2 => (if v1 = 0 then some (0, g2) else (zB (f_X0_hasPerson a x2 g2) (fun v5 g6 => (if v5 = 0 then some (0, g6) else (if x1 = x2 then some (0, g6) else some (1, g6))))))))
set_option maxRecDepth 100000 in
set_option maxHeartbeats 4000000 in
theorem p_X0_hasTwo {sc : zSc} {hp : zHp} (a : Nat) (ha : (zK0 a).1 = 0) {x1 : Int32} {x2 : Int32} {g : zSg} {r : Int32 × zSg} (h : f_X0_hasTwo a x1 x2 g = some r) : zRn sc hp 1 zM_X0_hasTwo [.ref a, .int x1, .int x2] (gm g) (some (.int r.1)) (gm r.2) := by
  intro d hD
  obtain ⟨d, rfl⟩ : ∃ d', d = d' + 1 := ⟨d - 1, by omega⟩
  show zG _ sc hp (zcd zM_X0_hasTwo) 0 [some (.ref a), some (.int x1), some (.int x2)] [] (gm g) _
  unfold f_X0_hasTwo at h
  refine g_run 2 (pc' := 2) (L' := [some (.ref a), some (.int x1), some (.int x2)]) (S' := [.int x1, .ref a]) (M' := gm g) rfl ?_
  replace h := zB_of h
  obtain ⟨v1, g2, e3, h⟩ := h
  refine g_inv2 (kd := 1) (p_X0_hasPerson a ha e3) rfl rfl rfl (by decide) rfl (g_recv (a := a) rfl (Nat.le_of_ble_eq_true rfl) (Nat.le_of_ble_eq_true rfl) (Nat.le_of_ble_eq_true rfl) (Nat.le_of_ble_eq_true rfl) rfl ha (Nat.le_of_ble_eq_true rfl)) rfl rfl (by omega) (pc' := 5) rfl (S' := [.int v1]) rfl ?_
  refine g_if (v1 = 0) rfl (t := 25) rfl rfl (fun c4 => ?_) (fun c4 => ?_)
  · replace h := (if_pos c4).symm.trans h
    refine g_run 1 (pc' := 26) (L' := [some (.ref a), some (.int x1), some (.int x2)]) (S' := [.int 0]) (M' := gm g2) rfl ?_
    cases h
    exact g_ret rfl rfl rfl rfl
  · replace h := (if_neg c4).symm.trans h
    refine g_run 2 (pc' := 10) (L' := [some (.ref a), some (.int x1), some (.int x2)]) (S' := [.int x2, .ref a]) (M' := gm g2) rfl ?_
    replace h := zB_of h
    obtain ⟨v5, g6, e7, h⟩ := h
    refine g_inv2 (kd := 1) (p_X0_hasPerson a ha e7) rfl rfl rfl (by decide) rfl (g_recv (a := a) rfl (Nat.le_of_ble_eq_true rfl) (Nat.le_of_ble_eq_true rfl) (Nat.le_of_ble_eq_true rfl) (Nat.le_of_ble_eq_true rfl) rfl ha (Nat.le_of_ble_eq_true rfl)) rfl rfl (by omega) (pc' := 13) rfl (S' := [.int v5]) rfl ?_
    refine g_if (v5 = 0) rfl (t := 25) rfl rfl (fun c8 => ?_) (fun c8 => ?_)
    · replace h := (if_pos c8).symm.trans h
      refine g_run 1 (pc' := 26) (L' := [some (.ref a), some (.int x1), some (.int x2)]) (S' := [.int 0]) (M' := gm g6) rfl ?_
      cases h
      exact g_ret rfl rfl rfl rfl
    · replace h := (if_neg c8).symm.trans h
      refine g_run 2 (pc' := 18) (L' := [some (.ref a), some (.int x1), some (.int x2)]) (S' := [.int x2, .int x1]) (M' := gm g6) rfl ?_
      refine g_icmp (x1 = x2) rfl (t := 25) rfl rfl (fun c9 => ?_) (fun c9 => ?_)
      · replace h := (if_pos c9).symm.trans h
        refine g_run 1 (pc' := 26) (L' := [some (.ref a), some (.int x1), some (.int x2)]) (S' := [.int 0]) (M' := gm g6) rfl ?_
        cases h
        exact g_ret rfl rfl rfl rfl
      · replace h := (if_neg c9).symm.trans h
        refine g_run 2 (pc' := 26) (L' := [some (.ref a), some (.int x1), some (.int x2)]) (S' := [.int 1]) (M' := gm g6) rfl ?_
        cases h
        exact g_ret rfl rfl rfl rfl
def f_X0_hasPersons (a : Nat) (x1 : Int32) (g : zSg) : Option (Int32 × zSg) := (zB (f_X0_isTold a g) (fun v1 g2 => (if v1 = 0 then some (0, g2) else (if x1 < 0 then some (0, g2) else (if ¬ (x1 >>> ((gI g2 (a) 2) &&& 31)) = 0 then some (0, g2) else some (1, g2))))))
set_option maxRecDepth 100000 in
set_option maxHeartbeats 4000000 in
theorem p_X0_hasPersons {sc : zSc} {hp : zHp} (a : Nat) (ha : (zK0 a).1 = 0) {x1 : Int32} {g : zSg} {r : Int32 × zSg} (h : f_X0_hasPersons a x1 g = some r) : zRn sc hp 1 zM_X0_hasPersons [.ref a, .int x1] (gm g) (some (.int r.1)) (gm r.2) := by
  intro d hD
  obtain ⟨d, rfl⟩ : ∃ d', d = d' + 1 := ⟨d - 1, by omega⟩
  show zG _ sc hp (zcd zM_X0_hasPersons) 0 [some (.ref a), some (.int x1)] [] (gm g) _
  unfold f_X0_hasPersons at h
  refine g_run 1 (pc' := 1) (L' := [some (.ref a), some (.int x1)]) (S' := [.ref a]) (M' := gm g) rfl ?_
  replace h := zB_of h
  obtain ⟨v1, g2, e3, h⟩ := h
  refine g_inv2 (kd := 1) (p_X0_isTold a ha e3) rfl rfl rfl (by decide) rfl (g_recv (a := a) rfl (Nat.le_of_ble_eq_true rfl) (Nat.le_of_ble_eq_true rfl) (Nat.le_of_ble_eq_true rfl) (Nat.le_of_ble_eq_true rfl) rfl ha (Nat.le_of_ble_eq_true rfl)) rfl rfl (by omega) (pc' := 4) rfl (S' := [.int v1]) rfl ?_
  refine g_if (v1 = 0) rfl (t := 24) rfl rfl (fun c4 => ?_) (fun c4 => ?_)
  · replace h := (if_pos c4).symm.trans h
    refine g_run 1 (pc' := 25) (L' := [some (.ref a), some (.int x1)]) (S' := [.int 0]) (M' := gm g2) rfl ?_
    cases h
    exact g_ret rfl rfl rfl rfl
  · replace h := (if_neg c4).symm.trans h
    refine g_run 1 (pc' := 8) (L' := [some (.ref a), some (.int x1)]) (S' := [.int x1]) (M' := gm g2) rfl ?_
    refine g_if (x1 < 0) rfl (t := 24) rfl rfl (fun c5 => ?_) (fun c5 => ?_)
    · replace h := (if_pos c5).symm.trans h
      refine g_run 1 (pc' := 25) (L' := [some (.ref a), some (.int x1)]) (S' := [.int 0]) (M' := gm g2) rfl ?_
      cases h
      exact g_ret rfl rfl rfl rfl
    · replace h := (if_neg c5).symm.trans h
      refine g_run 2 (pc' := 13) (L' := [some (.ref a), some (.int x1)]) (S' := [.ref a, .int x1]) (M' := gm g2) rfl ?_
      refine g_getf rfl (ci := 0) (k := 2) rfl ha rfl ?_
      refine g_run 1 (pc' := 17) (L' := [some (.ref a), some (.int x1)]) (S' := [.int ((x1 >>> ((gI g2 (a) 2) &&& 31)))]) (M' := gm g2) rfl ?_
      refine g_if (¬ (x1 >>> ((gI g2 (a) 2) &&& 31)) = 0) rfl (t := 24) rfl rfl (fun c6 => ?_) (fun c6 => ?_)
      · replace h := (if_pos c6).symm.trans h
        refine g_run 1 (pc' := 25) (L' := [some (.ref a), some (.int x1)]) (S' := [.int 0]) (M' := gm g2) rfl ?_
        cases h
        exact g_ret rfl rfl rfl rfl
      · replace h := (if_neg c6).symm.trans h
        refine g_run 2 (pc' := 25) (L' := [some (.ref a), some (.int x1)]) (S' := [.int 1]) (M' := gm g2) rfl ?_
        cases h
        exact g_ret rfl rfl rfl rfl
def f_X0_home (a : Nat) (x1 : Int32) (g : zSg) : Option (Int32 × zSg) := (zB (f_X7_get (a + 1) ((5 + (3 * x1)) + 1) g) (fun v1 g2 => (zB (f_X7_get (a + 1) (5 + (3 * x1)) g2) (fun v4 g5 => some (((v1 * (gI g2 (a) 1)) + v4), g5)))))
set_option maxRecDepth 100000 in
set_option maxHeartbeats 4000000 in
theorem p_X0_home {sc : zSc} {hp : zHp} (a : Nat) (ha : (zK0 a).1 = 0) {x1 : Int32} {g : zSg} {r : Int32 × zSg} (h : f_X0_home a x1 g = some r) : zRn sc hp 1 zM_X0_home [.ref a, .int x1] (gm g) (some (.int r.1)) (gm r.2) := by
  intro d hD
  obtain ⟨d, rfl⟩ : ∃ d', d = d' + 1 := ⟨d - 1, by omega⟩
  show zG _ sc hp (zcd zM_X0_home) 0 [some (.ref a), some (.int x1), none] [] (gm g) _
  unfold f_X0_home at h
  refine g_run 7 (pc' := 7) (L' := [some (.ref a), some (.int x1), some (.int ((5 + (3 * x1))))]) (S' := [.ref a]) (M' := gm g) rfl ?_
  refine g_getf rfl (ci := 0) (k := 0) rfl ha (gfv_c0 ha) ?_
  refine g_run 3 (pc' := 13) (L' := [some (.ref a), some (.int x1), some (.int ((5 + (3 * x1))))]) (S' := [.int (((5 + (3 * x1)) + 1)), .ref (a + 1)]) (M' := gm g) rfl ?_
  replace h := zB_of h
  obtain ⟨v1, g2, e3, h⟩ := h
  refine g_inv2 (kd := 1) (p_X7_get (a + 1) (zK0_c ha) e3) rfl rfl rfl (by decide) rfl (g_recv (a := a + 1) rfl (Nat.le_of_ble_eq_true rfl) (Nat.le_of_ble_eq_true rfl) (Nat.le_of_ble_eq_true rfl) (Nat.le_of_ble_eq_true rfl) rfl (zK0_c ha) (Nat.le_of_ble_eq_true rfl)) rfl rfl (by omega) (pc' := 16) rfl (S' := [.int v1]) rfl ?_
  refine g_run 1 (pc' := 17) (L' := [some (.ref a), some (.int x1), some (.int ((5 + (3 * x1))))]) (S' := [.ref a, .int v1]) (M' := gm g2) rfl ?_
  refine g_getf rfl (ci := 0) (k := 1) rfl ha rfl ?_
  refine g_run 2 (pc' := 22) (L' := [some (.ref a), some (.int x1), some (.int ((5 + (3 * x1))))]) (S' := [.ref a, .int ((v1 * (gI g2 (a) 1)))]) (M' := gm g2) rfl ?_
  refine g_getf rfl (ci := 0) (k := 0) rfl ha (gfv_c0 ha) ?_
  refine g_run 1 (pc' := 26) (L' := [some (.ref a), some (.int x1), some (.int ((5 + (3 * x1))))]) (S' := [.int ((5 + (3 * x1))), .ref (a + 1), .int ((v1 * (gI g2 (a) 1)))]) (M' := gm g2) rfl ?_
  replace h := zB_of h
  obtain ⟨v4, g5, e6, h⟩ := h
  refine g_inv2 (kd := 1) (p_X7_get (a + 1) (zK0_c ha) e6) rfl rfl rfl (by decide) rfl (g_recv (a := a + 1) rfl (Nat.le_of_ble_eq_true rfl) (Nat.le_of_ble_eq_true rfl) (Nat.le_of_ble_eq_true rfl) (Nat.le_of_ble_eq_true rfl) rfl (zK0_c ha) (Nat.le_of_ble_eq_true rfl)) rfl rfl (by omega) (pc' := 29) rfl (S' := [.int v4, .int ((v1 * (gI g2 (a) 1)))]) rfl ?_
  refine g_run 1 (pc' := 30) (L' := [some (.ref a), some (.int x1), some (.int ((5 + (3 * x1))))]) (S' := [.int (((v1 * (gI g2 (a) 1)) + v4))]) (M' := gm g5) rfl ?_
  cases h
  exact g_ret rfl rfl rfl rfl
def f_X0_nose (a : Nat) (x1 : Int32) (g : zSg) : Option (Int32 × zSg) := (zB (f_X7_get (a + 1) ((5 + (3 * x1)) + 2) g) (fun v1 g2 => some (v1, g2)))
set_option maxRecDepth 100000 in
set_option maxHeartbeats 4000000 in
theorem p_X0_nose {sc : zSc} {hp : zHp} (a : Nat) (ha : (zK0 a).1 = 0) {x1 : Int32} {g : zSg} {r : Int32 × zSg} (h : f_X0_nose a x1 g = some r) : zRn sc hp 1 zM_X0_nose [.ref a, .int x1] (gm g) (some (.int r.1)) (gm r.2) := by
  intro d hD
  obtain ⟨d, rfl⟩ : ∃ d', d = d' + 1 := ⟨d - 1, by omega⟩
  show zG _ sc hp (zcd zM_X0_nose) 0 [some (.ref a), some (.int x1)] [] (gm g) _
  unfold f_X0_nose at h
  refine g_run 1 (pc' := 1) (L' := [some (.ref a), some (.int x1)]) (S' := [.ref a]) (M' := gm g) rfl ?_
  refine g_getf rfl (ci := 0) (k := 0) rfl ha (gfv_c0 ha) ?_
  refine g_run 7 (pc' := 11) (L' := [some (.ref a), some (.int x1)]) (S' := [.int (((5 + (3 * x1)) + 2)), .ref (a + 1)]) (M' := gm g) rfl ?_
  replace h := zB_of h
  obtain ⟨v1, g2, e3, h⟩ := h
  refine g_inv2 (kd := 1) (p_X7_get (a + 1) (zK0_c ha) e3) rfl rfl rfl (by decide) rfl (g_recv (a := a + 1) rfl (Nat.le_of_ble_eq_true rfl) (Nat.le_of_ble_eq_true rfl) (Nat.le_of_ble_eq_true rfl) (Nat.le_of_ble_eq_true rfl) rfl (zK0_c ha) (Nat.le_of_ble_eq_true rfl)) rfl rfl (by omega) (pc' := 14) rfl (S' := [.int v1]) rfl ?_
  cases h
  exact g_ret rfl rfl rfl rfl
def f_X0_owner (a : Nat) (x1 : Int32) (g : zSg) : Option (Int32 × zSg) := (zB (f_X7_get (a + 1) (23 + (4 * x1)) g) (fun v1 g2 => some (v1, g2)))
set_option maxRecDepth 100000 in
set_option maxHeartbeats 4000000 in
theorem p_X0_owner {sc : zSc} {hp : zHp} (a : Nat) (ha : (zK0 a).1 = 0) {x1 : Int32} {g : zSg} {r : Int32 × zSg} (h : f_X0_owner a x1 g = some r) : zRn sc hp 1 zM_X0_owner [.ref a, .int x1] (gm g) (some (.int r.1)) (gm r.2) := by
  intro d hD
  obtain ⟨d, rfl⟩ : ∃ d', d = d' + 1 := ⟨d - 1, by omega⟩
  show zG _ sc hp (zcd zM_X0_owner) 0 [some (.ref a), some (.int x1)] [] (gm g) _
  unfold f_X0_owner at h
  refine g_run 1 (pc' := 1) (L' := [some (.ref a), some (.int x1)]) (S' := [.ref a]) (M' := gm g) rfl ?_
  refine g_getf rfl (ci := 0) (k := 0) rfl ha (gfv_c0 ha) ?_
  refine g_run 5 (pc' := 10) (L' := [some (.ref a), some (.int x1)]) (S' := [.int ((23 + (4 * x1))), .ref (a + 1)]) (M' := gm g) rfl ?_
  replace h := zB_of h
  obtain ⟨v1, g2, e3, h⟩ := h
  refine g_inv2 (kd := 1) (p_X7_get (a + 1) (zK0_c ha) e3) rfl rfl rfl (by decide) rfl (g_recv (a := a + 1) rfl (Nat.le_of_ble_eq_true rfl) (Nat.le_of_ble_eq_true rfl) (Nat.le_of_ble_eq_true rfl) (Nat.le_of_ble_eq_true rfl) rfl (zK0_c ha) (Nat.le_of_ble_eq_true rfl)) rfl rfl (by omega) (pc' := 13) rfl (S' := [.int v1]) rfl ?_
  cases h
  exact g_ret rfl rfl rfl rfl
def f_X0_heavy (a : Nat) (x1 : Int32) (g : zSg) : Option (Int32 × zSg) := (zB (f_X7_get (a + 1) ((23 + (4 * x1)) + 1) g) (fun v1 g2 => some (v1, g2)))
set_option maxRecDepth 100000 in
set_option maxHeartbeats 4000000 in
theorem p_X0_heavy {sc : zSc} {hp : zHp} (a : Nat) (ha : (zK0 a).1 = 0) {x1 : Int32} {g : zSg} {r : Int32 × zSg} (h : f_X0_heavy a x1 g = some r) : zRn sc hp 1 zM_X0_heavy [.ref a, .int x1] (gm g) (some (.int r.1)) (gm r.2) := by
  intro d hD
  obtain ⟨d, rfl⟩ : ∃ d', d = d' + 1 := ⟨d - 1, by omega⟩
  show zG _ sc hp (zcd zM_X0_heavy) 0 [some (.ref a), some (.int x1)] [] (gm g) _
  unfold f_X0_heavy at h
  refine g_run 1 (pc' := 1) (L' := [some (.ref a), some (.int x1)]) (S' := [.ref a]) (M' := gm g) rfl ?_
  refine g_getf rfl (ci := 0) (k := 0) rfl ha (gfv_c0 ha) ?_
  refine g_run 7 (pc' := 12) (L' := [some (.ref a), some (.int x1)]) (S' := [.int (((23 + (4 * x1)) + 1)), .ref (a + 1)]) (M' := gm g) rfl ?_
  replace h := zB_of h
  obtain ⟨v1, g2, e3, h⟩ := h
  refine g_inv2 (kd := 1) (p_X7_get (a + 1) (zK0_c ha) e3) rfl rfl rfl (by decide) rfl (g_recv (a := a + 1) rfl (Nat.le_of_ble_eq_true rfl) (Nat.le_of_ble_eq_true rfl) (Nat.le_of_ble_eq_true rfl) (Nat.le_of_ble_eq_true rfl) rfl (zK0_c ha) (Nat.le_of_ble_eq_true rfl)) rfl rfl (by omega) (pc' := 15) rfl (S' := [.int v1]) rfl ?_
  cases h
  exact g_ret rfl rfl rfl rfl
def f_X0_shed (a : Nat) (x1 : Int32) (g : zSg) : Option (Int32 × zSg) := (zB (f_X7_get (a + 1) ((23 + (4 * x1)) + 3) g) (fun v1 g2 => (zB (f_X7_get (a + 1) ((23 + (4 * x1)) + 2) g2) (fun v4 g5 => some (((v1 * (gI g2 (a) 1)) + v4), g5)))))
set_option maxRecDepth 100000 in
set_option maxHeartbeats 4000000 in
theorem p_X0_shed {sc : zSc} {hp : zHp} (a : Nat) (ha : (zK0 a).1 = 0) {x1 : Int32} {g : zSg} {r : Int32 × zSg} (h : f_X0_shed a x1 g = some r) : zRn sc hp 1 zM_X0_shed [.ref a, .int x1] (gm g) (some (.int r.1)) (gm r.2) := by
  intro d hD
  obtain ⟨d, rfl⟩ : ∃ d', d = d' + 1 := ⟨d - 1, by omega⟩
  show zG _ sc hp (zcd zM_X0_shed) 0 [some (.ref a), some (.int x1), none] [] (gm g) _
  unfold f_X0_shed at h
  refine g_run 7 (pc' := 8) (L' := [some (.ref a), some (.int x1), some (.int ((23 + (4 * x1))))]) (S' := [.ref a]) (M' := gm g) rfl ?_
  refine g_getf rfl (ci := 0) (k := 0) rfl ha (gfv_c0 ha) ?_
  refine g_run 3 (pc' := 14) (L' := [some (.ref a), some (.int x1), some (.int ((23 + (4 * x1))))]) (S' := [.int (((23 + (4 * x1)) + 3)), .ref (a + 1)]) (M' := gm g) rfl ?_
  replace h := zB_of h
  obtain ⟨v1, g2, e3, h⟩ := h
  refine g_inv2 (kd := 1) (p_X7_get (a + 1) (zK0_c ha) e3) rfl rfl rfl (by decide) rfl (g_recv (a := a + 1) rfl (Nat.le_of_ble_eq_true rfl) (Nat.le_of_ble_eq_true rfl) (Nat.le_of_ble_eq_true rfl) (Nat.le_of_ble_eq_true rfl) rfl (zK0_c ha) (Nat.le_of_ble_eq_true rfl)) rfl rfl (by omega) (pc' := 17) rfl (S' := [.int v1]) rfl ?_
  refine g_run 1 (pc' := 18) (L' := [some (.ref a), some (.int x1), some (.int ((23 + (4 * x1))))]) (S' := [.ref a, .int v1]) (M' := gm g2) rfl ?_
  refine g_getf rfl (ci := 0) (k := 1) rfl ha rfl ?_
  refine g_run 2 (pc' := 23) (L' := [some (.ref a), some (.int x1), some (.int ((23 + (4 * x1))))]) (S' := [.ref a, .int ((v1 * (gI g2 (a) 1)))]) (M' := gm g2) rfl ?_
  refine g_getf rfl (ci := 0) (k := 0) rfl ha (gfv_c0 ha) ?_
  refine g_run 3 (pc' := 29) (L' := [some (.ref a), some (.int x1), some (.int ((23 + (4 * x1))))]) (S' := [.int (((23 + (4 * x1)) + 2)), .ref (a + 1), .int ((v1 * (gI g2 (a) 1)))]) (M' := gm g2) rfl ?_
  replace h := zB_of h
  obtain ⟨v4, g5, e6, h⟩ := h
  refine g_inv2 (kd := 1) (p_X7_get (a + 1) (zK0_c ha) e6) rfl rfl rfl (by decide) rfl (g_recv (a := a + 1) rfl (Nat.le_of_ble_eq_true rfl) (Nat.le_of_ble_eq_true rfl) (Nat.le_of_ble_eq_true rfl) (Nat.le_of_ble_eq_true rfl) rfl (zK0_c ha) (Nat.le_of_ble_eq_true rfl)) rfl rfl (by omega) (pc' := 32) rfl (S' := [.int v4, .int ((v1 * (gI g2 (a) 1)))]) rfl ?_
  refine g_run 1 (pc' := 33) (L' := [some (.ref a), some (.int x1), some (.int ((23 + (4 * x1))))]) (S' := [.int (((v1 * (gI g2 (a) 1)) + v4))]) (M' := gm g5) rfl ?_
  cases h
  exact g_ret rfl rfl rfl rfl
def f_X0_isWithin (a : Nat) (x1 : Int32) (g : zSg) : Option (Int32 × zSg) := (zB (f_X7_get (a + 1) x1 g) (fun v1 g2 => (zB (f_X7_get (a + 1) 0 g2) (fun v4 g5 => (if v4 ≤ v1 then some (0, g5) else (zB (f_X7_get (a + 1) (x1 + 1) g5) (fun v8 g9 => (zB (f_X7_get (a + 1) 1 g9) (fun v11 g12 => (if v11 ≤ v8 then some (0, g12) else some (1, g12)))))))))))
set_option maxRecDepth 100000 in
set_option maxHeartbeats 4000000 in
theorem p_X0_isWithin {sc : zSc} {hp : zHp} (a : Nat) (ha : (zK0 a).1 = 0) {x1 : Int32} {g : zSg} {r : Int32 × zSg} (h : f_X0_isWithin a x1 g = some r) : zRn sc hp 1 zM_X0_isWithin [.ref a, .int x1] (gm g) (some (.int r.1)) (gm r.2) := by
  intro d hD
  obtain ⟨d, rfl⟩ : ∃ d', d = d' + 1 := ⟨d - 1, by omega⟩
  show zG _ sc hp (zcd zM_X0_isWithin) 0 [some (.ref a), some (.int x1)] [] (gm g) _
  unfold f_X0_isWithin at h
  refine g_run 1 (pc' := 1) (L' := [some (.ref a), some (.int x1)]) (S' := [.ref a]) (M' := gm g) rfl ?_
  refine g_getf rfl (ci := 0) (k := 0) rfl ha (gfv_c0 ha) ?_
  refine g_run 1 (pc' := 5) (L' := [some (.ref a), some (.int x1)]) (S' := [.int x1, .ref (a + 1)]) (M' := gm g) rfl ?_
  replace h := zB_of h
  obtain ⟨v1, g2, e3, h⟩ := h
  refine g_inv2 (kd := 1) (p_X7_get (a + 1) (zK0_c ha) e3) rfl rfl rfl (by decide) rfl (g_recv (a := a + 1) rfl (Nat.le_of_ble_eq_true rfl) (Nat.le_of_ble_eq_true rfl) (Nat.le_of_ble_eq_true rfl) (Nat.le_of_ble_eq_true rfl) rfl (zK0_c ha) (Nat.le_of_ble_eq_true rfl)) rfl rfl (by omega) (pc' := 8) rfl (S' := [.int v1]) rfl ?_
  refine g_run 1 (pc' := 9) (L' := [some (.ref a), some (.int x1)]) (S' := [.ref a, .int v1]) (M' := gm g2) rfl ?_
  refine g_getf rfl (ci := 0) (k := 0) rfl ha (gfv_c0 ha) ?_
  refine g_run 1 (pc' := 13) (L' := [some (.ref a), some (.int x1)]) (S' := [.int 0, .ref (a + 1), .int v1]) (M' := gm g2) rfl ?_
  replace h := zB_of h
  obtain ⟨v4, g5, e6, h⟩ := h
  refine g_inv2 (kd := 1) (p_X7_get (a + 1) (zK0_c ha) e6) rfl rfl rfl (by decide) rfl (g_recv (a := a + 1) rfl (Nat.le_of_ble_eq_true rfl) (Nat.le_of_ble_eq_true rfl) (Nat.le_of_ble_eq_true rfl) (Nat.le_of_ble_eq_true rfl) rfl (zK0_c ha) (Nat.le_of_ble_eq_true rfl)) rfl rfl (by omega) (pc' := 16) rfl (S' := [.int v4, .int v1]) rfl ?_
  refine g_icmp (v4 ≤ v1) rfl (t := 44) rfl rfl (fun c7 => ?_) (fun c7 => ?_)
  · replace h := (if_pos c7).symm.trans h
    refine g_run 1 (pc' := 45) (L' := [some (.ref a), some (.int x1)]) (S' := [.int 0]) (M' := gm g5) rfl ?_
    cases h
    exact g_ret rfl rfl rfl rfl
  · replace h := (if_neg c7).symm.trans h
    refine g_run 1 (pc' := 20) (L' := [some (.ref a), some (.int x1)]) (S' := [.ref a]) (M' := gm g5) rfl ?_
    refine g_getf rfl (ci := 0) (k := 0) rfl ha (gfv_c0 ha) ?_
    refine g_run 3 (pc' := 26) (L' := [some (.ref a), some (.int x1)]) (S' := [.int ((x1 + 1)), .ref (a + 1)]) (M' := gm g5) rfl ?_
    replace h := zB_of h
    obtain ⟨v8, g9, e10, h⟩ := h
    refine g_inv2 (kd := 1) (p_X7_get (a + 1) (zK0_c ha) e10) rfl rfl rfl (by decide) rfl (g_recv (a := a + 1) rfl (Nat.le_of_ble_eq_true rfl) (Nat.le_of_ble_eq_true rfl) (Nat.le_of_ble_eq_true rfl) (Nat.le_of_ble_eq_true rfl) rfl (zK0_c ha) (Nat.le_of_ble_eq_true rfl)) rfl rfl (by omega) (pc' := 29) rfl (S' := [.int v8]) rfl ?_
    refine g_run 1 (pc' := 30) (L' := [some (.ref a), some (.int x1)]) (S' := [.ref a, .int v8]) (M' := gm g9) rfl ?_
    refine g_getf rfl (ci := 0) (k := 0) rfl ha (gfv_c0 ha) ?_
    refine g_run 1 (pc' := 34) (L' := [some (.ref a), some (.int x1)]) (S' := [.int 1, .ref (a + 1), .int v8]) (M' := gm g9) rfl ?_
    replace h := zB_of h
    obtain ⟨v11, g12, e13, h⟩ := h
    refine g_inv2 (kd := 1) (p_X7_get (a + 1) (zK0_c ha) e13) rfl rfl rfl (by decide) rfl (g_recv (a := a + 1) rfl (Nat.le_of_ble_eq_true rfl) (Nat.le_of_ble_eq_true rfl) (Nat.le_of_ble_eq_true rfl) (Nat.le_of_ble_eq_true rfl) rfl (zK0_c ha) (Nat.le_of_ble_eq_true rfl)) rfl rfl (by omega) (pc' := 37) rfl (S' := [.int v11, .int v8]) rfl ?_
    refine g_icmp (v11 ≤ v8) rfl (t := 44) rfl rfl (fun c14 => ?_) (fun c14 => ?_)
    · replace h := (if_pos c14).symm.trans h
      refine g_run 1 (pc' := 45) (L' := [some (.ref a), some (.int x1)]) (S' := [.int 0]) (M' := gm g12) rfl ?_
      cases h
      exact g_ret rfl rfl rfl rfl
    · replace h := (if_neg c14).symm.trans h
      refine g_run 2 (pc' := 45) (L' := [some (.ref a), some (.int x1)]) (S' := [.int 1]) (M' := gm g12) rfl ?_
      cases h
      exact g_ret rfl rfl rfl rfl
def f_X0_stands_93 (a : Nat) (k52 : Int32 → Int32 → zSg → Option (Int32 × zSg)) (y2 : Int32) (s0 : Int32) (s1 : Int32) (g : zSg) : Option (Int32 × zSg) := k52 (s1 &&& s0) (y2 + 1) g
set_option maxRecDepth 100000 in
set_option maxHeartbeats 4000000 in
theorem p_X0_stands_93 {sc : zSc} {hp : zHp} {d : Nat} (hD : 2 ≤ d) (a : Nat) (ha : (zK0 a).1 = 0) (k52 : Int32 → Int32 → zSg → Option (Int32 × zSg)) (hk52 : ∀ (y1 : Int32) (y2 : Int32) (g : zSg) (r : Int32 × zSg), k52 y1 y2 g = some r → zG d sc hp (zcd zM_X0_stands) 52 [some (.ref a), some (.int y1), some (.int y2)] [] (gm g) ((some (.int r.1)), gm r.2)) (y2 : Int32) (s0 : Int32) (s1 : Int32) (g : zSg) (r : Int32 × zSg) (h : f_X0_stands_93 a k52 y2 s0 s1 g = some r) : zG d sc hp (zcd zM_X0_stands) 93 [some (.ref a), none, some (.int y2)] [.int s0, .int s1] (gm g) ((some (.int r.1)), gm r.2) := by
  obtain ⟨d, rfl⟩ : ∃ d', d = d' + 1 := ⟨d - 1, by omega⟩
  unfold f_X0_stands_93 at h
  refine g_run 4 (pc' := 52) (L' := [some (.ref a), some (.int ((s1 &&& s0))), some (.int ((y2 + 1)))]) (S' := []) (M' := gm g) rfl ?_
  exact hk52 (s1 &&& s0) (y2 + 1) g _ h
def f_X0_stands_92 (a : Nat) (k52 : Int32 → Int32 → zSg → Option (Int32 × zSg)) (y2 : Int32) (s0 : Int32) (g : zSg) : Option (Int32 × zSg) := f_X0_stands_93 a k52 (y2) (0) (s0) g
set_option maxRecDepth 100000 in
set_option maxHeartbeats 4000000 in
theorem p_X0_stands_92 {sc : zSc} {hp : zHp} {d : Nat} (hD : 2 ≤ d) (a : Nat) (ha : (zK0 a).1 = 0) (k52 : Int32 → Int32 → zSg → Option (Int32 × zSg)) (hk52 : ∀ (y1 : Int32) (y2 : Int32) (g : zSg) (r : Int32 × zSg), k52 y1 y2 g = some r → zG d sc hp (zcd zM_X0_stands) 52 [some (.ref a), some (.int y1), some (.int y2)] [] (gm g) ((some (.int r.1)), gm r.2)) (y2 : Int32) (s0 : Int32) (g : zSg) (r : Int32 × zSg) (h : f_X0_stands_92 a k52 y2 s0 g = some r) : zG d sc hp (zcd zM_X0_stands) 92 [some (.ref a), none, some (.int y2)] [.int s0] (gm g) ((some (.int r.1)), gm r.2) := by
  obtain ⟨d, rfl⟩ : ∃ d', d = d' + 1 := ⟨d - 1, by omega⟩
  unfold f_X0_stands_92 at h
  refine g_run 1 (pc' := 93) (L' := [some (.ref a), none, some (.int y2)]) (S' := [.int 0, .int s0]) (M' := gm g) rfl ?_
  exact p_X0_stands_93 hD a ha k52 hk52 (y2) (0) (s0) g _ h
def fb_X0_stands_52 (a : Nat) (kk : Int32 → Int32 → zSg → Option (Int32 × zSg)) (y1 : Int32) (y2 : Int32) (g : zSg) : Option (Int32 × zSg) := (if (gI g (a) 3) ≤ y2 then (if y1 = 0 ∨ y1 = 1 then some (y1, g) else none) else (zB (f_X0_isWithin a ((23 + (4 * y2)) + 2) g) (fun v3 g4 => (if v3 = 0 then f_X0_stands_92 a kk (y2) (y1) g4 else (zB (f_X0_owner a y2 g4) (fun v7 g8 => (if (gI g8 (a) 2) ≤ v7 then f_X0_stands_92 a kk (y2) (y1) g8 else f_X0_stands_93 a kk (y2) (1) (y1) g8)))))))
def f_X0_stands_52 (a : Nat) : Nat → Int32 → Int32 → zSg → Option (Int32 × zSg)
  | 0, _, _, _ => none
  | n + 1, y1, y2, g => fb_X0_stands_52 a (f_X0_stands_52 a n) y1 y2 g
set_option maxRecDepth 100000 in
set_option maxHeartbeats 4000000 in
theorem p_X0_stands_52 {sc : zSc} {hp : zHp} {d : Nat} (hD : 2 ≤ d) (a : Nat) (ha : (zK0 a).1 = 0) : ∀ (n : Nat) (y1 : Int32) (y2 : Int32) (g : zSg) (r : Int32 × zSg), f_X0_stands_52 a n y1 y2 g = some r → zG d sc hp (zcd zM_X0_stands) 52 [some (.ref a), some (.int y1), some (.int y2)] [] (gm g) ((some (.int r.1)), gm r.2) := by
  obtain ⟨d, rfl⟩ : ∃ d', d = d' + 1 := ⟨d - 1, by omega⟩
  intro n
  induction n with
  | zero => intro y1 y2 g r h; cases h
  | succ n ih =>
    intro y1 y2 g r h
    replace h : fb_X0_stands_52 a (f_X0_stands_52 a n) y1 y2 g = some r := h
    unfold fb_X0_stands_52 at h
    refine g_run 2 (pc' := 54) (L' := [some (.ref a), some (.int y1), some (.int y2)]) (S' := [.ref a, .int y2]) (M' := gm g) rfl ?_
    refine g_getf rfl (ci := 0) (k := 3) rfl ha rfl ?_
    refine g_icmp ((gI g (a) 3) ≤ y2) rfl (t := 101) rfl rfl (fun c1 => ?_) (fun c1 => ?_)
    · replace h := (if_pos c1).symm.trans h
      refine g_run 1 (pc' := 102) (L' := [some (.ref a), some (.int y1), some (.int y2)]) (S' := [.int y1]) (M' := gm g) rfl ?_
      by_cases c2 : y1 = 0 ∨ y1 = 1
      case neg => exact nomatch ((if_neg c2).symm.trans h)
      replace h := (if_pos c2).symm.trans h
      cases h
      exact g_retz rfl rfl c2
    · replace h := (if_neg c1).symm.trans h
      refine g_run 9 (pc' := 70) (L' := [some (.ref a), some (.int y1), some (.int y2)]) (S' := [.int (((23 + (4 * y2)) + 2)), .ref a, .int y1]) (M' := gm g) rfl ?_
      replace h := zB_of h
      obtain ⟨v3, g4, e5, h⟩ := h
      refine g_inv2 (kd := 1) (p_X0_isWithin a ha e5) rfl rfl rfl (by decide) rfl (g_recv (a := a) rfl (Nat.le_of_ble_eq_true rfl) (Nat.le_of_ble_eq_true rfl) (Nat.le_of_ble_eq_true rfl) (Nat.le_of_ble_eq_true rfl) rfl ha (Nat.le_of_ble_eq_true rfl)) rfl rfl (by omega) (pc' := 73) rfl (S' := [.int v3, .int y1]) rfl ?_
      refine g_if (v3 = 0) rfl (t := 92) rfl rfl (fun c6 => ?_) (fun c6 => ?_)
      · replace h := (if_pos c6).symm.trans h
        refine g_forget (L' := [some (.ref a), none, some (.int y2)]) (And.intro rfl (And.intro rfl True.intro)) ?_
        exact p_X0_stands_92 hD a ha (f_X0_stands_52 a n) ih (y2) (y1) g4 _ h
      · replace h := (if_neg c6).symm.trans h
        refine g_run 2 (pc' := 78) (L' := [some (.ref a), some (.int y1), some (.int y2)]) (S' := [.int y2, .ref a, .int y1]) (M' := gm g4) rfl ?_
        replace h := zB_of h
        obtain ⟨v7, g8, e9, h⟩ := h
        refine g_inv2 (kd := 1) (p_X0_owner a ha e9) rfl rfl rfl (by decide) rfl (g_recv (a := a) rfl (Nat.le_of_ble_eq_true rfl) (Nat.le_of_ble_eq_true rfl) (Nat.le_of_ble_eq_true rfl) (Nat.le_of_ble_eq_true rfl) rfl ha (Nat.le_of_ble_eq_true rfl)) rfl rfl (by omega) (pc' := 81) rfl (S' := [.int v7, .int y1]) rfl ?_
        refine g_run 1 (pc' := 82) (L' := [some (.ref a), some (.int y1), some (.int y2)]) (S' := [.ref a, .int v7, .int y1]) (M' := gm g8) rfl ?_
        refine g_getf rfl (ci := 0) (k := 2) rfl ha rfl ?_
        refine g_icmp ((gI g8 (a) 2) ≤ v7) rfl (t := 92) rfl rfl (fun c10 => ?_) (fun c10 => ?_)
        · replace h := (if_pos c10).symm.trans h
          refine g_forget (L' := [some (.ref a), none, some (.int y2)]) (And.intro rfl (And.intro rfl True.intro)) ?_
          exact p_X0_stands_92 hD a ha (f_X0_stands_52 a n) ih (y2) (y1) g8 _ h
        · replace h := (if_neg c10).symm.trans h
          refine g_run 2 (pc' := 93) (L' := [some (.ref a), some (.int y1), some (.int y2)]) (S' := [.int 1, .int y1]) (M' := gm g8) rfl ?_
          refine g_forget (L' := [some (.ref a), none, some (.int y2)]) (And.intro rfl (And.intro rfl True.intro)) ?_
          exact p_X0_stands_93 hD a ha (f_X0_stands_52 a n) ih (y2) (1) (y1) g8 _ h
def f_X0_stands_50 (a : Nat) (y1 : Int32) (g : zSg) : Option (Int32 × zSg) := f_X0_stands_52 a zFu (y1) (0) g
set_option maxRecDepth 100000 in
set_option maxHeartbeats 4000000 in
theorem p_X0_stands_50 {sc : zSc} {hp : zHp} {d : Nat} (hD : 2 ≤ d) (a : Nat) (ha : (zK0 a).1 = 0) (y1 : Int32) (g : zSg) (r : Int32 × zSg) (h : f_X0_stands_50 a y1 g = some r) : zG d sc hp (zcd zM_X0_stands) 50 [some (.ref a), some (.int y1), none] [] (gm g) ((some (.int r.1)), gm r.2) := by
  obtain ⟨d, rfl⟩ : ∃ d', d = d' + 1 := ⟨d - 1, by omega⟩
  unfold f_X0_stands_50 at h
  refine g_run 2 (pc' := 52) (L' := [some (.ref a), some (.int y1), some (.int 0)]) (S' := []) (M' := gm g) rfl ?_
  exact p_X0_stands_52 hD a ha zFu (y1) (0) g _ h
def fb_X0_stands_24 (a : Nat) (kk : Int32 → Int32 → zSg → Option (Int32 × zSg)) (y1 : Int32) (y2 : Int32) (g : zSg) : Option (Int32 × zSg) := (if (gI g (a) 2) ≤ y2 then f_X0_stands_50 a (y1) g else (zB (f_X0_isWithin a (5 + (3 * y2)) g) (fun v2 g3 => kk (y1 &&& v2) (y2 + 1) g3)))
def f_X0_stands_24 (a : Nat) : Nat → Int32 → Int32 → zSg → Option (Int32 × zSg)
  | 0, _, _, _ => none
  | n + 1, y1, y2, g => fb_X0_stands_24 a (f_X0_stands_24 a n) y1 y2 g
set_option maxRecDepth 100000 in
set_option maxHeartbeats 4000000 in
theorem p_X0_stands_24 {sc : zSc} {hp : zHp} {d : Nat} (hD : 2 ≤ d) (a : Nat) (ha : (zK0 a).1 = 0) : ∀ (n : Nat) (y1 : Int32) (y2 : Int32) (g : zSg) (r : Int32 × zSg), f_X0_stands_24 a n y1 y2 g = some r → zG d sc hp (zcd zM_X0_stands) 24 [some (.ref a), some (.int y1), some (.int y2)] [] (gm g) ((some (.int r.1)), gm r.2) := by
  obtain ⟨d, rfl⟩ : ∃ d', d = d' + 1 := ⟨d - 1, by omega⟩
  intro n
  induction n with
  | zero => intro y1 y2 g r h; cases h
  | succ n ih =>
    intro y1 y2 g r h
    replace h : fb_X0_stands_24 a (f_X0_stands_24 a n) y1 y2 g = some r := h
    unfold fb_X0_stands_24 at h
    refine g_run 2 (pc' := 26) (L' := [some (.ref a), some (.int y1), some (.int y2)]) (S' := [.ref a, .int y2]) (M' := gm g) rfl ?_
    refine g_getf rfl (ci := 0) (k := 2) rfl ha rfl ?_
    refine g_icmp ((gI g (a) 2) ≤ y2) rfl (t := 50) rfl rfl (fun c1 => ?_) (fun c1 => ?_)
    · replace h := (if_pos c1).symm.trans h
      refine g_forget (L' := [some (.ref a), some (.int y1), none]) (And.intro rfl (And.intro rfl True.intro)) ?_
      exact p_X0_stands_50 hD a ha (y1) g _ h
    · replace h := (if_neg c1).symm.trans h
      refine g_run 7 (pc' := 39) (L' := [some (.ref a), some (.int y1), some (.int y2)]) (S' := [.int ((5 + (3 * y2))), .ref a, .int y1]) (M' := gm g) rfl ?_
      replace h := zB_of h
      obtain ⟨v2, g3, e4, h⟩ := h
      refine g_inv2 (kd := 1) (p_X0_isWithin a ha e4) rfl rfl rfl (by decide) rfl (g_recv (a := a) rfl (Nat.le_of_ble_eq_true rfl) (Nat.le_of_ble_eq_true rfl) (Nat.le_of_ble_eq_true rfl) (Nat.le_of_ble_eq_true rfl) rfl ha (Nat.le_of_ble_eq_true rfl)) rfl rfl (by omega) (pc' := 42) rfl (S' := [.int v2, .int y1]) rfl ?_
      refine g_run 4 (pc' := 24) (L' := [some (.ref a), some (.int ((y1 &&& v2))), some (.int ((y2 + 1)))]) (S' := []) (M' := gm g3) rfl ?_
      exact ih (y1 &&& v2) (y2 + 1) g3 _ h
def f_X0_stands_21 (a : Nat) (s0 : Int32) (g : zSg) : Option (Int32 × zSg) := f_X0_stands_24 a zFu (s0) (0) g
set_option maxRecDepth 100000 in
set_option maxHeartbeats 4000000 in
theorem p_X0_stands_21 {sc : zSc} {hp : zHp} {d : Nat} (hD : 2 ≤ d) (a : Nat) (ha : (zK0 a).1 = 0) (s0 : Int32) (g : zSg) (r : Int32 × zSg) (h : f_X0_stands_21 a s0 g = some r) : zG d sc hp (zcd zM_X0_stands) 21 [some (.ref a), none, none] [.int s0] (gm g) ((some (.int r.1)), gm r.2) := by
  obtain ⟨d, rfl⟩ : ∃ d', d = d' + 1 := ⟨d - 1, by omega⟩
  unfold f_X0_stands_21 at h
  refine g_run 3 (pc' := 24) (L' := [some (.ref a), some (.int s0), some (.int 0)]) (S' := []) (M' := gm g) rfl ?_
  exact p_X0_stands_24 hD a ha zFu (s0) (0) g _ h
def f_X0_stands_20 (a : Nat) (g : zSg) : Option (Int32 × zSg) := f_X0_stands_21 a (0) g
set_option maxRecDepth 100000 in
set_option maxHeartbeats 4000000 in
theorem p_X0_stands_20 {sc : zSc} {hp : zHp} {d : Nat} (hD : 2 ≤ d) (a : Nat) (ha : (zK0 a).1 = 0) (g : zSg) (r : Int32 × zSg) (h : f_X0_stands_20 a g = some r) : zG d sc hp (zcd zM_X0_stands) 20 [some (.ref a), none, none] [] (gm g) ((some (.int r.1)), gm r.2) := by
  obtain ⟨d, rfl⟩ : ∃ d', d = d' + 1 := ⟨d - 1, by omega⟩
  unfold f_X0_stands_20 at h
  refine g_run 1 (pc' := 21) (L' := [some (.ref a), none, none]) (S' := [.int 0]) (M' := gm g) rfl ?_
  exact p_X0_stands_21 hD a ha (0) g _ h
def f_X0_stands (a : Nat) (g : zSg) : Option (Int32 × zSg) := (if (gI g (a) 2) < 2 then f_X0_stands_20 a g else (if (gI g (a) 3) < 1 then f_X0_stands_20 a g else f_X0_stands_21 a (1) g))
set_option maxRecDepth 100000 in
set_option maxHeartbeats 4000000 in
theorem p_X0_stands {sc : zSc} {hp : zHp} (a : Nat) (ha : (zK0 a).1 = 0) {g : zSg} {r : Int32 × zSg} (h : f_X0_stands a g = some r) : zRn sc hp 2 zM_X0_stands [.ref a] (gm g) (some (.int r.1)) (gm r.2) := by
  intro d hD
  obtain ⟨d, rfl⟩ : ∃ d', d = d' + 1 := ⟨d - 1, by omega⟩
  show zG _ sc hp (zcd zM_X0_stands) 0 [some (.ref a), none, none] [] (gm g) _
  unfold f_X0_stands at h
  refine g_run 1 (pc' := 1) (L' := [some (.ref a), none, none]) (S' := [.ref a]) (M' := gm g) rfl ?_
  refine g_getf rfl (ci := 0) (k := 2) rfl ha rfl ?_
  refine g_run 1 (pc' := 5) (L' := [some (.ref a), none, none]) (S' := [.int 2, .int ((gI g (a) 2))]) (M' := gm g) rfl ?_
  refine g_icmp ((gI g (a) 2) < 2) rfl (t := 20) rfl rfl (fun c1 => ?_) (fun c1 => ?_)
  · replace h := (if_pos c1).symm.trans h
    exact p_X0_stands_20 hD a ha g _ h
  · replace h := (if_neg c1).symm.trans h
    refine g_run 1 (pc' := 9) (L' := [some (.ref a), none, none]) (S' := [.ref a]) (M' := gm g) rfl ?_
    refine g_getf rfl (ci := 0) (k := 3) rfl ha rfl ?_
    refine g_run 1 (pc' := 13) (L' := [some (.ref a), none, none]) (S' := [.int 1, .int ((gI g (a) 3))]) (M' := gm g) rfl ?_
    refine g_icmp ((gI g (a) 3) < 1) rfl (t := 20) rfl rfl (fun c2 => ?_) (fun c2 => ?_)
    · replace h := (if_pos c2).symm.trans h
      exact p_X0_stands_20 hD a ha g _ h
    · replace h := (if_neg c2).symm.trans h
      refine g_run 2 (pc' := 21) (L' := [some (.ref a), none, none]) (S' := [.int 1]) (M' := gm g) rfl ?_
      exact p_X0_stands_21 hD a ha (1) g _ h
def f_X0_rowOf (a : Nat) (x1 : Int32) (g : zSg) : Option (Int32 × zSg) := (if 1 ≤ (gI g (a) 1) then (if (gI g (a) 1) = 0 then none else some ((x1 / (gI g (a) 1)), g)) else some (0, g))
set_option maxRecDepth 100000 in
set_option maxHeartbeats 4000000 in
theorem p_X0_rowOf {sc : zSc} {hp : zHp} (a : Nat) (ha : (zK0 a).1 = 0) {x1 : Int32} {g : zSg} {r : Int32 × zSg} (h : f_X0_rowOf a x1 g = some r) : zRn sc hp 0 zM_X0_rowOf [.ref a, .int x1] (gm g) (some (.int r.1)) (gm r.2) := by
  intro d hD
  show zG _ sc hp (zcd zM_X0_rowOf) 0 [some (.ref a), some (.int x1)] [] (gm g) _
  unfold f_X0_rowOf at h
  refine g_run 1 (pc' := 1) (L' := [some (.ref a), some (.int x1)]) (S' := [.ref a]) (M' := gm g) rfl ?_
  refine g_getf rfl (ci := 0) (k := 1) rfl ha rfl ?_
  refine g_run 1 (pc' := 5) (L' := [some (.ref a), some (.int x1)]) (S' := [.int 1, .int ((gI g (a) 1))]) (M' := gm g) rfl ?_
  refine g_icmp (1 ≤ (gI g (a) 1)) rfl (t := 12) rfl rfl (fun c1 => ?_) (fun c1 => ?_)
  · replace h := (if_pos c1).symm.trans h
    refine g_run 2 (pc' := 14) (L' := [some (.ref a), some (.int x1)]) (S' := [.ref a, .int x1]) (M' := gm g) rfl ?_
    refine g_getf rfl (ci := 0) (k := 1) rfl ha rfl ?_
    by_cases c2 : (gI g (a) 1) = 0
    case pos => exact nomatch ((if_pos c2).symm.trans h)
    replace h := (if_neg c2).symm.trans h
    refine g_div rfl c2 ?_
    cases h
    exact g_ret rfl rfl rfl rfl
  · replace h := (if_neg c1).symm.trans h
    refine g_run 2 (pc' := 18) (L' := [some (.ref a), some (.int x1)]) (S' := [.int 0]) (M' := gm g) rfl ?_
    cases h
    exact g_ret rfl rfl rfl rfl
def f_X0_placeOf (a : Nat) (x1 : Int32) (g : zSg) : Option (Int32 × zSg) := (if 1 ≤ (gI g (a) 1) then (if (gI g (a) 1) = 0 then none else some ((imod x1 (gI g (a) 1)), g)) else some (0, g))
set_option maxRecDepth 100000 in
set_option maxHeartbeats 4000000 in
theorem p_X0_placeOf {sc : zSc} {hp : zHp} (a : Nat) (ha : (zK0 a).1 = 0) {x1 : Int32} {g : zSg} {r : Int32 × zSg} (h : f_X0_placeOf a x1 g = some r) : zRn sc hp 0 zM_X0_placeOf [.ref a, .int x1] (gm g) (some (.int r.1)) (gm r.2) := by
  intro d hD
  show zG _ sc hp (zcd zM_X0_placeOf) 0 [some (.ref a), some (.int x1)] [] (gm g) _
  unfold f_X0_placeOf at h
  refine g_run 1 (pc' := 1) (L' := [some (.ref a), some (.int x1)]) (S' := [.ref a]) (M' := gm g) rfl ?_
  refine g_getf rfl (ci := 0) (k := 1) rfl ha rfl ?_
  refine g_run 1 (pc' := 5) (L' := [some (.ref a), some (.int x1)]) (S' := [.int 1, .int ((gI g (a) 1))]) (M' := gm g) rfl ?_
  refine g_icmp (1 ≤ (gI g (a) 1)) rfl (t := 12) rfl rfl (fun c1 => ?_) (fun c1 => ?_)
  · replace h := (if_pos c1).symm.trans h
    refine g_run 2 (pc' := 14) (L' := [some (.ref a), some (.int x1)]) (S' := [.ref a, .int x1]) (M' := gm g) rfl ?_
    refine g_getf rfl (ci := 0) (k := 1) rfl ha rfl ?_
    by_cases c2 : (gI g (a) 1) = 0
    case pos => exact nomatch ((if_pos c2).symm.trans h)
    replace h := (if_neg c2).symm.trans h
    refine g_rem rfl c2 ?_
    cases h
    exact g_ret rfl rfl rfl rfl
  · replace h := (if_neg c1).symm.trans h
    refine g_run 2 (pc' := 18) (L' := [some (.ref a), some (.int x1)]) (S' := [.int 0]) (M' := gm g) rfl ?_
    cases h
    exact g_ret rfl rfl rfl rfl
def f_X0_beside (a : Nat) (x1 : Int32) (x2 : Int32) (g : zSg) : Option (Int32 × zSg) := (if x2 = 0 then (zB (f_X0_rowOf a x1 g) (fun v2 g3 => (if v2 ≤ 0 then some ((-1), g3) else some ((x1 - (gI g3 (a) 1)), g3)))) else (if x2 = 1 then (zB (f_X0_placeOf a x1 g) (fun v7 g8 => (if ((gI g8 (a) 1) - 1) ≤ v7 then some ((-1), g8) else some ((x1 + 1), g8)))) else (if x2 = 2 then (zB (f_X0_rowOf a x1 g) (fun v12 g13 => (zB (f_X0_rows a g13) (fun v15 g16 => (if (v15 - 1) ≤ v12 then some ((-1), g16) else some ((x1 + (gI g16 (a) 1)), g16)))))) else (if x2 = 3 then (zB (f_X0_placeOf a x1 g) (fun v20 g21 => (if v20 ≤ 0 then some ((-1), g21) else some ((x1 - 1), g21)))) else some ((-1), g)))))
set_option maxRecDepth 100000 in
set_option maxHeartbeats 4000000 in
theorem p_X0_beside {sc : zSc} {hp : zHp} (a : Nat) (ha : (zK0 a).1 = 0) {x1 : Int32} {x2 : Int32} {g : zSg} {r : Int32 × zSg} (h : f_X0_beside a x1 x2 g = some r) : zRn sc hp 2 zM_X0_beside [.ref a, .int x1, .int x2] (gm g) (some (.int r.1)) (gm r.2) := by
  intro d hD
  obtain ⟨d, rfl⟩ : ∃ d', d = d' + 1 := ⟨d - 1, by omega⟩
  show zG _ sc hp (zcd zM_X0_beside) 0 [some (.ref a), some (.int x1), some (.int x2)] [] (gm g) _
  unfold f_X0_beside at h
  refine g_run 1 (pc' := 1) (L' := [some (.ref a), some (.int x1), some (.int x2)]) (S' := [.int x2]) (M' := gm g) rfl ?_
  by_cases c1 : x2 = 0
  · replace h := (if_pos c1).symm.trans h
    refine g_swc c1 rfl rfl rfl (pc' := 32) rfl ?_
    refine g_run 2 (pc' := 34) (L' := [some (.ref a), some (.int x1), some (.int x2)]) (S' := [.int x1, .ref a]) (M' := gm g) rfl ?_
    replace h := zB_of h
    obtain ⟨v2, g3, e4, h⟩ := h
    refine g_inv2 (kd := 1) (p_X0_rowOf a ha e4) rfl rfl rfl (by decide) rfl (g_recv (a := a) rfl (Nat.le_of_ble_eq_true rfl) (Nat.le_of_ble_eq_true rfl) (Nat.le_of_ble_eq_true rfl) (Nat.le_of_ble_eq_true rfl) rfl ha (Nat.le_of_ble_eq_true rfl)) rfl rfl (by omega) (pc' := 37) rfl (S' := [.int v2]) rfl ?_
    refine g_if (v2 ≤ 0) rfl (t := 49) rfl rfl (fun c5 => ?_) (fun c5 => ?_)
    · replace h := (if_pos c5).symm.trans h
      refine g_run 1 (pc' := 50) (L' := [some (.ref a), some (.int x1), some (.int x2)]) (S' := [.int (-1)]) (M' := gm g3) rfl ?_
      cases h
      exact g_ret rfl rfl rfl rfl
    · replace h := (if_neg c5).symm.trans h
      refine g_run 2 (pc' := 42) (L' := [some (.ref a), some (.int x1), some (.int x2)]) (S' := [.ref a, .int x1]) (M' := gm g3) rfl ?_
      refine g_getf rfl (ci := 0) (k := 1) rfl ha rfl ?_
      refine g_run 2 (pc' := 50) (L' := [some (.ref a), some (.int x1), some (.int x2)]) (S' := [.int ((x1 - (gI g3 (a) 1)))]) (M' := gm g3) rfl ?_
      cases h
      exact g_ret rfl rfl rfl rfl
  replace h := (if_neg c1).symm.trans h
  by_cases c6 : x2 = 1
  · replace h := (if_pos c6).symm.trans h
    refine g_swc c6 rfl rfl rfl (pc' := 51) rfl ?_
    refine g_run 2 (pc' := 53) (L' := [some (.ref a), some (.int x1), some (.int x2)]) (S' := [.int x1, .ref a]) (M' := gm g) rfl ?_
    replace h := zB_of h
    obtain ⟨v7, g8, e9, h⟩ := h
    refine g_inv2 (kd := 1) (p_X0_placeOf a ha e9) rfl rfl rfl (by decide) rfl (g_recv (a := a) rfl (Nat.le_of_ble_eq_true rfl) (Nat.le_of_ble_eq_true rfl) (Nat.le_of_ble_eq_true rfl) (Nat.le_of_ble_eq_true rfl) rfl ha (Nat.le_of_ble_eq_true rfl)) rfl rfl (by omega) (pc' := 56) rfl (S' := [.int v7]) rfl ?_
    refine g_run 1 (pc' := 57) (L' := [some (.ref a), some (.int x1), some (.int x2)]) (S' := [.ref a, .int v7]) (M' := gm g8) rfl ?_
    refine g_getf rfl (ci := 0) (k := 1) rfl ha rfl ?_
    refine g_run 2 (pc' := 62) (L' := [some (.ref a), some (.int x1), some (.int x2)]) (S' := [.int (((gI g8 (a) 1) - 1)), .int v7]) (M' := gm g8) rfl ?_
    refine g_icmp (((gI g8 (a) 1) - 1) ≤ v7) rfl (t := 71) rfl rfl (fun c10 => ?_) (fun c10 => ?_)
    · replace h := (if_pos c10).symm.trans h
      refine g_run 1 (pc' := 72) (L' := [some (.ref a), some (.int x1), some (.int x2)]) (S' := [.int (-1)]) (M' := gm g8) rfl ?_
      cases h
      exact g_ret rfl rfl rfl rfl
    · replace h := (if_neg c10).symm.trans h
      refine g_run 4 (pc' := 72) (L' := [some (.ref a), some (.int x1), some (.int x2)]) (S' := [.int ((x1 + 1))]) (M' := gm g8) rfl ?_
      cases h
      exact g_ret rfl rfl rfl rfl
  replace h := (if_neg c6).symm.trans h
  by_cases c11 : x2 = 2
  · replace h := (if_pos c11).symm.trans h
    refine g_swc c11 rfl rfl rfl (pc' := 73) rfl ?_
    refine g_run 2 (pc' := 75) (L' := [some (.ref a), some (.int x1), some (.int x2)]) (S' := [.int x1, .ref a]) (M' := gm g) rfl ?_
    replace h := zB_of h
    obtain ⟨v12, g13, e14, h⟩ := h
    refine g_inv2 (kd := 1) (p_X0_rowOf a ha e14) rfl rfl rfl (by decide) rfl (g_recv (a := a) rfl (Nat.le_of_ble_eq_true rfl) (Nat.le_of_ble_eq_true rfl) (Nat.le_of_ble_eq_true rfl) (Nat.le_of_ble_eq_true rfl) rfl ha (Nat.le_of_ble_eq_true rfl)) rfl rfl (by omega) (pc' := 78) rfl (S' := [.int v12]) rfl ?_
    refine g_run 1 (pc' := 79) (L' := [some (.ref a), some (.int x1), some (.int x2)]) (S' := [.ref a, .int v12]) (M' := gm g13) rfl ?_
    replace h := zB_of h
    obtain ⟨v15, g16, e17, h⟩ := h
    refine g_inv2 (kd := 1) (p_X0_rows a ha e17) rfl rfl rfl (by decide) rfl (g_recv (a := a) rfl (Nat.le_of_ble_eq_true rfl) (Nat.le_of_ble_eq_true rfl) (Nat.le_of_ble_eq_true rfl) (Nat.le_of_ble_eq_true rfl) rfl ha (Nat.le_of_ble_eq_true rfl)) rfl rfl (by omega) (pc' := 82) rfl (S' := [.int v15, .int v12]) rfl ?_
    refine g_run 2 (pc' := 84) (L' := [some (.ref a), some (.int x1), some (.int x2)]) (S' := [.int ((v15 - 1)), .int v12]) (M' := gm g16) rfl ?_
    refine g_icmp ((v15 - 1) ≤ v12) rfl (t := 96) rfl rfl (fun c18 => ?_) (fun c18 => ?_)
    · replace h := (if_pos c18).symm.trans h
      refine g_run 1 (pc' := 97) (L' := [some (.ref a), some (.int x1), some (.int x2)]) (S' := [.int (-1)]) (M' := gm g16) rfl ?_
      cases h
      exact g_ret rfl rfl rfl rfl
    · replace h := (if_neg c18).symm.trans h
      refine g_run 2 (pc' := 89) (L' := [some (.ref a), some (.int x1), some (.int x2)]) (S' := [.ref a, .int x1]) (M' := gm g16) rfl ?_
      refine g_getf rfl (ci := 0) (k := 1) rfl ha rfl ?_
      refine g_run 2 (pc' := 97) (L' := [some (.ref a), some (.int x1), some (.int x2)]) (S' := [.int ((x1 + (gI g16 (a) 1)))]) (M' := gm g16) rfl ?_
      cases h
      exact g_ret rfl rfl rfl rfl
  replace h := (if_neg c11).symm.trans h
  by_cases c19 : x2 = 3
  · replace h := (if_pos c19).symm.trans h
    refine g_swc c19 rfl rfl rfl (pc' := 98) rfl ?_
    refine g_run 2 (pc' := 100) (L' := [some (.ref a), some (.int x1), some (.int x2)]) (S' := [.int x1, .ref a]) (M' := gm g) rfl ?_
    replace h := zB_of h
    obtain ⟨v20, g21, e22, h⟩ := h
    refine g_inv2 (kd := 1) (p_X0_placeOf a ha e22) rfl rfl rfl (by decide) rfl (g_recv (a := a) rfl (Nat.le_of_ble_eq_true rfl) (Nat.le_of_ble_eq_true rfl) (Nat.le_of_ble_eq_true rfl) (Nat.le_of_ble_eq_true rfl) rfl ha (Nat.le_of_ble_eq_true rfl)) rfl rfl (by omega) (pc' := 103) rfl (S' := [.int v20]) rfl ?_
    refine g_if (v20 ≤ 0) rfl (t := 112) rfl rfl (fun c23 => ?_) (fun c23 => ?_)
    · replace h := (if_pos c23).symm.trans h
      refine g_run 1 (pc' := 113) (L' := [some (.ref a), some (.int x1), some (.int x2)]) (S' := [.int (-1)]) (M' := gm g21) rfl ?_
      cases h
      exact g_ret rfl rfl rfl rfl
    · replace h := (if_neg c23).symm.trans h
      refine g_run 4 (pc' := 113) (L' := [some (.ref a), some (.int x1), some (.int x2)]) (S' := [.int ((x1 - 1))]) (M' := gm g21) rfl ?_
      cases h
      exact g_ret rfl rfl rfl rfl
  replace h := (if_neg c19).symm.trans h
  have hsw : (x2).toInt < 0 ∨ 3 < (x2).toInt := by
    have nc1 := lv_neT c1 (a := 0) rfl
    have nc6 := lv_neT c6 (a := 1) rfl
    have nc11 := lv_neT c11 (a := 2) rfl
    have nc19 := lv_neT c19 (a := 3) rfl
    omega
  refine g_tsd rfl hsw (t := 114) rfl ?_
  refine g_run 1 (pc' := 115) (L' := [some (.ref a), some (.int x1), some (.int x2)]) (S' := [.int (-1)]) (M' := gm g) rfl ?_
  cases h
  exact g_ret rfl rfl rfl rfl
def f_X0_steps (a : Nat) (x1 : Int32) (x2 : Int32) (g : zSg) : Option (Int32 × zSg) := (zB (f_X0_rowOf a x1 g) (fun v1 g2 => (zB (f_X0_rowOf a x2 g2) (fun v4 g5 => (zB (f_X0_placeOf a x1 g5) (fun v7 g8 => (zB (f_X0_placeOf a x2 g8) (fun v10 g11 => some (((iabs (v1 - v4)) + (iabs (v7 - v10))), g11)))))))))
set_option maxRecDepth 100000 in
set_option maxHeartbeats 4000000 in
theorem p_X0_steps {sc : zSc} {hp : zHp} (a : Nat) (ha : (zK0 a).1 = 0) {x1 : Int32} {x2 : Int32} {g : zSg} {r : Int32 × zSg} (h : f_X0_steps a x1 x2 g = some r) : zRn sc hp 1 zM_X0_steps [.ref a, .int x1, .int x2] (gm g) (some (.int r.1)) (gm r.2) := by
  intro d hD
  obtain ⟨d, rfl⟩ : ∃ d', d = d' + 1 := ⟨d - 1, by omega⟩
  show zG _ sc hp (zcd zM_X0_steps) 0 [some (.ref a), some (.int x1), some (.int x2)] [] (gm g) _
  unfold f_X0_steps at h
  refine g_run 2 (pc' := 2) (L' := [some (.ref a), some (.int x1), some (.int x2)]) (S' := [.int x1, .ref a]) (M' := gm g) rfl ?_
  replace h := zB_of h
  obtain ⟨v1, g2, e3, h⟩ := h
  refine g_inv2 (kd := 1) (p_X0_rowOf a ha e3) rfl rfl rfl (by decide) rfl (g_recv (a := a) rfl (Nat.le_of_ble_eq_true rfl) (Nat.le_of_ble_eq_true rfl) (Nat.le_of_ble_eq_true rfl) (Nat.le_of_ble_eq_true rfl) rfl ha (Nat.le_of_ble_eq_true rfl)) rfl rfl (by omega) (pc' := 5) rfl (S' := [.int v1]) rfl ?_
  refine g_run 2 (pc' := 7) (L' := [some (.ref a), some (.int x1), some (.int x2)]) (S' := [.int x2, .ref a, .int v1]) (M' := gm g2) rfl ?_
  replace h := zB_of h
  obtain ⟨v4, g5, e6, h⟩ := h
  refine g_inv2 (kd := 1) (p_X0_rowOf a ha e6) rfl rfl rfl (by decide) rfl (g_recv (a := a) rfl (Nat.le_of_ble_eq_true rfl) (Nat.le_of_ble_eq_true rfl) (Nat.le_of_ble_eq_true rfl) (Nat.le_of_ble_eq_true rfl) rfl ha (Nat.le_of_ble_eq_true rfl)) rfl rfl (by omega) (pc' := 10) rfl (S' := [.int v4, .int v1]) rfl ?_
  refine g_run 1 (pc' := 11) (L' := [some (.ref a), some (.int x1), some (.int x2)]) (S' := [.int ((v1 - v4))]) (M' := gm g5) rfl ?_
  refine g_spec2 (kd := 0) rfl rfl rfl (by decide) rfl (jd := 1003) rfl (by decide) rfl (Or.inl (by decide)) (S' := [.int ((iabs (v1 - v4)))]) (M' := gm g5) rfl rfl (pc' := 14) rfl ?_
  refine g_run 2 (pc' := 16) (L' := [some (.ref a), some (.int x1), some (.int x2)]) (S' := [.int x1, .ref a, .int ((iabs (v1 - v4)))]) (M' := gm g5) rfl ?_
  replace h := zB_of h
  obtain ⟨v7, g8, e9, h⟩ := h
  refine g_inv2 (kd := 1) (p_X0_placeOf a ha e9) rfl rfl rfl (by decide) rfl (g_recv (a := a) rfl (Nat.le_of_ble_eq_true rfl) (Nat.le_of_ble_eq_true rfl) (Nat.le_of_ble_eq_true rfl) (Nat.le_of_ble_eq_true rfl) rfl ha (Nat.le_of_ble_eq_true rfl)) rfl rfl (by omega) (pc' := 19) rfl (S' := [.int v7, .int ((iabs (v1 - v4)))]) rfl ?_
  refine g_run 2 (pc' := 21) (L' := [some (.ref a), some (.int x1), some (.int x2)]) (S' := [.int x2, .ref a, .int v7, .int ((iabs (v1 - v4)))]) (M' := gm g8) rfl ?_
  replace h := zB_of h
  obtain ⟨v10, g11, e12, h⟩ := h
  refine g_inv2 (kd := 1) (p_X0_placeOf a ha e12) rfl rfl rfl (by decide) rfl (g_recv (a := a) rfl (Nat.le_of_ble_eq_true rfl) (Nat.le_of_ble_eq_true rfl) (Nat.le_of_ble_eq_true rfl) (Nat.le_of_ble_eq_true rfl) rfl ha (Nat.le_of_ble_eq_true rfl)) rfl rfl (by omega) (pc' := 24) rfl (S' := [.int v10, .int v7, .int ((iabs (v1 - v4)))]) rfl ?_
  refine g_run 1 (pc' := 25) (L' := [some (.ref a), some (.int x1), some (.int x2)]) (S' := [.int ((v7 - v10)), .int ((iabs (v1 - v4)))]) (M' := gm g11) rfl ?_
  refine g_spec2 (kd := 0) rfl rfl rfl (by decide) rfl (jd := 1003) rfl (by decide) rfl (Or.inl (by decide)) (S' := [.int ((iabs (v7 - v10))), .int ((iabs (v1 - v4)))]) (M' := gm g11) rfl rfl (pc' := 28) rfl ?_
  refine g_run 1 (pc' := 29) (L' := [some (.ref a), some (.int x1), some (.int x2)]) (S' := [.int (((iabs (v1 - v4)) + (iabs (v7 - v10))))]) (M' := gm g11) rfl ?_
  cases h
  exact g_ret rfl rfl rfl rfl
def f_X0_away_90 (a : Nat) (s0 : Int32) (g : zSg) : Option (Int32 × zSg) := (if 0 ≤ s0 then some (s0, g) else some ((-1), g))
set_option maxRecDepth 100000 in
set_option maxHeartbeats 4000000 in
theorem p_X0_away_90 {sc : zSc} {hp : zHp} {d : Nat} (hD : 1 ≤ d) (a : Nat) (ha : (zK0 a).1 = 0) (s0 : Int32) (g : zSg) (r : Int32 × zSg) (h : f_X0_away_90 a s0 g = some r) : zG d sc hp (zcd zM_X0_away) 90 [none, none, none, none, none, none, none, none, none] [.int s0] (gm g) ((some (.int r.1)), gm r.2) := by
  obtain ⟨d, rfl⟩ : ∃ d', d = d' + 1 := ⟨d - 1, by omega⟩
  unfold f_X0_away_90 at h
  refine g_run 2 (pc' := 94) (L' := [none, none, none, none, none, none, none, none, some (.int s0)]) (S' := [.int s0]) (M' := gm g) rfl ?_
  refine g_if (0 ≤ s0) rfl (t := 101) rfl rfl (fun c1 => ?_) (fun c1 => ?_)
  · replace h := (if_pos c1).symm.trans h
    refine g_run 1 (pc' := 103) (L' := [none, none, none, none, none, none, none, none, some (.int s0)]) (S' := [.int s0]) (M' := gm g) rfl ?_
    cases h
    exact g_ret rfl rfl rfl rfl
  · replace h := (if_neg c1).symm.trans h
    refine g_run 2 (pc' := 103) (L' := [none, none, none, none, none, none, none, none, some (.int s0)]) (S' := [.int (-1)]) (M' := gm g) rfl ?_
    cases h
    exact g_ret rfl rfl rfl rfl
def f_X0_away_82 (a : Nat) (y7 : Int32) (g : zSg) : Option (Int32 × zSg) := f_X0_away_90 a (-y7) g
set_option maxRecDepth 100000 in
set_option maxHeartbeats 4000000 in
theorem p_X0_away_82 {sc : zSc} {hp : zHp} {d : Nat} (hD : 1 ≤ d) (a : Nat) (ha : (zK0 a).1 = 0) (y7 : Int32) (g : zSg) (r : Int32 × zSg) (h : f_X0_away_82 a y7 g = some r) : zG d sc hp (zcd zM_X0_away) 82 [none, none, none, none, none, none, none, some (.int y7), none] [] (gm g) ((some (.int r.1)), gm r.2) := by
  obtain ⟨d, rfl⟩ : ∃ d', d = d' + 1 := ⟨d - 1, by omega⟩
  unfold f_X0_away_82 at h
  refine g_run 3 (pc' := 90) (L' := [none, none, none, none, none, none, none, some (.int y7), none]) (S' := [.int ((-y7))]) (M' := gm g) rfl ?_
  refine g_forget (L' := [none, none, none, none, none, none, none, none, none]) True.intro ?_
  exact p_X0_away_90 hD a ha (-y7) g _ h
def f_X0_away_71 (a : Nat) (y3 : Int32) (s0 : Int32) (g : zSg) : Option (Int32 × zSg) := (if y3 = 0 then f_X0_away_82 a (s0) g else (if ¬ y3 = 3 then f_X0_away_90 a (s0) g else f_X0_away_82 a (s0) g))
set_option maxRecDepth 100000 in
set_option maxHeartbeats 4000000 in
theorem p_X0_away_71 {sc : zSc} {hp : zHp} {d : Nat} (hD : 1 ≤ d) (a : Nat) (ha : (zK0 a).1 = 0) (y3 : Int32) (s0 : Int32) (g : zSg) (r : Int32 × zSg) (h : f_X0_away_71 a y3 s0 g = some r) : zG d sc hp (zcd zM_X0_away) 71 [none, none, none, some (.int y3), none, none, none, none, none] [.int s0] (gm g) ((some (.int r.1)), gm r.2) := by
  obtain ⟨d, rfl⟩ : ∃ d', d = d' + 1 := ⟨d - 1, by omega⟩
  unfold f_X0_away_71 at h
  refine g_run 2 (pc' := 74) (L' := [none, none, none, some (.int y3), none, none, none, some (.int s0), none]) (S' := [.int y3]) (M' := gm g) rfl ?_
  refine g_if (y3 = 0) rfl (t := 82) rfl rfl (fun c1 => ?_) (fun c1 => ?_)
  · replace h := (if_pos c1).symm.trans h
    refine g_forget (L' := [none, none, none, none, none, none, none, some (.int s0), none]) (And.intro rfl True.intro) ?_
    exact p_X0_away_82 hD a ha (s0) g _ h
  · replace h := (if_neg c1).symm.trans h
    refine g_run 2 (pc' := 79) (L' := [none, none, none, some (.int y3), none, none, none, some (.int s0), none]) (S' := [.int 3, .int y3]) (M' := gm g) rfl ?_
    refine g_icmp (¬ y3 = 3) rfl (t := 88) rfl rfl (fun c2 => ?_) (fun c2 => ?_)
    · replace h := (if_pos c2).symm.trans h
      refine g_run 1 (pc' := 90) (L' := [none, none, none, some (.int y3), none, none, none, some (.int s0), none]) (S' := [.int s0]) (M' := gm g) rfl ?_
      refine g_forget (L' := [none, none, none, none, none, none, none, none, none]) True.intro ?_
      exact p_X0_away_90 hD a ha (s0) g _ h
    · replace h := (if_neg c2).symm.trans h
      refine g_forget (L' := [none, none, none, none, none, none, none, some (.int s0), none]) (And.intro rfl True.intro) ?_
      exact p_X0_away_82 hD a ha (s0) g _ h
def f_X0_away_54 (a : Nat) (y3 : Int32) (y4 : Int32) (y5 : Int32) (y6 : Int32) (s0 : Int32) (g : zSg) : Option (Int32 × zSg) := (if s0 = 0 then (if y6 = 0 then f_X0_away_71 a (y3) (y5) g else f_X0_away_71 a (y3) (y4) g) else some ((-1), g))
set_option maxRecDepth 100000 in
set_option maxHeartbeats 4000000 in
theorem p_X0_away_54 {sc : zSc} {hp : zHp} {d : Nat} (hD : 1 ≤ d) (a : Nat) (ha : (zK0 a).1 = 0) (y3 : Int32) (y4 : Int32) (y5 : Int32) (y6 : Int32) (s0 : Int32) (g : zSg) (r : Int32 × zSg) (h : f_X0_away_54 a y3 y4 y5 y6 s0 g = some r) : zG d sc hp (zcd zM_X0_away) 54 [none, none, none, some (.int y3), some (.int y4), some (.int y5), some (.int y6), none, none] [.int s0] (gm g) ((some (.int r.1)), gm r.2) := by
  obtain ⟨d, rfl⟩ : ∃ d', d = d' + 1 := ⟨d - 1, by omega⟩
  unfold f_X0_away_54 at h
  refine g_if (s0 = 0) rfl (t := 59) rfl rfl (fun c1 => ?_) (fun c1 => ?_)
  · replace h := (if_pos c1).symm.trans h
    refine g_run 1 (pc' := 61) (L' := [none, none, none, some (.int y3), some (.int y4), some (.int y5), some (.int y6), none, none]) (S' := [.int y6]) (M' := gm g) rfl ?_
    refine g_if (y6 = 0) rfl (t := 69) rfl rfl (fun c2 => ?_) (fun c2 => ?_)
    · replace h := (if_pos c2).symm.trans h
      refine g_run 1 (pc' := 71) (L' := [none, none, none, some (.int y3), some (.int y4), some (.int y5), some (.int y6), none, none]) (S' := [.int y5]) (M' := gm g) rfl ?_
      refine g_forget (L' := [none, none, none, some (.int y3), none, none, none, none, none]) (And.intro rfl True.intro) ?_
      exact p_X0_away_71 hD a ha (y3) (y5) g _ h
    · replace h := (if_neg c2).symm.trans h
      refine g_run 2 (pc' := 71) (L' := [none, none, none, some (.int y3), some (.int y4), some (.int y5), some (.int y6), none, none]) (S' := [.int y4]) (M' := gm g) rfl ?_
      refine g_forget (L' := [none, none, none, some (.int y3), none, none, none, none, none]) (And.intro rfl True.intro) ?_
      exact p_X0_away_71 hD a ha (y3) (y4) g _ h
  · replace h := (if_neg c1).symm.trans h
    refine g_run 1 (pc' := 58) (L' := [none, none, none, some (.int y3), some (.int y4), some (.int y5), some (.int y6), none, none]) (S' := [.int (-1)]) (M' := gm g) rfl ?_
    cases h
    exact g_ret rfl rfl rfl rfl
def f_X0_away_40 (a : Nat) (y3 : Int32) (y4 : Int32) (y5 : Int32) (s0 : Int32) (g : zSg) : Option (Int32 × zSg) := (if s0 = 0 then f_X0_away_54 a (y3) (y4) (y5) (s0) (y4) g else f_X0_away_54 a (y3) (y4) (y5) (s0) (y5) g)
set_option maxRecDepth 100000 in
set_option maxHeartbeats 4000000 in
theorem p_X0_away_40 {sc : zSc} {hp : zHp} {d : Nat} (hD : 1 ≤ d) (a : Nat) (ha : (zK0 a).1 = 0) (y3 : Int32) (y4 : Int32) (y5 : Int32) (s0 : Int32) (g : zSg) (r : Int32 × zSg) (h : f_X0_away_40 a y3 y4 y5 s0 g = some r) : zG d sc hp (zcd zM_X0_away) 40 [none, none, none, some (.int y3), some (.int y4), some (.int y5), none, none, none] [.int s0] (gm g) ((some (.int r.1)), gm r.2) := by
  obtain ⟨d, rfl⟩ : ∃ d', d = d' + 1 := ⟨d - 1, by omega⟩
  unfold f_X0_away_40 at h
  refine g_run 2 (pc' := 44) (L' := [none, none, none, some (.int y3), some (.int y4), some (.int y5), some (.int s0), none, none]) (S' := [.int s0]) (M' := gm g) rfl ?_
  refine g_if (s0 = 0) rfl (t := 52) rfl rfl (fun c1 => ?_) (fun c1 => ?_)
  · replace h := (if_pos c1).symm.trans h
    refine g_run 1 (pc' := 54) (L' := [none, none, none, some (.int y3), some (.int y4), some (.int y5), some (.int s0), none, none]) (S' := [.int y4]) (M' := gm g) rfl ?_
    exact p_X0_away_54 hD a ha (y3) (y4) (y5) (s0) (y4) g _ h
  · replace h := (if_neg c1).symm.trans h
    refine g_run 2 (pc' := 54) (L' := [none, none, none, some (.int y3), some (.int y4), some (.int y5), some (.int s0), none, none]) (S' := [.int y5]) (M' := gm g) rfl ?_
    exact p_X0_away_54 hD a ha (y3) (y4) (y5) (s0) (y5) g _ h
def f_X0_away_35 (a : Nat) (y3 : Int32) (y4 : Int32) (y5 : Int32) (g : zSg) : Option (Int32 × zSg) := f_X0_away_40 a (y3) (y4) (y5) (1) g
set_option maxRecDepth 100000 in
set_option maxHeartbeats 4000000 in
theorem p_X0_away_35 {sc : zSc} {hp : zHp} {d : Nat} (hD : 1 ≤ d) (a : Nat) (ha : (zK0 a).1 = 0) (y3 : Int32) (y4 : Int32) (y5 : Int32) (g : zSg) (r : Int32 × zSg) (h : f_X0_away_35 a y3 y4 y5 g = some r) : zG d sc hp (zcd zM_X0_away) 35 [none, none, none, some (.int y3), some (.int y4), some (.int y5), none, none, none] [] (gm g) ((some (.int r.1)), gm r.2) := by
  obtain ⟨d, rfl⟩ : ∃ d', d = d' + 1 := ⟨d - 1, by omega⟩
  unfold f_X0_away_35 at h
  refine g_run 2 (pc' := 40) (L' := [none, none, none, some (.int y3), some (.int y4), some (.int y5), none, none, none]) (S' := [.int 1]) (M' := gm g) rfl ?_
  exact p_X0_away_40 hD a ha (y3) (y4) (y5) (1) g _ h
def f_X0_away (a : Nat) (x1 : Int32) (x2 : Int32) (x3 : Int32) (g : zSg) : Option (Int32 × zSg) := (zB (f_X0_rowOf a x2 g) (fun v1 g2 => (zB (f_X0_rowOf a x1 g2) (fun v4 g5 => (zB (f_X0_placeOf a x2 g5) (fun v7 g8 => (zB (f_X0_placeOf a x1 g8) (fun v10 g11 => (if x3 = 0 then f_X0_away_35 a (x3) (v1 - v4) (v7 - v10) g11 else (if ¬ x3 = 2 then f_X0_away_40 a (x3) (v1 - v4) (v7 - v10) (0) g11 else f_X0_away_35 a (x3) (v1 - v4) (v7 - v10) g11))))))))))
set_option maxRecDepth 100000 in
set_option maxHeartbeats 4000000 in
theorem p_X0_away {sc : zSc} {hp : zHp} (a : Nat) (ha : (zK0 a).1 = 0) {x1 : Int32} {x2 : Int32} {x3 : Int32} {g : zSg} {r : Int32 × zSg} (h : f_X0_away a x1 x2 x3 g = some r) : zRn sc hp 1 zM_X0_away [.ref a, .int x1, .int x2, .int x3] (gm g) (some (.int r.1)) (gm r.2) := by
  intro d hD
  obtain ⟨d, rfl⟩ : ∃ d', d = d' + 1 := ⟨d - 1, by omega⟩
  show zG _ sc hp (zcd zM_X0_away) 0 [some (.ref a), some (.int x1), some (.int x2), some (.int x3), none, none, none, none, none] [] (gm g) _
  unfold f_X0_away at h
  refine g_run 2 (pc' := 2) (L' := [some (.ref a), some (.int x1), some (.int x2), some (.int x3), none, none, none, none, none]) (S' := [.int x2, .ref a]) (M' := gm g) rfl ?_
  replace h := zB_of h
  obtain ⟨v1, g2, e3, h⟩ := h
  refine g_inv2 (kd := 1) (p_X0_rowOf a ha e3) rfl rfl rfl (by decide) rfl (g_recv (a := a) rfl (Nat.le_of_ble_eq_true rfl) (Nat.le_of_ble_eq_true rfl) (Nat.le_of_ble_eq_true rfl) (Nat.le_of_ble_eq_true rfl) rfl ha (Nat.le_of_ble_eq_true rfl)) rfl rfl (by omega) (pc' := 5) rfl (S' := [.int v1]) rfl ?_
  refine g_run 2 (pc' := 7) (L' := [some (.ref a), some (.int x1), some (.int x2), some (.int x3), none, none, none, none, none]) (S' := [.int x1, .ref a, .int v1]) (M' := gm g2) rfl ?_
  replace h := zB_of h
  obtain ⟨v4, g5, e6, h⟩ := h
  refine g_inv2 (kd := 1) (p_X0_rowOf a ha e6) rfl rfl rfl (by decide) rfl (g_recv (a := a) rfl (Nat.le_of_ble_eq_true rfl) (Nat.le_of_ble_eq_true rfl) (Nat.le_of_ble_eq_true rfl) (Nat.le_of_ble_eq_true rfl) rfl ha (Nat.le_of_ble_eq_true rfl)) rfl rfl (by omega) (pc' := 10) rfl (S' := [.int v4, .int v1]) rfl ?_
  refine g_run 4 (pc' := 15) (L' := [some (.ref a), some (.int x1), some (.int x2), some (.int x3), some (.int ((v1 - v4))), none, none, none, none]) (S' := [.int x2, .ref a]) (M' := gm g5) rfl ?_
  replace h := zB_of h
  obtain ⟨v7, g8, e9, h⟩ := h
  refine g_inv2 (kd := 1) (p_X0_placeOf a ha e9) rfl rfl rfl (by decide) rfl (g_recv (a := a) rfl (Nat.le_of_ble_eq_true rfl) (Nat.le_of_ble_eq_true rfl) (Nat.le_of_ble_eq_true rfl) (Nat.le_of_ble_eq_true rfl) rfl ha (Nat.le_of_ble_eq_true rfl)) rfl rfl (by omega) (pc' := 18) rfl (S' := [.int v7]) rfl ?_
  refine g_run 2 (pc' := 20) (L' := [some (.ref a), some (.int x1), some (.int x2), some (.int x3), some (.int ((v1 - v4))), none, none, none, none]) (S' := [.int x1, .ref a, .int v7]) (M' := gm g8) rfl ?_
  replace h := zB_of h
  obtain ⟨v10, g11, e12, h⟩ := h
  refine g_inv2 (kd := 1) (p_X0_placeOf a ha e12) rfl rfl rfl (by decide) rfl (g_recv (a := a) rfl (Nat.le_of_ble_eq_true rfl) (Nat.le_of_ble_eq_true rfl) (Nat.le_of_ble_eq_true rfl) (Nat.le_of_ble_eq_true rfl) rfl ha (Nat.le_of_ble_eq_true rfl)) rfl rfl (by omega) (pc' := 23) rfl (S' := [.int v10, .int v7]) rfl ?_
  refine g_run 3 (pc' := 27) (L' := [some (.ref a), some (.int x1), some (.int x2), some (.int x3), some (.int ((v1 - v4))), some (.int ((v7 - v10))), none, none, none]) (S' := [.int x3]) (M' := gm g11) rfl ?_
  refine g_if (x3 = 0) rfl (t := 35) rfl rfl (fun c13 => ?_) (fun c13 => ?_)
  · replace h := (if_pos c13).symm.trans h
    refine g_forget (L' := [none, none, none, some (.int x3), some (.int ((v1 - v4))), some (.int ((v7 - v10))), none, none, none]) (And.intro rfl (And.intro rfl (And.intro rfl True.intro))) ?_
    exact p_X0_away_35 hD a ha (x3) (v1 - v4) (v7 - v10) g11 _ h
  · replace h := (if_neg c13).symm.trans h
    refine g_run 2 (pc' := 32) (L' := [some (.ref a), some (.int x1), some (.int x2), some (.int x3), some (.int ((v1 - v4))), some (.int ((v7 - v10))), none, none, none]) (S' := [.int 2, .int x3]) (M' := gm g11) rfl ?_
    refine g_icmp (¬ x3 = 2) rfl (t := 39) rfl rfl (fun c14 => ?_) (fun c14 => ?_)
    · replace h := (if_pos c14).symm.trans h
      refine g_run 1 (pc' := 40) (L' := [some (.ref a), some (.int x1), some (.int x2), some (.int x3), some (.int ((v1 - v4))), some (.int ((v7 - v10))), none, none, none]) (S' := [.int 0]) (M' := gm g11) rfl ?_
      refine g_forget (L' := [none, none, none, some (.int x3), some (.int ((v1 - v4))), some (.int ((v7 - v10))), none, none, none]) (And.intro rfl (And.intro rfl (And.intro rfl True.intro))) ?_
      exact p_X0_away_40 hD a ha (x3) (v1 - v4) (v7 - v10) (0) g11 _ h
    · replace h := (if_neg c14).symm.trans h
      refine g_forget (L' := [none, none, none, some (.int x3), some (.int ((v1 - v4))), some (.int ((v7 - v10))), none, none, none]) (And.intro rfl (And.intro rfl (And.intro rfl True.intro))) ?_
      exact p_X0_away_35 hD a ha (x3) (v1 - v4) (v7 - v10) g11 _ h
def f_X1_draft (g : zSg) : Option (Option Nat × zSg) := some (some (7), g)
set_option maxRecDepth 100000 in
set_option maxHeartbeats 4000000 in
theorem p_X1_draft {sc : zSc} {hp : zHp} {g : zSg} {r : Option Nat × zSg} (h : f_X1_draft g = some r) : zRn sc hp 0 zM_X1_draft [.ref 6] (gm g) (some (zrv r.1)) (gm r.2) := by
  intro d hD
  show zG _ sc hp (zcd zM_X1_draft) 0 [some (.ref 6)] [] (gm g) _
  unfold f_X1_draft at h
  refine g_run 2 (pc' := 4) (L' := [some (.ref 6)]) (S' := [.ref 7]) (M' := gm g) rfl ?_
  cases h
  exact g_reto (v := some (7)) rfl rfl
def f_X9_rewind (g : zSg) : Option (Unit × zSg) := some ((), (gsI g 1 2 0))
set_option maxRecDepth 100000 in
set_option maxHeartbeats 4000000 in
theorem p_X9_rewind {sc : zSc} {hp : zHp} {g : zSg} {r : Unit × zSg} (h : f_X9_rewind g = some r) : zRn sc hp 0 zM_X9_rewind [.ref 1] (gm g) none (gm r.2) := by
  intro d hD
  show zG _ sc hp (zcd zM_X9_rewind) 0 [some (.ref 1)] [] (gm g) _
  unfold f_X9_rewind at h
  refine g_run 3 (pc' := 5) (L' := [some (.ref 1)]) (S' := []) (M' := gm (gsI g 1 2 0)) rfl ?_
  cases h
  exact g_ret rfl rfl rfl rfl
def f_X1_item (x1 : Int32) (x2 : Int32) (g : zSg) : Option (Int32 × zSg) := (if ((x1 * 4) + x2) < 0 then some (0, g) else (if 48 ≤ ((x1 * 4) + x2) then some (0, g) else (if zib ((x1 * 4) + x2) 48 = true then some ((zitem (ix ((x1 * 4) + x2))), g) else none)))
set_option maxRecDepth 100000 in
set_option maxHeartbeats 4000000 in
theorem p_X1_item {sc : zSc} {hp : zHp} {x1 : Int32} {x2 : Int32} {g : zSg} {r : Int32 × zSg} (h : f_X1_item x1 x2 g = some r) : zRn sc hp 0 zM_X1_item [.int x1, .int x2] (gm g) (some (.int r.1)) (gm r.2) := by
  intro d hD
  show zG _ sc hp (zcd zM_X1_item) 0 [some (.int x1), some (.int x2), none] [] (gm g) _
  unfold f_X1_item at h
  refine g_run 7 (pc' := 7) (L' := [some (.int x1), some (.int x2), some (.int (((x1 * 4) + x2)))]) (S' := [.int (((x1 * 4) + x2))]) (M' := gm g) rfl ?_
  refine g_if (((x1 * 4) + x2) < 0) rfl (t := 26) rfl rfl (fun c1 => ?_) (fun c1 => ?_)
  · replace h := (if_pos c1).symm.trans h
    refine g_run 1 (pc' := 27) (L' := [some (.int x1), some (.int x2), some (.int (((x1 * 4) + x2)))]) (S' := [.int 0]) (M' := gm g) rfl ?_
    cases h
    exact g_ret rfl rfl rfl rfl
  · replace h := (if_neg c1).symm.trans h
    refine g_run 3 (pc' := 15) (L' := [some (.int x1), some (.int x2), some (.int (((x1 * 4) + x2)))]) (S' := [.int 48, .int (((x1 * 4) + x2))]) (M' := gm g) rfl ?_
    refine g_icmp (48 ≤ ((x1 * 4) + x2)) rfl (t := 26) rfl rfl (fun c2 => ?_) (fun c2 => ?_)
    · replace h := (if_pos c2).symm.trans h
      refine g_run 1 (pc' := 27) (L' := [some (.int x1), some (.int x2), some (.int (((x1 * 4) + x2)))]) (S' := [.int 0]) (M' := gm g) rfl ?_
      cases h
      exact g_ret rfl rfl rfl rfl
    · replace h := (if_neg c2).symm.trans h
      refine g_run 2 (pc' := 22) (L' := [some (.int x1), some (.int x2), some (.int (((x1 * 4) + x2)))]) (S' := [.int (((x1 * 4) + x2)), .float 1]) (M' := gm g) rfl ?_
      by_cases c3 : zib ((x1 * 4) + x2) 48 = true
      case neg => exact nomatch ((if_neg c3).symm.trans h)
      replace h := (if_pos c3).symm.trans h
      refine g_item rfl c3 ?_
      refine g_run 1 (pc' := 27) (L' := [some (.int x1), some (.int x2), some (.int (((x1 * 4) + x2)))]) (S' := [.int ((zitem (ix ((x1 * 4) + x2))))]) (M' := gm g) rfl ?_
      cases h
      exact g_ret rfl rfl rfl rfl
def f_X7_set (a : Nat) (x1 : Int32) (x2 : Int32) (g : zSg) : Option (Unit × zSg) := (if x1 < 0 then some ((), g) else (if (Int32.ofNat (zK0 (a + 1)).2) ≤ x1 then some ((), g) else (if zib x1 (zK0 (a + 1)).2 = true then some ((), (gsI g (a + 1) (ix x1) x2)) else none)))
set_option maxRecDepth 100000 in
set_option maxHeartbeats 4000000 in
theorem p_X7_set {sc : zSc} {hp : zHp} (a : Nat) (ha : (zK0 a).1 = 7) {x1 : Int32} {x2 : Int32} {g : zSg} {r : Unit × zSg} (h : f_X7_set a x1 x2 g = some r) : zRn sc hp 0 zM_X7_set [.ref a, .int x1, .int x2] (gm g) none (gm r.2) := by
  intro d hD
  show zG _ sc hp (zcd zM_X7_set) 0 [some (.ref a), some (.int x1), some (.int x2)] [] (gm g) _
  unfold f_X7_set at h
  refine g_run 1 (pc' := 1) (L' := [some (.ref a), some (.int x1), some (.int x2)]) (S' := [.int x1]) (M' := gm g) rfl ?_
  refine g_if (x1 < 0) rfl (t := 20) rfl rfl (fun c1 => ?_) (fun c1 => ?_)
  · replace h := (if_pos c1).symm.trans h
    cases h
    exact g_ret rfl rfl rfl rfl
  · replace h := (if_neg c1).symm.trans h
    refine g_run 2 (pc' := 6) (L' := [some (.ref a), some (.int x1), some (.int x2)]) (S' := [.ref a, .int x1]) (M' := gm g) rfl ?_
    refine g_getf rfl (ci := 7) (k := 0) rfl ha (gfv_r0 ha) ?_
    refine g_alen rfl (a := a + 1) (by rw [(zK0_r ha)]; decide) ?_
    refine g_icmp ((Int32.ofNat (zK0 (a + 1)).2) ≤ x1) rfl (t := 20) rfl rfl (fun c2 => ?_) (fun c2 => ?_)
    · replace h := (if_pos c2).symm.trans h
      cases h
      exact g_ret rfl rfl rfl rfl
    · replace h := (if_neg c2).symm.trans h
      refine g_run 1 (pc' := 14) (L' := [some (.ref a), some (.int x1), some (.int x2)]) (S' := [.ref a]) (M' := gm g) rfl ?_
      refine g_getf rfl (ci := 7) (k := 0) rfl ha (gfv_r0 ha) ?_
      refine g_run 2 (pc' := 19) (L' := [some (.ref a), some (.int x1), some (.int x2)]) (S' := [.int x2, .int x1, .ref (a + 1)]) (M' := gm g) rfl ?_
      by_cases c3 : zib x1 (zK0 (a + 1)).2 = true
      case neg => exact nomatch ((if_neg c3).symm.trans h)
      replace h := (if_pos c3).symm.trans h
      refine g_iast rfl (a := a + 1) (zK0_r ha) c3 ?_
      cases h
      exact g_ret rfl rfl rfl rfl
def fb_X1_fillIn_3 (kk : Int32 → Int32 → Int32 → Int32 → zSg → Option (Unit × zSg)) (y1 : Int32) (y2 : Int32) (y3 : Int32) (y4 : Int32) (g : zSg) : Option (Unit × zSg) := (if y2 ≤ y4 then some ((), g) else (zB (f_X1_item (y1 + y4) 3 g) (fun v2 g3 => (zB (f_X7_set 8 (y3 + y4) v2 g3) (fun v5 g6 => kk (y1) (y2) (y3) (y4 + 1) g6)))))
def f_X1_fillIn_3 : Nat → Int32 → Int32 → Int32 → Int32 → zSg → Option (Unit × zSg)
  | 0, _, _, _, _, _ => none
  | n + 1, y1, y2, y3, y4, g => fb_X1_fillIn_3 (f_X1_fillIn_3 n) y1 y2 y3 y4 g
set_option maxRecDepth 100000 in
set_option maxHeartbeats 4000000 in
theorem p_X1_fillIn_3 {sc : zSc} {hp : zHp} {d : Nat} (hD : 1 ≤ d) : ∀ (n : Nat) (y1 : Int32) (y2 : Int32) (y3 : Int32) (y4 : Int32) (g : zSg) (r : Unit × zSg), f_X1_fillIn_3 n y1 y2 y3 y4 g = some r → zG d sc hp (zcd zM_X1_fillIn) 3 [some (.ref 6), some (.int y1), some (.int y2), some (.int y3), some (.int y4)] [] (gm g) (none, gm r.2) := by
  obtain ⟨d, rfl⟩ : ∃ d', d = d' + 1 := ⟨d - 1, by omega⟩
  intro n
  induction n with
  | zero => intro y1 y2 y3 y4 g r h; cases h
  | succ n ih =>
    intro y1 y2 y3 y4 g r h
    replace h : fb_X1_fillIn_3 (f_X1_fillIn_3 n) y1 y2 y3 y4 g = some r := h
    unfold fb_X1_fillIn_3 at h
    refine g_run 2 (pc' := 6) (L' := [some (.ref 6), some (.int y1), some (.int y2), some (.int y3), some (.int y4)]) (S' := [.int y2, .int y4]) (M' := gm g) rfl ?_
    refine g_icmp (y2 ≤ y4) rfl (t := 37) rfl rfl (fun c1 => ?_) (fun c1 => ?_)
    · replace h := (if_pos c1).symm.trans h
      cases h
      exact g_ret rfl rfl rfl rfl
    · replace h := (if_neg c1).symm.trans h
      refine g_run 10 (pc' := 25) (L' := [some (.ref 6), some (.int y1), some (.int y2), some (.int y3), some (.int y4)]) (S' := [.int 3, .int ((y1 + y4)), .int ((y3 + y4)), .ref 8]) (M' := gm g) rfl ?_
      replace h := zB_of h
      obtain ⟨v2, g3, e4, h⟩ := h
      refine g_inv2 (kd := 0) (p_X1_item  e4) rfl rfl rfl (by decide) rfl rfl rfl rfl (by omega) (pc' := 28) rfl (S' := [.int v2, .int ((y3 + y4)), .ref 8]) rfl ?_
      replace h := zB_of h
      obtain ⟨v5, g6, e7, h⟩ := h
      refine g_inv2 (kd := 1) (p_X7_set 8 rfl e7) rfl rfl rfl (by decide) rfl rfl rfl rfl (by omega) (pc' := 31) rfl (S' := []) rfl ?_
      refine g_run 2 (pc' := 3) (L' := [some (.ref 6), some (.int y1), some (.int y2), some (.int y3), some (.int ((y4 + 1)))]) (S' := []) (M' := gm g6) rfl ?_
      exact ih (y1) (y2) (y3) (y4 + 1) g6 _ h
def f_X1_fillIn (x1 : Int32) (x2 : Int32) (x3 : Int32) (g : zSg) : Option (Unit × zSg) := f_X1_fillIn_3 zFu (x1) (x2) (x3) (0) g
set_option maxRecDepth 100000 in
set_option maxHeartbeats 4000000 in
theorem p_X1_fillIn {sc : zSc} {hp : zHp} {x1 : Int32} {x2 : Int32} {x3 : Int32} {g : zSg} {r : Unit × zSg} (h : f_X1_fillIn x1 x2 x3 g = some r) : zRn sc hp 1 zM_X1_fillIn [.ref 6, .int x1, .int x2, .int x3] (gm g) none (gm r.2) := by
  intro d hD
  obtain ⟨d, rfl⟩ : ∃ d', d = d' + 1 := ⟨d - 1, by omega⟩
  show zG _ sc hp (zcd zM_X1_fillIn) 0 [some (.ref 6), some (.int x1), some (.int x2), some (.int x3), none] [] (gm g) _
  unfold f_X1_fillIn at h
  refine g_run 2 (pc' := 3) (L' := [some (.ref 6), some (.int x1), some (.int x2), some (.int x3), some (.int 0)]) (S' := []) (M' := gm g) rfl ?_
  exact p_X1_fillIn_3 hD zFu (x1) (x2) (x3) (0) g _ h
def f_X9_next_55 (g : zSg) : Option (Int32 × zSg) := some (0, (gsI g 1 2 (gI g 1 1)))
set_option maxRecDepth 100000 in
set_option maxHeartbeats 4000000 in
theorem p_X9_next_55 {sc : zSc} {hp : zHp} {d : Nat} (hD : 0 ≤ d) (g : zSg) (r : Int32 × zSg) (h : f_X9_next_55 g = some r) : zG d sc hp (zcd zM_X9_next) 55 [some (.ref 1), none] [] (gm g) ((some (.int r.1)), gm r.2) := by
  unfold f_X9_next_55 at h
  refine g_run 5 (pc' := 64) (L' := [some (.ref 1), none]) (S' := [.int 0]) (M' := gm (gsI g 1 2 (gI g 1 1))) rfl ?_
  cases h
  exact g_ret rfl rfl rfl rfl
def f_X9_next_37 (y1 : Int32) (g : zSg) : Option (Int32 × zSg) := (if zib y1 240 = true then some ((gI (gsI g 1 2 y1) 2 (ix y1)), (gsI g 1 2 y1)) else none)
set_option maxRecDepth 100000 in
set_option maxHeartbeats 4000000 in
theorem p_X9_next_37 {sc : zSc} {hp : zHp} {d : Nat} (hD : 0 ≤ d) (y1 : Int32) (g : zSg) (r : Int32 × zSg) (h : f_X9_next_37 y1 g = some r) : zG d sc hp (zcd zM_X9_next) 37 [some (.ref 1), some (.int y1)] [] (gm g) ((some (.int r.1)), gm r.2) := by
  unfold f_X9_next_37 at h
  refine g_run 6 (pc' := 47) (L' := [some (.ref 1), some (.int y1)]) (S' := [.int y1, .ref 2]) (M' := gm (gsI g 1 2 y1)) rfl ?_
  by_cases c1 : zib y1 240 = true
  case neg => exact nomatch ((if_neg c1).symm.trans h)
  replace h := (if_pos c1).symm.trans h
  refine g_iald rfl (a := 2) rfl c1 ?_
  cases h
  exact g_ret rfl rfl rfl rfl
def fb_X9_next_5 (kk : Int32 → zSg → Option (Int32 × zSg)) (y1 : Int32) (g : zSg) : Option (Int32 × zSg) := (if y1 < 0 then f_X9_next_55 g else (if (gI g 1 1) ≤ y1 then f_X9_next_55 g else (if 240 ≤ y1 then f_X9_next_55 g else (if zib y1 240 = true then (if (gI g 2 (ix y1)) = 32 then kk (y1 + 1) g else f_X9_next_37 (y1) g) else none))))
def f_X9_next_5 : Nat → Int32 → zSg → Option (Int32 × zSg)
  | 0, _, _ => none
  | n + 1, y1, g => fb_X9_next_5 (f_X9_next_5 n) y1 g
set_option maxRecDepth 100000 in
set_option maxHeartbeats 4000000 in
theorem p_X9_next_5 {sc : zSc} {hp : zHp} {d : Nat} (hD : 0 ≤ d) : ∀ (n : Nat) (y1 : Int32) (g : zSg) (r : Int32 × zSg), f_X9_next_5 n y1 g = some r → zG d sc hp (zcd zM_X9_next) 5 [some (.ref 1), some (.int y1)] [] (gm g) ((some (.int r.1)), gm r.2) := by
  intro n
  induction n with
  | zero => intro y1 g r h; cases h
  | succ n ih =>
    intro y1 g r h
    replace h : fb_X9_next_5 (f_X9_next_5 n) y1 g = some r := h
    unfold fb_X9_next_5 at h
    refine g_run 1 (pc' := 6) (L' := [some (.ref 1), some (.int y1)]) (S' := [.int y1]) (M' := gm g) rfl ?_
    refine g_if (y1 < 0) rfl (t := 55) rfl rfl (fun c1 => ?_) (fun c1 => ?_)
    · replace h := (if_pos c1).symm.trans h
      refine g_forget (L' := [some (.ref 1), none]) (And.intro rfl True.intro) ?_
      exact p_X9_next_55 hD g _ h
    · replace h := (if_neg c1).symm.trans h
      refine g_run 3 (pc' := 14) (L' := [some (.ref 1), some (.int y1)]) (S' := [.int ((gI g 1 1)), .int y1]) (M' := gm g) rfl ?_
      refine g_icmp ((gI g 1 1) ≤ y1) rfl (t := 55) rfl rfl (fun c2 => ?_) (fun c2 => ?_)
      · replace h := (if_pos c2).symm.trans h
        refine g_forget (L' := [some (.ref 1), none]) (And.intro rfl True.intro) ?_
        exact p_X9_next_55 hD g _ h
      · replace h := (if_neg c2).symm.trans h
        refine g_run 4 (pc' := 23) (L' := [some (.ref 1), some (.int y1)]) (S' := [.int 240, .int y1]) (M' := gm g) rfl ?_
        refine g_icmp (240 ≤ y1) rfl (t := 55) rfl rfl (fun c3 => ?_) (fun c3 => ?_)
        · replace h := (if_pos c3).symm.trans h
          refine g_forget (L' := [some (.ref 1), none]) (And.intro rfl True.intro) ?_
          exact p_X9_next_55 hD g _ h
        · replace h := (if_neg c3).symm.trans h
          refine g_run 3 (pc' := 31) (L' := [some (.ref 1), some (.int y1)]) (S' := [.int y1, .ref 2]) (M' := gm g) rfl ?_
          by_cases c4 : zib y1 240 = true
          case neg => exact nomatch ((if_neg c4).symm.trans h)
          replace h := (if_pos c4).symm.trans h
          refine g_iald rfl (a := 2) rfl c4 ?_
          refine g_run 1 (pc' := 34) (L' := [some (.ref 1), some (.int y1)]) (S' := [.int 32, .int ((gI g 2 (ix y1)))]) (M' := gm g) rfl ?_
          refine g_icmp ((gI g 2 (ix y1)) = 32) rfl (t := 49) rfl rfl (fun c5 => ?_) (fun c5 => ?_)
          · replace h := (if_pos c5).symm.trans h
            refine g_run 2 (pc' := 5) (L' := [some (.ref 1), some (.int ((y1 + 1)))]) (S' := []) (M' := gm g) rfl ?_
            exact ih (y1 + 1) g _ h
          · replace h := (if_neg c5).symm.trans h
            exact p_X9_next_37 hD (y1) g _ h
def f_X9_next (g : zSg) : Option (Int32 × zSg) := f_X9_next_5 zFu (gI g 1 2) g
set_option maxRecDepth 100000 in
set_option maxHeartbeats 4000000 in
theorem p_X9_next {sc : zSc} {hp : zHp} {g : zSg} {r : Int32 × zSg} (h : f_X9_next g = some r) : zRn sc hp 0 zM_X9_next [.ref 1] (gm g) (some (.int r.1)) (gm r.2) := by
  intro d hD
  show zG _ sc hp (zcd zM_X9_next) 0 [some (.ref 1), none] [] (gm g) _
  unfold f_X9_next at h
  refine g_run 3 (pc' := 5) (L' := [some (.ref 1), some (.int ((gI g 1 2)))]) (S' := []) (M' := gm g) rfl ?_
  exact p_X9_next_5 hD zFu (gI g 1 2) g _ h
def f_X9_skip (g : zSg) : Option (Unit × zSg) := some ((), (gsI g 1 2 ((gI g 1 2) + 1)))
set_option maxRecDepth 100000 in
set_option maxHeartbeats 4000000 in
theorem p_X9_skip {sc : zSc} {hp : zHp} {g : zSg} {r : Unit × zSg} (h : f_X9_skip g = some r) : zRn sc hp 0 zM_X9_skip [.ref 1] (gm g) none (gm r.2) := by
  intro d hD
  show zG _ sc hp (zcd zM_X9_skip) 0 [some (.ref 1)] [] (gm g) _
  unfold f_X9_skip at h
  refine g_run 6 (pc' := 10) (L' := [some (.ref 1)]) (S' := []) (M' := gm (gsI g 1 2 ((gI g 1 2) + 1))) rfl ?_
  cases h
  exact g_ret rfl rfl rfl rfl
def fb_X1_find_2 (kk : Int32 → Int32 → Int32 → Int32 → zSg → Option (Int32 × zSg)) (y0 : Int32) (y1 : Int32) (y2 : Int32) (y3 : Int32) (g : zSg) : Option (Int32 × zSg) := (if y1 ≤ y3 then some ((-1), g) else (zB (f_X1_item (y0 + y3) 0 g) (fun v2 g3 => (if ¬ v2 = y2 then kk (y0) (y1) (y2) (y3 + 1) g3 else some (y3, g3)))))
def f_X1_find_2 : Nat → Int32 → Int32 → Int32 → Int32 → zSg → Option (Int32 × zSg)
  | 0, _, _, _, _, _ => none
  | n + 1, y0, y1, y2, y3, g => fb_X1_find_2 (f_X1_find_2 n) y0 y1 y2 y3 g
set_option maxRecDepth 100000 in
set_option maxHeartbeats 4000000 in
theorem p_X1_find_2 {sc : zSc} {hp : zHp} {d : Nat} (hD : 1 ≤ d) : ∀ (n : Nat) (y0 : Int32) (y1 : Int32) (y2 : Int32) (y3 : Int32) (g : zSg) (r : Int32 × zSg), f_X1_find_2 n y0 y1 y2 y3 g = some r → zG d sc hp (zcd zM_X1_find) 2 [some (.int y0), some (.int y1), some (.int y2), some (.int y3)] [] (gm g) ((some (.int r.1)), gm r.2) := by
  obtain ⟨d, rfl⟩ : ∃ d', d = d' + 1 := ⟨d - 1, by omega⟩
  intro n
  induction n with
  | zero => intro y0 y1 y2 y3 g r h; cases h
  | succ n ih =>
    intro y0 y1 y2 y3 g r h
    replace h : fb_X1_find_2 (f_X1_find_2 n) y0 y1 y2 y3 g = some r := h
    unfold fb_X1_find_2 at h
    refine g_run 2 (pc' := 4) (L' := [some (.int y0), some (.int y1), some (.int y2), some (.int y3)]) (S' := [.int y1, .int y3]) (M' := gm g) rfl ?_
    refine g_icmp (y1 ≤ y3) rfl (t := 26) rfl rfl (fun c1 => ?_) (fun c1 => ?_)
    · replace h := (if_pos c1).symm.trans h
      refine g_run 1 (pc' := 27) (L' := [some (.int y0), some (.int y1), some (.int y2), some (.int y3)]) (S' := [.int (-1)]) (M' := gm g) rfl ?_
      cases h
      exact g_ret rfl rfl rfl rfl
    · replace h := (if_neg c1).symm.trans h
      refine g_run 4 (pc' := 11) (L' := [some (.int y0), some (.int y1), some (.int y2), some (.int y3)]) (S' := [.int 0, .int ((y0 + y3))]) (M' := gm g) rfl ?_
      replace h := zB_of h
      obtain ⟨v2, g3, e4, h⟩ := h
      refine g_inv2 (kd := 0) (p_X1_item  e4) rfl rfl rfl (by decide) rfl rfl rfl rfl (by omega) (pc' := 14) rfl (S' := [.int v2]) rfl ?_
      refine g_run 1 (pc' := 15) (L' := [some (.int y0), some (.int y1), some (.int y2), some (.int y3)]) (S' := [.int y2, .int v2]) (M' := gm g3) rfl ?_
      refine g_icmp (¬ v2 = y2) rfl (t := 20) rfl rfl (fun c5 => ?_) (fun c5 => ?_)
      · replace h := (if_pos c5).symm.trans h
        refine g_run 2 (pc' := 2) (L' := [some (.int y0), some (.int y1), some (.int y2), some (.int ((y3 + 1)))]) (S' := []) (M' := gm g3) rfl ?_
        exact ih (y0) (y1) (y2) (y3 + 1) g3 _ h
      · replace h := (if_neg c5).symm.trans h
        refine g_run 1 (pc' := 19) (L' := [some (.int y0), some (.int y1), some (.int y2), some (.int y3)]) (S' := [.int y3]) (M' := gm g3) rfl ?_
        cases h
        exact g_ret rfl rfl rfl rfl
def f_X1_find (x1 : Int32) (x2 : Int32) (x3 : Int32) (g : zSg) : Option (Int32 × zSg) := f_X1_find_2 zFu (x1) (x2) (x3) (0) g
set_option maxRecDepth 100000 in
set_option maxHeartbeats 4000000 in
theorem p_X1_find {sc : zSc} {hp : zHp} {x1 : Int32} {x2 : Int32} {x3 : Int32} {g : zSg} {r : Int32 × zSg} (h : f_X1_find x1 x2 x3 g = some r) : zRn sc hp 1 zM_X1_find [.int x1, .int x2, .int x3] (gm g) (some (.int r.1)) (gm r.2) := by
  intro d hD
  obtain ⟨d, rfl⟩ : ∃ d', d = d' + 1 := ⟨d - 1, by omega⟩
  show zG _ sc hp (zcd zM_X1_find) 0 [some (.int x1), some (.int x2), some (.int x3), none] [] (gm g) _
  unfold f_X1_find at h
  refine g_run 2 (pc' := 2) (L' := [some (.int x1), some (.int x2), some (.int x3), some (.int 0)]) (S' := []) (M' := gm g) rfl ?_
  exact p_X1_find_2 hD zFu (x1) (x2) (x3) (0) g _ h
def f_X9_here (g : zSg) : Option (Int32 × zSg) := (if (gI g 1 2) < 0 then some (0, g) else (if (gI g 1 1) ≤ (gI g 1 2) then some (0, g) else (if 240 ≤ (gI g 1 2) then some (0, g) else (if zib (gI g 1 2) 240 = true then some ((gI g 2 (ix (gI g 1 2))), g) else none))))
set_option maxRecDepth 100000 in
set_option maxHeartbeats 4000000 in
theorem p_X9_here {sc : zSc} {hp : zHp} {g : zSg} {r : Int32 × zSg} (h : f_X9_here g = some r) : zRn sc hp 0 zM_X9_here [.ref 1] (gm g) (some (.int r.1)) (gm r.2) := by
  intro d hD
  show zG _ sc hp (zcd zM_X9_here) 0 [some (.ref 1)] [] (gm g) _
  unfold f_X9_here at h
  refine g_run 2 (pc' := 4) (L' := [some (.ref 1)]) (S' := [.int ((gI g 1 2))]) (M' := gm g) rfl ?_
  refine g_if ((gI g 1 2) < 0) rfl (t := 42) rfl rfl (fun c1 => ?_) (fun c1 => ?_)
  · replace h := (if_pos c1).symm.trans h
    refine g_run 1 (pc' := 43) (L' := [some (.ref 1)]) (S' := [.int 0]) (M' := gm g) rfl ?_
    cases h
    exact g_ret rfl rfl rfl rfl
  · replace h := (if_neg c1).symm.trans h
    refine g_run 4 (pc' := 15) (L' := [some (.ref 1)]) (S' := [.int ((gI g 1 1)), .int ((gI g 1 2))]) (M' := gm g) rfl ?_
    refine g_icmp ((gI g 1 1) ≤ (gI g 1 2)) rfl (t := 42) rfl rfl (fun c2 => ?_) (fun c2 => ?_)
    · replace h := (if_pos c2).symm.trans h
      refine g_run 1 (pc' := 43) (L' := [some (.ref 1)]) (S' := [.int 0]) (M' := gm g) rfl ?_
      cases h
      exact g_ret rfl rfl rfl rfl
    · replace h := (if_neg c2).symm.trans h
      refine g_run 5 (pc' := 27) (L' := [some (.ref 1)]) (S' := [.int 240, .int ((gI g 1 2))]) (M' := gm g) rfl ?_
      refine g_icmp (240 ≤ (gI g 1 2)) rfl (t := 42) rfl rfl (fun c3 => ?_) (fun c3 => ?_)
      · replace h := (if_pos c3).symm.trans h
        refine g_run 1 (pc' := 43) (L' := [some (.ref 1)]) (S' := [.int 0]) (M' := gm g) rfl ?_
        cases h
        exact g_ret rfl rfl rfl rfl
      · replace h := (if_neg c3).symm.trans h
        refine g_run 4 (pc' := 38) (L' := [some (.ref 1)]) (S' := [.int ((gI g 1 2)), .ref 2]) (M' := gm g) rfl ?_
        by_cases c4 : zib (gI g 1 2) 240 = true
        case neg => exact nomatch ((if_neg c4).symm.trans h)
        replace h := (if_pos c4).symm.trans h
        refine g_iald rfl (a := 2) rfl c4 ?_
        refine g_run 1 (pc' := 43) (L' := [some (.ref 1)]) (S' := [.int ((gI g 2 (ix (gI g 1 2))))]) (M' := gm g) rfl ?_
        cases h
        exact g_ret rfl rfl rfl rfl
def f_X9_isDigit (x1 : Int32) (g : zSg) : Option (Int32 × zSg) := (if x1 < 48 then some (0, g) else (if 57 < x1 then some (0, g) else some (1, g)))
set_option maxRecDepth 100000 in
set_option maxHeartbeats 4000000 in
theorem p_X9_isDigit {sc : zSc} {hp : zHp} {x1 : Int32} {g : zSg} {r : Int32 × zSg} (h : f_X9_isDigit x1 g = some r) : zRn sc hp 0 zM_X9_isDigit [.int x1] (gm g) (some (.int r.1)) (gm r.2) := by
  intro d hD
  show zG _ sc hp (zcd zM_X9_isDigit) 0 [some (.int x1)] [] (gm g) _
  unfold f_X9_isDigit at h
  refine g_run 2 (pc' := 3) (L' := [some (.int x1)]) (S' := [.int 48, .int x1]) (M' := gm g) rfl ?_
  refine g_icmp (x1 < 48) rfl (t := 16) rfl rfl (fun c1 => ?_) (fun c1 => ?_)
  · replace h := (if_pos c1).symm.trans h
    refine g_run 1 (pc' := 17) (L' := [some (.int x1)]) (S' := [.int 0]) (M' := gm g) rfl ?_
    cases h
    exact g_ret rfl rfl rfl rfl
  · replace h := (if_neg c1).symm.trans h
    refine g_run 2 (pc' := 9) (L' := [some (.int x1)]) (S' := [.int 57, .int x1]) (M' := gm g) rfl ?_
    refine g_icmp (57 < x1) rfl (t := 16) rfl rfl (fun c2 => ?_) (fun c2 => ?_)
    · replace h := (if_pos c2).symm.trans h
      refine g_run 1 (pc' := 17) (L' := [some (.int x1)]) (S' := [.int 0]) (M' := gm g) rfl ?_
      cases h
      exact g_ret rfl rfl rfl rfl
    · replace h := (if_neg c2).symm.trans h
      refine g_run 2 (pc' := 17) (L' := [some (.int x1)]) (S' := [.int 1]) (M' := gm g) rfl ?_
      cases h
      exact g_ret rfl rfl rfl rfl
def f_X9_number_62 (y2 : Int32) (y3 : Int32) (g : zSg) : Option (Int32 × zSg) := (if ¬ y3 = 0 then some (y2, g) else some ((-1), g))
set_option maxRecDepth 100000 in
set_option maxHeartbeats 4000000 in
theorem p_X9_number_62 {sc : zSc} {hp : zHp} {d : Nat} (hD : 1 ≤ d) (y2 : Int32) (y3 : Int32) (g : zSg) (r : Int32 × zSg) (h : f_X9_number_62 y2 y3 g = some r) : zG d sc hp (zcd zM_X9_number) 62 [none, none, some (.int y2), some (.int y3), none] [] (gm g) ((some (.int r.1)), gm r.2) := by
  obtain ⟨d, rfl⟩ : ∃ d', d = d' + 1 := ⟨d - 1, by omega⟩
  unfold f_X9_number_62 at h
  refine g_run 1 (pc' := 63) (L' := [none, none, some (.int y2), some (.int y3), none]) (S' := [.int y3]) (M' := gm g) rfl ?_
  refine g_if (¬ y3 = 0) rfl (t := 70) rfl rfl (fun c1 => ?_) (fun c1 => ?_)
  · replace h := (if_pos c1).symm.trans h
    refine g_run 1 (pc' := 71) (L' := [none, none, some (.int y2), some (.int y3), none]) (S' := [.int y2]) (M' := gm g) rfl ?_
    cases h
    exact g_ret rfl rfl rfl rfl
  · replace h := (if_neg c1).symm.trans h
    refine g_run 2 (pc' := 71) (L' := [none, none, some (.int y2), some (.int y3), none]) (S' := [.int (-1)]) (M' := gm g) rfl ?_
    cases h
    exact g_ret rfl rfl rfl rfl
def fb_X9_number_7 (kk : Int32 → Int32 → Int32 → Int32 → zSg → Option (Int32 × zSg)) (y1 : Int32) (y2 : Int32) (y3 : Int32) (y4 : Int32) (g : zSg) : Option (Int32 × zSg) := (if y1 < y4 then f_X9_number_62 (y2) (y3) g else (zB (f_X9_here g) (fun v2 g3 => (zB (f_X9_isDigit v2 g3) (fun v5 g6 => (if v5 = 0 then f_X9_number_62 (y2) (y3) g6 else (if ¬ y3 = y1 then (zB (f_X9_here g6) (fun v10 g11 => kk (y1) (((y2 * 10) + v10) - 48) (y3 + 1) (y4 + 1) (gsI g11 1 2 ((gI g11 1 2) + 1)))) else some ((-1), g6))))))))
def f_X9_number_7 : Nat → Int32 → Int32 → Int32 → Int32 → zSg → Option (Int32 × zSg)
  | 0, _, _, _, _, _ => none
  | n + 1, y1, y2, y3, y4, g => fb_X9_number_7 (f_X9_number_7 n) y1 y2 y3 y4 g
set_option maxRecDepth 100000 in
set_option maxHeartbeats 4000000 in
theorem p_X9_number_7 {sc : zSc} {hp : zHp} {d : Nat} (hD : 1 ≤ d) : ∀ (n : Nat) (y1 : Int32) (y2 : Int32) (y3 : Int32) (y4 : Int32) (g : zSg) (r : Int32 × zSg), f_X9_number_7 n y1 y2 y3 y4 g = some r → zG d sc hp (zcd zM_X9_number) 7 [some (.ref 1), some (.int y1), some (.int y2), some (.int y3), some (.int y4)] [] (gm g) ((some (.int r.1)), gm r.2) := by
  obtain ⟨d, rfl⟩ : ∃ d', d = d' + 1 := ⟨d - 1, by omega⟩
  intro n
  induction n with
  | zero => intro y1 y2 y3 y4 g r h; cases h
  | succ n ih =>
    intro y1 y2 y3 y4 g r h
    replace h : fb_X9_number_7 (f_X9_number_7 n) y1 y2 y3 y4 g = some r := h
    unfold fb_X9_number_7 at h
    refine g_run 2 (pc' := 10) (L' := [some (.ref 1), some (.int y1), some (.int y2), some (.int y3), some (.int y4)]) (S' := [.int y1, .int y4]) (M' := gm g) rfl ?_
    refine g_icmp (y1 < y4) rfl (t := 62) rfl rfl (fun c1 => ?_) (fun c1 => ?_)
    · replace h := (if_pos c1).symm.trans h
      refine g_forget (L' := [none, none, some (.int y2), some (.int y3), none]) (And.intro rfl (And.intro rfl True.intro)) ?_
      exact p_X9_number_62 hD (y2) (y3) g _ h
    · replace h := (if_neg c1).symm.trans h
      refine g_run 1 (pc' := 14) (L' := [some (.ref 1), some (.int y1), some (.int y2), some (.int y3), some (.int y4)]) (S' := [.ref 1]) (M' := gm g) rfl ?_
      replace h := zB_of h
      obtain ⟨v2, g3, e4, h⟩ := h
      refine g_inv2 (kd := 1) (p_X9_here  e4) rfl rfl rfl (by decide) rfl rfl rfl rfl (by omega) (pc' := 17) rfl (S' := [.int v2]) rfl ?_
      replace h := zB_of h
      obtain ⟨v5, g6, e7, h⟩ := h
      refine g_inv2 (kd := 0) (p_X9_isDigit  e7) rfl rfl rfl (by decide) rfl rfl rfl rfl (by omega) (pc' := 20) rfl (S' := [.int v5]) rfl ?_
      refine g_if (v5 = 0) rfl (t := 62) rfl rfl (fun c8 => ?_) (fun c8 => ?_)
      · replace h := (if_pos c8).symm.trans h
        refine g_forget (L' := [none, none, some (.int y2), some (.int y3), none]) (And.intro rfl (And.intro rfl True.intro)) ?_
        exact p_X9_number_62 hD (y2) (y3) g6 _ h
      · replace h := (if_neg c8).symm.trans h
        refine g_run 2 (pc' := 25) (L' := [some (.ref 1), some (.int y1), some (.int y2), some (.int y3), some (.int y4)]) (S' := [.int y1, .int y3]) (M' := gm g6) rfl ?_
        refine g_icmp (¬ y3 = y1) rfl (t := 30) rfl rfl (fun c9 => ?_) (fun c9 => ?_)
        · replace h := (if_pos c9).symm.trans h
          refine g_run 4 (pc' := 35) (L' := [some (.ref 1), some (.int y1), some (.int y2), some (.int y3), some (.int y4)]) (S' := [.ref 1, .int ((y2 * 10))]) (M' := gm g6) rfl ?_
          replace h := zB_of h
          obtain ⟨v10, g11, e12, h⟩ := h
          refine g_inv2 (kd := 1) (p_X9_here  e12) rfl rfl rfl (by decide) rfl rfl rfl rfl (by omega) (pc' := 38) rfl (S' := [.int v10, .int ((y2 * 10))]) rfl ?_
          refine g_run 13 (pc' := 7) (L' := [some (.ref 1), some (.int y1), some (.int ((((y2 * 10) + v10) - 48))), some (.int ((y3 + 1))), some (.int ((y4 + 1)))]) (S' := []) (M' := gm (gsI g11 1 2 ((gI g11 1 2) + 1))) rfl ?_
          exact ih (y1) (((y2 * 10) + v10) - 48) (y3 + 1) (y4 + 1) (gsI g11 1 2 ((gI g11 1 2) + 1)) _ h
        · replace h := (if_neg c9).symm.trans h
          refine g_run 1 (pc' := 29) (L' := [some (.ref 1), some (.int y1), some (.int y2), some (.int y3), some (.int y4)]) (S' := [.int (-1)]) (M' := gm g6) rfl ?_
          cases h
          exact g_ret rfl rfl rfl rfl
def f_X9_number (x1 : Int32) (g : zSg) : Option (Int32 × zSg) := f_X9_number_7 zFu (x1) (0) (0) (0) g
set_option maxRecDepth 100000 in
set_option maxHeartbeats 4000000 in
theorem p_X9_number {sc : zSc} {hp : zHp} {x1 : Int32} {g : zSg} {r : Int32 × zSg} (h : f_X9_number x1 g = some r) : zRn sc hp 1 zM_X9_number [.ref 1, .int x1] (gm g) (some (.int r.1)) (gm r.2) := by
  intro d hD
  obtain ⟨d, rfl⟩ : ∃ d', d = d' + 1 := ⟨d - 1, by omega⟩
  show zG _ sc hp (zcd zM_X9_number) 0 [some (.ref 1), some (.int x1), none, none, none] [] (gm g) _
  unfold f_X9_number at h
  refine g_run 6 (pc' := 7) (L' := [some (.ref 1), some (.int x1), some (.int 0), some (.int 0), some (.int 0)]) (S' := []) (M' := gm g) rfl ?_
  exact p_X9_number_7 hD zFu (x1) (0) (0) (0) g _ h
def f_X9_stepBack (g : zSg) : Option (Unit × zSg) := some ((), (gsI g 1 2 ((gI g 1 2) - 1)))
set_option maxRecDepth 100000 in
set_option maxHeartbeats 4000000 in
theorem p_X9_stepBack {sc : zSc} {hp : zHp} {g : zSg} {r : Unit × zSg} (h : f_X9_stepBack g = some r) : zRn sc hp 0 zM_X9_stepBack [.ref 1] (gm g) none (gm r.2) := by
  intro d hD
  show zG _ sc hp (zcd zM_X9_stepBack) 0 [some (.ref 1)] [] (gm g) _
  unfold f_X9_stepBack at h
  refine g_run 6 (pc' := 10) (L' := [some (.ref 1)]) (S' := []) (M' := gm (gsI g 1 2 ((gI g 1 2) - 1))) rfl ?_
  cases h
  exact g_ret rfl rfl rfl rfl
def f_X1_number_42 (g : zSg) : Option (Int32 × zSg) := (zB (f_X9_stepBack g) (fun v1 g2 => some (0, g2)))
set_option maxRecDepth 100000 in
set_option maxHeartbeats 4000000 in
theorem p_X1_number_42 {sc : zSc} {hp : zHp} {d : Nat} (hD : 2 ≤ d) (g : zSg) (r : Int32 × zSg) (h : f_X1_number_42 g = some r) : zG d sc hp (zcd zM_X1_number) 42 [some (.ref 6), none, none, none] [] (gm g) ((some (.int r.1)), gm r.2) := by
  obtain ⟨d, rfl⟩ : ∃ d', d = d' + 1 := ⟨d - 1, by omega⟩
  unfold f_X1_number_42 at h
  refine g_run 2 (pc' := 46) (L' := [some (.ref 6), none, none, none]) (S' := [.ref 1]) (M' := gm g) rfl ?_
  replace h := zB_of h
  obtain ⟨v1, g2, e3, h⟩ := h
  refine g_inv2 (kd := 1) (p_X9_stepBack  e3) rfl rfl rfl (by decide) rfl rfl rfl rfl (by omega) (pc' := 49) rfl (S' := []) rfl ?_
  refine g_run 1 (pc' := 50) (L' := [some (.ref 6), none, none, none]) (S' := [.int 0]) (M' := gm g2) rfl ?_
  cases h
  exact g_ret rfl rfl rfl rfl
def f_X1_number (x1 : Int32) (x2 : Int32) (g : zSg) : Option (Int32 × zSg) := (zB (f_X9_next g) (fun v1 g2 => (zB (f_X9_number 2 g2) (fun v4 g5 => (if ¬ v4 = (-1) then (zB (f_X1_item x1 1 g5) (fun v8 g9 => (if v4 < v8 then f_X1_number_42 g9 else (zB (f_X1_item x1 2 g9) (fun v12 g13 => (if v4 ≤ v12 then (zB (f_X7_set 8 x2 v4 g13) (fun v16 g17 => some (1, g17))) else f_X1_number_42 g13)))))) else some (0, g5))))))
set_option maxRecDepth 100000 in
set_option maxHeartbeats 4000000 in
theorem p_X1_number {sc : zSc} {hp : zHp} {x1 : Int32} {x2 : Int32} {g : zSg} {r : Int32 × zSg} (h : f_X1_number x1 x2 g = some r) : zRn sc hp 2 zM_X1_number [.ref 6, .int x1, .int x2] (gm g) (some (.int r.1)) (gm r.2) := by
  intro d hD
  obtain ⟨d, rfl⟩ : ∃ d', d = d' + 1 := ⟨d - 1, by omega⟩
  show zG _ sc hp (zcd zM_X1_number) 0 [some (.ref 6), some (.int x1), some (.int x2), none] [] (gm g) _
  unfold f_X1_number at h
  refine g_run 2 (pc' := 4) (L' := [some (.ref 6), some (.int x1), some (.int x2), none]) (S' := [.ref 1]) (M' := gm g) rfl ?_
  replace h := zB_of h
  obtain ⟨v1, g2, e3, h⟩ := h
  refine g_inv2 (kd := 1) (p_X9_next  e3) rfl rfl rfl (by decide) rfl rfl rfl rfl (by omega) (pc' := 7) rfl (S' := [.int v1]) rfl ?_
  refine g_run 4 (pc' := 13) (L' := [some (.ref 6), some (.int x1), some (.int x2), none]) (S' := [.int 2, .ref 1]) (M' := gm g2) rfl ?_
  replace h := zB_of h
  obtain ⟨v4, g5, e6, h⟩ := h
  refine g_inv2 (kd := 1) (p_X9_number  e6) rfl rfl rfl (by decide) rfl rfl rfl rfl (by omega) (pc' := 16) rfl (S' := [.int v4]) rfl ?_
  refine g_run 3 (pc' := 19) (L' := [some (.ref 6), some (.int x1), some (.int x2), some (.int v4)]) (S' := [.int (-1), .int v4]) (M' := gm g5) rfl ?_
  refine g_icmp (¬ v4 = (-1)) rfl (t := 24) rfl rfl (fun c7 => ?_) (fun c7 => ?_)
  · replace h := (if_pos c7).symm.trans h
    refine g_run 3 (pc' := 27) (L' := [some (.ref 6), some (.int x1), some (.int x2), some (.int v4)]) (S' := [.int 1, .int x1, .int v4]) (M' := gm g5) rfl ?_
    replace h := zB_of h
    obtain ⟨v8, g9, e10, h⟩ := h
    refine g_inv2 (kd := 0) (p_X1_item  e10) rfl rfl rfl (by decide) rfl rfl rfl rfl (by omega) (pc' := 30) rfl (S' := [.int v8, .int v4]) rfl ?_
    refine g_icmp (v4 < v8) rfl (t := 42) rfl rfl (fun c11 => ?_) (fun c11 => ?_)
    · replace h := (if_pos c11).symm.trans h
      refine g_forget (L' := [some (.ref 6), none, none, none]) (And.intro rfl True.intro) ?_
      exact p_X1_number_42 hD g9 _ h
    · replace h := (if_neg c11).symm.trans h
      refine g_run 3 (pc' := 36) (L' := [some (.ref 6), some (.int x1), some (.int x2), some (.int v4)]) (S' := [.int 2, .int x1, .int v4]) (M' := gm g9) rfl ?_
      replace h := zB_of h
      obtain ⟨v12, g13, e14, h⟩ := h
      refine g_inv2 (kd := 0) (p_X1_item  e14) rfl rfl rfl (by decide) rfl rfl rfl rfl (by omega) (pc' := 39) rfl (S' := [.int v12, .int v4]) rfl ?_
      refine g_icmp (v4 ≤ v12) rfl (t := 51) rfl rfl (fun c15 => ?_) (fun c15 => ?_)
      · replace h := (if_pos c15).symm.trans h
        refine g_run 5 (pc' := 60) (L' := [some (.ref 6), some (.int x1), some (.int x2), some (.int v4)]) (S' := [.int v4, .int x2, .ref 8]) (M' := gm g13) rfl ?_
        replace h := zB_of h
        obtain ⟨v16, g17, e18, h⟩ := h
        refine g_inv2 (kd := 1) (p_X7_set 8 rfl e18) rfl rfl rfl (by decide) rfl rfl rfl rfl (by omega) (pc' := 63) rfl (S' := []) rfl ?_
        refine g_run 1 (pc' := 64) (L' := [some (.ref 6), some (.int x1), some (.int x2), some (.int v4)]) (S' := [.int 1]) (M' := gm g17) rfl ?_
        cases h
        exact g_ret rfl rfl rfl rfl
      · replace h := (if_neg c15).symm.trans h
        refine g_forget (L' := [some (.ref 6), none, none, none]) (And.intro rfl True.intro) ?_
        exact p_X1_number_42 hD g13 _ h
  · replace h := (if_neg c7).symm.trans h
    refine g_run 1 (pc' := 23) (L' := [some (.ref 6), some (.int x1), some (.int x2), some (.int v4)]) (S' := [.int 0]) (M' := gm g5) rfl ?_
    cases h
    exact g_ret rfl rfl rfl rfl
def fb_X1_items_20 (kk : Int32 → Int32 → Int32 → Int32 → Int32 → zSg → Option (Int32 × zSg)) (y1 : Int32) (y2 : Int32) (y3 : Int32) (y4 : Int32) (y5 : Int32) (g : zSg) : Option (Int32 × zSg) := (if y2 < y5 then some (1, g) else (zB (f_X9_next g) (fun v2 g3 => (zB (f_X1_find y1 y2 v2 g3) (fun v5 g6 => (if ¬ v5 = (-1) then (if ((y4 >>> (v5 &&& 31)) &&& 1) = 0 then (zB (f_X9_skip g6) (fun v10 g11 => (zB (f_X1_number (y1 + v5) (y3 + v5) g11) (fun v13 g14 => (if ¬ v13 = 0 then kk (y1) (y2) (y3) (y4 ||| (1 <<< (v5 &&& 31))) (y5 + 1) g14 else some (0, g14)))))) else some (0, g6)) else some (1, g6)))))))
def f_X1_items_20 : Nat → Int32 → Int32 → Int32 → Int32 → Int32 → zSg → Option (Int32 × zSg)
  | 0, _, _, _, _, _, _ => none
  | n + 1, y1, y2, y3, y4, y5, g => fb_X1_items_20 (f_X1_items_20 n) y1 y2 y3 y4 y5 g
set_option maxRecDepth 100000 in
set_option maxHeartbeats 4000000 in
theorem p_X1_items_20 {sc : zSc} {hp : zHp} {d : Nat} (hD : 3 ≤ d) : ∀ (n : Nat) (y1 : Int32) (y2 : Int32) (y3 : Int32) (y4 : Int32) (y5 : Int32) (g : zSg) (r : Int32 × zSg), f_X1_items_20 n y1 y2 y3 y4 y5 g = some r → zG d sc hp (zcd zM_X1_items) 20 [some (.ref 6), some (.int y1), some (.int y2), some (.int y3), some (.int y4), some (.int y5), none] [] (gm g) ((some (.int r.1)), gm r.2) := by
  obtain ⟨d, rfl⟩ : ∃ d', d = d' + 1 := ⟨d - 1, by omega⟩
  intro n
  induction n with
  | zero => intro y1 y2 y3 y4 y5 g r h; cases h
  | succ n ih =>
    intro y1 y2 y3 y4 y5 g r h
    replace h : fb_X1_items_20 (f_X1_items_20 n) y1 y2 y3 y4 y5 g = some r := h
    unfold fb_X1_items_20 at h
    refine g_run 2 (pc' := 23) (L' := [some (.ref 6), some (.int y1), some (.int y2), some (.int y3), some (.int y4), some (.int y5), none]) (S' := [.int y2, .int y5]) (M' := gm g) rfl ?_
    refine g_icmp (y2 < y5) rfl (t := 99) rfl rfl (fun c1 => ?_) (fun c1 => ?_)
    · replace h := (if_pos c1).symm.trans h
      refine g_run 1 (pc' := 100) (L' := [some (.ref 6), some (.int y1), some (.int y2), some (.int y3), some (.int y4), some (.int y5), none]) (S' := [.int 1]) (M' := gm g) rfl ?_
      cases h
      exact g_ret rfl rfl rfl rfl
    · replace h := (if_neg c1).symm.trans h
      refine g_run 4 (pc' := 32) (L' := [some (.ref 6), some (.int y1), some (.int y2), some (.int y3), some (.int y4), some (.int y5), none]) (S' := [.ref 1, .int y2, .int y1]) (M' := gm g) rfl ?_
      replace h := zB_of h
      obtain ⟨v2, g3, e4, h⟩ := h
      refine g_inv2 (kd := 1) (p_X9_next  e4) rfl rfl rfl (by decide) rfl rfl rfl rfl (by omega) (pc' := 35) rfl (S' := [.int v2, .int y2, .int y1]) rfl ?_
      replace h := zB_of h
      obtain ⟨v5, g6, e7, h⟩ := h
      refine g_inv2 (kd := 0) (p_X1_find  e7) rfl rfl rfl (by decide) rfl rfl rfl rfl (by omega) (pc' := 38) rfl (S' := [.int v5]) rfl ?_
      refine g_run 3 (pc' := 43) (L' := [some (.ref 6), some (.int y1), some (.int y2), some (.int y3), some (.int y4), some (.int y5), some (.int v5)]) (S' := [.int (-1), .int v5]) (M' := gm g6) rfl ?_
      refine g_icmp (¬ v5 = (-1)) rfl (t := 48) rfl rfl (fun c8 => ?_) (fun c8 => ?_)
      · replace h := (if_pos c8).symm.trans h
        refine g_run 5 (pc' := 55) (L' := [some (.ref 6), some (.int y1), some (.int y2), some (.int y3), some (.int y4), some (.int y5), some (.int v5)]) (S' := [.int (((y4 >>> (v5 &&& 31)) &&& 1))]) (M' := gm g6) rfl ?_
        refine g_if (((y4 >>> (v5 &&& 31)) &&& 1) = 0) rfl (t := 60) rfl rfl (fun c9 => ?_) (fun c9 => ?_)
        · replace h := (if_pos c9).symm.trans h
          refine g_run 8 (pc' := 73) (L' := [some (.ref 6), some (.int y1), some (.int y2), some (.int y3), some (.int ((y4 ||| (1 <<< (v5 &&& 31))))), some (.int y5), some (.int v5)]) (S' := [.ref 1]) (M' := gm g6) rfl ?_
          replace h := zB_of h
          obtain ⟨v10, g11, e12, h⟩ := h
          refine g_inv2 (kd := 1) (p_X9_skip  e12) rfl rfl rfl (by decide) rfl rfl rfl rfl (by omega) (pc' := 76) rfl (S' := []) rfl ?_
          refine g_run 7 (pc' := 85) (L' := [some (.ref 6), some (.int y1), some (.int y2), some (.int y3), some (.int ((y4 ||| (1 <<< (v5 &&& 31))))), some (.int y5), some (.int v5)]) (S' := [.int ((y3 + v5)), .int ((y1 + v5)), .ref 6]) (M' := gm g11) rfl ?_
          replace h := zB_of h
          obtain ⟨v13, g14, e15, h⟩ := h
          refine g_inv2 (kd := 1) (p_X1_number  e15) rfl rfl rfl (by decide) rfl rfl rfl rfl (by omega) (pc' := 88) rfl (S' := [.int v13]) rfl ?_
          refine g_if (¬ v13 = 0) rfl (t := 93) rfl rfl (fun c16 => ?_) (fun c16 => ?_)
          · replace h := (if_pos c16).symm.trans h
            refine g_run 2 (pc' := 20) (L' := [some (.ref 6), some (.int y1), some (.int y2), some (.int y3), some (.int ((y4 ||| (1 <<< (v5 &&& 31))))), some (.int ((y5 + 1))), some (.int v5)]) (S' := []) (M' := gm g14) rfl ?_
            refine g_forget (L' := [some (.ref 6), some (.int y1), some (.int y2), some (.int y3), some (.int ((y4 ||| (1 <<< (v5 &&& 31))))), some (.int ((y5 + 1))), none]) (And.intro rfl (And.intro rfl (And.intro rfl (And.intro rfl (And.intro rfl (And.intro rfl True.intro)))))) ?_
            exact ih (y1) (y2) (y3) (y4 ||| (1 <<< (v5 &&& 31))) (y5 + 1) g14 _ h
          · replace h := (if_neg c16).symm.trans h
            refine g_run 1 (pc' := 92) (L' := [some (.ref 6), some (.int y1), some (.int y2), some (.int y3), some (.int ((y4 ||| (1 <<< (v5 &&& 31))))), some (.int y5), some (.int v5)]) (S' := [.int 0]) (M' := gm g14) rfl ?_
            cases h
            exact g_ret rfl rfl rfl rfl
        · replace h := (if_neg c9).symm.trans h
          refine g_run 1 (pc' := 59) (L' := [some (.ref 6), some (.int y1), some (.int y2), some (.int y3), some (.int y4), some (.int y5), some (.int v5)]) (S' := [.int 0]) (M' := gm g6) rfl ?_
          cases h
          exact g_ret rfl rfl rfl rfl
      · replace h := (if_neg c8).symm.trans h
        refine g_run 1 (pc' := 47) (L' := [some (.ref 6), some (.int y1), some (.int y2), some (.int y3), some (.int y4), some (.int y5), some (.int v5)]) (S' := [.int 1]) (M' := gm g6) rfl ?_
        cases h
        exact g_ret rfl rfl rfl rfl
def f_X1_items (x1 : Int32) (x2 : Int32) (x3 : Int32) (g : zSg) : Option (Int32 × zSg) := (zB (f_X9_skip g) (fun v1 g2 => (zB (f_X1_fillIn x1 x2 x3 g2) (fun v4 g5 => f_X1_items_20 zFu (x1) (x2) (x3) (0) (0) g5))))
set_option maxRecDepth 100000 in
set_option maxHeartbeats 4000000 in
theorem p_X1_items {sc : zSc} {hp : zHp} {x1 : Int32} {x2 : Int32} {x3 : Int32} {g : zSg} {r : Int32 × zSg} (h : f_X1_items x1 x2 x3 g = some r) : zRn sc hp 3 zM_X1_items [.ref 6, .int x1, .int x2, .int x3] (gm g) (some (.int r.1)) (gm r.2) := by
  intro d hD
  obtain ⟨d, rfl⟩ : ∃ d', d = d' + 1 := ⟨d - 1, by omega⟩
  show zG _ sc hp (zcd zM_X1_items) 0 [some (.ref 6), some (.int x1), some (.int x2), some (.int x3), none, none, none] [] (gm g) _
  unfold f_X1_items at h
  refine g_run 2 (pc' := 4) (L' := [some (.ref 6), some (.int x1), some (.int x2), some (.int x3), none, none, none]) (S' := [.ref 1]) (M' := gm g) rfl ?_
  replace h := zB_of h
  obtain ⟨v1, g2, e3, h⟩ := h
  refine g_inv2 (kd := 1) (p_X9_skip  e3) rfl rfl rfl (by decide) rfl rfl rfl rfl (by omega) (pc' := 7) rfl (S' := []) rfl ?_
  refine g_run 4 (pc' := 11) (L' := [some (.ref 6), some (.int x1), some (.int x2), some (.int x3), none, none, none]) (S' := [.int x3, .int x2, .int x1, .ref 6]) (M' := gm g2) rfl ?_
  replace h := zB_of h
  obtain ⟨v4, g5, e6, h⟩ := h
  refine g_inv2 (kd := 1) (p_X1_fillIn  e6) rfl rfl rfl (by decide) rfl rfl rfl rfl (by omega) (pc' := 14) rfl (S' := []) rfl ?_
  refine g_run 4 (pc' := 20) (L' := [some (.ref 6), some (.int x1), some (.int x2), some (.int x3), some (.int 0), some (.int 0), none]) (S' := []) (M' := gm g5) rfl ?_
  exact p_X1_items_20 hD zFu (x1) (x2) (x3) (0) (0) g5 _ h
