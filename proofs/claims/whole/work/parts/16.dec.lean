/-! ===== decompiled functions (by program) ===== -/
def f_X7_get (a : Nat) (x1 : Int32) (g : zSg) : Option (Int32 × zSg) := (if x1 < 0 then some (0, g) else (if (Int32.ofNat (zK0 (a + 1)).2) ≤ x1 then some (0, g) else (if zib x1 (zK0 (a + 1)).2 = true then some ((gI g (a + 1) (ix x1)), g) else none)))
set_option maxRecDepth 100000 in
set_option maxHeartbeats 4000000 in
theorem p_X7_get {sc : zSc} {hp : zHp} (a : Nat) (ha : (zK0 a).1 = 7) {x1 : Int32} {g : zSg} {r : Int32 × zSg} (h : f_X7_get a x1 g = some r) : zRn sc hp 0 zM_X7_get [.ref a, .int x1] (gm g) (some (.int r.1)) (gm r.2) := by
  intro d hD
  show zG _ sc hp (zcd zM_X7_get) 0 [some (.ref a), some (.int x1)] [] (gm g) _
  unfold f_X7_get at h
  refine g_run 1 (pc' := 1) (L' := [some (.ref a), some (.int x1)]) (S' := [.int x1]) (M' := gm g) rfl ?_
  refine g_if (x1 < 0) rfl (t := 22) rfl rfl (fun c1 => ?_) (fun c1 => ?_)
  · replace h := (if_pos c1).symm.trans h
    refine g_run 1 (pc' := 23) (L' := [some (.ref a), some (.int x1)]) (S' := [.int 0]) (M' := gm g) rfl ?_
    cases h
    exact g_ret rfl rfl rfl rfl
  · replace h := (if_neg c1).symm.trans h
    refine g_run 2 (pc' := 6) (L' := [some (.ref a), some (.int x1)]) (S' := [.ref a, .int x1]) (M' := gm g) rfl ?_
    refine g_getf rfl (ci := 7) (k := 0) rfl ha (gfv_r0 ha) ?_
    refine g_alen rfl (a := a + 1) (by rw [(zK0_r ha)]; decide) ?_
    refine g_icmp ((Int32.ofNat (zK0 (a + 1)).2) ≤ x1) rfl (t := 22) rfl rfl (fun c2 => ?_) (fun c2 => ?_)
    · replace h := (if_pos c2).symm.trans h
      refine g_run 1 (pc' := 23) (L' := [some (.ref a), some (.int x1)]) (S' := [.int 0]) (M' := gm g) rfl ?_
      cases h
      exact g_ret rfl rfl rfl rfl
    · replace h := (if_neg c2).symm.trans h
      refine g_run 1 (pc' := 14) (L' := [some (.ref a), some (.int x1)]) (S' := [.ref a]) (M' := gm g) rfl ?_
      refine g_getf rfl (ci := 7) (k := 0) rfl ha (gfv_r0 ha) ?_
      refine g_run 1 (pc' := 18) (L' := [some (.ref a), some (.int x1)]) (S' := [.int x1, .ref (a + 1)]) (M' := gm g) rfl ?_
      by_cases c3 : zib x1 (zK0 (a + 1)).2 = true
      case neg => exact nomatch ((if_neg c3).symm.trans h)
      replace h := (if_pos c3).symm.trans h
      refine g_iald rfl (a := a + 1) (zK0_r ha) c3 ?_
      refine g_run 1 (pc' := 23) (L' := [some (.ref a), some (.int x1)]) (S' := [.int ((gI g (a + 1) (ix x1)))]) (M' := gm g) rfl ?_
      cases h
      exact g_ret rfl rfl rfl rfl
def f_X12_in (x1 : Int32) (x2 : Int32) (x3 : Int32) (g : zSg) : Option (Int32 × zSg) := (if x1 < x2 then some (0, g) else (if x3 < x1 then some (0, g) else some (1, g)))
set_option maxRecDepth 100000 in
set_option maxHeartbeats 4000000 in
theorem p_X12_in {sc : zSc} {hp : zHp} {x1 : Int32} {x2 : Int32} {x3 : Int32} {g : zSg} {r : Int32 × zSg} (h : f_X12_in x1 x2 x3 g = some r) : zRn sc hp 0 zM_X12_in [.int x1, .int x2, .int x3] (gm g) (some (.int r.1)) (gm r.2) := by
  intro d hD
  show zG _ sc hp (zcd zM_X12_in) 0 [some (.int x1), some (.int x2), some (.int x3)] [] (gm g) _
  unfold f_X12_in at h
  refine g_run 2 (pc' := 2) (L' := [some (.int x1), some (.int x2), some (.int x3)]) (S' := [.int x2, .int x1]) (M' := gm g) rfl ?_
  refine g_icmp (x1 < x2) rfl (t := 14) rfl rfl (fun c1 => ?_) (fun c1 => ?_)
  · replace h := (if_pos c1).symm.trans h
    refine g_run 1 (pc' := 15) (L' := [some (.int x1), some (.int x2), some (.int x3)]) (S' := [.int 0]) (M' := gm g) rfl ?_
    cases h
    exact g_ret rfl rfl rfl rfl
  · replace h := (if_neg c1).symm.trans h
    refine g_run 2 (pc' := 7) (L' := [some (.int x1), some (.int x2), some (.int x3)]) (S' := [.int x3, .int x1]) (M' := gm g) rfl ?_
    refine g_icmp (x3 < x1) rfl (t := 14) rfl rfl (fun c2 => ?_) (fun c2 => ?_)
    · replace h := (if_pos c2).symm.trans h
      refine g_run 1 (pc' := 15) (L' := [some (.int x1), some (.int x2), some (.int x3)]) (S' := [.int 0]) (M' := gm g) rfl ?_
      cases h
      exact g_ret rfl rfl rfl rfl
    · replace h := (if_neg c2).symm.trans h
      refine g_run 2 (pc' := 15) (L' := [some (.int x1), some (.int x2), some (.int x3)]) (S' := [.int 1]) (M' := gm g) rfl ?_
      cases h
      exact g_ret rfl rfl rfl rfl
def f_X12_isPerson (x1 : Int32) (g : zSg) : Option (Int32 × zSg) := (zB (f_X12_in x1 0 ((gI g 526 25) - 1) g) (fun v1 g2 => (if v1 = 0 ∨ v1 = 1 then some (v1, g2) else none)))
set_option maxRecDepth 100000 in
set_option maxHeartbeats 4000000 in
theorem p_X12_isPerson {sc : zSc} {hp : zHp} {x1 : Int32} {g : zSg} {r : Int32 × zSg} (h : f_X12_isPerson x1 g = some r) : zRn sc hp 1 zM_X12_isPerson [.ref 526, .int x1] (gm g) (some (.int r.1)) (gm r.2) := by
  intro d hD
  obtain ⟨d, rfl⟩ : ∃ d', d = d' + 1 := ⟨d - 1, by omega⟩
  show zG _ sc hp (zcd zM_X12_isPerson) 0 [some (.ref 526), some (.int x1)] [] (gm g) _
  unfold f_X12_isPerson at h
  refine g_run 6 (pc' := 8) (L' := [some (.ref 526), some (.int x1)]) (S' := [.int (((gI g 526 25) - 1)), .int 0, .int x1]) (M' := gm g) rfl ?_
  obtain ⟨v1, g2, e3, h⟩ := zB_of h
  refine g_inv2 (kd := 0) (p_X12_in  e3) rfl rfl rfl (by decide) rfl rfl rfl rfl (by omega) (pc' := 11) rfl (S' := [.int v1]) rfl ?_
  by_cases c4 : v1 = 0 ∨ v1 = 1
  case neg => exact nomatch ((if_neg c4).symm.trans h)
  replace h := (if_pos c4).symm.trans h
  cases h
  exact g_retz rfl rfl c4
def f_X12_here (g : zSg) : Option (Int32 × zSg) := (if (gI g 526 2) ≤ (gI g 526 3) then some ((-1), g) else (if zib (gI g 526 3) 240 = true then some ((gI g 527 (ix (gI g 526 3))), g) else none))
set_option maxRecDepth 100000 in
set_option maxHeartbeats 4000000 in
theorem p_X12_here {sc : zSc} {hp : zHp} {g : zSg} {r : Int32 × zSg} (h : f_X12_here g = some r) : zRn sc hp 0 zM_X12_here [.ref 526] (gm g) (some (.int r.1)) (gm r.2) := by
  intro d hD
  show zG _ sc hp (zcd zM_X12_here) 0 [some (.ref 526)] [] (gm g) _
  unfold f_X12_here at h
  refine g_run 4 (pc' := 8) (L' := [some (.ref 526)]) (S' := [.int ((gI g 526 2)), .int ((gI g 526 3))]) (M' := gm g) rfl ?_
  refine g_icmp ((gI g 526 2) ≤ (gI g 526 3)) rfl (t := 23) rfl rfl (fun c1 => ?_) (fun c1 => ?_)
  · replace h := (if_pos c1).symm.trans h
    refine g_run 1 (pc' := 24) (L' := [some (.ref 526)]) (S' := [.int (-1)]) (M' := gm g) rfl ?_
    cases h
    exact g_ret rfl rfl rfl rfl
  · replace h := (if_neg c1).symm.trans h
    refine g_run 4 (pc' := 19) (L' := [some (.ref 526)]) (S' := [.int ((gI g 526 3)), .ref 527]) (M' := gm g) rfl ?_
    by_cases c2 : zib (gI g 526 3) 240 = true
    case neg => exact nomatch ((if_neg c2).symm.trans h)
    replace h := (if_pos c2).symm.trans h
    refine g_iald rfl (a := 527) rfl c2 ?_
    refine g_run 1 (pc' := 24) (L' := [some (.ref 526)]) (S' := [.int ((gI g 527 (ix (gI g 526 3))))]) (M' := gm g) rfl ?_
    cases h
    exact g_ret rfl rfl rfl rfl
def f_X12_look_22 (g : zSg) : Option (Int32 × zSg) := (zB (f_X12_here g) (fun v1 g2 => some (v1, g2)))
set_option maxRecDepth 100000 in
set_option maxHeartbeats 4000000 in
theorem p_X12_look_22 {sc : zSc} {hp : zHp} {d : Nat} (hD : 1 ≤ d) (g : zSg) (r : Int32 × zSg) (h : f_X12_look_22 g = some r) : zG d sc hp (zcd zM_X12_look) 22 [some (.ref 526)] [] (gm g) ((some (.int r.1)), gm r.2) := by
  obtain ⟨d, rfl⟩ : ∃ d', d = d' + 1 := ⟨d - 1, by omega⟩
  unfold f_X12_look_22 at h
  refine g_run 1 (pc' := 23) (L' := [some (.ref 526)]) (S' := [.ref 526]) (M' := gm g) rfl ?_
  obtain ⟨v1, g2, e3, h⟩ := zB_of h
  refine g_inv2 (kd := 1) (p_X12_here  e3) rfl rfl rfl (by decide) rfl rfl rfl rfl (by omega) (pc' := 26) rfl (S' := [.int v1]) rfl ?_
  cases h
  exact g_ret rfl rfl rfl rfl
def f_X12_look_0 : Nat → zSg → Option (Int32 × zSg)
  | 0, _ => none
  | n + 1, g => (zB (f_X12_here g) (fun v1 g2 => (if ¬ v1 = 32 then f_X12_look_22 g2 else (f_X12_look_0 n) (gsI g2 526 3 ((gI g2 526 3) + 1)))))
set_option maxRecDepth 100000 in
set_option maxHeartbeats 4000000 in
theorem p_X12_look_0 {sc : zSc} {hp : zHp} {d : Nat} (hD : 1 ≤ d) : ∀ (n : Nat) (g : zSg) (r : Int32 × zSg), f_X12_look_0 n g = some r → zG d sc hp (zcd zM_X12_look) 0 [some (.ref 526)] [] (gm g) ((some (.int r.1)), gm r.2) := by
  obtain ⟨d, rfl⟩ : ∃ d', d = d' + 1 := ⟨d - 1, by omega⟩
  intro n
  induction n with
  | zero => intro g r h; cases h
  | succ n ih =>
    intro g r h
    unfold f_X12_look_0 at h
    refine g_run 1 (pc' := 1) (L' := [some (.ref 526)]) (S' := [.ref 526]) (M' := gm g) rfl ?_
    obtain ⟨v1, g2, e3, h⟩ := zB_of h
    refine g_inv2 (kd := 1) (p_X12_here  e3) rfl rfl rfl (by decide) rfl rfl rfl rfl (by omega) (pc' := 4) rfl (S' := [.int v1]) rfl ?_
    refine g_run 1 (pc' := 6) (L' := [some (.ref 526)]) (S' := [.int 32, .int v1]) (M' := gm g2) rfl ?_
    refine g_icmp (¬ v1 = 32) rfl (t := 22) rfl rfl (fun c4 => ?_) (fun c4 => ?_)
    · replace h := (if_pos c4).symm.trans h
      exact p_X12_look_22 hD g2 _ h
    · replace h := (if_neg c4).symm.trans h
      refine g_run 7 (pc' := 0) (L' := [some (.ref 526)]) (S' := []) (M' := gm (gsI g2 526 3 ((gI g2 526 3) + 1))) rfl ?_
      exact ih (gsI g2 526 3 ((gI g2 526 3) + 1)) _ h
def f_X12_look (g : zSg) : Option (Int32 × zSg) := f_X12_look_0 zFu g
set_option maxRecDepth 100000 in
set_option maxHeartbeats 4000000 in
theorem p_X12_look {sc : zSc} {hp : zHp} {g : zSg} {r : Int32 × zSg} (h : f_X12_look g = some r) : zRn sc hp 1 zM_X12_look [.ref 526] (gm g) (some (.int r.1)) (gm r.2) := by
  intro d hD
  obtain ⟨d, rfl⟩ : ∃ d', d = d' + 1 := ⟨d - 1, by omega⟩
  show zG _ sc hp (zcd zM_X12_look) 0 [some (.ref 526)] [] (gm g) _
  unfold f_X12_look at h
  exact p_X12_look_0 hD zFu g _ h
def f_X7_clear_2 (a : Nat) : Nat → Int32 → zSg → Option (Unit × zSg)
  | 0, _, _ => none
  | n + 1, y1, g => (if (Int32.ofNat (zK0 (a + 1)).2) ≤ y1 then some ((), g) else (if zib y1 (zK0 (a + 1)).2 = true then (f_X7_clear_2 a n) (y1 + 1) (gsI g (a + 1) (ix y1) 0) else none))
set_option maxRecDepth 100000 in
set_option maxHeartbeats 4000000 in
theorem p_X7_clear_2 {sc : zSc} {hp : zHp} {d : Nat} (hD : 0 ≤ d) (a : Nat) (ha : (zK0 a).1 = 7) : ∀ (n : Nat) (y1 : Int32) (g : zSg) (r : Unit × zSg), f_X7_clear_2 a n y1 g = some r → zG d sc hp (zcd zM_X7_clear) 2 [some (.ref a), some (.int y1)] [] (gm g) (none, gm r.2) := by
  intro n
  induction n with
  | zero => intro y1 g r h; cases h
  | succ n ih =>
    intro y1 g r h
    unfold f_X7_clear_2 at h
    refine g_run 2 (pc' := 4) (L' := [some (.ref a), some (.int y1)]) (S' := [.ref a, .int y1]) (M' := gm g) rfl ?_
    refine g_getf rfl (ci := 7) (k := 0) rfl ha (gfv_r0 ha) ?_
    refine g_alen rfl (a := a + 1) (by rw [(zK0_r ha)]; decide) ?_
    refine g_icmp ((Int32.ofNat (zK0 (a + 1)).2) ≤ y1) rfl (t := 24) rfl rfl (fun c1 => ?_) (fun c1 => ?_)
    · replace h := (if_pos c1).symm.trans h
      cases h
      exact g_ret rfl rfl rfl rfl
    · replace h := (if_neg c1).symm.trans h
      refine g_run 1 (pc' := 12) (L' := [some (.ref a), some (.int y1)]) (S' := [.ref a]) (M' := gm g) rfl ?_
      refine g_getf rfl (ci := 7) (k := 0) rfl ha (gfv_r0 ha) ?_
      refine g_run 2 (pc' := 17) (L' := [some (.ref a), some (.int y1)]) (S' := [.int 0, .int y1, .ref (a + 1)]) (M' := gm g) rfl ?_
      by_cases c2 : zib y1 (zK0 (a + 1)).2 = true
      case neg => exact nomatch ((if_neg c2).symm.trans h)
      replace h := (if_pos c2).symm.trans h
      refine g_iast rfl (a := a + 1) (zK0_r ha) c2 ?_
      refine g_run 2 (pc' := 2) (L' := [some (.ref a), some (.int ((y1 + 1)))]) (S' := []) (M' := gm (gsI g (a + 1) (ix y1) 0)) rfl ?_
      exact ih (y1 + 1) (gsI g (a + 1) (ix y1) 0) _ h
def f_X7_clear (a : Nat) (g : zSg) : Option (Unit × zSg) := f_X7_clear_2 a zFu (0) g
set_option maxRecDepth 100000 in
set_option maxHeartbeats 4000000 in
theorem p_X7_clear {sc : zSc} {hp : zHp} (a : Nat) (ha : (zK0 a).1 = 7) {g : zSg} {r : Unit × zSg} (h : f_X7_clear a g = some r) : zRn sc hp 0 zM_X7_clear [.ref a] (gm g) none (gm r.2) := by
  intro d hD
  show zG _ sc hp (zcd zM_X7_clear) 0 [some (.ref a), none] [] (gm g) _
  unfold f_X7_clear at h
  refine g_run 2 (pc' := 2) (L' := [some (.ref a), some (.int 0)]) (S' := []) (M' := gm g) rfl ?_
  exact p_X7_clear_2 hD a ha zFu (0) g _ h
def f_X9_next_55 (g : zSg) : Option (Int32 × zSg) := some (0, (gsI g 1 2 (gI g 1 1)))
set_option maxRecDepth 100000 in
set_option maxHeartbeats 4000000 in
theorem p_X9_next_55 {sc : zSc} {hp : zHp} {d : Nat} (hD : 0 ≤ d) (g : zSg) (r : Int32 × zSg) (h : f_X9_next_55 g = some r) : zG d sc hp (zcd zM_X9_next) 55 [some (.ref 1), none] [] (gm g) ((some (.int r.1)), gm r.2) := by
  unfold f_X9_next_55 at h
  refine g_run 5 (pc' := 64) (L' := [some (.ref 1), none]) (S' := [.int 0]) (M' := gm (gsI g 1 2 (gI g 1 1))) rfl ?_
  cases h
  exact g_ret rfl rfl rfl rfl
def f_X9_next_37 (y1 : Int32) (g : zSg) : Option (Int32 × zSg) := (if zib y1 240 = true then some ((gI (gsI g 1 2 y1) 2 (ix y1)), (gsI g 1 2 y1)) else none)
set_option maxRecDepth 100000 in
set_option maxHeartbeats 4000000 in
theorem p_X9_next_37 {sc : zSc} {hp : zHp} {d : Nat} (hD : 0 ≤ d) (y1 : Int32) (g : zSg) (r : Int32 × zSg) (h : f_X9_next_37 y1 g = some r) : zG d sc hp (zcd zM_X9_next) 37 [some (.ref 1), some (.int y1)] [] (gm g) ((some (.int r.1)), gm r.2) := by
  unfold f_X9_next_37 at h
  refine g_run 6 (pc' := 47) (L' := [some (.ref 1), some (.int y1)]) (S' := [.int y1, .ref 2]) (M' := gm (gsI g 1 2 y1)) rfl ?_
  by_cases c1 : zib y1 240 = true
  case neg => exact nomatch ((if_neg c1).symm.trans h)
  replace h := (if_pos c1).symm.trans h
  refine g_iald rfl (a := 2) rfl c1 ?_
  cases h
  exact g_ret rfl rfl rfl rfl
def f_X9_next_5 : Nat → Int32 → zSg → Option (Int32 × zSg)
  | 0, _, _ => none
  | n + 1, y1, g => (if y1 < 0 then f_X9_next_55 g else (if (gI g 1 1) ≤ y1 then f_X9_next_55 g else (if 240 ≤ y1 then f_X9_next_55 g else (if zib y1 240 = true then (if (gI g 2 (ix y1)) = 32 then (f_X9_next_5 n) (y1 + 1) g else f_X9_next_37 (y1) g) else none))))
set_option maxRecDepth 100000 in
set_option maxHeartbeats 4000000 in
theorem p_X9_next_5 {sc : zSc} {hp : zHp} {d : Nat} (hD : 0 ≤ d) : ∀ (n : Nat) (y1 : Int32) (g : zSg) (r : Int32 × zSg), f_X9_next_5 n y1 g = some r → zG d sc hp (zcd zM_X9_next) 5 [some (.ref 1), some (.int y1)] [] (gm g) ((some (.int r.1)), gm r.2) := by
  intro n
  induction n with
  | zero => intro y1 g r h; cases h
  | succ n ih =>
    intro y1 g r h
    unfold f_X9_next_5 at h
    refine g_run 1 (pc' := 6) (L' := [some (.ref 1), some (.int y1)]) (S' := [.int y1]) (M' := gm g) rfl ?_
    refine g_if (y1 < 0) rfl (t := 55) rfl rfl (fun c1 => ?_) (fun c1 => ?_)
    · replace h := (if_pos c1).symm.trans h
      refine g_forget (L' := [some (.ref 1), none]) (And.intro rfl True.intro) ?_
      exact p_X9_next_55 hD g _ h
    · replace h := (if_neg c1).symm.trans h
      refine g_run 3 (pc' := 14) (L' := [some (.ref 1), some (.int y1)]) (S' := [.int ((gI g 1 1)), .int y1]) (M' := gm g) rfl ?_
      refine g_icmp ((gI g 1 1) ≤ y1) rfl (t := 55) rfl rfl (fun c2 => ?_) (fun c2 => ?_)
      · replace h := (if_pos c2).symm.trans h
        refine g_forget (L' := [some (.ref 1), none]) (And.intro rfl True.intro) ?_
        exact p_X9_next_55 hD g _ h
      · replace h := (if_neg c2).symm.trans h
        refine g_run 4 (pc' := 23) (L' := [some (.ref 1), some (.int y1)]) (S' := [.int 240, .int y1]) (M' := gm g) rfl ?_
        refine g_icmp (240 ≤ y1) rfl (t := 55) rfl rfl (fun c3 => ?_) (fun c3 => ?_)
        · replace h := (if_pos c3).symm.trans h
          refine g_forget (L' := [some (.ref 1), none]) (And.intro rfl True.intro) ?_
          exact p_X9_next_55 hD g _ h
        · replace h := (if_neg c3).symm.trans h
          refine g_run 3 (pc' := 31) (L' := [some (.ref 1), some (.int y1)]) (S' := [.int y1, .ref 2]) (M' := gm g) rfl ?_
          by_cases c4 : zib y1 240 = true
          case neg => exact nomatch ((if_neg c4).symm.trans h)
          replace h := (if_pos c4).symm.trans h
          refine g_iald rfl (a := 2) rfl c4 ?_
          refine g_run 1 (pc' := 34) (L' := [some (.ref 1), some (.int y1)]) (S' := [.int 32, .int ((gI g 2 (ix y1)))]) (M' := gm g) rfl ?_
          refine g_icmp ((gI g 2 (ix y1)) = 32) rfl (t := 49) rfl rfl (fun c5 => ?_) (fun c5 => ?_)
          · replace h := (if_pos c5).symm.trans h
            refine g_run 2 (pc' := 5) (L' := [some (.ref 1), some (.int ((y1 + 1)))]) (S' := []) (M' := gm g) rfl ?_
            exact ih (y1 + 1) g _ h
          · replace h := (if_neg c5).symm.trans h
            exact p_X9_next_37 hD (y1) g _ h
def f_X9_next (g : zSg) : Option (Int32 × zSg) := f_X9_next_5 zFu (gI g 1 2) g
set_option maxRecDepth 100000 in
set_option maxHeartbeats 4000000 in
theorem p_X9_next {sc : zSc} {hp : zHp} {g : zSg} {r : Int32 × zSg} (h : f_X9_next g = some r) : zRn sc hp 0 zM_X9_next [.ref 1] (gm g) (some (.int r.1)) (gm r.2) := by
  intro d hD
  show zG _ sc hp (zcd zM_X9_next) 0 [some (.ref 1), none] [] (gm g) _
  unfold f_X9_next at h
  refine g_run 3 (pc' := 5) (L' := [some (.ref 1), some (.int ((gI g 1 2)))]) (S' := []) (M' := gm g) rfl ?_
  exact p_X9_next_5 hD zFu (gI g 1 2) g _ h
def f_X10_obey (x1 : Option Nat) (g : zSg) : Option (Unit × zSg) := some ((), gsH g x1)
theorem p_X10_obey {sc : zSc} {hp : zHp} {x1 : Option Nat} {g : zSg} {r : Unit × zSg} (h : f_X10_obey x1 g = some r) : zRn sc hp 0 zM_X10_obey [.ref 423, zrv x1] (gm g) none (gm r.2) := by
  intro d hD
  cases h
  have hL : zent [.ref 423, zrv x1] 2 = [some (.ref 423), some (zrv x1)] := by cases x1 <;> rfl
  show zG _ sc hp (zcd zM_X10_obey) 0 (zent [.ref 423, zrv x1] 2) [] (gm g) _
  rw [hL]
  refine g_run 1 (pc' := 1) (L' := [some (.ref 423), some (zrv x1)]) (S' := [.ref 423]) (M' := gm g) rfl ?_
  refine g_aloadn (v := x1) rfl rfl ?_
  refine g_putf (v := zrv x1) rfl (ci := 10) (k := 4) rfl (a := 423) rfl rfl (gset_h x1) ?_
  exact g_ret rfl rfl rfl rfl

def f_X0_shed (a : Nat) (x1 : Int32) (g : zSg) : Option (Int32 × zSg) := (zB (f_X7_get (a + 1) ((23 + (4 * x1)) + 3) g) (fun v1 g2 => (zB (f_X7_get (a + 1) ((23 + (4 * x1)) + 2) g2) (fun v4 g5 => some (((v1 * (gI g2 (a) 1)) + v4), g5)))))
set_option maxRecDepth 100000 in
set_option maxHeartbeats 4000000 in
theorem p_X0_shed {sc : zSc} {hp : zHp} (a : Nat) (ha : (zK0 a).1 = 0) {x1 : Int32} {g : zSg} {r : Int32 × zSg} (h : f_X0_shed a x1 g = some r) : zRn sc hp 1 zM_X0_shed [.ref a, .int x1] (gm g) (some (.int r.1)) (gm r.2) := by
  intro d hD
  obtain ⟨d, rfl⟩ : ∃ d', d = d' + 1 := ⟨d - 1, by omega⟩
  show zG _ sc hp (zcd zM_X0_shed) 0 [some (.ref a), some (.int x1), none] [] (gm g) _
  unfold f_X0_shed at h
  refine g_run 7 (pc' := 8) (L' := [some (.ref a), some (.int x1), some (.int ((23 + (4 * x1))))]) (S' := [.ref a]) (M' := gm g) rfl ?_
  refine g_getf rfl (ci := 0) (k := 0) rfl ha (gfv_c0 ha) ?_
  refine g_run 3 (pc' := 14) (L' := [some (.ref a), some (.int x1), some (.int ((23 + (4 * x1))))]) (S' := [.int (((23 + (4 * x1)) + 3)), .ref (a + 1)]) (M' := gm g) rfl ?_
  obtain ⟨v1, g2, e3, h⟩ := zB_of h
  refine g_inv2 (kd := 1) (p_X7_get (a + 1) (zK0_c ha) e3) rfl rfl rfl (by decide) rfl (g_recv (a := a + 1) rfl (Nat.le_of_ble_eq_true rfl) (Nat.le_of_ble_eq_true rfl) (Nat.le_of_ble_eq_true rfl) (Nat.le_of_ble_eq_true rfl) rfl (zK0_c ha) (Nat.le_of_ble_eq_true rfl)) rfl rfl (by omega) (pc' := 17) rfl (S' := [.int v1]) rfl ?_
  refine g_run 1 (pc' := 18) (L' := [some (.ref a), some (.int x1), some (.int ((23 + (4 * x1))))]) (S' := [.ref a, .int v1]) (M' := gm g2) rfl ?_
  refine g_getf rfl (ci := 0) (k := 1) rfl ha rfl ?_
  refine g_run 2 (pc' := 23) (L' := [some (.ref a), some (.int x1), some (.int ((23 + (4 * x1))))]) (S' := [.ref a, .int ((v1 * (gI g2 (a) 1)))]) (M' := gm g2) rfl ?_
  refine g_getf rfl (ci := 0) (k := 0) rfl ha (gfv_c0 ha) ?_
  refine g_run 3 (pc' := 29) (L' := [some (.ref a), some (.int x1), some (.int ((23 + (4 * x1))))]) (S' := [.int (((23 + (4 * x1)) + 2)), .ref (a + 1), .int ((v1 * (gI g2 (a) 1)))]) (M' := gm g2) rfl ?_
  obtain ⟨v4, g5, e6, h⟩ := zB_of h
  refine g_inv2 (kd := 1) (p_X7_get (a + 1) (zK0_c ha) e6) rfl rfl rfl (by decide) rfl (g_recv (a := a + 1) rfl (Nat.le_of_ble_eq_true rfl) (Nat.le_of_ble_eq_true rfl) (Nat.le_of_ble_eq_true rfl) (Nat.le_of_ble_eq_true rfl) rfl (zK0_c ha) (Nat.le_of_ble_eq_true rfl)) rfl rfl (by omega) (pc' := 32) rfl (S' := [.int v4, .int ((v1 * (gI g2 (a) 1)))]) rfl ?_
  refine g_run 1 (pc' := 33) (L' := [some (.ref a), some (.int x1), some (.int ((23 + (4 * x1))))]) (S' := [.int (((v1 * (gI g2 (a) 1)) + v4))]) (M' := gm g5) rfl ?_
  cases h
  exact g_ret rfl rfl rfl rfl
def f_X0_rowOf (a : Nat) (x1 : Int32) (g : zSg) : Option (Int32 × zSg) := (if 1 ≤ (gI g (a) 1) then (if (gI g (a) 1) = 0 then none else some ((x1 / (gI g (a) 1)), g)) else some (0, g))
set_option maxRecDepth 100000 in
set_option maxHeartbeats 4000000 in
theorem p_X0_rowOf {sc : zSc} {hp : zHp} (a : Nat) (ha : (zK0 a).1 = 0) {x1 : Int32} {g : zSg} {r : Int32 × zSg} (h : f_X0_rowOf a x1 g = some r) : zRn sc hp 0 zM_X0_rowOf [.ref a, .int x1] (gm g) (some (.int r.1)) (gm r.2) := by
  intro d hD
  show zG _ sc hp (zcd zM_X0_rowOf) 0 [some (.ref a), some (.int x1)] [] (gm g) _
  unfold f_X0_rowOf at h
  refine g_run 1 (pc' := 1) (L' := [some (.ref a), some (.int x1)]) (S' := [.ref a]) (M' := gm g) rfl ?_
  refine g_getf rfl (ci := 0) (k := 1) rfl ha rfl ?_
  refine g_run 1 (pc' := 5) (L' := [some (.ref a), some (.int x1)]) (S' := [.int 1, .int ((gI g (a) 1))]) (M' := gm g) rfl ?_
  refine g_icmp (1 ≤ (gI g (a) 1)) rfl (t := 12) rfl rfl (fun c1 => ?_) (fun c1 => ?_)
  · replace h := (if_pos c1).symm.trans h
    refine g_run 2 (pc' := 14) (L' := [some (.ref a), some (.int x1)]) (S' := [.ref a, .int x1]) (M' := gm g) rfl ?_
    refine g_getf rfl (ci := 0) (k := 1) rfl ha rfl ?_
    by_cases c2 : (gI g (a) 1) = 0
    case pos => exact nomatch ((if_pos c2).symm.trans h)
    replace h := (if_neg c2).symm.trans h
    refine g_div rfl c2 ?_
    cases h
    exact g_ret rfl rfl rfl rfl
  · replace h := (if_neg c1).symm.trans h
    refine g_run 2 (pc' := 18) (L' := [some (.ref a), some (.int x1)]) (S' := [.int 0]) (M' := gm g) rfl ?_
    cases h
    exact g_ret rfl rfl rfl rfl
def f_X0_placeOf (a : Nat) (x1 : Int32) (g : zSg) : Option (Int32 × zSg) := (if 1 ≤ (gI g (a) 1) then (if (gI g (a) 1) = 0 then none else some ((imod x1 (gI g (a) 1)), g)) else some (0, g))
set_option maxRecDepth 100000 in
set_option maxHeartbeats 4000000 in
theorem p_X0_placeOf {sc : zSc} {hp : zHp} (a : Nat) (ha : (zK0 a).1 = 0) {x1 : Int32} {g : zSg} {r : Int32 × zSg} (h : f_X0_placeOf a x1 g = some r) : zRn sc hp 0 zM_X0_placeOf [.ref a, .int x1] (gm g) (some (.int r.1)) (gm r.2) := by
  intro d hD
  show zG _ sc hp (zcd zM_X0_placeOf) 0 [some (.ref a), some (.int x1)] [] (gm g) _
  unfold f_X0_placeOf at h
  refine g_run 1 (pc' := 1) (L' := [some (.ref a), some (.int x1)]) (S' := [.ref a]) (M' := gm g) rfl ?_
  refine g_getf rfl (ci := 0) (k := 1) rfl ha rfl ?_
  refine g_run 1 (pc' := 5) (L' := [some (.ref a), some (.int x1)]) (S' := [.int 1, .int ((gI g (a) 1))]) (M' := gm g) rfl ?_
  refine g_icmp (1 ≤ (gI g (a) 1)) rfl (t := 12) rfl rfl (fun c1 => ?_) (fun c1 => ?_)
  · replace h := (if_pos c1).symm.trans h
    refine g_run 2 (pc' := 14) (L' := [some (.ref a), some (.int x1)]) (S' := [.ref a, .int x1]) (M' := gm g) rfl ?_
    refine g_getf rfl (ci := 0) (k := 1) rfl ha rfl ?_
    by_cases c2 : (gI g (a) 1) = 0
    case pos => exact nomatch ((if_pos c2).symm.trans h)
    replace h := (if_neg c2).symm.trans h
    refine g_rem rfl c2 ?_
    cases h
    exact g_ret rfl rfl rfl rfl
  · replace h := (if_neg c1).symm.trans h
    refine g_run 2 (pc' := 18) (L' := [some (.ref a), some (.int x1)]) (S' := [.int 0]) (M' := gm g) rfl ?_
    cases h
    exact g_ret rfl rfl rfl rfl
def f_X0_away_90 (a : Nat) (s0 : Int32) (g : zSg) : Option (Int32 × zSg) := (if 0 ≤ s0 then some (s0, g) else some ((-1), g))
set_option maxRecDepth 100000 in
set_option maxHeartbeats 4000000 in
theorem p_X0_away_90 {sc : zSc} {hp : zHp} {d : Nat} (hD : 1 ≤ d) (a : Nat) (ha : (zK0 a).1 = 0) (s0 : Int32) (g : zSg) (r : Int32 × zSg) (h : f_X0_away_90 a s0 g = some r) : zG d sc hp (zcd zM_X0_away) 90 [none, none, none, none, none, none, none, none, none] [.int s0] (gm g) ((some (.int r.1)), gm r.2) := by
  obtain ⟨d, rfl⟩ : ∃ d', d = d' + 1 := ⟨d - 1, by omega⟩
  unfold f_X0_away_90 at h
  refine g_run 2 (pc' := 94) (L' := [none, none, none, none, none, none, none, none, some (.int s0)]) (S' := [.int s0]) (M' := gm g) rfl ?_
  refine g_if (0 ≤ s0) rfl (t := 101) rfl rfl (fun c1 => ?_) (fun c1 => ?_)
  · replace h := (if_pos c1).symm.trans h
    refine g_run 1 (pc' := 103) (L' := [none, none, none, none, none, none, none, none, some (.int s0)]) (S' := [.int s0]) (M' := gm g) rfl ?_
    cases h
    exact g_ret rfl rfl rfl rfl
  · replace h := (if_neg c1).symm.trans h
    refine g_run 2 (pc' := 103) (L' := [none, none, none, none, none, none, none, none, some (.int s0)]) (S' := [.int (-1)]) (M' := gm g) rfl ?_
    cases h
    exact g_ret rfl rfl rfl rfl
def f_X0_away_82 (a : Nat) (y7 : Int32) (g : zSg) : Option (Int32 × zSg) := f_X0_away_90 a (-y7) g
set_option maxRecDepth 100000 in
set_option maxHeartbeats 4000000 in
theorem p_X0_away_82 {sc : zSc} {hp : zHp} {d : Nat} (hD : 1 ≤ d) (a : Nat) (ha : (zK0 a).1 = 0) (y7 : Int32) (g : zSg) (r : Int32 × zSg) (h : f_X0_away_82 a y7 g = some r) : zG d sc hp (zcd zM_X0_away) 82 [none, none, none, none, none, none, none, some (.int y7), none] [] (gm g) ((some (.int r.1)), gm r.2) := by
  obtain ⟨d, rfl⟩ : ∃ d', d = d' + 1 := ⟨d - 1, by omega⟩
  unfold f_X0_away_82 at h
  refine g_run 3 (pc' := 90) (L' := [none, none, none, none, none, none, none, some (.int y7), none]) (S' := [.int ((-y7))]) (M' := gm g) rfl ?_
  refine g_forget (L' := [none, none, none, none, none, none, none, none, none]) True.intro ?_
  exact p_X0_away_90 hD a ha (-y7) g _ h
def f_X0_away_71 (a : Nat) (y3 : Int32) (s0 : Int32) (g : zSg) : Option (Int32 × zSg) := (if y3 = 0 then f_X0_away_82 a (s0) g else (if ¬ y3 = 3 then f_X0_away_90 a (s0) g else f_X0_away_82 a (s0) g))
set_option maxRecDepth 100000 in
set_option maxHeartbeats 4000000 in
theorem p_X0_away_71 {sc : zSc} {hp : zHp} {d : Nat} (hD : 1 ≤ d) (a : Nat) (ha : (zK0 a).1 = 0) (y3 : Int32) (s0 : Int32) (g : zSg) (r : Int32 × zSg) (h : f_X0_away_71 a y3 s0 g = some r) : zG d sc hp (zcd zM_X0_away) 71 [none, none, none, some (.int y3), none, none, none, none, none] [.int s0] (gm g) ((some (.int r.1)), gm r.2) := by
  obtain ⟨d, rfl⟩ : ∃ d', d = d' + 1 := ⟨d - 1, by omega⟩
  unfold f_X0_away_71 at h
  refine g_run 2 (pc' := 74) (L' := [none, none, none, some (.int y3), none, none, none, some (.int s0), none]) (S' := [.int y3]) (M' := gm g) rfl ?_
  refine g_if (y3 = 0) rfl (t := 82) rfl rfl (fun c1 => ?_) (fun c1 => ?_)
  · replace h := (if_pos c1).symm.trans h
    refine g_forget (L' := [none, none, none, none, none, none, none, some (.int s0), none]) (And.intro rfl True.intro) ?_
    exact p_X0_away_82 hD a ha (s0) g _ h
  · replace h := (if_neg c1).symm.trans h
    refine g_run 2 (pc' := 79) (L' := [none, none, none, some (.int y3), none, none, none, some (.int s0), none]) (S' := [.int 3, .int y3]) (M' := gm g) rfl ?_
    refine g_icmp (¬ y3 = 3) rfl (t := 88) rfl rfl (fun c2 => ?_) (fun c2 => ?_)
    · replace h := (if_pos c2).symm.trans h
      refine g_run 1 (pc' := 90) (L' := [none, none, none, some (.int y3), none, none, none, some (.int s0), none]) (S' := [.int s0]) (M' := gm g) rfl ?_
      refine g_forget (L' := [none, none, none, none, none, none, none, none, none]) True.intro ?_
      exact p_X0_away_90 hD a ha (s0) g _ h
    · replace h := (if_neg c2).symm.trans h
      refine g_forget (L' := [none, none, none, none, none, none, none, some (.int s0), none]) (And.intro rfl True.intro) ?_
      exact p_X0_away_82 hD a ha (s0) g _ h
def f_X0_away_54 (a : Nat) (y3 : Int32) (y4 : Int32) (y5 : Int32) (y6 : Int32) (s0 : Int32) (g : zSg) : Option (Int32 × zSg) := (if s0 = 0 then (if y6 = 0 then f_X0_away_71 a (y3) (y5) g else f_X0_away_71 a (y3) (y4) g) else some ((-1), g))
set_option maxRecDepth 100000 in
set_option maxHeartbeats 4000000 in
theorem p_X0_away_54 {sc : zSc} {hp : zHp} {d : Nat} (hD : 1 ≤ d) (a : Nat) (ha : (zK0 a).1 = 0) (y3 : Int32) (y4 : Int32) (y5 : Int32) (y6 : Int32) (s0 : Int32) (g : zSg) (r : Int32 × zSg) (h : f_X0_away_54 a y3 y4 y5 y6 s0 g = some r) : zG d sc hp (zcd zM_X0_away) 54 [none, none, none, some (.int y3), some (.int y4), some (.int y5), some (.int y6), none, none] [.int s0] (gm g) ((some (.int r.1)), gm r.2) := by
  obtain ⟨d, rfl⟩ : ∃ d', d = d' + 1 := ⟨d - 1, by omega⟩
  unfold f_X0_away_54 at h
  refine g_if (s0 = 0) rfl (t := 59) rfl rfl (fun c1 => ?_) (fun c1 => ?_)
  · replace h := (if_pos c1).symm.trans h
    refine g_run 1 (pc' := 61) (L' := [none, none, none, some (.int y3), some (.int y4), some (.int y5), some (.int y6), none, none]) (S' := [.int y6]) (M' := gm g) rfl ?_
    refine g_if (y6 = 0) rfl (t := 69) rfl rfl (fun c2 => ?_) (fun c2 => ?_)
    · replace h := (if_pos c2).symm.trans h
      refine g_run 1 (pc' := 71) (L' := [none, none, none, some (.int y3), some (.int y4), some (.int y5), some (.int y6), none, none]) (S' := [.int y5]) (M' := gm g) rfl ?_
      refine g_forget (L' := [none, none, none, some (.int y3), none, none, none, none, none]) (And.intro rfl True.intro) ?_
      exact p_X0_away_71 hD a ha (y3) (y5) g _ h
    · replace h := (if_neg c2).symm.trans h
      refine g_run 2 (pc' := 71) (L' := [none, none, none, some (.int y3), some (.int y4), some (.int y5), some (.int y6), none, none]) (S' := [.int y4]) (M' := gm g) rfl ?_
      refine g_forget (L' := [none, none, none, some (.int y3), none, none, none, none, none]) (And.intro rfl True.intro) ?_
      exact p_X0_away_71 hD a ha (y3) (y4) g _ h
  · replace h := (if_neg c1).symm.trans h
    refine g_run 1 (pc' := 58) (L' := [none, none, none, some (.int y3), some (.int y4), some (.int y5), some (.int y6), none, none]) (S' := [.int (-1)]) (M' := gm g) rfl ?_
    cases h
    exact g_ret rfl rfl rfl rfl
def f_X0_away_40 (a : Nat) (y3 : Int32) (y4 : Int32) (y5 : Int32) (s0 : Int32) (g : zSg) : Option (Int32 × zSg) := (if s0 = 0 then f_X0_away_54 a (y3) (y4) (y5) (s0) (y4) g else f_X0_away_54 a (y3) (y4) (y5) (s0) (y5) g)
set_option maxRecDepth 100000 in
set_option maxHeartbeats 4000000 in
theorem p_X0_away_40 {sc : zSc} {hp : zHp} {d : Nat} (hD : 1 ≤ d) (a : Nat) (ha : (zK0 a).1 = 0) (y3 : Int32) (y4 : Int32) (y5 : Int32) (s0 : Int32) (g : zSg) (r : Int32 × zSg) (h : f_X0_away_40 a y3 y4 y5 s0 g = some r) : zG d sc hp (zcd zM_X0_away) 40 [none, none, none, some (.int y3), some (.int y4), some (.int y5), none, none, none] [.int s0] (gm g) ((some (.int r.1)), gm r.2) := by
  obtain ⟨d, rfl⟩ : ∃ d', d = d' + 1 := ⟨d - 1, by omega⟩
  unfold f_X0_away_40 at h
  refine g_run 2 (pc' := 44) (L' := [none, none, none, some (.int y3), some (.int y4), some (.int y5), some (.int s0), none, none]) (S' := [.int s0]) (M' := gm g) rfl ?_
  refine g_if (s0 = 0) rfl (t := 52) rfl rfl (fun c1 => ?_) (fun c1 => ?_)
  · replace h := (if_pos c1).symm.trans h
    refine g_run 1 (pc' := 54) (L' := [none, none, none, some (.int y3), some (.int y4), some (.int y5), some (.int s0), none, none]) (S' := [.int y4]) (M' := gm g) rfl ?_
    exact p_X0_away_54 hD a ha (y3) (y4) (y5) (s0) (y4) g _ h
  · replace h := (if_neg c1).symm.trans h
    refine g_run 2 (pc' := 54) (L' := [none, none, none, some (.int y3), some (.int y4), some (.int y5), some (.int s0), none, none]) (S' := [.int y5]) (M' := gm g) rfl ?_
    exact p_X0_away_54 hD a ha (y3) (y4) (y5) (s0) (y5) g _ h
def f_X0_away_35 (a : Nat) (y3 : Int32) (y4 : Int32) (y5 : Int32) (g : zSg) : Option (Int32 × zSg) := f_X0_away_40 a (y3) (y4) (y5) (1) g
set_option maxRecDepth 100000 in
set_option maxHeartbeats 4000000 in
theorem p_X0_away_35 {sc : zSc} {hp : zHp} {d : Nat} (hD : 1 ≤ d) (a : Nat) (ha : (zK0 a).1 = 0) (y3 : Int32) (y4 : Int32) (y5 : Int32) (g : zSg) (r : Int32 × zSg) (h : f_X0_away_35 a y3 y4 y5 g = some r) : zG d sc hp (zcd zM_X0_away) 35 [none, none, none, some (.int y3), some (.int y4), some (.int y5), none, none, none] [] (gm g) ((some (.int r.1)), gm r.2) := by
  obtain ⟨d, rfl⟩ : ∃ d', d = d' + 1 := ⟨d - 1, by omega⟩
  unfold f_X0_away_35 at h
  refine g_run 2 (pc' := 40) (L' := [none, none, none, some (.int y3), some (.int y4), some (.int y5), none, none, none]) (S' := [.int 1]) (M' := gm g) rfl ?_
  exact p_X0_away_40 hD a ha (y3) (y4) (y5) (1) g _ h
def f_X0_away (a : Nat) (x1 : Int32) (x2 : Int32) (x3 : Int32) (g : zSg) : Option (Int32 × zSg) := (zB (f_X0_rowOf a x2 g) (fun v1 g2 => (zB (f_X0_rowOf a x1 g2) (fun v4 g5 => (zB (f_X0_placeOf a x2 g5) (fun v7 g8 => (zB (f_X0_placeOf a x1 g8) (fun v10 g11 => (if x3 = 0 then f_X0_away_35 a (x3) (v1 - v4) (v7 - v10) g11 else (if ¬ x3 = 2 then f_X0_away_40 a (x3) (v1 - v4) (v7 - v10) (0) g11 else f_X0_away_35 a (x3) (v1 - v4) (v7 - v10) g11))))))))))
set_option maxRecDepth 100000 in
set_option maxHeartbeats 4000000 in
theorem p_X0_away {sc : zSc} {hp : zHp} (a : Nat) (ha : (zK0 a).1 = 0) {x1 : Int32} {x2 : Int32} {x3 : Int32} {g : zSg} {r : Int32 × zSg} (h : f_X0_away a x1 x2 x3 g = some r) : zRn sc hp 1 zM_X0_away [.ref a, .int x1, .int x2, .int x3] (gm g) (some (.int r.1)) (gm r.2) := by
  intro d hD
  obtain ⟨d, rfl⟩ : ∃ d', d = d' + 1 := ⟨d - 1, by omega⟩
  show zG _ sc hp (zcd zM_X0_away) 0 [some (.ref a), some (.int x1), some (.int x2), some (.int x3), none, none, none, none, none] [] (gm g) _
  unfold f_X0_away at h
  refine g_run 2 (pc' := 2) (L' := [some (.ref a), some (.int x1), some (.int x2), some (.int x3), none, none, none, none, none]) (S' := [.int x2, .ref a]) (M' := gm g) rfl ?_
  obtain ⟨v1, g2, e3, h⟩ := zB_of h
  refine g_inv2 (kd := 1) (p_X0_rowOf a ha e3) rfl rfl rfl (by decide) rfl (g_recv (a := a) rfl (Nat.le_of_ble_eq_true rfl) (Nat.le_of_ble_eq_true rfl) (Nat.le_of_ble_eq_true rfl) (Nat.le_of_ble_eq_true rfl) rfl ha (Nat.le_of_ble_eq_true rfl)) rfl rfl (by omega) (pc' := 5) rfl (S' := [.int v1]) rfl ?_
  refine g_run 2 (pc' := 7) (L' := [some (.ref a), some (.int x1), some (.int x2), some (.int x3), none, none, none, none, none]) (S' := [.int x1, .ref a, .int v1]) (M' := gm g2) rfl ?_
  obtain ⟨v4, g5, e6, h⟩ := zB_of h
  refine g_inv2 (kd := 1) (p_X0_rowOf a ha e6) rfl rfl rfl (by decide) rfl (g_recv (a := a) rfl (Nat.le_of_ble_eq_true rfl) (Nat.le_of_ble_eq_true rfl) (Nat.le_of_ble_eq_true rfl) (Nat.le_of_ble_eq_true rfl) rfl ha (Nat.le_of_ble_eq_true rfl)) rfl rfl (by omega) (pc' := 10) rfl (S' := [.int v4, .int v1]) rfl ?_
  refine g_run 4 (pc' := 15) (L' := [some (.ref a), some (.int x1), some (.int x2), some (.int x3), some (.int ((v1 - v4))), none, none, none, none]) (S' := [.int x2, .ref a]) (M' := gm g5) rfl ?_
  obtain ⟨v7, g8, e9, h⟩ := zB_of h
  refine g_inv2 (kd := 1) (p_X0_placeOf a ha e9) rfl rfl rfl (by decide) rfl (g_recv (a := a) rfl (Nat.le_of_ble_eq_true rfl) (Nat.le_of_ble_eq_true rfl) (Nat.le_of_ble_eq_true rfl) (Nat.le_of_ble_eq_true rfl) rfl ha (Nat.le_of_ble_eq_true rfl)) rfl rfl (by omega) (pc' := 18) rfl (S' := [.int v7]) rfl ?_
  refine g_run 2 (pc' := 20) (L' := [some (.ref a), some (.int x1), some (.int x2), some (.int x3), some (.int ((v1 - v4))), none, none, none, none]) (S' := [.int x1, .ref a, .int v7]) (M' := gm g8) rfl ?_
  obtain ⟨v10, g11, e12, h⟩ := zB_of h
  refine g_inv2 (kd := 1) (p_X0_placeOf a ha e12) rfl rfl rfl (by decide) rfl (g_recv (a := a) rfl (Nat.le_of_ble_eq_true rfl) (Nat.le_of_ble_eq_true rfl) (Nat.le_of_ble_eq_true rfl) (Nat.le_of_ble_eq_true rfl) rfl ha (Nat.le_of_ble_eq_true rfl)) rfl rfl (by omega) (pc' := 23) rfl (S' := [.int v10, .int v7]) rfl ?_
  refine g_run 3 (pc' := 27) (L' := [some (.ref a), some (.int x1), some (.int x2), some (.int x3), some (.int ((v1 - v4))), some (.int ((v7 - v10))), none, none, none]) (S' := [.int x3]) (M' := gm g11) rfl ?_
  refine g_if (x3 = 0) rfl (t := 35) rfl rfl (fun c13 => ?_) (fun c13 => ?_)
  · replace h := (if_pos c13).symm.trans h
    refine g_forget (L' := [none, none, none, some (.int x3), some (.int ((v1 - v4))), some (.int ((v7 - v10))), none, none, none]) (And.intro rfl (And.intro rfl (And.intro rfl True.intro))) ?_
    exact p_X0_away_35 hD a ha (x3) (v1 - v4) (v7 - v10) g11 _ h
  · replace h := (if_neg c13).symm.trans h
    refine g_run 2 (pc' := 32) (L' := [some (.ref a), some (.int x1), some (.int x2), some (.int x3), some (.int ((v1 - v4))), some (.int ((v7 - v10))), none, none, none]) (S' := [.int 2, .int x3]) (M' := gm g11) rfl ?_
    refine g_icmp (¬ x3 = 2) rfl (t := 39) rfl rfl (fun c14 => ?_) (fun c14 => ?_)
    · replace h := (if_pos c14).symm.trans h
      refine g_run 1 (pc' := 40) (L' := [some (.ref a), some (.int x1), some (.int x2), some (.int x3), some (.int ((v1 - v4))), some (.int ((v7 - v10))), none, none, none]) (S' := [.int 0]) (M' := gm g11) rfl ?_
      refine g_forget (L' := [none, none, none, some (.int x3), some (.int ((v1 - v4))), some (.int ((v7 - v10))), none, none, none]) (And.intro rfl (And.intro rfl (And.intro rfl True.intro))) ?_
      exact p_X0_away_40 hD a ha (x3) (v1 - v4) (v7 - v10) (0) g11 _ h
    · replace h := (if_neg c14).symm.trans h
      refine g_forget (L' := [none, none, none, some (.int x3), some (.int ((v1 - v4))), some (.int ((v7 - v10))), none, none, none]) (And.intro rfl (And.intro rfl (And.intro rfl True.intro))) ?_
      exact p_X0_away_35 hD a ha (x3) (v1 - v4) (v7 - v10) g11 _ h
def f_X7_set (a : Nat) (x1 : Int32) (x2 : Int32) (g : zSg) : Option (Unit × zSg) := (if x1 < 0 then some ((), g) else (if (Int32.ofNat (zK0 (a + 1)).2) ≤ x1 then some ((), g) else (if zib x1 (zK0 (a + 1)).2 = true then some ((), (gsI g (a + 1) (ix x1) x2)) else none)))
set_option maxRecDepth 100000 in
set_option maxHeartbeats 4000000 in
theorem p_X7_set {sc : zSc} {hp : zHp} (a : Nat) (ha : (zK0 a).1 = 7) {x1 : Int32} {x2 : Int32} {g : zSg} {r : Unit × zSg} (h : f_X7_set a x1 x2 g = some r) : zRn sc hp 0 zM_X7_set [.ref a, .int x1, .int x2] (gm g) none (gm r.2) := by
  intro d hD
  show zG _ sc hp (zcd zM_X7_set) 0 [some (.ref a), some (.int x1), some (.int x2)] [] (gm g) _
  unfold f_X7_set at h
  refine g_run 1 (pc' := 1) (L' := [some (.ref a), some (.int x1), some (.int x2)]) (S' := [.int x1]) (M' := gm g) rfl ?_
  refine g_if (x1 < 0) rfl (t := 20) rfl rfl (fun c1 => ?_) (fun c1 => ?_)
  · replace h := (if_pos c1).symm.trans h
    cases h
    exact g_ret rfl rfl rfl rfl
  · replace h := (if_neg c1).symm.trans h
    refine g_run 2 (pc' := 6) (L' := [some (.ref a), some (.int x1), some (.int x2)]) (S' := [.ref a, .int x1]) (M' := gm g) rfl ?_
    refine g_getf rfl (ci := 7) (k := 0) rfl ha (gfv_r0 ha) ?_
    refine g_alen rfl (a := a + 1) (by rw [(zK0_r ha)]; decide) ?_
    refine g_icmp ((Int32.ofNat (zK0 (a + 1)).2) ≤ x1) rfl (t := 20) rfl rfl (fun c2 => ?_) (fun c2 => ?_)
    · replace h := (if_pos c2).symm.trans h
      cases h
      exact g_ret rfl rfl rfl rfl
    · replace h := (if_neg c2).symm.trans h
      refine g_run 1 (pc' := 14) (L' := [some (.ref a), some (.int x1), some (.int x2)]) (S' := [.ref a]) (M' := gm g) rfl ?_
      refine g_getf rfl (ci := 7) (k := 0) rfl ha (gfv_r0 ha) ?_
      refine g_run 2 (pc' := 19) (L' := [some (.ref a), some (.int x1), some (.int x2)]) (S' := [.int x2, .int x1, .ref (a + 1)]) (M' := gm g) rfl ?_
      by_cases c3 : zib x1 (zK0 (a + 1)).2 = true
      case neg => exact nomatch ((if_neg c3).symm.trans h)
      replace h := (if_pos c3).symm.trans h
      refine g_iast rfl (a := a + 1) (zK0_r ha) c3 ?_
      cases h
      exact g_ret rfl rfl rfl rfl
def f_X4_workOut_212 (y3 : Int64) (g : zSg) : Option (Int32 × zSg) := (if (lg_cmp y3 1000000) ≤ 0 then (if 0 ≤ (lg_cmp y3 (-1000000)) then some ((y3).toInt32, g) else some ((-1000000), g)) else some (1000000, g))
set_option maxRecDepth 100000 in
set_option maxHeartbeats 4000000 in
theorem p_X4_workOut_212 {sc : zSc} {hp : zHp} {d : Nat} (hD : 0 ≤ d) (y3 : Int64) (g : zSg) (r : Int32 × zSg) (h : f_X4_workOut_212 y3 g = some r) : zG d sc hp (zcd zM_X4_workOut) 212 [none, none, none, some (.long (y3)), none] [] (gm g) ((some (.int r.1)), gm r.2) := by
  unfold f_X4_workOut_212 at h
  refine g_run 3 (pc' := 217) (L' := [none, none, none, some (.long (y3)), none]) (S' := [.int ((lg_cmp y3 1000000))]) (M' := gm g) rfl ?_
  refine g_if ((lg_cmp y3 1000000) ≤ 0) rfl (t := 223) rfl rfl (fun c1 => ?_) (fun c1 => ?_)
  · replace h := (if_pos c1).symm.trans h
    refine g_run 3 (pc' := 228) (L' := [none, none, none, some (.long (y3)), none]) (S' := [.int ((lg_cmp y3 (-1000000)))]) (M' := gm g) rfl ?_
    refine g_if (0 ≤ (lg_cmp y3 (-1000000))) rfl (t := 236) rfl rfl (fun c2 => ?_) (fun c2 => ?_)
    · replace h := (if_pos c2).symm.trans h
      refine g_run 2 (pc' := 238) (L' := [none, none, none, some (.long (y3)), none]) (S' := [.int ((y3).toInt32)]) (M' := gm g) rfl ?_
      cases h
      exact g_ret rfl rfl rfl rfl
    · replace h := (if_neg c2).symm.trans h
      refine g_run 2 (pc' := 238) (L' := [none, none, none, some (.long (y3)), none]) (S' := [.int (-1000000)]) (M' := gm g) rfl ?_
      cases h
      exact g_ret rfl rfl rfl rfl
  · replace h := (if_neg c1).symm.trans h
    refine g_run 1 (pc' := 222) (L' := [none, none, none, some (.long (y3)), none]) (S' := [.int 1000000]) (M' := gm g) rfl ?_
    cases h
    exact g_ret rfl rfl rfl rfl
def f_X4_workOut_153 (s0 : Int64) (g : zSg) : Option (Int32 × zSg) := f_X4_workOut_212 (s0) g
set_option maxRecDepth 100000 in
set_option maxHeartbeats 4000000 in
theorem p_X4_workOut_153 {sc : zSc} {hp : zHp} {d : Nat} (hD : 0 ≤ d) (s0 : Int64) (g : zSg) (r : Int32 × zSg) (h : f_X4_workOut_153 s0 g = some r) : zG d sc hp (zcd zM_X4_workOut) 153 [none, none, none, none, none] [.long (s0)] (gm g) ((some (.int r.1)), gm r.2) := by
  unfold f_X4_workOut_153 at h
  refine g_run 2 (pc' := 212) (L' := [none, none, none, some (.long (s0)), none]) (S' := []) (M' := gm g) rfl ?_
  exact p_X4_workOut_212 hD (s0) g _ h
def f_X4_workOut_167 (s0 : Int64) (g : zSg) : Option (Int32 × zSg) := f_X4_workOut_212 (s0) g
set_option maxRecDepth 100000 in
set_option maxHeartbeats 4000000 in
theorem p_X4_workOut_167 {sc : zSc} {hp : zHp} {d : Nat} (hD : 0 ≤ d) (s0 : Int64) (g : zSg) (r : Int32 × zSg) (h : f_X4_workOut_167 s0 g = some r) : zG d sc hp (zcd zM_X4_workOut) 167 [none, none, none, none, none] [.long (s0)] (gm g) ((some (.int r.1)), gm r.2) := by
  unfold f_X4_workOut_167 at h
  refine g_run 2 (pc' := 212) (L' := [none, none, none, some (.long (s0)), none]) (S' := []) (M' := gm g) rfl ?_
  exact p_X4_workOut_212 hD (s0) g _ h
def f_X4_workOut_181 (s0 : Int64) (g : zSg) : Option (Int32 × zSg) := f_X4_workOut_212 (s0) g
set_option maxRecDepth 100000 in
set_option maxHeartbeats 4000000 in
theorem p_X4_workOut_181 {sc : zSc} {hp : zHp} {d : Nat} (hD : 0 ≤ d) (s0 : Int64) (g : zSg) (r : Int32 × zSg) (h : f_X4_workOut_181 s0 g = some r) : zG d sc hp (zcd zM_X4_workOut) 181 [none, none, none, none, none] [.long (s0)] (gm g) ((some (.int r.1)), gm r.2) := by
  unfold f_X4_workOut_181 at h
  refine g_run 2 (pc' := 212) (L' := [none, none, none, some (.long (s0)), none]) (S' := []) (M' := gm g) rfl ?_
  exact p_X4_workOut_212 hD (s0) g _ h
def f_X4_workOut_195 (s0 : Int64) (g : zSg) : Option (Int32 × zSg) := f_X4_workOut_212 (s0) g
set_option maxRecDepth 100000 in
set_option maxHeartbeats 4000000 in
theorem p_X4_workOut_195 {sc : zSc} {hp : zHp} {d : Nat} (hD : 0 ≤ d) (s0 : Int64) (g : zSg) (r : Int32 × zSg) (h : f_X4_workOut_195 s0 g = some r) : zG d sc hp (zcd zM_X4_workOut) 195 [none, none, none, none, none] [.long (s0)] (gm g) ((some (.int r.1)), gm r.2) := by
  unfold f_X4_workOut_195 at h
  refine g_run 2 (pc' := 212) (L' := [none, none, none, some (.long (s0)), none]) (S' := []) (M' := gm g) rfl ?_
  exact p_X4_workOut_212 hD (s0) g _ h
def f_X4_workOut (x1 : Int32) (x2 : Int32) (x3 : Int32) (g : zSg) : Option (Int32 × zSg) := (if x1 = 38 then f_X4_workOut_212 (((x2 &&& x3)).toInt64) g else (if x1 = 39 then f_X4_workOut_212 (((x2 ||| x3)).toInt64) g else (if x1 = 40 then f_X4_workOut_212 (((x2 ||| x3)).toInt64) g else (if x1 = 41 then f_X4_workOut_212 (((x2 ||| x3)).toInt64) g else (if x1 = 42 then f_X4_workOut_212 ((x2).toInt64 * (x3).toInt64) g else (if x1 = 43 then f_X4_workOut_212 (((x2 + x3)).toInt64) g else (if x1 = 44 then f_X4_workOut_212 (((x2 ||| x3)).toInt64) g else (if x1 = 45 then f_X4_workOut_212 (((x2 - x3)).toInt64) g else (if x1 = 46 then f_X4_workOut_212 (((x2 ||| x3)).toInt64) g else (if x1 = 47 then (if ¬ x3 = 0 then (if x3 = 0 then none else f_X4_workOut_153 (((x2 / x3)).toInt64) g) else f_X4_workOut_153 (0) g) else (if x1 = 48 then f_X4_workOut_212 (((x2 ||| x3)).toInt64) g else (if x1 = 49 then f_X4_workOut_212 (((x2 ||| x3)).toInt64) g else (if x1 = 50 then f_X4_workOut_212 (((x2 ||| x3)).toInt64) g else (if x1 = 51 then f_X4_workOut_212 (((x2 ||| x3)).toInt64) g else (if x1 = 52 then f_X4_workOut_212 (((x2 ||| x3)).toInt64) g else (if x1 = 53 then f_X4_workOut_212 (((x2 ||| x3)).toInt64) g else (if x1 = 54 then f_X4_workOut_212 (((x2 ||| x3)).toInt64) g else (if x1 = 55 then f_X4_workOut_212 (((x2 ||| x3)).toInt64) g else (if x1 = 56 then f_X4_workOut_212 (((x2 ||| x3)).toInt64) g else (if x1 = 57 then f_X4_workOut_212 (((x2 ||| x3)).toInt64) g else (if x1 = 58 then f_X4_workOut_212 (((x2 ||| x3)).toInt64) g else (if x1 = 59 then f_X4_workOut_212 (((x2 ||| x3)).toInt64) g else (if x1 = 60 then (if x3 ≤ x2 then f_X4_workOut_181 (0) g else f_X4_workOut_181 (1) g) else (if x1 = 61 then (if ¬ x2 = x3 then f_X4_workOut_167 (0) g else f_X4_workOut_167 (1) g) else (if x1 = 62 then (if x2 ≤ x3 then f_X4_workOut_195 (0) g else f_X4_workOut_195 (1) g) else f_X4_workOut_212 (((x2 ||| x3)).toInt64) g)))))))))))))))))))))))))
set_option maxRecDepth 100000 in
set_option maxHeartbeats 4000000 in
theorem p_X4_workOut {sc : zSc} {hp : zHp} {x1 : Int32} {x2 : Int32} {x3 : Int32} {g : zSg} {r : Int32 × zSg} (h : f_X4_workOut x1 x2 x3 g = some r) : zRn sc hp 0 zM_X4_workOut [.int x1, .int x2, .int x3] (gm g) (some (.int r.1)) (gm r.2) := by
  intro d hD
  show zG _ sc hp (zcd zM_X4_workOut) 0 [some (.int x1), some (.int x2), some (.int x3), none, none] [] (gm g) _
  unfold f_X4_workOut at h
  refine g_run 1 (pc' := 1) (L' := [some (.int x1), some (.int x2), some (.int x3), none, none]) (S' := [.int x1]) (M' := gm g) rfl ?_
  by_cases c1 : x1 = 38
  · replace h := (if_pos c1).symm.trans h
    refine g_swc c1 rfl rfl rfl (pc' := 199) rfl ?_
    refine g_run 6 (pc' := 212) (L' := [some (.int x1), some (.int x2), some (.int x3), some (.long (((x2 &&& x3)).toInt64)), none]) (S' := []) (M' := gm g) rfl ?_
    refine g_forget (L' := [none, none, none, some (.long (((x2 &&& x3)).toInt64)), none]) (And.intro rfl True.intro) ?_
    exact p_X4_workOut_212 hD (((x2 &&& x3)).toInt64) g _ h
  replace h := (if_neg c1).symm.trans h
  by_cases c2 : x1 = 39
  · replace h := (if_pos c2).symm.trans h
    refine g_swc c2 rfl rfl rfl (pc' := 207) rfl ?_
    refine g_run 5 (pc' := 212) (L' := [some (.int x1), some (.int x2), some (.int x3), some (.long (((x2 ||| x3)).toInt64)), none]) (S' := []) (M' := gm g) rfl ?_
    refine g_forget (L' := [none, none, none, some (.long (((x2 ||| x3)).toInt64)), none]) (And.intro rfl True.intro) ?_
    exact p_X4_workOut_212 hD (((x2 ||| x3)).toInt64) g _ h
  replace h := (if_neg c2).symm.trans h
  by_cases c3 : x1 = 40
  · replace h := (if_pos c3).symm.trans h
    refine g_swc c3 rfl rfl rfl (pc' := 207) rfl ?_
    refine g_run 5 (pc' := 212) (L' := [some (.int x1), some (.int x2), some (.int x3), some (.long (((x2 ||| x3)).toInt64)), none]) (S' := []) (M' := gm g) rfl ?_
    refine g_forget (L' := [none, none, none, some (.long (((x2 ||| x3)).toInt64)), none]) (And.intro rfl True.intro) ?_
    exact p_X4_workOut_212 hD (((x2 ||| x3)).toInt64) g _ h
  replace h := (if_neg c3).symm.trans h
  by_cases c4 : x1 = 41
  · replace h := (if_pos c4).symm.trans h
    refine g_swc c4 rfl rfl rfl (pc' := 207) rfl ?_
    refine g_run 5 (pc' := 212) (L' := [some (.int x1), some (.int x2), some (.int x3), some (.long (((x2 ||| x3)).toInt64)), none]) (S' := []) (M' := gm g) rfl ?_
    refine g_forget (L' := [none, none, none, some (.long (((x2 ||| x3)).toInt64)), none]) (And.intro rfl True.intro) ?_
    exact p_X4_workOut_212 hD (((x2 ||| x3)).toInt64) g _ h
  replace h := (if_neg c4).symm.trans h
  by_cases c5 : x1 = 42
  · replace h := (if_pos c5).symm.trans h
    refine g_swc c5 rfl rfl rfl (pc' := 132) rfl ?_
    refine g_run 7 (pc' := 212) (L' := [some (.int x1), some (.int x2), some (.int x3), some (.long (((x2).toInt64 * (x3).toInt64))), none]) (S' := []) (M' := gm g) rfl ?_
    refine g_forget (L' := [none, none, none, some (.long (((x2).toInt64 * (x3).toInt64))), none]) (And.intro rfl True.intro) ?_
    exact p_X4_workOut_212 hD ((x2).toInt64 * (x3).toInt64) g _ h
  replace h := (if_neg c5).symm.trans h
  by_cases c6 : x1 = 43
  · replace h := (if_pos c6).symm.trans h
    refine g_swc c6 rfl rfl rfl (pc' := 116) rfl ?_
    refine g_run 6 (pc' := 212) (L' := [some (.int x1), some (.int x2), some (.int x3), some (.long (((x2 + x3)).toInt64)), none]) (S' := []) (M' := gm g) rfl ?_
    refine g_forget (L' := [none, none, none, some (.long (((x2 + x3)).toInt64)), none]) (And.intro rfl True.intro) ?_
    exact p_X4_workOut_212 hD (((x2 + x3)).toInt64) g _ h
  replace h := (if_neg c6).symm.trans h
  by_cases c7 : x1 = 44
  · replace h := (if_pos c7).symm.trans h
    refine g_swc c7 rfl rfl rfl (pc' := 207) rfl ?_
    refine g_run 5 (pc' := 212) (L' := [some (.int x1), some (.int x2), some (.int x3), some (.long (((x2 ||| x3)).toInt64)), none]) (S' := []) (M' := gm g) rfl ?_
    refine g_forget (L' := [none, none, none, some (.long (((x2 ||| x3)).toInt64)), none]) (And.intro rfl True.intro) ?_
    exact p_X4_workOut_212 hD (((x2 ||| x3)).toInt64) g _ h
  replace h := (if_neg c7).symm.trans h
  by_cases c8 : x1 = 45
  · replace h := (if_pos c8).symm.trans h
    refine g_swc c8 rfl rfl rfl (pc' := 124) rfl ?_
    refine g_run 6 (pc' := 212) (L' := [some (.int x1), some (.int x2), some (.int x3), some (.long (((x2 - x3)).toInt64)), none]) (S' := []) (M' := gm g) rfl ?_
    refine g_forget (L' := [none, none, none, some (.long (((x2 - x3)).toInt64)), none]) (And.intro rfl True.intro) ?_
    exact p_X4_workOut_212 hD (((x2 - x3)).toInt64) g _ h
  replace h := (if_neg c8).symm.trans h
  by_cases c9 : x1 = 46
  · replace h := (if_pos c9).symm.trans h
    refine g_swc c9 rfl rfl rfl (pc' := 207) rfl ?_
    refine g_run 5 (pc' := 212) (L' := [some (.int x1), some (.int x2), some (.int x3), some (.long (((x2 ||| x3)).toInt64)), none]) (S' := []) (M' := gm g) rfl ?_
    refine g_forget (L' := [none, none, none, some (.long (((x2 ||| x3)).toInt64)), none]) (And.intro rfl True.intro) ?_
    exact p_X4_workOut_212 hD (((x2 ||| x3)).toInt64) g _ h
  replace h := (if_neg c9).symm.trans h
  by_cases c10 : x1 = 47
  · replace h := (if_pos c10).symm.trans h
    refine g_swc c10 rfl rfl rfl (pc' := 141) rfl ?_
    refine g_run 1 (pc' := 142) (L' := [some (.int x1), some (.int x2), some (.int x3), none, none]) (S' := [.int x3]) (M' := gm g) rfl ?_
    refine g_if (¬ x3 = 0) rfl (t := 149) rfl rfl (fun c11 => ?_) (fun c11 => ?_)
    · replace h := (if_pos c11).symm.trans h
      refine g_run 2 (pc' := 151) (L' := [some (.int x1), some (.int x2), some (.int x3), none, none]) (S' := [.int x3, .int x2]) (M' := gm g) rfl ?_
      by_cases c12 : x3 = 0
      case pos => exact nomatch ((if_pos c12).symm.trans h)
      replace h := (if_neg c12).symm.trans h
      refine g_div rfl c12 ?_
      refine g_run 1 (pc' := 153) (L' := [some (.int x1), some (.int x2), some (.int x3), none, none]) (S' := [.long (((x2 / x3)).toInt64)]) (M' := gm g) rfl ?_
      refine g_forget (L' := [none, none, none, none, none]) True.intro ?_
      exact p_X4_workOut_153 hD (((x2 / x3)).toInt64) g _ h
    · replace h := (if_neg c11).symm.trans h
      refine g_run 2 (pc' := 153) (L' := [some (.int x1), some (.int x2), some (.int x3), none, none]) (S' := [.long (0)]) (M' := gm g) rfl ?_
      refine g_forget (L' := [none, none, none, none, none]) True.intro ?_
      exact p_X4_workOut_153 hD (0) g _ h
  replace h := (if_neg c10).symm.trans h
  by_cases c13 : x1 = 48
  · replace h := (if_pos c13).symm.trans h
    refine g_swc c13 rfl rfl rfl (pc' := 207) rfl ?_
    refine g_run 5 (pc' := 212) (L' := [some (.int x1), some (.int x2), some (.int x3), some (.long (((x2 ||| x3)).toInt64)), none]) (S' := []) (M' := gm g) rfl ?_
    refine g_forget (L' := [none, none, none, some (.long (((x2 ||| x3)).toInt64)), none]) (And.intro rfl True.intro) ?_
    exact p_X4_workOut_212 hD (((x2 ||| x3)).toInt64) g _ h
  replace h := (if_neg c13).symm.trans h
  by_cases c14 : x1 = 49
  · replace h := (if_pos c14).symm.trans h
    refine g_swc c14 rfl rfl rfl (pc' := 207) rfl ?_
    refine g_run 5 (pc' := 212) (L' := [some (.int x1), some (.int x2), some (.int x3), some (.long (((x2 ||| x3)).toInt64)), none]) (S' := []) (M' := gm g) rfl ?_
    refine g_forget (L' := [none, none, none, some (.long (((x2 ||| x3)).toInt64)), none]) (And.intro rfl True.intro) ?_
    exact p_X4_workOut_212 hD (((x2 ||| x3)).toInt64) g _ h
  replace h := (if_neg c14).symm.trans h
  by_cases c15 : x1 = 50
  · replace h := (if_pos c15).symm.trans h
    refine g_swc c15 rfl rfl rfl (pc' := 207) rfl ?_
    refine g_run 5 (pc' := 212) (L' := [some (.int x1), some (.int x2), some (.int x3), some (.long (((x2 ||| x3)).toInt64)), none]) (S' := []) (M' := gm g) rfl ?_
    refine g_forget (L' := [none, none, none, some (.long (((x2 ||| x3)).toInt64)), none]) (And.intro rfl True.intro) ?_
    exact p_X4_workOut_212 hD (((x2 ||| x3)).toInt64) g _ h
  replace h := (if_neg c15).symm.trans h
  by_cases c16 : x1 = 51
  · replace h := (if_pos c16).symm.trans h
    refine g_swc c16 rfl rfl rfl (pc' := 207) rfl ?_
    refine g_run 5 (pc' := 212) (L' := [some (.int x1), some (.int x2), some (.int x3), some (.long (((x2 ||| x3)).toInt64)), none]) (S' := []) (M' := gm g) rfl ?_
    refine g_forget (L' := [none, none, none, some (.long (((x2 ||| x3)).toInt64)), none]) (And.intro rfl True.intro) ?_
    exact p_X4_workOut_212 hD (((x2 ||| x3)).toInt64) g _ h
  replace h := (if_neg c16).symm.trans h
  by_cases c17 : x1 = 52
  · replace h := (if_pos c17).symm.trans h
    refine g_swc c17 rfl rfl rfl (pc' := 207) rfl ?_
    refine g_run 5 (pc' := 212) (L' := [some (.int x1), some (.int x2), some (.int x3), some (.long (((x2 ||| x3)).toInt64)), none]) (S' := []) (M' := gm g) rfl ?_
    refine g_forget (L' := [none, none, none, some (.long (((x2 ||| x3)).toInt64)), none]) (And.intro rfl True.intro) ?_
    exact p_X4_workOut_212 hD (((x2 ||| x3)).toInt64) g _ h
  replace h := (if_neg c17).symm.trans h
  by_cases c18 : x1 = 53
  · replace h := (if_pos c18).symm.trans h
    refine g_swc c18 rfl rfl rfl (pc' := 207) rfl ?_
    refine g_run 5 (pc' := 212) (L' := [some (.int x1), some (.int x2), some (.int x3), some (.long (((x2 ||| x3)).toInt64)), none]) (S' := []) (M' := gm g) rfl ?_
    refine g_forget (L' := [none, none, none, some (.long (((x2 ||| x3)).toInt64)), none]) (And.intro rfl True.intro) ?_
    exact p_X4_workOut_212 hD (((x2 ||| x3)).toInt64) g _ h
  replace h := (if_neg c18).symm.trans h
  by_cases c19 : x1 = 54
  · replace h := (if_pos c19).symm.trans h
    refine g_swc c19 rfl rfl rfl (pc' := 207) rfl ?_
    refine g_run 5 (pc' := 212) (L' := [some (.int x1), some (.int x2), some (.int x3), some (.long (((x2 ||| x3)).toInt64)), none]) (S' := []) (M' := gm g) rfl ?_
    refine g_forget (L' := [none, none, none, some (.long (((x2 ||| x3)).toInt64)), none]) (And.intro rfl True.intro) ?_
    exact p_X4_workOut_212 hD (((x2 ||| x3)).toInt64) g _ h
  replace h := (if_neg c19).symm.trans h
  by_cases c20 : x1 = 55
  · replace h := (if_pos c20).symm.trans h
    refine g_swc c20 rfl rfl rfl (pc' := 207) rfl ?_
    refine g_run 5 (pc' := 212) (L' := [some (.int x1), some (.int x2), some (.int x3), some (.long (((x2 ||| x3)).toInt64)), none]) (S' := []) (M' := gm g) rfl ?_
    refine g_forget (L' := [none, none, none, some (.long (((x2 ||| x3)).toInt64)), none]) (And.intro rfl True.intro) ?_
    exact p_X4_workOut_212 hD (((x2 ||| x3)).toInt64) g _ h
  replace h := (if_neg c20).symm.trans h
  by_cases c21 : x1 = 56
  · replace h := (if_pos c21).symm.trans h
    refine g_swc c21 rfl rfl rfl (pc' := 207) rfl ?_
    refine g_run 5 (pc' := 212) (L' := [some (.int x1), some (.int x2), some (.int x3), some (.long (((x2 ||| x3)).toInt64)), none]) (S' := []) (M' := gm g) rfl ?_
    refine g_forget (L' := [none, none, none, some (.long (((x2 ||| x3)).toInt64)), none]) (And.intro rfl True.intro) ?_
    exact p_X4_workOut_212 hD (((x2 ||| x3)).toInt64) g _ h
  replace h := (if_neg c21).symm.trans h
  by_cases c22 : x1 = 57
  · replace h := (if_pos c22).symm.trans h
    refine g_swc c22 rfl rfl rfl (pc' := 207) rfl ?_
    refine g_run 5 (pc' := 212) (L' := [some (.int x1), some (.int x2), some (.int x3), some (.long (((x2 ||| x3)).toInt64)), none]) (S' := []) (M' := gm g) rfl ?_
    refine g_forget (L' := [none, none, none, some (.long (((x2 ||| x3)).toInt64)), none]) (And.intro rfl True.intro) ?_
    exact p_X4_workOut_212 hD (((x2 ||| x3)).toInt64) g _ h
  replace h := (if_neg c22).symm.trans h
  by_cases c23 : x1 = 58
  · replace h := (if_pos c23).symm.trans h
    refine g_swc c23 rfl rfl rfl (pc' := 207) rfl ?_
    refine g_run 5 (pc' := 212) (L' := [some (.int x1), some (.int x2), some (.int x3), some (.long (((x2 ||| x3)).toInt64)), none]) (S' := []) (M' := gm g) rfl ?_
    refine g_forget (L' := [none, none, none, some (.long (((x2 ||| x3)).toInt64)), none]) (And.intro rfl True.intro) ?_
    exact p_X4_workOut_212 hD (((x2 ||| x3)).toInt64) g _ h
  replace h := (if_neg c23).symm.trans h
  by_cases c24 : x1 = 59
  · replace h := (if_pos c24).symm.trans h
    refine g_swc c24 rfl rfl rfl (pc' := 207) rfl ?_
    refine g_run 5 (pc' := 212) (L' := [some (.int x1), some (.int x2), some (.int x3), some (.long (((x2 ||| x3)).toInt64)), none]) (S' := []) (M' := gm g) rfl ?_
    refine g_forget (L' := [none, none, none, some (.long (((x2 ||| x3)).toInt64)), none]) (And.intro rfl True.intro) ?_
    exact p_X4_workOut_212 hD (((x2 ||| x3)).toInt64) g _ h
  replace h := (if_neg c24).symm.trans h
  by_cases c25 : x1 = 60
  · replace h := (if_pos c25).symm.trans h
    refine g_swc c25 rfl rfl rfl (pc' := 171) rfl ?_
    refine g_run 2 (pc' := 173) (L' := [some (.int x1), some (.int x2), some (.int x3), none, none]) (S' := [.int x3, .int x2]) (M' := gm g) rfl ?_
    refine g_icmp (x3 ≤ x2) rfl (t := 180) rfl rfl (fun c26 => ?_) (fun c26 => ?_)
    · replace h := (if_pos c26).symm.trans h
      refine g_run 1 (pc' := 181) (L' := [some (.int x1), some (.int x2), some (.int x3), none, none]) (S' := [.long (0)]) (M' := gm g) rfl ?_
      refine g_forget (L' := [none, none, none, none, none]) True.intro ?_
      exact p_X4_workOut_181 hD (0) g _ h
    · replace h := (if_neg c26).symm.trans h
      refine g_run 2 (pc' := 181) (L' := [some (.int x1), some (.int x2), some (.int x3), none, none]) (S' := [.long (1)]) (M' := gm g) rfl ?_
      refine g_forget (L' := [none, none, none, none, none]) True.intro ?_
      exact p_X4_workOut_181 hD (1) g _ h
  replace h := (if_neg c25).symm.trans h
  by_cases c27 : x1 = 61
  · replace h := (if_pos c27).symm.trans h
    refine g_swc c27 rfl rfl rfl (pc' := 157) rfl ?_
    refine g_run 2 (pc' := 159) (L' := [some (.int x1), some (.int x2), some (.int x3), none, none]) (S' := [.int x3, .int x2]) (M' := gm g) rfl ?_
    refine g_icmp (¬ x2 = x3) rfl (t := 166) rfl rfl (fun c28 => ?_) (fun c28 => ?_)
    · replace h := (if_pos c28).symm.trans h
      refine g_run 1 (pc' := 167) (L' := [some (.int x1), some (.int x2), some (.int x3), none, none]) (S' := [.long (0)]) (M' := gm g) rfl ?_
      refine g_forget (L' := [none, none, none, none, none]) True.intro ?_
      exact p_X4_workOut_167 hD (0) g _ h
    · replace h := (if_neg c28).symm.trans h
      refine g_run 2 (pc' := 167) (L' := [some (.int x1), some (.int x2), some (.int x3), none, none]) (S' := [.long (1)]) (M' := gm g) rfl ?_
      refine g_forget (L' := [none, none, none, none, none]) True.intro ?_
      exact p_X4_workOut_167 hD (1) g _ h
  replace h := (if_neg c27).symm.trans h
  by_cases c29 : x1 = 62
  · replace h := (if_pos c29).symm.trans h
    refine g_swc c29 rfl rfl rfl (pc' := 185) rfl ?_
    refine g_run 2 (pc' := 187) (L' := [some (.int x1), some (.int x2), some (.int x3), none, none]) (S' := [.int x3, .int x2]) (M' := gm g) rfl ?_
    refine g_icmp (x2 ≤ x3) rfl (t := 194) rfl rfl (fun c30 => ?_) (fun c30 => ?_)
    · replace h := (if_pos c30).symm.trans h
      refine g_run 1 (pc' := 195) (L' := [some (.int x1), some (.int x2), some (.int x3), none, none]) (S' := [.long (0)]) (M' := gm g) rfl ?_
      refine g_forget (L' := [none, none, none, none, none]) True.intro ?_
      exact p_X4_workOut_195 hD (0) g _ h
    · replace h := (if_neg c30).symm.trans h
      refine g_run 2 (pc' := 195) (L' := [some (.int x1), some (.int x2), some (.int x3), none, none]) (S' := [.long (1)]) (M' := gm g) rfl ?_
      refine g_forget (L' := [none, none, none, none, none]) True.intro ?_
      exact p_X4_workOut_195 hD (1) g _ h
  replace h := (if_neg c29).symm.trans h
  have hsw : (x1).toInt < 38 ∨ 62 < (x1).toInt := by
    have nc1 := lv_neT c1 (a := 38) rfl
    have nc2 := lv_neT c2 (a := 39) rfl
    have nc3 := lv_neT c3 (a := 40) rfl
    have nc4 := lv_neT c4 (a := 41) rfl
    have nc5 := lv_neT c5 (a := 42) rfl
    have nc6 := lv_neT c6 (a := 43) rfl
    have nc7 := lv_neT c7 (a := 44) rfl
    have nc8 := lv_neT c8 (a := 45) rfl
    have nc9 := lv_neT c9 (a := 46) rfl
    have nc10 := lv_neT c10 (a := 47) rfl
    have nc13 := lv_neT c13 (a := 48) rfl
    have nc14 := lv_neT c14 (a := 49) rfl
    have nc15 := lv_neT c15 (a := 50) rfl
    have nc16 := lv_neT c16 (a := 51) rfl
    have nc17 := lv_neT c17 (a := 52) rfl
    have nc18 := lv_neT c18 (a := 53) rfl
    have nc19 := lv_neT c19 (a := 54) rfl
    have nc20 := lv_neT c20 (a := 55) rfl
    have nc21 := lv_neT c21 (a := 56) rfl
    have nc22 := lv_neT c22 (a := 57) rfl
    have nc23 := lv_neT c23 (a := 58) rfl
    have nc24 := lv_neT c24 (a := 59) rfl
    have nc25 := lv_neT c25 (a := 60) rfl
    have nc27 := lv_neT c27 (a := 61) rfl
    have nc29 := lv_neT c29 (a := 62) rfl
    omega
  refine g_tsd rfl hsw (t := 207) rfl ?_
  refine g_run 5 (pc' := 212) (L' := [some (.int x1), some (.int x2), some (.int x3), some (.long (((x2 ||| x3)).toInt64)), none]) (S' := []) (M' := gm g) rfl ?_
  refine g_forget (L' := [none, none, none, some (.long (((x2 ||| x3)).toInt64)), none]) (And.intro rfl True.intro) ?_
  exact p_X4_workOut_212 hD (((x2 ||| x3)).toInt64) g _ h
def f_X4_worth_211 (a : Nat) (b1 : Nat) (k4 : Int32 → Int32 → zSg → Option (Int32 × zSg)) (y2 : Int32) (y3 : Int32) (g : zSg) : Option (Int32 × zSg) := k4 (y2) (y3 + 1) g
set_option maxRecDepth 100000 in
set_option maxHeartbeats 4000000 in
theorem p_X4_worth_211 {sc : zSc} {hp : zHp} {d : Nat} (hD : 17 ≤ d) (a : Nat) (b1 : Nat) (ha : (zK0 a).1 = 4) (hb1 : (zK0 b1).1 = 7) (k4 : Int32 → Int32 → zSg → Option (Int32 × zSg)) (hk4 : ∀ (y2 : Int32) (y3 : Int32) (g : zSg) (r : Int32 × zSg), k4 y2 y3 g = some r → zG d sc hp (zcd zM_X4_worth) 4 [some (.ref a), some (.ref b1), some (.int y2), some (.int y3), none] [] (gm g) ((some (.int r.1)), gm r.2)) (y2 : Int32) (y3 : Int32) (g : zSg) (r : Int32 × zSg) (h : f_X4_worth_211 a b1 k4 y2 y3 g = some r) : zG d sc hp (zcd zM_X4_worth) 211 [some (.ref a), some (.ref b1), some (.int y2), some (.int y3), none] [] (gm g) ((some (.int r.1)), gm r.2) := by
  obtain ⟨d, rfl⟩ : ∃ d', d = d' + 1 := ⟨d - 1, by omega⟩
  unfold f_X4_worth_211 at h
  refine g_run 2 (pc' := 4) (L' := [some (.ref a), some (.ref b1), some (.int y2), some (.int ((y3 + 1))), none]) (S' := []) (M' := gm g) rfl ?_
  exact hk4 (y2) (y3 + 1) g _ h
def f_X4_worth_126 (a : Nat) (b1 : Nat) (k4 : Int32 → Int32 → zSg → Option (Int32 × zSg)) (y2 : Int32) (y3 : Int32) (s0 : Int32) (s1 : Int32) (g : zSg) : Option (Int32 × zSg) := (zB (f_X7_set (a + 3) s1 s0 g) (fun v1 g2 => f_X4_worth_211 a b1 k4 (y2) (y3) g2))
set_option maxRecDepth 100000 in
set_option maxHeartbeats 4000000 in
theorem p_X4_worth_126 {sc : zSc} {hp : zHp} {d : Nat} (hD : 17 ≤ d) (a : Nat) (b1 : Nat) (ha : (zK0 a).1 = 4) (hb1 : (zK0 b1).1 = 7) (k4 : Int32 → Int32 → zSg → Option (Int32 × zSg)) (hk4 : ∀ (y2 : Int32) (y3 : Int32) (g : zSg) (r : Int32 × zSg), k4 y2 y3 g = some r → zG d sc hp (zcd zM_X4_worth) 4 [some (.ref a), some (.ref b1), some (.int y2), some (.int y3), none] [] (gm g) ((some (.int r.1)), gm r.2)) (y2 : Int32) (y3 : Int32) (s0 : Int32) (s1 : Int32) (g : zSg) (r : Int32 × zSg) (h : f_X4_worth_126 a b1 k4 y2 y3 s0 s1 g = some r) : zG d sc hp (zcd zM_X4_worth) 126 [some (.ref a), some (.ref b1), some (.int y2), some (.int y3), none] [.int s0, .int s1, .ref (a + 3)] (gm g) ((some (.int r.1)), gm r.2) := by
  obtain ⟨d, rfl⟩ : ∃ d', d = d' + 1 := ⟨d - 1, by omega⟩
  unfold f_X4_worth_126 at h
  obtain ⟨v1, g2, e3, h⟩ := zB_of h
  refine g_inv2 (kd := 1) (p_X7_set (a + 3) (zK0_l ha).2 e3) rfl rfl rfl (by decide) rfl (g_recv (a := a + 3) rfl (Nat.le_of_ble_eq_true rfl) (Nat.le_of_ble_eq_true rfl) (Nat.le_of_ble_eq_true rfl) (Nat.le_of_ble_eq_true rfl) rfl (zK0_l ha).2 (Nat.le_of_ble_eq_true rfl)) rfl rfl (by omega) (pc' := 129) rfl (S' := []) rfl ?_
  refine g_run 1 (pc' := 211) (L' := [some (.ref a), some (.ref b1), some (.int y2), some (.int y3), none]) (S' := []) (M' := gm g2) rfl ?_
  exact p_X4_worth_211 hD a b1 ha hb1 k4 hk4 (y2) (y3) g2 _ h
def f_X4_worth_83 (a : Nat) (b1 : Nat) (y2 : Int32) (g : zSg) : Option (Int32 × zSg) := (zB (f_X7_get (a + 3) (y2 - 1) g) (fun v1 g2 => some (v1, g2)))
set_option maxRecDepth 100000 in
set_option maxHeartbeats 4000000 in
theorem p_X4_worth_83 {sc : zSc} {hp : zHp} {d : Nat} (hD : 17 ≤ d) (a : Nat) (b1 : Nat) (ha : (zK0 a).1 = 4) (hb1 : (zK0 b1).1 = 7) (y2 : Int32) (g : zSg) (r : Int32 × zSg) (h : f_X4_worth_83 a b1 y2 g = some r) : zG d sc hp (zcd zM_X4_worth) 83 [some (.ref a), none, some (.int y2), none, none] [] (gm g) ((some (.int r.1)), gm r.2) := by
  obtain ⟨d, rfl⟩ : ∃ d', d = d' + 1 := ⟨d - 1, by omega⟩
  unfold f_X4_worth_83 at h
  refine g_run 1 (pc' := 84) (L' := [some (.ref a), none, some (.int y2), none, none]) (S' := [.ref a]) (M' := gm g) rfl ?_
  refine g_getf rfl (ci := 4) (k := 1) rfl ha (gfv_l1 ha) ?_
  refine g_run 3 (pc' := 90) (L' := [some (.ref a), none, some (.int y2), none, none]) (S' := [.int ((y2 - 1)), .ref (a + 3)]) (M' := gm g) rfl ?_
  obtain ⟨v1, g2, e3, h⟩ := zB_of h
  refine g_inv2 (kd := 1) (p_X7_get (a + 3) (zK0_l ha).2 e3) rfl rfl rfl (by decide) rfl (g_recv (a := a + 3) rfl (Nat.le_of_ble_eq_true rfl) (Nat.le_of_ble_eq_true rfl) (Nat.le_of_ble_eq_true rfl) (Nat.le_of_ble_eq_true rfl) rfl (zK0_l ha).2 (Nat.le_of_ble_eq_true rfl)) rfl rfl (by omega) (pc' := 93) rfl (S' := [.int v1]) rfl ?_
  cases h
  exact g_ret rfl rfl rfl rfl
def f_X4_worth_4 (a : Nat) (b1 : Nat) : Nat → Int32 → Int32 → zSg → Option (Int32 × zSg)
  | 0, _, _, _ => none
  | n + 1, y2, y3, g => (if (gI g (a) 2) ≤ y3 then some (0, g) else (zB (f_X7_get (a + 1) y3 g) (fun v2 g3 => (if v2 < 0 then (if v2 < (-6) then (if ¬ v2 = (-59) then (if ¬ v2 = (-33) then (if ¬ v2 = (-63) then (zB (f_X7_get (a + 3) ((y2 + (-1)) - 1) g3) (fun v10 g11 => (zB (f_X7_get (a + 3) (y2 + (-1)) g11) (fun v13 g14 => (zB (f_X4_workOut (-v2) v10 v13 g14) (fun v16 g17 => (zB (f_X7_set (a + 3) ((y2 + (-1)) - 1) v16 g17) (fun v19 g20 => f_X4_worth_211 a b1 (f_X4_worth_4 a b1 n) (y2 + (-1)) (y3) g20)))))))) else (zB (f_X7_get (a + 3) (y2 + (-1)) g3) (fun v22 g23 => (if ¬ v22 = 0 then f_X4_worth_211 a b1 (f_X4_worth_4 a b1 n) (y2 + (-1)) (y3 + 1) g23 else (zB (f_X7_get (a + 1) (y3 + 1) g23) (fun v26 g27 => f_X4_worth_211 a b1 (f_X4_worth_4 a b1 n) (y2 + (-1)) (imax (y3 + 1) (v26 - 1)) g27)))))) else (zB (f_X7_get (a + 3) (y2 - 1) g3) (fun v29 g30 => (if ¬ v29 = 0 then f_X4_worth_126 a b1 (f_X4_worth_4 a b1 n) (y2) (y3) (0) (y2 - 1) g30 else f_X4_worth_126 a b1 (f_X4_worth_4 a b1 n) (y2) (y3) (1) (y2 - 1) g30)))) else f_X4_worth_83 a b1 (y2) g3) else (zB (f_X7_get b1 ((-1) - v2) g3) (fun v33 g34 => (zB (f_X7_set (a + 3) y2 v33 g34) (fun v36 g37 => f_X4_worth_211 a b1 (f_X4_worth_4 a b1 n) (y2 + 1) (y3) g37))))) else (zB (f_X7_set (a + 3) y2 v2 g3) (fun v39 g40 => f_X4_worth_211 a b1 (f_X4_worth_4 a b1 n) (y2 + 1) (y3) g40))))))
set_option maxRecDepth 100000 in
set_option maxHeartbeats 4000000 in
theorem p_X4_worth_4 {sc : zSc} {hp : zHp} {d : Nat} (hD : 17 ≤ d) (a : Nat) (b1 : Nat) (ha : (zK0 a).1 = 4) (hb1 : (zK0 b1).1 = 7) : ∀ (n : Nat) (y2 : Int32) (y3 : Int32) (g : zSg) (r : Int32 × zSg), f_X4_worth_4 a b1 n y2 y3 g = some r → zG d sc hp (zcd zM_X4_worth) 4 [some (.ref a), some (.ref b1), some (.int y2), some (.int y3), none] [] (gm g) ((some (.int r.1)), gm r.2) := by
  obtain ⟨d, rfl⟩ : ∃ d', d = d' + 1 := ⟨d - 1, by omega⟩
  intro n
  induction n with
  | zero => intro y2 y3 g r h; cases h
  | succ n ih =>
    intro y2 y3 g r h
    unfold f_X4_worth_4 at h
    refine g_run 2 (pc' := 6) (L' := [some (.ref a), some (.ref b1), some (.int y2), some (.int y3), none]) (S' := [.ref a, .int y3]) (M' := gm g) rfl ?_
    refine g_getf rfl (ci := 4) (k := 2) rfl ha rfl ?_
    refine g_icmp ((gI g (a) 2) ≤ y3) rfl (t := 217) rfl rfl (fun c1 => ?_) (fun c1 => ?_)
    · replace h := (if_pos c1).symm.trans h
      refine g_run 1 (pc' := 218) (L' := [some (.ref a), some (.ref b1), some (.int y2), some (.int y3), none]) (S' := [.int 0]) (M' := gm g) rfl ?_
      cases h
      exact g_ret rfl rfl rfl rfl
    · replace h := (if_neg c1).symm.trans h
      refine g_run 1 (pc' := 13) (L' := [some (.ref a), some (.ref b1), some (.int y2), some (.int y3), none]) (S' := [.ref a]) (M' := gm g) rfl ?_
      refine g_getf rfl (ci := 4) (k := 0) rfl ha (gfv_l0 ha) ?_
      refine g_run 1 (pc' := 17) (L' := [some (.ref a), some (.ref b1), some (.int y2), some (.int y3), none]) (S' := [.int y3, .ref (a + 1)]) (M' := gm g) rfl ?_
      obtain ⟨v2, g3, e4, h⟩ := zB_of h
      refine g_inv2 (kd := 1) (p_X7_get (a + 1) (zK0_l ha).1 e4) rfl rfl rfl (by decide) rfl (g_recv (a := a + 1) rfl (Nat.le_of_ble_eq_true rfl) (Nat.le_of_ble_eq_true rfl) (Nat.le_of_ble_eq_true rfl) (Nat.le_of_ble_eq_true rfl) rfl (zK0_l ha).1 (Nat.le_of_ble_eq_true rfl)) rfl rfl (by omega) (pc' := 20) rfl (S' := [.int v2]) rfl ?_
      refine g_run 2 (pc' := 24) (L' := [some (.ref a), some (.ref b1), some (.int y2), some (.int y3), some (.int v2)]) (S' := [.int v2]) (M' := gm g3) rfl ?_
      refine g_if (v2 < 0) rfl (t := 43) rfl rfl (fun c5 => ?_) (fun c5 => ?_)
      · replace h := (if_pos c5).symm.trans h
        refine g_run 2 (pc' := 47) (L' := [some (.ref a), some (.ref b1), some (.int y2), some (.int y3), some (.int v2)]) (S' := [.float 2, .int v2]) (M' := gm g3) rfl ?_
        refine g_spec2 (kd := 1) rfl rfl rfl (by decide) rfl (jd := 1006) rfl (by decide) rfl (Or.inr (by omega)) (S' := [.int 6, .int v2]) (M' := gm g3) rfl rfl (pc' := 50) rfl ?_
        refine g_run 1 (pc' := 51) (L' := [some (.ref a), some (.ref b1), some (.int y2), some (.int y3), some (.int v2)]) (S' := [.int (-6), .int v2]) (M' := gm g3) rfl ?_
        refine g_icmp (v2 < (-6)) rfl (t := 76) rfl rfl (fun c6 => ?_) (fun c6 => ?_)
        · replace h := (if_pos c6).symm.trans h
          refine g_run 2 (pc' := 80) (L' := [some (.ref a), some (.ref b1), some (.int y2), some (.int y3), some (.int v2)]) (S' := [.int (-59), .int v2]) (M' := gm g3) rfl ?_
          refine g_icmp (¬ v2 = (-59)) rfl (t := 94) rfl rfl (fun c7 => ?_) (fun c7 => ?_)
          · replace h := (if_pos c7).symm.trans h
            refine g_run 2 (pc' := 98) (L' := [some (.ref a), some (.ref b1), some (.int y2), some (.int y3), some (.int v2)]) (S' := [.int (-33), .int v2]) (M' := gm g3) rfl ?_
            refine g_icmp (¬ v2 = (-33)) rfl (t := 132) rfl rfl (fun c8 => ?_) (fun c8 => ?_)
            · replace h := (if_pos c8).symm.trans h
              refine g_run 2 (pc' := 136) (L' := [some (.ref a), some (.ref b1), some (.int y2), some (.int y3), some (.int v2)]) (S' := [.int (-63), .int v2]) (M' := gm g3) rfl ?_
              refine g_icmp (¬ v2 = (-63)) rfl (t := 174) rfl rfl (fun c9 => ?_) (fun c9 => ?_)
              · replace h := (if_pos c9).symm.trans h
                refine g_run 2 (pc' := 178) (L' := [some (.ref a), some (.ref b1), some (.int ((y2 + (-1)))), some (.int y3), some (.int v2)]) (S' := [.ref a]) (M' := gm g3) rfl ?_
                refine g_getf rfl (ci := 4) (k := 1) rfl ha (gfv_l1 ha) ?_
                refine g_run 6 (pc' := 188) (L' := [some (.ref a), some (.ref b1), some (.int ((y2 + (-1)))), some (.int y3), some (.int v2)]) (S' := [.ref a, .int ((-v2)), .int (((y2 + (-1)) - 1)), .ref (a + 3)]) (M' := gm g3) rfl ?_
                refine g_getf rfl (ci := 4) (k := 1) rfl ha (gfv_l1 ha) ?_
                refine g_run 3 (pc' := 194) (L' := [some (.ref a), some (.ref b1), some (.int ((y2 + (-1)))), some (.int y3), some (.int v2)]) (S' := [.int (((y2 + (-1)) - 1)), .ref (a + 3), .int ((-v2)), .int (((y2 + (-1)) - 1)), .ref (a + 3)]) (M' := gm g3) rfl ?_
                obtain ⟨v10, g11, e12, h⟩ := zB_of h
                refine g_inv2 (kd := 1) (p_X7_get (a + 3) (zK0_l ha).2 e12) rfl rfl rfl (by decide) rfl (g_recv (a := a + 3) rfl (Nat.le_of_ble_eq_true rfl) (Nat.le_of_ble_eq_true rfl) (Nat.le_of_ble_eq_true rfl) (Nat.le_of_ble_eq_true rfl) rfl (zK0_l ha).2 (Nat.le_of_ble_eq_true rfl)) rfl rfl (by omega) (pc' := 197) rfl (S' := [.int v10, .int ((-v2)), .int (((y2 + (-1)) - 1)), .ref (a + 3)]) rfl ?_
                refine g_run 1 (pc' := 198) (L' := [some (.ref a), some (.ref b1), some (.int ((y2 + (-1)))), some (.int y3), some (.int v2)]) (S' := [.ref a, .int v10, .int ((-v2)), .int (((y2 + (-1)) - 1)), .ref (a + 3)]) (M' := gm g11) rfl ?_
                refine g_getf rfl (ci := 4) (k := 1) rfl ha (gfv_l1 ha) ?_
                refine g_run 1 (pc' := 202) (L' := [some (.ref a), some (.ref b1), some (.int ((y2 + (-1)))), some (.int y3), some (.int v2)]) (S' := [.int ((y2 + (-1))), .ref (a + 3), .int v10, .int ((-v2)), .int (((y2 + (-1)) - 1)), .ref (a + 3)]) (M' := gm g11) rfl ?_
                obtain ⟨v13, g14, e15, h⟩ := zB_of h
                refine g_inv2 (kd := 1) (p_X7_get (a + 3) (zK0_l ha).2 e15) rfl rfl rfl (by decide) rfl (g_recv (a := a + 3) rfl (Nat.le_of_ble_eq_true rfl) (Nat.le_of_ble_eq_true rfl) (Nat.le_of_ble_eq_true rfl) (Nat.le_of_ble_eq_true rfl) rfl (zK0_l ha).2 (Nat.le_of_ble_eq_true rfl)) rfl rfl (by omega) (pc' := 205) rfl (S' := [.int v13, .int v10, .int ((-v2)), .int (((y2 + (-1)) - 1)), .ref (a + 3)]) rfl ?_
                obtain ⟨v16, g17, e18, h⟩ := zB_of h
                refine g_inv2 (kd := 0) (p_X4_workOut  e18) rfl rfl rfl (by decide) rfl rfl rfl rfl (by omega) (pc' := 208) rfl (S' := [.int v16, .int (((y2 + (-1)) - 1)), .ref (a + 3)]) rfl ?_
                obtain ⟨v19, g20, e21, h⟩ := zB_of h
                refine g_inv2 (kd := 1) (p_X7_set (a + 3) (zK0_l ha).2 e21) rfl rfl rfl (by decide) rfl (g_recv (a := a + 3) rfl (Nat.le_of_ble_eq_true rfl) (Nat.le_of_ble_eq_true rfl) (Nat.le_of_ble_eq_true rfl) (Nat.le_of_ble_eq_true rfl) rfl (zK0_l ha).2 (Nat.le_of_ble_eq_true rfl)) rfl rfl (by omega) (pc' := 211) rfl (S' := []) rfl ?_
                refine g_forget (L' := [some (.ref a), some (.ref b1), some (.int ((y2 + (-1)))), some (.int y3), none]) (And.intro rfl (And.intro rfl (And.intro rfl (And.intro rfl True.intro)))) ?_
                exact p_X4_worth_211 hD a b1 ha hb1 (f_X4_worth_4 a b1 n) ih (y2 + (-1)) (y3) g20 _ h
              · replace h := (if_neg c9).symm.trans h
                refine g_run 3 (pc' := 146) (L' := [some (.ref a), some (.ref b1), some (.int ((y2 + (-1)))), some (.int ((y3 + 1))), some (.int v2)]) (S' := [.ref a]) (M' := gm g3) rfl ?_
                refine g_getf rfl (ci := 4) (k := 1) rfl ha (gfv_l1 ha) ?_
                refine g_run 1 (pc' := 150) (L' := [some (.ref a), some (.ref b1), some (.int ((y2 + (-1)))), some (.int ((y3 + 1))), some (.int v2)]) (S' := [.int ((y2 + (-1))), .ref (a + 3)]) (M' := gm g3) rfl ?_
                obtain ⟨v22, g23, e24, h⟩ := zB_of h
                refine g_inv2 (kd := 1) (p_X7_get (a + 3) (zK0_l ha).2 e24) rfl rfl rfl (by decide) rfl (g_recv (a := a + 3) rfl (Nat.le_of_ble_eq_true rfl) (Nat.le_of_ble_eq_true rfl) (Nat.le_of_ble_eq_true rfl) (Nat.le_of_ble_eq_true rfl) rfl (zK0_l ha).2 (Nat.le_of_ble_eq_true rfl)) rfl rfl (by omega) (pc' := 153) rfl (S' := [.int v22]) rfl ?_
                refine g_if (¬ v22 = 0) rfl (t := 211) rfl rfl (fun c25 => ?_) (fun c25 => ?_)
                · replace h := (if_pos c25).symm.trans h
                  refine g_forget (L' := [some (.ref a), some (.ref b1), some (.int ((y2 + (-1)))), some (.int ((y3 + 1))), none]) (And.intro rfl (And.intro rfl (And.intro rfl (And.intro rfl True.intro)))) ?_
                  exact p_X4_worth_211 hD a b1 ha hb1 (f_X4_worth_4 a b1 n) ih (y2 + (-1)) (y3 + 1) g23 _ h
                · replace h := (if_neg c25).symm.trans h
                  refine g_run 2 (pc' := 158) (L' := [some (.ref a), some (.ref b1), some (.int ((y2 + (-1)))), some (.int ((y3 + 1))), some (.int v2)]) (S' := [.ref a, .int ((y3 + 1))]) (M' := gm g23) rfl ?_
                  refine g_getf rfl (ci := 4) (k := 0) rfl ha (gfv_l0 ha) ?_
                  refine g_run 1 (pc' := 162) (L' := [some (.ref a), some (.ref b1), some (.int ((y2 + (-1)))), some (.int ((y3 + 1))), some (.int v2)]) (S' := [.int ((y3 + 1)), .ref (a + 1), .int ((y3 + 1))]) (M' := gm g23) rfl ?_
                  obtain ⟨v26, g27, e28, h⟩ := zB_of h
                  refine g_inv2 (kd := 1) (p_X7_get (a + 1) (zK0_l ha).1 e28) rfl rfl rfl (by decide) rfl (g_recv (a := a + 1) rfl (Nat.le_of_ble_eq_true rfl) (Nat.le_of_ble_eq_true rfl) (Nat.le_of_ble_eq_true rfl) (Nat.le_of_ble_eq_true rfl) rfl (zK0_l ha).1 (Nat.le_of_ble_eq_true rfl)) rfl rfl (by omega) (pc' := 165) rfl (S' := [.int v26, .int ((y3 + 1))]) rfl ?_
                  refine g_run 2 (pc' := 167) (L' := [some (.ref a), some (.ref b1), some (.int ((y2 + (-1)))), some (.int ((y3 + 1))), some (.int v2)]) (S' := [.int ((v26 - 1)), .int ((y3 + 1))]) (M' := gm g27) rfl ?_
                  refine g_spec2 (kd := 0) rfl rfl rfl (by decide) rfl (jd := 1002) rfl (by decide) rfl (Or.inl (by decide)) (S' := [.int ((imax (y3 + 1) (v26 - 1)))]) (M' := gm g27) rfl rfl (pc' := 170) rfl ?_
                  refine g_run 2 (pc' := 211) (L' := [some (.ref a), some (.ref b1), some (.int ((y2 + (-1)))), some (.int ((imax (y3 + 1) (v26 - 1)))), some (.int v2)]) (S' := []) (M' := gm g27) rfl ?_
                  refine g_forget (L' := [some (.ref a), some (.ref b1), some (.int ((y2 + (-1)))), some (.int ((imax (y3 + 1) (v26 - 1)))), none]) (And.intro rfl (And.intro rfl (And.intro rfl (And.intro rfl True.intro)))) ?_
                  exact p_X4_worth_211 hD a b1 ha hb1 (f_X4_worth_4 a b1 n) ih (y2 + (-1)) (imax (y3 + 1) (v26 - 1)) g27 _ h
            · replace h := (if_neg c8).symm.trans h
              refine g_run 1 (pc' := 102) (L' := [some (.ref a), some (.ref b1), some (.int y2), some (.int y3), some (.int v2)]) (S' := [.ref a]) (M' := gm g3) rfl ?_
              refine g_getf rfl (ci := 4) (k := 1) rfl ha (gfv_l1 ha) ?_
              refine g_run 4 (pc' := 109) (L' := [some (.ref a), some (.ref b1), some (.int y2), some (.int y3), some (.int v2)]) (S' := [.ref a, .int ((y2 - 1)), .ref (a + 3)]) (M' := gm g3) rfl ?_
              refine g_getf rfl (ci := 4) (k := 1) rfl ha (gfv_l1 ha) ?_
              refine g_run 3 (pc' := 115) (L' := [some (.ref a), some (.ref b1), some (.int y2), some (.int y3), some (.int v2)]) (S' := [.int ((y2 - 1)), .ref (a + 3), .int ((y2 - 1)), .ref (a + 3)]) (M' := gm g3) rfl ?_
              obtain ⟨v29, g30, e31, h⟩ := zB_of h
              refine g_inv2 (kd := 1) (p_X7_get (a + 3) (zK0_l ha).2 e31) rfl rfl rfl (by decide) rfl (g_recv (a := a + 3) rfl (Nat.le_of_ble_eq_true rfl) (Nat.le_of_ble_eq_true rfl) (Nat.le_of_ble_eq_true rfl) (Nat.le_of_ble_eq_true rfl) rfl (zK0_l ha).2 (Nat.le_of_ble_eq_true rfl)) rfl rfl (by omega) (pc' := 118) rfl (S' := [.int v29, .int ((y2 - 1)), .ref (a + 3)]) rfl ?_
              refine g_if (¬ v29 = 0) rfl (t := 125) rfl rfl (fun c32 => ?_) (fun c32 => ?_)
              · replace h := (if_pos c32).symm.trans h
                refine g_run 1 (pc' := 126) (L' := [some (.ref a), some (.ref b1), some (.int y2), some (.int y3), some (.int v2)]) (S' := [.int 0, .int ((y2 - 1)), .ref (a + 3)]) (M' := gm g30) rfl ?_
                refine g_forget (L' := [some (.ref a), some (.ref b1), some (.int y2), some (.int y3), none]) (And.intro rfl (And.intro rfl (And.intro rfl (And.intro rfl True.intro)))) ?_
                exact p_X4_worth_126 hD a b1 ha hb1 (f_X4_worth_4 a b1 n) ih (y2) (y3) (0) (y2 - 1) g30 _ h
              · replace h := (if_neg c32).symm.trans h
                refine g_run 2 (pc' := 126) (L' := [some (.ref a), some (.ref b1), some (.int y2), some (.int y3), some (.int v2)]) (S' := [.int 1, .int ((y2 - 1)), .ref (a + 3)]) (M' := gm g30) rfl ?_
                refine g_forget (L' := [some (.ref a), some (.ref b1), some (.int y2), some (.int y3), none]) (And.intro rfl (And.intro rfl (And.intro rfl (And.intro rfl True.intro)))) ?_
                exact p_X4_worth_126 hD a b1 ha hb1 (f_X4_worth_4 a b1 n) ih (y2) (y3) (1) (y2 - 1) g30 _ h
          · replace h := (if_neg c7).symm.trans h
            refine g_forget (L' := [some (.ref a), none, some (.int y2), none, none]) (And.intro rfl (And.intro rfl True.intro)) ?_
            exact p_X4_worth_83 hD a b1 ha hb1 (y2) g3 _ h
        · replace h := (if_neg c6).symm.trans h
          refine g_run 1 (pc' := 55) (L' := [some (.ref a), some (.ref b1), some (.int y2), some (.int y3), some (.int v2)]) (S' := [.ref a]) (M' := gm g3) rfl ?_
          refine g_getf rfl (ci := 4) (k := 1) rfl ha (gfv_l1 ha) ?_
          refine g_run 5 (pc' := 64) (L' := [some (.ref a), some (.ref b1), some (.int y2), some (.int y3), some (.int v2)]) (S' := [.int (((-1) - v2)), .ref b1, .int y2, .ref (a + 3)]) (M' := gm g3) rfl ?_
          obtain ⟨v33, g34, e35, h⟩ := zB_of h
          refine g_inv2 (kd := 1) (p_X7_get b1 hb1 e35) rfl rfl rfl (by decide) rfl (g_recv (a := b1) rfl (Nat.le_of_ble_eq_true rfl) (Nat.le_of_ble_eq_true rfl) (Nat.le_of_ble_eq_true rfl) (Nat.le_of_ble_eq_true rfl) rfl hb1 (Nat.le_of_ble_eq_true rfl)) rfl rfl (by omega) (pc' := 67) rfl (S' := [.int v33, .int y2, .ref (a + 3)]) rfl ?_
          obtain ⟨v36, g37, e38, h⟩ := zB_of h
          refine g_inv2 (kd := 1) (p_X7_set (a + 3) (zK0_l ha).2 e38) rfl rfl rfl (by decide) rfl (g_recv (a := a + 3) rfl (Nat.le_of_ble_eq_true rfl) (Nat.le_of_ble_eq_true rfl) (Nat.le_of_ble_eq_true rfl) (Nat.le_of_ble_eq_true rfl) rfl (zK0_l ha).2 (Nat.le_of_ble_eq_true rfl)) rfl rfl (by omega) (pc' := 70) rfl (S' := []) rfl ?_
          refine g_run 2 (pc' := 211) (L' := [some (.ref a), some (.ref b1), some (.int ((y2 + 1))), some (.int y3), some (.int v2)]) (S' := []) (M' := gm g37) rfl ?_
          refine g_forget (L' := [some (.ref a), some (.ref b1), some (.int ((y2 + 1))), some (.int y3), none]) (And.intro rfl (And.intro rfl (And.intro rfl (And.intro rfl True.intro)))) ?_
          exact p_X4_worth_211 hD a b1 ha hb1 (f_X4_worth_4 a b1 n) ih (y2 + 1) (y3) g37 _ h
      · replace h := (if_neg c5).symm.trans h
        refine g_run 1 (pc' := 28) (L' := [some (.ref a), some (.ref b1), some (.int y2), some (.int y3), some (.int v2)]) (S' := [.ref a]) (M' := gm g3) rfl ?_
        refine g_getf rfl (ci := 4) (k := 1) rfl ha (gfv_l1 ha) ?_
        refine g_run 2 (pc' := 34) (L' := [some (.ref a), some (.ref b1), some (.int y2), some (.int y3), some (.int v2)]) (S' := [.int v2, .int y2, .ref (a + 3)]) (M' := gm g3) rfl ?_
        obtain ⟨v39, g40, e41, h⟩ := zB_of h
        refine g_inv2 (kd := 1) (p_X7_set (a + 3) (zK0_l ha).2 e41) rfl rfl rfl (by decide) rfl (g_recv (a := a + 3) rfl (Nat.le_of_ble_eq_true rfl) (Nat.le_of_ble_eq_true rfl) (Nat.le_of_ble_eq_true rfl) (Nat.le_of_ble_eq_true rfl) rfl (zK0_l ha).2 (Nat.le_of_ble_eq_true rfl)) rfl rfl (by omega) (pc' := 37) rfl (S' := []) rfl ?_
        refine g_run 2 (pc' := 211) (L' := [some (.ref a), some (.ref b1), some (.int ((y2 + 1))), some (.int y3), some (.int v2)]) (S' := []) (M' := gm g40) rfl ?_
        refine g_forget (L' := [some (.ref a), some (.ref b1), some (.int ((y2 + 1))), some (.int y3), none]) (And.intro rfl (And.intro rfl (And.intro rfl (And.intro rfl True.intro)))) ?_
        exact p_X4_worth_211 hD a b1 ha hb1 (f_X4_worth_4 a b1 n) ih (y2 + 1) (y3) g40 _ h
def f_X4_worth (a : Nat) (b1 : Nat) (g : zSg) : Option (Int32 × zSg) := f_X4_worth_4 a b1 zFu (0) (0) g
set_option maxRecDepth 100000 in
set_option maxHeartbeats 4000000 in
theorem p_X4_worth {sc : zSc} {hp : zHp} (a : Nat) (b1 : Nat) (ha : (zK0 a).1 = 4) (hb1 : (zK0 b1).1 = 7) {g : zSg} {r : Int32 × zSg} (h : f_X4_worth a b1 g = some r) : zRn sc hp 17 zM_X4_worth [.ref a, .ref b1] (gm g) (some (.int r.1)) (gm r.2) := by
  intro d hD
  obtain ⟨d, rfl⟩ : ∃ d', d = d' + 1 := ⟨d - 1, by omega⟩
  show zG _ sc hp (zcd zM_X4_worth) 0 [some (.ref a), some (.ref b1), none, none, none] [] (gm g) _
  unfold f_X4_worth at h
  refine g_run 4 (pc' := 4) (L' := [some (.ref a), some (.ref b1), some (.int 0), some (.int 0), none]) (S' := []) (M' := gm g) rfl ?_
  exact p_X4_worth_4 hD a b1 ha hb1 zFu (0) (0) g _ h
def f_X10_strengthAt_132 (b1 : Nat) (y6 : Int32) (g : zSg) : Option (Int32 × zSg) := some ((imax 0 (imin 9 y6)), g)
set_option maxRecDepth 100000 in
set_option maxHeartbeats 4000000 in
theorem p_X10_strengthAt_132 {sc : zSc} {hp : zHp} {d : Nat} (hD : 18 ≤ d) (b1 : Nat) (hb1 : (zK0 b1).1 = 8) (y6 : Int32) (g : zSg) (r : Int32 × zSg) (h : f_X10_strengthAt_132 b1 y6 g = some r) : zG d sc hp (zcd zM_X10_strengthAt) 132 [none, none, none, none, none, none, some (.int y6)] [] (gm g) ((some (.int r.1)), gm r.2) := by
  obtain ⟨d, rfl⟩ : ∃ d', d = d' + 1 := ⟨d - 1, by omega⟩
  unfold f_X10_strengthAt_132 at h
  refine g_run 3 (pc' := 137) (L' := [none, none, none, none, none, none, some (.int y6)]) (S' := [.int y6, .int 9, .int 0]) (M' := gm g) rfl ?_
  refine g_spec2 (kd := 0) rfl rfl rfl (by decide) rfl (jd := 1001) rfl (by decide) rfl (Or.inl (by decide)) (S' := [.int ((imin 9 y6)), .int 0]) (M' := gm g) rfl rfl (pc' := 140) rfl ?_
  refine g_spec2 (kd := 0) rfl rfl rfl (by decide) rfl (jd := 1002) rfl (by decide) rfl (Or.inl (by decide)) (S' := [.int ((imax 0 (imin 9 y6)))]) (M' := gm g) rfl rfl (pc' := 143) rfl ?_
  cases h
  exact g_ret rfl rfl rfl rfl
def f_X10_strengthAt (b1 : Nat) (x2 : Int32) (x3 : Int32) (x4 : Int32) (g : zSg) : Option (Int32 × zSg) := (zB (f_X0_shed 3 x2 g) (fun v1 g2 => (zB (f_X0_away 3 v1 x3 (gI g2 (b1) 6) g2) (fun v4 g5 => (if ¬ v4 = (-1) then (zNu g5.2.2.2 (f_X10_strengthAt_132 b1 (x4 - v4) g5) (fun a8 => if (zK0 a8).1 = 4 then (zB (f_X7_set 424 0 x4 g5) (fun v11 g12 => (zB (f_X7_set 424 1 v4 g12) (fun v14 g15 => (zB (f_X7_get (b1 + 3) x2 g15) (fun v17 g18 => (zB (f_X7_set 424 2 v17 g18) (fun v20 g21 => (zB (f_X7_set 424 3 (gI g21 (b1) 6) g21) (fun v23 g24 => (zB (f_X7_set 424 4 (imod (gI g24 (b1) 9) 100) g24) (fun v26 g27 => (zB (f_X7_set 424 5 (gI g27 (b1) 7) g27) (fun v29 g30 => (zO g30.2.2.2 4 (fun a32 => (zB (f_X4_worth a32 424 g30) (fun v35 g36 => f_X10_strengthAt_132 b1 (v35) g36)))))))))))))))))) else none)) else some (0, g5))))))
set_option maxRecDepth 100000 in
set_option maxHeartbeats 4000000 in
theorem p_X10_strengthAt {sc : zSc} {hp : zHp} (b1 : Nat) (hb1 : (zK0 b1).1 = 8) {x2 : Int32} {x3 : Int32} {x4 : Int32} {g : zSg} {r : Int32 × zSg} (h : f_X10_strengthAt b1 x2 x3 x4 g = some r) : zRn sc hp 18 zM_X10_strengthAt [.ref 423, .ref b1, .int x2, .int x3, .int x4] (gm g) (some (.int r.1)) (gm r.2) := by
  intro d hD
  obtain ⟨d, rfl⟩ : ∃ d', d = d' + 1 := ⟨d - 1, by omega⟩
  show zG _ sc hp (zcd zM_X10_strengthAt) 0 [some (.ref 423), some (.ref b1), some (.int x2), some (.int x3), some (.int x4), none, none] [] (gm g) _
  unfold f_X10_strengthAt at h
  refine g_run 5 (pc' := 9) (L' := [some (.ref 423), some (.ref b1), some (.int x2), some (.int x3), some (.int x4), none, none]) (S' := [.int x2, .ref 3, .ref 3]) (M' := gm g) rfl ?_
  obtain ⟨v1, g2, e3, h⟩ := zB_of h
  refine g_inv2 (kd := 1) (p_X0_shed 3 rfl e3) rfl rfl rfl (by decide) rfl rfl rfl rfl (by omega) (pc' := 12) rfl (S' := [.int v1, .ref 3]) rfl ?_
  refine g_run 2 (pc' := 14) (L' := [some (.ref 423), some (.ref b1), some (.int x2), some (.int x3), some (.int x4), none, none]) (S' := [.ref b1, .int x3, .int v1, .ref 3]) (M' := gm g2) rfl ?_
  refine g_getf rfl (ci := 8) (k := 6) rfl hb1 rfl ?_
  obtain ⟨v4, g5, e6, h⟩ := zB_of h
  refine g_inv2 (kd := 1) (p_X0_away 3 rfl e6) rfl rfl rfl (by decide) rfl rfl rfl rfl (by omega) (pc' := 20) rfl (S' := [.int v4]) rfl ?_
  refine g_run 3 (pc' := 25) (L' := [some (.ref 423), some (.ref b1), some (.int x2), some (.int x3), some (.int x4), some (.int v4), none]) (S' := [.int (-1), .int v4]) (M' := gm g5) rfl ?_
  refine g_icmp (¬ v4 = (-1)) rfl (t := 30) rfl rfl (fun c7 => ?_) (fun c7 => ?_)
  · replace h := (if_pos c7).symm.trans h
    refine g_run 6 (pc' := 41) (L' := [some (.ref 423), some (.ref b1), some (.int x2), some (.int x3), some (.int x4), some (.int v4), some (.int ((x4 - v4)))]) (S' := [zrv (g5.2.2.2)]) (M' := gm g5) rfl ?_
    rcases q9 : g5.2.2.2 with _ | a8
    · try rw [q9] at h
      try rw [q9]
      show zG _ _ _ _ 41 [some (.ref 423), some (.ref b1), some (.int x2), some (.int x3), some (.int x4), some (.int v4), some (.int ((x4 - v4)))] [.null] (gm g5) _
      refine g_run 1 (pc' := 132) (L' := [some (.ref 423), some (.ref b1), some (.int x2), some (.int x3), some (.int x4), some (.int v4), some (.int ((x4 - v4)))]) (S' := []) (M' := gm g5) rfl ?_
      refine g_forget (L' := [none, none, none, none, none, none, some (.int ((x4 - v4)))]) (And.intro rfl True.intro) ?_
      exact p_X10_strengthAt_132 hD b1 hb1 (x4 - v4) g5 _ h
    · try rw [q9] at h
      try rw [q9]
      by_cases h10 : (zK0 a8).1 = 4
      case neg => exact nomatch ((if_neg h10).symm.trans h)
      replace h := (if_pos h10).symm.trans h
      show zG _ _ _ _ 41 [some (.ref 423), some (.ref b1), some (.int x2), some (.int x3), some (.int x4), some (.int v4), some (.int ((x4 - v4)))] [.ref a8] (gm g5) _
      refine g_run 1 (pc' := 44) (L' := [some (.ref 423), some (.ref b1), some (.int x2), some (.int x3), some (.int x4), some (.int v4), some (.int ((x4 - v4)))]) (S' := []) (M' := gm g5) rfl ?_
      refine g_run 4 (pc' := 51) (L' := [some (.ref 423), some (.ref b1), some (.int x2), some (.int x3), some (.int x4), some (.int v4), some (.int ((x4 - v4)))]) (S' := [.int x4, .int 0, .ref 424]) (M' := gm g5) rfl ?_
      obtain ⟨v11, g12, e13, h⟩ := zB_of h
      refine g_inv2 (kd := 1) (p_X7_set 424 rfl e13) rfl rfl rfl (by decide) rfl rfl rfl rfl (by omega) (pc' := 54) rfl (S' := []) rfl ?_
      refine g_run 4 (pc' := 61) (L' := [some (.ref 423), some (.ref b1), some (.int x2), some (.int x3), some (.int x4), some (.int v4), some (.int ((x4 - v4)))]) (S' := [.int v4, .int 1, .ref 424]) (M' := gm g12) rfl ?_
      obtain ⟨v14, g15, e16, h⟩ := zB_of h
      refine g_inv2 (kd := 1) (p_X7_set 424 rfl e16) rfl rfl rfl (by decide) rfl rfl rfl rfl (by omega) (pc' := 64) rfl (S' := []) rfl ?_
      refine g_run 4 (pc' := 70) (L' := [some (.ref 423), some (.ref b1), some (.int x2), some (.int x3), some (.int x4), some (.int v4), some (.int ((x4 - v4)))]) (S' := [.ref b1, .int 2, .ref 424]) (M' := gm g15) rfl ?_
      refine g_getf rfl (ci := 8) (k := 1) rfl hb1 (gfv_s1 hb1) ?_
      refine g_run 1 (pc' := 74) (L' := [some (.ref 423), some (.ref b1), some (.int x2), some (.int x3), some (.int x4), some (.int v4), some (.int ((x4 - v4)))]) (S' := [.int x2, .ref (b1 + 3), .int 2, .ref 424]) (M' := gm g15) rfl ?_
      obtain ⟨v17, g18, e19, h⟩ := zB_of h
      refine g_inv2 (kd := 1) (p_X7_get (b1 + 3) (zK0_s hb1).2.1 e19) rfl rfl rfl (by decide) rfl (g_recv (a := b1 + 3) rfl (Nat.le_of_ble_eq_true rfl) (Nat.le_of_ble_eq_true rfl) (Nat.le_of_ble_eq_true rfl) (Nat.le_of_ble_eq_true rfl) rfl (zK0_s hb1).2.1 (Nat.le_of_ble_eq_true rfl)) rfl rfl (by omega) (pc' := 77) rfl (S' := [.int v17, .int 2, .ref 424]) rfl ?_
      obtain ⟨v20, g21, e22, h⟩ := zB_of h
      refine g_inv2 (kd := 1) (p_X7_set 424 rfl e22) rfl rfl rfl (by decide) rfl rfl rfl rfl (by omega) (pc' := 80) rfl (S' := []) rfl ?_
      refine g_run 4 (pc' := 86) (L' := [some (.ref 423), some (.ref b1), some (.int x2), some (.int x3), some (.int x4), some (.int v4), some (.int ((x4 - v4)))]) (S' := [.ref b1, .int 3, .ref 424]) (M' := gm g21) rfl ?_
      refine g_getf rfl (ci := 8) (k := 6) rfl hb1 rfl ?_
      obtain ⟨v23, g24, e25, h⟩ := zB_of h
      refine g_inv2 (kd := 1) (p_X7_set 424 rfl e25) rfl rfl rfl (by decide) rfl rfl rfl rfl (by omega) (pc' := 92) rfl (S' := []) rfl ?_
      refine g_run 4 (pc' := 98) (L' := [some (.ref 423), some (.ref b1), some (.int x2), some (.int x3), some (.int x4), some (.int v4), some (.int ((x4 - v4)))]) (S' := [.ref b1, .int 4, .ref 424]) (M' := gm g24) rfl ?_
      refine g_getf rfl (ci := 8) (k := 9) rfl hb1 rfl ?_
      refine g_run 2 (pc' := 104) (L' := [some (.ref 423), some (.ref b1), some (.int x2), some (.int x3), some (.int x4), some (.int v4), some (.int ((x4 - v4)))]) (S' := [.int ((imod (gI g24 (b1) 9) 100)), .int 4, .ref 424]) (M' := gm g24) rfl ?_
      obtain ⟨v26, g27, e28, h⟩ := zB_of h
      refine g_inv2 (kd := 1) (p_X7_set 424 rfl e28) rfl rfl rfl (by decide) rfl rfl rfl rfl (by omega) (pc' := 107) rfl (S' := []) rfl ?_
      refine g_run 4 (pc' := 113) (L' := [some (.ref 423), some (.ref b1), some (.int x2), some (.int x3), some (.int x4), some (.int v4), some (.int ((x4 - v4)))]) (S' := [.ref b1, .int 5, .ref 424]) (M' := gm g27) rfl ?_
      refine g_getf rfl (ci := 8) (k := 7) rfl hb1 rfl ?_
      obtain ⟨v29, g30, e31, h⟩ := zB_of h
      refine g_inv2 (kd := 1) (p_X7_set 424 rfl e31) rfl rfl rfl (by decide) rfl rfl rfl rfl (by omega) (pc' := 119) rfl (S' := []) rfl ?_
      refine g_run 4 (pc' := 127) (L' := [some (.ref 423), some (.ref b1), some (.int x2), some (.int x3), some (.int x4), some (.int v4), some (.int ((x4 - v4)))]) (S' := [.ref 424, zrv (g30.2.2.2)]) (M' := gm g30) rfl ?_
      obtain ⟨a32, q33, h34, h⟩ := zO_of h
      try rw [q33]
      show zG _ _ _ _ 127 [some (.ref 423), some (.ref b1), some (.int x2), some (.int x3), some (.int x4), some (.int v4), some (.int ((x4 - v4)))] [.ref 424, .ref a32] (gm g30) _
      obtain ⟨v35, g36, e37, h⟩ := zB_of h
      refine g_inv2 (kd := 1) (p_X4_worth a32 424 h34 rfl e37) rfl rfl rfl (by decide) rfl (g_recv (a := a32) rfl (Nat.le_of_ble_eq_true rfl) (Nat.le_of_ble_eq_true rfl) (Nat.le_of_ble_eq_true rfl) (Nat.le_of_ble_eq_true rfl) rfl h34 (Nat.le_of_ble_eq_true rfl)) rfl rfl (by omega) (pc' := 130) rfl (S' := [.int v35]) rfl ?_
      refine g_run 1 (pc' := 132) (L' := [some (.ref 423), some (.ref b1), some (.int x2), some (.int x3), some (.int x4), some (.int v4), some (.int v35)]) (S' := []) (M' := gm g36) rfl ?_
      refine g_forget (L' := [none, none, none, none, none, none, some (.int v35)]) (And.intro rfl True.intro) ?_
      exact p_X10_strengthAt_132 hD b1 hb1 (v35) g36 _ h
  · replace h := (if_neg c7).symm.trans h
    refine g_run 1 (pc' := 29) (L' := [some (.ref 423), some (.ref b1), some (.int x2), some (.int x3), some (.int x4), some (.int v4), none]) (S' := [.int 0]) (M' := gm g5) rfl ?_
    cases h
    exact g_ret rfl rfl rfl rfl
def f_X8_pick_16 (b1 : Nat) (g : zSg) : Option (Option Nat × zSg) := some (none, g)
set_option maxRecDepth 100000 in
set_option maxHeartbeats 4000000 in
theorem p_X8_pick_16 {sc : zSc} {hp : zHp} {d : Nat} (hD : 0 ≤ d) (b1 : Nat) (hb1 : (zK0 b1).1 = 16) (g : zSg) (r : Option Nat × zSg) (h : f_X8_pick_16 b1 g = some r) : zG d sc hp (zcd zM_X8_pick) 16 [none, none] [] (gm g) ((some (zrv r.1)), gm r.2) := by
  unfold f_X8_pick_16 at h
  refine g_run 1 (pc' := 17) (L' := [none, none]) (S' := [.null]) (M' := gm g) rfl ?_
  cases h
  exact g_reto (v := none) rfl rfl
def f_X8_pick (b1 : Nat) (x2 : Int32) (g : zSg) : Option (Option Nat × zSg) := (if x2 < 0 then f_X8_pick_16 b1 g else (if (Int32.ofNat (zK0 (b1)).2) ≤ x2 then f_X8_pick_16 b1 g else (if zib x2 (zK0 (b1)).2 = true then some ((zR0 g.2.2.2 (b1) (ix x2)), g) else none)))
set_option maxRecDepth 100000 in
set_option maxHeartbeats 4000000 in
theorem p_X8_pick {sc : zSc} {hp : zHp} (b1 : Nat) (hb1 : (zK0 b1).1 = 16) {x2 : Int32} {g : zSg} {r : Option Nat × zSg} (h : f_X8_pick b1 x2 g = some r) : zRn sc hp 0 zM_X8_pick [.ref b1, .int x2] (gm g) (some (zrv r.1)) (gm r.2) := by
  intro d hD
  show zG _ sc hp (zcd zM_X8_pick) 0 [some (.ref b1), some (.int x2)] [] (gm g) _
  unfold f_X8_pick at h
  refine g_run 1 (pc' := 1) (L' := [some (.ref b1), some (.int x2)]) (S' := [.int x2]) (M' := gm g) rfl ?_
  refine g_if (x2 < 0) rfl (t := 16) rfl rfl (fun c1 => ?_) (fun c1 => ?_)
  · replace h := (if_pos c1).symm.trans h
    refine g_forget (L' := [none, none]) True.intro ?_
    exact p_X8_pick_16 hD b1 hb1 g _ h
  · replace h := (if_neg c1).symm.trans h
    refine g_run 2 (pc' := 6) (L' := [some (.ref b1), some (.int x2)]) (S' := [.ref b1, .int x2]) (M' := gm g) rfl ?_
    refine g_alen rfl (a := b1) (by rw [hb1]; decide) ?_
    refine g_icmp ((Int32.ofNat (zK0 (b1)).2) ≤ x2) rfl (t := 16) rfl rfl (fun c2 => ?_) (fun c2 => ?_)
    · replace h := (if_pos c2).symm.trans h
      refine g_forget (L' := [none, none]) True.intro ?_
      exact p_X8_pick_16 hD b1 hb1 g _ h
    · replace h := (if_neg c2).symm.trans h
      refine g_run 2 (pc' := 12) (L' := [some (.ref b1), some (.int x2)]) (S' := [.int x2, .ref b1]) (M' := gm g) rfl ?_
      by_cases c3 : zib x2 (zK0 (b1)).2 = true
      case neg => exact nomatch ((if_neg c3).symm.trans h)
      replace h := (if_pos c3).symm.trans h
      refine g_aald rfl (a := b1) (Or.inr hb1) c3 ?_
      refine g_run 1 (pc' := 17) (L' := [some (.ref b1), some (.int x2)]) (S' := [zrv ((zR0 g.2.2.2 (b1) (ix x2)))]) (M' := gm g) rfl ?_
      cases h
      exact g_reto (v := (zR0 g.2.2.2 (b1) (ix x2))) rfl rfl
def f_X7_become (a : Nat) (b1 : Nat) (g : zSg) : Option (Unit × zSg) := (if ¬ (0 : Int32) < 0 ∧ ¬ (0 : Int32) < 0 ∧ ¬ (imin (Int32.ofNat (zK0 (a + 1)).2) (Int32.ofNat (zK0 (b1 + 1)).2)) < 0 ∧ ix (0 : Int32) + ix (imin (Int32.ofNat (zK0 (a + 1)).2) (Int32.ofNat (zK0 (b1 + 1)).2)) ≤ (zK0 (b1 + 1)).2 ∧ ix (0 : Int32) + ix (imin (Int32.ofNat (zK0 (a + 1)).2) (Int32.ofNat (zK0 (b1 + 1)).2)) ≤ (zK0 (a + 1)).2 then some ((), (gsRow g (a + 1) (va_cpy (gI g (b1 + 1)) (gI g (a + 1)) (ix (0 : Int32)) (ix (0 : Int32)) (ix (imin (Int32.ofNat (zK0 (a + 1)).2) (Int32.ofNat (zK0 (b1 + 1)).2)))))) else none)
set_option maxRecDepth 100000 in
set_option maxHeartbeats 4000000 in
theorem p_X7_become {sc : zSc} {hp : zHp} (a : Nat) (b1 : Nat) (ha : (zK0 a).1 = 7) (hb1 : (zK0 b1).1 = 7) {g : zSg} {r : Unit × zSg} (h : f_X7_become a b1 g = some r) : zRn sc hp 1 zM_X7_become [.ref a, .ref b1] (gm g) none (gm r.2) := by
  intro d hD
  obtain ⟨d, rfl⟩ : ∃ d', d = d' + 1 := ⟨d - 1, by omega⟩
  show zG _ sc hp (zcd zM_X7_become) 0 [some (.ref a), some (.ref b1)] [] (gm g) _
  unfold f_X7_become at h
  refine g_run 1 (pc' := 1) (L' := [some (.ref a), some (.ref b1)]) (S' := [.ref b1]) (M' := gm g) rfl ?_
  refine g_getf rfl (ci := 7) (k := 0) rfl hb1 (gfv_r0 hb1) ?_
  refine g_run 2 (pc' := 6) (L' := [some (.ref a), some (.ref b1)]) (S' := [.ref a, .int 0, .ref (b1 + 1)]) (M' := gm g) rfl ?_
  refine g_getf rfl (ci := 7) (k := 0) rfl ha (gfv_r0 ha) ?_
  refine g_run 2 (pc' := 11) (L' := [some (.ref a), some (.ref b1)]) (S' := [.ref a, .int 0, .ref (a + 1), .int 0, .ref (b1 + 1)]) (M' := gm g) rfl ?_
  refine g_getf rfl (ci := 7) (k := 0) rfl ha (gfv_r0 ha) ?_
  refine g_alen rfl (a := a + 1) (by rw [(zK0_r ha)]; decide) ?_
  refine g_run 1 (pc' := 16) (L' := [some (.ref a), some (.ref b1)]) (S' := [.ref b1, .int ((Int32.ofNat (zK0 (a + 1)).2)), .int 0, .ref (a + 1), .int 0, .ref (b1 + 1)]) (M' := gm g) rfl ?_
  refine g_getf rfl (ci := 7) (k := 0) rfl hb1 (gfv_r0 hb1) ?_
  refine g_alen rfl (a := b1 + 1) (by rw [(zK0_r hb1)]; decide) ?_
  refine g_spec2 (kd := 0) rfl rfl rfl (by decide) rfl (jd := 1001) rfl (by decide) rfl (Or.inl (by decide)) (S' := [.int ((imin (Int32.ofNat (zK0 (a + 1)).2) (Int32.ofNat (zK0 (b1 + 1)).2))), .int 0, .ref (a + 1), .int 0, .ref (b1 + 1)]) (M' := gm g) rfl rfl (pc' := 23) rfl ?_
  by_cases c1 : ¬ (0 : Int32) < 0 ∧ ¬ (0 : Int32) < 0 ∧ ¬ (imin (Int32.ofNat (zK0 (a + 1)).2) (Int32.ofNat (zK0 (b1 + 1)).2)) < 0 ∧ ix (0 : Int32) + ix (imin (Int32.ofNat (zK0 (a + 1)).2) (Int32.ofNat (zK0 (b1 + 1)).2)) ≤ (zK0 (b1 + 1)).2 ∧ ix (0 : Int32) + ix (imin (Int32.ofNat (zK0 (a + 1)).2) (Int32.ofNat (zK0 (b1 + 1)).2)) ≤ (zK0 (a + 1)).2
  case neg => exact nomatch ((if_neg c1).symm.trans h)
  replace h := (if_pos c1).symm.trans h
  refine g_copy rfl rfl rfl rfl (Nat.le_of_ble_eq_true rfl) (a := b1 + 1) (a1 := a + 1) (zK0_r hb1) (zK0_r ha) c1 ?_
  cases h
  exact g_ret rfl rfl rfl rfl
def f_X8_become (a : Nat) (b1 : Nat) (g : zSg) : Option (Unit × zSg) := (zB (f_X7_become (a + 1) (b1 + 1) g) (fun v1 g2 => (zB (f_X7_become (a + 3) (b1 + 3) g2) (fun v4 g5 => (zB (f_X7_become (a + 5) (b1 + 5) g5) (fun v7 g8 => (zB (f_X7_become (a + 7) (b1 + 7) g8) (fun v10 g11 => some ((), (gsI (gsI (gsI (gsI (gsI (gsI (gsI g11 (a) 4 (gI g11 (b1) 4)) (a) 5 (gI (gsI g11 (a) 4 (gI g11 (b1) 4)) (b1) 5)) (a) 6 (gI (gsI (gsI g11 (a) 4 (gI g11 (b1) 4)) (a) 5 (gI (gsI g11 (a) 4 (gI g11 (b1) 4)) (b1) 5)) (b1) 6)) (a) 7 (gI (gsI (gsI (gsI g11 (a) 4 (gI g11 (b1) 4)) (a) 5 (gI (gsI g11 (a) 4 (gI g11 (b1) 4)) (b1) 5)) (a) 6 (gI (gsI (gsI g11 (a) 4 (gI g11 (b1) 4)) (a) 5 (gI (gsI g11 (a) 4 (gI g11 (b1) 4)) (b1) 5)) (b1) 6)) (b1) 7)) (a) 8 (gI (gsI (gsI (gsI (gsI g11 (a) 4 (gI g11 (b1) 4)) (a) 5 (gI (gsI g11 (a) 4 (gI g11 (b1) 4)) (b1) 5)) (a) 6 (gI (gsI (gsI g11 (a) 4 (gI g11 (b1) 4)) (a) 5 (gI (gsI g11 (a) 4 (gI g11 (b1) 4)) (b1) 5)) (b1) 6)) (a) 7 (gI (gsI (gsI (gsI g11 (a) 4 (gI g11 (b1) 4)) (a) 5 (gI (gsI g11 (a) 4 (gI g11 (b1) 4)) (b1) 5)) (a) 6 (gI (gsI (gsI g11 (a) 4 (gI g11 (b1) 4)) (a) 5 (gI (gsI g11 (a) 4 (gI g11 (b1) 4)) (b1) 5)) (b1) 6)) (b1) 7)) (b1) 8)) (a) 9 (gI (gsI (gsI (gsI (gsI (gsI g11 (a) 4 (gI g11 (b1) 4)) (a) 5 (gI (gsI g11 (a) 4 (gI g11 (b1) 4)) (b1) 5)) (a) 6 (gI (gsI (gsI g11 (a) 4 (gI g11 (b1) 4)) (a) 5 (gI (gsI g11 (a) 4 (gI g11 (b1) 4)) (b1) 5)) (b1) 6)) (a) 7 (gI (gsI (gsI (gsI g11 (a) 4 (gI g11 (b1) 4)) (a) 5 (gI (gsI g11 (a) 4 (gI g11 (b1) 4)) (b1) 5)) (a) 6 (gI (gsI (gsI g11 (a) 4 (gI g11 (b1) 4)) (a) 5 (gI (gsI g11 (a) 4 (gI g11 (b1) 4)) (b1) 5)) (b1) 6)) (b1) 7)) (a) 8 (gI (gsI (gsI (gsI (gsI g11 (a) 4 (gI g11 (b1) 4)) (a) 5 (gI (gsI g11 (a) 4 (gI g11 (b1) 4)) (b1) 5)) (a) 6 (gI (gsI (gsI g11 (a) 4 (gI g11 (b1) 4)) (a) 5 (gI (gsI g11 (a) 4 (gI g11 (b1) 4)) (b1) 5)) (b1) 6)) (a) 7 (gI (gsI (gsI (gsI g11 (a) 4 (gI g11 (b1) 4)) (a) 5 (gI (gsI g11 (a) 4 (gI g11 (b1) 4)) (b1) 5)) (a) 6 (gI (gsI (gsI g11 (a) 4 (gI g11 (b1) 4)) (a) 5 (gI (gsI g11 (a) 4 (gI g11 (b1) 4)) (b1) 5)) (b1) 6)) (b1) 7)) (b1) 8)) (b1) 9)) (a) 10 (gI (gsI (gsI (gsI (gsI (gsI (gsI g11 (a) 4 (gI g11 (b1) 4)) (a) 5 (gI (gsI g11 (a) 4 (gI g11 (b1) 4)) (b1) 5)) (a) 6 (gI (gsI (gsI g11 (a) 4 (gI g11 (b1) 4)) (a) 5 (gI (gsI g11 (a) 4 (gI g11 (b1) 4)) (b1) 5)) (b1) 6)) (a) 7 (gI (gsI (gsI (gsI g11 (a) 4 (gI g11 (b1) 4)) (a) 5 (gI (gsI g11 (a) 4 (gI g11 (b1) 4)) (b1) 5)) (a) 6 (gI (gsI (gsI g11 (a) 4 (gI g11 (b1) 4)) (a) 5 (gI (gsI g11 (a) 4 (gI g11 (b1) 4)) (b1) 5)) (b1) 6)) (b1) 7)) (a) 8 (gI (gsI (gsI (gsI (gsI g11 (a) 4 (gI g11 (b1) 4)) (a) 5 (gI (gsI g11 (a) 4 (gI g11 (b1) 4)) (b1) 5)) (a) 6 (gI (gsI (gsI g11 (a) 4 (gI g11 (b1) 4)) (a) 5 (gI (gsI g11 (a) 4 (gI g11 (b1) 4)) (b1) 5)) (b1) 6)) (a) 7 (gI (gsI (gsI (gsI g11 (a) 4 (gI g11 (b1) 4)) (a) 5 (gI (gsI g11 (a) 4 (gI g11 (b1) 4)) (b1) 5)) (a) 6 (gI (gsI (gsI g11 (a) 4 (gI g11 (b1) 4)) (a) 5 (gI (gsI g11 (a) 4 (gI g11 (b1) 4)) (b1) 5)) (b1) 6)) (b1) 7)) (b1) 8)) (a) 9 (gI (gsI (gsI (gsI (gsI (gsI g11 (a) 4 (gI g11 (b1) 4)) (a) 5 (gI (gsI g11 (a) 4 (gI g11 (b1) 4)) (b1) 5)) (a) 6 (gI (gsI (gsI g11 (a) 4 (gI g11 (b1) 4)) (a) 5 (gI (gsI g11 (a) 4 (gI g11 (b1) 4)) (b1) 5)) (b1) 6)) (a) 7 (gI (gsI (gsI (gsI g11 (a) 4 (gI g11 (b1) 4)) (a) 5 (gI (gsI g11 (a) 4 (gI g11 (b1) 4)) (b1) 5)) (a) 6 (gI (gsI (gsI g11 (a) 4 (gI g11 (b1) 4)) (a) 5 (gI (gsI g11 (a) 4 (gI g11 (b1) 4)) (b1) 5)) (b1) 6)) (b1) 7)) (a) 8 (gI (gsI (gsI (gsI (gsI g11 (a) 4 (gI g11 (b1) 4)) (a) 5 (gI (gsI g11 (a) 4 (gI g11 (b1) 4)) (b1) 5)) (a) 6 (gI (gsI (gsI g11 (a) 4 (gI g11 (b1) 4)) (a) 5 (gI (gsI g11 (a) 4 (gI g11 (b1) 4)) (b1) 5)) (b1) 6)) (a) 7 (gI (gsI (gsI (gsI g11 (a) 4 (gI g11 (b1) 4)) (a) 5 (gI (gsI g11 (a) 4 (gI g11 (b1) 4)) (b1) 5)) (a) 6 (gI (gsI (gsI g11 (a) 4 (gI g11 (b1) 4)) (a) 5 (gI (gsI g11 (a) 4 (gI g11 (b1) 4)) (b1) 5)) (b1) 6)) (b1) 7)) (b1) 8)) (b1) 9)) (b1) 10)))))))))))
set_option maxRecDepth 100000 in
set_option maxHeartbeats 4000000 in
theorem p_X8_become {sc : zSc} {hp : zHp} (a : Nat) (b1 : Nat) (ha : (zK0 a).1 = 8) (hb1 : (zK0 b1).1 = 8) {g : zSg} {r : Unit × zSg} (h : f_X8_become a b1 g = some r) : zRn sc hp 2 zM_X8_become [.ref a, .ref b1] (gm g) none (gm r.2) := by
  intro d hD
  obtain ⟨d, rfl⟩ : ∃ d', d = d' + 1 := ⟨d - 1, by omega⟩
  show zG _ sc hp (zcd zM_X8_become) 0 [some (.ref a), some (.ref b1)] [] (gm g) _
  unfold f_X8_become at h
  refine g_run 1 (pc' := 1) (L' := [some (.ref a), some (.ref b1)]) (S' := [.ref a]) (M' := gm g) rfl ?_
  refine g_getf rfl (ci := 8) (k := 0) rfl ha (gfv_s0 ha) ?_
  refine g_run 1 (pc' := 5) (L' := [some (.ref a), some (.ref b1)]) (S' := [.ref b1, .ref (a + 1)]) (M' := gm g) rfl ?_
  refine g_getf rfl (ci := 8) (k := 0) rfl hb1 (gfv_s0 hb1) ?_
  obtain ⟨v1, g2, e3, h⟩ := zB_of h
  refine g_inv2 (kd := 1) (p_X7_become (a + 1) (b1 + 1) (zK0_s ha).1 (zK0_s hb1).1 e3) rfl rfl rfl (by decide) rfl (g_recv (a := a + 1) rfl (Nat.le_of_ble_eq_true rfl) (Nat.le_of_ble_eq_true rfl) (Nat.le_of_ble_eq_true rfl) (Nat.le_of_ble_eq_true rfl) rfl (zK0_s ha).1 (Nat.le_of_ble_eq_true rfl)) rfl rfl (by omega) (pc' := 11) rfl (S' := []) rfl ?_
  refine g_run 1 (pc' := 12) (L' := [some (.ref a), some (.ref b1)]) (S' := [.ref a]) (M' := gm g2) rfl ?_
  refine g_getf rfl (ci := 8) (k := 1) rfl ha (gfv_s1 ha) ?_
  refine g_run 1 (pc' := 16) (L' := [some (.ref a), some (.ref b1)]) (S' := [.ref b1, .ref (a + 3)]) (M' := gm g2) rfl ?_
  refine g_getf rfl (ci := 8) (k := 1) rfl hb1 (gfv_s1 hb1) ?_
  obtain ⟨v4, g5, e6, h⟩ := zB_of h
  refine g_inv2 (kd := 1) (p_X7_become (a + 3) (b1 + 3) (zK0_s ha).2.1 (zK0_s hb1).2.1 e6) rfl rfl rfl (by decide) rfl (g_recv (a := a + 3) rfl (Nat.le_of_ble_eq_true rfl) (Nat.le_of_ble_eq_true rfl) (Nat.le_of_ble_eq_true rfl) (Nat.le_of_ble_eq_true rfl) rfl (zK0_s ha).2.1 (Nat.le_of_ble_eq_true rfl)) rfl rfl (by omega) (pc' := 22) rfl (S' := []) rfl ?_
  refine g_run 1 (pc' := 23) (L' := [some (.ref a), some (.ref b1)]) (S' := [.ref a]) (M' := gm g5) rfl ?_
  refine g_getf rfl (ci := 8) (k := 2) rfl ha (gfv_s2 ha) ?_
  refine g_run 1 (pc' := 27) (L' := [some (.ref a), some (.ref b1)]) (S' := [.ref b1, .ref (a + 5)]) (M' := gm g5) rfl ?_
  refine g_getf rfl (ci := 8) (k := 2) rfl hb1 (gfv_s2 hb1) ?_
  obtain ⟨v7, g8, e9, h⟩ := zB_of h
  refine g_inv2 (kd := 1) (p_X7_become (a + 5) (b1 + 5) (zK0_s ha).2.2.1 (zK0_s hb1).2.2.1 e9) rfl rfl rfl (by decide) rfl (g_recv (a := a + 5) rfl (Nat.le_of_ble_eq_true rfl) (Nat.le_of_ble_eq_true rfl) (Nat.le_of_ble_eq_true rfl) (Nat.le_of_ble_eq_true rfl) rfl (zK0_s ha).2.2.1 (Nat.le_of_ble_eq_true rfl)) rfl rfl (by omega) (pc' := 33) rfl (S' := []) rfl ?_
  refine g_run 1 (pc' := 34) (L' := [some (.ref a), some (.ref b1)]) (S' := [.ref a]) (M' := gm g8) rfl ?_
  refine g_getf rfl (ci := 8) (k := 3) rfl ha (gfv_s3 ha) ?_
  refine g_run 1 (pc' := 38) (L' := [some (.ref a), some (.ref b1)]) (S' := [.ref b1, .ref (a + 7)]) (M' := gm g8) rfl ?_
  refine g_getf rfl (ci := 8) (k := 3) rfl hb1 (gfv_s3 hb1) ?_
  obtain ⟨v10, g11, e12, h⟩ := zB_of h
  refine g_inv2 (kd := 1) (p_X7_become (a + 7) (b1 + 7) (zK0_s ha).2.2.2 (zK0_s hb1).2.2.2 e12) rfl rfl rfl (by decide) rfl (g_recv (a := a + 7) rfl (Nat.le_of_ble_eq_true rfl) (Nat.le_of_ble_eq_true rfl) (Nat.le_of_ble_eq_true rfl) (Nat.le_of_ble_eq_true rfl) rfl (zK0_s ha).2.2.2 (Nat.le_of_ble_eq_true rfl)) rfl rfl (by omega) (pc' := 44) rfl (S' := []) rfl ?_
  refine g_run 2 (pc' := 46) (L' := [some (.ref a), some (.ref b1)]) (S' := [.ref b1, .ref a]) (M' := gm g11) rfl ?_
  refine g_getf rfl (ci := 8) (k := 4) rfl hb1 rfl ?_
  refine g_putf rfl (ci := 8) (k := 4) rfl (a := a) ha rfl (g' := gsI g11 (a) 4 (gI g11 (b1) 4)) rfl ?_
  refine g_run 2 (pc' := 54) (L' := [some (.ref a), some (.ref b1)]) (S' := [.ref b1, .ref a]) (M' := gm (gsI g11 (a) 4 (gI g11 (b1) 4))) rfl ?_
  refine g_getf rfl (ci := 8) (k := 5) rfl hb1 rfl ?_
  refine g_putf rfl (ci := 8) (k := 5) rfl (a := a) ha rfl (g' := gsI (gsI g11 (a) 4 (gI g11 (b1) 4)) (a) 5 (gI (gsI g11 (a) 4 (gI g11 (b1) 4)) (b1) 5)) rfl ?_
  refine g_run 2 (pc' := 62) (L' := [some (.ref a), some (.ref b1)]) (S' := [.ref b1, .ref a]) (M' := gm (gsI (gsI g11 (a) 4 (gI g11 (b1) 4)) (a) 5 (gI (gsI g11 (a) 4 (gI g11 (b1) 4)) (b1) 5))) rfl ?_
  refine g_getf rfl (ci := 8) (k := 6) rfl hb1 rfl ?_
  refine g_putf rfl (ci := 8) (k := 6) rfl (a := a) ha rfl (g' := gsI (gsI (gsI g11 (a) 4 (gI g11 (b1) 4)) (a) 5 (gI (gsI g11 (a) 4 (gI g11 (b1) 4)) (b1) 5)) (a) 6 (gI (gsI (gsI g11 (a) 4 (gI g11 (b1) 4)) (a) 5 (gI (gsI g11 (a) 4 (gI g11 (b1) 4)) (b1) 5)) (b1) 6)) rfl ?_
  refine g_run 2 (pc' := 70) (L' := [some (.ref a), some (.ref b1)]) (S' := [.ref b1, .ref a]) (M' := gm (gsI (gsI (gsI g11 (a) 4 (gI g11 (b1) 4)) (a) 5 (gI (gsI g11 (a) 4 (gI g11 (b1) 4)) (b1) 5)) (a) 6 (gI (gsI (gsI g11 (a) 4 (gI g11 (b1) 4)) (a) 5 (gI (gsI g11 (a) 4 (gI g11 (b1) 4)) (b1) 5)) (b1) 6))) rfl ?_
  refine g_getf rfl (ci := 8) (k := 7) rfl hb1 rfl ?_
  refine g_putf rfl (ci := 8) (k := 7) rfl (a := a) ha rfl (g' := gsI (gsI (gsI (gsI g11 (a) 4 (gI g11 (b1) 4)) (a) 5 (gI (gsI g11 (a) 4 (gI g11 (b1) 4)) (b1) 5)) (a) 6 (gI (gsI (gsI g11 (a) 4 (gI g11 (b1) 4)) (a) 5 (gI (gsI g11 (a) 4 (gI g11 (b1) 4)) (b1) 5)) (b1) 6)) (a) 7 (gI (gsI (gsI (gsI g11 (a) 4 (gI g11 (b1) 4)) (a) 5 (gI (gsI g11 (a) 4 (gI g11 (b1) 4)) (b1) 5)) (a) 6 (gI (gsI (gsI g11 (a) 4 (gI g11 (b1) 4)) (a) 5 (gI (gsI g11 (a) 4 (gI g11 (b1) 4)) (b1) 5)) (b1) 6)) (b1) 7)) rfl ?_
  refine g_run 2 (pc' := 78) (L' := [some (.ref a), some (.ref b1)]) (S' := [.ref b1, .ref a]) (M' := gm (gsI (gsI (gsI (gsI g11 (a) 4 (gI g11 (b1) 4)) (a) 5 (gI (gsI g11 (a) 4 (gI g11 (b1) 4)) (b1) 5)) (a) 6 (gI (gsI (gsI g11 (a) 4 (gI g11 (b1) 4)) (a) 5 (gI (gsI g11 (a) 4 (gI g11 (b1) 4)) (b1) 5)) (b1) 6)) (a) 7 (gI (gsI (gsI (gsI g11 (a) 4 (gI g11 (b1) 4)) (a) 5 (gI (gsI g11 (a) 4 (gI g11 (b1) 4)) (b1) 5)) (a) 6 (gI (gsI (gsI g11 (a) 4 (gI g11 (b1) 4)) (a) 5 (gI (gsI g11 (a) 4 (gI g11 (b1) 4)) (b1) 5)) (b1) 6)) (b1) 7))) rfl ?_
  refine g_getf rfl (ci := 8) (k := 8) rfl hb1 rfl ?_
  refine g_putf rfl (ci := 8) (k := 8) rfl (a := a) ha rfl (g' := gsI (gsI (gsI (gsI (gsI g11 (a) 4 (gI g11 (b1) 4)) (a) 5 (gI (gsI g11 (a) 4 (gI g11 (b1) 4)) (b1) 5)) (a) 6 (gI (gsI (gsI g11 (a) 4 (gI g11 (b1) 4)) (a) 5 (gI (gsI g11 (a) 4 (gI g11 (b1) 4)) (b1) 5)) (b1) 6)) (a) 7 (gI (gsI (gsI (gsI g11 (a) 4 (gI g11 (b1) 4)) (a) 5 (gI (gsI g11 (a) 4 (gI g11 (b1) 4)) (b1) 5)) (a) 6 (gI (gsI (gsI g11 (a) 4 (gI g11 (b1) 4)) (a) 5 (gI (gsI g11 (a) 4 (gI g11 (b1) 4)) (b1) 5)) (b1) 6)) (b1) 7)) (a) 8 (gI (gsI (gsI (gsI (gsI g11 (a) 4 (gI g11 (b1) 4)) (a) 5 (gI (gsI g11 (a) 4 (gI g11 (b1) 4)) (b1) 5)) (a) 6 (gI (gsI (gsI g11 (a) 4 (gI g11 (b1) 4)) (a) 5 (gI (gsI g11 (a) 4 (gI g11 (b1) 4)) (b1) 5)) (b1) 6)) (a) 7 (gI (gsI (gsI (gsI g11 (a) 4 (gI g11 (b1) 4)) (a) 5 (gI (gsI g11 (a) 4 (gI g11 (b1) 4)) (b1) 5)) (a) 6 (gI (gsI (gsI g11 (a) 4 (gI g11 (b1) 4)) (a) 5 (gI (gsI g11 (a) 4 (gI g11 (b1) 4)) (b1) 5)) (b1) 6)) (b1) 7)) (b1) 8)) rfl ?_
  refine g_run 2 (pc' := 86) (L' := [some (.ref a), some (.ref b1)]) (S' := [.ref b1, .ref a]) (M' := gm (gsI (gsI (gsI (gsI (gsI g11 (a) 4 (gI g11 (b1) 4)) (a) 5 (gI (gsI g11 (a) 4 (gI g11 (b1) 4)) (b1) 5)) (a) 6 (gI (gsI (gsI g11 (a) 4 (gI g11 (b1) 4)) (a) 5 (gI (gsI g11 (a) 4 (gI g11 (b1) 4)) (b1) 5)) (b1) 6)) (a) 7 (gI (gsI (gsI (gsI g11 (a) 4 (gI g11 (b1) 4)) (a) 5 (gI (gsI g11 (a) 4 (gI g11 (b1) 4)) (b1) 5)) (a) 6 (gI (gsI (gsI g11 (a) 4 (gI g11 (b1) 4)) (a) 5 (gI (gsI g11 (a) 4 (gI g11 (b1) 4)) (b1) 5)) (b1) 6)) (b1) 7)) (a) 8 (gI (gsI (gsI (gsI (gsI g11 (a) 4 (gI g11 (b1) 4)) (a) 5 (gI (gsI g11 (a) 4 (gI g11 (b1) 4)) (b1) 5)) (a) 6 (gI (gsI (gsI g11 (a) 4 (gI g11 (b1) 4)) (a) 5 (gI (gsI g11 (a) 4 (gI g11 (b1) 4)) (b1) 5)) (b1) 6)) (a) 7 (gI (gsI (gsI (gsI g11 (a) 4 (gI g11 (b1) 4)) (a) 5 (gI (gsI g11 (a) 4 (gI g11 (b1) 4)) (b1) 5)) (a) 6 (gI (gsI (gsI g11 (a) 4 (gI g11 (b1) 4)) (a) 5 (gI (gsI g11 (a) 4 (gI g11 (b1) 4)) (b1) 5)) (b1) 6)) (b1) 7)) (b1) 8))) rfl ?_
  refine g_getf rfl (ci := 8) (k := 9) rfl hb1 rfl ?_
  refine g_putf rfl (ci := 8) (k := 9) rfl (a := a) ha rfl (g' := gsI (gsI (gsI (gsI (gsI (gsI g11 (a) 4 (gI g11 (b1) 4)) (a) 5 (gI (gsI g11 (a) 4 (gI g11 (b1) 4)) (b1) 5)) (a) 6 (gI (gsI (gsI g11 (a) 4 (gI g11 (b1) 4)) (a) 5 (gI (gsI g11 (a) 4 (gI g11 (b1) 4)) (b1) 5)) (b1) 6)) (a) 7 (gI (gsI (gsI (gsI g11 (a) 4 (gI g11 (b1) 4)) (a) 5 (gI (gsI g11 (a) 4 (gI g11 (b1) 4)) (b1) 5)) (a) 6 (gI (gsI (gsI g11 (a) 4 (gI g11 (b1) 4)) (a) 5 (gI (gsI g11 (a) 4 (gI g11 (b1) 4)) (b1) 5)) (b1) 6)) (b1) 7)) (a) 8 (gI (gsI (gsI (gsI (gsI g11 (a) 4 (gI g11 (b1) 4)) (a) 5 (gI (gsI g11 (a) 4 (gI g11 (b1) 4)) (b1) 5)) (a) 6 (gI (gsI (gsI g11 (a) 4 (gI g11 (b1) 4)) (a) 5 (gI (gsI g11 (a) 4 (gI g11 (b1) 4)) (b1) 5)) (b1) 6)) (a) 7 (gI (gsI (gsI (gsI g11 (a) 4 (gI g11 (b1) 4)) (a) 5 (gI (gsI g11 (a) 4 (gI g11 (b1) 4)) (b1) 5)) (a) 6 (gI (gsI (gsI g11 (a) 4 (gI g11 (b1) 4)) (a) 5 (gI (gsI g11 (a) 4 (gI g11 (b1) 4)) (b1) 5)) (b1) 6)) (b1) 7)) (b1) 8)) (a) 9 (gI (gsI (gsI (gsI (gsI (gsI g11 (a) 4 (gI g11 (b1) 4)) (a) 5 (gI (gsI g11 (a) 4 (gI g11 (b1) 4)) (b1) 5)) (a) 6 (gI (gsI (gsI g11 (a) 4 (gI g11 (b1) 4)) (a) 5 (gI (gsI g11 (a) 4 (gI g11 (b1) 4)) (b1) 5)) (b1) 6)) (a) 7 (gI (gsI (gsI (gsI g11 (a) 4 (gI g11 (b1) 4)) (a) 5 (gI (gsI g11 (a) 4 (gI g11 (b1) 4)) (b1) 5)) (a) 6 (gI (gsI (gsI g11 (a) 4 (gI g11 (b1) 4)) (a) 5 (gI (gsI g11 (a) 4 (gI g11 (b1) 4)) (b1) 5)) (b1) 6)) (b1) 7)) (a) 8 (gI (gsI (gsI (gsI (gsI g11 (a) 4 (gI g11 (b1) 4)) (a) 5 (gI (gsI g11 (a) 4 (gI g11 (b1) 4)) (b1) 5)) (a) 6 (gI (gsI (gsI g11 (a) 4 (gI g11 (b1) 4)) (a) 5 (gI (gsI g11 (a) 4 (gI g11 (b1) 4)) (b1) 5)) (b1) 6)) (a) 7 (gI (gsI (gsI (gsI g11 (a) 4 (gI g11 (b1) 4)) (a) 5 (gI (gsI g11 (a) 4 (gI g11 (b1) 4)) (b1) 5)) (a) 6 (gI (gsI (gsI g11 (a) 4 (gI g11 (b1) 4)) (a) 5 (gI (gsI g11 (a) 4 (gI g11 (b1) 4)) (b1) 5)) (b1) 6)) (b1) 7)) (b1) 8)) (b1) 9)) rfl ?_
  refine g_run 2 (pc' := 94) (L' := [some (.ref a), some (.ref b1)]) (S' := [.ref b1, .ref a]) (M' := gm (gsI (gsI (gsI (gsI (gsI (gsI g11 (a) 4 (gI g11 (b1) 4)) (a) 5 (gI (gsI g11 (a) 4 (gI g11 (b1) 4)) (b1) 5)) (a) 6 (gI (gsI (gsI g11 (a) 4 (gI g11 (b1) 4)) (a) 5 (gI (gsI g11 (a) 4 (gI g11 (b1) 4)) (b1) 5)) (b1) 6)) (a) 7 (gI (gsI (gsI (gsI g11 (a) 4 (gI g11 (b1) 4)) (a) 5 (gI (gsI g11 (a) 4 (gI g11 (b1) 4)) (b1) 5)) (a) 6 (gI (gsI (gsI g11 (a) 4 (gI g11 (b1) 4)) (a) 5 (gI (gsI g11 (a) 4 (gI g11 (b1) 4)) (b1) 5)) (b1) 6)) (b1) 7)) (a) 8 (gI (gsI (gsI (gsI (gsI g11 (a) 4 (gI g11 (b1) 4)) (a) 5 (gI (gsI g11 (a) 4 (gI g11 (b1) 4)) (b1) 5)) (a) 6 (gI (gsI (gsI g11 (a) 4 (gI g11 (b1) 4)) (a) 5 (gI (gsI g11 (a) 4 (gI g11 (b1) 4)) (b1) 5)) (b1) 6)) (a) 7 (gI (gsI (gsI (gsI g11 (a) 4 (gI g11 (b1) 4)) (a) 5 (gI (gsI g11 (a) 4 (gI g11 (b1) 4)) (b1) 5)) (a) 6 (gI (gsI (gsI g11 (a) 4 (gI g11 (b1) 4)) (a) 5 (gI (gsI g11 (a) 4 (gI g11 (b1) 4)) (b1) 5)) (b1) 6)) (b1) 7)) (b1) 8)) (a) 9 (gI (gsI (gsI (gsI (gsI (gsI g11 (a) 4 (gI g11 (b1) 4)) (a) 5 (gI (gsI g11 (a) 4 (gI g11 (b1) 4)) (b1) 5)) (a) 6 (gI (gsI (gsI g11 (a) 4 (gI g11 (b1) 4)) (a) 5 (gI (gsI g11 (a) 4 (gI g11 (b1) 4)) (b1) 5)) (b1) 6)) (a) 7 (gI (gsI (gsI (gsI g11 (a) 4 (gI g11 (b1) 4)) (a) 5 (gI (gsI g11 (a) 4 (gI g11 (b1) 4)) (b1) 5)) (a) 6 (gI (gsI (gsI g11 (a) 4 (gI g11 (b1) 4)) (a) 5 (gI (gsI g11 (a) 4 (gI g11 (b1) 4)) (b1) 5)) (b1) 6)) (b1) 7)) (a) 8 (gI (gsI (gsI (gsI (gsI g11 (a) 4 (gI g11 (b1) 4)) (a) 5 (gI (gsI g11 (a) 4 (gI g11 (b1) 4)) (b1) 5)) (a) 6 (gI (gsI (gsI g11 (a) 4 (gI g11 (b1) 4)) (a) 5 (gI (gsI g11 (a) 4 (gI g11 (b1) 4)) (b1) 5)) (b1) 6)) (a) 7 (gI (gsI (gsI (gsI g11 (a) 4 (gI g11 (b1) 4)) (a) 5 (gI (gsI g11 (a) 4 (gI g11 (b1) 4)) (b1) 5)) (a) 6 (gI (gsI (gsI g11 (a) 4 (gI g11 (b1) 4)) (a) 5 (gI (gsI g11 (a) 4 (gI g11 (b1) 4)) (b1) 5)) (b1) 6)) (b1) 7)) (b1) 8)) (b1) 9))) rfl ?_
  refine g_getf rfl (ci := 8) (k := 10) rfl hb1 rfl ?_
  refine g_putf rfl (ci := 8) (k := 10) rfl (a := a) ha rfl (g' := gsI (gsI (gsI (gsI (gsI (gsI (gsI g11 (a) 4 (gI g11 (b1) 4)) (a) 5 (gI (gsI g11 (a) 4 (gI g11 (b1) 4)) (b1) 5)) (a) 6 (gI (gsI (gsI g11 (a) 4 (gI g11 (b1) 4)) (a) 5 (gI (gsI g11 (a) 4 (gI g11 (b1) 4)) (b1) 5)) (b1) 6)) (a) 7 (gI (gsI (gsI (gsI g11 (a) 4 (gI g11 (b1) 4)) (a) 5 (gI (gsI g11 (a) 4 (gI g11 (b1) 4)) (b1) 5)) (a) 6 (gI (gsI (gsI g11 (a) 4 (gI g11 (b1) 4)) (a) 5 (gI (gsI g11 (a) 4 (gI g11 (b1) 4)) (b1) 5)) (b1) 6)) (b1) 7)) (a) 8 (gI (gsI (gsI (gsI (gsI g11 (a) 4 (gI g11 (b1) 4)) (a) 5 (gI (gsI g11 (a) 4 (gI g11 (b1) 4)) (b1) 5)) (a) 6 (gI (gsI (gsI g11 (a) 4 (gI g11 (b1) 4)) (a) 5 (gI (gsI g11 (a) 4 (gI g11 (b1) 4)) (b1) 5)) (b1) 6)) (a) 7 (gI (gsI (gsI (gsI g11 (a) 4 (gI g11 (b1) 4)) (a) 5 (gI (gsI g11 (a) 4 (gI g11 (b1) 4)) (b1) 5)) (a) 6 (gI (gsI (gsI g11 (a) 4 (gI g11 (b1) 4)) (a) 5 (gI (gsI g11 (a) 4 (gI g11 (b1) 4)) (b1) 5)) (b1) 6)) (b1) 7)) (b1) 8)) (a) 9 (gI (gsI (gsI (gsI (gsI (gsI g11 (a) 4 (gI g11 (b1) 4)) (a) 5 (gI (gsI g11 (a) 4 (gI g11 (b1) 4)) (b1) 5)) (a) 6 (gI (gsI (gsI g11 (a) 4 (gI g11 (b1) 4)) (a) 5 (gI (gsI g11 (a) 4 (gI g11 (b1) 4)) (b1) 5)) (b1) 6)) (a) 7 (gI (gsI (gsI (gsI g11 (a) 4 (gI g11 (b1) 4)) (a) 5 (gI (gsI g11 (a) 4 (gI g11 (b1) 4)) (b1) 5)) (a) 6 (gI (gsI (gsI g11 (a) 4 (gI g11 (b1) 4)) (a) 5 (gI (gsI g11 (a) 4 (gI g11 (b1) 4)) (b1) 5)) (b1) 6)) (b1) 7)) (a) 8 (gI (gsI (gsI (gsI (gsI g11 (a) 4 (gI g11 (b1) 4)) (a) 5 (gI (gsI g11 (a) 4 (gI g11 (b1) 4)) (b1) 5)) (a) 6 (gI (gsI (gsI g11 (a) 4 (gI g11 (b1) 4)) (a) 5 (gI (gsI g11 (a) 4 (gI g11 (b1) 4)) (b1) 5)) (b1) 6)) (a) 7 (gI (gsI (gsI (gsI g11 (a) 4 (gI g11 (b1) 4)) (a) 5 (gI (gsI g11 (a) 4 (gI g11 (b1) 4)) (b1) 5)) (a) 6 (gI (gsI (gsI g11 (a) 4 (gI g11 (b1) 4)) (a) 5 (gI (gsI g11 (a) 4 (gI g11 (b1) 4)) (b1) 5)) (b1) 6)) (b1) 7)) (b1) 8)) (b1) 9)) (a) 10 (gI (gsI (gsI (gsI (gsI (gsI (gsI g11 (a) 4 (gI g11 (b1) 4)) (a) 5 (gI (gsI g11 (a) 4 (gI g11 (b1) 4)) (b1) 5)) (a) 6 (gI (gsI (gsI g11 (a) 4 (gI g11 (b1) 4)) (a) 5 (gI (gsI g11 (a) 4 (gI g11 (b1) 4)) (b1) 5)) (b1) 6)) (a) 7 (gI (gsI (gsI (gsI g11 (a) 4 (gI g11 (b1) 4)) (a) 5 (gI (gsI g11 (a) 4 (gI g11 (b1) 4)) (b1) 5)) (a) 6 (gI (gsI (gsI g11 (a) 4 (gI g11 (b1) 4)) (a) 5 (gI (gsI g11 (a) 4 (gI g11 (b1) 4)) (b1) 5)) (b1) 6)) (b1) 7)) (a) 8 (gI (gsI (gsI (gsI (gsI g11 (a) 4 (gI g11 (b1) 4)) (a) 5 (gI (gsI g11 (a) 4 (gI g11 (b1) 4)) (b1) 5)) (a) 6 (gI (gsI (gsI g11 (a) 4 (gI g11 (b1) 4)) (a) 5 (gI (gsI g11 (a) 4 (gI g11 (b1) 4)) (b1) 5)) (b1) 6)) (a) 7 (gI (gsI (gsI (gsI g11 (a) 4 (gI g11 (b1) 4)) (a) 5 (gI (gsI g11 (a) 4 (gI g11 (b1) 4)) (b1) 5)) (a) 6 (gI (gsI (gsI g11 (a) 4 (gI g11 (b1) 4)) (a) 5 (gI (gsI g11 (a) 4 (gI g11 (b1) 4)) (b1) 5)) (b1) 6)) (b1) 7)) (b1) 8)) (a) 9 (gI (gsI (gsI (gsI (gsI (gsI g11 (a) 4 (gI g11 (b1) 4)) (a) 5 (gI (gsI g11 (a) 4 (gI g11 (b1) 4)) (b1) 5)) (a) 6 (gI (gsI (gsI g11 (a) 4 (gI g11 (b1) 4)) (a) 5 (gI (gsI g11 (a) 4 (gI g11 (b1) 4)) (b1) 5)) (b1) 6)) (a) 7 (gI (gsI (gsI (gsI g11 (a) 4 (gI g11 (b1) 4)) (a) 5 (gI (gsI g11 (a) 4 (gI g11 (b1) 4)) (b1) 5)) (a) 6 (gI (gsI (gsI g11 (a) 4 (gI g11 (b1) 4)) (a) 5 (gI (gsI g11 (a) 4 (gI g11 (b1) 4)) (b1) 5)) (b1) 6)) (b1) 7)) (a) 8 (gI (gsI (gsI (gsI (gsI g11 (a) 4 (gI g11 (b1) 4)) (a) 5 (gI (gsI g11 (a) 4 (gI g11 (b1) 4)) (b1) 5)) (a) 6 (gI (gsI (gsI g11 (a) 4 (gI g11 (b1) 4)) (a) 5 (gI (gsI g11 (a) 4 (gI g11 (b1) 4)) (b1) 5)) (b1) 6)) (a) 7 (gI (gsI (gsI (gsI g11 (a) 4 (gI g11 (b1) 4)) (a) 5 (gI (gsI g11 (a) 4 (gI g11 (b1) 4)) (b1) 5)) (a) 6 (gI (gsI (gsI g11 (a) 4 (gI g11 (b1) 4)) (a) 5 (gI (gsI g11 (a) 4 (gI g11 (b1) 4)) (b1) 5)) (b1) 6)) (b1) 7)) (b1) 8)) (b1) 9)) (b1) 10)) rfl ?_
  cases h
  exact g_ret rfl rfl rfl rfl
def f_X6_remember (b1 : Nat) (g : zSg) : Option (Unit × zSg) := (zB (f_X8_pick 49 (gI g 48 5) g) (fun v1 g2 => (zNu v1 (some ((), g2)) (fun a4 => if (zK0 a4).1 = 8 then (zB (f_X8_become a4 b1 g2) (fun v7 g8 => some ((), (gsI (gsI g8 48 5 (imod ((gI g8 48 5) + 1) 40)) 48 6 (imin 40 ((gI (gsI g8 48 5 (imod ((gI g8 48 5) + 1) 40)) 48 6) + 1)))))) else none))))
set_option maxRecDepth 100000 in
set_option maxHeartbeats 4000000 in
theorem p_X6_remember {sc : zSc} {hp : zHp} (b1 : Nat) (hb1 : (zK0 b1).1 = 8) {g : zSg} {r : Unit × zSg} (h : f_X6_remember b1 g = some r) : zRn sc hp 3 zM_X6_remember [.ref 48, .ref b1] (gm g) none (gm r.2) := by
  intro d hD
  obtain ⟨d, rfl⟩ : ∃ d', d = d' + 1 := ⟨d - 1, by omega⟩
  show zG _ sc hp (zcd zM_X6_remember) 0 [some (.ref 48), some (.ref b1), none] [] (gm g) _
  unfold f_X6_remember at h
  refine g_run 4 (pc' := 8) (L' := [some (.ref 48), some (.ref b1), none]) (S' := [.int ((gI g 48 5)), .ref 49]) (M' := gm g) rfl ?_
  obtain ⟨v1, g2, e3, h⟩ := zB_of h
  refine g_inv2 (kd := 0) (p_X8_pick 49 rfl e3) rfl rfl rfl (by decide) rfl rfl rfl rfl (by omega) (pc' := 11) rfl (S' := [zrv v1]) rfl ?_
  refine g_astoren (v := v1) rfl (Nat.le_of_ble_eq_true rfl) (L' := [some (.ref 48), some (.ref b1), some (zrv v1)]) rfl ?_
  refine g_aloadn (v := v1) rfl rfl ?_
  rcases v1 with _ | a4
  · show zG _ _ _ _ 13 [some (.ref 48), some (.ref b1), some (.null)] [.null] (gm g2) _
    refine g_run 1 (pc' := 16) (L' := [some (.ref 48), some (.ref b1), some (.null)]) (S' := []) (M' := gm g2) rfl ?_
    cases h
    exact g_ret rfl rfl rfl rfl
  · by_cases h6 : (zK0 a4).1 = 8
    case neg => exact nomatch ((if_neg h6).symm.trans h)
    replace h := (if_pos h6).symm.trans h
    show zG _ _ _ _ 13 [some (.ref 48), some (.ref b1), some (.ref a4)] [.ref a4] (gm g2) _
    refine g_run 1 (pc' := 17) (L' := [some (.ref 48), some (.ref b1), some (.ref a4)]) (S' := []) (M' := gm g2) rfl ?_
    refine g_run 2 (pc' := 19) (L' := [some (.ref 48), some (.ref b1), some (.ref a4)]) (S' := [.ref b1, .ref a4]) (M' := gm g2) rfl ?_
    obtain ⟨v7, g8, e9, h⟩ := zB_of h
    refine g_inv2 (kd := 1) (p_X8_become a4 b1 h6 hb1 e9) rfl rfl rfl (by decide) rfl (g_recv (a := a4) rfl (Nat.le_of_ble_eq_true rfl) (Nat.le_of_ble_eq_true rfl) (Nat.le_of_ble_eq_true rfl) (Nat.le_of_ble_eq_true rfl) rfl h6 (Nat.le_of_ble_eq_true rfl)) rfl rfl (by omega) (pc' := 22) rfl (S' := []) rfl ?_
    refine g_run 14 (pc' := 44) (L' := [some (.ref 48), some (.ref b1), some (.ref a4)]) (S' := [.int (((gI (gsI g8 48 5 (imod ((gI g8 48 5) + 1) 40)) 48 6) + 1)), .int 40, .ref 48]) (M' := gm (gsI g8 48 5 (imod ((gI g8 48 5) + 1) 40))) rfl ?_
    refine g_spec2 (kd := 0) rfl rfl rfl (by decide) rfl (jd := 1001) rfl (by decide) rfl (Or.inl (by decide)) (S' := [.int ((imin 40 ((gI (gsI g8 48 5 (imod ((gI g8 48 5) + 1) 40)) 48 6) + 1))), .ref 48]) (M' := gm (gsI g8 48 5 (imod ((gI g8 48 5) + 1) 40))) rfl rfl (pc' := 47) rfl ?_
    refine g_run 1 (pc' := 50) (L' := [some (.ref 48), some (.ref b1), some (.ref a4)]) (S' := []) (M' := gm (gsI (gsI g8 48 5 (imod ((gI g8 48 5) + 1) 40)) 48 6 (imin 40 ((gI (gsI g8 48 5 (imod ((gI g8 48 5) + 1) 40)) 48 6) + 1)))) rfl ?_
    cases h
    exact g_ret rfl rfl rfl rfl
def f_X12_beside_55 (y3 : Int32) (s0 : Int32) (s1 : Int32) (g : zSg) : Option (Int32 × zSg) := (zB (f_X12_in y3 0 ((gI g 540 0) - 1) g) (fun v1 g2 => (if v1 = 0 then some ((-1), g2) else (zB (f_X12_in (s1 + s0) 0 ((gI g2 540 1) - 1) g2) (fun v5 g6 => (if v5 = 0 then some ((-1), g6) else some ((((gI g6 540 0) * (s1 + s0)) + y3), g6)))))))
set_option maxRecDepth 100000 in
set_option maxHeartbeats 4000000 in
theorem p_X12_beside_55 {sc : zSc} {hp : zHp} {d : Nat} (hD : 1 ≤ d) (y3 : Int32) (s0 : Int32) (s1 : Int32) (g : zSg) (r : Int32 × zSg) (h : f_X12_beside_55 y3 s0 s1 g = some r) : zG d sc hp (zcd zM_X12_beside) 55 [some (.ref 526), none, none, some (.int y3), none] [.int s0, .int s1] (gm g) ((some (.int r.1)), gm r.2) := by
  obtain ⟨d, rfl⟩ : ∃ d', d = d' + 1 := ⟨d - 1, by omega⟩
  unfold f_X12_beside_55 at h
  refine g_run 10 (pc' := 68) (L' := [some (.ref 526), none, none, some (.int y3), some (.int ((s1 + s0)))]) (S' := [.int (((gI g 540 0) - 1)), .int 0, .int y3]) (M' := gm g) rfl ?_
  obtain ⟨v1, g2, e3, h⟩ := zB_of h
  refine g_inv2 (kd := 0) (p_X12_in  e3) rfl rfl rfl (by decide) rfl rfl rfl rfl (by omega) (pc' := 71) rfl (S' := [.int v1]) rfl ?_
  refine g_if (v1 = 0) rfl (t := 105) rfl rfl (fun c4 => ?_) (fun c4 => ?_)
  · replace h := (if_pos c4).symm.trans h
    refine g_run 1 (pc' := 106) (L' := [some (.ref 526), none, none, some (.int y3), some (.int ((s1 + s0)))]) (S' := [.int (-1)]) (M' := gm g2) rfl ?_
    cases h
    exact g_ret rfl rfl rfl rfl
  · replace h := (if_neg c4).symm.trans h
    refine g_run 8 (pc' := 85) (L' := [some (.ref 526), none, none, some (.int y3), some (.int ((s1 + s0)))]) (S' := [.int (((gI g2 540 1) - 1)), .int 0, .int ((s1 + s0))]) (M' := gm g2) rfl ?_
    obtain ⟨v5, g6, e7, h⟩ := zB_of h
    refine g_inv2 (kd := 0) (p_X12_in  e7) rfl rfl rfl (by decide) rfl rfl rfl rfl (by omega) (pc' := 88) rfl (S' := [.int v5]) rfl ?_
    refine g_if (v5 = 0) rfl (t := 105) rfl rfl (fun c8 => ?_) (fun c8 => ?_)
    · replace h := (if_pos c8).symm.trans h
      refine g_run 1 (pc' := 106) (L' := [some (.ref 526), none, none, some (.int y3), some (.int ((s1 + s0)))]) (S' := [.int (-1)]) (M' := gm g6) rfl ?_
      cases h
      exact g_ret rfl rfl rfl rfl
    · replace h := (if_neg c8).symm.trans h
      refine g_run 9 (pc' := 106) (L' := [some (.ref 526), none, none, some (.int y3), some (.int ((s1 + s0)))]) (S' := [.int ((((gI g6 540 0) * (s1 + s0)) + y3))]) (M' := gm g6) rfl ?_
      cases h
      exact g_ret rfl rfl rfl rfl
def f_X12_beside_27 (y1 : Int32) (y2 : Int32) (s0 : Int32) (s1 : Int32) (g : zSg) : Option (Int32 × zSg) := (if (gI g 540 0) = 0 then none else (if ¬ y2 = 2 then (if ¬ y2 = 0 then f_X12_beside_55 (s1 + s0) (0) (y1 / (gI g 540 0)) g else f_X12_beside_55 (s1 + s0) (-1) (y1 / (gI g 540 0)) g) else f_X12_beside_55 (s1 + s0) (1) (y1 / (gI g 540 0)) g))
set_option maxRecDepth 100000 in
set_option maxHeartbeats 4000000 in
theorem p_X12_beside_27 {sc : zSc} {hp : zHp} {d : Nat} (hD : 1 ≤ d) (y1 : Int32) (y2 : Int32) (s0 : Int32) (s1 : Int32) (g : zSg) (r : Int32 × zSg) (h : f_X12_beside_27 y1 y2 s0 s1 g = some r) : zG d sc hp (zcd zM_X12_beside) 27 [some (.ref 526), some (.int y1), some (.int y2), none, none] [.int s0, .int s1] (gm g) ((some (.int r.1)), gm r.2) := by
  obtain ⟨d, rfl⟩ : ∃ d', d = d' + 1 := ⟨d - 1, by omega⟩
  unfold f_X12_beside_27 at h
  refine g_run 7 (pc' := 36) (L' := [some (.ref 526), some (.int y1), some (.int y2), some (.int ((s1 + s0))), none]) (S' := [.int ((gI g 540 0)), .int y1]) (M' := gm g) rfl ?_
  by_cases c1 : (gI g 540 0) = 0
  case pos => exact nomatch ((if_pos c1).symm.trans h)
  replace h := (if_neg c1).symm.trans h
  refine g_div rfl c1 ?_
  refine g_run 2 (pc' := 39) (L' := [some (.ref 526), some (.int y1), some (.int y2), some (.int ((s1 + s0))), none]) (S' := [.int 2, .int y2, .int ((y1 / (gI g 540 0)))]) (M' := gm g) rfl ?_
  refine g_icmp (¬ y2 = 2) rfl (t := 46) rfl rfl (fun c2 => ?_) (fun c2 => ?_)
  · replace h := (if_pos c2).symm.trans h
    refine g_run 1 (pc' := 47) (L' := [some (.ref 526), some (.int y1), some (.int y2), some (.int ((s1 + s0))), none]) (S' := [.int y2, .int ((y1 / (gI g 540 0)))]) (M' := gm g) rfl ?_
    refine g_if (¬ y2 = 0) rfl (t := 54) rfl rfl (fun c3 => ?_) (fun c3 => ?_)
    · replace h := (if_pos c3).symm.trans h
      refine g_run 1 (pc' := 55) (L' := [some (.ref 526), some (.int y1), some (.int y2), some (.int ((s1 + s0))), none]) (S' := [.int 0, .int ((y1 / (gI g 540 0)))]) (M' := gm g) rfl ?_
      refine g_forget (L' := [some (.ref 526), none, none, some (.int ((s1 + s0))), none]) (And.intro rfl (And.intro rfl True.intro)) ?_
      exact p_X12_beside_55 hD (s1 + s0) (0) (y1 / (gI g 540 0)) g _ h
    · replace h := (if_neg c3).symm.trans h
      refine g_run 2 (pc' := 55) (L' := [some (.ref 526), some (.int y1), some (.int y2), some (.int ((s1 + s0))), none]) (S' := [.int (-1), .int ((y1 / (gI g 540 0)))]) (M' := gm g) rfl ?_
      refine g_forget (L' := [some (.ref 526), none, none, some (.int ((s1 + s0))), none]) (And.intro rfl (And.intro rfl True.intro)) ?_
      exact p_X12_beside_55 hD (s1 + s0) (-1) (y1 / (gI g 540 0)) g _ h
  · replace h := (if_neg c2).symm.trans h
    refine g_run 2 (pc' := 55) (L' := [some (.ref 526), some (.int y1), some (.int y2), some (.int ((s1 + s0))), none]) (S' := [.int 1, .int ((y1 / (gI g 540 0)))]) (M' := gm g) rfl ?_
    refine g_forget (L' := [some (.ref 526), none, none, some (.int ((s1 + s0))), none]) (And.intro rfl (And.intro rfl True.intro)) ?_
    exact p_X12_beside_55 hD (s1 + s0) (1) (y1 / (gI g 540 0)) g _ h
def f_X12_beside (x1 : Int32) (x2 : Int32) (g : zSg) : Option (Int32 × zSg) := (if (gI g 540 0) = 0 then none else (if ¬ x2 = 1 then (if ¬ x2 = 3 then f_X12_beside_27 (x1) (x2) (0) (imod x1 (gI g 540 0)) g else f_X12_beside_27 (x1) (x2) (-1) (imod x1 (gI g 540 0)) g) else f_X12_beside_27 (x1) (x2) (1) (imod x1 (gI g 540 0)) g))
set_option maxRecDepth 100000 in
set_option maxHeartbeats 4000000 in
theorem p_X12_beside {sc : zSc} {hp : zHp} {x1 : Int32} {x2 : Int32} {g : zSg} {r : Int32 × zSg} (h : f_X12_beside x1 x2 g = some r) : zRn sc hp 1 zM_X12_beside [.ref 526, .int x1, .int x2] (gm g) (some (.int r.1)) (gm r.2) := by
  intro d hD
  obtain ⟨d, rfl⟩ : ∃ d', d = d' + 1 := ⟨d - 1, by omega⟩
  show zG _ sc hp (zcd zM_X12_beside) 0 [some (.ref 526), some (.int x1), some (.int x2), none, none] [] (gm g) _
  unfold f_X12_beside at h
  refine g_run 5 (pc' := 7) (L' := [some (.ref 526), some (.int x1), some (.int x2), none, none]) (S' := [.int ((gI g 540 0)), .int x1]) (M' := gm g) rfl ?_
  by_cases c1 : (gI g 540 0) = 0
  case pos => exact nomatch ((if_pos c1).symm.trans h)
  replace h := (if_neg c1).symm.trans h
  refine g_rem rfl c1 ?_
  refine g_run 2 (pc' := 10) (L' := [some (.ref 526), some (.int x1), some (.int x2), none, none]) (S' := [.int 1, .int x2, .int ((imod x1 (gI g 540 0)))]) (M' := gm g) rfl ?_
  refine g_icmp (¬ x2 = 1) rfl (t := 17) rfl rfl (fun c2 => ?_) (fun c2 => ?_)
  · replace h := (if_pos c2).symm.trans h
    refine g_run 2 (pc' := 19) (L' := [some (.ref 526), some (.int x1), some (.int x2), none, none]) (S' := [.int 3, .int x2, .int ((imod x1 (gI g 540 0)))]) (M' := gm g) rfl ?_
    refine g_icmp (¬ x2 = 3) rfl (t := 26) rfl rfl (fun c3 => ?_) (fun c3 => ?_)
    · replace h := (if_pos c3).symm.trans h
      refine g_run 1 (pc' := 27) (L' := [some (.ref 526), some (.int x1), some (.int x2), none, none]) (S' := [.int 0, .int ((imod x1 (gI g 540 0)))]) (M' := gm g) rfl ?_
      exact p_X12_beside_27 hD (x1) (x2) (0) (imod x1 (gI g 540 0)) g _ h
    · replace h := (if_neg c3).symm.trans h
      refine g_run 2 (pc' := 27) (L' := [some (.ref 526), some (.int x1), some (.int x2), none, none]) (S' := [.int (-1), .int ((imod x1 (gI g 540 0)))]) (M' := gm g) rfl ?_
      exact p_X12_beside_27 hD (x1) (x2) (-1) (imod x1 (gI g 540 0)) g _ h
  · replace h := (if_neg c2).symm.trans h
    refine g_run 2 (pc' := 27) (L' := [some (.ref 526), some (.int x1), some (.int x2), none, none]) (S' := [.int 1, .int ((imod x1 (gI g 540 0)))]) (M' := gm g) rfl ?_
    exact p_X12_beside_27 hD (x1) (x2) (1) (imod x1 (gI g 540 0)) g _ h
def f_X12_of (x1 : Int32) (x2 : Int32) (g : zSg) : Option (Int32 × zSg) := (if zib ((4 * x1) + x2) 24 = true then some ((gI g 542 (ix ((4 * x1) + x2))), g) else none)
set_option maxRecDepth 100000 in
set_option maxHeartbeats 4000000 in
theorem p_X12_of {sc : zSc} {hp : zHp} {x1 : Int32} {x2 : Int32} {g : zSg} {r : Int32 × zSg} (h : f_X12_of x1 x2 g = some r) : zRn sc hp 0 zM_X12_of [.ref 526, .int x1, .int x2] (gm g) (some (.int r.1)) (gm r.2) := by
  intro d hD
  show zG _ sc hp (zcd zM_X12_of) 0 [some (.ref 526), some (.int x1), some (.int x2)] [] (gm g) _
  unfold f_X12_of at h
  refine g_run 7 (pc' := 9) (L' := [some (.ref 526), some (.int x1), some (.int x2)]) (S' := [.int (((4 * x1) + x2)), .ref 542]) (M' := gm g) rfl ?_
  by_cases c1 : zib ((4 * x1) + x2) 24 = true
  case neg => exact nomatch ((if_neg c1).symm.trans h)
  replace h := (if_pos c1).symm.trans h
  refine g_iald rfl (a := 542) rfl c1 ?_
  cases h
  exact g_ret rfl rfl rfl rfl
def f_X12_shedOf (x1 : Int32) (g : zSg) : Option (Int32 × zSg) := (zB (f_X12_of x1 3 g) (fun v1 g2 => (zB (f_X12_of x1 2 g2) (fun v4 g5 => some ((((gI g 540 0) * v1) + v4), g5)))))
set_option maxRecDepth 100000 in
set_option maxHeartbeats 4000000 in
theorem p_X12_shedOf {sc : zSc} {hp : zHp} {x1 : Int32} {g : zSg} {r : Int32 × zSg} (h : f_X12_shedOf x1 g = some r) : zRn sc hp 1 zM_X12_shedOf [.ref 526, .int x1] (gm g) (some (.int r.1)) (gm r.2) := by
  intro d hD
  obtain ⟨d, rfl⟩ : ∃ d', d = d' + 1 := ⟨d - 1, by omega⟩
  show zG _ sc hp (zcd zM_X12_shedOf) 0 [some (.ref 526), some (.int x1)] [] (gm g) _
  unfold f_X12_shedOf at h
  refine g_run 7 (pc' := 9) (L' := [some (.ref 526), some (.int x1)]) (S' := [.int 3, .int x1, .ref 526, .int ((gI g 540 0))]) (M' := gm g) rfl ?_
  obtain ⟨v1, g2, e3, h⟩ := zB_of h
  refine g_inv2 (kd := 1) (p_X12_of  e3) rfl rfl rfl (by decide) rfl rfl rfl rfl (by omega) (pc' := 12) rfl (S' := [.int v1, .int ((gI g 540 0))]) rfl ?_
  refine g_run 4 (pc' := 16) (L' := [some (.ref 526), some (.int x1)]) (S' := [.int 2, .int x1, .ref 526, .int (((gI g 540 0) * v1))]) (M' := gm g2) rfl ?_
  obtain ⟨v4, g5, e6, h⟩ := zB_of h
  refine g_inv2 (kd := 1) (p_X12_of  e6) rfl rfl rfl (by decide) rfl rfl rfl rfl (by omega) (pc' := 19) rfl (S' := [.int v4, .int (((gI g 540 0) * v1))]) rfl ?_
  refine g_run 1 (pc' := 20) (L' := [some (.ref 526), some (.int x1)]) (S' := [.int ((((gI g 540 0) * v1) + v4))]) (M' := gm g5) rfl ?_
  cases h
  exact g_ret rfl rfl rfl rfl
def f_X12_offShed_37 (y4 : Int32) (y5 : Int32) (g : zSg) : Option (Int32 × zSg) := (if ¬ y4 = (-1) then some (y5, g) else some ((-1), g))
set_option maxRecDepth 100000 in
set_option maxHeartbeats 4000000 in
theorem p_X12_offShed_37 {sc : zSc} {hp : zHp} {d : Nat} (hD : 2 ≤ d) (y4 : Int32) (y5 : Int32) (g : zSg) (r : Int32 × zSg) (h : f_X12_offShed_37 y4 y5 g = some r) : zG d sc hp (zcd zM_X12_offShed) 37 [none, none, none, none, some (.int y4), some (.int y5)] [] (gm g) ((some (.int r.1)), gm r.2) := by
  obtain ⟨d, rfl⟩ : ∃ d', d = d' + 1 := ⟨d - 1, by omega⟩
  unfold f_X12_offShed_37 at h
  refine g_run 2 (pc' := 40) (L' := [none, none, none, none, some (.int y4), some (.int y5)]) (S' := [.int (-1), .int y4]) (M' := gm g) rfl ?_
  refine g_icmp (¬ y4 = (-1)) rfl (t := 47) rfl rfl (fun c1 => ?_) (fun c1 => ?_)
  · replace h := (if_pos c1).symm.trans h
    refine g_run 1 (pc' := 49) (L' := [none, none, none, none, some (.int y4), some (.int y5)]) (S' := [.int y5]) (M' := gm g) rfl ?_
    cases h
    exact g_ret rfl rfl rfl rfl
  · replace h := (if_neg c1).symm.trans h
    refine g_run 2 (pc' := 49) (L' := [none, none, none, none, some (.int y4), some (.int y5)]) (S' := [.int (-1)]) (M' := gm g) rfl ?_
    cases h
    exact g_ret rfl rfl rfl rfl
def f_X12_offShed_10 : Nat → Int32 → Int32 → Int32 → Int32 → zSg → Option (Int32 × zSg)
  | 0, _, _, _, _, _ => none
  | n + 1, y2, y3, y4, y5, g => (if y4 = (-1) then f_X12_offShed_37 (y4) (y5) g else (if y4 = y2 then f_X12_offShed_37 (y4) (y5) g else (zB (f_X12_beside y4 y3 g) (fun v3 g4 => (f_X12_offShed_10 n) (y2) (y3) (v3) (y5 + 1) g4))))
set_option maxRecDepth 100000 in
set_option maxHeartbeats 4000000 in
theorem p_X12_offShed_10 {sc : zSc} {hp : zHp} {d : Nat} (hD : 2 ≤ d) : ∀ (n : Nat) (y2 : Int32) (y3 : Int32) (y4 : Int32) (y5 : Int32) (g : zSg) (r : Int32 × zSg), f_X12_offShed_10 n y2 y3 y4 y5 g = some r → zG d sc hp (zcd zM_X12_offShed) 10 [some (.ref 526), none, some (.int y2), some (.int y3), some (.int y4), some (.int y5)] [] (gm g) ((some (.int r.1)), gm r.2) := by
  obtain ⟨d, rfl⟩ : ∃ d', d = d' + 1 := ⟨d - 1, by omega⟩
  intro n
  induction n with
  | zero => intro y2 y3 y4 y5 g r h; cases h
  | succ n ih =>
    intro y2 y3 y4 y5 g r h
    unfold f_X12_offShed_10 at h
    refine g_run 2 (pc' := 13) (L' := [some (.ref 526), none, some (.int y2), some (.int y3), some (.int y4), some (.int y5)]) (S' := [.int (-1), .int y4]) (M' := gm g) rfl ?_
    refine g_icmp (y4 = (-1)) rfl (t := 37) rfl rfl (fun c1 => ?_) (fun c1 => ?_)
    · replace h := (if_pos c1).symm.trans h
      refine g_forget (L' := [none, none, none, none, some (.int y4), some (.int y5)]) (And.intro rfl (And.intro rfl True.intro)) ?_
      exact p_X12_offShed_37 hD (y4) (y5) g _ h
    · replace h := (if_neg c1).symm.trans h
      refine g_run 2 (pc' := 19) (L' := [some (.ref 526), none, some (.int y2), some (.int y3), some (.int y4), some (.int y5)]) (S' := [.int y2, .int y4]) (M' := gm g) rfl ?_
      refine g_icmp (y4 = y2) rfl (t := 37) rfl rfl (fun c2 => ?_) (fun c2 => ?_)
      · replace h := (if_pos c2).symm.trans h
        refine g_forget (L' := [none, none, none, none, some (.int y4), some (.int y5)]) (And.intro rfl (And.intro rfl True.intro)) ?_
        exact p_X12_offShed_37 hD (y4) (y5) g _ h
      · replace h := (if_neg c2).symm.trans h
        refine g_run 3 (pc' := 26) (L' := [some (.ref 526), none, some (.int y2), some (.int y3), some (.int y4), some (.int y5)]) (S' := [.int y3, .int y4, .ref 526]) (M' := gm g) rfl ?_
        obtain ⟨v3, g4, e5, h⟩ := zB_of h
        refine g_inv2 (kd := 1) (p_X12_beside  e5) rfl rfl rfl (by decide) rfl rfl rfl rfl (by omega) (pc' := 29) rfl (S' := [.int v3]) rfl ?_
        refine g_run 3 (pc' := 10) (L' := [some (.ref 526), none, some (.int y2), some (.int y3), some (.int v3), some (.int ((y5 + 1)))]) (S' := []) (M' := gm g4) rfl ?_
        exact ih (y2) (y3) (v3) (y5 + 1) g4 _ h
def f_X12_offShed (x1 : Int32) (x2 : Int32) (x3 : Int32) (g : zSg) : Option (Int32 × zSg) := (zB (f_X12_shedOf x1 g) (fun v1 g2 => f_X12_offShed_10 zFu (x2) (x3) (v1) (0) g2))
set_option maxRecDepth 100000 in
set_option maxHeartbeats 4000000 in
theorem p_X12_offShed {sc : zSc} {hp : zHp} {x1 : Int32} {x2 : Int32} {x3 : Int32} {g : zSg} {r : Int32 × zSg} (h : f_X12_offShed x1 x2 x3 g = some r) : zRn sc hp 2 zM_X12_offShed [.ref 526, .int x1, .int x2, .int x3] (gm g) (some (.int r.1)) (gm r.2) := by
  intro d hD
  obtain ⟨d, rfl⟩ : ∃ d', d = d' + 1 := ⟨d - 1, by omega⟩
  show zG _ sc hp (zcd zM_X12_offShed) 0 [some (.ref 526), some (.int x1), some (.int x2), some (.int x3), none, none] [] (gm g) _
  unfold f_X12_offShed at h
  refine g_run 2 (pc' := 2) (L' := [some (.ref 526), some (.int x1), some (.int x2), some (.int x3), none, none]) (S' := [.int x1, .ref 526]) (M' := gm g) rfl ?_
  obtain ⟨v1, g2, e3, h⟩ := zB_of h
  refine g_inv2 (kd := 1) (p_X12_shedOf  e3) rfl rfl rfl (by decide) rfl rfl rfl rfl (by omega) (pc' := 5) rfl (S' := [.int v1]) rfl ?_
  refine g_run 3 (pc' := 10) (L' := [some (.ref 526), some (.int x1), some (.int x2), some (.int x3), some (.int v1), some (.int 0)]) (S' := []) (M' := gm g2) rfl ?_
  refine g_forget (L' := [some (.ref 526), none, some (.int x2), some (.int x3), some (.int v1), some (.int 0)]) (And.intro rfl (And.intro rfl (And.intro rfl (And.intro rfl (And.intro rfl True.intro))))) ?_
  exact p_X12_offShed_10 hD zFu (x2) (x3) (v1) (0) g2 _ h
def f_X0_rows (a : Nat) (g : zSg) : Option (Int32 × zSg) := (zB (f_X7_get (a + 1) 1 g) (fun v1 g2 => some (v1, g2)))
set_option maxRecDepth 100000 in
set_option maxHeartbeats 4000000 in
theorem p_X0_rows {sc : zSc} {hp : zHp} (a : Nat) (ha : (zK0 a).1 = 0) {g : zSg} {r : Int32 × zSg} (h : f_X0_rows a g = some r) : zRn sc hp 1 zM_X0_rows [.ref a] (gm g) (some (.int r.1)) (gm r.2) := by
  intro d hD
  obtain ⟨d, rfl⟩ : ∃ d', d = d' + 1 := ⟨d - 1, by omega⟩
  show zG _ sc hp (zcd zM_X0_rows) 0 [some (.ref a)] [] (gm g) _
  unfold f_X0_rows at h
  refine g_run 1 (pc' := 1) (L' := [some (.ref a)]) (S' := [.ref a]) (M' := gm g) rfl ?_
  refine g_getf rfl (ci := 0) (k := 0) rfl ha (gfv_c0 ha) ?_
  refine g_run 1 (pc' := 5) (L' := [some (.ref a)]) (S' := [.int 1, .ref (a + 1)]) (M' := gm g) rfl ?_
  obtain ⟨v1, g2, e3, h⟩ := zB_of h
  refine g_inv2 (kd := 1) (p_X7_get (a + 1) (zK0_c ha) e3) rfl rfl rfl (by decide) rfl (g_recv (a := a + 1) rfl (Nat.le_of_ble_eq_true rfl) (Nat.le_of_ble_eq_true rfl) (Nat.le_of_ble_eq_true rfl) (Nat.le_of_ble_eq_true rfl) rfl (zK0_c ha) (Nat.le_of_ble_eq_true rfl)) rfl rfl (by omega) (pc' := 8) rfl (S' := [.int v1]) rfl ?_
  cases h
  exact g_ret rfl rfl rfl rfl
def f_X0_beside (a : Nat) (x1 : Int32) (x2 : Int32) (g : zSg) : Option (Int32 × zSg) := (if x2 = 0 then (zB (f_X0_rowOf a x1 g) (fun v2 g3 => (if v2 ≤ 0 then some ((-1), g3) else some ((x1 - (gI g3 (a) 1)), g3)))) else (if x2 = 1 then (zB (f_X0_placeOf a x1 g) (fun v7 g8 => (if ((gI g8 (a) 1) - 1) ≤ v7 then some ((-1), g8) else some ((x1 + 1), g8)))) else (if x2 = 2 then (zB (f_X0_rowOf a x1 g) (fun v12 g13 => (zB (f_X0_rows a g13) (fun v15 g16 => (if (v15 - 1) ≤ v12 then some ((-1), g16) else some ((x1 + (gI g16 (a) 1)), g16)))))) else (if x2 = 3 then (zB (f_X0_placeOf a x1 g) (fun v20 g21 => (if v20 ≤ 0 then some ((-1), g21) else some ((x1 - 1), g21)))) else some ((-1), g)))))
set_option maxRecDepth 100000 in
set_option maxHeartbeats 4000000 in
theorem p_X0_beside {sc : zSc} {hp : zHp} (a : Nat) (ha : (zK0 a).1 = 0) {x1 : Int32} {x2 : Int32} {g : zSg} {r : Int32 × zSg} (h : f_X0_beside a x1 x2 g = some r) : zRn sc hp 2 zM_X0_beside [.ref a, .int x1, .int x2] (gm g) (some (.int r.1)) (gm r.2) := by
  intro d hD
  obtain ⟨d, rfl⟩ : ∃ d', d = d' + 1 := ⟨d - 1, by omega⟩
  show zG _ sc hp (zcd zM_X0_beside) 0 [some (.ref a), some (.int x1), some (.int x2)] [] (gm g) _
  unfold f_X0_beside at h
  refine g_run 1 (pc' := 1) (L' := [some (.ref a), some (.int x1), some (.int x2)]) (S' := [.int x2]) (M' := gm g) rfl ?_
  by_cases c1 : x2 = 0
  · replace h := (if_pos c1).symm.trans h
    refine g_swc c1 rfl rfl rfl (pc' := 32) rfl ?_
    refine g_run 2 (pc' := 34) (L' := [some (.ref a), some (.int x1), some (.int x2)]) (S' := [.int x1, .ref a]) (M' := gm g) rfl ?_
    obtain ⟨v2, g3, e4, h⟩ := zB_of h
    refine g_inv2 (kd := 1) (p_X0_rowOf a ha e4) rfl rfl rfl (by decide) rfl (g_recv (a := a) rfl (Nat.le_of_ble_eq_true rfl) (Nat.le_of_ble_eq_true rfl) (Nat.le_of_ble_eq_true rfl) (Nat.le_of_ble_eq_true rfl) rfl ha (Nat.le_of_ble_eq_true rfl)) rfl rfl (by omega) (pc' := 37) rfl (S' := [.int v2]) rfl ?_
    refine g_if (v2 ≤ 0) rfl (t := 49) rfl rfl (fun c5 => ?_) (fun c5 => ?_)
    · replace h := (if_pos c5).symm.trans h
      refine g_run 1 (pc' := 50) (L' := [some (.ref a), some (.int x1), some (.int x2)]) (S' := [.int (-1)]) (M' := gm g3) rfl ?_
      cases h
      exact g_ret rfl rfl rfl rfl
    · replace h := (if_neg c5).symm.trans h
      refine g_run 2 (pc' := 42) (L' := [some (.ref a), some (.int x1), some (.int x2)]) (S' := [.ref a, .int x1]) (M' := gm g3) rfl ?_
      refine g_getf rfl (ci := 0) (k := 1) rfl ha rfl ?_
      refine g_run 2 (pc' := 50) (L' := [some (.ref a), some (.int x1), some (.int x2)]) (S' := [.int ((x1 - (gI g3 (a) 1)))]) (M' := gm g3) rfl ?_
      cases h
      exact g_ret rfl rfl rfl rfl
  replace h := (if_neg c1).symm.trans h
  by_cases c6 : x2 = 1
  · replace h := (if_pos c6).symm.trans h
    refine g_swc c6 rfl rfl rfl (pc' := 51) rfl ?_
    refine g_run 2 (pc' := 53) (L' := [some (.ref a), some (.int x1), some (.int x2)]) (S' := [.int x1, .ref a]) (M' := gm g) rfl ?_
    obtain ⟨v7, g8, e9, h⟩ := zB_of h
    refine g_inv2 (kd := 1) (p_X0_placeOf a ha e9) rfl rfl rfl (by decide) rfl (g_recv (a := a) rfl (Nat.le_of_ble_eq_true rfl) (Nat.le_of_ble_eq_true rfl) (Nat.le_of_ble_eq_true rfl) (Nat.le_of_ble_eq_true rfl) rfl ha (Nat.le_of_ble_eq_true rfl)) rfl rfl (by omega) (pc' := 56) rfl (S' := [.int v7]) rfl ?_
    refine g_run 1 (pc' := 57) (L' := [some (.ref a), some (.int x1), some (.int x2)]) (S' := [.ref a, .int v7]) (M' := gm g8) rfl ?_
    refine g_getf rfl (ci := 0) (k := 1) rfl ha rfl ?_
    refine g_run 2 (pc' := 62) (L' := [some (.ref a), some (.int x1), some (.int x2)]) (S' := [.int (((gI g8 (a) 1) - 1)), .int v7]) (M' := gm g8) rfl ?_
    refine g_icmp (((gI g8 (a) 1) - 1) ≤ v7) rfl (t := 71) rfl rfl (fun c10 => ?_) (fun c10 => ?_)
    · replace h := (if_pos c10).symm.trans h
      refine g_run 1 (pc' := 72) (L' := [some (.ref a), some (.int x1), some (.int x2)]) (S' := [.int (-1)]) (M' := gm g8) rfl ?_
      cases h
      exact g_ret rfl rfl rfl rfl
    · replace h := (if_neg c10).symm.trans h
      refine g_run 4 (pc' := 72) (L' := [some (.ref a), some (.int x1), some (.int x2)]) (S' := [.int ((x1 + 1))]) (M' := gm g8) rfl ?_
      cases h
      exact g_ret rfl rfl rfl rfl
  replace h := (if_neg c6).symm.trans h
  by_cases c11 : x2 = 2
  · replace h := (if_pos c11).symm.trans h
    refine g_swc c11 rfl rfl rfl (pc' := 73) rfl ?_
    refine g_run 2 (pc' := 75) (L' := [some (.ref a), some (.int x1), some (.int x2)]) (S' := [.int x1, .ref a]) (M' := gm g) rfl ?_
    obtain ⟨v12, g13, e14, h⟩ := zB_of h
    refine g_inv2 (kd := 1) (p_X0_rowOf a ha e14) rfl rfl rfl (by decide) rfl (g_recv (a := a) rfl (Nat.le_of_ble_eq_true rfl) (Nat.le_of_ble_eq_true rfl) (Nat.le_of_ble_eq_true rfl) (Nat.le_of_ble_eq_true rfl) rfl ha (Nat.le_of_ble_eq_true rfl)) rfl rfl (by omega) (pc' := 78) rfl (S' := [.int v12]) rfl ?_
    refine g_run 1 (pc' := 79) (L' := [some (.ref a), some (.int x1), some (.int x2)]) (S' := [.ref a, .int v12]) (M' := gm g13) rfl ?_
    obtain ⟨v15, g16, e17, h⟩ := zB_of h
    refine g_inv2 (kd := 1) (p_X0_rows a ha e17) rfl rfl rfl (by decide) rfl (g_recv (a := a) rfl (Nat.le_of_ble_eq_true rfl) (Nat.le_of_ble_eq_true rfl) (Nat.le_of_ble_eq_true rfl) (Nat.le_of_ble_eq_true rfl) rfl ha (Nat.le_of_ble_eq_true rfl)) rfl rfl (by omega) (pc' := 82) rfl (S' := [.int v15, .int v12]) rfl ?_
    refine g_run 2 (pc' := 84) (L' := [some (.ref a), some (.int x1), some (.int x2)]) (S' := [.int ((v15 - 1)), .int v12]) (M' := gm g16) rfl ?_
    refine g_icmp ((v15 - 1) ≤ v12) rfl (t := 96) rfl rfl (fun c18 => ?_) (fun c18 => ?_)
    · replace h := (if_pos c18).symm.trans h
      refine g_run 1 (pc' := 97) (L' := [some (.ref a), some (.int x1), some (.int x2)]) (S' := [.int (-1)]) (M' := gm g16) rfl ?_
      cases h
      exact g_ret rfl rfl rfl rfl
    · replace h := (if_neg c18).symm.trans h
      refine g_run 2 (pc' := 89) (L' := [some (.ref a), some (.int x1), some (.int x2)]) (S' := [.ref a, .int x1]) (M' := gm g16) rfl ?_
      refine g_getf rfl (ci := 0) (k := 1) rfl ha rfl ?_
      refine g_run 2 (pc' := 97) (L' := [some (.ref a), some (.int x1), some (.int x2)]) (S' := [.int ((x1 + (gI g16 (a) 1)))]) (M' := gm g16) rfl ?_
      cases h
      exact g_ret rfl rfl rfl rfl
  replace h := (if_neg c11).symm.trans h
  by_cases c19 : x2 = 3
  · replace h := (if_pos c19).symm.trans h
    refine g_swc c19 rfl rfl rfl (pc' := 98) rfl ?_
    refine g_run 2 (pc' := 100) (L' := [some (.ref a), some (.int x1), some (.int x2)]) (S' := [.int x1, .ref a]) (M' := gm g) rfl ?_
    obtain ⟨v20, g21, e22, h⟩ := zB_of h
    refine g_inv2 (kd := 1) (p_X0_placeOf a ha e22) rfl rfl rfl (by decide) rfl (g_recv (a := a) rfl (Nat.le_of_ble_eq_true rfl) (Nat.le_of_ble_eq_true rfl) (Nat.le_of_ble_eq_true rfl) (Nat.le_of_ble_eq_true rfl) rfl ha (Nat.le_of_ble_eq_true rfl)) rfl rfl (by omega) (pc' := 103) rfl (S' := [.int v20]) rfl ?_
    refine g_if (v20 ≤ 0) rfl (t := 112) rfl rfl (fun c23 => ?_) (fun c23 => ?_)
    · replace h := (if_pos c23).symm.trans h
      refine g_run 1 (pc' := 113) (L' := [some (.ref a), some (.int x1), some (.int x2)]) (S' := [.int (-1)]) (M' := gm g21) rfl ?_
      cases h
      exact g_ret rfl rfl rfl rfl
    · replace h := (if_neg c23).symm.trans h
      refine g_run 4 (pc' := 113) (L' := [some (.ref a), some (.int x1), some (.int x2)]) (S' := [.int ((x1 - 1))]) (M' := gm g21) rfl ?_
      cases h
      exact g_ret rfl rfl rfl rfl
  replace h := (if_neg c19).symm.trans h
  have hsw : (x2).toInt < 0 ∨ 3 < (x2).toInt := by
    have nc1 := lv_neT c1 (a := 0) rfl
    have nc6 := lv_neT c6 (a := 1) rfl
    have nc11 := lv_neT c11 (a := 2) rfl
    have nc19 := lv_neT c19 (a := 3) rfl
    omega
  refine g_tsd rfl hsw (t := 114) rfl ?_
  refine g_run 1 (pc' := 115) (L' := [some (.ref a), some (.int x1), some (.int x2)]) (S' := [.int (-1)]) (M' := gm g) rfl ?_
  cases h
  exact g_ret rfl rfl rfl rfl
