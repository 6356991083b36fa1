/-! ===== decompiled functions (by program), 3 ===== -/
def f_X11_takeLaw (g : zSg) : Option (Int32 × zSg) := (zB (f_X11_lawAt (gI g 0 11) g) (fun v1 g2 => (zNu v1 (some ((-1), g2)) (fun a4 => if (zK0 a4).1 = 4 then (zB (f_X9_cutTo 0 g2) (fun v7 g8 => (zB (f_X5_draft g8) (fun v10 g11 => (zO v10 4 (fun a13 => (zB (f_X4_become a4 a13 g11) (fun v16 g17 => some (((gI (gsI g17 0 11 ((gI g17 0 11) + 1)) 0 11) - 1), (gsI g17 0 11 ((gI g17 0 11) + 1))))))))))) else none))))
set_option maxRecDepth 100000 in
set_option maxHeartbeats 4000000 in
theorem p_X11_takeLaw {sc : zSc} {hp : zHp} {g : zSg} {r : Int32 × zSg} (h : f_X11_takeLaw g = some r) : zRn sc hp 3 zM_X11_takeLaw [.ref 0] (gm g) (some (.int r.1)) (gm r.2) := by
  intro d hD
  obtain ⟨d, rfl⟩ : ∃ d', d = d' + 1 := ⟨d - 1, by omega⟩
  show zG _ sc hp (zcd zM_X11_takeLaw) 0 [some (.ref 0), none] [] (gm g) _
  unfold f_X11_takeLaw at h
  refine g_run 3 (pc' := 5) (L' := [some (.ref 0), none]) (S' := [.int ((gI g 0 11)), .ref 0]) (M' := gm g) rfl ?_
  replace h := zB_of h
  obtain ⟨v1, g2, e3, h⟩ := h
  refine g_inv2 (kd := 1) (p_X11_lawAt  e3) rfl rfl rfl (by decide) rfl rfl rfl rfl (by omega) (pc' := 8) rfl (S' := [zrv v1]) rfl ?_
  refine g_astoren (v := v1) rfl (Nat.le_of_ble_eq_true rfl) (L' := [some (.ref 0), some (zrv v1)]) rfl ?_
  refine g_aloadn (v := v1) rfl rfl ?_
  rcases v1 with _ | a4
  · replace h := zNu_n h
    show zG _ _ _ _ 10 [some (.ref 0), some (.null)] [.null] (gm g2) _
    refine g_run 1 (pc' := 13) (L' := [some (.ref 0), some (.null)]) (S' := []) (M' := gm g2) rfl ?_
    refine g_run 1 (pc' := 14) (L' := [some (.ref 0), some (.null)]) (S' := [.int (-1)]) (M' := gm g2) rfl ?_
    cases h
    exact g_ret rfl rfl rfl rfl
  · replace h := zNu_s h
    by_cases h6 : (zK0 a4).1 = 4
    case neg => exact nomatch ((if_neg h6).symm.trans h)
    replace h := (if_pos h6).symm.trans h
    show zG _ _ _ _ 10 [some (.ref 0), some (.ref a4)] [.ref a4] (gm g2) _
    refine g_run 1 (pc' := 15) (L' := [some (.ref 0), some (.ref a4)]) (S' := []) (M' := gm g2) rfl ?_
    refine g_run 3 (pc' := 20) (L' := [some (.ref 0), some (.ref a4)]) (S' := [.int 0, .ref 1]) (M' := gm g2) rfl ?_
    replace h := zB_of h
    obtain ⟨v7, g8, e9, h⟩ := h
    refine g_inv2 (kd := 1) (p_X9_cutTo  e9) rfl rfl rfl (by decide) rfl rfl rfl rfl (by omega) (pc' := 23) rfl (S' := []) rfl ?_
    refine g_run 3 (pc' := 28) (L' := [some (.ref 0), some (.ref a4)]) (S' := [.ref 10, .ref a4]) (M' := gm g8) rfl ?_
    replace h := zB_of h
    obtain ⟨v10, g11, e12, h⟩ := h
    refine g_inv2 (kd := 1) (p_X5_draft  e12) rfl rfl rfl (by decide) rfl rfl rfl rfl (by omega) (pc' := 31) rfl (S' := [zrv v10, .ref a4]) rfl ?_
    replace h := zO_of h
    obtain ⟨a13, q14, h15, h⟩ := h
    subst q14
    show zG _ _ _ _ 31 [some (.ref 0), some (.ref a4)] [.ref a13, .ref a4] (gm g11) _
    replace h := zB_of h
    obtain ⟨v16, g17, e18, h⟩ := h
    refine g_inv2 (kd := 1) (p_X4_become a4 a13 h6 h15 e18) rfl rfl rfl (by decide) rfl (g_recv (a := a4) rfl (Nat.le_of_ble_eq_true rfl) (Nat.le_of_ble_eq_true rfl) (Nat.le_of_ble_eq_true rfl) (Nat.le_of_ble_eq_true rfl) rfl h6 (Nat.le_of_ble_eq_true rfl)) rfl rfl (by omega) (pc' := 34) rfl (S' := []) rfl ?_
    refine g_run 10 (pc' := 50) (L' := [some (.ref 0), some (.ref a4)]) (S' := [.int (((gI (gsI g17 0 11 ((gI g17 0 11) + 1)) 0 11) - 1))]) (M' := gm (gsI g17 0 11 ((gI g17 0 11) + 1))) rfl ?_
    cases h
    exact g_ret rfl rfl rfl rfl
def f_X11_text_20 (y1 : Int32) (g : zSg) : Option (Int32 × zSg) := (if ¬ y1 = 1 then some ((-1), g) else (zB (f_X5_read g) (fun v2 g3 => (if ¬ v2 = (-1) then some ((-1), g3) else (zB (f_X11_takeLaw g3) (fun v6 g7 => some (v6, g7)))))))
set_option maxRecDepth 100000 in
set_option maxHeartbeats 4000000 in
theorem p_X11_text_20 {sc : zSc} {hp : zHp} {d : Nat} (hD : 200 ≤ d) (y1 : Int32) (g : zSg) (r : Int32 × zSg) (h : f_X11_text_20 y1 g = some r) : zG d sc hp (zcd zM_X11_text) 20 [some (.ref 0), some (.int y1)] [] (gm g) ((some (.int r.1)), gm r.2) := by
  obtain ⟨d, rfl⟩ : ∃ d', d = d' + 1 := ⟨d - 1, by omega⟩
  unfold f_X11_text_20 at h
  refine g_run 2 (pc' := 22) (L' := [some (.ref 0), some (.int y1)]) (S' := [.int 1, .int y1]) (M' := gm g) rfl ?_
  refine g_icmp (¬ y1 = 1) rfl (t := 41) rfl rfl (fun c1 => ?_) (fun c1 => ?_)
  · replace h := (if_pos c1).symm.trans h
    refine g_run 1 (pc' := 42) (L' := [some (.ref 0), some (.int y1)]) (S' := [.int (-1)]) (M' := gm g) rfl ?_
    cases h
    exact g_ret rfl rfl rfl rfl
  · replace h := (if_neg c1).symm.trans h
    refine g_run 2 (pc' := 29) (L' := [some (.ref 0), some (.int y1)]) (S' := [.ref 10]) (M' := gm g) rfl ?_
    replace h := zB_of h
    obtain ⟨v2, g3, e4, h⟩ := h
    refine g_inv2 (kd := 1) (p_X5_read  e4) rfl rfl rfl (by decide) rfl rfl rfl rfl (by omega) (pc' := 32) rfl (S' := [.int v2]) rfl ?_
    refine g_run 1 (pc' := 33) (L' := [some (.ref 0), some (.int y1)]) (S' := [.int (-1), .int v2]) (M' := gm g3) rfl ?_
    refine g_icmp (¬ v2 = (-1)) rfl (t := 41) rfl rfl (fun c5 => ?_) (fun c5 => ?_)
    · replace h := (if_pos c5).symm.trans h
      refine g_run 1 (pc' := 42) (L' := [some (.ref 0), some (.int y1)]) (S' := [.int (-1)]) (M' := gm g3) rfl ?_
      cases h
      exact g_ret rfl rfl rfl rfl
    · replace h := (if_neg c5).symm.trans h
      refine g_run 1 (pc' := 37) (L' := [some (.ref 0), some (.int y1)]) (S' := [.ref 0]) (M' := gm g3) rfl ?_
      replace h := zB_of h
      obtain ⟨v6, g7, e8, h⟩ := h
      refine g_inv2 (kd := 1) (p_X11_takeLaw  e8) rfl rfl rfl (by decide) rfl rfl rfl rfl (by omega) (pc' := 40) rfl (S' := [.int v6]) rfl ?_
      cases h
      exact g_ret rfl rfl rfl rfl
def f_X11_text (x1 : Int32) (g : zSg) : Option (Int32 × zSg) := (if ¬ x1 = 0 then f_X11_text_20 (x1) g else (zB (f_X1_read g) (fun v2 g3 => (if ¬ v2 = (-1) then f_X11_text_20 (x1) g3 else (zB (f_X11_takeCoast g3) (fun v6 g7 => some (v6, g7)))))))
set_option maxRecDepth 100000 in
set_option maxHeartbeats 4000000 in
theorem p_X11_text {sc : zSc} {hp : zHp} {x1 : Int32} {g : zSg} {r : Int32 × zSg} (h : f_X11_text x1 g = some r) : zRn sc hp 200 zM_X11_text [.ref 0, .int x1] (gm g) (some (.int r.1)) (gm r.2) := by
  intro d hD
  obtain ⟨d, rfl⟩ : ∃ d', d = d' + 1 := ⟨d - 1, by omega⟩
  show zG _ sc hp (zcd zM_X11_text) 0 [some (.ref 0), some (.int x1)] [] (gm g) _
  unfold f_X11_text at h
  refine g_run 1 (pc' := 1) (L' := [some (.ref 0), some (.int x1)]) (S' := [.int x1]) (M' := gm g) rfl ?_
  refine g_if (¬ x1 = 0) rfl (t := 20) rfl rfl (fun c1 => ?_) (fun c1 => ?_)
  · replace h := (if_pos c1).symm.trans h
    exact p_X11_text_20 hD (x1) g _ h
  · replace h := (if_neg c1).symm.trans h
    refine g_run 2 (pc' := 8) (L' := [some (.ref 0), some (.int x1)]) (S' := [.ref 6]) (M' := gm g) rfl ?_
    replace h := zB_of h
    obtain ⟨v2, g3, e4, h⟩ := h
    refine g_inv2 (kd := 1) (p_X1_read  e4) rfl rfl rfl (by decide) rfl rfl rfl rfl (by omega) (pc' := 11) rfl (S' := [.int v2]) rfl ?_
    refine g_run 1 (pc' := 12) (L' := [some (.ref 0), some (.int x1)]) (S' := [.int (-1), .int v2]) (M' := gm g3) rfl ?_
    refine g_icmp (¬ v2 = (-1)) rfl (t := 20) rfl rfl (fun c5 => ?_) (fun c5 => ?_)
    · replace h := (if_pos c5).symm.trans h
      exact p_X11_text_20 hD (x1) g3 _ h
    · replace h := (if_neg c5).symm.trans h
      refine g_run 1 (pc' := 16) (L' := [some (.ref 0), some (.int x1)]) (S' := [.ref 0]) (M' := gm g3) rfl ?_
      replace h := zB_of h
      obtain ⟨v6, g7, e8, h⟩ := h
      refine g_inv2 (kd := 1) (p_X11_takeCoast  e8) rfl rfl rfl (by decide) rfl rfl rfl rfl (by omega) (pc' := 19) rfl (S' := [.int v6]) rfl ?_
      cases h
      exact g_ret rfl rfl rfl rfl
def f_X11_law_29 (y1 : Int32) (y2 : Option Nat) (g : zSg) : Option (Int32 × zSg) := (zNu y2 (zB (f_X10_obey none (gsI g 0 12 y1)) (fun v4 g5 => some (1, g5))) (fun a1 => if (zK0 a1).1 = 4 then (zB (f_X10_obey (some (a1)) (gsI g 0 12 y1)) (fun v7 g8 => some (1, g8))) else none))
set_option maxRecDepth 100000 in
set_option maxHeartbeats 4000000 in
theorem p_X11_law_29 {sc : zSc} {hp : zHp} {d : Nat} (hD : 1 ≤ d) (y1 : Int32) (y2 : Option Nat) (g : zSg) (r : Int32 × zSg) (h : f_X11_law_29 y1 y2 g = some r) : zG d sc hp (zcd zM_X11_law) 29 [some (.ref 0), some (.int y1), some (zrv y2)] [] (gm g) ((some (.int r.1)), gm r.2) := by
  obtain ⟨d, rfl⟩ : ∃ d', d = d' + 1 := ⟨d - 1, by omega⟩
  unfold f_X11_law_29 at h
  refine g_run 5 (pc' := 38) (L' := [some (.ref 0), some (.int y1), some (zrv y2)]) (S' := [.ref 423]) (M' := gm (gsI g 0 12 y1)) rfl ?_
  refine g_aloadn (v := y2) rfl rfl ?_
  rcases y2 with _ | a1
  · replace h := zNu_n h
    show zG _ _ _ _ 39 [some (.ref 0), some (.int y1), some (.null)] [.null, .ref 423] (gm (gsI g 0 12 y1)) _
    replace h := zB_of h
    obtain ⟨v4, g5, e6, h⟩ := h
    refine g_inv2 (kd := 1) (p_X10_obey  e6) rfl rfl rfl (by decide) rfl rfl rfl rfl (by omega) (pc' := 42) rfl (S' := []) rfl ?_
    refine g_run 1 (pc' := 43) (L' := [some (.ref 0), some (.int y1), some (.null)]) (S' := [.int 1]) (M' := gm g5) rfl ?_
    cases h
    exact g_ret rfl rfl rfl rfl
  · replace h := zNu_s h
    by_cases h3 : (zK0 a1).1 = 4
    case neg => exact nomatch ((if_neg h3).symm.trans h)
    replace h := (if_pos h3).symm.trans h
    show zG _ _ _ _ 39 [some (.ref 0), some (.int y1), some (.ref a1)] [.ref a1, .ref 423] (gm (gsI g 0 12 y1)) _
    replace h := zB_of h
    obtain ⟨v7, g8, e9, h⟩ := h
    refine g_inv2 (kd := 1) (p_X10_obey  e9) rfl rfl rfl (by decide) rfl rfl rfl rfl (by omega) (pc' := 42) rfl (S' := []) rfl ?_
    refine g_run 1 (pc' := 43) (L' := [some (.ref 0), some (.int y1), some (.ref a1)]) (S' := [.int 1]) (M' := gm g8) rfl ?_
    cases h
    exact g_ret rfl rfl rfl rfl
def f_X11_law_17 (y1 : Int32) (s0 : Option Nat) (g : zSg) : Option (Int32 × zSg) := (zNu s0 (if y1 = (-1) then f_X11_law_29 (y1) none g else some (0, g)) (fun a1 => if (zK0 a1).1 = 4 then f_X11_law_29 (y1) (some (a1)) g else none))
set_option maxRecDepth 100000 in
set_option maxHeartbeats 4000000 in
theorem p_X11_law_17 {sc : zSc} {hp : zHp} {d : Nat} (hD : 1 ≤ d) (y1 : Int32) (s0 : Option Nat) (g : zSg) (r : Int32 × zSg) (h : f_X11_law_17 y1 s0 g = some r) : zG d sc hp (zcd zM_X11_law) 17 [some (.ref 0), some (.int y1), none] [zrv s0] (gm g) ((some (.int r.1)), gm r.2) := by
  obtain ⟨d, rfl⟩ : ∃ d', d = d' + 1 := ⟨d - 1, by omega⟩
  unfold f_X11_law_17 at h
  refine g_astoren (v := s0) rfl (Nat.le_of_ble_eq_true rfl) (L' := [some (.ref 0), some (.int y1), some (zrv s0)]) rfl ?_
  refine g_aloadn (v := s0) rfl rfl ?_
  rcases s0 with _ | a1
  · replace h := zNu_n h
    show zG _ _ _ _ 19 [some (.ref 0), some (.int y1), some (.null)] [.null] (gm g) _
    refine g_run 1 (pc' := 22) (L' := [some (.ref 0), some (.int y1), some (.null)]) (S' := []) (M' := gm g) rfl ?_
    refine g_run 2 (pc' := 24) (L' := [some (.ref 0), some (.int y1), some (.null)]) (S' := [.int (-1), .int y1]) (M' := gm g) rfl ?_
    refine g_icmp (y1 = (-1)) rfl (t := 29) rfl rfl (fun c4 => ?_) (fun c4 => ?_)
    · replace h := (if_pos c4).symm.trans h
      exact p_X11_law_29 hD (y1) none g _ h
    · replace h := (if_neg c4).symm.trans h
      refine g_run 1 (pc' := 28) (L' := [some (.ref 0), some (.int y1), some (.null)]) (S' := [.int 0]) (M' := gm g) rfl ?_
      cases h
      exact g_ret rfl rfl rfl rfl
  · replace h := zNu_s h
    by_cases h3 : (zK0 a1).1 = 4
    case neg => exact nomatch ((if_neg h3).symm.trans h)
    replace h := (if_pos h3).symm.trans h
    show zG _ _ _ _ 19 [some (.ref 0), some (.int y1), some (.ref a1)] [.ref a1] (gm g) _
    refine g_run 1 (pc' := 29) (L' := [some (.ref 0), some (.int y1), some (.ref a1)]) (S' := []) (M' := gm g) rfl ?_
    exact p_X11_law_29 hD (y1) (some (a1)) g _ h
def f_X11_law (x1 : Int32) (g : zSg) : Option (Int32 × zSg) := (if (gI g 0 11) ≤ x1 then f_X11_law_17 (x1) none g else (zB (f_X11_lawAt x1 g) (fun v2 g3 => f_X11_law_17 (x1) v2 g3)))
set_option maxRecDepth 100000 in
set_option maxHeartbeats 4000000 in
theorem p_X11_law {sc : zSc} {hp : zHp} {x1 : Int32} {g : zSg} {r : Int32 × zSg} (h : f_X11_law x1 g = some r) : zRn sc hp 1 zM_X11_law [.ref 0, .int x1] (gm g) (some (.int r.1)) (gm r.2) := by
  intro d hD
  obtain ⟨d, rfl⟩ : ∃ d', d = d' + 1 := ⟨d - 1, by omega⟩
  show zG _ sc hp (zcd zM_X11_law) 0 [some (.ref 0), some (.int x1), none] [] (gm g) _
  unfold f_X11_law at h
  refine g_run 3 (pc' := 5) (L' := [some (.ref 0), some (.int x1), none]) (S' := [.int ((gI g 0 11)), .int x1]) (M' := gm g) rfl ?_
  refine g_icmp ((gI g 0 11) ≤ x1) rfl (t := 16) rfl rfl (fun c1 => ?_) (fun c1 => ?_)
  · replace h := (if_pos c1).symm.trans h
    refine g_run 1 (pc' := 17) (L' := [some (.ref 0), some (.int x1), none]) (S' := [.null]) (M' := gm g) rfl ?_
    exact p_X11_law_17 hD (x1) none g _ h
  · replace h := (if_neg c1).symm.trans h
    refine g_run 2 (pc' := 10) (L' := [some (.ref 0), some (.int x1), none]) (S' := [.int x1, .ref 0]) (M' := gm g) rfl ?_
    replace h := zB_of h
    obtain ⟨v2, g3, e4, h⟩ := h
    refine g_inv2 (kd := 1) (p_X11_lawAt  e4) rfl rfl rfl (by decide) rfl rfl rfl rfl (by omega) (pc' := 13) rfl (S' := [zrv v2]) rfl ?_
    refine g_run 1 (pc' := 17) (L' := [some (.ref 0), some (.int x1), none]) (S' := [zrv v2]) (M' := gm g3) rfl ?_
    exact p_X11_law_17 hD (x1) v2 g3 _ h
def f_X11_rule (x1 : Int32) (g : zSg) : Option (Int32 × zSg) := (zB (f_X0_isTold 3 g) (fun v1 g2 => (if ¬ v1 = 0 then (if x1 = 0 then (zB (f_X0_wide 3 g2) (fun v6 g7 => some (v6, g7))) else (if x1 = 1 then (zB (f_X0_rows 3 g2) (fun v10 g11 => some (v10, g11))) else (if x1 = 2 then some ((gI g2 39 7), g2) else (if x1 = 3 then some ((gI g2 39 8), g2) else some ((-1), g2))))) else some ((-1), g2))))
set_option maxRecDepth 100000 in
set_option maxHeartbeats 4000000 in
theorem p_X11_rule {sc : zSc} {hp : zHp} {x1 : Int32} {g : zSg} {r : Int32 × zSg} (h : f_X11_rule x1 g = some r) : zRn sc hp 2 zM_X11_rule [.ref 0, .int x1] (gm g) (some (.int r.1)) (gm r.2) := by
  intro d hD
  obtain ⟨d, rfl⟩ : ∃ d', d = d' + 1 := ⟨d - 1, by omega⟩
  show zG _ sc hp (zcd zM_X11_rule) 0 [some (.ref 0), some (.int x1)] [] (gm g) _
  unfold f_X11_rule at h
  refine g_run 2 (pc' := 4) (L' := [some (.ref 0), some (.int x1)]) (S' := [.ref 3]) (M' := gm g) rfl ?_
  replace h := zB_of h
  obtain ⟨v1, g2, e3, h⟩ := h
  refine g_inv2 (kd := 1) (p_X0_isTold 3 rfl e3) rfl rfl rfl (by decide) rfl rfl rfl rfl (by omega) (pc' := 7) rfl (S' := [.int v1]) rfl ?_
  refine g_if (¬ v1 = 0) rfl (t := 12) rfl rfl (fun c4 => ?_) (fun c4 => ?_)
  · replace h := (if_pos c4).symm.trans h
    refine g_run 1 (pc' := 13) (L' := [some (.ref 0), some (.int x1)]) (S' := [.int x1]) (M' := gm g2) rfl ?_
    by_cases c5 : x1 = 0
    · replace h := (if_pos c5).symm.trans h
      refine g_swc c5 rfl rfl rfl (pc' := 44) rfl ?_
      refine g_run 2 (pc' := 48) (L' := [some (.ref 0), some (.int x1)]) (S' := [.ref 3]) (M' := gm g2) rfl ?_
      replace h := zB_of h
      obtain ⟨v6, g7, e8, h⟩ := h
      refine g_inv2 (kd := 1) (p_X0_wide 3 rfl e8) rfl rfl rfl (by decide) rfl rfl rfl rfl (by omega) (pc' := 51) rfl (S' := [.int v6]) rfl ?_
      cases h
      exact g_ret rfl rfl rfl rfl
    replace h := (if_neg c5).symm.trans h
    by_cases c9 : x1 = 1
    · replace h := (if_pos c9).symm.trans h
      refine g_swc c9 rfl rfl rfl (pc' := 52) rfl ?_
      refine g_run 2 (pc' := 56) (L' := [some (.ref 0), some (.int x1)]) (S' := [.ref 3]) (M' := gm g2) rfl ?_
      replace h := zB_of h
      obtain ⟨v10, g11, e12, h⟩ := h
      refine g_inv2 (kd := 1) (p_X0_rows 3 rfl e12) rfl rfl rfl (by decide) rfl rfl rfl rfl (by omega) (pc' := 59) rfl (S' := [.int v10]) rfl ?_
      cases h
      exact g_ret rfl rfl rfl rfl
    replace h := (if_neg c9).symm.trans h
    by_cases c13 : x1 = 2
    · replace h := (if_pos c13).symm.trans h
      refine g_swc c13 rfl rfl rfl (pc' := 60) rfl ?_
      refine g_run 3 (pc' := 67) (L' := [some (.ref 0), some (.int x1)]) (S' := [.int ((gI g2 39 7))]) (M' := gm g2) rfl ?_
      cases h
      exact g_ret rfl rfl rfl rfl
    replace h := (if_neg c13).symm.trans h
    by_cases c14 : x1 = 3
    · replace h := (if_pos c14).symm.trans h
      refine g_swc c14 rfl rfl rfl (pc' := 68) rfl ?_
      refine g_run 3 (pc' := 75) (L' := [some (.ref 0), some (.int x1)]) (S' := [.int ((gI g2 39 8))]) (M' := gm g2) rfl ?_
      cases h
      exact g_ret rfl rfl rfl rfl
    replace h := (if_neg c14).symm.trans h
    have hsw : (x1).toInt < 0 ∨ 3 < (x1).toInt := by
      have nc5 := lv_neT c5 (a := 0) rfl
      have nc9 := lv_neT c9 (a := 1) rfl
      have nc13 := lv_neT c13 (a := 2) rfl
      have nc14 := lv_neT c14 (a := 3) rfl
      omega
    refine g_tsd rfl hsw (t := 76) rfl ?_
    refine g_run 1 (pc' := 77) (L' := [some (.ref 0), some (.int x1)]) (S' := [.int (-1)]) (M' := gm g2) rfl ?_
    cases h
    exact g_ret rfl rfl rfl rfl
  · replace h := (if_neg c4).symm.trans h
    refine g_run 1 (pc' := 11) (L' := [some (.ref 0), some (.int x1)]) (S' := [.int (-1)]) (M' := gm g2) rfl ?_
    cases h
    exact g_ret rfl rfl rfl rfl
def f_X11_person_20 (g : zSg) : Option (Int32 × zSg) := none
set_option maxRecDepth 100000 in
set_option maxHeartbeats 4000000 in
theorem p_X11_person_20 {sc : zSc} {hp : zHp} {d : Nat} (hD : 3 ≤ d) (g : zSg) (r : Int32 × zSg) (h : f_X11_person_20 g = some r) : zG d sc hp (zcd zM_X11_person) 20 [none, none, none] [] (gm g) ((some (.int r.1)), gm r.2) := by
  obtain ⟨d, rfl⟩ : ∃ d', d = d' + 1 := ⟨d - 1, by omega⟩
  unfold f_X11_person_20 at h
  cases h
def f_X11_person (x1 : Int32) (x2 : Int32) (g : zSg) : Option (Int32 × zSg) := (zB (f_X0_hasPerson 3 x1 g) (fun v1 g2 => (if v1 = 0 then f_X11_person_20 g2 else (if x2 < 0 then f_X11_person_20 g2 else (if x2 ≤ 2 then (if x2 = 0 then (zB (f_X7_get 40 x1 g2) (fun v8 g9 => some (v8, g9))) else (if x2 = 1 then (zB (f_X0_nose 3 x1 g2) (fun v12 g13 => some (v12, g13))) else (zB (f_X8_knownBy 39 x1 g2) (fun v15 g16 => some (v15, g16))))) else f_X11_person_20 g2)))))
set_option maxRecDepth 100000 in
set_option maxHeartbeats 4000000 in
theorem p_X11_person {sc : zSc} {hp : zHp} {x1 : Int32} {x2 : Int32} {g : zSg} {r : Int32 × zSg} (h : f_X11_person x1 x2 g = some r) : zRn sc hp 3 zM_X11_person [.ref 0, .int x1, .int x2] (gm g) (some (.int r.1)) (gm r.2) := by
  intro d hD
  obtain ⟨d, rfl⟩ : ∃ d', d = d' + 1 := ⟨d - 1, by omega⟩
  show zG _ sc hp (zcd zM_X11_person) 0 [some (.ref 0), some (.int x1), some (.int x2)] [] (gm g) _
  unfold f_X11_person at h
  refine g_run 3 (pc' := 5) (L' := [some (.ref 0), some (.int x1), some (.int x2)]) (S' := [.int x1, .ref 3]) (M' := gm g) rfl ?_
  replace h := zB_of h
  obtain ⟨v1, g2, e3, h⟩ := h
  refine g_inv2 (kd := 1) (p_X0_hasPerson 3 rfl e3) rfl rfl rfl (by decide) rfl rfl rfl rfl (by omega) (pc' := 8) rfl (S' := [.int v1]) rfl ?_
  refine g_if (v1 = 0) rfl (t := 20) rfl rfl (fun c4 => ?_) (fun c4 => ?_)
  · replace h := (if_pos c4).symm.trans h
    refine g_forget (L' := [none, none, none]) True.intro ?_
    exact p_X11_person_20 hD g2 _ h
  · replace h := (if_neg c4).symm.trans h
    refine g_run 1 (pc' := 12) (L' := [some (.ref 0), some (.int x1), some (.int x2)]) (S' := [.int x2]) (M' := gm g2) rfl ?_
    refine g_if (x2 < 0) rfl (t := 20) rfl rfl (fun c5 => ?_) (fun c5 => ?_)
    · replace h := (if_pos c5).symm.trans h
      refine g_forget (L' := [none, none, none]) True.intro ?_
      exact p_X11_person_20 hD g2 _ h
    · replace h := (if_neg c5).symm.trans h
      refine g_run 2 (pc' := 17) (L' := [some (.ref 0), some (.int x1), some (.int x2)]) (S' := [.int 2, .int x2]) (M' := gm g2) rfl ?_
      refine g_icmp (x2 ≤ 2) rfl (t := 28) rfl rfl (fun c6 => ?_) (fun c6 => ?_)
      · replace h := (if_pos c6).symm.trans h
        refine g_run 1 (pc' := 29) (L' := [some (.ref 0), some (.int x1), some (.int x2)]) (S' := [.int x2]) (M' := gm g2) rfl ?_
        by_cases c7 : x2 = 0
        · replace h := (if_pos c7).symm.trans h
          refine g_swc c7 rfl rfl rfl (pc' := 56) rfl ?_
          refine g_run 4 (pc' := 64) (L' := [some (.ref 0), some (.int x1), some (.int x2)]) (S' := [.int x1, .ref 40]) (M' := gm g2) rfl ?_
          replace h := zB_of h
          obtain ⟨v8, g9, e10, h⟩ := h
          refine g_inv2 (kd := 1) (p_X7_get 40 rfl e10) rfl rfl rfl (by decide) rfl rfl rfl rfl (by omega) (pc' := 67) rfl (S' := [.int v8]) rfl ?_
          cases h
          exact g_ret rfl rfl rfl rfl
        replace h := (if_neg c7).symm.trans h
        by_cases c11 : x2 = 1
        · replace h := (if_pos c11).symm.trans h
          refine g_swc c11 rfl rfl rfl (pc' := 68) rfl ?_
          refine g_run 3 (pc' := 73) (L' := [some (.ref 0), some (.int x1), some (.int x2)]) (S' := [.int x1, .ref 3]) (M' := gm g2) rfl ?_
          replace h := zB_of h
          obtain ⟨v12, g13, e14, h⟩ := h
          refine g_inv2 (kd := 1) (p_X0_nose 3 rfl e14) rfl rfl rfl (by decide) rfl rfl rfl rfl (by omega) (pc' := 76) rfl (S' := [.int v12]) rfl ?_
          cases h
          exact g_ret rfl rfl rfl rfl
        replace h := (if_neg c11).symm.trans h
        refine g_lsd rfl rfl (off := 48) (by show Op.lookupswitch.offset [(0, 27), (1, 39)] 48 (x2).toInt = _; rw [lv_osw (a := 0) c7 rfl]; rw [lv_osw (a := 1) c11 rfl]; rfl) (t := 77) rfl ?_
        refine g_run 3 (pc' := 82) (L' := [some (.ref 0), some (.int x1), some (.int x2)]) (S' := [.int x1, .ref 39]) (M' := gm g2) rfl ?_
        replace h := zB_of h
        obtain ⟨v15, g16, e17, h⟩ := h
        refine g_inv2 (kd := 1) (p_X8_knownBy 39 rfl e17) rfl rfl rfl (by decide) rfl rfl rfl rfl (by omega) (pc' := 85) rfl (S' := [.int v15]) rfl ?_
        cases h
        exact g_ret rfl rfl rfl rfl
      · replace h := (if_neg c6).symm.trans h
        refine g_forget (L' := [none, none, none]) True.intro ?_
        exact p_X11_person_20 hD g2 _ h
def f_X11_secret (x1 : Int32) (x2 : Int32) (g : zSg) : Option (Int32 × zSg) := (zB (f_X0_hasSecret 3 x1 g) (fun v1 g2 => (if ¬ v1 = 0 then (if x2 = 0 then (zB (f_X0_owner 3 x1 g2) (fun v6 g7 => some (v6, g7))) else (if x2 = 1 then (zB (f_X0_heavy 3 x1 g2) (fun v10 g11 => some (v10, g11))) else (if x2 = 2 then (zB (f_X0_shed 3 x1 g2) (fun v14 g15 => some (v14, g15))) else (if x2 = 3 then (zB (f_X8_hangs 39 x1 g2) (fun v18 g19 => (if v18 = 0 then some (0, g19) else some (1, g19)))) else (if x2 = 4 then (zB (f_X7_get 42 x1 g2) (fun v23 g24 => some (v23, g24))) else (if x2 = 5 then (zB (f_X8_isCured 39 x1 g2) (fun v27 g28 => (if v27 = 0 then some (0, g28) else some (1, g28)))) else (if x2 = 6 then (zB (f_X7_get 44 x1 g2) (fun v32 g33 => some (v32, g33))) else some ((-1), g2)))))))) else some ((-1), g2))))
set_option maxRecDepth 100000 in
set_option maxHeartbeats 4000000 in
theorem p_X11_secret {sc : zSc} {hp : zHp} {x1 : Int32} {x2 : Int32} {g : zSg} {r : Int32 × zSg} (h : f_X11_secret x1 x2 g = some r) : zRn sc hp 2 zM_X11_secret [.ref 0, .int x1, .int x2] (gm g) (some (.int r.1)) (gm r.2) := by
  intro d hD
  obtain ⟨d, rfl⟩ : ∃ d', d = d' + 1 := ⟨d - 1, by omega⟩
  show zG _ sc hp (zcd zM_X11_secret) 0 [some (.ref 0), some (.int x1), some (.int x2)] [] (gm g) _
  unfold f_X11_secret at h
  refine g_run 3 (pc' := 5) (L' := [some (.ref 0), some (.int x1), some (.int x2)]) (S' := [.int x1, .ref 3]) (M' := gm g) rfl ?_
  replace h := zB_of h
  obtain ⟨v1, g2, e3, h⟩ := h
  refine g_inv2 (kd := 1) (p_X0_hasSecret 3 rfl e3) rfl rfl rfl (by decide) rfl rfl rfl rfl (by omega) (pc' := 8) rfl (S' := [.int v1]) rfl ?_
  refine g_if (¬ v1 = 0) rfl (t := 13) rfl rfl (fun c4 => ?_) (fun c4 => ?_)
  · replace h := (if_pos c4).symm.trans h
    refine g_run 1 (pc' := 14) (L' := [some (.ref 0), some (.int x1), some (.int x2)]) (S' := [.int x2]) (M' := gm g2) rfl ?_
    by_cases c5 : x2 = 0
    · replace h := (if_pos c5).symm.trans h
      refine g_swc c5 rfl rfl rfl (pc' := 56) rfl ?_
      refine g_run 3 (pc' := 61) (L' := [some (.ref 0), some (.int x1), some (.int x2)]) (S' := [.int x1, .ref 3]) (M' := gm g2) rfl ?_
      replace h := zB_of h
      obtain ⟨v6, g7, e8, h⟩ := h
      refine g_inv2 (kd := 1) (p_X0_owner 3 rfl e8) rfl rfl rfl (by decide) rfl rfl rfl rfl (by omega) (pc' := 64) rfl (S' := [.int v6]) rfl ?_
      cases h
      exact g_ret rfl rfl rfl rfl
    replace h := (if_neg c5).symm.trans h
    by_cases c9 : x2 = 1
    · replace h := (if_pos c9).symm.trans h
      refine g_swc c9 rfl rfl rfl (pc' := 65) rfl ?_
      refine g_run 3 (pc' := 70) (L' := [some (.ref 0), some (.int x1), some (.int x2)]) (S' := [.int x1, .ref 3]) (M' := gm g2) rfl ?_
      replace h := zB_of h
      obtain ⟨v10, g11, e12, h⟩ := h
      refine g_inv2 (kd := 1) (p_X0_heavy 3 rfl e12) rfl rfl rfl (by decide) rfl rfl rfl rfl (by omega) (pc' := 73) rfl (S' := [.int v10]) rfl ?_
      cases h
      exact g_ret rfl rfl rfl rfl
    replace h := (if_neg c9).symm.trans h
    by_cases c13 : x2 = 2
    · replace h := (if_pos c13).symm.trans h
      refine g_swc c13 rfl rfl rfl (pc' := 74) rfl ?_
      refine g_run 3 (pc' := 79) (L' := [some (.ref 0), some (.int x1), some (.int x2)]) (S' := [.int x1, .ref 3]) (M' := gm g2) rfl ?_
      replace h := zB_of h
      obtain ⟨v14, g15, e16, h⟩ := h
      refine g_inv2 (kd := 1) (p_X0_shed 3 rfl e16) rfl rfl rfl (by decide) rfl rfl rfl rfl (by omega) (pc' := 82) rfl (S' := [.int v14]) rfl ?_
      cases h
      exact g_ret rfl rfl rfl rfl
    replace h := (if_neg c13).symm.trans h
    by_cases c17 : x2 = 3
    · replace h := (if_pos c17).symm.trans h
      refine g_swc c17 rfl rfl rfl (pc' := 83) rfl ?_
      refine g_run 3 (pc' := 88) (L' := [some (.ref 0), some (.int x1), some (.int x2)]) (S' := [.int x1, .ref 39]) (M' := gm g2) rfl ?_
      replace h := zB_of h
      obtain ⟨v18, g19, e20, h⟩ := h
      refine g_inv2 (kd := 1) (p_X8_hangs 39 rfl e20) rfl rfl rfl (by decide) rfl rfl rfl rfl (by omega) (pc' := 91) rfl (S' := [.int v18]) rfl ?_
      refine g_if (v18 = 0) rfl (t := 98) rfl rfl (fun c21 => ?_) (fun c21 => ?_)
      · replace h := (if_pos c21).symm.trans h
        refine g_run 1 (pc' := 99) (L' := [some (.ref 0), some (.int x1), some (.int x2)]) (S' := [.int 0]) (M' := gm g19) rfl ?_
        cases h
        exact g_ret rfl rfl rfl rfl
      · replace h := (if_neg c21).symm.trans h
        refine g_run 2 (pc' := 99) (L' := [some (.ref 0), some (.int x1), some (.int x2)]) (S' := [.int 1]) (M' := gm g19) rfl ?_
        cases h
        exact g_ret rfl rfl rfl rfl
    replace h := (if_neg c17).symm.trans h
    by_cases c22 : x2 = 4
    · replace h := (if_pos c22).symm.trans h
      refine g_swc c22 rfl rfl rfl (pc' := 100) rfl ?_
      refine g_run 4 (pc' := 108) (L' := [some (.ref 0), some (.int x1), some (.int x2)]) (S' := [.int x1, .ref 42]) (M' := gm g2) rfl ?_
      replace h := zB_of h
      obtain ⟨v23, g24, e25, h⟩ := h
      refine g_inv2 (kd := 1) (p_X7_get 42 rfl e25) rfl rfl rfl (by decide) rfl rfl rfl rfl (by omega) (pc' := 111) rfl (S' := [.int v23]) rfl ?_
      cases h
      exact g_ret rfl rfl rfl rfl
    replace h := (if_neg c22).symm.trans h
    by_cases c26 : x2 = 5
    · replace h := (if_pos c26).symm.trans h
      refine g_swc c26 rfl rfl rfl (pc' := 112) rfl ?_
      refine g_run 3 (pc' := 117) (L' := [some (.ref 0), some (.int x1), some (.int x2)]) (S' := [.int x1, .ref 39]) (M' := gm g2) rfl ?_
      replace h := zB_of h
      obtain ⟨v27, g28, e29, h⟩ := h
      refine g_inv2 (kd := 1) (p_X8_isCured 39 rfl e29) rfl rfl rfl (by decide) rfl rfl rfl rfl (by omega) (pc' := 120) rfl (S' := [.int v27]) rfl ?_
      refine g_if (v27 = 0) rfl (t := 127) rfl rfl (fun c30 => ?_) (fun c30 => ?_)
      · replace h := (if_pos c30).symm.trans h
        refine g_run 1 (pc' := 128) (L' := [some (.ref 0), some (.int x1), some (.int x2)]) (S' := [.int 0]) (M' := gm g28) rfl ?_
        cases h
        exact g_ret rfl rfl rfl rfl
      · replace h := (if_neg c30).symm.trans h
        refine g_run 2 (pc' := 128) (L' := [some (.ref 0), some (.int x1), some (.int x2)]) (S' := [.int 1]) (M' := gm g28) rfl ?_
        cases h
        exact g_ret rfl rfl rfl rfl
    replace h := (if_neg c26).symm.trans h
    by_cases c31 : x2 = 6
    · replace h := (if_pos c31).symm.trans h
      refine g_swc c31 rfl rfl rfl (pc' := 129) rfl ?_
      refine g_run 4 (pc' := 137) (L' := [some (.ref 0), some (.int x1), some (.int x2)]) (S' := [.int x1, .ref 44]) (M' := gm g2) rfl ?_
      replace h := zB_of h
      obtain ⟨v32, g33, e34, h⟩ := h
      refine g_inv2 (kd := 1) (p_X7_get 44 rfl e34) rfl rfl rfl (by decide) rfl rfl rfl rfl (by omega) (pc' := 140) rfl (S' := [.int v32]) rfl ?_
      cases h
      exact g_ret rfl rfl rfl rfl
    replace h := (if_neg c31).symm.trans h
    have hsw : (x2).toInt < 0 ∨ 6 < (x2).toInt := by
      have nc5 := lv_neT c5 (a := 0) rfl
      have nc9 := lv_neT c9 (a := 1) rfl
      have nc13 := lv_neT c13 (a := 2) rfl
      have nc17 := lv_neT c17 (a := 3) rfl
      have nc22 := lv_neT c22 (a := 4) rfl
      have nc26 := lv_neT c26 (a := 5) rfl
      have nc31 := lv_neT c31 (a := 6) rfl
      omega
    refine g_tsd rfl hsw (t := 141) rfl ?_
    refine g_run 1 (pc' := 142) (L' := [some (.ref 0), some (.int x1), some (.int x2)]) (S' := [.int (-1)]) (M' := gm g2) rfl ?_
    cases h
    exact g_ret rfl rfl rfl rfl
  · replace h := (if_neg c4).symm.trans h
    refine g_run 1 (pc' := 12) (L' := [some (.ref 0), some (.int x1), some (.int x2)]) (S' := [.int (-1)]) (M' := gm g2) rfl ?_
    cases h
    exact g_ret rfl rfl rfl rfl
def f_X11_breath (x1 : Int32) (x2 : Int32) (g : zSg) : Option (Int32 × zSg) := (zB (f_X0_hasBoth 3 x1 x2 g) (fun v1 g2 => (if v1 = 0 then some ((-1), g2) else (zB (f_X8_breathOf 39 x1 x2 g2) (fun v5 g6 => some (v5, g6))))))
set_option maxRecDepth 100000 in
set_option maxHeartbeats 4000000 in
theorem p_X11_breath {sc : zSc} {hp : zHp} {x1 : Int32} {x2 : Int32} {g : zSg} {r : Int32 × zSg} (h : f_X11_breath x1 x2 g = some r) : zRn sc hp 2 zM_X11_breath [.ref 0, .int x1, .int x2] (gm g) (some (.int r.1)) (gm r.2) := by
  intro d hD
  obtain ⟨d, rfl⟩ : ∃ d', d = d' + 1 := ⟨d - 1, by omega⟩
  show zG _ sc hp (zcd zM_X11_breath) 0 [some (.ref 0), some (.int x1), some (.int x2)] [] (gm g) _
  unfold f_X11_breath at h
  refine g_run 4 (pc' := 6) (L' := [some (.ref 0), some (.int x1), some (.int x2)]) (S' := [.int x2, .int x1, .ref 3]) (M' := gm g) rfl ?_
  replace h := zB_of h
  obtain ⟨v1, g2, e3, h⟩ := h
  refine g_inv2 (kd := 1) (p_X0_hasBoth 3 rfl e3) rfl rfl rfl (by decide) rfl rfl rfl rfl (by omega) (pc' := 9) rfl (S' := [.int v1]) rfl ?_
  refine g_if (v1 = 0) rfl (t := 24) rfl rfl (fun c4 => ?_) (fun c4 => ?_)
  · replace h := (if_pos c4).symm.trans h
    refine g_run 1 (pc' := 25) (L' := [some (.ref 0), some (.int x1), some (.int x2)]) (S' := [.int (-1)]) (M' := gm g2) rfl ?_
    cases h
    exact g_ret rfl rfl rfl rfl
  · replace h := (if_neg c4).symm.trans h
    refine g_run 4 (pc' := 18) (L' := [some (.ref 0), some (.int x1), some (.int x2)]) (S' := [.int x2, .int x1, .ref 39]) (M' := gm g2) rfl ?_
    replace h := zB_of h
    obtain ⟨v5, g6, e7, h⟩ := h
    refine g_inv2 (kd := 1) (p_X8_breathOf 39 rfl e7) rfl rfl rfl (by decide) rfl rfl rfl rfl (by omega) (pc' := 21) rfl (S' := [.int v5]) rfl ?_
    refine g_run 1 (pc' := 25) (L' := [some (.ref 0), some (.int x1), some (.int x2)]) (S' := [.int v5]) (M' := gm g6) rfl ?_
    cases h
    exact g_ret rfl rfl rfl rfl
def f_X11_strength (x1 : Int32) (x2 : Int32) (g : zSg) : Option (Int32 × zSg) := (zB (f_X0_hasSecret 3 x1 g) (fun v1 g2 => (if v1 = 0 then some ((-1), g2) else (zB (f_X0_hasCell 3 x2 g2) (fun v5 g6 => (if ¬ v5 = 0 then (zB (f_X0_heavy 3 x1 g6) (fun v9 g10 => (zB (f_X10_strengthAt 39 x1 x2 v9 g10) (fun v12 g13 => some (v12, g13))))) else some ((-1), g6)))))))
set_option maxRecDepth 100000 in
set_option maxHeartbeats 4000000 in
theorem p_X11_strength {sc : zSc} {hp : zHp} {x1 : Int32} {x2 : Int32} {g : zSg} {r : Int32 × zSg} (h : f_X11_strength x1 x2 g = some r) : zRn sc hp 19 zM_X11_strength [.ref 0, .int x1, .int x2] (gm g) (some (.int r.1)) (gm r.2) := by
  intro d hD
  obtain ⟨d, rfl⟩ : ∃ d', d = d' + 1 := ⟨d - 1, by omega⟩
  show zG _ sc hp (zcd zM_X11_strength) 0 [some (.ref 0), some (.int x1), some (.int x2)] [] (gm g) _
  unfold f_X11_strength at h
  refine g_run 3 (pc' := 5) (L' := [some (.ref 0), some (.int x1), some (.int x2)]) (S' := [.int x1, .ref 3]) (M' := gm g) rfl ?_
  replace h := zB_of h
  obtain ⟨v1, g2, e3, h⟩ := h
  refine g_inv2 (kd := 1) (p_X0_hasSecret 3 rfl e3) rfl rfl rfl (by decide) rfl rfl rfl rfl (by omega) (pc' := 8) rfl (S' := [.int v1]) rfl ?_
  refine g_if (v1 = 0) rfl (t := 22) rfl rfl (fun c4 => ?_) (fun c4 => ?_)
  · replace h := (if_pos c4).symm.trans h
    refine g_run 1 (pc' := 23) (L' := [some (.ref 0), some (.int x1), some (.int x2)]) (S' := [.int (-1)]) (M' := gm g2) rfl ?_
    cases h
    exact g_ret rfl rfl rfl rfl
  · replace h := (if_neg c4).symm.trans h
    refine g_run 3 (pc' := 16) (L' := [some (.ref 0), some (.int x1), some (.int x2)]) (S' := [.int x2, .ref 3]) (M' := gm g2) rfl ?_
    replace h := zB_of h
    obtain ⟨v5, g6, e7, h⟩ := h
    refine g_inv2 (kd := 1) (p_X0_hasCell 3 rfl e7) rfl rfl rfl (by decide) rfl rfl rfl rfl (by omega) (pc' := 19) rfl (S' := [.int v5]) rfl ?_
    refine g_if (¬ v5 = 0) rfl (t := 24) rfl rfl (fun c8 => ?_) (fun c8 => ?_)
    · replace h := (if_pos c8).symm.trans h
      refine g_run 9 (pc' := 39) (L' := [some (.ref 0), some (.int x1), some (.int x2)]) (S' := [.int x1, .ref 3, .int x2, .int x1, .ref 39, .ref 423]) (M' := gm g6) rfl ?_
      replace h := zB_of h
      obtain ⟨v9, g10, e11, h⟩ := h
      refine g_inv2 (kd := 1) (p_X0_heavy 3 rfl e11) rfl rfl rfl (by decide) rfl rfl rfl rfl (by omega) (pc' := 42) rfl (S' := [.int v9, .int x2, .int x1, .ref 39, .ref 423]) rfl ?_
      replace h := zB_of h
      obtain ⟨v12, g13, e14, h⟩ := h
      refine g_inv2 (kd := 1) (p_X10_strengthAt 39 rfl e14) rfl rfl rfl (by decide) rfl rfl rfl rfl (by omega) (pc' := 45) rfl (S' := [.int v12]) rfl ?_
      cases h
      exact g_ret rfl rfl rfl rfl
    · replace h := (if_neg c8).symm.trans h
      refine g_run 1 (pc' := 23) (L' := [some (.ref 0), some (.int x1), some (.int x2)]) (S' := [.int (-1)]) (M' := gm g6) rfl ?_
      cases h
      exact g_ret rfl rfl rfl rfl
def f_X11_smells (x1 : Int32) (g : zSg) : Option (Int32 × zSg) := (zB (f_X0_hasSecret 3 x1 g) (fun v1 g2 => (if v1 = 0 then some ((-1), g2) else (zB (f_X10_smellingCells 39 x1 g2) (fun v5 g6 => some (v5, g6))))))
set_option maxRecDepth 100000 in
set_option maxHeartbeats 4000000 in
theorem p_X11_smells {sc : zSc} {hp : zHp} {x1 : Int32} {g : zSg} {r : Int32 × zSg} (h : f_X11_smells x1 g = some r) : zRn sc hp 20 zM_X11_smells [.ref 0, .int x1] (gm g) (some (.int r.1)) (gm r.2) := by
  intro d hD
  obtain ⟨d, rfl⟩ : ∃ d', d = d' + 1 := ⟨d - 1, by omega⟩
  show zG _ sc hp (zcd zM_X11_smells) 0 [some (.ref 0), some (.int x1)] [] (gm g) _
  unfold f_X11_smells at h
  refine g_run 3 (pc' := 5) (L' := [some (.ref 0), some (.int x1)]) (S' := [.int x1, .ref 3]) (M' := gm g) rfl ?_
  replace h := zB_of h
  obtain ⟨v1, g2, e3, h⟩ := h
  refine g_inv2 (kd := 1) (p_X0_hasSecret 3 rfl e3) rfl rfl rfl (by decide) rfl rfl rfl rfl (by omega) (pc' := 8) rfl (S' := [.int v1]) rfl ?_
  refine g_if (v1 = 0) rfl (t := 26) rfl rfl (fun c4 => ?_) (fun c4 => ?_)
  · replace h := (if_pos c4).symm.trans h
    refine g_run 1 (pc' := 27) (L' := [some (.ref 0), some (.int x1)]) (S' := [.int (-1)]) (M' := gm g2) rfl ?_
    cases h
    exact g_ret rfl rfl rfl rfl
  · replace h := (if_neg c4).symm.trans h
    refine g_run 5 (pc' := 20) (L' := [some (.ref 0), some (.int x1)]) (S' := [.int x1, .ref 39, .ref 423]) (M' := gm g2) rfl ?_
    replace h := zB_of h
    obtain ⟨v5, g6, e7, h⟩ := h
    refine g_inv2 (kd := 1) (p_X10_smellingCells 39 rfl e7) rfl rfl rfl (by decide) rfl rfl rfl rfl (by omega) (pc' := 23) rfl (S' := [.int v5]) rfl ?_
    refine g_run 1 (pc' := 27) (L' := [some (.ref 0), some (.int x1)]) (S' := [.int v5]) (M' := gm g6) rfl ?_
    cases h
    exact g_ret rfl rfl rfl rfl
def f_X11_air (x1 : Int32) (g : zSg) : Option (Int32 × zSg) := (zB (f_X0_hasCell 3 x1 g) (fun v1 g2 => (if v1 = 0 then some ((-1), g2) else (zB (f_X10_airAt 39 x1 g2) (fun v5 g6 => some (v5, g6))))))
set_option maxRecDepth 100000 in
set_option maxHeartbeats 4000000 in
theorem p_X11_air {sc : zSc} {hp : zHp} {x1 : Int32} {g : zSg} {r : Int32 × zSg} (h : f_X11_air x1 g = some r) : zRn sc hp 20 zM_X11_air [.ref 0, .int x1] (gm g) (some (.int r.1)) (gm r.2) := by
  intro d hD
  obtain ⟨d, rfl⟩ : ∃ d', d = d' + 1 := ⟨d - 1, by omega⟩
  show zG _ sc hp (zcd zM_X11_air) 0 [some (.ref 0), some (.int x1)] [] (gm g) _
  unfold f_X11_air at h
  refine g_run 3 (pc' := 5) (L' := [some (.ref 0), some (.int x1)]) (S' := [.int x1, .ref 3]) (M' := gm g) rfl ?_
  replace h := zB_of h
  obtain ⟨v1, g2, e3, h⟩ := h
  refine g_inv2 (kd := 1) (p_X0_hasCell 3 rfl e3) rfl rfl rfl (by decide) rfl rfl rfl rfl (by omega) (pc' := 8) rfl (S' := [.int v1]) rfl ?_
  refine g_if (v1 = 0) rfl (t := 26) rfl rfl (fun c4 => ?_) (fun c4 => ?_)
  · replace h := (if_pos c4).symm.trans h
    refine g_run 1 (pc' := 27) (L' := [some (.ref 0), some (.int x1)]) (S' := [.int (-1)]) (M' := gm g2) rfl ?_
    cases h
    exact g_ret rfl rfl rfl rfl
  · replace h := (if_neg c4).symm.trans h
    refine g_run 5 (pc' := 20) (L' := [some (.ref 0), some (.int x1)]) (S' := [.int x1, .ref 39, .ref 423]) (M' := gm g2) rfl ?_
    replace h := zB_of h
    obtain ⟨v5, g6, e7, h⟩ := h
    refine g_inv2 (kd := 1) (p_X10_airAt 39 rfl e7) rfl rfl rfl (by decide) rfl rfl rfl rfl (by omega) (pc' := 23) rfl (S' := [.int v5]) rfl ?_
    refine g_run 1 (pc' := 27) (L' := [some (.ref 0), some (.int x1)]) (S' := [.int v5]) (M' := gm g6) rfl ?_
    cases h
    exact g_ret rfl rfl rfl rfl
def f_X11_shares_59 (y1 : Int32) (y2 : Int32) (y3 : Int32) (g : zSg) : Option (Int32 × zSg) := (if ¬ y3 = 0 then (zB (f_X8_breathsOf 39 y1 g) (fun v2 g3 => (if y3 = 0 then none else some (((y2 * v2) / y3), g3)))) else some (0, g))
set_option maxRecDepth 100000 in
set_option maxHeartbeats 4000000 in
theorem p_X11_shares_59 {sc : zSc} {hp : zHp} {d : Nat} (hD : 3 ≤ d) (y1 : Int32) (y2 : Int32) (y3 : Int32) (g : zSg) (r : Int32 × zSg) (h : f_X11_shares_59 y1 y2 y3 g = some r) : zG d sc hp (zcd zM_X11_shares) 59 [some (.ref 0), some (.int y1), some (.int y2), some (.int y3), none] [] (gm g) ((some (.int r.1)), gm r.2) := by
  obtain ⟨d, rfl⟩ : ∃ d', d = d' + 1 := ⟨d - 1, by omega⟩
  unfold f_X11_shares_59 at h
  refine g_run 1 (pc' := 60) (L' := [some (.ref 0), some (.int y1), some (.int y2), some (.int y3), none]) (S' := [.int y3]) (M' := gm g) rfl ?_
  refine g_if (¬ y3 = 0) rfl (t := 67) rfl rfl (fun c1 => ?_) (fun c1 => ?_)
  · replace h := (if_pos c1).symm.trans h
    refine g_run 4 (pc' := 73) (L' := [some (.ref 0), some (.int y1), some (.int y2), some (.int y3), none]) (S' := [.int y1, .ref 39, .int y2]) (M' := gm g) rfl ?_
    replace h := zB_of h
    obtain ⟨v2, g3, e4, h⟩ := h
    refine g_inv2 (kd := 1) (p_X8_breathsOf 39 rfl e4) rfl rfl rfl (by decide) rfl rfl rfl rfl (by omega) (pc' := 76) rfl (S' := [.int v2, .int y2]) rfl ?_
    refine g_run 2 (pc' := 78) (L' := [some (.ref 0), some (.int y1), some (.int y2), some (.int y3), none]) (S' := [.int y3, .int ((y2 * v2))]) (M' := gm g3) rfl ?_
    by_cases c5 : y3 = 0
    case pos => exact nomatch ((if_pos c5).symm.trans h)
    replace h := (if_neg c5).symm.trans h
    refine g_div rfl c5 ?_
    cases h
    exact g_ret rfl rfl rfl rfl
  · replace h := (if_neg c1).symm.trans h
    refine g_run 2 (pc' := 79) (L' := [some (.ref 0), some (.int y1), some (.int y2), some (.int y3), none]) (S' := [.int 0]) (M' := gm g) rfl ?_
    cases h
    exact g_ret rfl rfl rfl rfl
def fb_X11_shares_29 (kk : Int32 → Int32 → Int32 → Int32 → zSg → Option (Int32 × zSg)) (y1 : Int32) (y2 : Int32) (y3 : Int32) (y4 : Int32) (g : zSg) : Option (Int32 × zSg) := (zB (f_X0_persons 3 g) (fun v1 g2 => (if v1 ≤ y4 then f_X11_shares_59 (y1) (y2) (y3) g2 else (zB (f_X8_breathsOf 39 y4 g2) (fun v5 g6 => kk (y1) (y2) (y3 + v5) (y4 + 1) g6)))))
def f_X11_shares_29 : Nat → Int32 → Int32 → Int32 → Int32 → zSg → Option (Int32 × zSg)
  | 0, _, _, _, _, _ => none
  | n + 1, y1, y2, y3, y4, g => fb_X11_shares_29 (f_X11_shares_29 n) y1 y2 y3 y4 g
set_option maxRecDepth 100000 in
set_option maxHeartbeats 4000000 in
theorem p_X11_shares_29 {sc : zSc} {hp : zHp} {d : Nat} (hD : 3 ≤ d) : ∀ (n : Nat) (y1 : Int32) (y2 : Int32) (y3 : Int32) (y4 : Int32) (g : zSg) (r : Int32 × zSg), f_X11_shares_29 n y1 y2 y3 y4 g = some r → zG d sc hp (zcd zM_X11_shares) 29 [some (.ref 0), some (.int y1), some (.int y2), some (.int y3), some (.int y4)] [] (gm g) ((some (.int r.1)), gm r.2) := by
  obtain ⟨d, rfl⟩ : ∃ d', d = d' + 1 := ⟨d - 1, by omega⟩
  intro n
  induction n with
  | zero => intro y1 y2 y3 y4 g r h; cases h
  | succ n ih =>
    intro y1 y2 y3 y4 g r h
    replace h : fb_X11_shares_29 (f_X11_shares_29 n) y1 y2 y3 y4 g = some r := h
    unfold fb_X11_shares_29 at h
    refine g_run 3 (pc' := 35) (L' := [some (.ref 0), some (.int y1), some (.int y2), some (.int y3), some (.int y4)]) (S' := [.ref 3, .int y4]) (M' := gm g) rfl ?_
    replace h := zB_of h
    obtain ⟨v1, g2, e3, h⟩ := h
    refine g_inv2 (kd := 1) (p_X0_persons 3 rfl e3) rfl rfl rfl (by decide) rfl rfl rfl rfl (by omega) (pc' := 38) rfl (S' := [.int v1, .int y4]) rfl ?_
    refine g_icmp (v1 ≤ y4) rfl (t := 59) rfl rfl (fun c4 => ?_) (fun c4 => ?_)
    · replace h := (if_pos c4).symm.trans h
      refine g_forget (L' := [some (.ref 0), some (.int y1), some (.int y2), some (.int y3), none]) (And.intro rfl (And.intro rfl (And.intro rfl (And.intro rfl True.intro)))) ?_
      exact p_X11_shares_59 hD (y1) (y2) (y3) g2 _ h
    · replace h := (if_neg c4).symm.trans h
      refine g_run 4 (pc' := 48) (L' := [some (.ref 0), some (.int y1), some (.int y2), some (.int y3), some (.int y4)]) (S' := [.int y4, .ref 39, .int y3]) (M' := gm g2) rfl ?_
      replace h := zB_of h
      obtain ⟨v5, g6, e7, h⟩ := h
      refine g_inv2 (kd := 1) (p_X8_breathsOf 39 rfl e7) rfl rfl rfl (by decide) rfl rfl rfl rfl (by omega) (pc' := 51) rfl (S' := [.int v5, .int y3]) rfl ?_
      refine g_run 4 (pc' := 29) (L' := [some (.ref 0), some (.int y1), some (.int y2), some (.int ((y3 + v5))), some (.int ((y4 + 1)))]) (S' := []) (M' := gm g6) rfl ?_
      exact ih (y1) (y2) (y3 + v5) (y4 + 1) g6 _ h
def f_X11_shares (x1 : Int32) (x2 : Int32) (g : zSg) : Option (Int32 × zSg) := (zB (f_X0_hasPerson 3 x1 g) (fun v1 g2 => (if v1 = 0 then some ((-1), g2) else (if x2 < 0 then some ((-1), g2) else (if x2 ≤ 999 then f_X11_shares_29 zFu (x1) (x2) (0) (0) g2 else some ((-1), g2))))))
set_option maxRecDepth 100000 in
set_option maxHeartbeats 4000000 in
theorem p_X11_shares {sc : zSc} {hp : zHp} {x1 : Int32} {x2 : Int32} {g : zSg} {r : Int32 × zSg} (h : f_X11_shares x1 x2 g = some r) : zRn sc hp 3 zM_X11_shares [.ref 0, .int x1, .int x2] (gm g) (some (.int r.1)) (gm r.2) := by
  intro d hD
  obtain ⟨d, rfl⟩ : ∃ d', d = d' + 1 := ⟨d - 1, by omega⟩
  show zG _ sc hp (zcd zM_X11_shares) 0 [some (.ref 0), some (.int x1), some (.int x2), none, none] [] (gm g) _
  unfold f_X11_shares at h
  refine g_run 3 (pc' := 5) (L' := [some (.ref 0), some (.int x1), some (.int x2), none, none]) (S' := [.int x1, .ref 3]) (M' := gm g) rfl ?_
  replace h := zB_of h
  obtain ⟨v1, g2, e3, h⟩ := h
  refine g_inv2 (kd := 1) (p_X0_hasPerson 3 rfl e3) rfl rfl rfl (by decide) rfl rfl rfl rfl (by omega) (pc' := 8) rfl (S' := [.int v1]) rfl ?_
  refine g_if (v1 = 0) rfl (t := 22) rfl rfl (fun c4 => ?_) (fun c4 => ?_)
  · replace h := (if_pos c4).symm.trans h
    refine g_run 1 (pc' := 23) (L' := [some (.ref 0), some (.int x1), some (.int x2), none, none]) (S' := [.int (-1)]) (M' := gm g2) rfl ?_
    cases h
    exact g_ret rfl rfl rfl rfl
  · replace h := (if_neg c4).symm.trans h
    refine g_run 1 (pc' := 12) (L' := [some (.ref 0), some (.int x1), some (.int x2), none, none]) (S' := [.int x2]) (M' := gm g2) rfl ?_
    refine g_if (x2 < 0) rfl (t := 22) rfl rfl (fun c5 => ?_) (fun c5 => ?_)
    · replace h := (if_pos c5).symm.trans h
      refine g_run 1 (pc' := 23) (L' := [some (.ref 0), some (.int x1), some (.int x2), none, none]) (S' := [.int (-1)]) (M' := gm g2) rfl ?_
      cases h
      exact g_ret rfl rfl rfl rfl
    · replace h := (if_neg c5).symm.trans h
      refine g_run 2 (pc' := 19) (L' := [some (.ref 0), some (.int x1), some (.int x2), none, none]) (S' := [.int 999, .int x2]) (M' := gm g2) rfl ?_
      refine g_icmp (x2 ≤ 999) rfl (t := 24) rfl rfl (fun c6 => ?_) (fun c6 => ?_)
      · replace h := (if_pos c6).symm.trans h
        refine g_run 4 (pc' := 29) (L' := [some (.ref 0), some (.int x1), some (.int x2), some (.int 0), some (.int 0)]) (S' := []) (M' := gm g2) rfl ?_
        exact p_X11_shares_29 hD zFu (x1) (x2) (0) (0) g2 _ h
      · replace h := (if_neg c6).symm.trans h
        refine g_run 1 (pc' := 23) (L' := [some (.ref 0), some (.int x1), some (.int x2), none, none]) (S' := [.int (-1)]) (M' := gm g2) rfl ?_
        cases h
        exact g_ret rfl rfl rfl rfl
def f_X11_measure (x1 : Int32) (x2 : Int32) (g : zSg) : Option (Int32 × zSg) := (if x1 = 0 then (zB (f_X8_knownBy 39 x2 g) (fun v2 g3 => (zB (f_J6_bitCount_0f7a4 v2 g3) (fun v5 g6 => some (v5, g6))))) else (if x1 = 1 then (zB (f_X0_nose 3 x2 g) (fun v9 g10 => some ((-v9), g10))) else (if x1 = 2 then (zB (f_X8_breathsOf 39 x2 g) (fun v13 g14 => some (v13, g14))) else (if x1 = 3 then (zB (f_X7_get 44 x2 g) (fun v17 g18 => (zB (f_J6_bitCount_0f7a4 v17 g18) (fun v20 g21 => some ((-v20), g21))))) else (zB (f_X0_heavy 3 x2 g) (fun v23 g24 => some (v23, g24)))))))
set_option maxRecDepth 100000 in
set_option maxHeartbeats 4000000 in
theorem p_X11_measure {sc : zSc} {hp : zHp} {x1 : Int32} {x2 : Int32} {g : zSg} {r : Int32 × zSg} (h : f_X11_measure x1 x2 g = some r) : zRn sc hp 3 zM_X11_measure [.ref 0, .int x1, .int x2] (gm g) (some (.int r.1)) (gm r.2) := by
  intro d hD
  obtain ⟨d, rfl⟩ : ∃ d', d = d' + 1 := ⟨d - 1, by omega⟩
  show zG _ sc hp (zcd zM_X11_measure) 0 [some (.ref 0), some (.int x1), some (.int x2)] [] (gm g) _
  unfold f_X11_measure at h
  refine g_run 1 (pc' := 1) (L' := [some (.ref 0), some (.int x1), some (.int x2)]) (S' := [.int x1]) (M' := gm g) rfl ?_
  by_cases c1 : x1 = 0
  · replace h := (if_pos c1).symm.trans h
    refine g_swc c1 rfl rfl rfl (pc' := 32) rfl ?_
    refine g_run 3 (pc' := 37) (L' := [some (.ref 0), some (.int x1), some (.int x2)]) (S' := [.int x2, .ref 39]) (M' := gm g) rfl ?_
    replace h := zB_of h
    obtain ⟨v2, g3, e4, h⟩ := h
    refine g_inv2 (kd := 1) (p_X8_knownBy 39 rfl e4) rfl rfl rfl (by decide) rfl rfl rfl rfl (by omega) (pc' := 40) rfl (S' := [.int v2]) rfl ?_
    replace h := zB_of h
    obtain ⟨v5, g6, e7, h⟩ := h
    refine g_inv2 (kd := 0) (p_J6_bitCount_0f7a4  e7) rfl rfl rfl (by decide) rfl rfl rfl rfl (by omega) (pc' := 43) rfl (S' := [.int v5]) rfl ?_
    cases h
    exact g_ret rfl rfl rfl rfl
  replace h := (if_neg c1).symm.trans h
  by_cases c8 : x1 = 1
  · replace h := (if_pos c8).symm.trans h
    refine g_swc c8 rfl rfl rfl (pc' := 44) rfl ?_
    refine g_run 3 (pc' := 49) (L' := [some (.ref 0), some (.int x1), some (.int x2)]) (S' := [.int x2, .ref 3]) (M' := gm g) rfl ?_
    replace h := zB_of h
    obtain ⟨v9, g10, e11, h⟩ := h
    refine g_inv2 (kd := 1) (p_X0_nose 3 rfl e11) rfl rfl rfl (by decide) rfl rfl rfl rfl (by omega) (pc' := 52) rfl (S' := [.int v9]) rfl ?_
    refine g_run 1 (pc' := 53) (L' := [some (.ref 0), some (.int x1), some (.int x2)]) (S' := [.int ((-v9))]) (M' := gm g10) rfl ?_
    cases h
    exact g_ret rfl rfl rfl rfl
  replace h := (if_neg c8).symm.trans h
  by_cases c12 : x1 = 2
  · replace h := (if_pos c12).symm.trans h
    refine g_swc c12 rfl rfl rfl (pc' := 54) rfl ?_
    refine g_run 3 (pc' := 59) (L' := [some (.ref 0), some (.int x1), some (.int x2)]) (S' := [.int x2, .ref 39]) (M' := gm g) rfl ?_
    replace h := zB_of h
    obtain ⟨v13, g14, e15, h⟩ := h
    refine g_inv2 (kd := 1) (p_X8_breathsOf 39 rfl e15) rfl rfl rfl (by decide) rfl rfl rfl rfl (by omega) (pc' := 62) rfl (S' := [.int v13]) rfl ?_
    cases h
    exact g_ret rfl rfl rfl rfl
  replace h := (if_neg c12).symm.trans h
  by_cases c16 : x1 = 3
  · replace h := (if_pos c16).symm.trans h
    refine g_swc c16 rfl rfl rfl (pc' := 63) rfl ?_
    refine g_run 4 (pc' := 71) (L' := [some (.ref 0), some (.int x1), some (.int x2)]) (S' := [.int x2, .ref 44]) (M' := gm g) rfl ?_
    replace h := zB_of h
    obtain ⟨v17, g18, e19, h⟩ := h
    refine g_inv2 (kd := 1) (p_X7_get 44 rfl e19) rfl rfl rfl (by decide) rfl rfl rfl rfl (by omega) (pc' := 74) rfl (S' := [.int v17]) rfl ?_
    replace h := zB_of h
    obtain ⟨v20, g21, e22, h⟩ := h
    refine g_inv2 (kd := 0) (p_J6_bitCount_0f7a4  e22) rfl rfl rfl (by decide) rfl rfl rfl rfl (by omega) (pc' := 77) rfl (S' := [.int v20]) rfl ?_
    refine g_run 1 (pc' := 78) (L' := [some (.ref 0), some (.int x1), some (.int x2)]) (S' := [.int ((-v20))]) (M' := gm g21) rfl ?_
    cases h
    exact g_ret rfl rfl rfl rfl
  replace h := (if_neg c16).symm.trans h
  have hsw : (x1).toInt < 0 ∨ 3 < (x1).toInt := by
    have nc1 := lv_neT c1 (a := 0) rfl
    have nc8 := lv_neT c8 (a := 1) rfl
    have nc12 := lv_neT c12 (a := 2) rfl
    have nc16 := lv_neT c16 (a := 3) rfl
    omega
  refine g_tsd rfl hsw (t := 79) rfl ?_
  refine g_run 3 (pc' := 84) (L' := [some (.ref 0), some (.int x1), some (.int x2)]) (S' := [.int x2, .ref 3]) (M' := gm g) rfl ?_
  replace h := zB_of h
  obtain ⟨v23, g24, e25, h⟩ := h
  refine g_inv2 (kd := 1) (p_X0_heavy 3 rfl e25) rfl rfl rfl (by decide) rfl rfl rfl rfl (by omega) (pc' := 87) rfl (S' := [.int v23]) rfl ?_
  cases h
  exact g_ret rfl rfl rfl rfl
def f_X11_firstOfMost_30 (k5 : Int32 → Int32 → Int32 → Int32 → zSg → Option (Int32 × zSg)) (y1 : Int32) (y2 : Int32) (y3 : Int32) (y4 : Int32) (g : zSg) : Option (Int32 × zSg) := k5 (y1) (y2) (y3) (y4 + 1) g
set_option maxRecDepth 100000 in
set_option maxHeartbeats 4000000 in
theorem p_X11_firstOfMost_30 {sc : zSc} {hp : zHp} {d : Nat} (hD : 4 ≤ d) (k5 : Int32 → Int32 → Int32 → Int32 → zSg → Option (Int32 × zSg)) (hk5 : ∀ (y1 : Int32) (y2 : Int32) (y3 : Int32) (y4 : Int32) (g : zSg) (r : Int32 × zSg), k5 y1 y2 y3 y4 g = some r → zG d sc hp (zcd zM_X11_firstOfMost) 5 [some (.ref 0), some (.int y1), some (.int y2), some (.int y3), some (.int y4)] [] (gm g) ((some (.int r.1)), gm r.2)) (y1 : Int32) (y2 : Int32) (y3 : Int32) (y4 : Int32) (g : zSg) (r : Int32 × zSg) (h : f_X11_firstOfMost_30 k5 y1 y2 y3 y4 g = some r) : zG d sc hp (zcd zM_X11_firstOfMost) 30 [some (.ref 0), some (.int y1), some (.int y2), some (.int y3), some (.int y4)] [] (gm g) ((some (.int r.1)), gm r.2) := by
  obtain ⟨d, rfl⟩ : ∃ d', d = d' + 1 := ⟨d - 1, by omega⟩
  unfold f_X11_firstOfMost_30 at h
  refine g_run 2 (pc' := 5) (L' := [some (.ref 0), some (.int y1), some (.int y2), some (.int y3), some (.int ((y4 + 1)))]) (S' := []) (M' := gm g) rfl ?_
  exact hk5 (y1) (y2) (y3) (y4 + 1) g _ h
def fb_X11_firstOfMost_5 (kk : Int32 → Int32 → Int32 → Int32 → zSg → Option (Int32 × zSg)) (y1 : Int32) (y2 : Int32) (y3 : Int32) (y4 : Int32) (g : zSg) : Option (Int32 × zSg) := (if y2 ≤ y4 then some (y3, g) else (zB (f_X11_measure y1 y4 g) (fun v2 g3 => (zB (f_X11_measure y1 y3 g3) (fun v5 g6 => (if v2 ≤ v5 then f_X11_firstOfMost_30 kk (y1) (y2) (y3) (y4) g6 else f_X11_firstOfMost_30 kk (y1) (y2) (y4) (y4) g6))))))
def f_X11_firstOfMost_5 : Nat → Int32 → Int32 → Int32 → Int32 → zSg → Option (Int32 × zSg)
  | 0, _, _, _, _, _ => none
  | n + 1, y1, y2, y3, y4, g => fb_X11_firstOfMost_5 (f_X11_firstOfMost_5 n) y1 y2 y3 y4 g
set_option maxRecDepth 100000 in
set_option maxHeartbeats 4000000 in
theorem p_X11_firstOfMost_5 {sc : zSc} {hp : zHp} {d : Nat} (hD : 4 ≤ d) : ∀ (n : Nat) (y1 : Int32) (y2 : Int32) (y3 : Int32) (y4 : Int32) (g : zSg) (r : Int32 × zSg), f_X11_firstOfMost_5 n y1 y2 y3 y4 g = some r → zG d sc hp (zcd zM_X11_firstOfMost) 5 [some (.ref 0), some (.int y1), some (.int y2), some (.int y3), some (.int y4)] [] (gm g) ((some (.int r.1)), gm r.2) := by
  obtain ⟨d, rfl⟩ : ∃ d', d = d' + 1 := ⟨d - 1, by omega⟩
  intro n
  induction n with
  | zero => intro y1 y2 y3 y4 g r h; cases h
  | succ n ih =>
    intro y1 y2 y3 y4 g r h
    replace h : fb_X11_firstOfMost_5 (f_X11_firstOfMost_5 n) y1 y2 y3 y4 g = some r := h
    unfold fb_X11_firstOfMost_5 at h
    refine g_run 2 (pc' := 8) (L' := [some (.ref 0), some (.int y1), some (.int y2), some (.int y3), some (.int y4)]) (S' := [.int y2, .int y4]) (M' := gm g) rfl ?_
    refine g_icmp (y2 ≤ y4) rfl (t := 36) rfl rfl (fun c1 => ?_) (fun c1 => ?_)
    · replace h := (if_pos c1).symm.trans h
      refine g_run 1 (pc' := 37) (L' := [some (.ref 0), some (.int y1), some (.int y2), some (.int y3), some (.int y4)]) (S' := [.int y3]) (M' := gm g) rfl ?_
      cases h
      exact g_ret rfl rfl rfl rfl
    · replace h := (if_neg c1).symm.trans h
      refine g_run 3 (pc' := 15) (L' := [some (.ref 0), some (.int y1), some (.int y2), some (.int y3), some (.int y4)]) (S' := [.int y4, .int y1, .ref 0]) (M' := gm g) rfl ?_
      replace h := zB_of h
      obtain ⟨v2, g3, e4, h⟩ := h
      refine g_inv2 (kd := 1) (p_X11_measure  e4) rfl rfl rfl (by decide) rfl rfl rfl rfl (by omega) (pc' := 18) rfl (S' := [.int v2]) rfl ?_
      refine g_run 3 (pc' := 21) (L' := [some (.ref 0), some (.int y1), some (.int y2), some (.int y3), some (.int y4)]) (S' := [.int y3, .int y1, .ref 0, .int v2]) (M' := gm g3) rfl ?_
      replace h := zB_of h
      obtain ⟨v5, g6, e7, h⟩ := h
      refine g_inv2 (kd := 1) (p_X11_measure  e7) rfl rfl rfl (by decide) rfl rfl rfl rfl (by omega) (pc' := 24) rfl (S' := [.int v5, .int v2]) rfl ?_
      refine g_icmp (v2 ≤ v5) rfl (t := 30) rfl rfl (fun c8 => ?_) (fun c8 => ?_)
      · replace h := (if_pos c8).symm.trans h
        exact p_X11_firstOfMost_30 hD (f_X11_firstOfMost_5 n) ih (y1) (y2) (y3) (y4) g6 _ h
      · replace h := (if_neg c8).symm.trans h
        refine g_run 2 (pc' := 30) (L' := [some (.ref 0), some (.int y1), some (.int y2), some (.int y4), some (.int y4)]) (S' := []) (M' := gm g6) rfl ?_
        exact p_X11_firstOfMost_30 hD (f_X11_firstOfMost_5 n) ih (y1) (y2) (y4) (y4) g6 _ h
def f_X11_firstOfMost (x1 : Int32) (x2 : Int32) (g : zSg) : Option (Int32 × zSg) := f_X11_firstOfMost_5 zFu (x1) (x2) (0) (1) g
set_option maxRecDepth 100000 in
set_option maxHeartbeats 4000000 in
theorem p_X11_firstOfMost {sc : zSc} {hp : zHp} {x1 : Int32} {x2 : Int32} {g : zSg} {r : Int32 × zSg} (h : f_X11_firstOfMost x1 x2 g = some r) : zRn sc hp 4 zM_X11_firstOfMost [.ref 0, .int x1, .int x2] (gm g) (some (.int r.1)) (gm r.2) := by
  intro d hD
  obtain ⟨d, rfl⟩ : ∃ d', d = d' + 1 := ⟨d - 1, by omega⟩
  show zG _ sc hp (zcd zM_X11_firstOfMost) 0 [some (.ref 0), some (.int x1), some (.int x2), none, none] [] (gm g) _
  unfold f_X11_firstOfMost at h
  refine g_run 4 (pc' := 5) (L' := [some (.ref 0), some (.int x1), some (.int x2), some (.int 0), some (.int 1)]) (S' := []) (M' := gm g) rfl ?_
  exact p_X11_firstOfMost_5 hD zFu (x1) (x2) (0) (1) g _ h
def f_X11_most (x1 : Int32) (g : zSg) : Option (Int32 × zSg) := (zB (f_X0_isTold 3 g) (fun v1 g2 => (if ¬ v1 = 0 then (if x1 = 0 then (zB (f_X0_persons 3 g2) (fun v6 g7 => (zB (f_X11_firstOfMost x1 v6 g7) (fun v9 g10 => some (v9, g10))))) else (if x1 = 1 then (zB (f_X0_persons 3 g2) (fun v13 g14 => (zB (f_X11_firstOfMost x1 v13 g14) (fun v16 g17 => some (v16, g17))))) else (if x1 = 2 then (zB (f_X0_persons 3 g2) (fun v20 g21 => (zB (f_X11_firstOfMost x1 v20 g21) (fun v23 g24 => some (v23, g24))))) else (if x1 = 3 then (zB (f_X0_secrets 3 g2) (fun v27 g28 => (zB (f_X11_firstOfMost x1 v27 g28) (fun v30 g31 => some (v30, g31))))) else (if x1 = 4 then (zB (f_X0_secrets 3 g2) (fun v34 g35 => (zB (f_X11_firstOfMost x1 v34 g35) (fun v37 g38 => some (v37, g38))))) else (if x1 = 5 then some ((gI g2 39 4), g2) else (if x1 = 6 then some ((gI g2 39 5), g2) else (if x1 = 7 then (zB (f_X10_foulCells 39 g2) (fun v43 g44 => some (v43, g44))) else (if x1 = 8 then (zB (f_X10_tables 39 g2) (fun v47 g48 => some (v47, g48))) else (if x1 = 9 then (zB (f_X10_lackedByAll 39 g2) (fun v51 g52 => some (v51, g52))) else (if x1 = 10 then (zB (f_X10_safePersons 39 g2) (fun v55 g56 => some (v55, g56))) else (if x1 = 11 then some ((gI g2 39 6), g2) else some ((-1), g2))))))))))))) else some ((-1), g2))))
set_option maxRecDepth 100000 in
set_option maxHeartbeats 4000000 in
theorem p_X11_most {sc : zSc} {hp : zHp} {x1 : Int32} {g : zSg} {r : Int32 × zSg} (h : f_X11_most x1 g = some r) : zRn sc hp 21 zM_X11_most [.ref 0, .int x1] (gm g) (some (.int r.1)) (gm r.2) := by
  intro d hD
  obtain ⟨d, rfl⟩ : ∃ d', d = d' + 1 := ⟨d - 1, by omega⟩
  show zG _ sc hp (zcd zM_X11_most) 0 [some (.ref 0), some (.int x1)] [] (gm g) _
  unfold f_X11_most at h
  refine g_run 2 (pc' := 4) (L' := [some (.ref 0), some (.int x1)]) (S' := [.ref 3]) (M' := gm g) rfl ?_
  replace h := zB_of h
  obtain ⟨v1, g2, e3, h⟩ := h
  refine g_inv2 (kd := 1) (p_X0_isTold 3 rfl e3) rfl rfl rfl (by decide) rfl rfl rfl rfl (by omega) (pc' := 7) rfl (S' := [.int v1]) rfl ?_
  refine g_if (¬ v1 = 0) rfl (t := 12) rfl rfl (fun c4 => ?_) (fun c4 => ?_)
  · replace h := (if_pos c4).symm.trans h
    refine g_run 1 (pc' := 13) (L' := [some (.ref 0), some (.int x1)]) (S' := [.int x1]) (M' := gm g2) rfl ?_
    by_cases c5 : x1 = 0
    · replace h := (if_pos c5).symm.trans h
      refine g_swc c5 rfl rfl rfl (pc' := 76) rfl ?_
      refine g_run 4 (pc' := 82) (L' := [some (.ref 0), some (.int x1)]) (S' := [.ref 3, .int x1, .ref 0]) (M' := gm g2) rfl ?_
      replace h := zB_of h
      obtain ⟨v6, g7, e8, h⟩ := h
      refine g_inv2 (kd := 1) (p_X0_persons 3 rfl e8) rfl rfl rfl (by decide) rfl rfl rfl rfl (by omega) (pc' := 85) rfl (S' := [.int v6, .int x1, .ref 0]) rfl ?_
      replace h := zB_of h
      obtain ⟨v9, g10, e11, h⟩ := h
      refine g_inv2 (kd := 1) (p_X11_firstOfMost  e11) rfl rfl rfl (by decide) rfl rfl rfl rfl (by omega) (pc' := 88) rfl (S' := [.int v9]) rfl ?_
      cases h
      exact g_ret rfl rfl rfl rfl
    replace h := (if_neg c5).symm.trans h
    by_cases c12 : x1 = 1
    · replace h := (if_pos c12).symm.trans h
      refine g_swc c12 rfl rfl rfl (pc' := 76) rfl ?_
      refine g_run 4 (pc' := 82) (L' := [some (.ref 0), some (.int x1)]) (S' := [.ref 3, .int x1, .ref 0]) (M' := gm g2) rfl ?_
      replace h := zB_of h
      obtain ⟨v13, g14, e15, h⟩ := h
      refine g_inv2 (kd := 1) (p_X0_persons 3 rfl e15) rfl rfl rfl (by decide) rfl rfl rfl rfl (by omega) (pc' := 85) rfl (S' := [.int v13, .int x1, .ref 0]) rfl ?_
      replace h := zB_of h
      obtain ⟨v16, g17, e18, h⟩ := h
      refine g_inv2 (kd := 1) (p_X11_firstOfMost  e18) rfl rfl rfl (by decide) rfl rfl rfl rfl (by omega) (pc' := 88) rfl (S' := [.int v16]) rfl ?_
      cases h
      exact g_ret rfl rfl rfl rfl
    replace h := (if_neg c12).symm.trans h
    by_cases c19 : x1 = 2
    · replace h := (if_pos c19).symm.trans h
      refine g_swc c19 rfl rfl rfl (pc' := 76) rfl ?_
      refine g_run 4 (pc' := 82) (L' := [some (.ref 0), some (.int x1)]) (S' := [.ref 3, .int x1, .ref 0]) (M' := gm g2) rfl ?_
      replace h := zB_of h
      obtain ⟨v20, g21, e22, h⟩ := h
      refine g_inv2 (kd := 1) (p_X0_persons 3 rfl e22) rfl rfl rfl (by decide) rfl rfl rfl rfl (by omega) (pc' := 85) rfl (S' := [.int v20, .int x1, .ref 0]) rfl ?_
      replace h := zB_of h
      obtain ⟨v23, g24, e25, h⟩ := h
      refine g_inv2 (kd := 1) (p_X11_firstOfMost  e25) rfl rfl rfl (by decide) rfl rfl rfl rfl (by omega) (pc' := 88) rfl (S' := [.int v23]) rfl ?_
      cases h
      exact g_ret rfl rfl rfl rfl
    replace h := (if_neg c19).symm.trans h
    by_cases c26 : x1 = 3
    · replace h := (if_pos c26).symm.trans h
      refine g_swc c26 rfl rfl rfl (pc' := 89) rfl ?_
      refine g_run 4 (pc' := 95) (L' := [some (.ref 0), some (.int x1)]) (S' := [.ref 3, .int x1, .ref 0]) (M' := gm g2) rfl ?_
      replace h := zB_of h
      obtain ⟨v27, g28, e29, h⟩ := h
      refine g_inv2 (kd := 1) (p_X0_secrets 3 rfl e29) rfl rfl rfl (by decide) rfl rfl rfl rfl (by omega) (pc' := 98) rfl (S' := [.int v27, .int x1, .ref 0]) rfl ?_
      replace h := zB_of h
      obtain ⟨v30, g31, e32, h⟩ := h
      refine g_inv2 (kd := 1) (p_X11_firstOfMost  e32) rfl rfl rfl (by decide) rfl rfl rfl rfl (by omega) (pc' := 101) rfl (S' := [.int v30]) rfl ?_
      cases h
      exact g_ret rfl rfl rfl rfl
    replace h := (if_neg c26).symm.trans h
    by_cases c33 : x1 = 4
    · replace h := (if_pos c33).symm.trans h
      refine g_swc c33 rfl rfl rfl (pc' := 89) rfl ?_
      refine g_run 4 (pc' := 95) (L' := [some (.ref 0), some (.int x1)]) (S' := [.ref 3, .int x1, .ref 0]) (M' := gm g2) rfl ?_
      replace h := zB_of h
      obtain ⟨v34, g35, e36, h⟩ := h
      refine g_inv2 (kd := 1) (p_X0_secrets 3 rfl e36) rfl rfl rfl (by decide) rfl rfl rfl rfl (by omega) (pc' := 98) rfl (S' := [.int v34, .int x1, .ref 0]) rfl ?_
      replace h := zB_of h
      obtain ⟨v37, g38, e39, h⟩ := h
      refine g_inv2 (kd := 1) (p_X11_firstOfMost  e39) rfl rfl rfl (by decide) rfl rfl rfl rfl (by omega) (pc' := 101) rfl (S' := [.int v37]) rfl ?_
      cases h
      exact g_ret rfl rfl rfl rfl
    replace h := (if_neg c33).symm.trans h
    by_cases c40 : x1 = 5
    · replace h := (if_pos c40).symm.trans h
      refine g_swc c40 rfl rfl rfl (pc' := 102) rfl ?_
      refine g_run 3 (pc' := 109) (L' := [some (.ref 0), some (.int x1)]) (S' := [.int ((gI g2 39 4))]) (M' := gm g2) rfl ?_
      cases h
      exact g_ret rfl rfl rfl rfl
    replace h := (if_neg c40).symm.trans h
    by_cases c41 : x1 = 6
    · replace h := (if_pos c41).symm.trans h
      refine g_swc c41 rfl rfl rfl (pc' := 110) rfl ?_
      refine g_run 3 (pc' := 117) (L' := [some (.ref 0), some (.int x1)]) (S' := [.int ((gI g2 39 5))]) (M' := gm g2) rfl ?_
      cases h
      exact g_ret rfl rfl rfl rfl
    replace h := (if_neg c41).symm.trans h
    by_cases c42 : x1 = 7
    · replace h := (if_pos c42).symm.trans h
      refine g_swc c42 rfl rfl rfl (pc' := 118) rfl ?_
      refine g_run 4 (pc' := 126) (L' := [some (.ref 0), some (.int x1)]) (S' := [.ref 39, .ref 423]) (M' := gm g2) rfl ?_
      replace h := zB_of h
      obtain ⟨v43, g44, e45, h⟩ := h
      refine g_inv2 (kd := 1) (p_X10_foulCells 39 rfl e45) rfl rfl rfl (by decide) rfl rfl rfl rfl (by omega) (pc' := 129) rfl (S' := [.int v43]) rfl ?_
      cases h
      exact g_ret rfl rfl rfl rfl
    replace h := (if_neg c42).symm.trans h
    by_cases c46 : x1 = 8
    · replace h := (if_pos c46).symm.trans h
      refine g_swc c46 rfl rfl rfl (pc' := 130) rfl ?_
      refine g_run 4 (pc' := 138) (L' := [some (.ref 0), some (.int x1)]) (S' := [.ref 39, .ref 423]) (M' := gm g2) rfl ?_
      replace h := zB_of h
      obtain ⟨v47, g48, e49, h⟩ := h
      refine g_inv2 (kd := 1) (p_X10_tables 39 rfl e49) rfl rfl rfl (by decide) rfl rfl rfl rfl (by omega) (pc' := 141) rfl (S' := [.int v47]) rfl ?_
      cases h
      exact g_ret rfl rfl rfl rfl
    replace h := (if_neg c46).symm.trans h
    by_cases c50 : x1 = 9
    · replace h := (if_pos c50).symm.trans h
      refine g_swc c50 rfl rfl rfl (pc' := 142) rfl ?_
      refine g_run 4 (pc' := 150) (L' := [some (.ref 0), some (.int x1)]) (S' := [.ref 39, .ref 423]) (M' := gm g2) rfl ?_
      replace h := zB_of h
      obtain ⟨v51, g52, e53, h⟩ := h
      refine g_inv2 (kd := 1) (p_X10_lackedByAll 39 rfl e53) rfl rfl rfl (by decide) rfl rfl rfl rfl (by omega) (pc' := 153) rfl (S' := [.int v51]) rfl ?_
      cases h
      exact g_ret rfl rfl rfl rfl
    replace h := (if_neg c50).symm.trans h
    by_cases c54 : x1 = 10
    · replace h := (if_pos c54).symm.trans h
      refine g_swc c54 rfl rfl rfl (pc' := 154) rfl ?_
      refine g_run 4 (pc' := 162) (L' := [some (.ref 0), some (.int x1)]) (S' := [.ref 39, .ref 423]) (M' := gm g2) rfl ?_
      replace h := zB_of h
      obtain ⟨v55, g56, e57, h⟩ := h
      refine g_inv2 (kd := 1) (p_X10_safePersons 39 rfl e57) rfl rfl rfl (by decide) rfl rfl rfl rfl (by omega) (pc' := 165) rfl (S' := [.int v55]) rfl ?_
      cases h
      exact g_ret rfl rfl rfl rfl
    replace h := (if_neg c54).symm.trans h
    by_cases c58 : x1 = 11
    · replace h := (if_pos c58).symm.trans h
      refine g_swc c58 rfl rfl rfl (pc' := 166) rfl ?_
      refine g_run 3 (pc' := 173) (L' := [some (.ref 0), some (.int x1)]) (S' := [.int ((gI g2 39 6))]) (M' := gm g2) rfl ?_
      cases h
      exact g_ret rfl rfl rfl rfl
    replace h := (if_neg c58).symm.trans h
    have hsw : (x1).toInt < 0 ∨ 11 < (x1).toInt := by
      have nc5 := lv_neT c5 (a := 0) rfl
      have nc12 := lv_neT c12 (a := 1) rfl
      have nc19 := lv_neT c19 (a := 2) rfl
      have nc26 := lv_neT c26 (a := 3) rfl
      have nc33 := lv_neT c33 (a := 4) rfl
      have nc40 := lv_neT c40 (a := 5) rfl
      have nc41 := lv_neT c41 (a := 6) rfl
      have nc42 := lv_neT c42 (a := 7) rfl
      have nc46 := lv_neT c46 (a := 8) rfl
      have nc50 := lv_neT c50 (a := 9) rfl
      have nc54 := lv_neT c54 (a := 10) rfl
      have nc58 := lv_neT c58 (a := 11) rfl
      omega
    refine g_tsd rfl hsw (t := 174) rfl ?_
    refine g_run 1 (pc' := 175) (L' := [some (.ref 0), some (.int x1)]) (S' := [.int (-1)]) (M' := gm g2) rfl ?_
    cases h
    exact g_ret rfl rfl rfl rfl
  · replace h := (if_neg c4).symm.trans h
    refine g_run 1 (pc' := 11) (L' := [some (.ref 0), some (.int x1)]) (S' := [.int (-1)]) (M' := gm g2) rfl ?_
    cases h
    exact g_ret rfl rfl rfl rfl
def f_X11_count (x1 : Int32) (g : zSg) : Option (Int32 × zSg) := (if x1 = 0 then (zB (f_X0_cells 3 g) (fun v2 g3 => some (v2, g3))) else (if x1 = 1 then (zB (f_X0_persons 3 g) (fun v6 g7 => some (v6, g7))) else (if x1 = 2 then (zB (f_X0_secrets 3 g) (fun v10 g11 => some (v10, g11))) else (if x1 = 3 then some ((gI g 0 11), g) else (if x1 = 4 then (zB (f_X9_length g) (fun v15 g16 => some (v15, g16))) else (if x1 = 5 then some ((gI g 0 12), g) else (if x1 = 6 then some ((gI g 39 9), g) else (if x1 = 7 then some ((gI g 0 13), g) else (if x1 = 8 then (zB (f_X2_notes g) (fun v22 g23 => some (v22, g23))) else (if x1 = 9 then (zB (f_X6_logLength 39 g) (fun v26 g27 => some (v26, g27))) else (if x1 = 10 then (zB (f_X6_acts g) (fun v30 g31 => some (v30, g31))) else some ((-1000000), g))))))))))))
set_option maxRecDepth 100000 in
set_option maxHeartbeats 4000000 in
theorem p_X11_count {sc : zSc} {hp : zHp} {x1 : Int32} {g : zSg} {r : Int32 × zSg} (h : f_X11_count x1 g = some r) : zRn sc hp 3 zM_X11_count [.ref 0, .int x1] (gm g) (some (.int r.1)) (gm r.2) := by
  intro d hD
  obtain ⟨d, rfl⟩ : ∃ d', d = d' + 1 := ⟨d - 1, by omega⟩
  show zG _ sc hp (zcd zM_X11_count) 0 [some (.ref 0), some (.int x1)] [] (gm g) _
  unfold f_X11_count at h
  refine g_run 1 (pc' := 1) (L' := [some (.ref 0), some (.int x1)]) (S' := [.int x1]) (M' := gm g) rfl ?_
  by_cases c1 : x1 = 0
  · replace h := (if_pos c1).symm.trans h
    refine g_swc c1 rfl rfl rfl (pc' := 60) rfl ?_
    refine g_run 2 (pc' := 64) (L' := [some (.ref 0), some (.int x1)]) (S' := [.ref 3]) (M' := gm g) rfl ?_
    replace h := zB_of h
    obtain ⟨v2, g3, e4, h⟩ := h
    refine g_inv2 (kd := 1) (p_X0_cells 3 rfl e4) rfl rfl rfl (by decide) rfl rfl rfl rfl (by omega) (pc' := 67) rfl (S' := [.int v2]) rfl ?_
    cases h
    exact g_ret rfl rfl rfl rfl
  replace h := (if_neg c1).symm.trans h
  by_cases c5 : x1 = 1
  · replace h := (if_pos c5).symm.trans h
    refine g_swc c5 rfl rfl rfl (pc' := 68) rfl ?_
    refine g_run 2 (pc' := 72) (L' := [some (.ref 0), some (.int x1)]) (S' := [.ref 3]) (M' := gm g) rfl ?_
    replace h := zB_of h
    obtain ⟨v6, g7, e8, h⟩ := h
    refine g_inv2 (kd := 1) (p_X0_persons 3 rfl e8) rfl rfl rfl (by decide) rfl rfl rfl rfl (by omega) (pc' := 75) rfl (S' := [.int v6]) rfl ?_
    cases h
    exact g_ret rfl rfl rfl rfl
  replace h := (if_neg c5).symm.trans h
  by_cases c9 : x1 = 2
  · replace h := (if_pos c9).symm.trans h
    refine g_swc c9 rfl rfl rfl (pc' := 76) rfl ?_
    refine g_run 2 (pc' := 80) (L' := [some (.ref 0), some (.int x1)]) (S' := [.ref 3]) (M' := gm g) rfl ?_
    replace h := zB_of h
    obtain ⟨v10, g11, e12, h⟩ := h
    refine g_inv2 (kd := 1) (p_X0_secrets 3 rfl e12) rfl rfl rfl (by decide) rfl rfl rfl rfl (by omega) (pc' := 83) rfl (S' := [.int v10]) rfl ?_
    cases h
    exact g_ret rfl rfl rfl rfl
  replace h := (if_neg c9).symm.trans h
  by_cases c13 : x1 = 3
  · replace h := (if_pos c13).symm.trans h
    refine g_swc c13 rfl rfl rfl (pc' := 84) rfl ?_
    refine g_run 2 (pc' := 88) (L' := [some (.ref 0), some (.int x1)]) (S' := [.int ((gI g 0 11))]) (M' := gm g) rfl ?_
    cases h
    exact g_ret rfl rfl rfl rfl
  replace h := (if_neg c13).symm.trans h
  by_cases c14 : x1 = 4
  · replace h := (if_pos c14).symm.trans h
    refine g_swc c14 rfl rfl rfl (pc' := 89) rfl ?_
    refine g_run 2 (pc' := 93) (L' := [some (.ref 0), some (.int x1)]) (S' := [.ref 1]) (M' := gm g) rfl ?_
    replace h := zB_of h
    obtain ⟨v15, g16, e17, h⟩ := h
    refine g_inv2 (kd := 1) (p_X9_length  e17) rfl rfl rfl (by decide) rfl rfl rfl rfl (by omega) (pc' := 96) rfl (S' := [.int v15]) rfl ?_
    cases h
    exact g_ret rfl rfl rfl rfl
  replace h := (if_neg c14).symm.trans h
  by_cases c18 : x1 = 5
  · replace h := (if_pos c18).symm.trans h
    refine g_swc c18 rfl rfl rfl (pc' := 97) rfl ?_
    refine g_run 2 (pc' := 101) (L' := [some (.ref 0), some (.int x1)]) (S' := [.int ((gI g 0 12))]) (M' := gm g) rfl ?_
    cases h
    exact g_ret rfl rfl rfl rfl
  replace h := (if_neg c18).symm.trans h
  by_cases c19 : x1 = 6
  · replace h := (if_pos c19).symm.trans h
    refine g_swc c19 rfl rfl rfl (pc' := 102) rfl ?_
    refine g_run 3 (pc' := 109) (L' := [some (.ref 0), some (.int x1)]) (S' := [.int ((gI g 39 9))]) (M' := gm g) rfl ?_
    cases h
    exact g_ret rfl rfl rfl rfl
  replace h := (if_neg c19).symm.trans h
  by_cases c20 : x1 = 7
  · replace h := (if_pos c20).symm.trans h
    refine g_swc c20 rfl rfl rfl (pc' := 110) rfl ?_
    refine g_run 2 (pc' := 114) (L' := [some (.ref 0), some (.int x1)]) (S' := [.int ((gI g 0 13))]) (M' := gm g) rfl ?_
    cases h
    exact g_ret rfl rfl rfl rfl
  replace h := (if_neg c20).symm.trans h
  by_cases c21 : x1 = 8
  · replace h := (if_pos c21).symm.trans h
    refine g_swc c21 rfl rfl rfl (pc' := 115) rfl ?_
    refine g_run 2 (pc' := 119) (L' := [some (.ref 0), some (.int x1)]) (S' := [.ref 506]) (M' := gm g) rfl ?_
    replace h := zB_of h
    obtain ⟨v22, g23, e24, h⟩ := h
    refine g_inv2 (kd := 1) (p_X2_notes  e24) rfl rfl rfl (by decide) rfl rfl rfl rfl (by omega) (pc' := 122) rfl (S' := [.int v22]) rfl ?_
    cases h
    exact g_ret rfl rfl rfl rfl
  replace h := (if_neg c21).symm.trans h
  by_cases c25 : x1 = 9
  · replace h := (if_pos c25).symm.trans h
    refine g_swc c25 rfl rfl rfl (pc' := 123) rfl ?_
    refine g_run 4 (pc' := 131) (L' := [some (.ref 0), some (.int x1)]) (S' := [.ref 39, .ref 48]) (M' := gm g) rfl ?_
    replace h := zB_of h
    obtain ⟨v26, g27, e28, h⟩ := h
    refine g_inv2 (kd := 1) (p_X6_logLength 39 rfl e28) rfl rfl rfl (by decide) rfl rfl rfl rfl (by omega) (pc' := 134) rfl (S' := [.int v26]) rfl ?_
    cases h
    exact g_ret rfl rfl rfl rfl
  replace h := (if_neg c25).symm.trans h
  by_cases c29 : x1 = 10
  · replace h := (if_pos c29).symm.trans h
    refine g_swc c29 rfl rfl rfl (pc' := 135) rfl ?_
    refine g_run 2 (pc' := 139) (L' := [some (.ref 0), some (.int x1)]) (S' := [.ref 48]) (M' := gm g) rfl ?_
    replace h := zB_of h
    obtain ⟨v30, g31, e32, h⟩ := h
    refine g_inv2 (kd := 1) (p_X6_acts  e32) rfl rfl rfl (by decide) rfl rfl rfl rfl (by omega) (pc' := 142) rfl (S' := [.int v30]) rfl ?_
    cases h
    exact g_ret rfl rfl rfl rfl
  replace h := (if_neg c29).symm.trans h
  have hsw : (x1).toInt < 0 ∨ 10 < (x1).toInt := by
    have nc1 := lv_neT c1 (a := 0) rfl
    have nc5 := lv_neT c5 (a := 1) rfl
    have nc9 := lv_neT c9 (a := 2) rfl
    have nc13 := lv_neT c13 (a := 3) rfl
    have nc14 := lv_neT c14 (a := 4) rfl
    have nc18 := lv_neT c18 (a := 5) rfl
    have nc19 := lv_neT c19 (a := 6) rfl
    have nc20 := lv_neT c20 (a := 7) rfl
    have nc21 := lv_neT c21 (a := 8) rfl
    have nc25 := lv_neT c25 (a := 9) rfl
    have nc29 := lv_neT c29 (a := 10) rfl
    omega
  refine g_tsd rfl hsw (t := 143) rfl ?_
  refine g_run 1 (pc' := 146) (L' := [some (.ref 0), some (.int x1)]) (S' := [.int (-1000000)]) (M' := gm g) rfl ?_
  cases h
  exact g_ret rfl rfl rfl rfl
def f_X11_refuse (x1 : Int32) (g : zSg) : Option (Int32 × zSg) := (zB (f_X7_add 37 x1 1 g) (fun v1 g2 => some ((-1), g2)))
set_option maxRecDepth 100000 in
set_option maxHeartbeats 4000000 in
theorem p_X11_refuse {sc : zSc} {hp : zHp} {x1 : Int32} {g : zSg} {r : Int32 × zSg} (h : f_X11_refuse x1 g = some r) : zRn sc hp 1 zM_X11_refuse [.ref 0, .int x1] (gm g) (some (.int r.1)) (gm r.2) := by
  intro d hD
  obtain ⟨d, rfl⟩ : ∃ d', d = d' + 1 := ⟨d - 1, by omega⟩
  show zG _ sc hp (zcd zM_X11_refuse) 0 [some (.ref 0), some (.int x1)] [] (gm g) _
  unfold f_X11_refuse at h
  refine g_run 4 (pc' := 6) (L' := [some (.ref 0), some (.int x1)]) (S' := [.int 1, .int x1, .ref 37]) (M' := gm g) rfl ?_
  replace h := zB_of h
  obtain ⟨v1, g2, e3, h⟩ := h
  refine g_inv2 (kd := 1) (p_X7_add 37 rfl e3) rfl rfl rfl (by decide) rfl rfl rfl rfl (by omega) (pc' := 9) rfl (S' := []) rfl ?_
  refine g_run 1 (pc' := 10) (L' := [some (.ref 0), some (.int x1)]) (S' := [.int (-1)]) (M' := gm g2) rfl ?_
  cases h
  exact g_ret rfl rfl rfl rfl
def f_X11_passNight (g : zSg) : Option (Unit × zSg) := (zB (f_X10_pass 39 63 g) (fun v1 g2 => (zB (f_X6_write 39 v1 g2) (fun v4 g5 => some ((), g5)))))
set_option maxRecDepth 100000 in
set_option maxHeartbeats 4000000 in
theorem p_X11_passNight {sc : zSc} {hp : zHp} {g : zSg} {r : Unit × zSg} (h : f_X11_passNight g = some r) : zRn sc hp 21 zM_X11_passNight [.ref 0] (gm g) none (gm r.2) := by
  intro d hD
  obtain ⟨d, rfl⟩ : ∃ d', d = d' + 1 := ⟨d - 1, by omega⟩
  show zG _ sc hp (zcd zM_X11_passNight) 0 [some (.ref 0), none] [] (gm g) _
  unfold f_X11_passNight at h
  refine g_run 5 (pc' := 10) (L' := [some (.ref 0), none]) (S' := [.int 63, .ref 39, .ref 423]) (M' := gm g) rfl ?_
  replace h := zB_of h
  obtain ⟨v1, g2, e3, h⟩ := h
  refine g_inv2 (kd := 1) (p_X10_pass 39 rfl e3) rfl rfl rfl (by decide) rfl rfl rfl rfl (by omega) (pc' := 13) rfl (S' := [.int v1]) rfl ?_
  refine g_run 6 (pc' := 23) (L' := [some (.ref 0), some (.int v1)]) (S' := [.int v1, .ref 39, .ref 48]) (M' := gm g2) rfl ?_
  replace h := zB_of h
  obtain ⟨v4, g5, e6, h⟩ := h
  refine g_inv2 (kd := 1) (p_X6_write 39 rfl e6) rfl rfl rfl (by decide) rfl rfl rfl rfl (by omega) (pc' := 26) rfl (S' := []) rfl ?_
  cases h
  exact g_ret rfl rfl rfl rfl
def f_X11_nights_27 (g : zSg) : Option (Int32 × zSg) := (zB (f_X11_refuse 1 g) (fun v1 g2 => some (v1, g2)))
set_option maxRecDepth 100000 in
set_option maxHeartbeats 4000000 in
theorem p_X11_nights_27 {sc : zSc} {hp : zHp} {d : Nat} (hD : 22 ≤ d) (g : zSg) (r : Int32 × zSg) (h : f_X11_nights_27 g = some r) : zG d sc hp (zcd zM_X11_nights) 27 [some (.ref 0), none, none] [] (gm g) ((some (.int r.1)), gm r.2) := by
  obtain ⟨d, rfl⟩ : ∃ d', d = d' + 1 := ⟨d - 1, by omega⟩
  unfold f_X11_nights_27 at h
  refine g_run 2 (pc' := 29) (L' := [some (.ref 0), none, none]) (S' := [.int 1, .ref 0]) (M' := gm g) rfl ?_
  replace h := zB_of h
  obtain ⟨v1, g2, e3, h⟩ := h
  refine g_inv2 (kd := 1) (p_X11_refuse  e3) rfl rfl rfl (by decide) rfl rfl rfl rfl (by omega) (pc' := 32) rfl (S' := [.int v1]) rfl ?_
  cases h
  exact g_ret rfl rfl rfl rfl
def f_X11_nights_82 (g : zSg) : Option (Int32 × zSg) := some ((gI g 39 9), g)
set_option maxRecDepth 100000 in
set_option maxHeartbeats 4000000 in
theorem p_X11_nights_82 {sc : zSc} {hp : zHp} {d : Nat} (hD : 22 ≤ d) (g : zSg) (r : Int32 × zSg) (h : f_X11_nights_82 g = some r) : zG d sc hp (zcd zM_X11_nights) 82 [some (.ref 0), none, none] [] (gm g) ((some (.int r.1)), gm r.2) := by
  obtain ⟨d, rfl⟩ : ∃ d', d = d' + 1 := ⟨d - 1, by omega⟩
  unfold f_X11_nights_82 at h
  refine g_run 3 (pc' := 89) (L' := [some (.ref 0), none, none]) (S' := [.int ((gI g 39 9))]) (M' := gm g) rfl ?_
  cases h
  exact g_ret rfl rfl rfl rfl
def fb_X11_nights_56 (kk : Int32 → Int32 → zSg → Option (Int32 × zSg)) (y1 : Int32) (y2 : Int32) (g : zSg) : Option (Int32 × zSg) := (if y1 ≤ y2 then f_X11_nights_82 g else (zB (f_X6_remember 39 g) (fun v2 g3 => (zB (f_X11_passNight g3) (fun v5 g6 => kk (y1) (y2 + 1) g6)))))
def f_X11_nights_56 : Nat → Int32 → Int32 → zSg → Option (Int32 × zSg)
  | 0, _, _, _ => none
  | n + 1, y1, y2, g => fb_X11_nights_56 (f_X11_nights_56 n) y1 y2 g
set_option maxRecDepth 100000 in
set_option maxHeartbeats 4000000 in
theorem p_X11_nights_56 {sc : zSc} {hp : zHp} {d : Nat} (hD : 22 ≤ d) : ∀ (n : Nat) (y1 : Int32) (y2 : Int32) (g : zSg) (r : Int32 × zSg), f_X11_nights_56 n y1 y2 g = some r → zG d sc hp (zcd zM_X11_nights) 56 [some (.ref 0), some (.int y1), some (.int y2)] [] (gm g) ((some (.int r.1)), gm r.2) := by
  obtain ⟨d, rfl⟩ : ∃ d', d = d' + 1 := ⟨d - 1, by omega⟩
  intro n
  induction n with
  | zero => intro y1 y2 g r h; cases h
  | succ n ih =>
    intro y1 y2 g r h
    replace h : fb_X11_nights_56 (f_X11_nights_56 n) y1 y2 g = some r := h
    unfold fb_X11_nights_56 at h
    refine g_run 2 (pc' := 58) (L' := [some (.ref 0), some (.int y1), some (.int y2)]) (S' := [.int y1, .int y2]) (M' := gm g) rfl ?_
    refine g_icmp (y1 ≤ y2) rfl (t := 82) rfl rfl (fun c1 => ?_) (fun c1 => ?_)
    · replace h := (if_pos c1).symm.trans h
      refine g_forget (L' := [some (.ref 0), none, none]) (And.intro rfl True.intro) ?_
      exact p_X11_nights_82 hD g _ h
    · replace h := (if_neg c1).symm.trans h
      refine g_run 4 (pc' := 69) (L' := [some (.ref 0), some (.int y1), some (.int y2)]) (S' := [.ref 39, .ref 48]) (M' := gm g) rfl ?_
      replace h := zB_of h
      obtain ⟨v2, g3, e4, h⟩ := h
      refine g_inv2 (kd := 1) (p_X6_remember 39 rfl e4) rfl rfl rfl (by decide) rfl rfl rfl rfl (by omega) (pc' := 72) rfl (S' := []) rfl ?_
      refine g_run 1 (pc' := 73) (L' := [some (.ref 0), some (.int y1), some (.int y2)]) (S' := [.ref 0]) (M' := gm g3) rfl ?_
      replace h := zB_of h
      obtain ⟨v5, g6, e7, h⟩ := h
      refine g_inv2 (kd := 1) (p_X11_passNight  e7) rfl rfl rfl (by decide) rfl rfl rfl rfl (by omega) (pc' := 76) rfl (S' := []) rfl ?_
      refine g_run 2 (pc' := 56) (L' := [some (.ref 0), some (.int y1), some (.int ((y2 + 1)))]) (S' := []) (M' := gm g6) rfl ?_
      exact ih (y1) (y2 + 1) g6 _ h
def f_X11_nights (x1 : Int32) (g : zSg) : Option (Int32 × zSg) := (zB (f_X0_isTold 3 g) (fun v1 g2 => (if ¬ v1 = 0 then (if x1 < 1 then f_X11_nights_27 g2 else (if x1 ≤ 60 then (if ((gI g2 39 9) + x1) ≤ 999 then f_X11_nights_56 zFu (x1) (0) g2 else (zB (f_X11_refuse 4 g2) (fun v8 g9 => some (v8, g9)))) else f_X11_nights_27 g2)) else (zB (f_X11_refuse 0 g2) (fun v11 g12 => some (v11, g12))))))
set_option maxRecDepth 100000 in
set_option maxHeartbeats 4000000 in
theorem p_X11_nights {sc : zSc} {hp : zHp} {x1 : Int32} {g : zSg} {r : Int32 × zSg} (h : f_X11_nights x1 g = some r) : zRn sc hp 22 zM_X11_nights [.ref 0, .int x1] (gm g) (some (.int r.1)) (gm r.2) := by
  intro d hD
  obtain ⟨d, rfl⟩ : ∃ d', d = d' + 1 := ⟨d - 1, by omega⟩
  show zG _ sc hp (zcd zM_X11_nights) 0 [some (.ref 0), some (.int x1), none] [] (gm g) _
  unfold f_X11_nights at h
  refine g_run 2 (pc' := 4) (L' := [some (.ref 0), some (.int x1), none]) (S' := [.ref 3]) (M' := gm g) rfl ?_
  replace h := zB_of h
  obtain ⟨v1, g2, e3, h⟩ := h
  refine g_inv2 (kd := 1) (p_X0_isTold 3 rfl e3) rfl rfl rfl (by decide) rfl rfl rfl rfl (by omega) (pc' := 7) rfl (S' := [.int v1]) rfl ?_
  refine g_if (¬ v1 = 0) rfl (t := 16) rfl rfl (fun c4 => ?_) (fun c4 => ?_)
  · replace h := (if_pos c4).symm.trans h
    refine g_run 2 (pc' := 18) (L' := [some (.ref 0), some (.int x1), none]) (S' := [.int 1, .int x1]) (M' := gm g2) rfl ?_
    refine g_icmp (x1 < 1) rfl (t := 27) rfl rfl (fun c5 => ?_) (fun c5 => ?_)
    · replace h := (if_pos c5).symm.trans h
      refine g_forget (L' := [some (.ref 0), none, none]) (And.intro rfl True.intro) ?_
      exact p_X11_nights_27 hD g2 _ h
    · replace h := (if_neg c5).symm.trans h
      refine g_run 2 (pc' := 24) (L' := [some (.ref 0), some (.int x1), none]) (S' := [.int 60, .int x1]) (M' := gm g2) rfl ?_
      refine g_icmp (x1 ≤ 60) rfl (t := 33) rfl rfl (fun c6 => ?_) (fun c6 => ?_)
      · replace h := (if_pos c6).symm.trans h
        refine g_run 6 (pc' := 45) (L' := [some (.ref 0), some (.int x1), none]) (S' := [.int 999, .int (((gI g2 39 9) + x1))]) (M' := gm g2) rfl ?_
        refine g_icmp (((gI g2 39 9) + x1) ≤ 999) rfl (t := 54) rfl rfl (fun c7 => ?_) (fun c7 => ?_)
        · replace h := (if_pos c7).symm.trans h
          refine g_run 2 (pc' := 56) (L' := [some (.ref 0), some (.int x1), some (.int 0)]) (S' := []) (M' := gm g2) rfl ?_
          exact p_X11_nights_56 hD zFu (x1) (0) g2 _ h
        · replace h := (if_neg c7).symm.trans h
          refine g_run 2 (pc' := 50) (L' := [some (.ref 0), some (.int x1), none]) (S' := [.int 4, .ref 0]) (M' := gm g2) rfl ?_
          replace h := zB_of h
          obtain ⟨v8, g9, e10, h⟩ := h
          refine g_inv2 (kd := 1) (p_X11_refuse  e10) rfl rfl rfl (by decide) rfl rfl rfl rfl (by omega) (pc' := 53) rfl (S' := [.int v8]) rfl ?_
          cases h
          exact g_ret rfl rfl rfl rfl
      · replace h := (if_neg c6).symm.trans h
        refine g_forget (L' := [some (.ref 0), none, none]) (And.intro rfl True.intro) ?_
        exact p_X11_nights_27 hD g2 _ h
  · replace h := (if_neg c4).symm.trans h
    refine g_run 2 (pc' := 12) (L' := [some (.ref 0), some (.int x1), none]) (S' := [.int 0, .ref 0]) (M' := gm g2) rfl ?_
    replace h := zB_of h
    obtain ⟨v11, g12, e13, h⟩ := h
    refine g_inv2 (kd := 1) (p_X11_refuse  e13) rfl rfl rfl (by decide) rfl rfl rfl rfl (by omega) (pc' := 15) rfl (S' := [.int v11]) rfl ?_
    cases h
    exact g_ret rfl rfl rfl rfl
def f_X11_hang (x1 : Int32) (g : zSg) : Option (Int32 × zSg) := (zB (f_X0_hasSecret 3 x1 g) (fun v1 g2 => (if ¬ v1 = 0 then (zB (f_X8_isCured 39 x1 g2) (fun v5 g6 => (if v5 = 0 then (if 1 ≤ (gI g6 39 8) then (zB (f_X6_remember 39 g6) (fun v10 g11 => (zB (f_X8_turnHanging 39 x1 (gsI g11 39 8 ((gI g11 39 8) - 1))) (fun v13 g14 => (zB (f_X8_hangs 39 x1 g14) (fun v16 g17 => (if v16 = 0 then some (0, g17) else some (1, g17)))))))) else (zB (f_X11_refuse 3 g6) (fun v20 g21 => some (v20, g21)))) else (zB (f_X11_refuse 2 g6) (fun v23 g24 => some (v23, g24)))))) else (zB (f_X11_refuse 0 g2) (fun v26 g27 => some (v26, g27))))))
set_option maxRecDepth 100000 in
set_option maxHeartbeats 4000000 in
theorem p_X11_hang {sc : zSc} {hp : zHp} {x1 : Int32} {g : zSg} {r : Int32 × zSg} (h : f_X11_hang x1 g = some r) : zRn sc hp 4 zM_X11_hang [.ref 0, .int x1] (gm g) (some (.int r.1)) (gm r.2) := by
  intro d hD
  obtain ⟨d, rfl⟩ : ∃ d', d = d' + 1 := ⟨d - 1, by omega⟩
  show zG _ sc hp (zcd zM_X11_hang) 0 [some (.ref 0), some (.int x1)] [] (gm g) _
  unfold f_X11_hang at h
  refine g_run 3 (pc' := 5) (L' := [some (.ref 0), some (.int x1)]) (S' := [.int x1, .ref 3]) (M' := gm g) rfl ?_
  replace h := zB_of h
  obtain ⟨v1, g2, e3, h⟩ := h
  refine g_inv2 (kd := 1) (p_X0_hasSecret 3 rfl e3) rfl rfl rfl (by decide) rfl rfl rfl rfl (by omega) (pc' := 8) rfl (S' := [.int v1]) rfl ?_
  refine g_if (¬ v1 = 0) rfl (t := 17) rfl rfl (fun c4 => ?_) (fun c4 => ?_)
  · replace h := (if_pos c4).symm.trans h
    refine g_run 3 (pc' := 22) (L' := [some (.ref 0), some (.int x1)]) (S' := [.int x1, .ref 39]) (M' := gm g2) rfl ?_
    replace h := zB_of h
    obtain ⟨v5, g6, e7, h⟩ := h
    refine g_inv2 (kd := 1) (p_X8_isCured 39 rfl e7) rfl rfl rfl (by decide) rfl rfl rfl rfl (by omega) (pc' := 25) rfl (S' := [.int v5]) rfl ?_
    refine g_if (v5 = 0) rfl (t := 34) rfl rfl (fun c8 => ?_) (fun c8 => ?_)
    · replace h := (if_pos c8).symm.trans h
      refine g_run 4 (pc' := 42) (L' := [some (.ref 0), some (.int x1)]) (S' := [.int 1, .int ((gI g6 39 8))]) (M' := gm g6) rfl ?_
      refine g_icmp (1 ≤ (gI g6 39 8)) rfl (t := 51) rfl rfl (fun c9 => ?_) (fun c9 => ?_)
      · replace h := (if_pos c9).symm.trans h
        refine g_run 4 (pc' := 59) (L' := [some (.ref 0), some (.int x1)]) (S' := [.ref 39, .ref 48]) (M' := gm g6) rfl ?_
        replace h := zB_of h
        obtain ⟨v10, g11, e12, h⟩ := h
        refine g_inv2 (kd := 1) (p_X6_remember 39 rfl e12) rfl rfl rfl (by decide) rfl rfl rfl rfl (by omega) (pc' := 62) rfl (S' := []) rfl ?_
        refine g_run 10 (pc' := 80) (L' := [some (.ref 0), some (.int x1)]) (S' := [.int x1, .ref 39]) (M' := gm (gsI g11 39 8 ((gI g11 39 8) - 1))) rfl ?_
        replace h := zB_of h
        obtain ⟨v13, g14, e15, h⟩ := h
        refine g_inv2 (kd := 1) (p_X8_turnHanging 39 rfl e15) rfl rfl rfl (by decide) rfl rfl rfl rfl (by omega) (pc' := 83) rfl (S' := []) rfl ?_
        refine g_run 3 (pc' := 88) (L' := [some (.ref 0), some (.int x1)]) (S' := [.int x1, .ref 39]) (M' := gm g14) rfl ?_
        replace h := zB_of h
        obtain ⟨v16, g17, e18, h⟩ := h
        refine g_inv2 (kd := 1) (p_X8_hangs 39 rfl e18) rfl rfl rfl (by decide) rfl rfl rfl rfl (by omega) (pc' := 91) rfl (S' := [.int v16]) rfl ?_
        refine g_if (v16 = 0) rfl (t := 98) rfl rfl (fun c19 => ?_) (fun c19 => ?_)
        · replace h := (if_pos c19).symm.trans h
          refine g_run 1 (pc' := 99) (L' := [some (.ref 0), some (.int x1)]) (S' := [.int 0]) (M' := gm g17) rfl ?_
          cases h
          exact g_ret rfl rfl rfl rfl
        · replace h := (if_neg c19).symm.trans h
          refine g_run 2 (pc' := 99) (L' := [some (.ref 0), some (.int x1)]) (S' := [.int 1]) (M' := gm g17) rfl ?_
          cases h
          exact g_ret rfl rfl rfl rfl
      · replace h := (if_neg c9).symm.trans h
        refine g_run 2 (pc' := 47) (L' := [some (.ref 0), some (.int x1)]) (S' := [.int 3, .ref 0]) (M' := gm g6) rfl ?_
        replace h := zB_of h
        obtain ⟨v20, g21, e22, h⟩ := h
        refine g_inv2 (kd := 1) (p_X11_refuse  e22) rfl rfl rfl (by decide) rfl rfl rfl rfl (by omega) (pc' := 50) rfl (S' := [.int v20]) rfl ?_
        cases h
        exact g_ret rfl rfl rfl rfl
    · replace h := (if_neg c8).symm.trans h
      refine g_run 2 (pc' := 30) (L' := [some (.ref 0), some (.int x1)]) (S' := [.int 2, .ref 0]) (M' := gm g6) rfl ?_
      replace h := zB_of h
      obtain ⟨v23, g24, e25, h⟩ := h
      refine g_inv2 (kd := 1) (p_X11_refuse  e25) rfl rfl rfl (by decide) rfl rfl rfl rfl (by omega) (pc' := 33) rfl (S' := [.int v23]) rfl ?_
      cases h
      exact g_ret rfl rfl rfl rfl
  · replace h := (if_neg c4).symm.trans h
    refine g_run 2 (pc' := 13) (L' := [some (.ref 0), some (.int x1)]) (S' := [.int 0, .ref 0]) (M' := gm g2) rfl ?_
    replace h := zB_of h
    obtain ⟨v26, g27, e28, h⟩ := h
    refine g_inv2 (kd := 1) (p_X11_refuse  e28) rfl rfl rfl (by decide) rfl rfl rfl rfl (by omega) (pc' := 16) rfl (S' := [.int v26]) rfl ?_
    cases h
    exact g_ret rfl rfl rfl rfl
def f_X11_veers_25 (g : zSg) : Option (Int32 × zSg) := (zB (f_X11_refuse 1 g) (fun v1 g2 => some (v1, g2)))
set_option maxRecDepth 100000 in
set_option maxHeartbeats 4000000 in
theorem p_X11_veers_25 {sc : zSc} {hp : zHp} {d : Nat} (hD : 4 ≤ d) (g : zSg) (r : Int32 × zSg) (h : f_X11_veers_25 g = some r) : zG d sc hp (zcd zM_X11_veers) 25 [some (.ref 0), none, none] [] (gm g) ((some (.int r.1)), gm r.2) := by
  obtain ⟨d, rfl⟩ : ∃ d', d = d' + 1 := ⟨d - 1, by omega⟩
  unfold f_X11_veers_25 at h
  refine g_run 2 (pc' := 27) (L' := [some (.ref 0), none, none]) (S' := [.int 1, .ref 0]) (M' := gm g) rfl ?_
  replace h := zB_of h
  obtain ⟨v1, g2, e3, h⟩ := h
  refine g_inv2 (kd := 1) (p_X11_refuse  e3) rfl rfl rfl (by decide) rfl rfl rfl rfl (by omega) (pc' := 30) rfl (S' := [.int v1]) rfl ?_
  cases h
  exact g_ret rfl rfl rfl rfl
def f_X11_veers (x1 : Int32) (g : zSg) : Option (Int32 × zSg) := (zB (f_X0_isTold 3 g) (fun v1 g2 => (if ¬ v1 = 0 then (if x1 < 0 then f_X11_veers_25 g2 else (if x1 < 4 then (if ¬ x1 = (gI g2 39 6) then (zB (f_X6_remember 39 g2) (fun v8 g9 => some ((gI g9 39 6), (gsI g9 39 6 x1)))) else (zB (f_X11_refuse 2 g2) (fun v11 g12 => some (v11, g12)))) else f_X11_veers_25 g2)) else (zB (f_X11_refuse 0 g2) (fun v14 g15 => some (v14, g15))))))
set_option maxRecDepth 100000 in
set_option maxHeartbeats 4000000 in
theorem p_X11_veers {sc : zSc} {hp : zHp} {x1 : Int32} {g : zSg} {r : Int32 × zSg} (h : f_X11_veers x1 g = some r) : zRn sc hp 4 zM_X11_veers [.ref 0, .int x1] (gm g) (some (.int r.1)) (gm r.2) := by
  intro d hD
  obtain ⟨d, rfl⟩ : ∃ d', d = d' + 1 := ⟨d - 1, by omega⟩
  show zG _ sc hp (zcd zM_X11_veers) 0 [some (.ref 0), some (.int x1), none] [] (gm g) _
  unfold f_X11_veers at h
  refine g_run 2 (pc' := 4) (L' := [some (.ref 0), some (.int x1), none]) (S' := [.ref 3]) (M' := gm g) rfl ?_
  replace h := zB_of h
  obtain ⟨v1, g2, e3, h⟩ := h
  refine g_inv2 (kd := 1) (p_X0_isTold 3 rfl e3) rfl rfl rfl (by decide) rfl rfl rfl rfl (by omega) (pc' := 7) rfl (S' := [.int v1]) rfl ?_
  refine g_if (¬ v1 = 0) rfl (t := 16) rfl rfl (fun c4 => ?_) (fun c4 => ?_)
  · replace h := (if_pos c4).symm.trans h
    refine g_run 1 (pc' := 17) (L' := [some (.ref 0), some (.int x1), none]) (S' := [.int x1]) (M' := gm g2) rfl ?_
    refine g_if (x1 < 0) rfl (t := 25) rfl rfl (fun c5 => ?_) (fun c5 => ?_)
    · replace h := (if_pos c5).symm.trans h
      refine g_forget (L' := [some (.ref 0), none, none]) (And.intro rfl True.intro) ?_
      exact p_X11_veers_25 hD g2 _ h
    · replace h := (if_neg c5).symm.trans h
      refine g_run 2 (pc' := 22) (L' := [some (.ref 0), some (.int x1), none]) (S' := [.int 4, .int x1]) (M' := gm g2) rfl ?_
      refine g_icmp (x1 < 4) rfl (t := 31) rfl rfl (fun c6 => ?_) (fun c6 => ?_)
      · replace h := (if_pos c6).symm.trans h
        refine g_run 4 (pc' := 39) (L' := [some (.ref 0), some (.int x1), none]) (S' := [.int ((gI g2 39 6)), .int x1]) (M' := gm g2) rfl ?_
        refine g_icmp (¬ x1 = (gI g2 39 6)) rfl (t := 48) rfl rfl (fun c7 => ?_) (fun c7 => ?_)
        · replace h := (if_pos c7).symm.trans h
          refine g_run 4 (pc' := 56) (L' := [some (.ref 0), some (.int x1), none]) (S' := [.ref 39, .ref 48]) (M' := gm g2) rfl ?_
          replace h := zB_of h
          obtain ⟨v8, g9, e10, h⟩ := h
          refine g_inv2 (kd := 1) (p_X6_remember 39 rfl e10) rfl rfl rfl (by decide) rfl rfl rfl rfl (by omega) (pc' := 59) rfl (S' := []) rfl ?_
          refine g_run 9 (pc' := 76) (L' := [some (.ref 0), some (.int x1), some (.int ((gI g9 39 6)))]) (S' := [.int ((gI g9 39 6))]) (M' := gm (gsI g9 39 6 x1)) rfl ?_
          cases h
          exact g_ret rfl rfl rfl rfl
        · replace h := (if_neg c7).symm.trans h
          refine g_run 2 (pc' := 44) (L' := [some (.ref 0), some (.int x1), none]) (S' := [.int 2, .ref 0]) (M' := gm g2) rfl ?_
          replace h := zB_of h
          obtain ⟨v11, g12, e13, h⟩ := h
          refine g_inv2 (kd := 1) (p_X11_refuse  e13) rfl rfl rfl (by decide) rfl rfl rfl rfl (by omega) (pc' := 47) rfl (S' := [.int v11]) rfl ?_
          cases h
          exact g_ret rfl rfl rfl rfl
      · replace h := (if_neg c6).symm.trans h
        refine g_forget (L' := [some (.ref 0), none, none]) (And.intro rfl True.intro) ?_
        exact p_X11_veers_25 hD g2 _ h
  · replace h := (if_neg c4).symm.trans h
    refine g_run 2 (pc' := 12) (L' := [some (.ref 0), some (.int x1), none]) (S' := [.int 0, .ref 0]) (M' := gm g2) rfl ?_
    replace h := zB_of h
    obtain ⟨v14, g15, e16, h⟩ := h
    refine g_inv2 (kd := 1) (p_X11_refuse  e16) rfl rfl rfl (by decide) rfl rfl rfl rfl (by omega) (pc' := 15) rfl (S' := [.int v14]) rfl ?_
    cases h
    exact g_ret rfl rfl rfl rfl
def f_X11_moves (x1 : Int32) (x2 : Int32) (g : zSg) : Option (Int32 × zSg) := (zB (f_X0_hasPerson 3 x1 g) (fun v1 g2 => (if ¬ v1 = 0 then (zB (f_X7_get 40 x1 g2) (fun v5 g6 => (zB (f_X0_beside 3 v5 x2 g6) (fun v8 g9 => (if ¬ v8 = (-1) then (if 2 ≤ (gI g9 39 8) then (zB (f_X6_remember 39 g9) (fun v13 g14 => (zB (f_X7_set 40 x1 v8 (gsI g14 39 8 ((gI g14 39 8) - 2))) (fun v16 g17 => some (v8, g17))))) else (zB (f_X11_refuse 3 g9) (fun v19 g20 => some (v19, g20)))) else (zB (f_X11_refuse 1 g9) (fun v22 g23 => some (v22, g23)))))))) else (zB (f_X11_refuse 0 g2) (fun v25 g26 => some (v25, g26))))))
set_option maxRecDepth 100000 in
set_option maxHeartbeats 4000000 in
theorem p_X11_moves {sc : zSc} {hp : zHp} {x1 : Int32} {x2 : Int32} {g : zSg} {r : Int32 × zSg} (h : f_X11_moves x1 x2 g = some r) : zRn sc hp 4 zM_X11_moves [.ref 0, .int x1, .int x2] (gm g) (some (.int r.1)) (gm r.2) := by
  intro d hD
  obtain ⟨d, rfl⟩ : ∃ d', d = d' + 1 := ⟨d - 1, by omega⟩
  show zG _ sc hp (zcd zM_X11_moves) 0 [some (.ref 0), some (.int x1), some (.int x2), none] [] (gm g) _
  unfold f_X11_moves at h
  refine g_run 3 (pc' := 5) (L' := [some (.ref 0), some (.int x1), some (.int x2), none]) (S' := [.int x1, .ref 3]) (M' := gm g) rfl ?_
  replace h := zB_of h
  obtain ⟨v1, g2, e3, h⟩ := h
  refine g_inv2 (kd := 1) (p_X0_hasPerson 3 rfl e3) rfl rfl rfl (by decide) rfl rfl rfl rfl (by omega) (pc' := 8) rfl (S' := [.int v1]) rfl ?_
  refine g_if (¬ v1 = 0) rfl (t := 17) rfl rfl (fun c4 => ?_) (fun c4 => ?_)
  · replace h := (if_pos c4).symm.trans h
    refine g_run 6 (pc' := 29) (L' := [some (.ref 0), some (.int x1), some (.int x2), none]) (S' := [.int x1, .ref 40, .ref 3]) (M' := gm g2) rfl ?_
    replace h := zB_of h
    obtain ⟨v5, g6, e7, h⟩ := h
    refine g_inv2 (kd := 1) (p_X7_get 40 rfl e7) rfl rfl rfl (by decide) rfl rfl rfl rfl (by omega) (pc' := 32) rfl (S' := [.int v5, .ref 3]) rfl ?_
    refine g_run 1 (pc' := 33) (L' := [some (.ref 0), some (.int x1), some (.int x2), none]) (S' := [.int x2, .int v5, .ref 3]) (M' := gm g6) rfl ?_
    replace h := zB_of h
    obtain ⟨v8, g9, e10, h⟩ := h
    refine g_inv2 (kd := 1) (p_X0_beside 3 rfl e10) rfl rfl rfl (by decide) rfl rfl rfl rfl (by omega) (pc' := 36) rfl (S' := [.int v8]) rfl ?_
    refine g_run 3 (pc' := 39) (L' := [some (.ref 0), some (.int x1), some (.int x2), some (.int v8)]) (S' := [.int (-1), .int v8]) (M' := gm g9) rfl ?_
    refine g_icmp (¬ v8 = (-1)) rfl (t := 48) rfl rfl (fun c11 => ?_) (fun c11 => ?_)
    · replace h := (if_pos c11).symm.trans h
      refine g_run 4 (pc' := 56) (L' := [some (.ref 0), some (.int x1), some (.int x2), some (.int v8)]) (S' := [.int 2, .int ((gI g9 39 8))]) (M' := gm g9) rfl ?_
      refine g_icmp (2 ≤ (gI g9 39 8)) rfl (t := 65) rfl rfl (fun c12 => ?_) (fun c12 => ?_)
      · replace h := (if_pos c12).symm.trans h
        refine g_run 4 (pc' := 73) (L' := [some (.ref 0), some (.int x1), some (.int x2), some (.int v8)]) (S' := [.ref 39, .ref 48]) (M' := gm g9) rfl ?_
        replace h := zB_of h
        obtain ⟨v13, g14, e15, h⟩ := h
        refine g_inv2 (kd := 1) (p_X6_remember 39 rfl e15) rfl rfl rfl (by decide) rfl rfl rfl rfl (by omega) (pc' := 76) rfl (S' := []) rfl ?_
        refine g_run 12 (pc' := 98) (L' := [some (.ref 0), some (.int x1), some (.int x2), some (.int v8)]) (S' := [.int v8, .int x1, .ref 40]) (M' := gm (gsI g14 39 8 ((gI g14 39 8) - 2))) rfl ?_
        replace h := zB_of h
        obtain ⟨v16, g17, e18, h⟩ := h
        refine g_inv2 (kd := 1) (p_X7_set 40 rfl e18) rfl rfl rfl (by decide) rfl rfl rfl rfl (by omega) (pc' := 101) rfl (S' := []) rfl ?_
        refine g_run 1 (pc' := 102) (L' := [some (.ref 0), some (.int x1), some (.int x2), some (.int v8)]) (S' := [.int v8]) (M' := gm g17) rfl ?_
        cases h
        exact g_ret rfl rfl rfl rfl
      · replace h := (if_neg c12).symm.trans h
        refine g_run 2 (pc' := 61) (L' := [some (.ref 0), some (.int x1), some (.int x2), some (.int v8)]) (S' := [.int 3, .ref 0]) (M' := gm g9) rfl ?_
        replace h := zB_of h
        obtain ⟨v19, g20, e21, h⟩ := h
        refine g_inv2 (kd := 1) (p_X11_refuse  e21) rfl rfl rfl (by decide) rfl rfl rfl rfl (by omega) (pc' := 64) rfl (S' := [.int v19]) rfl ?_
        cases h
        exact g_ret rfl rfl rfl rfl
    · replace h := (if_neg c11).symm.trans h
      refine g_run 2 (pc' := 44) (L' := [some (.ref 0), some (.int x1), some (.int x2), some (.int v8)]) (S' := [.int 1, .ref 0]) (M' := gm g9) rfl ?_
      replace h := zB_of h
      obtain ⟨v22, g23, e24, h⟩ := h
      refine g_inv2 (kd := 1) (p_X11_refuse  e24) rfl rfl rfl (by decide) rfl rfl rfl rfl (by omega) (pc' := 47) rfl (S' := [.int v22]) rfl ?_
      cases h
      exact g_ret rfl rfl rfl rfl
  · replace h := (if_neg c4).symm.trans h
    refine g_run 2 (pc' := 13) (L' := [some (.ref 0), some (.int x1), some (.int x2), none]) (S' := [.int 0, .ref 0]) (M' := gm g2) rfl ?_
    replace h := zB_of h
    obtain ⟨v25, g26, e27, h⟩ := h
    refine g_inv2 (kd := 1) (p_X11_refuse  e27) rfl rfl rfl (by decide) rfl rfl rfl rfl (by omega) (pc' := 16) rfl (S' := [.int v25]) rfl ?_
    cases h
    exact g_ret rfl rfl rfl rfl
def f_X11_oak_27 (g : zSg) : Option (Int32 × zSg) := (zB (f_X11_refuse 1 g) (fun v1 g2 => some (v1, g2)))
set_option maxRecDepth 100000 in
set_option maxHeartbeats 4000000 in
theorem p_X11_oak_27 {sc : zSc} {hp : zHp} {d : Nat} (hD : 4 ≤ d) (g : zSg) (r : Int32 × zSg) (h : f_X11_oak_27 g = some r) : zG d sc hp (zcd zM_X11_oak) 27 [some (.ref 0), none, none] [] (gm g) ((some (.int r.1)), gm r.2) := by
  obtain ⟨d, rfl⟩ : ∃ d', d = d' + 1 := ⟨d - 1, by omega⟩
  unfold f_X11_oak_27 at h
  refine g_run 2 (pc' := 29) (L' := [some (.ref 0), none, none]) (S' := [.int 1, .ref 0]) (M' := gm g) rfl ?_
  replace h := zB_of h
  obtain ⟨v1, g2, e3, h⟩ := h
  refine g_inv2 (kd := 1) (p_X11_refuse  e3) rfl rfl rfl (by decide) rfl rfl rfl rfl (by omega) (pc' := 32) rfl (S' := [.int v1]) rfl ?_
  cases h
  exact g_ret rfl rfl rfl rfl
def f_X11_oak_65 (g : zSg) : Option (Int32 × zSg) := (zB (f_X11_refuse 3 g) (fun v1 g2 => some (v1, g2)))
set_option maxRecDepth 100000 in
set_option maxHeartbeats 4000000 in
theorem p_X11_oak_65 {sc : zSc} {hp : zHp} {d : Nat} (hD : 4 ≤ d) (g : zSg) (r : Int32 × zSg) (h : f_X11_oak_65 g = some r) : zG d sc hp (zcd zM_X11_oak) 65 [some (.ref 0), none, none] [] (gm g) ((some (.int r.1)), gm r.2) := by
  obtain ⟨d, rfl⟩ : ∃ d', d = d' + 1 := ⟨d - 1, by omega⟩
  unfold f_X11_oak_65 at h
  refine g_run 2 (pc' := 67) (L' := [some (.ref 0), none, none]) (S' := [.int 3, .ref 0]) (M' := gm g) rfl ?_
  replace h := zB_of h
  obtain ⟨v1, g2, e3, h⟩ := h
  refine g_inv2 (kd := 1) (p_X11_refuse  e3) rfl rfl rfl (by decide) rfl rfl rfl rfl (by omega) (pc' := 70) rfl (S' := [.int v1]) rfl ?_
  cases h
  exact g_ret rfl rfl rfl rfl
def f_X11_oak (x1 : Int32) (g : zSg) : Option (Int32 × zSg) := (zB (f_X0_isTold 3 g) (fun v1 g2 => (if ¬ v1 = 0 then (if x1 < 1 then f_X11_oak_27 g2 else (if x1 ≤ 30 then (if (gI g2 39 8) < ((x1 + 1) / 2) then f_X11_oak_65 g2 else (if ((gI g2 39 7) + x1) ≤ 999 then (zB (f_X6_remember 39 g2) (fun v9 g10 => some ((gI (gsI (gsI g10 39 8 ((gI g10 39 8) - ((x1 + 1) / 2))) 39 7 ((gI (gsI g10 39 8 ((gI g10 39 8) - ((x1 + 1) / 2))) 39 7) + x1)) 39 7), (gsI (gsI g10 39 8 ((gI g10 39 8) - ((x1 + 1) / 2))) 39 7 ((gI (gsI g10 39 8 ((gI g10 39 8) - ((x1 + 1) / 2))) 39 7) + x1))))) else f_X11_oak_65 g2)) else f_X11_oak_27 g2)) else (zB (f_X11_refuse 0 g2) (fun v12 g13 => some (v12, g13))))))
set_option maxRecDepth 100000 in
set_option maxHeartbeats 4000000 in
theorem p_X11_oak {sc : zSc} {hp : zHp} {x1 : Int32} {g : zSg} {r : Int32 × zSg} (h : f_X11_oak x1 g = some r) : zRn sc hp 4 zM_X11_oak [.ref 0, .int x1] (gm g) (some (.int r.1)) (gm r.2) := by
  intro d hD
  obtain ⟨d, rfl⟩ : ∃ d', d = d' + 1 := ⟨d - 1, by omega⟩
  show zG _ sc hp (zcd zM_X11_oak) 0 [some (.ref 0), some (.int x1), none] [] (gm g) _
  unfold f_X11_oak at h
  refine g_run 2 (pc' := 4) (L' := [some (.ref 0), some (.int x1), none]) (S' := [.ref 3]) (M' := gm g) rfl ?_
  replace h := zB_of h
  obtain ⟨v1, g2, e3, h⟩ := h
  refine g_inv2 (kd := 1) (p_X0_isTold 3 rfl e3) rfl rfl rfl (by decide) rfl rfl rfl rfl (by omega) (pc' := 7) rfl (S' := [.int v1]) rfl ?_
  refine g_if (¬ v1 = 0) rfl (t := 16) rfl rfl (fun c4 => ?_) (fun c4 => ?_)
  · replace h := (if_pos c4).symm.trans h
    refine g_run 2 (pc' := 18) (L' := [some (.ref 0), some (.int x1), none]) (S' := [.int 1, .int x1]) (M' := gm g2) rfl ?_
    refine g_icmp (x1 < 1) rfl (t := 27) rfl rfl (fun c5 => ?_) (fun c5 => ?_)
    · replace h := (if_pos c5).symm.trans h
      refine g_forget (L' := [some (.ref 0), none, none]) (And.intro rfl True.intro) ?_
      exact p_X11_oak_27 hD g2 _ h
    · replace h := (if_neg c5).symm.trans h
      refine g_run 2 (pc' := 24) (L' := [some (.ref 0), some (.int x1), none]) (S' := [.int 30, .int x1]) (M' := gm g2) rfl ?_
      refine g_icmp (x1 ≤ 30) rfl (t := 33) rfl rfl (fun c6 => ?_) (fun c6 => ?_)
      · replace h := (if_pos c6).symm.trans h
        refine g_run 10 (pc' := 47) (L' := [some (.ref 0), some (.int x1), some (.int (((x1 + 1) / 2)))]) (S' := [.int (((x1 + 1) / 2)), .int ((gI g2 39 8))]) (M' := gm g2) rfl ?_
        refine g_icmp ((gI g2 39 8) < ((x1 + 1) / 2)) rfl (t := 65) rfl rfl (fun c7 => ?_) (fun c7 => ?_)
        · replace h := (if_pos c7).symm.trans h
          refine g_forget (L' := [some (.ref 0), none, none]) (And.intro rfl True.intro) ?_
          exact p_X11_oak_65 hD g2 _ h
        · replace h := (if_neg c7).symm.trans h
          refine g_run 6 (pc' := 62) (L' := [some (.ref 0), some (.int x1), some (.int (((x1 + 1) / 2)))]) (S' := [.int 999, .int (((gI g2 39 7) + x1))]) (M' := gm g2) rfl ?_
          refine g_icmp (((gI g2 39 7) + x1) ≤ 999) rfl (t := 71) rfl rfl (fun c8 => ?_) (fun c8 => ?_)
          · replace h := (if_pos c8).symm.trans h
            refine g_run 4 (pc' := 79) (L' := [some (.ref 0), some (.int x1), some (.int (((x1 + 1) / 2)))]) (S' := [.ref 39, .ref 48]) (M' := gm g2) rfl ?_
            replace h := zB_of h
            obtain ⟨v9, g10, e11, h⟩ := h
            refine g_inv2 (kd := 1) (p_X6_remember 39 rfl e11) rfl rfl rfl (by decide) rfl rfl rfl rfl (by omega) (pc' := 82) rfl (S' := []) rfl ?_
            refine g_run 17 (pc' := 115) (L' := [some (.ref 0), some (.int x1), some (.int (((x1 + 1) / 2)))]) (S' := [.int ((gI (gsI (gsI g10 39 8 ((gI g10 39 8) - ((x1 + 1) / 2))) 39 7 ((gI (gsI g10 39 8 ((gI g10 39 8) - ((x1 + 1) / 2))) 39 7) + x1)) 39 7))]) (M' := gm (gsI (gsI g10 39 8 ((gI g10 39 8) - ((x1 + 1) / 2))) 39 7 ((gI (gsI g10 39 8 ((gI g10 39 8) - ((x1 + 1) / 2))) 39 7) + x1))) rfl ?_
            cases h
            exact g_ret rfl rfl rfl rfl
          · replace h := (if_neg c8).symm.trans h
            refine g_forget (L' := [some (.ref 0), none, none]) (And.intro rfl True.intro) ?_
            exact p_X11_oak_65 hD g2 _ h
      · replace h := (if_neg c6).symm.trans h
        refine g_forget (L' := [some (.ref 0), none, none]) (And.intro rfl True.intro) ?_
        exact p_X11_oak_27 hD g2 _ h
  · replace h := (if_neg c4).symm.trans h
    refine g_run 2 (pc' := 12) (L' := [some (.ref 0), some (.int x1), none]) (S' := [.int 0, .ref 0]) (M' := gm g2) rfl ?_
    replace h := zB_of h
    obtain ⟨v12, g13, e14, h⟩ := h
    refine g_inv2 (kd := 1) (p_X11_refuse  e14) rfl rfl rfl (by decide) rfl rfl rfl rfl (by omega) (pc' := 15) rfl (S' := [.int v12]) rfl ?_
    cases h
    exact g_ret rfl rfl rfl rfl
def f_X11_give_42 (g : zSg) : Option (Int32 × zSg) := (zB (f_X11_refuse 1 g) (fun v1 g2 => some (v1, g2)))
set_option maxRecDepth 100000 in
set_option maxHeartbeats 4000000 in
theorem p_X11_give_42 {sc : zSc} {hp : zHp} {d : Nat} (hD : 4 ≤ d) (g : zSg) (r : Int32 × zSg) (h : f_X11_give_42 g = some r) : zG d sc hp (zcd zM_X11_give) 42 [some (.ref 0), none] [] (gm g) ((some (.int r.1)), gm r.2) := by
  obtain ⟨d, rfl⟩ : ∃ d', d = d' + 1 := ⟨d - 1, by omega⟩
  unfold f_X11_give_42 at h
  refine g_run 2 (pc' := 44) (L' := [some (.ref 0), none]) (S' := [.int 1, .ref 0]) (M' := gm g) rfl ?_
  replace h := zB_of h
  obtain ⟨v1, g2, e3, h⟩ := h
  refine g_inv2 (kd := 1) (p_X11_refuse  e3) rfl rfl rfl (by decide) rfl rfl rfl rfl (by omega) (pc' := 47) rfl (S' := [.int v1]) rfl ?_
  cases h
  exact g_ret rfl rfl rfl rfl
def f_X11_give (x1 : Int32) (g : zSg) : Option (Int32 × zSg) := (zB (f_X0_isTold 3 g) (fun v1 g2 => (if ¬ v1 = 0 then (if x1 < 1 then f_X11_give_42 g2 else (if 50 < x1 then f_X11_give_42 g2 else (if ((gI g2 39 8) + x1) ≤ 999 then (zB (f_X6_remember 39 g2) (fun v8 g9 => some ((gI (gsI g9 39 8 ((gI g9 39 8) + x1)) 39 8), (gsI g9 39 8 ((gI g9 39 8) + x1))))) else f_X11_give_42 g2))) else (zB (f_X11_refuse 0 g2) (fun v11 g12 => some (v11, g12))))))
set_option maxRecDepth 100000 in
set_option maxHeartbeats 4000000 in
theorem p_X11_give {sc : zSc} {hp : zHp} {x1 : Int32} {g : zSg} {r : Int32 × zSg} (h : f_X11_give x1 g = some r) : zRn sc hp 4 zM_X11_give [.ref 0, .int x1] (gm g) (some (.int r.1)) (gm r.2) := by
  intro d hD
  obtain ⟨d, rfl⟩ : ∃ d', d = d' + 1 := ⟨d - 1, by omega⟩
  show zG _ sc hp (zcd zM_X11_give) 0 [some (.ref 0), some (.int x1)] [] (gm g) _
  unfold f_X11_give at h
  refine g_run 2 (pc' := 4) (L' := [some (.ref 0), some (.int x1)]) (S' := [.ref 3]) (M' := gm g) rfl ?_
  replace h := zB_of h
  obtain ⟨v1, g2, e3, h⟩ := h
  refine g_inv2 (kd := 1) (p_X0_isTold 3 rfl e3) rfl rfl rfl (by decide) rfl rfl rfl rfl (by omega) (pc' := 7) rfl (S' := [.int v1]) rfl ?_
  refine g_if (¬ v1 = 0) rfl (t := 16) rfl rfl (fun c4 => ?_) (fun c4 => ?_)
  · replace h := (if_pos c4).symm.trans h
    refine g_run 2 (pc' := 18) (L' := [some (.ref 0), some (.int x1)]) (S' := [.int 1, .int x1]) (M' := gm g2) rfl ?_
    refine g_icmp (x1 < 1) rfl (t := 42) rfl rfl (fun c5 => ?_) (fun c5 => ?_)
    · replace h := (if_pos c5).symm.trans h
      refine g_forget (L' := [some (.ref 0), none]) (And.intro rfl True.intro) ?_
      exact p_X11_give_42 hD g2 _ h
    · replace h := (if_neg c5).symm.trans h
      refine g_run 2 (pc' := 24) (L' := [some (.ref 0), some (.int x1)]) (S' := [.int 50, .int x1]) (M' := gm g2) rfl ?_
      refine g_icmp (50 < x1) rfl (t := 42) rfl rfl (fun c6 => ?_) (fun c6 => ?_)
      · replace h := (if_pos c6).symm.trans h
        refine g_forget (L' := [some (.ref 0), none]) (And.intro rfl True.intro) ?_
        exact p_X11_give_42 hD g2 _ h
      · replace h := (if_neg c6).symm.trans h
        refine g_run 6 (pc' := 39) (L' := [some (.ref 0), some (.int x1)]) (S' := [.int 999, .int (((gI g2 39 8) + x1))]) (M' := gm g2) rfl ?_
        refine g_icmp (((gI g2 39 8) + x1) ≤ 999) rfl (t := 48) rfl rfl (fun c7 => ?_) (fun c7 => ?_)
        · replace h := (if_pos c7).symm.trans h
          refine g_run 4 (pc' := 56) (L' := [some (.ref 0), some (.int x1)]) (S' := [.ref 39, .ref 48]) (M' := gm g2) rfl ?_
          replace h := zB_of h
          obtain ⟨v8, g9, e10, h⟩ := h
          refine g_inv2 (kd := 1) (p_X6_remember 39 rfl e10) rfl rfl rfl (by decide) rfl rfl rfl rfl (by omega) (pc' := 59) rfl (S' := []) rfl ?_
          refine g_run 10 (pc' := 79) (L' := [some (.ref 0), some (.int x1)]) (S' := [.int ((gI (gsI g9 39 8 ((gI g9 39 8) + x1)) 39 8))]) (M' := gm (gsI g9 39 8 ((gI g9 39 8) + x1))) rfl ?_
          cases h
          exact g_ret rfl rfl rfl rfl
        · replace h := (if_neg c7).symm.trans h
          refine g_forget (L' := [some (.ref 0), none]) (And.intro rfl True.intro) ?_
          exact p_X11_give_42 hD g2 _ h
  · replace h := (if_neg c4).symm.trans h
    refine g_run 2 (pc' := 12) (L' := [some (.ref 0), some (.int x1)]) (S' := [.int 0, .ref 0]) (M' := gm g2) rfl ?_
    replace h := zB_of h
    obtain ⟨v11, g12, e13, h⟩ := h
    refine g_inv2 (kd := 1) (p_X11_refuse  e13) rfl rfl rfl (by decide) rfl rfl rfl rfl (by omega) (pc' := 15) rfl (S' := [.int v11]) rfl ?_
    cases h
    exact g_ret rfl rfl rfl rfl
def f_X11_gusts (x1 : Int32) (g : zSg) : Option (Int32 × zSg) := (if x1 < 0 then some (0, g) else (if 9 < x1 then some (0, g) else (if ¬ x1 = (gI g 0 13) then some (1, (gsI g 0 13 x1)) else some (0, g))))
set_option maxRecDepth 100000 in
set_option maxHeartbeats 4000000 in
theorem p_X11_gusts {sc : zSc} {hp : zHp} {x1 : Int32} {g : zSg} {r : Int32 × zSg} (h : f_X11_gusts x1 g = some r) : zRn sc hp 0 zM_X11_gusts [.ref 0, .int x1] (gm g) (some (.int r.1)) (gm r.2) := by
  intro d hD
  show zG _ sc hp (zcd zM_X11_gusts) 0 [some (.ref 0), some (.int x1)] [] (gm g) _
  unfold f_X11_gusts at h
  refine g_run 1 (pc' := 1) (L' := [some (.ref 0), some (.int x1)]) (S' := [.int x1]) (M' := gm g) rfl ?_
  refine g_if (x1 < 0) rfl (t := 18) rfl rfl (fun c1 => ?_) (fun c1 => ?_)
  · replace h := (if_pos c1).symm.trans h
    refine g_run 1 (pc' := 19) (L' := [some (.ref 0), some (.int x1)]) (S' := [.int 0]) (M' := gm g) rfl ?_
    cases h
    exact g_ret rfl rfl rfl rfl
  · replace h := (if_neg c1).symm.trans h
    refine g_run 2 (pc' := 7) (L' := [some (.ref 0), some (.int x1)]) (S' := [.int 9, .int x1]) (M' := gm g) rfl ?_
    refine g_icmp (9 < x1) rfl (t := 18) rfl rfl (fun c2 => ?_) (fun c2 => ?_)
    · replace h := (if_pos c2).symm.trans h
      refine g_run 1 (pc' := 19) (L' := [some (.ref 0), some (.int x1)]) (S' := [.int 0]) (M' := gm g) rfl ?_
      cases h
      exact g_ret rfl rfl rfl rfl
    · replace h := (if_neg c2).symm.trans h
      refine g_run 3 (pc' := 15) (L' := [some (.ref 0), some (.int x1)]) (S' := [.int ((gI g 0 13)), .int x1]) (M' := gm g) rfl ?_
      refine g_icmp (¬ x1 = (gI g 0 13)) rfl (t := 20) rfl rfl (fun c3 => ?_) (fun c3 => ?_)
      · replace h := (if_pos c3).symm.trans h
        refine g_run 4 (pc' := 26) (L' := [some (.ref 0), some (.int x1)]) (S' := [.int 1]) (M' := gm (gsI g 0 13 x1)) rfl ?_
        cases h
        exact g_ret rfl rfl rfl rfl
      · replace h := (if_neg c3).symm.trans h
        refine g_run 1 (pc' := 19) (L' := [some (.ref 0), some (.int x1)]) (S' := [.int 0]) (M' := gm g) rfl ?_
        cases h
        exact g_ret rfl rfl rfl rfl
def f_X11_draw (x1 : Int32) (g : zSg) : Option (Int32 × zSg) := (if 1 ≤ x1 then (if (x1).toInt64 = 0 then none else some (((lmod (lushr (gJ (gsJ g 0 14 (((gJ g 0 14) * 6364136223846793005) + 1442695040888963407)) 0 14) 33) (x1).toInt64)).toInt32, (gsJ g 0 14 (((gJ g 0 14) * 6364136223846793005) + 1442695040888963407)))) else some (0, (gsJ g 0 14 (((gJ g 0 14) * 6364136223846793005) + 1442695040888963407))))
set_option maxRecDepth 100000 in
set_option maxHeartbeats 4000000 in
theorem p_X11_draw {sc : zSc} {hp : zHp} {x1 : Int32} {g : zSg} {r : Int32 × zSg} (h : f_X11_draw x1 g = some r) : zRn sc hp 0 zM_X11_draw [.ref 0, .int x1] (gm g) (some (.int r.1)) (gm r.2) := by
  intro d hD
  show zG _ sc hp (zcd zM_X11_draw) 0 [some (.ref 0), some (.int x1)] [] (gm g) _
  unfold f_X11_draw at h
  refine g_run 10 (pc' := 18) (L' := [some (.ref 0), some (.int x1)]) (S' := [.int 1, .int x1]) (M' := gm (gsJ g 0 14 (((gJ g 0 14) * 6364136223846793005) + 1442695040888963407))) rfl ?_
  refine g_icmp (1 ≤ x1) rfl (t := 25) rfl rfl (fun c1 => ?_) (fun c1 => ?_)
  · replace h := (if_pos c1).symm.trans h
    refine g_run 6 (pc' := 34) (L' := [some (.ref 0), some (.int x1)]) (S' := [.long ((x1).toInt64), .long ((lushr (gJ (gsJ g 0 14 (((gJ g 0 14) * 6364136223846793005) + 1442695040888963407)) 0 14) 33))]) (M' := gm (gsJ g 0 14 (((gJ g 0 14) * 6364136223846793005) + 1442695040888963407))) rfl ?_
    by_cases c2 : (x1).toInt64 = 0
    case pos => exact nomatch ((if_pos c2).symm.trans h)
    replace h := (if_neg c2).symm.trans h
    refine g_lrem rfl c2 ?_
    refine g_run 1 (pc' := 36) (L' := [some (.ref 0), some (.int x1)]) (S' := [.int (((lmod (lushr (gJ (gsJ g 0 14 (((gJ g 0 14) * 6364136223846793005) + 1442695040888963407)) 0 14) 33) (x1).toInt64)).toInt32)]) (M' := gm (gsJ g 0 14 (((gJ g 0 14) * 6364136223846793005) + 1442695040888963407))) rfl ?_
    cases h
    exact g_ret rfl rfl rfl rfl
  · replace h := (if_neg c1).symm.trans h
    refine g_run 2 (pc' := 36) (L' := [some (.ref 0), some (.int x1)]) (S' := [.int 0]) (M' := gm (gsJ g 0 14 (((gJ g 0 14) * 6364136223846793005) + 1442695040888963407))) rfl ?_
    cases h
    exact g_ret rfl rfl rfl rfl
def f_X11_drawWhatIsAhead_109 (g : zSg) : Option (Unit × zSg) := some ((), (gsI g 39 7 (imin 999 ((gI g 39 7) + 1))))
set_option maxRecDepth 100000 in
set_option maxHeartbeats 4000000 in
theorem p_X11_drawWhatIsAhead_109 {sc : zSc} {hp : zHp} {d : Nat} (hD : 3 ≤ d) (g : zSg) (r : Unit × zSg) (h : f_X11_drawWhatIsAhead_109 g = some r) : zG d sc hp (zcd zM_X11_drawWhatIsAhead) 109 [some (.ref 0), none, none, none] [] (gm g) (none, gm r.2) := by
  obtain ⟨d, rfl⟩ : ∃ d', d = d' + 1 := ⟨d - 1, by omega⟩
  unfold f_X11_drawWhatIsAhead_109 at h
  refine g_run 8 (pc' := 125) (L' := [some (.ref 0), none, none, none]) (S' := [.int (((gI g 39 7) + 1)), .int 999, .ref 39]) (M' := gm g) rfl ?_
  refine g_spec2 (kd := 0) rfl rfl rfl (by decide) rfl (jd := 1001) rfl (by decide) rfl (Or.inl (by decide)) (S' := [.int ((imin 999 ((gI g 39 7) + 1))), .ref 39]) (M' := gm g) rfl rfl (pc' := 128) rfl ?_
  refine g_run 1 (pc' := 131) (L' := [some (.ref 0), none, none, none]) (S' := []) (M' := gm (gsI g 39 7 (imin 999 ((gI g 39 7) + 1)))) rfl ?_
  cases h
  exact g_ret rfl rfl rfl rfl
def f_X11_drawWhatIsAhead_56 (g : zSg) : Option (Unit × zSg) := (zB (f_X0_persons 3 g) (fun v1 g2 => (zB (f_X11_draw v1 g2) (fun v4 g5 => (zB (f_X7_get 40 v4 g5) (fun v7 g8 => (zB (f_X11_draw 4 g8) (fun v10 g11 => (zB (f_X0_beside 3 v7 v10 g11) (fun v13 g14 => (if v13 = (-1) then f_X11_drawWhatIsAhead_109 g14 else (zB (f_X7_set 40 v4 v13 g14) (fun v17 g18 => f_X11_drawWhatIsAhead_109 g18)))))))))))))
set_option maxRecDepth 100000 in
set_option maxHeartbeats 4000000 in
theorem p_X11_drawWhatIsAhead_56 {sc : zSc} {hp : zHp} {d : Nat} (hD : 3 ≤ d) (g : zSg) (r : Unit × zSg) (h : f_X11_drawWhatIsAhead_56 g = some r) : zG d sc hp (zcd zM_X11_drawWhatIsAhead) 56 [some (.ref 0), none, none, none] [] (gm g) (none, gm r.2) := by
  obtain ⟨d, rfl⟩ : ∃ d', d = d' + 1 := ⟨d - 1, by omega⟩
  unfold f_X11_drawWhatIsAhead_56 at h
  refine g_run 3 (pc' := 61) (L' := [some (.ref 0), none, none, none]) (S' := [.ref 3, .ref 0]) (M' := gm g) rfl ?_
  replace h := zB_of h
  obtain ⟨v1, g2, e3, h⟩ := h
  refine g_inv2 (kd := 1) (p_X0_persons 3 rfl e3) rfl rfl rfl (by decide) rfl rfl rfl rfl (by omega) (pc' := 64) rfl (S' := [.int v1, .ref 0]) rfl ?_
  replace h := zB_of h
  obtain ⟨v4, g5, e6, h⟩ := h
  refine g_inv2 (kd := 1) (p_X11_draw  e6) rfl rfl rfl (by decide) rfl rfl rfl rfl (by omega) (pc' := 67) rfl (S' := [.int v4]) rfl ?_
  refine g_run 7 (pc' := 80) (L' := [some (.ref 0), none, some (.int v4), none]) (S' := [.int v4, .ref 40, .ref 3]) (M' := gm g5) rfl ?_
  replace h := zB_of h
  obtain ⟨v7, g8, e9, h⟩ := h
  refine g_inv2 (kd := 1) (p_X7_get 40 rfl e9) rfl rfl rfl (by decide) rfl rfl rfl rfl (by omega) (pc' := 83) rfl (S' := [.int v7, .ref 3]) rfl ?_
  refine g_run 2 (pc' := 85) (L' := [some (.ref 0), none, some (.int v4), none]) (S' := [.int 4, .ref 0, .int v7, .ref 3]) (M' := gm g8) rfl ?_
  replace h := zB_of h
  obtain ⟨v10, g11, e12, h⟩ := h
  refine g_inv2 (kd := 1) (p_X11_draw  e12) rfl rfl rfl (by decide) rfl rfl rfl rfl (by omega) (pc' := 88) rfl (S' := [.int v10, .int v7, .ref 3]) rfl ?_
  replace h := zB_of h
  obtain ⟨v13, g14, e15, h⟩ := h
  refine g_inv2 (kd := 1) (p_X0_beside 3 rfl e15) rfl rfl rfl (by decide) rfl rfl rfl rfl (by omega) (pc' := 91) rfl (S' := [.int v13]) rfl ?_
  refine g_run 3 (pc' := 94) (L' := [some (.ref 0), none, some (.int v4), some (.int v13)]) (S' := [.int (-1), .int v13]) (M' := gm g14) rfl ?_
  refine g_icmp (v13 = (-1)) rfl (t := 109) rfl rfl (fun c16 => ?_) (fun c16 => ?_)
  · replace h := (if_pos c16).symm.trans h
    refine g_forget (L' := [some (.ref 0), none, none, none]) (And.intro rfl True.intro) ?_
    exact p_X11_drawWhatIsAhead_109 hD g14 _ h
  · replace h := (if_neg c16).symm.trans h
    refine g_run 5 (pc' := 106) (L' := [some (.ref 0), none, some (.int v4), some (.int v13)]) (S' := [.int v13, .int v4, .ref 40]) (M' := gm g14) rfl ?_
    replace h := zB_of h
    obtain ⟨v17, g18, e19, h⟩ := h
    refine g_inv2 (kd := 1) (p_X7_set 40 rfl e19) rfl rfl rfl (by decide) rfl rfl rfl rfl (by omega) (pc' := 109) rfl (S' := []) rfl ?_
    refine g_forget (L' := [some (.ref 0), none, none, none]) (And.intro rfl True.intro) ?_
    exact p_X11_drawWhatIsAhead_109 hD g18 _ h
def f_X11_drawWhatIsAhead_25 (g : zSg) : Option (Unit × zSg) := (zB (f_X0_secrets 3 g) (fun v1 g2 => (zB (f_X11_draw v1 g2) (fun v4 g5 => (zB (f_X8_isCured 39 v4 g5) (fun v7 g8 => (if ¬ v7 = 0 then f_X11_drawWhatIsAhead_56 g8 else (zB (f_X8_turnHanging 39 v4 g8) (fun v11 g12 => f_X11_drawWhatIsAhead_56 g12)))))))))
set_option maxRecDepth 100000 in
set_option maxHeartbeats 4000000 in
theorem p_X11_drawWhatIsAhead_25 {sc : zSc} {hp : zHp} {d : Nat} (hD : 3 ≤ d) (g : zSg) (r : Unit × zSg) (h : f_X11_drawWhatIsAhead_25 g = some r) : zG d sc hp (zcd zM_X11_drawWhatIsAhead) 25 [some (.ref 0), none, none, none] [] (gm g) (none, gm r.2) := by
  obtain ⟨d, rfl⟩ : ∃ d', d = d' + 1 := ⟨d - 1, by omega⟩
  unfold f_X11_drawWhatIsAhead_25 at h
  refine g_run 3 (pc' := 30) (L' := [some (.ref 0), none, none, none]) (S' := [.ref 3, .ref 0]) (M' := gm g) rfl ?_
  replace h := zB_of h
  obtain ⟨v1, g2, e3, h⟩ := h
  refine g_inv2 (kd := 1) (p_X0_secrets 3 rfl e3) rfl rfl rfl (by decide) rfl rfl rfl rfl (by omega) (pc' := 33) rfl (S' := [.int v1, .ref 0]) rfl ?_
  replace h := zB_of h
  obtain ⟨v4, g5, e6, h⟩ := h
  refine g_inv2 (kd := 1) (p_X11_draw  e6) rfl rfl rfl (by decide) rfl rfl rfl rfl (by omega) (pc' := 36) rfl (S' := [.int v4]) rfl ?_
  refine g_run 4 (pc' := 42) (L' := [some (.ref 0), some (.int v4), none, none]) (S' := [.int v4, .ref 39]) (M' := gm g5) rfl ?_
  replace h := zB_of h
  obtain ⟨v7, g8, e9, h⟩ := h
  refine g_inv2 (kd := 1) (p_X8_isCured 39 rfl e9) rfl rfl rfl (by decide) rfl rfl rfl rfl (by omega) (pc' := 45) rfl (S' := [.int v7]) rfl ?_
  refine g_if (¬ v7 = 0) rfl (t := 56) rfl rfl (fun c10 => ?_) (fun c10 => ?_)
  · replace h := (if_pos c10).symm.trans h
    refine g_forget (L' := [some (.ref 0), none, none, none]) (And.intro rfl True.intro) ?_
    exact p_X11_drawWhatIsAhead_56 hD g8 _ h
  · replace h := (if_neg c10).symm.trans h
    refine g_run 3 (pc' := 53) (L' := [some (.ref 0), some (.int v4), none, none]) (S' := [.int v4, .ref 39]) (M' := gm g8) rfl ?_
    replace h := zB_of h
    obtain ⟨v11, g12, e13, h⟩ := h
    refine g_inv2 (kd := 1) (p_X8_turnHanging 39 rfl e13) rfl rfl rfl (by decide) rfl rfl rfl rfl (by omega) (pc' := 56) rfl (S' := []) rfl ?_
    refine g_forget (L' := [some (.ref 0), none, none, none]) (And.intro rfl True.intro) ?_
    exact p_X11_drawWhatIsAhead_56 hD g12 _ h
def f_X11_drawWhatIsAhead (g : zSg) : Option (Unit × zSg) := (zB (f_X11_draw 10 g) (fun v1 g2 => (if (gI g2 0 13) ≤ v1 then f_X11_drawWhatIsAhead_25 g2 else (zB (f_X11_draw 4 g2) (fun v5 g6 => f_X11_drawWhatIsAhead_25 (gsI g6 39 6 v5))))))
set_option maxRecDepth 100000 in
set_option maxHeartbeats 4000000 in
theorem p_X11_drawWhatIsAhead {sc : zSc} {hp : zHp} {g : zSg} {r : Unit × zSg} (h : f_X11_drawWhatIsAhead g = some r) : zRn sc hp 3 zM_X11_drawWhatIsAhead [.ref 0] (gm g) none (gm r.2) := by
  intro d hD
  obtain ⟨d, rfl⟩ : ∃ d', d = d' + 1 := ⟨d - 1, by omega⟩
  show zG _ sc hp (zcd zM_X11_drawWhatIsAhead) 0 [some (.ref 0), none, none, none] [] (gm g) _
  unfold f_X11_drawWhatIsAhead at h
  refine g_run 2 (pc' := 3) (L' := [some (.ref 0), none, none, none]) (S' := [.int 10, .ref 0]) (M' := gm g) rfl ?_
  replace h := zB_of h
  obtain ⟨v1, g2, e3, h⟩ := h
  refine g_inv2 (kd := 1) (p_X11_draw  e3) rfl rfl rfl (by decide) rfl rfl rfl rfl (by omega) (pc' := 6) rfl (S' := [.int v1]) rfl ?_
  refine g_run 2 (pc' := 10) (L' := [some (.ref 0), none, none, none]) (S' := [.int ((gI g2 0 13)), .int v1]) (M' := gm g2) rfl ?_
  refine g_icmp ((gI g2 0 13) ≤ v1) rfl (t := 25) rfl rfl (fun c4 => ?_) (fun c4 => ?_)
  · replace h := (if_pos c4).symm.trans h
    exact p_X11_drawWhatIsAhead_25 hD g2 _ h
  · replace h := (if_neg c4).symm.trans h
    refine g_run 4 (pc' := 19) (L' := [some (.ref 0), none, none, none]) (S' := [.int 4, .ref 0, .ref 39]) (M' := gm g2) rfl ?_
    replace h := zB_of h
    obtain ⟨v5, g6, e7, h⟩ := h
    refine g_inv2 (kd := 1) (p_X11_draw  e7) rfl rfl rfl (by decide) rfl rfl rfl rfl (by omega) (pc' := 22) rfl (S' := [.int v5, .ref 39]) rfl ?_
    refine g_run 1 (pc' := 25) (L' := [some (.ref 0), none, none, none]) (S' := []) (M' := gm (gsI g6 39 6 v5)) rfl ?_
    exact p_X11_drawWhatIsAhead_25 hD (gsI g6 39 6 v5) _ h
def f_X11_years_77 (g : zSg) : Option (Int32 × zSg) := some ((gI g 39 9), g)
set_option maxRecDepth 100000 in
set_option maxHeartbeats 4000000 in
theorem p_X11_years_77 {sc : zSc} {hp : zHp} {d : Nat} (hD : 22 ≤ d) (g : zSg) (r : Int32 × zSg) (h : f_X11_years_77 g = some r) : zG d sc hp (zcd zM_X11_years) 77 [some (.ref 0), none, none, none, none] [] (gm g) ((some (.int r.1)), gm r.2) := by
  obtain ⟨d, rfl⟩ : ∃ d', d = d' + 1 := ⟨d - 1, by omega⟩
  unfold f_X11_years_77 at h
  refine g_run 3 (pc' := 84) (L' := [some (.ref 0), none, none, none, none]) (S' := [.int ((gI g 39 9))]) (M' := gm g) rfl ?_
  cases h
  exact g_ret rfl rfl rfl rfl
def fb_X11_years_46 (kk : Int32 → Int32 → zSg → Option (Int32 × zSg)) (y1 : Int32) (y4 : Int32) (g : zSg) : Option (Int32 × zSg) := (if y1 ≤ y4 then f_X11_years_77 g else (zB (f_X6_remember 39 g) (fun v2 g3 => (zB (f_X11_drawWhatIsAhead g3) (fun v5 g6 => (zB (f_X11_passNight g6) (fun v8 g9 => kk (y1) (y4 + 1) g9)))))))
def f_X11_years_46 : Nat → Int32 → Int32 → zSg → Option (Int32 × zSg)
  | 0, _, _, _ => none
  | n + 1, y1, y4, g => fb_X11_years_46 (f_X11_years_46 n) y1 y4 g
set_option maxRecDepth 100000 in
set_option maxHeartbeats 4000000 in
theorem p_X11_years_46 {sc : zSc} {hp : zHp} {d : Nat} (hD : 22 ≤ d) : ∀ (n : Nat) (y1 : Int32) (y4 : Int32) (g : zSg) (r : Int32 × zSg), f_X11_years_46 n y1 y4 g = some r → zG d sc hp (zcd zM_X11_years) 46 [some (.ref 0), some (.int y1), none, none, some (.int y4)] [] (gm g) ((some (.int r.1)), gm r.2) := by
  obtain ⟨d, rfl⟩ : ∃ d', d = d' + 1 := ⟨d - 1, by omega⟩
  intro n
  induction n with
  | zero => intro y1 y4 g r h; cases h
  | succ n ih =>
    intro y1 y4 g r h
    replace h : fb_X11_years_46 (f_X11_years_46 n) y1 y4 g = some r := h
    unfold fb_X11_years_46 at h
    refine g_run 2 (pc' := 49) (L' := [some (.ref 0), some (.int y1), none, none, some (.int y4)]) (S' := [.int y1, .int y4]) (M' := gm g) rfl ?_
    refine g_icmp (y1 ≤ y4) rfl (t := 77) rfl rfl (fun c1 => ?_) (fun c1 => ?_)
    · replace h := (if_pos c1).symm.trans h
      refine g_forget (L' := [some (.ref 0), none, none, none, none]) (And.intro rfl True.intro) ?_
      exact p_X11_years_77 hD g _ h
    · replace h := (if_neg c1).symm.trans h
      refine g_run 4 (pc' := 60) (L' := [some (.ref 0), some (.int y1), none, none, some (.int y4)]) (S' := [.ref 39, .ref 48]) (M' := gm g) rfl ?_
      replace h := zB_of h
      obtain ⟨v2, g3, e4, h⟩ := h
      refine g_inv2 (kd := 1) (p_X6_remember 39 rfl e4) rfl rfl rfl (by decide) rfl rfl rfl rfl (by omega) (pc' := 63) rfl (S' := []) rfl ?_
      refine g_run 1 (pc' := 64) (L' := [some (.ref 0), some (.int y1), none, none, some (.int y4)]) (S' := [.ref 0]) (M' := gm g3) rfl ?_
      replace h := zB_of h
      obtain ⟨v5, g6, e7, h⟩ := h
      refine g_inv2 (kd := 1) (p_X11_drawWhatIsAhead  e7) rfl rfl rfl (by decide) rfl rfl rfl rfl (by omega) (pc' := 67) rfl (S' := []) rfl ?_
      refine g_run 1 (pc' := 68) (L' := [some (.ref 0), some (.int y1), none, none, some (.int y4)]) (S' := [.ref 0]) (M' := gm g6) rfl ?_
      replace h := zB_of h
      obtain ⟨v8, g9, e10, h⟩ := h
      refine g_inv2 (kd := 1) (p_X11_passNight  e10) rfl rfl rfl (by decide) rfl rfl rfl rfl (by omega) (pc' := 71) rfl (S' := []) rfl ?_
      refine g_run 2 (pc' := 46) (L' := [some (.ref 0), some (.int y1), none, none, some (.int ((y4 + 1)))]) (S' := []) (M' := gm g9) rfl ?_
      exact ih (y1) (y4 + 1) g9 _ h
def f_X11_years (x1 : Int32) (x2 : Int64) (g : zSg) : Option (Int32 × zSg) := (zB (f_X0_isTold 3 g) (fun v1 g2 => (if v1 = 0 then some ((-1), g2) else (if x1 < 1 then some ((-1), g2) else (if 60 < x1 then some ((-1), g2) else (if ((gI g2 39 9) + x1) ≤ 999 then f_X11_years_46 zFu (x1) (0) (gsJ g2 0 14 x2) else some ((-1), g2)))))))
set_option maxRecDepth 100000 in
set_option maxHeartbeats 4000000 in
theorem p_X11_years {sc : zSc} {hp : zHp} {x1 : Int32} {x2 : Int64} {g : zSg} {r : Int32 × zSg} (h : f_X11_years x1 x2 g = some r) : zRn sc hp 22 zM_X11_years [.ref 0, .int x1, .long (x2)] (gm g) (some (.int r.1)) (gm r.2) := by
  intro d hD
  obtain ⟨d, rfl⟩ : ∃ d', d = d' + 1 := ⟨d - 1, by omega⟩
  show zG _ sc hp (zcd zM_X11_years) 0 [some (.ref 0), some (.int x1), some (.long (x2)), none, none] [] (gm g) _
  unfold f_X11_years at h
  refine g_run 2 (pc' := 4) (L' := [some (.ref 0), some (.int x1), some (.long (x2)), none, none]) (S' := [.ref 3]) (M' := gm g) rfl ?_
  replace h := zB_of h
  obtain ⟨v1, g2, e3, h⟩ := h
  refine g_inv2 (kd := 1) (p_X0_isTold 3 rfl e3) rfl rfl rfl (by decide) rfl rfl rfl rfl (by omega) (pc' := 7) rfl (S' := [.int v1]) rfl ?_
  refine g_if (v1 = 0) rfl (t := 36) rfl rfl (fun c4 => ?_) (fun c4 => ?_)
  · replace h := (if_pos c4).symm.trans h
    refine g_run 1 (pc' := 37) (L' := [some (.ref 0), some (.int x1), some (.long (x2)), none, none]) (S' := [.int (-1)]) (M' := gm g2) rfl ?_
    cases h
    exact g_ret rfl rfl rfl rfl
  · replace h := (if_neg c4).symm.trans h
    refine g_run 2 (pc' := 12) (L' := [some (.ref 0), some (.int x1), some (.long (x2)), none, none]) (S' := [.int 1, .int x1]) (M' := gm g2) rfl ?_
    refine g_icmp (x1 < 1) rfl (t := 36) rfl rfl (fun c5 => ?_) (fun c5 => ?_)
    · replace h := (if_pos c5).symm.trans h
      refine g_run 1 (pc' := 37) (L' := [some (.ref 0), some (.int x1), some (.long (x2)), none, none]) (S' := [.int (-1)]) (M' := gm g2) rfl ?_
      cases h
      exact g_ret rfl rfl rfl rfl
    · replace h := (if_neg c5).symm.trans h
      refine g_run 2 (pc' := 18) (L' := [some (.ref 0), some (.int x1), some (.long (x2)), none, none]) (S' := [.int 60, .int x1]) (M' := gm g2) rfl ?_
      refine g_icmp (60 < x1) rfl (t := 36) rfl rfl (fun c6 => ?_) (fun c6 => ?_)
      · replace h := (if_pos c6).symm.trans h
        refine g_run 1 (pc' := 37) (L' := [some (.ref 0), some (.int x1), some (.long (x2)), none, none]) (S' := [.int (-1)]) (M' := gm g2) rfl ?_
        cases h
        exact g_ret rfl rfl rfl rfl
      · replace h := (if_neg c6).symm.trans h
        refine g_run 6 (pc' := 33) (L' := [some (.ref 0), some (.int x1), some (.long (x2)), none, none]) (S' := [.int 999, .int (((gI g2 39 9) + x1))]) (M' := gm g2) rfl ?_
        refine g_icmp (((gI g2 39 9) + x1) ≤ 999) rfl (t := 38) rfl rfl (fun c7 => ?_) (fun c7 => ?_)
        · replace h := (if_pos c7).symm.trans h
          refine g_run 5 (pc' := 46) (L' := [some (.ref 0), some (.int x1), some (.long (x2)), none, some (.int 0)]) (S' := []) (M' := gm (gsJ g2 0 14 x2)) rfl ?_
          refine g_forget (L' := [some (.ref 0), some (.int x1), none, none, some (.int 0)]) (And.intro rfl (And.intro rfl (And.intro rfl True.intro))) ?_
          exact p_X11_years_46 hD zFu (x1) (0) (gsJ g2 0 14 x2) _ h
        · replace h := (if_neg c7).symm.trans h
          refine g_run 1 (pc' := 37) (L' := [some (.ref 0), some (.int x1), some (.long (x2)), none, none]) (S' := [.int (-1)]) (M' := gm g2) rfl ?_
          cases h
          exact g_ret rfl rfl rfl rfl
def f_X11_status (x1 : Int32) (g : zSg) : Option (Int32 × zSg) := (if x1 < 0 then some ((-1), g) else (if 5 ≤ x1 then some ((-1), g) else (zB (f_X7_get 37 x1 g) (fun v3 g4 => some (v3, g4)))))
set_option maxRecDepth 100000 in
set_option maxHeartbeats 4000000 in
theorem p_X11_status {sc : zSc} {hp : zHp} {x1 : Int32} {g : zSg} {r : Int32 × zSg} (h : f_X11_status x1 g = some r) : zRn sc hp 1 zM_X11_status [.ref 0, .int x1] (gm g) (some (.int r.1)) (gm r.2) := by
  intro d hD
  obtain ⟨d, rfl⟩ : ∃ d', d = d' + 1 := ⟨d - 1, by omega⟩
  show zG _ sc hp (zcd zM_X11_status) 0 [some (.ref 0), some (.int x1)] [] (gm g) _
  unfold f_X11_status at h
  refine g_run 1 (pc' := 1) (L' := [some (.ref 0), some (.int x1)]) (S' := [.int x1]) (M' := gm g) rfl ?_
  refine g_if (x1 < 0) rfl (t := 20) rfl rfl (fun c1 => ?_) (fun c1 => ?_)
  · replace h := (if_pos c1).symm.trans h
    refine g_run 1 (pc' := 21) (L' := [some (.ref 0), some (.int x1)]) (S' := [.int (-1)]) (M' := gm g) rfl ?_
    cases h
    exact g_ret rfl rfl rfl rfl
  · replace h := (if_neg c1).symm.trans h
    refine g_run 2 (pc' := 6) (L' := [some (.ref 0), some (.int x1)]) (S' := [.int 5, .int x1]) (M' := gm g) rfl ?_
    refine g_icmp (5 ≤ x1) rfl (t := 20) rfl rfl (fun c2 => ?_) (fun c2 => ?_)
    · replace h := (if_pos c2).symm.trans h
      refine g_run 1 (pc' := 21) (L' := [some (.ref 0), some (.int x1)]) (S' := [.int (-1)]) (M' := gm g) rfl ?_
      cases h
      exact g_ret rfl rfl rfl rfl
    · replace h := (if_neg c2).symm.trans h
      refine g_run 3 (pc' := 14) (L' := [some (.ref 0), some (.int x1)]) (S' := [.int x1, .ref 37]) (M' := gm g) rfl ?_
      replace h := zB_of h
      obtain ⟨v3, g4, e5, h⟩ := h
      refine g_inv2 (kd := 1) (p_X7_get 37 rfl e5) rfl rfl rfl (by decide) rfl rfl rfl rfl (by omega) (pc' := 17) rfl (S' := [.int v3]) rfl ?_
      refine g_run 1 (pc' := 21) (L' := [some (.ref 0), some (.int x1)]) (S' := [.int v3]) (M' := gm g4) rfl ?_
      cases h
      exact g_ret rfl rfl rfl rfl
def f_X11_undo (g : zSg) : Option (Int32 × zSg) := (zB (f_X6_recall 39 g) (fun v1 g2 => (if v1 = 0 then some ((-1), g2) else (zB (f_X6_acts g2) (fun v5 g6 => some (v5, g6))))))
set_option maxRecDepth 100000 in
set_option maxHeartbeats 4000000 in
theorem p_X11_undo {sc : zSc} {hp : zHp} {g : zSg} {r : Int32 × zSg} (h : f_X11_undo g = some r) : zRn sc hp 4 zM_X11_undo [.ref 0] (gm g) (some (.int r.1)) (gm r.2) := by
  intro d hD
  obtain ⟨d, rfl⟩ : ∃ d', d = d' + 1 := ⟨d - 1, by omega⟩
  show zG _ sc hp (zcd zM_X11_undo) 0 [some (.ref 0)] [] (gm g) _
  unfold f_X11_undo at h
  refine g_run 4 (pc' := 8) (L' := [some (.ref 0)]) (S' := [.ref 39, .ref 48]) (M' := gm g) rfl ?_
  replace h := zB_of h
  obtain ⟨v1, g2, e3, h⟩ := h
  refine g_inv2 (kd := 1) (p_X6_recall 39 rfl e3) rfl rfl rfl (by decide) rfl rfl rfl rfl (by omega) (pc' := 11) rfl (S' := [.int v1]) rfl ?_
  refine g_if (v1 = 0) rfl (t := 24) rfl rfl (fun c4 => ?_) (fun c4 => ?_)
  · replace h := (if_pos c4).symm.trans h
    refine g_run 1 (pc' := 25) (L' := [some (.ref 0)]) (S' := [.int (-1)]) (M' := gm g2) rfl ?_
    cases h
    exact g_ret rfl rfl rfl rfl
  · replace h := (if_neg c4).symm.trans h
    refine g_run 2 (pc' := 18) (L' := [some (.ref 0)]) (S' := [.ref 48]) (M' := gm g2) rfl ?_
    replace h := zB_of h
    obtain ⟨v5, g6, e7, h⟩ := h
    refine g_inv2 (kd := 1) (p_X6_acts  e7) rfl rfl rfl (by decide) rfl rfl rfl rfl (by omega) (pc' := 21) rfl (S' := [.int v5]) rfl ?_
    refine g_run 1 (pc' := 25) (L' := [some (.ref 0)]) (S' := [.int v5]) (M' := gm g6) rfl ?_
    cases h
    exact g_ret rfl rfl rfl rfl
def f_X11_log (x1 : Int32) (x2 : Int32) (g : zSg) : Option (Int32 × zSg) := (zB (f_X6_read 39 x1 x2 g) (fun v1 g2 => some (v1, g2)))
set_option maxRecDepth 100000 in
set_option maxHeartbeats 4000000 in
theorem p_X11_log {sc : zSc} {hp : zHp} {x1 : Int32} {x2 : Int32} {g : zSg} {r : Int32 × zSg} (h : f_X11_log x1 x2 g = some r) : zRn sc hp 3 zM_X11_log [.ref 0, .int x1, .int x2] (gm g) (some (.int r.1)) (gm r.2) := by
  intro d hD
  obtain ⟨d, rfl⟩ : ∃ d', d = d' + 1 := ⟨d - 1, by omega⟩
  show zG _ sc hp (zcd zM_X11_log) 0 [some (.ref 0), some (.int x1), some (.int x2)] [] (gm g) _
  unfold f_X11_log at h
  refine g_run 6 (pc' := 10) (L' := [some (.ref 0), some (.int x1), some (.int x2)]) (S' := [.int x2, .int x1, .ref 39, .ref 48]) (M' := gm g) rfl ?_
  replace h := zB_of h
  obtain ⟨v1, g2, e3, h⟩ := h
  refine g_inv2 (kd := 1) (p_X6_read 39 rfl e3) rfl rfl rfl (by decide) rfl rfl rfl rfl (by omega) (pc' := 13) rfl (S' := [.int v1]) rfl ?_
  cases h
  exact g_ret rfl rfl rfl rfl
def f_X11_image (g : zSg) : Option (Int32 × zSg) := (zB (f_X0_isTold 3 g) (fun v1 g2 => (if ¬ v1 = 0 then (zB (f_X6_picture 39 g2) (fun v5 g6 => some ((gI g6 39 9), g6))) else some ((-1), g2))))
set_option maxRecDepth 100000 in
set_option maxHeartbeats 4000000 in
theorem p_X11_image {sc : zSc} {hp : zHp} {g : zSg} {r : Int32 × zSg} (h : f_X11_image g = some r) : zRn sc hp 4 zM_X11_image [.ref 0] (gm g) (some (.int r.1)) (gm r.2) := by
  intro d hD
  obtain ⟨d, rfl⟩ : ∃ d', d = d' + 1 := ⟨d - 1, by omega⟩
  show zG _ sc hp (zcd zM_X11_image) 0 [some (.ref 0)] [] (gm g) _
  unfold f_X11_image at h
  refine g_run 2 (pc' := 4) (L' := [some (.ref 0)]) (S' := [.ref 3]) (M' := gm g) rfl ?_
  replace h := zB_of h
  obtain ⟨v1, g2, e3, h⟩ := h
  refine g_inv2 (kd := 1) (p_X0_isTold 3 rfl e3) rfl rfl rfl (by decide) rfl rfl rfl rfl (by omega) (pc' := 7) rfl (S' := [.int v1]) rfl ?_
  refine g_if (¬ v1 = 0) rfl (t := 12) rfl rfl (fun c4 => ?_) (fun c4 => ?_)
  · replace h := (if_pos c4).symm.trans h
    refine g_run 4 (pc' := 20) (L' := [some (.ref 0)]) (S' := [.ref 39, .ref 48]) (M' := gm g2) rfl ?_
    replace h := zB_of h
    obtain ⟨v5, g6, e7, h⟩ := h
    refine g_inv2 (kd := 1) (p_X6_picture 39 rfl e7) rfl rfl rfl (by decide) rfl rfl rfl rfl (by omega) (pc' := 23) rfl (S' := []) rfl ?_
    refine g_run 3 (pc' := 30) (L' := [some (.ref 0)]) (S' := [.int ((gI g6 39 9))]) (M' := gm g6) rfl ?_
    cases h
    exact g_ret rfl rfl rfl rfl
  · replace h := (if_neg c4).symm.trans h
    refine g_run 1 (pc' := 11) (L' := [some (.ref 0)]) (S' := [.int (-1)]) (M' := gm g2) rfl ?_
    cases h
    exact g_ret rfl rfl rfl rfl
def f_X11_back (g : zSg) : Option (Int32 × zSg) := (zB (f_X6_restore 39 g) (fun v1 g2 => (if v1 = 0 then some ((-1), g2) else some ((gI g2 39 9), g2))))
set_option maxRecDepth 100000 in
set_option maxHeartbeats 4000000 in
theorem p_X11_back {sc : zSc} {hp : zHp} {g : zSg} {r : Int32 × zSg} (h : f_X11_back g = some r) : zRn sc hp 4 zM_X11_back [.ref 0] (gm g) (some (.int r.1)) (gm r.2) := by
  intro d hD
  obtain ⟨d, rfl⟩ : ∃ d', d = d' + 1 := ⟨d - 1, by omega⟩
  show zG _ sc hp (zcd zM_X11_back) 0 [some (.ref 0)] [] (gm g) _
  unfold f_X11_back at h
  refine g_run 4 (pc' := 8) (L' := [some (.ref 0)]) (S' := [.ref 39, .ref 48]) (M' := gm g) rfl ?_
  replace h := zB_of h
  obtain ⟨v1, g2, e3, h⟩ := h
  refine g_inv2 (kd := 1) (p_X6_restore 39 rfl e3) rfl rfl rfl (by decide) rfl rfl rfl rfl (by omega) (pc' := 11) rfl (S' := [.int v1]) rfl ?_
  refine g_if (v1 = 0) rfl (t := 24) rfl rfl (fun c4 => ?_) (fun c4 => ?_)
  · replace h := (if_pos c4).symm.trans h
    refine g_run 1 (pc' := 25) (L' := [some (.ref 0)]) (S' := [.int (-1)]) (M' := gm g2) rfl ?_
    cases h
    exact g_ret rfl rfl rfl rfl
  · replace h := (if_neg c4).symm.trans h
    refine g_run 4 (pc' := 25) (L' := [some (.ref 0)]) (S' := [.int ((gI g2 39 9))]) (M' := gm g2) rfl ?_
    cases h
    exact g_ret rfl rfl rfl rfl
def f_X11_soon (x1 : Int32) (x2 : Int32) (g : zSg) : Option (Int32 × zSg) := (zB (f_X0_hasBoth 3 x1 x2 g) (fun v1 g2 => (if v1 = 0 then some ((-1), g2) else (zB (f_X3_nightsTillKnown 39 x1 x2 g2) (fun v5 g6 => some (v5, g6))))))
set_option maxRecDepth 100000 in
set_option maxHeartbeats 4000000 in
theorem p_X11_soon {sc : zSc} {hp : zHp} {x1 : Int32} {x2 : Int32} {g : zSg} {r : Int32 × zSg} (h : f_X11_soon x1 x2 g = some r) : zRn sc hp 22 zM_X11_soon [.ref 0, .int x1, .int x2] (gm g) (some (.int r.1)) (gm r.2) := by
  intro d hD
  obtain ⟨d, rfl⟩ : ∃ d', d = d' + 1 := ⟨d - 1, by omega⟩
  show zG _ sc hp (zcd zM_X11_soon) 0 [some (.ref 0), some (.int x1), some (.int x2)] [] (gm g) _
  unfold f_X11_soon at h
  refine g_run 4 (pc' := 6) (L' := [some (.ref 0), some (.int x1), some (.int x2)]) (S' := [.int x2, .int x1, .ref 3]) (M' := gm g) rfl ?_
  replace h := zB_of h
  obtain ⟨v1, g2, e3, h⟩ := h
  refine g_inv2 (kd := 1) (p_X0_hasBoth 3 rfl e3) rfl rfl rfl (by decide) rfl rfl rfl rfl (by omega) (pc' := 9) rfl (S' := [.int v1]) rfl ?_
  refine g_if (v1 = 0) rfl (t := 28) rfl rfl (fun c4 => ?_) (fun c4 => ?_)
  · replace h := (if_pos c4).symm.trans h
    refine g_run 1 (pc' := 29) (L' := [some (.ref 0), some (.int x1), some (.int x2)]) (S' := [.int (-1)]) (M' := gm g2) rfl ?_
    cases h
    exact g_ret rfl rfl rfl rfl
  · replace h := (if_neg c4).symm.trans h
    refine g_run 6 (pc' := 22) (L' := [some (.ref 0), some (.int x1), some (.int x2)]) (S' := [.int x2, .int x1, .ref 39, .ref 430]) (M' := gm g2) rfl ?_
    replace h := zB_of h
    obtain ⟨v5, g6, e7, h⟩ := h
    refine g_inv2 (kd := 1) (p_X3_nightsTillKnown 39 rfl e7) rfl rfl rfl (by decide) rfl rfl rfl rfl (by omega) (pc' := 25) rfl (S' := [.int v5]) rfl ?_
    refine g_run 1 (pc' := 29) (L' := [some (.ref 0), some (.int x1), some (.int x2)]) (S' := [.int v5]) (M' := gm g6) rfl ?_
    cases h
    exact g_ret rfl rfl rfl rfl
def f_X11_ready (x1 : Int32) (g : zSg) : Option (Int32 × zSg) := (zB (f_X0_hasSecret 3 x1 g) (fun v1 g2 => (if v1 = 0 then some ((-1), g2) else (zB (f_X3_nightsTillCured 39 x1 g2) (fun v5 g6 => some (v5, g6))))))
set_option maxRecDepth 100000 in
set_option maxHeartbeats 4000000 in
theorem p_X11_ready {sc : zSc} {hp : zHp} {x1 : Int32} {g : zSg} {r : Int32 × zSg} (h : f_X11_ready x1 g = some r) : zRn sc hp 22 zM_X11_ready [.ref 0, .int x1] (gm g) (some (.int r.1)) (gm r.2) := by
  intro d hD
  obtain ⟨d, rfl⟩ : ∃ d', d = d' + 1 := ⟨d - 1, by omega⟩
  show zG _ sc hp (zcd zM_X11_ready) 0 [some (.ref 0), some (.int x1)] [] (gm g) _
  unfold f_X11_ready at h
  refine g_run 3 (pc' := 5) (L' := [some (.ref 0), some (.int x1)]) (S' := [.int x1, .ref 3]) (M' := gm g) rfl ?_
  replace h := zB_of h
  obtain ⟨v1, g2, e3, h⟩ := h
  refine g_inv2 (kd := 1) (p_X0_hasSecret 3 rfl e3) rfl rfl rfl (by decide) rfl rfl rfl rfl (by omega) (pc' := 8) rfl (S' := [.int v1]) rfl ?_
  refine g_if (v1 = 0) rfl (t := 26) rfl rfl (fun c4 => ?_) (fun c4 => ?_)
  · replace h := (if_pos c4).symm.trans h
    refine g_run 1 (pc' := 27) (L' := [some (.ref 0), some (.int x1)]) (S' := [.int (-1)]) (M' := gm g2) rfl ?_
    cases h
    exact g_ret rfl rfl rfl rfl
  · replace h := (if_neg c4).symm.trans h
    refine g_run 5 (pc' := 20) (L' := [some (.ref 0), some (.int x1)]) (S' := [.int x1, .ref 39, .ref 430]) (M' := gm g2) rfl ?_
    replace h := zB_of h
    obtain ⟨v5, g6, e7, h⟩ := h
    refine g_inv2 (kd := 1) (p_X3_nightsTillCured 39 rfl e7) rfl rfl rfl (by decide) rfl rfl rfl rfl (by omega) (pc' := 23) rfl (S' := [.int v5]) rfl ?_
    refine g_run 1 (pc' := 27) (L' := [some (.ref 0), some (.int x1)]) (S' := [.int v5]) (M' := gm g6) rfl ?_
    cases h
    exact g_ret rfl rfl rfl rfl
def f_X11_kept_109 (s0 : Int32) (s1 : Int32) (s2 : Int32) (g : zSg) : Option (Int32 × zSg) := (zB (f_X3_rowsOfWinds 39 s2 s1 s0 g) (fun v1 g2 => some (v1, g2)))
set_option maxRecDepth 100000 in
set_option maxHeartbeats 4000000 in
theorem p_X11_kept_109 {sc : zSc} {hp : zHp} {d : Nat} (hD : 23 ≤ d) (s0 : Int32) (s1 : Int32) (s2 : Int32) (g : zSg) (r : Int32 × zSg) (h : f_X11_kept_109 s0 s1 s2 g = some r) : zG d sc hp (zcd zM_X11_kept) 109 [none, none, none, none, none] [.int s0, .int s1, .int s2, .ref 39, .ref 430] (gm g) ((some (.int r.1)), gm r.2) := by
  obtain ⟨d, rfl⟩ : ∃ d', d = d' + 1 := ⟨d - 1, by omega⟩
  unfold f_X11_kept_109 at h
  replace h := zB_of h
  obtain ⟨v1, g2, e3, h⟩ := h
  refine g_inv2 (kd := 1) (p_X3_rowsOfWinds 39 rfl e3) rfl rfl rfl (by decide) rfl rfl rfl rfl (by omega) (pc' := 112) rfl (S' := [.int v1]) rfl ?_
  cases h
  exact g_ret rfl rfl rfl rfl
def f_X11_kept_53 (y1 : Int32) (y2 : Int32) (y3 : Int32) (s0 : Int32) (g : zSg) : Option (Int32 × zSg) := (if ¬ s0 = 0 then some ((-1), g) else (zB (f_X8_isCured 39 y1 g) (fun v2 g3 => (if ¬ v2 = 0 then some ((-1), g3) else (zB (f_X10_lacks 39 y1 g3) (fun v6 g7 => (if v6 ≤ 6 then (if ¬ y3 = 0 then f_X11_kept_109 (0) (y2) (y1) g7 else f_X11_kept_109 (1) (y2) (y1) g7) else some ((-1), g7))))))))
set_option maxRecDepth 100000 in
set_option maxHeartbeats 4000000 in
theorem p_X11_kept_53 {sc : zSc} {hp : zHp} {d : Nat} (hD : 23 ≤ d) (y1 : Int32) (y2 : Int32) (y3 : Int32) (s0 : Int32) (g : zSg) (r : Int32 × zSg) (h : f_X11_kept_53 y1 y2 y3 s0 g = some r) : zG d sc hp (zcd zM_X11_kept) 53 [some (.ref 0), some (.int y1), some (.int y2), some (.int y3), none] [.int s0] (gm g) ((some (.int r.1)), gm r.2) := by
  obtain ⟨d, rfl⟩ : ∃ d', d = d' + 1 := ⟨d - 1, by omega⟩
  unfold f_X11_kept_53 at h
  refine g_run 2 (pc' := 57) (L' := [some (.ref 0), some (.int y1), some (.int y2), some (.int y3), some (.int s0)]) (S' := [.int s0]) (M' := gm g) rfl ?_
  refine g_if (¬ s0 = 0) rfl (t := 88) rfl rfl (fun c1 => ?_) (fun c1 => ?_)
  · replace h := (if_pos c1).symm.trans h
    refine g_run 1 (pc' := 89) (L' := [some (.ref 0), some (.int y1), some (.int y2), some (.int y3), some (.int s0)]) (S' := [.int (-1)]) (M' := gm g) rfl ?_
    cases h
    exact g_ret rfl rfl rfl rfl
  · replace h := (if_neg c1).symm.trans h
    refine g_run 3 (pc' := 65) (L' := [some (.ref 0), some (.int y1), some (.int y2), some (.int y3), some (.int s0)]) (S' := [.int y1, .ref 39]) (M' := gm g) rfl ?_
    replace h := zB_of h
    obtain ⟨v2, g3, e4, h⟩ := h
    refine g_inv2 (kd := 1) (p_X8_isCured 39 rfl e4) rfl rfl rfl (by decide) rfl rfl rfl rfl (by omega) (pc' := 68) rfl (S' := [.int v2]) rfl ?_
    refine g_if (¬ v2 = 0) rfl (t := 88) rfl rfl (fun c5 => ?_) (fun c5 => ?_)
    · replace h := (if_pos c5).symm.trans h
      refine g_run 1 (pc' := 89) (L' := [some (.ref 0), some (.int y1), some (.int y2), some (.int y3), some (.int s0)]) (S' := [.int (-1)]) (M' := gm g3) rfl ?_
      cases h
      exact g_ret rfl rfl rfl rfl
    · replace h := (if_neg c5).symm.trans h
      refine g_run 5 (pc' := 80) (L' := [some (.ref 0), some (.int y1), some (.int y2), some (.int y3), some (.int s0)]) (S' := [.int y1, .ref 39, .ref 423]) (M' := gm g3) rfl ?_
      replace h := zB_of h
      obtain ⟨v6, g7, e8, h⟩ := h
      refine g_inv2 (kd := 1) (p_X10_lacks 39 rfl e8) rfl rfl rfl (by decide) rfl rfl rfl rfl (by omega) (pc' := 83) rfl (S' := [.int v6]) rfl ?_
      refine g_run 1 (pc' := 85) (L' := [some (.ref 0), some (.int y1), some (.int y2), some (.int y3), some (.int s0)]) (S' := [.int 6, .int v6]) (M' := gm g7) rfl ?_
      refine g_icmp (v6 ≤ 6) rfl (t := 90) rfl rfl (fun c9 => ?_) (fun c9 => ?_)
      · replace h := (if_pos c9).symm.trans h
        refine g_run 7 (pc' := 101) (L' := [some (.ref 0), some (.int y1), some (.int y2), some (.int y3), some (.int s0)]) (S' := [.int y3, .int y2, .int y1, .ref 39, .ref 430]) (M' := gm g7) rfl ?_
        refine g_if (¬ y3 = 0) rfl (t := 108) rfl rfl (fun c10 => ?_) (fun c10 => ?_)
        · replace h := (if_pos c10).symm.trans h
          refine g_run 1 (pc' := 109) (L' := [some (.ref 0), some (.int y1), some (.int y2), some (.int y3), some (.int s0)]) (S' := [.int 0, .int y2, .int y1, .ref 39, .ref 430]) (M' := gm g7) rfl ?_
          refine g_forget (L' := [none, none, none, none, none]) True.intro ?_
          exact p_X11_kept_109 hD (0) (y2) (y1) g7 _ h
        · replace h := (if_neg c10).symm.trans h
          refine g_run 2 (pc' := 109) (L' := [some (.ref 0), some (.int y1), some (.int y2), some (.int y3), some (.int s0)]) (S' := [.int 1, .int y2, .int y1, .ref 39, .ref 430]) (M' := gm g7) rfl ?_
          refine g_forget (L' := [none, none, none, none, none]) True.intro ?_
          exact p_X11_kept_109 hD (1) (y2) (y1) g7 _ h
      · replace h := (if_neg c9).symm.trans h
        refine g_run 1 (pc' := 89) (L' := [some (.ref 0), some (.int y1), some (.int y2), some (.int y3), some (.int s0)]) (S' := [.int (-1)]) (M' := gm g7) rfl ?_
        cases h
        exact g_ret rfl rfl rfl rfl
def f_X11_kept (x1 : Int32) (x2 : Int32) (x3 : Int32) (g : zSg) : Option (Int32 × zSg) := (zB (f_X0_hasSecret 3 x1 g) (fun v1 g2 => (if v1 = 0 then some ((-1), g2) else (zB (f_X0_hasPersons 3 x2 g2) (fun v5 g6 => (if v5 = 0 then some ((-1), g6) else (if x3 < 0 then some ((-1), g6) else (if x3 ≤ 1 then (zB (f_X0_owner 3 x1 g6) (fun v11 g12 => (if ((x2 >>> (v11 &&& 31)) &&& 1) = 0 then f_X11_kept_53 (x1) (x2) (x3) (0) g12 else f_X11_kept_53 (x1) (x2) (x3) (1) g12))) else some ((-1), g6)))))))))
set_option maxRecDepth 100000 in
set_option maxHeartbeats 4000000 in
theorem p_X11_kept {sc : zSc} {hp : zHp} {x1 : Int32} {x2 : Int32} {x3 : Int32} {g : zSg} {r : Int32 × zSg} (h : f_X11_kept x1 x2 x3 g = some r) : zRn sc hp 23 zM_X11_kept [.ref 0, .int x1, .int x2, .int x3] (gm g) (some (.int r.1)) (gm r.2) := by
  intro d hD
  obtain ⟨d, rfl⟩ : ∃ d', d = d' + 1 := ⟨d - 1, by omega⟩
  show zG _ sc hp (zcd zM_X11_kept) 0 [some (.ref 0), some (.int x1), some (.int x2), some (.int x3), none] [] (gm g) _
  unfold f_X11_kept at h
  refine g_run 3 (pc' := 5) (L' := [some (.ref 0), some (.int x1), some (.int x2), some (.int x3), none]) (S' := [.int x1, .ref 3]) (M' := gm g) rfl ?_
  replace h := zB_of h
  obtain ⟨v1, g2, e3, h⟩ := h
  refine g_inv2 (kd := 1) (p_X0_hasSecret 3 rfl e3) rfl rfl rfl (by decide) rfl rfl rfl rfl (by omega) (pc' := 8) rfl (S' := [.int v1]) rfl ?_
  refine g_if (v1 = 0) rfl (t := 31) rfl rfl (fun c4 => ?_) (fun c4 => ?_)
  · replace h := (if_pos c4).symm.trans h
    refine g_run 1 (pc' := 32) (L' := [some (.ref 0), some (.int x1), some (.int x2), some (.int x3), none]) (S' := [.int (-1)]) (M' := gm g2) rfl ?_
    cases h
    exact g_ret rfl rfl rfl rfl
  · replace h := (if_neg c4).symm.trans h
    refine g_run 3 (pc' := 16) (L' := [some (.ref 0), some (.int x1), some (.int x2), some (.int x3), none]) (S' := [.int x2, .ref 3]) (M' := gm g2) rfl ?_
    replace h := zB_of h
    obtain ⟨v5, g6, e7, h⟩ := h
    refine g_inv2 (kd := 1) (p_X0_hasPersons 3 rfl e7) rfl rfl rfl (by decide) rfl rfl rfl rfl (by omega) (pc' := 19) rfl (S' := [.int v5]) rfl ?_
    refine g_if (v5 = 0) rfl (t := 31) rfl rfl (fun c8 => ?_) (fun c8 => ?_)
    · replace h := (if_pos c8).symm.trans h
      refine g_run 1 (pc' := 32) (L' := [some (.ref 0), some (.int x1), some (.int x2), some (.int x3), none]) (S' := [.int (-1)]) (M' := gm g6) rfl ?_
      cases h
      exact g_ret rfl rfl rfl rfl
    · replace h := (if_neg c8).symm.trans h
      refine g_run 1 (pc' := 23) (L' := [some (.ref 0), some (.int x1), some (.int x2), some (.int x3), none]) (S' := [.int x3]) (M' := gm g6) rfl ?_
      refine g_if (x3 < 0) rfl (t := 31) rfl rfl (fun c9 => ?_) (fun c9 => ?_)
      · replace h := (if_pos c9).symm.trans h
        refine g_run 1 (pc' := 32) (L' := [some (.ref 0), some (.int x1), some (.int x2), some (.int x3), none]) (S' := [.int (-1)]) (M' := gm g6) rfl ?_
        cases h
        exact g_ret rfl rfl rfl rfl
      · replace h := (if_neg c9).symm.trans h
        refine g_run 2 (pc' := 28) (L' := [some (.ref 0), some (.int x1), some (.int x2), some (.int x3), none]) (S' := [.int 1, .int x3]) (M' := gm g6) rfl ?_
        refine g_icmp (x3 ≤ 1) rfl (t := 33) rfl rfl (fun c10 => ?_) (fun c10 => ?_)
        · replace h := (if_pos c10).symm.trans h
          refine g_run 4 (pc' := 39) (L' := [some (.ref 0), some (.int x1), some (.int x2), some (.int x3), none]) (S' := [.int x1, .ref 3, .int x2]) (M' := gm g6) rfl ?_
          replace h := zB_of h
          obtain ⟨v11, g12, e13, h⟩ := h
          refine g_inv2 (kd := 1) (p_X0_owner 3 rfl e13) rfl rfl rfl (by decide) rfl rfl rfl rfl (by omega) (pc' := 42) rfl (S' := [.int v11, .int x2]) rfl ?_
          refine g_run 3 (pc' := 45) (L' := [some (.ref 0), some (.int x1), some (.int x2), some (.int x3), none]) (S' := [.int (((x2 >>> (v11 &&& 31)) &&& 1))]) (M' := gm g12) rfl ?_
          refine g_if (((x2 >>> (v11 &&& 31)) &&& 1) = 0) rfl (t := 52) rfl rfl (fun c14 => ?_) (fun c14 => ?_)
          · replace h := (if_pos c14).symm.trans h
            refine g_run 1 (pc' := 53) (L' := [some (.ref 0), some (.int x1), some (.int x2), some (.int x3), none]) (S' := [.int 0]) (M' := gm g12) rfl ?_
            exact p_X11_kept_53 hD (x1) (x2) (x3) (0) g12 _ h
          · replace h := (if_neg c14).symm.trans h
            refine g_run 2 (pc' := 53) (L' := [some (.ref 0), some (.int x1), some (.int x2), some (.int x3), none]) (S' := [.int 1]) (M' := gm g12) rfl ?_
            exact p_X11_kept_53 hD (x1) (x2) (x3) (1) g12 _ h
        · replace h := (if_neg c10).symm.trans h
          refine g_run 1 (pc' := 32) (L' := [some (.ref 0), some (.int x1), some (.int x2), some (.int x3), none]) (S' := [.int (-1)]) (M' := gm g6) rfl ?_
          cases h
          exact g_ret rfl rfl rfl rfl
def f_X11_odds (x1 : Int32) (x2 : Int32) (x3 : Int32) (x4 : Int32) (g : zSg) : Option (Int32 × zSg) := (zB (f_X0_hasBoth 3 x1 x2 g) (fun v1 g2 => (if v1 = 0 then some ((-1), g2) else (if x3 < 0 then some ((-1), g2) else (if 6 < x3 then some ((-1), g2) else (if x4 < 0 then some ((-1), g2) else (if x4 ≤ 100 then (zB (f_X3_partsThatKnow 39 x1 x2 x3 x4 g2) (fun v9 g10 => some (v9, g10))) else some ((-1), g2))))))))
set_option maxRecDepth 100000 in
set_option maxHeartbeats 4000000 in
theorem p_X11_odds {sc : zSc} {hp : zHp} {x1 : Int32} {x2 : Int32} {x3 : Int32} {x4 : Int32} {g : zSg} {r : Int32 × zSg} (h : f_X11_odds x1 x2 x3 x4 g = some r) : zRn sc hp 22 zM_X11_odds [.ref 0, .int x1, .int x2, .int x3, .int x4] (gm g) (some (.int r.1)) (gm r.2) := by
  intro d hD
  obtain ⟨d, rfl⟩ : ∃ d', d = d' + 1 := ⟨d - 1, by omega⟩
  show zG _ sc hp (zcd zM_X11_odds) 0 [some (.ref 0), some (.int x1), some (.int x2), some (.int x3), some (.int x4)] [] (gm g) _
  unfold f_X11_odds at h
  refine g_run 4 (pc' := 6) (L' := [some (.ref 0), some (.int x1), some (.int x2), some (.int x3), some (.int x4)]) (S' := [.int x2, .int x1, .ref 3]) (M' := gm g) rfl ?_
  replace h := zB_of h
  obtain ⟨v1, g2, e3, h⟩ := h
  refine g_inv2 (kd := 1) (p_X0_hasBoth 3 rfl e3) rfl rfl rfl (by decide) rfl rfl rfl rfl (by omega) (pc' := 9) rfl (S' := [.int v1]) rfl ?_
  refine g_if (v1 = 0) rfl (t := 34) rfl rfl (fun c4 => ?_) (fun c4 => ?_)
  · replace h := (if_pos c4).symm.trans h
    refine g_run 1 (pc' := 35) (L' := [some (.ref 0), some (.int x1), some (.int x2), some (.int x3), some (.int x4)]) (S' := [.int (-1)]) (M' := gm g2) rfl ?_
    cases h
    exact g_ret rfl rfl rfl rfl
  · replace h := (if_neg c4).symm.trans h
    refine g_run 1 (pc' := 13) (L' := [some (.ref 0), some (.int x1), some (.int x2), some (.int x3), some (.int x4)]) (S' := [.int x3]) (M' := gm g2) rfl ?_
    refine g_if (x3 < 0) rfl (t := 34) rfl rfl (fun c5 => ?_) (fun c5 => ?_)
    · replace h := (if_pos c5).symm.trans h
      refine g_run 1 (pc' := 35) (L' := [some (.ref 0), some (.int x1), some (.int x2), some (.int x3), some (.int x4)]) (S' := [.int (-1)]) (M' := gm g2) rfl ?_
      cases h
      exact g_ret rfl rfl rfl rfl
    · replace h := (if_neg c5).symm.trans h
      refine g_run 2 (pc' := 19) (L' := [some (.ref 0), some (.int x1), some (.int x2), some (.int x3), some (.int x4)]) (S' := [.int 6, .int x3]) (M' := gm g2) rfl ?_
      refine g_icmp (6 < x3) rfl (t := 34) rfl rfl (fun c6 => ?_) (fun c6 => ?_)
      · replace h := (if_pos c6).symm.trans h
        refine g_run 1 (pc' := 35) (L' := [some (.ref 0), some (.int x1), some (.int x2), some (.int x3), some (.int x4)]) (S' := [.int (-1)]) (M' := gm g2) rfl ?_
        cases h
        exact g_ret rfl rfl rfl rfl
      · replace h := (if_neg c6).symm.trans h
        refine g_run 1 (pc' := 24) (L' := [some (.ref 0), some (.int x1), some (.int x2), some (.int x3), some (.int x4)]) (S' := [.int x4]) (M' := gm g2) rfl ?_
        refine g_if (x4 < 0) rfl (t := 34) rfl rfl (fun c7 => ?_) (fun c7 => ?_)
        · replace h := (if_pos c7).symm.trans h
          refine g_run 1 (pc' := 35) (L' := [some (.ref 0), some (.int x1), some (.int x2), some (.int x3), some (.int x4)]) (S' := [.int (-1)]) (M' := gm g2) rfl ?_
          cases h
          exact g_ret rfl rfl rfl rfl
        · replace h := (if_neg c7).symm.trans h
          refine g_run 2 (pc' := 31) (L' := [some (.ref 0), some (.int x1), some (.int x2), some (.int x3), some (.int x4)]) (S' := [.int 100, .int x4]) (M' := gm g2) rfl ?_
          refine g_icmp (x4 ≤ 100) rfl (t := 36) rfl rfl (fun c8 => ?_) (fun c8 => ?_)
          · replace h := (if_pos c8).symm.trans h
            refine g_run 8 (pc' := 49) (L' := [some (.ref 0), some (.int x1), some (.int x2), some (.int x3), some (.int x4)]) (S' := [.int x4, .int x3, .int x2, .int x1, .ref 39, .ref 430]) (M' := gm g2) rfl ?_
            replace h := zB_of h
            obtain ⟨v9, g10, e11, h⟩ := h
            refine g_inv2 (kd := 1) (p_X3_partsThatKnow 39 rfl e11) rfl rfl rfl (by decide) rfl rfl rfl rfl (by omega) (pc' := 52) rfl (S' := [.int v9]) rfl ?_
            cases h
            exact g_ret rfl rfl rfl rfl
          · replace h := (if_neg c8).symm.trans h
            refine g_run 1 (pc' := 35) (L' := [some (.ref 0), some (.int x1), some (.int x2), some (.int x3), some (.int x4)]) (S' := [.int (-1)]) (M' := gm g2) rfl ?_
            cases h
            exact g_ret rfl rfl rfl rfl
def f_X11_noted (x1 : Int32) (x2 : Int32) (x3 : Int32) (g : zSg) : Option (Int32 × zSg) := (zB (f_X0_hasSecret 3 x1 g) (fun v1 g2 => (if v1 = 0 then some ((-1), g2) else (zB (f_X0_hasCell 3 x2 g2) (fun v5 g6 => (if ¬ v5 = 0 then (zB (f_X2_note x1 x2 x3 g6) (fun v9 g10 => some (v9, g10))) else some ((-1), g6)))))))
set_option maxRecDepth 100000 in
set_option maxHeartbeats 4000000 in
theorem p_X11_noted {sc : zSc} {hp : zHp} {x1 : Int32} {x2 : Int32} {x3 : Int32} {g : zSg} {r : Int32 × zSg} (h : f_X11_noted x1 x2 x3 g = some r) : zRn sc hp 4 zM_X11_noted [.ref 0, .int x1, .int x2, .int x3] (gm g) (some (.int r.1)) (gm r.2) := by
  intro d hD
  obtain ⟨d, rfl⟩ : ∃ d', d = d' + 1 := ⟨d - 1, by omega⟩
  show zG _ sc hp (zcd zM_X11_noted) 0 [some (.ref 0), some (.int x1), some (.int x2), some (.int x3)] [] (gm g) _
  unfold f_X11_noted at h
  refine g_run 3 (pc' := 5) (L' := [some (.ref 0), some (.int x1), some (.int x2), some (.int x3)]) (S' := [.int x1, .ref 3]) (M' := gm g) rfl ?_
  replace h := zB_of h
  obtain ⟨v1, g2, e3, h⟩ := h
  refine g_inv2 (kd := 1) (p_X0_hasSecret 3 rfl e3) rfl rfl rfl (by decide) rfl rfl rfl rfl (by omega) (pc' := 8) rfl (S' := [.int v1]) rfl ?_
  refine g_if (v1 = 0) rfl (t := 22) rfl rfl (fun c4 => ?_) (fun c4 => ?_)
  · replace h := (if_pos c4).symm.trans h
    refine g_run 1 (pc' := 23) (L' := [some (.ref 0), some (.int x1), some (.int x2), some (.int x3)]) (S' := [.int (-1)]) (M' := gm g2) rfl ?_
    cases h
    exact g_ret rfl rfl rfl rfl
  · replace h := (if_neg c4).symm.trans h
    refine g_run 3 (pc' := 16) (L' := [some (.ref 0), some (.int x1), some (.int x2), some (.int x3)]) (S' := [.int x2, .ref 3]) (M' := gm g2) rfl ?_
    replace h := zB_of h
    obtain ⟨v5, g6, e7, h⟩ := h
    refine g_inv2 (kd := 1) (p_X0_hasCell 3 rfl e7) rfl rfl rfl (by decide) rfl rfl rfl rfl (by omega) (pc' := 19) rfl (S' := [.int v5]) rfl ?_
    refine g_if (¬ v5 = 0) rfl (t := 24) rfl rfl (fun c8 => ?_) (fun c8 => ?_)
    · replace h := (if_pos c8).symm.trans h
      refine g_run 5 (pc' := 31) (L' := [some (.ref 0), some (.int x1), some (.int x2), some (.int x3)]) (S' := [.int x3, .int x2, .int x1, .ref 506]) (M' := gm g6) rfl ?_
      replace h := zB_of h
      obtain ⟨v9, g10, e11, h⟩ := h
      refine g_inv2 (kd := 1) (p_X2_note  e11) rfl rfl rfl (by decide) rfl rfl rfl rfl (by omega) (pc' := 34) rfl (S' := [.int v9]) rfl ?_
      cases h
      exact g_ret rfl rfl rfl rfl
    · replace h := (if_neg c8).symm.trans h
      refine g_run 1 (pc' := 23) (L' := [some (.ref 0), some (.int x1), some (.int x2), some (.int x3)]) (S' := [.int (-1)]) (M' := gm g6) rfl ?_
      cases h
      exact g_ret rfl rfl rfl rfl
def f_X11_heavies (x1 : Int32) (x2 : Int32) (g : zSg) : Option (Int32 × zSg) := (zB (f_X0_hasSecret 3 x1 g) (fun v1 g2 => (if v1 = 0 then some ((-1), g2) else (zB (f_X2_fittingHeavy x1 x2 g2) (fun v5 g6 => some (v5, g6))))))
set_option maxRecDepth 100000 in
set_option maxHeartbeats 4000000 in
theorem p_X11_heavies {sc : zSc} {hp : zHp} {x1 : Int32} {x2 : Int32} {g : zSg} {r : Int32 × zSg} (h : f_X11_heavies x1 x2 g = some r) : zRn sc hp 23 zM_X11_heavies [.ref 0, .int x1, .int x2] (gm g) (some (.int r.1)) (gm r.2) := by
  intro d hD
  obtain ⟨d, rfl⟩ : ∃ d', d = d' + 1 := ⟨d - 1, by omega⟩
  show zG _ sc hp (zcd zM_X11_heavies) 0 [some (.ref 0), some (.int x1), some (.int x2)] [] (gm g) _
  unfold f_X11_heavies at h
  refine g_run 3 (pc' := 5) (L' := [some (.ref 0), some (.int x1), some (.int x2)]) (S' := [.int x1, .ref 3]) (M' := gm g) rfl ?_
  replace h := zB_of h
  obtain ⟨v1, g2, e3, h⟩ := h
  refine g_inv2 (kd := 1) (p_X0_hasSecret 3 rfl e3) rfl rfl rfl (by decide) rfl rfl rfl rfl (by omega) (pc' := 8) rfl (S' := [.int v1]) rfl ?_
  refine g_if (v1 = 0) rfl (t := 23) rfl rfl (fun c4 => ?_) (fun c4 => ?_)
  · replace h := (if_pos c4).symm.trans h
    refine g_run 1 (pc' := 24) (L' := [some (.ref 0), some (.int x1), some (.int x2)]) (S' := [.int (-1)]) (M' := gm g2) rfl ?_
    cases h
    exact g_ret rfl rfl rfl rfl
  · replace h := (if_neg c4).symm.trans h
    refine g_run 4 (pc' := 17) (L' := [some (.ref 0), some (.int x1), some (.int x2)]) (S' := [.int x2, .int x1, .ref 506]) (M' := gm g2) rfl ?_
    replace h := zB_of h
    obtain ⟨v5, g6, e7, h⟩ := h
    refine g_inv2 (kd := 1) (p_X2_fittingHeavy  e7) rfl rfl rfl (by decide) rfl rfl rfl rfl (by omega) (pc' := 20) rfl (S' := [.int v5]) rfl ?_
    refine g_run 1 (pc' := 24) (L' := [some (.ref 0), some (.int x1), some (.int x2)]) (S' := [.int v5]) (M' := gm g6) rfl ?_
    cases h
    exact g_ret rfl rfl rfl rfl
def f_X11_ask (x1 : Int32) (g : zSg) : Option (Int32 × zSg) := (zB (f_X0_hasSecret 3 x1 g) (fun v1 g2 => (if v1 = 0 then some ((-1), g2) else (zB (f_X2_cellToAsk x1 g2) (fun v5 g6 => some (v5, g6))))))
set_option maxRecDepth 100000 in
set_option maxHeartbeats 4000000 in
theorem p_X11_ask {sc : zSc} {hp : zHp} {x1 : Int32} {g : zSg} {r : Int32 × zSg} (h : f_X11_ask x1 g = some r) : zRn sc hp 23 zM_X11_ask [.ref 0, .int x1] (gm g) (some (.int r.1)) (gm r.2) := by
  intro d hD
  obtain ⟨d, rfl⟩ : ∃ d', d = d' + 1 := ⟨d - 1, by omega⟩
  show zG _ sc hp (zcd zM_X11_ask) 0 [some (.ref 0), some (.int x1)] [] (gm g) _
  unfold f_X11_ask at h
  refine g_run 3 (pc' := 5) (L' := [some (.ref 0), some (.int x1)]) (S' := [.int x1, .ref 3]) (M' := gm g) rfl ?_
  replace h := zB_of h
  obtain ⟨v1, g2, e3, h⟩ := h
  refine g_inv2 (kd := 1) (p_X0_hasSecret 3 rfl e3) rfl rfl rfl (by decide) rfl rfl rfl rfl (by omega) (pc' := 8) rfl (S' := [.int v1]) rfl ?_
  refine g_if (v1 = 0) rfl (t := 22) rfl rfl (fun c4 => ?_) (fun c4 => ?_)
  · replace h := (if_pos c4).symm.trans h
    refine g_run 1 (pc' := 23) (L' := [some (.ref 0), some (.int x1)]) (S' := [.int (-1)]) (M' := gm g2) rfl ?_
    cases h
    exact g_ret rfl rfl rfl rfl
  · replace h := (if_neg c4).symm.trans h
    refine g_run 3 (pc' := 16) (L' := [some (.ref 0), some (.int x1)]) (S' := [.int x1, .ref 506]) (M' := gm g2) rfl ?_
    replace h := zB_of h
    obtain ⟨v5, g6, e7, h⟩ := h
    refine g_inv2 (kd := 1) (p_X2_cellToAsk  e7) rfl rfl rfl (by decide) rfl rfl rfl rfl (by omega) (pc' := 19) rfl (S' := [.int v5]) rfl ?_
    refine g_run 1 (pc' := 23) (L' := [some (.ref 0), some (.int x1)]) (S' := [.int v5]) (M' := gm g6) rfl ?_
    cases h
    exact g_ret rfl rfl rfl rfl
def f_X11_worthwhile (x1 : Int32) (g : zSg) : Option (Int32 × zSg) := (zB (f_X0_isTold 3 g) (fun v1 g2 => (if v1 = 0 then some ((-1), g2) else (if x1 < 0 then some ((-1), g2) else (if x1 ≤ 1 then (zB (f_X2_worthiest 39 g2) (fun v7 g8 => (if ¬ x1 = 0 then (zB (f_X2_heavyTogether v7 g8) (fun v11 g12 => some (v11, g12))) else some (v7, g8)))) else some ((-1), g2))))))
set_option maxRecDepth 100000 in
set_option maxHeartbeats 4000000 in
theorem p_X11_worthwhile {sc : zSc} {hp : zHp} {x1 : Int32} {g : zSg} {r : Int32 × zSg} (h : f_X11_worthwhile x1 g = some r) : zRn sc hp 5 zM_X11_worthwhile [.ref 0, .int x1] (gm g) (some (.int r.1)) (gm r.2) := by
  intro d hD
  obtain ⟨d, rfl⟩ : ∃ d', d = d' + 1 := ⟨d - 1, by omega⟩
  show zG _ sc hp (zcd zM_X11_worthwhile) 0 [some (.ref 0), some (.int x1), none] [] (gm g) _
  unfold f_X11_worthwhile at h
  refine g_run 2 (pc' := 4) (L' := [some (.ref 0), some (.int x1), none]) (S' := [.ref 3]) (M' := gm g) rfl ?_
  replace h := zB_of h
  obtain ⟨v1, g2, e3, h⟩ := h
  refine g_inv2 (kd := 1) (p_X0_isTold 3 rfl e3) rfl rfl rfl (by decide) rfl rfl rfl rfl (by omega) (pc' := 7) rfl (S' := [.int v1]) rfl ?_
  refine g_if (v1 = 0) rfl (t := 19) rfl rfl (fun c4 => ?_) (fun c4 => ?_)
  · replace h := (if_pos c4).symm.trans h
    refine g_run 1 (pc' := 20) (L' := [some (.ref 0), some (.int x1), none]) (S' := [.int (-1)]) (M' := gm g2) rfl ?_
    cases h
    exact g_ret rfl rfl rfl rfl
  · replace h := (if_neg c4).symm.trans h
    refine g_run 1 (pc' := 11) (L' := [some (.ref 0), some (.int x1), none]) (S' := [.int x1]) (M' := gm g2) rfl ?_
    refine g_if (x1 < 0) rfl (t := 19) rfl rfl (fun c5 => ?_) (fun c5 => ?_)
    · replace h := (if_pos c5).symm.trans h
      refine g_run 1 (pc' := 20) (L' := [some (.ref 0), some (.int x1), none]) (S' := [.int (-1)]) (M' := gm g2) rfl ?_
      cases h
      exact g_ret rfl rfl rfl rfl
    · replace h := (if_neg c5).symm.trans h
      refine g_run 2 (pc' := 16) (L' := [some (.ref 0), some (.int x1), none]) (S' := [.int 1, .int x1]) (M' := gm g2) rfl ?_
      refine g_icmp (x1 ≤ 1) rfl (t := 21) rfl rfl (fun c6 => ?_) (fun c6 => ?_)
      · replace h := (if_pos c6).symm.trans h
        refine g_run 4 (pc' := 29) (L' := [some (.ref 0), some (.int x1), none]) (S' := [.ref 39, .ref 506]) (M' := gm g2) rfl ?_
        replace h := zB_of h
        obtain ⟨v7, g8, e9, h⟩ := h
        refine g_inv2 (kd := 1) (p_X2_worthiest 39 rfl e9) rfl rfl rfl (by decide) rfl rfl rfl rfl (by omega) (pc' := 32) rfl (S' := [.int v7]) rfl ?_
        refine g_run 2 (pc' := 34) (L' := [some (.ref 0), some (.int x1), some (.int v7)]) (S' := [.int x1]) (M' := gm g8) rfl ?_
        refine g_if (¬ x1 = 0) rfl (t := 41) rfl rfl (fun c10 => ?_) (fun c10 => ?_)
        · replace h := (if_pos c10).symm.trans h
          refine g_run 3 (pc' := 46) (L' := [some (.ref 0), some (.int x1), some (.int v7)]) (S' := [.int v7, .ref 506]) (M' := gm g8) rfl ?_
          replace h := zB_of h
          obtain ⟨v11, g12, e13, h⟩ := h
          refine g_inv2 (kd := 1) (p_X2_heavyTogether  e13) rfl rfl rfl (by decide) rfl rfl rfl rfl (by omega) (pc' := 49) rfl (S' := [.int v11]) rfl ?_
          cases h
          exact g_ret rfl rfl rfl rfl
        · replace h := (if_neg c10).symm.trans h
          refine g_run 2 (pc' := 49) (L' := [some (.ref 0), some (.int x1), some (.int v7)]) (S' := [.int v7]) (M' := gm g8) rfl ?_
          cases h
          exact g_ret rfl rfl rfl rfl
      · replace h := (if_neg c6).symm.trans h
        refine g_run 1 (pc' := 20) (L' := [some (.ref 0), some (.int x1), none]) (S' := [.int (-1)]) (M' := gm g2) rfl ?_
        cases h
        exact g_ret rfl rfl rfl rfl
def f_X11_out (x1 : Int32) (x2 : Int32) (g : zSg) : Option (Int32 × zSg) := (zB (f_X0_hasPerson 3 x1 g) (fun v1 g2 => (if v1 = 0 then some ((-1), g2) else (if x2 < 0 then some ((-1), g2) else (if x2 ≤ 1 then (zB (f_X7_get 40 x1 g2) (fun v7 g8 => (zB (f_X2_nearestPure 39 v7 g8) (fun v10 g11 => (if ¬ v10 = (-1) then (if ¬ x2 = 0 then some (v10, g11) else (zB (f_X0_steps 3 v7 v10 g11) (fun v15 g16 => some (v15, g16)))) else some ((-1), g11)))))) else some ((-1), g2))))))
set_option maxRecDepth 100000 in
set_option maxHeartbeats 4000000 in
theorem p_X11_out {sc : zSc} {hp : zHp} {x1 : Int32} {x2 : Int32} {g : zSg} {r : Int32 × zSg} (h : f_X11_out x1 x2 g = some r) : zRn sc hp 21 zM_X11_out [.ref 0, .int x1, .int x2] (gm g) (some (.int r.1)) (gm r.2) := by
  intro d hD
  obtain ⟨d, rfl⟩ : ∃ d', d = d' + 1 := ⟨d - 1, by omega⟩
  show zG _ sc hp (zcd zM_X11_out) 0 [some (.ref 0), some (.int x1), some (.int x2), none, none] [] (gm g) _
  unfold f_X11_out at h
  refine g_run 3 (pc' := 5) (L' := [some (.ref 0), some (.int x1), some (.int x2), none, none]) (S' := [.int x1, .ref 3]) (M' := gm g) rfl ?_
  replace h := zB_of h
  obtain ⟨v1, g2, e3, h⟩ := h
  refine g_inv2 (kd := 1) (p_X0_hasPerson 3 rfl e3) rfl rfl rfl (by decide) rfl rfl rfl rfl (by omega) (pc' := 8) rfl (S' := [.int v1]) rfl ?_
  refine g_if (v1 = 0) rfl (t := 20) rfl rfl (fun c4 => ?_) (fun c4 => ?_)
  · replace h := (if_pos c4).symm.trans h
    refine g_run 1 (pc' := 21) (L' := [some (.ref 0), some (.int x1), some (.int x2), none, none]) (S' := [.int (-1)]) (M' := gm g2) rfl ?_
    cases h
    exact g_ret rfl rfl rfl rfl
  · replace h := (if_neg c4).symm.trans h
    refine g_run 1 (pc' := 12) (L' := [some (.ref 0), some (.int x1), some (.int x2), none, none]) (S' := [.int x2]) (M' := gm g2) rfl ?_
    refine g_if (x2 < 0) rfl (t := 20) rfl rfl (fun c5 => ?_) (fun c5 => ?_)
    · replace h := (if_pos c5).symm.trans h
      refine g_run 1 (pc' := 21) (L' := [some (.ref 0), some (.int x1), some (.int x2), none, none]) (S' := [.int (-1)]) (M' := gm g2) rfl ?_
      cases h
      exact g_ret rfl rfl rfl rfl
    · replace h := (if_neg c5).symm.trans h
      refine g_run 2 (pc' := 17) (L' := [some (.ref 0), some (.int x1), some (.int x2), none, none]) (S' := [.int 1, .int x2]) (M' := gm g2) rfl ?_
      refine g_icmp (x2 ≤ 1) rfl (t := 22) rfl rfl (fun c6 => ?_) (fun c6 => ?_)
      · replace h := (if_pos c6).symm.trans h
        refine g_run 4 (pc' := 30) (L' := [some (.ref 0), some (.int x1), some (.int x2), none, none]) (S' := [.int x1, .ref 40]) (M' := gm g2) rfl ?_
        replace h := zB_of h
        obtain ⟨v7, g8, e9, h⟩ := h
        refine g_inv2 (kd := 1) (p_X7_get 40 rfl e9) rfl rfl rfl (by decide) rfl rfl rfl rfl (by omega) (pc' := 33) rfl (S' := [.int v7]) rfl ?_
        refine g_run 6 (pc' := 43) (L' := [some (.ref 0), some (.int x1), some (.int x2), some (.int v7), none]) (S' := [.int v7, .ref 39, .ref 506]) (M' := gm g8) rfl ?_
        replace h := zB_of h
        obtain ⟨v10, g11, e12, h⟩ := h
        refine g_inv2 (kd := 1) (p_X2_nearestPure 39 rfl e12) rfl rfl rfl (by decide) rfl rfl rfl rfl (by omega) (pc' := 46) rfl (S' := [.int v10]) rfl ?_
        refine g_run 3 (pc' := 51) (L' := [some (.ref 0), some (.int x1), some (.int x2), some (.int v7), some (.int v10)]) (S' := [.int (-1), .int v10]) (M' := gm g11) rfl ?_
        refine g_icmp (¬ v10 = (-1)) rfl (t := 56) rfl rfl (fun c13 => ?_) (fun c13 => ?_)
        · replace h := (if_pos c13).symm.trans h
          refine g_run 1 (pc' := 57) (L' := [some (.ref 0), some (.int x1), some (.int x2), some (.int v7), some (.int v10)]) (S' := [.int x2]) (M' := gm g11) rfl ?_
          refine g_if (¬ x2 = 0) rfl (t := 73) rfl rfl (fun c14 => ?_) (fun c14 => ?_)
          · replace h := (if_pos c14).symm.trans h
            refine g_run 1 (pc' := 75) (L' := [some (.ref 0), some (.int x1), some (.int x2), some (.int v7), some (.int v10)]) (S' := [.int v10]) (M' := gm g11) rfl ?_
            cases h
            exact g_ret rfl rfl rfl rfl
          · replace h := (if_neg c14).symm.trans h
            refine g_run 4 (pc' := 67) (L' := [some (.ref 0), some (.int x1), some (.int x2), some (.int v7), some (.int v10)]) (S' := [.int v10, .int v7, .ref 3]) (M' := gm g11) rfl ?_
            replace h := zB_of h
            obtain ⟨v15, g16, e17, h⟩ := h
            refine g_inv2 (kd := 1) (p_X0_steps 3 rfl e17) rfl rfl rfl (by decide) rfl rfl rfl rfl (by omega) (pc' := 70) rfl (S' := [.int v15]) rfl ?_
            refine g_run 1 (pc' := 75) (L' := [some (.ref 0), some (.int x1), some (.int x2), some (.int v7), some (.int v10)]) (S' := [.int v15]) (M' := gm g16) rfl ?_
            cases h
            exact g_ret rfl rfl rfl rfl
        · replace h := (if_neg c13).symm.trans h
          refine g_run 1 (pc' := 55) (L' := [some (.ref 0), some (.int x1), some (.int x2), some (.int v7), some (.int v10)]) (S' := [.int (-1)]) (M' := gm g11) rfl ?_
          cases h
          exact g_ret rfl rfl rfl rfl
      · replace h := (if_neg c6).symm.trans h
        refine g_run 1 (pc' := 21) (L' := [some (.ref 0), some (.int x1), some (.int x2), none, none]) (S' := [.int (-1)]) (M' := gm g2) rfl ?_
        cases h
        exact g_ret rfl rfl rfl rfl
def f_X11_game_43 (g : zSg) : Option (Int32 × zSg) := some ((-1000000), g)
set_option maxRecDepth 100000 in
set_option maxHeartbeats 4000000 in
theorem p_X11_game_43 {sc : zSc} {hp : zHp} {d : Nat} (hD : 21 ≤ d) (g : zSg) (r : Int32 × zSg) (h : f_X11_game_43 g = some r) : zG d sc hp (zcd zM_X11_game) 43 [none, none, none, none, none, none, none, none] [] (gm g) ((some (.int r.1)), gm r.2) := by
  obtain ⟨d, rfl⟩ : ∃ d', d = d' + 1 := ⟨d - 1, by omega⟩
  unfold f_X11_game_43 at h
  refine g_run 1 (pc' := 46) (L' := [none, none, none, none, none, none, none, none]) (S' := [.int (-1000000)]) (M' := gm g) rfl ?_
  cases h
  exact g_ret rfl rfl rfl rfl
def f_X11_game (x1 : Int32) (x2 : Int32) (x3 : Int32) (x4 : Int32) (x5 : Int32) (g : zSg) : Option (Int32 × zSg) := (zB (f_X0_hasTwo 3 x1 x2 g) (fun v1 g2 => (if v1 = 0 then f_X11_game_43 g2 else (if x3 < 0 then f_X11_game_43 g2 else (if 4 < x3 then f_X11_game_43 g2 else (if x4 < 0 then f_X11_game_43 g2 else (if 4 < x4 then f_X11_game_43 g2 else (if x5 < 0 then f_X11_game_43 g2 else (if x5 ≤ 1 then (zB (f_X7_get 40 x1 g2) (fun v11 g12 => (zB (f_X7_get 40 x2 g12) (fun v14 g15 => (if ¬ x5 = 0 then (zB (f_X2_gain 39 v14 v11 x4 x3 g15) (fun v18 g19 => some (v18, g19))) else (zB (f_X2_gain 39 v11 v14 x3 x4 g15) (fun v21 g22 => some (v21, g22)))))))) else f_X11_game_43 g2)))))))))
set_option maxRecDepth 100000 in
set_option maxHeartbeats 4000000 in
theorem p_X11_game {sc : zSc} {hp : zHp} {x1 : Int32} {x2 : Int32} {x3 : Int32} {x4 : Int32} {x5 : Int32} {g : zSg} {r : Int32 × zSg} (h : f_X11_game x1 x2 x3 x4 x5 g = some r) : zRn sc hp 21 zM_X11_game [.ref 0, .int x1, .int x2, .int x3, .int x4, .int x5] (gm g) (some (.int r.1)) (gm r.2) := by
  intro d hD
  obtain ⟨d, rfl⟩ : ∃ d', d = d' + 1 := ⟨d - 1, by omega⟩
  show zG _ sc hp (zcd zM_X11_game) 0 [some (.ref 0), some (.int x1), some (.int x2), some (.int x3), some (.int x4), some (.int x5), none, none] [] (gm g) _
  unfold f_X11_game at h
  refine g_run 4 (pc' := 6) (L' := [some (.ref 0), some (.int x1), some (.int x2), some (.int x3), some (.int x4), some (.int x5), none, none]) (S' := [.int x2, .int x1, .ref 3]) (M' := gm g) rfl ?_
  replace h := zB_of h
  obtain ⟨v1, g2, e3, h⟩ := h
  refine g_inv2 (kd := 1) (p_X0_hasTwo 3 rfl e3) rfl rfl rfl (by decide) rfl rfl rfl rfl (by omega) (pc' := 9) rfl (S' := [.int v1]) rfl ?_
  refine g_if (v1 = 0) rfl (t := 43) rfl rfl (fun c4 => ?_) (fun c4 => ?_)
  · replace h := (if_pos c4).symm.trans h
    refine g_forget (L' := [none, none, none, none, none, none, none, none]) True.intro ?_
    exact p_X11_game_43 hD g2 _ h
  · replace h := (if_neg c4).symm.trans h
    refine g_run 1 (pc' := 13) (L' := [some (.ref 0), some (.int x1), some (.int x2), some (.int x3), some (.int x4), some (.int x5), none, none]) (S' := [.int x3]) (M' := gm g2) rfl ?_
    refine g_if (x3 < 0) rfl (t := 43) rfl rfl (fun c5 => ?_) (fun c5 => ?_)
    · replace h := (if_pos c5).symm.trans h
      refine g_forget (L' := [none, none, none, none, none, none, none, none]) True.intro ?_
      exact p_X11_game_43 hD g2 _ h
    · replace h := (if_neg c5).symm.trans h
      refine g_run 2 (pc' := 18) (L' := [some (.ref 0), some (.int x1), some (.int x2), some (.int x3), some (.int x4), some (.int x5), none, none]) (S' := [.int 4, .int x3]) (M' := gm g2) rfl ?_
      refine g_icmp (4 < x3) rfl (t := 43) rfl rfl (fun c6 => ?_) (fun c6 => ?_)
      · replace h := (if_pos c6).symm.trans h
        refine g_forget (L' := [none, none, none, none, none, none, none, none]) True.intro ?_
        exact p_X11_game_43 hD g2 _ h
      · replace h := (if_neg c6).symm.trans h
        refine g_run 1 (pc' := 23) (L' := [some (.ref 0), some (.int x1), some (.int x2), some (.int x3), some (.int x4), some (.int x5), none, none]) (S' := [.int x4]) (M' := gm g2) rfl ?_
        refine g_if (x4 < 0) rfl (t := 43) rfl rfl (fun c7 => ?_) (fun c7 => ?_)
        · replace h := (if_pos c7).symm.trans h
          refine g_forget (L' := [none, none, none, none, none, none, none, none]) True.intro ?_
          exact p_X11_game_43 hD g2 _ h
        · replace h := (if_neg c7).symm.trans h
          refine g_run 2 (pc' := 29) (L' := [some (.ref 0), some (.int x1), some (.int x2), some (.int x3), some (.int x4), some (.int x5), none, none]) (S' := [.int 4, .int x4]) (M' := gm g2) rfl ?_
          refine g_icmp (4 < x4) rfl (t := 43) rfl rfl (fun c8 => ?_) (fun c8 => ?_)
          · replace h := (if_pos c8).symm.trans h
            refine g_forget (L' := [none, none, none, none, none, none, none, none]) True.intro ?_
            exact p_X11_game_43 hD g2 _ h
          · replace h := (if_neg c8).symm.trans h
            refine g_run 1 (pc' := 34) (L' := [some (.ref 0), some (.int x1), some (.int x2), some (.int x3), some (.int x4), some (.int x5), none, none]) (S' := [.int x5]) (M' := gm g2) rfl ?_
            refine g_if (x5 < 0) rfl (t := 43) rfl rfl (fun c9 => ?_) (fun c9 => ?_)
            · replace h := (if_pos c9).symm.trans h
              refine g_forget (L' := [none, none, none, none, none, none, none, none]) True.intro ?_
              exact p_X11_game_43 hD g2 _ h
            · replace h := (if_neg c9).symm.trans h
              refine g_run 2 (pc' := 40) (L' := [some (.ref 0), some (.int x1), some (.int x2), some (.int x3), some (.int x4), some (.int x5), none, none]) (S' := [.int 1, .int x5]) (M' := gm g2) rfl ?_
              refine g_icmp (x5 ≤ 1) rfl (t := 47) rfl rfl (fun c10 => ?_) (fun c10 => ?_)
              · replace h := (if_pos c10).symm.trans h
                refine g_run 4 (pc' := 55) (L' := [some (.ref 0), some (.int x1), some (.int x2), some (.int x3), some (.int x4), some (.int x5), none, none]) (S' := [.int x1, .ref 40]) (M' := gm g2) rfl ?_
                replace h := zB_of h
                obtain ⟨v11, g12, e13, h⟩ := h
                refine g_inv2 (kd := 1) (p_X7_get 40 rfl e13) rfl rfl rfl (by decide) rfl rfl rfl rfl (by omega) (pc' := 58) rfl (S' := [.int v11]) rfl ?_
                refine g_run 5 (pc' := 68) (L' := [some (.ref 0), some (.int x1), some (.int x2), some (.int x3), some (.int x4), some (.int x5), some (.int v11), none]) (S' := [.int x2, .ref 40]) (M' := gm g12) rfl ?_
                replace h := zB_of h
                obtain ⟨v14, g15, e16, h⟩ := h
                refine g_inv2 (kd := 1) (p_X7_get 40 rfl e16) rfl rfl rfl (by decide) rfl rfl rfl rfl (by omega) (pc' := 71) rfl (S' := [.int v14]) rfl ?_
                refine g_run 2 (pc' := 75) (L' := [some (.ref 0), some (.int x1), some (.int x2), some (.int x3), some (.int x4), some (.int x5), some (.int v11), some (.int v14)]) (S' := [.int x5]) (M' := gm g15) rfl ?_
                refine g_if (¬ x5 = 0) rfl (t := 99) rfl rfl (fun c17 => ?_) (fun c17 => ?_)
                · replace h := (if_pos c17).symm.trans h
                  refine g_run 8 (pc' := 114) (L' := [some (.ref 0), some (.int x1), some (.int x2), some (.int x3), some (.int x4), some (.int x5), some (.int v11), some (.int v14)]) (S' := [.int x3, .int x4, .int v11, .int v14, .ref 39, .ref 506]) (M' := gm g15) rfl ?_
                  replace h := zB_of h
                  obtain ⟨v18, g19, e20, h⟩ := h
                  refine g_inv2 (kd := 1) (p_X2_gain 39 rfl e20) rfl rfl rfl (by decide) rfl rfl rfl rfl (by omega) (pc' := 117) rfl (S' := [.int v18]) rfl ?_
                  cases h
                  exact g_ret rfl rfl rfl rfl
                · replace h := (if_neg c17).symm.trans h
                  refine g_run 8 (pc' := 93) (L' := [some (.ref 0), some (.int x1), some (.int x2), some (.int x3), some (.int x4), some (.int x5), some (.int v11), some (.int v14)]) (S' := [.int x4, .int x3, .int v14, .int v11, .ref 39, .ref 506]) (M' := gm g15) rfl ?_
                  replace h := zB_of h
                  obtain ⟨v21, g22, e23, h⟩ := h
                  refine g_inv2 (kd := 1) (p_X2_gain 39 rfl e23) rfl rfl rfl (by decide) rfl rfl rfl rfl (by omega) (pc' := 96) rfl (S' := [.int v21]) rfl ?_
                  refine g_run 1 (pc' := 117) (L' := [some (.ref 0), some (.int x1), some (.int x2), some (.int x3), some (.int x4), some (.int x5), some (.int v11), some (.int v14)]) (S' := [.int v21]) (M' := gm g22) rfl ?_
                  cases h
                  exact g_ret rfl rfl rfl rfl
              · replace h := (if_neg c10).symm.trans h
                refine g_forget (L' := [none, none, none, none, none, none, none, none]) True.intro ?_
                exact p_X11_game_43 hD g2 _ h
def f_X11_rests (x1 : Int32) (x2 : Int32) (x3 : Int32) (g : zSg) : Option (Int32 × zSg) := (zB (f_X0_hasTwo 3 x1 x2 g) (fun v1 g2 => (if v1 = 0 then some ((-1), g2) else (zB (f_X2_rest 39 x1 x2 x3 g2) (fun v5 g6 => some (v5, g6))))))
set_option maxRecDepth 100000 in
set_option maxHeartbeats 4000000 in
theorem p_X11_rests {sc : zSc} {hp : zHp} {x1 : Int32} {x2 : Int32} {x3 : Int32} {g : zSg} {r : Int32 × zSg} (h : f_X11_rests x1 x2 x3 g = some r) : zRn sc hp 22 zM_X11_rests [.ref 0, .int x1, .int x2, .int x3] (gm g) (some (.int r.1)) (gm r.2) := by
  intro d hD
  obtain ⟨d, rfl⟩ : ∃ d', d = d' + 1 := ⟨d - 1, by omega⟩
  show zG _ sc hp (zcd zM_X11_rests) 0 [some (.ref 0), some (.int x1), some (.int x2), some (.int x3)] [] (gm g) _
  unfold f_X11_rests at h
  refine g_run 4 (pc' := 6) (L' := [some (.ref 0), some (.int x1), some (.int x2), some (.int x3)]) (S' := [.int x2, .int x1, .ref 3]) (M' := gm g) rfl ?_
  replace h := zB_of h
  obtain ⟨v1, g2, e3, h⟩ := h
  refine g_inv2 (kd := 1) (p_X0_hasTwo 3 rfl e3) rfl rfl rfl (by decide) rfl rfl rfl rfl (by omega) (pc' := 9) rfl (S' := [.int v1]) rfl ?_
  refine g_if (v1 = 0) rfl (t := 29) rfl rfl (fun c4 => ?_) (fun c4 => ?_)
  · replace h := (if_pos c4).symm.trans h
    refine g_run 1 (pc' := 30) (L' := [some (.ref 0), some (.int x1), some (.int x2), some (.int x3)]) (S' := [.int (-1)]) (M' := gm g2) rfl ?_
    cases h
    exact g_ret rfl rfl rfl rfl
  · replace h := (if_neg c4).symm.trans h
    refine g_run 7 (pc' := 23) (L' := [some (.ref 0), some (.int x1), some (.int x2), some (.int x3)]) (S' := [.int x3, .int x2, .int x1, .ref 39, .ref 506]) (M' := gm g2) rfl ?_
    replace h := zB_of h
    obtain ⟨v5, g6, e7, h⟩ := h
    refine g_inv2 (kd := 1) (p_X2_rest 39 rfl e7) rfl rfl rfl (by decide) rfl rfl rfl rfl (by omega) (pc' := 26) rfl (S' := [.int v5]) rfl ?_
    refine g_run 1 (pc' := 30) (L' := [some (.ref 0), some (.int x1), some (.int x2), some (.int x3)]) (S' := [.int v5]) (M' := gm g6) rfl ?_
    cases h
    exact g_ret rfl rfl rfl rfl
def f_X12_in (x1 : Int32) (x2 : Int32) (x3 : Int32) (g : zSg) : Option (Int32 × zSg) := (if x1 < x2 then some (0, g) else (if x3 < x1 then some (0, g) else some (1, g)))
set_option maxRecDepth 100000 in
set_option maxHeartbeats 4000000 in
theorem p_X12_in {sc : zSc} {hp : zHp} {x1 : Int32} {x2 : Int32} {x3 : Int32} {g : zSg} {r : Int32 × zSg} (h : f_X12_in x1 x2 x3 g = some r) : zRn sc hp 0 zM_X12_in [.int x1, .int x2, .int x3] (gm g) (some (.int r.1)) (gm r.2) := by
  intro d hD
  show zG _ sc hp (zcd zM_X12_in) 0 [some (.int x1), some (.int x2), some (.int x3)] [] (gm g) _
  unfold f_X12_in at h
  refine g_run 2 (pc' := 2) (L' := [some (.int x1), some (.int x2), some (.int x3)]) (S' := [.int x2, .int x1]) (M' := gm g) rfl ?_
  refine g_icmp (x1 < x2) rfl (t := 14) rfl rfl (fun c1 => ?_) (fun c1 => ?_)
  · replace h := (if_pos c1).symm.trans h
    refine g_run 1 (pc' := 15) (L' := [some (.int x1), some (.int x2), some (.int x3)]) (S' := [.int 0]) (M' := gm g) rfl ?_
    cases h
    exact g_ret rfl rfl rfl rfl
  · replace h := (if_neg c1).symm.trans h
    refine g_run 2 (pc' := 7) (L' := [some (.int x1), some (.int x2), some (.int x3)]) (S' := [.int x3, .int x1]) (M' := gm g) rfl ?_
    refine g_icmp (x3 < x1) rfl (t := 14) rfl rfl (fun c2 => ?_) (fun c2 => ?_)
    · replace h := (if_pos c2).symm.trans h
      refine g_run 1 (pc' := 15) (L' := [some (.int x1), some (.int x2), some (.int x3)]) (S' := [.int 0]) (M' := gm g) rfl ?_
      cases h
      exact g_ret rfl rfl rfl rfl
    · replace h := (if_neg c2).symm.trans h
      refine g_run 2 (pc' := 15) (L' := [some (.int x1), some (.int x2), some (.int x3)]) (S' := [.int 1]) (M' := gm g) rfl ?_
      cases h
      exact g_ret rfl rfl rfl rfl
def f_X12_has (x1 : Int32) (x2 : Int32) (g : zSg) : Option (Int32 × zSg) := (if ¬ ((x1 >>> (x2 &&& 31)) &&& 1) = 1 then some (0, g) else some (1, g))
set_option maxRecDepth 100000 in
set_option maxHeartbeats 4000000 in
theorem p_X12_has {sc : zSc} {hp : zHp} {x1 : Int32} {x2 : Int32} {g : zSg} {r : Int32 × zSg} (h : f_X12_has x1 x2 g = some r) : zRn sc hp 0 zM_X12_has [.int x1, .int x2] (gm g) (some (.int r.1)) (gm r.2) := by
  intro d hD
  show zG _ sc hp (zcd zM_X12_has) 0 [some (.int x1), some (.int x2)] [] (gm g) _
  unfold f_X12_has at h
  refine g_run 6 (pc' := 6) (L' := [some (.int x1), some (.int x2)]) (S' := [.int 1, .int (((x1 >>> (x2 &&& 31)) &&& 1))]) (M' := gm g) rfl ?_
  refine g_icmp (¬ ((x1 >>> (x2 &&& 31)) &&& 1) = 1) rfl (t := 13) rfl rfl (fun c1 => ?_) (fun c1 => ?_)
  · replace h := (if_pos c1).symm.trans h
    refine g_run 1 (pc' := 14) (L' := [some (.int x1), some (.int x2)]) (S' := [.int 0]) (M' := gm g) rfl ?_
    cases h
    exact g_ret rfl rfl rfl rfl
  · replace h := (if_neg c1).symm.trans h
    refine g_run 2 (pc' := 14) (L' := [some (.int x1), some (.int x2)]) (S' := [.int 1]) (M' := gm g) rfl ?_
    cases h
    exact g_ret rfl rfl rfl rfl
def f_X12_thrown (g : zSg) : Option (Int32 × zSg) := some ((gI g 526 0), g)
set_option maxRecDepth 100000 in
set_option maxHeartbeats 4000000 in
theorem p_X12_thrown {sc : zSc} {hp : zHp} {g : zSg} {r : Int32 × zSg} (h : f_X12_thrown g = some r) : zRn sc hp 0 zM_X12_thrown [.ref 526] (gm g) (some (.int r.1)) (gm r.2) := by
  intro d hD
  show zG _ sc hp (zcd zM_X12_thrown) 0 [some (.ref 526)] [] (gm g) _
  unfold f_X12_thrown at h
  refine g_run 2 (pc' := 4) (L' := [some (.ref 526)]) (S' := [.int ((gI g 526 0))]) (M' := gm g) rfl ?_
  cases h
  exact g_ret rfl rfl rfl rfl
def f_X12_byteOf_45 (y5 : Int32) (s0 : Int32) (g : zSg) : Option (Int32 × zSg) := some (((s0 >>> ((24 - (8 * (imod y5 4))) &&& 31)) &&& 255), g)
set_option maxRecDepth 100000 in
set_option maxHeartbeats 4000000 in
theorem p_X12_byteOf_45 {sc : zSc} {hp : zHp} {d : Nat} (hD : 0 ≤ d) (y5 : Int32) (s0 : Int32) (g : zSg) (r : Int32 × zSg) (h : f_X12_byteOf_45 y5 s0 g = some r) : zG d sc hp (zcd zM_X12_byteOf) 45 [none, none, none, none, none, some (.int y5), none] [.int s0] (gm g) ((some (.int r.1)), gm r.2) := by
  unfold f_X12_byteOf_45 at h
  refine g_run 12 (pc' := 64) (L' := [none, none, none, none, none, some (.int y5), some (.int s0)]) (S' := [.int (((s0 >>> ((24 - (8 * (imod y5 4))) &&& 31)) &&& 255))]) (M' := gm g) rfl ?_
  cases h
  exact g_ret rfl rfl rfl rfl
def f_X12_byteOf (x1 : Int32) (x2 : Int32) (x3 : Int32) (x4 : Int32) (x5 : Int32) (x6 : Int32) (g : zSg) : Option (Int32 × zSg) := (if 4 ≤ x6 then (if 8 ≤ x6 then (if 12 ≤ x6 then (if 16 ≤ x6 then f_X12_byteOf_45 (x6) (x5) g else f_X12_byteOf_45 (x6) (x4) g) else f_X12_byteOf_45 (x6) (x3) g) else f_X12_byteOf_45 (x6) (x2) g) else f_X12_byteOf_45 (x6) (x1) g)
set_option maxRecDepth 100000 in
set_option maxHeartbeats 4000000 in
theorem p_X12_byteOf {sc : zSc} {hp : zHp} {x1 : Int32} {x2 : Int32} {x3 : Int32} {x4 : Int32} {x5 : Int32} {x6 : Int32} {g : zSg} {r : Int32 × zSg} (h : f_X12_byteOf x1 x2 x3 x4 x5 x6 g = some r) : zRn sc hp 0 zM_X12_byteOf [.int x1, .int x2, .int x3, .int x4, .int x5, .int x6] (gm g) (some (.int r.1)) (gm r.2) := by
  intro d hD
  show zG _ sc hp (zcd zM_X12_byteOf) 0 [some (.int x1), some (.int x2), some (.int x3), some (.int x4), some (.int x5), some (.int x6), none] [] (gm g) _
  unfold f_X12_byteOf at h
  refine g_run 2 (pc' := 3) (L' := [some (.int x1), some (.int x2), some (.int x3), some (.int x4), some (.int x5), some (.int x6), none]) (S' := [.int 4, .int x6]) (M' := gm g) rfl ?_
  refine g_icmp (4 ≤ x6) rfl (t := 10) rfl rfl (fun c1 => ?_) (fun c1 => ?_)
  · replace h := (if_pos c1).symm.trans h
    refine g_run 2 (pc' := 14) (L' := [some (.int x1), some (.int x2), some (.int x3), some (.int x4), some (.int x5), some (.int x6), none]) (S' := [.int 8, .int x6]) (M' := gm g) rfl ?_
    refine g_icmp (8 ≤ x6) rfl (t := 21) rfl rfl (fun c2 => ?_) (fun c2 => ?_)
    · replace h := (if_pos c2).symm.trans h
      refine g_run 2 (pc' := 25) (L' := [some (.int x1), some (.int x2), some (.int x3), some (.int x4), some (.int x5), some (.int x6), none]) (S' := [.int 12, .int x6]) (M' := gm g) rfl ?_
      refine g_icmp (12 ≤ x6) rfl (t := 32) rfl rfl (fun c3 => ?_) (fun c3 => ?_)
      · replace h := (if_pos c3).symm.trans h
        refine g_run 2 (pc' := 36) (L' := [some (.int x1), some (.int x2), some (.int x3), some (.int x4), some (.int x5), some (.int x6), none]) (S' := [.int 16, .int x6]) (M' := gm g) rfl ?_
        refine g_icmp (16 ≤ x6) rfl (t := 43) rfl rfl (fun c4 => ?_) (fun c4 => ?_)
        · replace h := (if_pos c4).symm.trans h
          refine g_run 1 (pc' := 45) (L' := [some (.int x1), some (.int x2), some (.int x3), some (.int x4), some (.int x5), some (.int x6), none]) (S' := [.int x5]) (M' := gm g) rfl ?_
          refine g_forget (L' := [none, none, none, none, none, some (.int x6), none]) (And.intro rfl True.intro) ?_
          exact p_X12_byteOf_45 hD (x6) (x5) g _ h
        · replace h := (if_neg c4).symm.trans h
          refine g_run 2 (pc' := 45) (L' := [some (.int x1), some (.int x2), some (.int x3), some (.int x4), some (.int x5), some (.int x6), none]) (S' := [.int x4]) (M' := gm g) rfl ?_
          refine g_forget (L' := [none, none, none, none, none, some (.int x6), none]) (And.intro rfl True.intro) ?_
          exact p_X12_byteOf_45 hD (x6) (x4) g _ h
      · replace h := (if_neg c3).symm.trans h
        refine g_run 2 (pc' := 45) (L' := [some (.int x1), some (.int x2), some (.int x3), some (.int x4), some (.int x5), some (.int x6), none]) (S' := [.int x3]) (M' := gm g) rfl ?_
        refine g_forget (L' := [none, none, none, none, none, some (.int x6), none]) (And.intro rfl True.intro) ?_
        exact p_X12_byteOf_45 hD (x6) (x3) g _ h
    · replace h := (if_neg c2).symm.trans h
      refine g_run 2 (pc' := 45) (L' := [some (.int x1), some (.int x2), some (.int x3), some (.int x4), some (.int x5), some (.int x6), none]) (S' := [.int x2]) (M' := gm g) rfl ?_
      refine g_forget (L' := [none, none, none, none, none, some (.int x6), none]) (And.intro rfl True.intro) ?_
      exact p_X12_byteOf_45 hD (x6) (x2) g _ h
  · replace h := (if_neg c1).symm.trans h
    refine g_run 2 (pc' := 45) (L' := [some (.int x1), some (.int x2), some (.int x3), some (.int x4), some (.int x5), some (.int x6), none]) (S' := [.int x1]) (M' := gm g) rfl ?_
    refine g_forget (L' := [none, none, none, none, none, some (.int x6), none]) (And.intro rfl True.intro) ?_
    exact p_X12_byteOf_45 hD (x6) (x1) g _ h
def f_X12_feed_115 (g : zSg) : Option (Int32 × zSg) := some ((gI g 526 2), g)
set_option maxRecDepth 100000 in
set_option maxHeartbeats 4000000 in
theorem p_X12_feed_115 {sc : zSc} {hp : zHp} {d : Nat} (hD : 1 ≤ d) (g : zSg) (r : Int32 × zSg) (h : f_X12_feed_115 g = some r) : zG d sc hp (zcd zM_X12_feed) 115 [some (.ref 526), none, none, none, none, none, none, none, none] [] (gm g) ((some (.int r.1)), gm r.2) := by
  obtain ⟨d, rfl⟩ : ∃ d', d = d' + 1 := ⟨d - 1, by omega⟩
  unfold f_X12_feed_115 at h
  refine g_run 2 (pc' := 119) (L' := [some (.ref 526), none, none, none, none, none, none, none, none]) (S' := [.int ((gI g 526 2))]) (M' := gm g) rfl ?_
  cases h
  exact g_ret rfl rfl rfl rfl
def f_X12_feed_109 (k62 : Int32 → Int32 → Int32 → Int32 → Int32 → Int32 → zSg → Option (Int32 × zSg)) (y1 : Int32) (y2 : Int32) (y3 : Int32) (y4 : Int32) (y5 : Int32) (y7 : Int32) (g : zSg) : Option (Int32 × zSg) := k62 (y1) (y2) (y3) (y4) (y5) (y7 + 1) g
set_option maxRecDepth 100000 in
set_option maxHeartbeats 4000000 in
theorem p_X12_feed_109 {sc : zSc} {hp : zHp} {d : Nat} (hD : 1 ≤ d) (k62 : Int32 → Int32 → Int32 → Int32 → Int32 → Int32 → zSg → Option (Int32 × zSg)) (hk62 : ∀ (y1 : Int32) (y2 : Int32) (y3 : Int32) (y4 : Int32) (y5 : Int32) (y7 : Int32) (g : zSg) (r : Int32 × zSg), k62 y1 y2 y3 y4 y5 y7 g = some r → zG d sc hp (zcd zM_X12_feed) 62 [some (.ref 526), some (.int y1), some (.int y2), some (.int y3), some (.int y4), some (.int y5), none, some (.int y7), none] [] (gm g) ((some (.int r.1)), gm r.2)) (y1 : Int32) (y2 : Int32) (y3 : Int32) (y4 : Int32) (y5 : Int32) (y7 : Int32) (g : zSg) (r : Int32 × zSg) (h : f_X12_feed_109 k62 y1 y2 y3 y4 y5 y7 g = some r) : zG d sc hp (zcd zM_X12_feed) 109 [some (.ref 526), some (.int y1), some (.int y2), some (.int y3), some (.int y4), some (.int y5), none, some (.int y7), none] [] (gm g) ((some (.int r.1)), gm r.2) := by
  obtain ⟨d, rfl⟩ : ∃ d', d = d' + 1 := ⟨d - 1, by omega⟩
  unfold f_X12_feed_109 at h
  refine g_run 2 (pc' := 62) (L' := [some (.ref 526), some (.int y1), some (.int y2), some (.int y3), some (.int y4), some (.int y5), none, some (.int ((y7 + 1))), none]) (S' := []) (M' := gm g) rfl ?_
  exact hk62 (y1) (y2) (y3) (y4) (y5) (y7 + 1) g _ h
def fb_X12_feed_62 (kk : Int32 → Int32 → Int32 → Int32 → Int32 → Int32 → zSg → Option (Int32 × zSg)) (y1 : Int32) (y2 : Int32) (y3 : Int32) (y4 : Int32) (y5 : Int32) (y7 : Int32) (g : zSg) : Option (Int32 × zSg) := (if 20 ≤ y7 then f_X12_feed_115 g else (zB (f_X12_byteOf y1 y2 y3 y4 y5 y7 g) (fun v2 g3 => (if v2 = 0 then f_X12_feed_109 kk (y1) (y2) (y3) (y4) (y5) (y7) g3 else (if zib (gI g3 526 2) 240 = true then f_X12_feed_109 kk (y1) (y2) (y3) (y4) (y5) (y7) (gsI (gsI g3 (527) (ix (gI g3 526 2)) v2) 526 2 ((gI (gsI g3 (527) (ix (gI g3 526 2)) v2) 526 2) + 1)) else none)))))
def f_X12_feed_62 : Nat → Int32 → Int32 → Int32 → Int32 → Int32 → Int32 → zSg → Option (Int32 × zSg)
  | 0, _, _, _, _, _, _, _ => none
  | n + 1, y1, y2, y3, y4, y5, y7, g => fb_X12_feed_62 (f_X12_feed_62 n) y1 y2 y3 y4 y5 y7 g
set_option maxRecDepth 100000 in
set_option maxHeartbeats 4000000 in
theorem p_X12_feed_62 {sc : zSc} {hp : zHp} {d : Nat} (hD : 1 ≤ d) : ∀ (n : Nat) (y1 : Int32) (y2 : Int32) (y3 : Int32) (y4 : Int32) (y5 : Int32) (y7 : Int32) (g : zSg) (r : Int32 × zSg), f_X12_feed_62 n y1 y2 y3 y4 y5 y7 g = some r → zG d sc hp (zcd zM_X12_feed) 62 [some (.ref 526), some (.int y1), some (.int y2), some (.int y3), some (.int y4), some (.int y5), none, some (.int y7), none] [] (gm g) ((some (.int r.1)), gm r.2) := by
  obtain ⟨d, rfl⟩ : ∃ d', d = d' + 1 := ⟨d - 1, by omega⟩
  intro n
  induction n with
  | zero => intro y1 y2 y3 y4 y5 y7 g r h; cases h
  | succ n ih =>
    intro y1 y2 y3 y4 y5 y7 g r h
    replace h : fb_X12_feed_62 (f_X12_feed_62 n) y1 y2 y3 y4 y5 y7 g = some r := h
    unfold fb_X12_feed_62 at h
    refine g_run 2 (pc' := 66) (L' := [some (.ref 526), some (.int y1), some (.int y2), some (.int y3), some (.int y4), some (.int y5), none, some (.int y7), none]) (S' := [.int 20, .int y7]) (M' := gm g) rfl ?_
    refine g_icmp (20 ≤ y7) rfl (t := 115) rfl rfl (fun c1 => ?_) (fun c1 => ?_)
    · replace h := (if_pos c1).symm.trans h
      refine g_forget (L' := [some (.ref 526), none, none, none, none, none, none, none, none]) (And.intro rfl True.intro) ?_
      exact p_X12_feed_115 hD g _ h
    · replace h := (if_neg c1).symm.trans h
      refine g_run 6 (pc' := 78) (L' := [some (.ref 526), some (.int y1), some (.int y2), some (.int y3), some (.int y4), some (.int y5), none, some (.int y7), none]) (S' := [.int y7, .int y5, .int y4, .int y3, .int y2, .int y1]) (M' := gm g) rfl ?_
      replace h := zB_of h
      obtain ⟨v2, g3, e4, h⟩ := h
      refine g_inv2 (kd := 0) (p_X12_byteOf  e4) rfl rfl rfl (by decide) rfl rfl rfl rfl (by omega) (pc' := 81) rfl (S' := [.int v2]) rfl ?_
      refine g_run 2 (pc' := 85) (L' := [some (.ref 526), some (.int y1), some (.int y2), some (.int y3), some (.int y4), some (.int y5), none, some (.int y7), some (.int v2)]) (S' := [.int v2]) (M' := gm g3) rfl ?_
      refine g_if (v2 = 0) rfl (t := 109) rfl rfl (fun c5 => ?_) (fun c5 => ?_)
      · replace h := (if_pos c5).symm.trans h
        refine g_forget (L' := [some (.ref 526), some (.int y1), some (.int y2), some (.int y3), some (.int y4), some (.int y5), none, some (.int y7), none]) (And.intro rfl (And.intro rfl (And.intro rfl (And.intro rfl (And.intro rfl (And.intro rfl (And.intro rfl True.intro))))))) ?_
        exact p_X12_feed_109 hD (f_X12_feed_62 n) ih (y1) (y2) (y3) (y4) (y5) (y7) g3 _ h
      · replace h := (if_neg c5).symm.trans h
        refine g_run 5 (pc' := 98) (L' := [some (.ref 526), some (.int y1), some (.int y2), some (.int y3), some (.int y4), some (.int y5), none, some (.int y7), some (.int v2)]) (S' := [.int v2, .int ((gI g3 526 2)), .ref 527]) (M' := gm g3) rfl ?_
        by_cases c6 : zib (gI g3 526 2) 240 = true
        case neg => exact nomatch ((if_neg c6).symm.trans h)
        replace h := (if_pos c6).symm.trans h
        refine g_iast rfl (a := 527) rfl c6 ?_
        refine g_run 6 (pc' := 109) (L' := [some (.ref 526), some (.int y1), some (.int y2), some (.int y3), some (.int y4), some (.int y5), none, some (.int y7), some (.int v2)]) (S' := []) (M' := gm (gsI (gsI g3 (527) (ix (gI g3 526 2)) v2) 526 2 ((gI (gsI g3 (527) (ix (gI g3 526 2)) v2) 526 2) + 1))) rfl ?_
        refine g_forget (L' := [some (.ref 526), some (.int y1), some (.int y2), some (.int y3), some (.int y4), some (.int y5), none, some (.int y7), none]) (And.intro rfl (And.intro rfl (And.intro rfl (And.intro rfl (And.intro rfl (And.intro rfl (And.intro rfl True.intro))))))) ?_
        exact p_X12_feed_109 hD (f_X12_feed_62 n) ih (y1) (y2) (y3) (y4) (y5) (y7) (gsI (gsI g3 (527) (ix (gI g3 526 2)) v2) 526 2 ((gI (gsI g3 (527) (ix (gI g3 526 2)) v2) 526 2) + 1)) _ h
def f_X12_feed_44 (y1 : Int32) (y2 : Int32) (y3 : Int32) (y4 : Int32) (y5 : Int32) (y6 : Int32) (g : zSg) : Option (Int32 × zSg) := (if ((gI g 526 2) + y6) ≤ 240 then f_X12_feed_62 zFu (y1) (y2) (y3) (y4) (y5) (0) g else some ((-1), g))
set_option maxRecDepth 100000 in
set_option maxHeartbeats 4000000 in
theorem p_X12_feed_44 {sc : zSc} {hp : zHp} {d : Nat} (hD : 1 ≤ d) (y1 : Int32) (y2 : Int32) (y3 : Int32) (y4 : Int32) (y5 : Int32) (y6 : Int32) (g : zSg) (r : Int32 × zSg) (h : f_X12_feed_44 y1 y2 y3 y4 y5 y6 g = some r) : zG d sc hp (zcd zM_X12_feed) 44 [some (.ref 526), some (.int y1), some (.int y2), some (.int y3), some (.int y4), some (.int y5), some (.int y6), none, none] [] (gm g) ((some (.int r.1)), gm r.2) := by
  obtain ⟨d, rfl⟩ : ∃ d', d = d' + 1 := ⟨d - 1, by omega⟩
  unfold f_X12_feed_44 at h
  refine g_run 5 (pc' := 54) (L' := [some (.ref 526), some (.int y1), some (.int y2), some (.int y3), some (.int y4), some (.int y5), some (.int y6), none, none]) (S' := [.int 240, .int (((gI g 526 2) + y6))]) (M' := gm g) rfl ?_
  refine g_icmp (((gI g 526 2) + y6) ≤ 240) rfl (t := 59) rfl rfl (fun c1 => ?_) (fun c1 => ?_)
  · replace h := (if_pos c1).symm.trans h
    refine g_run 2 (pc' := 62) (L' := [some (.ref 526), some (.int y1), some (.int y2), some (.int y3), some (.int y4), some (.int y5), some (.int y6), some (.int 0), none]) (S' := []) (M' := gm g) rfl ?_
    refine g_forget (L' := [some (.ref 526), some (.int y1), some (.int y2), some (.int y3), some (.int y4), some (.int y5), none, some (.int 0), none]) (And.intro rfl (And.intro rfl (And.intro rfl (And.intro rfl (And.intro rfl (And.intro rfl (And.intro rfl True.intro))))))) ?_
    exact p_X12_feed_62 hD zFu (y1) (y2) (y3) (y4) (y5) (0) g _ h
  · replace h := (if_neg c1).symm.trans h
    refine g_run 1 (pc' := 58) (L' := [some (.ref 526), some (.int y1), some (.int y2), some (.int y3), some (.int y4), some (.int y5), some (.int y6), none, none]) (S' := [.int (-1)]) (M' := gm g) rfl ?_
    cases h
    exact g_ret rfl rfl rfl rfl
def f_X12_feed_35 (k6 : Int32 → Int32 → Int32 → Int32 → Int32 → Int32 → Int32 → zSg → Option (Int32 × zSg)) (y1 : Int32) (y2 : Int32) (y3 : Int32) (y4 : Int32) (y5 : Int32) (y7 : Int32) (s0 : Int32) (s1 : Int32) (g : zSg) : Option (Int32 × zSg) := k6 (y1) (y2) (y3) (y4) (y5) (s1 + s0) (y7 + 1) g
set_option maxRecDepth 100000 in
set_option maxHeartbeats 4000000 in
theorem p_X12_feed_35 {sc : zSc} {hp : zHp} {d : Nat} (hD : 1 ≤ d) (k6 : Int32 → Int32 → Int32 → Int32 → Int32 → Int32 → Int32 → zSg → Option (Int32 × zSg)) (hk6 : ∀ (y1 : Int32) (y2 : Int32) (y3 : Int32) (y4 : Int32) (y5 : Int32) (y6 : Int32) (y7 : Int32) (g : zSg) (r : Int32 × zSg), k6 y1 y2 y3 y4 y5 y6 y7 g = some r → zG d sc hp (zcd zM_X12_feed) 6 [some (.ref 526), some (.int y1), some (.int y2), some (.int y3), some (.int y4), some (.int y5), some (.int y6), some (.int y7), none] [] (gm g) ((some (.int r.1)), gm r.2)) (y1 : Int32) (y2 : Int32) (y3 : Int32) (y4 : Int32) (y5 : Int32) (y7 : Int32) (s0 : Int32) (s1 : Int32) (g : zSg) (r : Int32 × zSg) (h : f_X12_feed_35 k6 y1 y2 y3 y4 y5 y7 s0 s1 g = some r) : zG d sc hp (zcd zM_X12_feed) 35 [some (.ref 526), some (.int y1), some (.int y2), some (.int y3), some (.int y4), some (.int y5), none, some (.int y7), none] [.int s0, .int s1] (gm g) ((some (.int r.1)), gm r.2) := by
  obtain ⟨d, rfl⟩ : ∃ d', d = d' + 1 := ⟨d - 1, by omega⟩
  unfold f_X12_feed_35 at h
  refine g_run 4 (pc' := 6) (L' := [some (.ref 526), some (.int y1), some (.int y2), some (.int y3), some (.int y4), some (.int y5), some (.int ((s1 + s0))), some (.int ((y7 + 1))), none]) (S' := []) (M' := gm g) rfl ?_
  exact hk6 (y1) (y2) (y3) (y4) (y5) (s1 + s0) (y7 + 1) g _ h
def fb_X12_feed_6 (kk : Int32 → Int32 → Int32 → Int32 → Int32 → Int32 → Int32 → zSg → Option (Int32 × zSg)) (y1 : Int32) (y2 : Int32) (y3 : Int32) (y4 : Int32) (y5 : Int32) (y6 : Int32) (y7 : Int32) (g : zSg) : Option (Int32 × zSg) := (if 20 ≤ y7 then f_X12_feed_44 (y1) (y2) (y3) (y4) (y5) (y6) g else (zB (f_X12_byteOf y1 y2 y3 y4 y5 y7 g) (fun v2 g3 => (if v2 = 0 then f_X12_feed_35 kk (y1) (y2) (y3) (y4) (y5) (y7) (0) (y6) g3 else f_X12_feed_35 kk (y1) (y2) (y3) (y4) (y5) (y7) (1) (y6) g3))))
def f_X12_feed_6 : Nat → Int32 → Int32 → Int32 → Int32 → Int32 → Int32 → Int32 → zSg → Option (Int32 × zSg)
  | 0, _, _, _, _, _, _, _, _ => none
  | n + 1, y1, y2, y3, y4, y5, y6, y7, g => fb_X12_feed_6 (f_X12_feed_6 n) y1 y2 y3 y4 y5 y6 y7 g
set_option maxRecDepth 100000 in
set_option maxHeartbeats 4000000 in
theorem p_X12_feed_6 {sc : zSc} {hp : zHp} {d : Nat} (hD : 1 ≤ d) : ∀ (n : Nat) (y1 : Int32) (y2 : Int32) (y3 : Int32) (y4 : Int32) (y5 : Int32) (y6 : Int32) (y7 : Int32) (g : zSg) (r : Int32 × zSg), f_X12_feed_6 n y1 y2 y3 y4 y5 y6 y7 g = some r → zG d sc hp (zcd zM_X12_feed) 6 [some (.ref 526), some (.int y1), some (.int y2), some (.int y3), some (.int y4), some (.int y5), some (.int y6), some (.int y7), none] [] (gm g) ((some (.int r.1)), gm r.2) := by
  obtain ⟨d, rfl⟩ : ∃ d', d = d' + 1 := ⟨d - 1, by omega⟩
  intro n
  induction n with
  | zero => intro y1 y2 y3 y4 y5 y6 y7 g r h; cases h
  | succ n ih =>
    intro y1 y2 y3 y4 y5 y6 y7 g r h
    replace h : fb_X12_feed_6 (f_X12_feed_6 n) y1 y2 y3 y4 y5 y6 y7 g = some r := h
    unfold fb_X12_feed_6 at h
    refine g_run 2 (pc' := 10) (L' := [some (.ref 526), some (.int y1), some (.int y2), some (.int y3), some (.int y4), some (.int y5), some (.int y6), some (.int y7), none]) (S' := [.int 20, .int y7]) (M' := gm g) rfl ?_
    refine g_icmp (20 ≤ y7) rfl (t := 44) rfl rfl (fun c1 => ?_) (fun c1 => ?_)
    · replace h := (if_pos c1).symm.trans h
      refine g_forget (L' := [some (.ref 526), some (.int y1), some (.int y2), some (.int y3), some (.int y4), some (.int y5), some (.int y6), none, none]) (And.intro rfl (And.intro rfl (And.intro rfl (And.intro rfl (And.intro rfl (And.intro rfl (And.intro rfl True.intro))))))) ?_
      exact p_X12_feed_44 hD (y1) (y2) (y3) (y4) (y5) (y6) g _ h
    · replace h := (if_neg c1).symm.trans h
      refine g_run 7 (pc' := 24) (L' := [some (.ref 526), some (.int y1), some (.int y2), some (.int y3), some (.int y4), some (.int y5), some (.int y6), some (.int y7), none]) (S' := [.int y7, .int y5, .int y4, .int y3, .int y2, .int y1, .int y6]) (M' := gm g) rfl ?_
      replace h := zB_of h
      obtain ⟨v2, g3, e4, h⟩ := h
      refine g_inv2 (kd := 0) (p_X12_byteOf  e4) rfl rfl rfl (by decide) rfl rfl rfl rfl (by omega) (pc' := 27) rfl (S' := [.int v2, .int y6]) rfl ?_
      refine g_if (v2 = 0) rfl (t := 34) rfl rfl (fun c5 => ?_) (fun c5 => ?_)
      · replace h := (if_pos c5).symm.trans h
        refine g_run 1 (pc' := 35) (L' := [some (.ref 526), some (.int y1), some (.int y2), some (.int y3), some (.int y4), some (.int y5), some (.int y6), some (.int y7), none]) (S' := [.int 0, .int y6]) (M' := gm g3) rfl ?_
        refine g_forget (L' := [some (.ref 526), some (.int y1), some (.int y2), some (.int y3), some (.int y4), some (.int y5), none, some (.int y7), none]) (And.intro rfl (And.intro rfl (And.intro rfl (And.intro rfl (And.intro rfl (And.intro rfl (And.intro rfl True.intro))))))) ?_
        exact p_X12_feed_35 hD (f_X12_feed_6 n) ih (y1) (y2) (y3) (y4) (y5) (y7) (0) (y6) g3 _ h
      · replace h := (if_neg c5).symm.trans h
        refine g_run 2 (pc' := 35) (L' := [some (.ref 526), some (.int y1), some (.int y2), some (.int y3), some (.int y4), some (.int y5), some (.int y6), some (.int y7), none]) (S' := [.int 1, .int y6]) (M' := gm g3) rfl ?_
        refine g_forget (L' := [some (.ref 526), some (.int y1), some (.int y2), some (.int y3), some (.int y4), some (.int y5), none, some (.int y7), none]) (And.intro rfl (And.intro rfl (And.intro rfl (And.intro rfl (And.intro rfl (And.intro rfl (And.intro rfl True.intro))))))) ?_
        exact p_X12_feed_35 hD (f_X12_feed_6 n) ih (y1) (y2) (y3) (y4) (y5) (y7) (1) (y6) g3 _ h
def f_X12_feed (x1 : Int32) (x2 : Int32) (x3 : Int32) (x4 : Int32) (x5 : Int32) (g : zSg) : Option (Int32 × zSg) := f_X12_feed_6 zFu (x1) (x2) (x3) (x4) (x5) (0) (0) g
set_option maxRecDepth 100000 in
set_option maxHeartbeats 4000000 in
theorem p_X12_feed {sc : zSc} {hp : zHp} {x1 : Int32} {x2 : Int32} {x3 : Int32} {x4 : Int32} {x5 : Int32} {g : zSg} {r : Int32 × zSg} (h : f_X12_feed x1 x2 x3 x4 x5 g = some r) : zRn sc hp 1 zM_X12_feed [.ref 526, .int x1, .int x2, .int x3, .int x4, .int x5] (gm g) (some (.int r.1)) (gm r.2) := by
  intro d hD
  obtain ⟨d, rfl⟩ : ∃ d', d = d' + 1 := ⟨d - 1, by omega⟩
  show zG _ sc hp (zcd zM_X12_feed) 0 [some (.ref 526), some (.int x1), some (.int x2), some (.int x3), some (.int x4), some (.int x5), none, none, none] [] (gm g) _
  unfold f_X12_feed at h
  refine g_run 4 (pc' := 6) (L' := [some (.ref 526), some (.int x1), some (.int x2), some (.int x3), some (.int x4), some (.int x5), some (.int 0), some (.int 0), none]) (S' := []) (M' := gm g) rfl ?_
  exact p_X12_feed_6 hD zFu (x1) (x2) (x3) (x4) (x5) (0) (0) g _ h
