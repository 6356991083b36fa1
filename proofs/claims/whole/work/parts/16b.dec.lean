/-! ===== decompiled functions (by program), 1 ===== -/
def f_X1_clause (g : zSg) : Option (Int32 × zSg) := (zB (f_X9_next g) (fun v1 g2 => (if v1 = 99 then (zB (f_X0_secrets 7 g2) (fun v5 g6 => (if v5 < 6 then (zB (f_X0_addSecret 7 g6) (fun v9 g10 => (zB (f_X1_items 8 4 v9 g10) (fun v12 g13 => (if v12 = 0 ∨ v12 = 1 then some (v12, g13) else none))))) else some (0, g6)))) else (if v1 = 112 then (zB (f_X0_persons 7 g2) (fun v17 g18 => (if v17 < 6 then (zB (f_X0_addPerson 7 g18) (fun v21 g22 => (zB (f_X1_items 5 3 v21 g22) (fun v24 g25 => (if v24 = 0 ∨ v24 = 1 then some (v24, g25) else none))))) else some (0, g18)))) else (if v1 = 115 then (if (gI g2 6 2) = 0 then (zB (f_X1_items 0 5 0 (gsI g2 6 2 1)) (fun v30 g31 => (if v30 = 0 ∨ v30 = 1 then some (v30, g31) else none))) else some (0, g2)) else some (0, g2))))))
set_option maxRecDepth 100000 in
set_option maxHeartbeats 4000000 in
theorem p_X1_clause {sc : zSc} {hp : zHp} {g : zSg} {r : Int32 × zSg} (h : f_X1_clause g = some r) : zRn sc hp 4 zM_X1_clause [.ref 6] (gm g) (some (.int r.1)) (gm r.2) := by
  intro d hD
  obtain ⟨d, rfl⟩ : ∃ d', d = d' + 1 := ⟨d - 1, by omega⟩
  show zG _ sc hp (zcd zM_X1_clause) 0 [some (.ref 6)] [] (gm g) _
  unfold f_X1_clause at h
  refine g_run 2 (pc' := 4) (L' := [some (.ref 6)]) (S' := [.ref 1]) (M' := gm g) rfl ?_
  replace h := zB_of h
  obtain ⟨v1, g2, e3, h⟩ := h
  refine g_inv2 (kd := 1) (p_X9_next  e3) rfl rfl rfl (by decide) rfl rfl rfl rfl (by omega) (pc' := 7) rfl (S' := [.int v1]) rfl ?_
  by_cases c4 : v1 = 99
  · replace h := (if_pos c4).symm.trans h
    refine g_swc c4 rfl rfl rfl (pc' := 90) rfl ?_
    refine g_run 2 (pc' := 94) (L' := [some (.ref 6)]) (S' := [.ref 7]) (M' := gm g2) rfl ?_
    replace h := zB_of h
    obtain ⟨v5, g6, e7, h⟩ := h
    refine g_inv2 (kd := 1) (p_X0_secrets 7 rfl e7) rfl rfl rfl (by decide) rfl rfl rfl rfl (by omega) (pc' := 97) rfl (S' := [.int v5]) rfl ?_
    refine g_run 1 (pc' := 99) (L' := [some (.ref 6)]) (S' := [.int 6, .int v5]) (M' := gm g6) rfl ?_
    refine g_icmp (v5 < 6) rfl (t := 104) rfl rfl (fun c8 => ?_) (fun c8 => ?_)
    · replace h := (if_pos c8).symm.trans h
      refine g_run 5 (pc' := 112) (L' := [some (.ref 6)]) (S' := [.ref 7, .int 4, .int 8, .ref 6]) (M' := gm g6) rfl ?_
      replace h := zB_of h
      obtain ⟨v9, g10, e11, h⟩ := h
      refine g_inv2 (kd := 1) (p_X0_addSecret 7 rfl e11) rfl rfl rfl (by decide) rfl rfl rfl rfl (by omega) (pc' := 115) rfl (S' := [.int v9, .int 4, .int 8, .ref 6]) rfl ?_
      replace h := zB_of h
      obtain ⟨v12, g13, e14, h⟩ := h
      refine g_inv2 (kd := 1) (p_X1_items  e14) rfl rfl rfl (by decide) rfl rfl rfl rfl (by omega) (pc' := 118) rfl (S' := [.int v12]) rfl ?_
      by_cases c15 : v12 = 0 ∨ v12 = 1
      case neg => exact nomatch ((if_neg c15).symm.trans h)
      replace h := (if_pos c15).symm.trans h
      cases h
      exact g_retz rfl rfl c15
    · replace h := (if_neg c8).symm.trans h
      refine g_run 1 (pc' := 103) (L' := [some (.ref 6)]) (S' := [.int 0]) (M' := gm g6) rfl ?_
      cases h
      exact g_ret rfl rfl rfl rfl
  replace h := (if_neg c4).symm.trans h
  by_cases c16 : v1 = 112
  · replace h := (if_pos c16).symm.trans h
    refine g_swc c16 rfl rfl rfl (pc' := 62) rfl ?_
    refine g_run 2 (pc' := 66) (L' := [some (.ref 6)]) (S' := [.ref 7]) (M' := gm g2) rfl ?_
    replace h := zB_of h
    obtain ⟨v17, g18, e19, h⟩ := h
    refine g_inv2 (kd := 1) (p_X0_persons 7 rfl e19) rfl rfl rfl (by decide) rfl rfl rfl rfl (by omega) (pc' := 69) rfl (S' := [.int v17]) rfl ?_
    refine g_run 1 (pc' := 71) (L' := [some (.ref 6)]) (S' := [.int 6, .int v17]) (M' := gm g18) rfl ?_
    refine g_icmp (v17 < 6) rfl (t := 76) rfl rfl (fun c20 => ?_) (fun c20 => ?_)
    · replace h := (if_pos c20).symm.trans h
      refine g_run 5 (pc' := 83) (L' := [some (.ref 6)]) (S' := [.ref 7, .int 3, .int 5, .ref 6]) (M' := gm g18) rfl ?_
      replace h := zB_of h
      obtain ⟨v21, g22, e23, h⟩ := h
      refine g_inv2 (kd := 1) (p_X0_addPerson 7 rfl e23) rfl rfl rfl (by decide) rfl rfl rfl rfl (by omega) (pc' := 86) rfl (S' := [.int v21, .int 3, .int 5, .ref 6]) rfl ?_
      replace h := zB_of h
      obtain ⟨v24, g25, e26, h⟩ := h
      refine g_inv2 (kd := 1) (p_X1_items  e26) rfl rfl rfl (by decide) rfl rfl rfl rfl (by omega) (pc' := 89) rfl (S' := [.int v24]) rfl ?_
      by_cases c27 : v24 = 0 ∨ v24 = 1
      case neg => exact nomatch ((if_neg c27).symm.trans h)
      replace h := (if_pos c27).symm.trans h
      cases h
      exact g_retz rfl rfl c27
    · replace h := (if_neg c20).symm.trans h
      refine g_run 1 (pc' := 75) (L' := [some (.ref 6)]) (S' := [.int 0]) (M' := gm g18) rfl ?_
      cases h
      exact g_ret rfl rfl rfl rfl
  replace h := (if_neg c16).symm.trans h
  by_cases c28 : v1 = 115
  · replace h := (if_pos c28).symm.trans h
    refine g_swc c28 rfl rfl rfl (pc' := 40) rfl ?_
    refine g_run 2 (pc' := 44) (L' := [some (.ref 6)]) (S' := [.int ((gI g2 6 2))]) (M' := gm g2) rfl ?_
    refine g_if ((gI g2 6 2) = 0) rfl (t := 49) rfl rfl (fun c29 => ?_) (fun c29 => ?_)
    · replace h := (if_pos c29).symm.trans h
      refine g_run 7 (pc' := 58) (L' := [some (.ref 6)]) (S' := [.int 0, .int 5, .int 0, .ref 6]) (M' := gm (gsI g2 6 2 1)) rfl ?_
      replace h := zB_of h
      obtain ⟨v30, g31, e32, h⟩ := h
      refine g_inv2 (kd := 1) (p_X1_items  e32) rfl rfl rfl (by decide) rfl rfl rfl rfl (by omega) (pc' := 61) rfl (S' := [.int v30]) rfl ?_
      by_cases c33 : v30 = 0 ∨ v30 = 1
      case neg => exact nomatch ((if_neg c33).symm.trans h)
      replace h := (if_pos c33).symm.trans h
      cases h
      exact g_retz rfl rfl c33
    · replace h := (if_neg c29).symm.trans h
      refine g_run 1 (pc' := 48) (L' := [some (.ref 6)]) (S' := [.int 0]) (M' := gm g2) rfl ?_
      cases h
      exact g_ret rfl rfl rfl rfl
  replace h := (if_neg c28).symm.trans h
  refine g_lsd rfl rfl (off := 112) (by show Op.lookupswitch.offset [(99, 83), (112, 55), (115, 33)] 112 (v1).toInt = _; rw [lv_osw (a := 99) c4 rfl]; rw [lv_osw (a := 112) c16 rfl]; rw [lv_osw (a := 115) c28 rfl]; rfl) (t := 119) rfl ?_
  refine g_run 1 (pc' := 120) (L' := [some (.ref 6)]) (S' := [.int 0]) (M' := gm g2) rfl ?_
  cases h
  exact g_ret rfl rfl rfl rfl
def f_X9_take (x1 : Int32) (g : zSg) : Option (Int32 × zSg) := (zB (f_X9_next g) (fun v1 g2 => (if v1 = x1 then some (1, (gsI g2 1 2 ((gI g2 1 2) + 1))) else some (0, g2))))
set_option maxRecDepth 100000 in
set_option maxHeartbeats 4000000 in
theorem p_X9_take {sc : zSc} {hp : zHp} {x1 : Int32} {g : zSg} {r : Int32 × zSg} (h : f_X9_take x1 g = some r) : zRn sc hp 1 zM_X9_take [.ref 1, .int x1] (gm g) (some (.int r.1)) (gm r.2) := by
  intro d hD
  obtain ⟨d, rfl⟩ : ∃ d', d = d' + 1 := ⟨d - 1, by omega⟩
  show zG _ sc hp (zcd zM_X9_take) 0 [some (.ref 1), some (.int x1)] [] (gm g) _
  unfold f_X9_take at h
  refine g_run 1 (pc' := 1) (L' := [some (.ref 1), some (.int x1)]) (S' := [.ref 1]) (M' := gm g) rfl ?_
  replace h := zB_of h
  obtain ⟨v1, g2, e3, h⟩ := h
  refine g_inv2 (kd := 1) (p_X9_next  e3) rfl rfl rfl (by decide) rfl rfl rfl rfl (by omega) (pc' := 4) rfl (S' := [.int v1]) rfl ?_
  refine g_run 1 (pc' := 5) (L' := [some (.ref 1), some (.int x1)]) (S' := [.int x1, .int v1]) (M' := gm g2) rfl ?_
  refine g_icmp (v1 = x1) rfl (t := 10) rfl rfl (fun c4 => ?_) (fun c4 => ?_)
  · replace h := (if_pos c4).symm.trans h
    refine g_run 7 (pc' := 21) (L' := [some (.ref 1), some (.int x1)]) (S' := [.int 1]) (M' := gm (gsI g2 1 2 ((gI g2 1 2) + 1))) rfl ?_
    cases h
    exact g_ret rfl rfl rfl rfl
  · replace h := (if_neg c4).symm.trans h
    refine g_run 1 (pc' := 9) (L' := [some (.ref 1), some (.int x1)]) (S' := [.int 0]) (M' := gm g2) rfl ?_
    cases h
    exact g_ret rfl rfl rfl rfl
def f_X9_place (g : zSg) : Option (Int32 × zSg) := some ((gI g 1 2), g)
set_option maxRecDepth 100000 in
set_option maxHeartbeats 4000000 in
theorem p_X9_place {sc : zSc} {hp : zHp} {g : zSg} {r : Int32 × zSg} (h : f_X9_place g = some r) : zRn sc hp 0 zM_X9_place [.ref 1] (gm g) (some (.int r.1)) (gm r.2) := by
  intro d hD
  show zG _ sc hp (zcd zM_X9_place) 0 [some (.ref 1)] [] (gm g) _
  unfold f_X9_place at h
  refine g_run 2 (pc' := 4) (L' := [some (.ref 1)]) (S' := [.int ((gI g 1 2))]) (M' := gm g) rfl ?_
  cases h
  exact g_ret rfl rfl rfl rfl
def f_X1_read_95 (g : zSg) : Option (Int32 × zSg) := (zB (f_X9_place g) (fun v1 g2 => some (v1, g2)))
set_option maxRecDepth 100000 in
set_option maxHeartbeats 4000000 in
theorem p_X1_read_95 {sc : zSc} {hp : zHp} {d : Nat} (hD : 5 ≤ d) (g : zSg) (r : Int32 × zSg) (h : f_X1_read_95 g = some r) : zG d sc hp (zcd zM_X1_read) 95 [some (.ref 6), none, none] [] (gm g) ((some (.int r.1)), gm r.2) := by
  obtain ⟨d, rfl⟩ : ∃ d', d = d' + 1 := ⟨d - 1, by omega⟩
  unfold f_X1_read_95 at h
  refine g_run 2 (pc' := 99) (L' := [some (.ref 6), none, none]) (S' := [.ref 1]) (M' := gm g) rfl ?_
  replace h := zB_of h
  obtain ⟨v1, g2, e3, h⟩ := h
  refine g_inv2 (kd := 1) (p_X9_place  e3) rfl rfl rfl (by decide) rfl rfl rfl rfl (by omega) (pc' := 102) rfl (S' := [.int v1]) rfl ?_
  cases h
  exact g_ret rfl rfl rfl rfl
def f_X1_read_67 (y1 : Int32) (g : zSg) : Option (Int32 × zSg) := (if y1 = 0 then f_X1_read_95 g else (zB (f_X9_next g) (fun v2 g3 => (if ¬ v2 = 0 then f_X1_read_95 g3 else (zB (f_X0_stands 7 g3) (fun v6 g7 => (if v6 = 0 then f_X1_read_95 g7 else some ((-1), g7))))))))
set_option maxRecDepth 100000 in
set_option maxHeartbeats 4000000 in
theorem p_X1_read_67 {sc : zSc} {hp : zHp} {d : Nat} (hD : 5 ≤ d) (y1 : Int32) (g : zSg) (r : Int32 × zSg) (h : f_X1_read_67 y1 g = some r) : zG d sc hp (zcd zM_X1_read) 67 [some (.ref 6), some (.int y1), none] [] (gm g) ((some (.int r.1)), gm r.2) := by
  obtain ⟨d, rfl⟩ : ∃ d', d = d' + 1 := ⟨d - 1, by omega⟩
  unfold f_X1_read_67 at h
  refine g_run 1 (pc' := 68) (L' := [some (.ref 6), some (.int y1), none]) (S' := [.int y1]) (M' := gm g) rfl ?_
  refine g_if (y1 = 0) rfl (t := 95) rfl rfl (fun c1 => ?_) (fun c1 => ?_)
  · replace h := (if_pos c1).symm.trans h
    refine g_forget (L' := [some (.ref 6), none, none]) (And.intro rfl True.intro) ?_
    exact p_X1_read_95 hD g _ h
  · replace h := (if_neg c1).symm.trans h
    refine g_run 2 (pc' := 75) (L' := [some (.ref 6), some (.int y1), none]) (S' := [.ref 1]) (M' := gm g) rfl ?_
    replace h := zB_of h
    obtain ⟨v2, g3, e4, h⟩ := h
    refine g_inv2 (kd := 1) (p_X9_next  e4) rfl rfl rfl (by decide) rfl rfl rfl rfl (by omega) (pc' := 78) rfl (S' := [.int v2]) rfl ?_
    refine g_if (¬ v2 = 0) rfl (t := 95) rfl rfl (fun c5 => ?_) (fun c5 => ?_)
    · replace h := (if_pos c5).symm.trans h
      refine g_forget (L' := [some (.ref 6), none, none]) (And.intro rfl True.intro) ?_
      exact p_X1_read_95 hD g3 _ h
    · replace h := (if_neg c5).symm.trans h
      refine g_run 2 (pc' := 85) (L' := [some (.ref 6), some (.int y1), none]) (S' := [.ref 7]) (M' := gm g3) rfl ?_
      replace h := zB_of h
      obtain ⟨v6, g7, e8, h⟩ := h
      refine g_inv2 (kd := 1) (p_X0_stands 7 rfl e8) rfl rfl rfl (by decide) rfl rfl rfl rfl (by omega) (pc' := 88) rfl (S' := [.int v6]) rfl ?_
      refine g_if (v6 = 0) rfl (t := 95) rfl rfl (fun c9 => ?_) (fun c9 => ?_)
      · replace h := (if_pos c9).symm.trans h
        refine g_forget (L' := [some (.ref 6), none, none]) (And.intro rfl True.intro) ?_
        exact p_X1_read_95 hD g7 _ h
      · replace h := (if_neg c9).symm.trans h
        refine g_run 2 (pc' := 102) (L' := [some (.ref 6), some (.int y1), none]) (S' := [.int (-1)]) (M' := gm g7) rfl ?_
        cases h
        exact g_ret rfl rfl rfl rfl
def fb_X1_read_33 (kk : Int32 → Int32 → zSg → Option (Int32 × zSg)) (y1 : Int32) (y2 : Int32) (g : zSg) : Option (Int32 × zSg) := (if y1 = 0 then f_X1_read_67 (y1) g else (if 240 ≤ y2 then f_X1_read_67 (y1) g else (zB (f_X9_take 59 g) (fun v3 g4 => (if v3 = 0 then f_X1_read_67 (y1) g4 else (zB (f_X1_clause g4) (fun v7 g8 => kk (v7) (y2 + 1) g8)))))))
def f_X1_read_33 : Nat → Int32 → Int32 → zSg → Option (Int32 × zSg)
  | 0, _, _, _ => none
  | n + 1, y1, y2, g => fb_X1_read_33 (f_X1_read_33 n) y1 y2 g
set_option maxRecDepth 100000 in
set_option maxHeartbeats 4000000 in
theorem p_X1_read_33 {sc : zSc} {hp : zHp} {d : Nat} (hD : 5 ≤ d) : ∀ (n : Nat) (y1 : Int32) (y2 : Int32) (g : zSg) (r : Int32 × zSg), f_X1_read_33 n y1 y2 g = some r → zG d sc hp (zcd zM_X1_read) 33 [some (.ref 6), some (.int y1), some (.int y2)] [] (gm g) ((some (.int r.1)), gm r.2) := by
  obtain ⟨d, rfl⟩ : ∃ d', d = d' + 1 := ⟨d - 1, by omega⟩
  intro n
  induction n with
  | zero => intro y1 y2 g r h; cases h
  | succ n ih =>
    intro y1 y2 g r h
    replace h : fb_X1_read_33 (f_X1_read_33 n) y1 y2 g = some r := h
    unfold fb_X1_read_33 at h
    refine g_run 1 (pc' := 34) (L' := [some (.ref 6), some (.int y1), some (.int y2)]) (S' := [.int y1]) (M' := gm g) rfl ?_
    refine g_if (y1 = 0) rfl (t := 67) rfl rfl (fun c1 => ?_) (fun c1 => ?_)
    · replace h := (if_pos c1).symm.trans h
      refine g_forget (L' := [some (.ref 6), some (.int y1), none]) (And.intro rfl (And.intro rfl True.intro)) ?_
      exact p_X1_read_67 hD (y1) g _ h
    · replace h := (if_neg c1).symm.trans h
      refine g_run 2 (pc' := 41) (L' := [some (.ref 6), some (.int y1), some (.int y2)]) (S' := [.int 240, .int y2]) (M' := gm g) rfl ?_
      refine g_icmp (240 ≤ y2) rfl (t := 67) rfl rfl (fun c2 => ?_) (fun c2 => ?_)
      · replace h := (if_pos c2).symm.trans h
        refine g_forget (L' := [some (.ref 6), some (.int y1), none]) (And.intro rfl (And.intro rfl True.intro)) ?_
        exact p_X1_read_67 hD (y1) g _ h
      · replace h := (if_neg c2).symm.trans h
        refine g_run 3 (pc' := 50) (L' := [some (.ref 6), some (.int y1), some (.int y2)]) (S' := [.int 59, .ref 1]) (M' := gm g) rfl ?_
        replace h := zB_of h
        obtain ⟨v3, g4, e5, h⟩ := h
        refine g_inv2 (kd := 1) (p_X9_take  e5) rfl rfl rfl (by decide) rfl rfl rfl rfl (by omega) (pc' := 53) rfl (S' := [.int v3]) rfl ?_
        refine g_if (v3 = 0) rfl (t := 67) rfl rfl (fun c6 => ?_) (fun c6 => ?_)
        · replace h := (if_pos c6).symm.trans h
          refine g_forget (L' := [some (.ref 6), some (.int y1), none]) (And.intro rfl (And.intro rfl True.intro)) ?_
          exact p_X1_read_67 hD (y1) g4 _ h
        · replace h := (if_neg c6).symm.trans h
          refine g_run 1 (pc' := 57) (L' := [some (.ref 6), some (.int y1), some (.int y2)]) (S' := [.ref 6]) (M' := gm g4) rfl ?_
          replace h := zB_of h
          obtain ⟨v7, g8, e9, h⟩ := h
          refine g_inv2 (kd := 1) (p_X1_clause  e9) rfl rfl rfl (by decide) rfl rfl rfl rfl (by omega) (pc' := 60) rfl (S' := [.int v7]) rfl ?_
          refine g_run 3 (pc' := 33) (L' := [some (.ref 6), some (.int v7), some (.int ((y2 + 1)))]) (S' := []) (M' := gm g8) rfl ?_
          exact ih (v7) (y2 + 1) g8 _ h
def f_X1_read (g : zSg) : Option (Int32 × zSg) := (zB (f_X9_rewind g) (fun v1 g2 => (zB (f_X0_clear 7 g2) (fun v4 g5 => (zB (f_X1_fillIn 0 5 0 (gsI g5 6 2 0)) (fun v7 g8 => (zB (f_X1_clause g8) (fun v10 g11 => f_X1_read_33 zFu (v10) (0) g11))))))))
set_option maxRecDepth 100000 in
set_option maxHeartbeats 4000000 in
theorem p_X1_read {sc : zSc} {hp : zHp} {g : zSg} {r : Int32 × zSg} (h : f_X1_read g = some r) : zRn sc hp 5 zM_X1_read [.ref 6] (gm g) (some (.int r.1)) (gm r.2) := by
  intro d hD
  obtain ⟨d, rfl⟩ : ∃ d', d = d' + 1 := ⟨d - 1, by omega⟩
  show zG _ sc hp (zcd zM_X1_read) 0 [some (.ref 6), none, none] [] (gm g) _
  unfold f_X1_read at h
  refine g_run 2 (pc' := 4) (L' := [some (.ref 6), none, none]) (S' := [.ref 1]) (M' := gm g) rfl ?_
  replace h := zB_of h
  obtain ⟨v1, g2, e3, h⟩ := h
  refine g_inv2 (kd := 1) (p_X9_rewind  e3) rfl rfl rfl (by decide) rfl rfl rfl rfl (by omega) (pc' := 7) rfl (S' := []) rfl ?_
  refine g_run 2 (pc' := 11) (L' := [some (.ref 6), none, none]) (S' := [.ref 7]) (M' := gm g2) rfl ?_
  replace h := zB_of h
  obtain ⟨v4, g5, e6, h⟩ := h
  refine g_inv2 (kd := 1) (p_X0_clear 7 rfl e6) rfl rfl rfl (by decide) rfl rfl rfl rfl (by omega) (pc' := 14) rfl (S' := []) rfl ?_
  refine g_run 7 (pc' := 23) (L' := [some (.ref 6), none, none]) (S' := [.int 0, .int 5, .int 0, .ref 6]) (M' := gm (gsI g5 6 2 0)) rfl ?_
  replace h := zB_of h
  obtain ⟨v7, g8, e9, h⟩ := h
  refine g_inv2 (kd := 1) (p_X1_fillIn  e9) rfl rfl rfl (by decide) rfl rfl rfl rfl (by omega) (pc' := 26) rfl (S' := []) rfl ?_
  refine g_run 1 (pc' := 27) (L' := [some (.ref 6), none, none]) (S' := [.ref 6]) (M' := gm g8) rfl ?_
  replace h := zB_of h
  obtain ⟨v10, g11, e12, h⟩ := h
  refine g_inv2 (kd := 1) (p_X1_clause  e12) rfl rfl rfl (by decide) rfl rfl rfl rfl (by omega) (pc' := 30) rfl (S' := [.int v10]) rfl ?_
  refine g_run 3 (pc' := 33) (L' := [some (.ref 6), some (.int v10), some (.int 0)]) (S' := []) (M' := gm g11) rfl ?_
  exact p_X1_read_33 hD zFu (v10) (0) g11 _ h
def f_X8_become (a : Nat) (b1 : Nat) (g : zSg) : Option (Unit × zSg) := (zB (f_X7_become (a + 1) (b1 + 1) g) (fun v1 g2 => (zB (f_X7_become (a + 3) (b1 + 3) g2) (fun v4 g5 => (zB (f_X7_become (a + 5) (b1 + 5) g5) (fun v7 g8 => (zB (f_X7_become (a + 7) (b1 + 7) g8) (fun v10 g11 => some ((), (gsI (gsI (gsI (gsI (gsI (gsI (gsI g11 (a) 4 (gI g11 (b1) 4)) (a) 5 (gI (gsI g11 (a) 4 (gI g11 (b1) 4)) (b1) 5)) (a) 6 (gI (gsI (gsI g11 (a) 4 (gI g11 (b1) 4)) (a) 5 (gI (gsI g11 (a) 4 (gI g11 (b1) 4)) (b1) 5)) (b1) 6)) (a) 7 (gI (gsI (gsI (gsI g11 (a) 4 (gI g11 (b1) 4)) (a) 5 (gI (gsI g11 (a) 4 (gI g11 (b1) 4)) (b1) 5)) (a) 6 (gI (gsI (gsI g11 (a) 4 (gI g11 (b1) 4)) (a) 5 (gI (gsI g11 (a) 4 (gI g11 (b1) 4)) (b1) 5)) (b1) 6)) (b1) 7)) (a) 8 (gI (gsI (gsI (gsI (gsI g11 (a) 4 (gI g11 (b1) 4)) (a) 5 (gI (gsI g11 (a) 4 (gI g11 (b1) 4)) (b1) 5)) (a) 6 (gI (gsI (gsI g11 (a) 4 (gI g11 (b1) 4)) (a) 5 (gI (gsI g11 (a) 4 (gI g11 (b1) 4)) (b1) 5)) (b1) 6)) (a) 7 (gI (gsI (gsI (gsI g11 (a) 4 (gI g11 (b1) 4)) (a) 5 (gI (gsI g11 (a) 4 (gI g11 (b1) 4)) (b1) 5)) (a) 6 (gI (gsI (gsI g11 (a) 4 (gI g11 (b1) 4)) (a) 5 (gI (gsI g11 (a) 4 (gI g11 (b1) 4)) (b1) 5)) (b1) 6)) (b1) 7)) (b1) 8)) (a) 9 (gI (gsI (gsI (gsI (gsI (gsI g11 (a) 4 (gI g11 (b1) 4)) (a) 5 (gI (gsI g11 (a) 4 (gI g11 (b1) 4)) (b1) 5)) (a) 6 (gI (gsI (gsI g11 (a) 4 (gI g11 (b1) 4)) (a) 5 (gI (gsI g11 (a) 4 (gI g11 (b1) 4)) (b1) 5)) (b1) 6)) (a) 7 (gI (gsI (gsI (gsI g11 (a) 4 (gI g11 (b1) 4)) (a) 5 (gI (gsI g11 (a) 4 (gI g11 (b1) 4)) (b1) 5)) (a) 6 (gI (gsI (gsI g11 (a) 4 (gI g11 (b1) 4)) (a) 5 (gI (gsI g11 (a) 4 (gI g11 (b1) 4)) (b1) 5)) (b1) 6)) (b1) 7)) (a) 8 (gI (gsI (gsI (gsI (gsI g11 (a) 4 (gI g11 (b1) 4)) (a) 5 (gI (gsI g11 (a) 4 (gI g11 (b1) 4)) (b1) 5)) (a) 6 (gI (gsI (gsI g11 (a) 4 (gI g11 (b1) 4)) (a) 5 (gI (gsI g11 (a) 4 (gI g11 (b1) 4)) (b1) 5)) (b1) 6)) (a) 7 (gI (gsI (gsI (gsI g11 (a) 4 (gI g11 (b1) 4)) (a) 5 (gI (gsI g11 (a) 4 (gI g11 (b1) 4)) (b1) 5)) (a) 6 (gI (gsI (gsI g11 (a) 4 (gI g11 (b1) 4)) (a) 5 (gI (gsI g11 (a) 4 (gI g11 (b1) 4)) (b1) 5)) (b1) 6)) (b1) 7)) (b1) 8)) (b1) 9)) (a) 10 (gI (gsI (gsI (gsI (gsI (gsI (gsI g11 (a) 4 (gI g11 (b1) 4)) (a) 5 (gI (gsI g11 (a) 4 (gI g11 (b1) 4)) (b1) 5)) (a) 6 (gI (gsI (gsI g11 (a) 4 (gI g11 (b1) 4)) (a) 5 (gI (gsI g11 (a) 4 (gI g11 (b1) 4)) (b1) 5)) (b1) 6)) (a) 7 (gI (gsI (gsI (gsI g11 (a) 4 (gI g11 (b1) 4)) (a) 5 (gI (gsI g11 (a) 4 (gI g11 (b1) 4)) (b1) 5)) (a) 6 (gI (gsI (gsI g11 (a) 4 (gI g11 (b1) 4)) (a) 5 (gI (gsI g11 (a) 4 (gI g11 (b1) 4)) (b1) 5)) (b1) 6)) (b1) 7)) (a) 8 (gI (gsI (gsI (gsI (gsI g11 (a) 4 (gI g11 (b1) 4)) (a) 5 (gI (gsI g11 (a) 4 (gI g11 (b1) 4)) (b1) 5)) (a) 6 (gI (gsI (gsI g11 (a) 4 (gI g11 (b1) 4)) (a) 5 (gI (gsI g11 (a) 4 (gI g11 (b1) 4)) (b1) 5)) (b1) 6)) (a) 7 (gI (gsI (gsI (gsI g11 (a) 4 (gI g11 (b1) 4)) (a) 5 (gI (gsI g11 (a) 4 (gI g11 (b1) 4)) (b1) 5)) (a) 6 (gI (gsI (gsI g11 (a) 4 (gI g11 (b1) 4)) (a) 5 (gI (gsI g11 (a) 4 (gI g11 (b1) 4)) (b1) 5)) (b1) 6)) (b1) 7)) (b1) 8)) (a) 9 (gI (gsI (gsI (gsI (gsI (gsI g11 (a) 4 (gI g11 (b1) 4)) (a) 5 (gI (gsI g11 (a) 4 (gI g11 (b1) 4)) (b1) 5)) (a) 6 (gI (gsI (gsI g11 (a) 4 (gI g11 (b1) 4)) (a) 5 (gI (gsI g11 (a) 4 (gI g11 (b1) 4)) (b1) 5)) (b1) 6)) (a) 7 (gI (gsI (gsI (gsI g11 (a) 4 (gI g11 (b1) 4)) (a) 5 (gI (gsI g11 (a) 4 (gI g11 (b1) 4)) (b1) 5)) (a) 6 (gI (gsI (gsI g11 (a) 4 (gI g11 (b1) 4)) (a) 5 (gI (gsI g11 (a) 4 (gI g11 (b1) 4)) (b1) 5)) (b1) 6)) (b1) 7)) (a) 8 (gI (gsI (gsI (gsI (gsI g11 (a) 4 (gI g11 (b1) 4)) (a) 5 (gI (gsI g11 (a) 4 (gI g11 (b1) 4)) (b1) 5)) (a) 6 (gI (gsI (gsI g11 (a) 4 (gI g11 (b1) 4)) (a) 5 (gI (gsI g11 (a) 4 (gI g11 (b1) 4)) (b1) 5)) (b1) 6)) (a) 7 (gI (gsI (gsI (gsI g11 (a) 4 (gI g11 (b1) 4)) (a) 5 (gI (gsI g11 (a) 4 (gI g11 (b1) 4)) (b1) 5)) (a) 6 (gI (gsI (gsI g11 (a) 4 (gI g11 (b1) 4)) (a) 5 (gI (gsI g11 (a) 4 (gI g11 (b1) 4)) (b1) 5)) (b1) 6)) (b1) 7)) (b1) 8)) (b1) 9)) (b1) 10)))))))))))
set_option maxRecDepth 100000 in
set_option maxHeartbeats 4000000 in
theorem p_X8_become {sc : zSc} {hp : zHp} (a : Nat) (b1 : Nat) (ha : (zK0 a).1 = 8) (hb1 : (zK0 b1).1 = 8) {g : zSg} {r : Unit × zSg} (h : f_X8_become a b1 g = some r) : zRn sc hp 2 zM_X8_become [.ref a, .ref b1] (gm g) none (gm r.2) := by
  intro d hD
  obtain ⟨d, rfl⟩ : ∃ d', d = d' + 1 := ⟨d - 1, by omega⟩
  show zG _ sc hp (zcd zM_X8_become) 0 [some (.ref a), some (.ref b1)] [] (gm g) _
  unfold f_X8_become at h
  refine g_run 1 (pc' := 1) (L' := [some (.ref a), some (.ref b1)]) (S' := [.ref a]) (M' := gm g) rfl ?_
  refine g_getf rfl (ci := 8) (k := 0) rfl ha (gfv_s0 ha) ?_
  refine g_run 1 (pc' := 5) (L' := [some (.ref a), some (.ref b1)]) (S' := [.ref b1, .ref (a + 1)]) (M' := gm g) rfl ?_
  refine g_getf rfl (ci := 8) (k := 0) rfl hb1 (gfv_s0 hb1) ?_
  replace h := zB_of h
  obtain ⟨v1, g2, e3, h⟩ := h
  refine g_inv2 (kd := 1) (p_X7_become (a + 1) (b1 + 1) (zK0_s ha).1 (zK0_s hb1).1 e3) rfl rfl rfl (by decide) rfl (g_recv (a := a + 1) rfl (Nat.le_of_ble_eq_true rfl) (Nat.le_of_ble_eq_true rfl) (Nat.le_of_ble_eq_true rfl) (Nat.le_of_ble_eq_true rfl) rfl (zK0_s ha).1 (Nat.le_of_ble_eq_true rfl)) rfl rfl (by omega) (pc' := 11) rfl (S' := []) rfl ?_
  refine g_run 1 (pc' := 12) (L' := [some (.ref a), some (.ref b1)]) (S' := [.ref a]) (M' := gm g2) rfl ?_
  refine g_getf rfl (ci := 8) (k := 1) rfl ha (gfv_s1 ha) ?_
  refine g_run 1 (pc' := 16) (L' := [some (.ref a), some (.ref b1)]) (S' := [.ref b1, .ref (a + 3)]) (M' := gm g2) rfl ?_
  refine g_getf rfl (ci := 8) (k := 1) rfl hb1 (gfv_s1 hb1) ?_
  replace h := zB_of h
  obtain ⟨v4, g5, e6, h⟩ := h
  refine g_inv2 (kd := 1) (p_X7_become (a + 3) (b1 + 3) (zK0_s ha).2.1 (zK0_s hb1).2.1 e6) rfl rfl rfl (by decide) rfl (g_recv (a := a + 3) rfl (Nat.le_of_ble_eq_true rfl) (Nat.le_of_ble_eq_true rfl) (Nat.le_of_ble_eq_true rfl) (Nat.le_of_ble_eq_true rfl) rfl (zK0_s ha).2.1 (Nat.le_of_ble_eq_true rfl)) rfl rfl (by omega) (pc' := 22) rfl (S' := []) rfl ?_
  refine g_run 1 (pc' := 23) (L' := [some (.ref a), some (.ref b1)]) (S' := [.ref a]) (M' := gm g5) rfl ?_
  refine g_getf rfl (ci := 8) (k := 2) rfl ha (gfv_s2 ha) ?_
  refine g_run 1 (pc' := 27) (L' := [some (.ref a), some (.ref b1)]) (S' := [.ref b1, .ref (a + 5)]) (M' := gm g5) rfl ?_
  refine g_getf rfl (ci := 8) (k := 2) rfl hb1 (gfv_s2 hb1) ?_
  replace h := zB_of h
  obtain ⟨v7, g8, e9, h⟩ := h
  refine g_inv2 (kd := 1) (p_X7_become (a + 5) (b1 + 5) (zK0_s ha).2.2.1 (zK0_s hb1).2.2.1 e9) rfl rfl rfl (by decide) rfl (g_recv (a := a + 5) rfl (Nat.le_of_ble_eq_true rfl) (Nat.le_of_ble_eq_true rfl) (Nat.le_of_ble_eq_true rfl) (Nat.le_of_ble_eq_true rfl) rfl (zK0_s ha).2.2.1 (Nat.le_of_ble_eq_true rfl)) rfl rfl (by omega) (pc' := 33) rfl (S' := []) rfl ?_
  refine g_run 1 (pc' := 34) (L' := [some (.ref a), some (.ref b1)]) (S' := [.ref a]) (M' := gm g8) rfl ?_
  refine g_getf rfl (ci := 8) (k := 3) rfl ha (gfv_s3 ha) ?_
  refine g_run 1 (pc' := 38) (L' := [some (.ref a), some (.ref b1)]) (S' := [.ref b1, .ref (a + 7)]) (M' := gm g8) rfl ?_
  refine g_getf rfl (ci := 8) (k := 3) rfl hb1 (gfv_s3 hb1) ?_
  replace h := zB_of h
  obtain ⟨v10, g11, e12, h⟩ := h
  refine g_inv2 (kd := 1) (p_X7_become (a + 7) (b1 + 7) (zK0_s ha).2.2.2 (zK0_s hb1).2.2.2 e12) rfl rfl rfl (by decide) rfl (g_recv (a := a + 7) rfl (Nat.le_of_ble_eq_true rfl) (Nat.le_of_ble_eq_true rfl) (Nat.le_of_ble_eq_true rfl) (Nat.le_of_ble_eq_true rfl) rfl (zK0_s ha).2.2.2 (Nat.le_of_ble_eq_true rfl)) rfl rfl (by omega) (pc' := 44) rfl (S' := []) rfl ?_
  refine g_run 2 (pc' := 46) (L' := [some (.ref a), some (.ref b1)]) (S' := [.ref b1, .ref a]) (M' := gm g11) rfl ?_
  refine g_getf rfl (ci := 8) (k := 4) rfl hb1 rfl ?_
  refine g_putf rfl (ci := 8) (k := 4) rfl (a := a) ha rfl (g' := gsI g11 (a) 4 (gI g11 (b1) 4)) rfl ?_
  refine g_run 2 (pc' := 54) (L' := [some (.ref a), some (.ref b1)]) (S' := [.ref b1, .ref a]) (M' := gm (gsI g11 (a) 4 (gI g11 (b1) 4))) rfl ?_
  refine g_getf rfl (ci := 8) (k := 5) rfl hb1 rfl ?_
  refine g_putf rfl (ci := 8) (k := 5) rfl (a := a) ha rfl (g' := gsI (gsI g11 (a) 4 (gI g11 (b1) 4)) (a) 5 (gI (gsI g11 (a) 4 (gI g11 (b1) 4)) (b1) 5)) rfl ?_
  refine g_run 2 (pc' := 62) (L' := [some (.ref a), some (.ref b1)]) (S' := [.ref b1, .ref a]) (M' := gm (gsI (gsI g11 (a) 4 (gI g11 (b1) 4)) (a) 5 (gI (gsI g11 (a) 4 (gI g11 (b1) 4)) (b1) 5))) rfl ?_
  refine g_getf rfl (ci := 8) (k := 6) rfl hb1 rfl ?_
  refine g_putf rfl (ci := 8) (k := 6) rfl (a := a) ha rfl (g' := gsI (gsI (gsI g11 (a) 4 (gI g11 (b1) 4)) (a) 5 (gI (gsI g11 (a) 4 (gI g11 (b1) 4)) (b1) 5)) (a) 6 (gI (gsI (gsI g11 (a) 4 (gI g11 (b1) 4)) (a) 5 (gI (gsI g11 (a) 4 (gI g11 (b1) 4)) (b1) 5)) (b1) 6)) rfl ?_
  refine g_run 2 (pc' := 70) (L' := [some (.ref a), some (.ref b1)]) (S' := [.ref b1, .ref a]) (M' := gm (gsI (gsI (gsI g11 (a) 4 (gI g11 (b1) 4)) (a) 5 (gI (gsI g11 (a) 4 (gI g11 (b1) 4)) (b1) 5)) (a) 6 (gI (gsI (gsI g11 (a) 4 (gI g11 (b1) 4)) (a) 5 (gI (gsI g11 (a) 4 (gI g11 (b1) 4)) (b1) 5)) (b1) 6))) rfl ?_
  refine g_getf rfl (ci := 8) (k := 7) rfl hb1 rfl ?_
  refine g_putf rfl (ci := 8) (k := 7) rfl (a := a) ha rfl (g' := gsI (gsI (gsI (gsI g11 (a) 4 (gI g11 (b1) 4)) (a) 5 (gI (gsI g11 (a) 4 (gI g11 (b1) 4)) (b1) 5)) (a) 6 (gI (gsI (gsI g11 (a) 4 (gI g11 (b1) 4)) (a) 5 (gI (gsI g11 (a) 4 (gI g11 (b1) 4)) (b1) 5)) (b1) 6)) (a) 7 (gI (gsI (gsI (gsI g11 (a) 4 (gI g11 (b1) 4)) (a) 5 (gI (gsI g11 (a) 4 (gI g11 (b1) 4)) (b1) 5)) (a) 6 (gI (gsI (gsI g11 (a) 4 (gI g11 (b1) 4)) (a) 5 (gI (gsI g11 (a) 4 (gI g11 (b1) 4)) (b1) 5)) (b1) 6)) (b1) 7)) rfl ?_
  refine g_run 2 (pc' := 78) (L' := [some (.ref a), some (.ref b1)]) (S' := [.ref b1, .ref a]) (M' := gm (gsI (gsI (gsI (gsI g11 (a) 4 (gI g11 (b1) 4)) (a) 5 (gI (gsI g11 (a) 4 (gI g11 (b1) 4)) (b1) 5)) (a) 6 (gI (gsI (gsI g11 (a) 4 (gI g11 (b1) 4)) (a) 5 (gI (gsI g11 (a) 4 (gI g11 (b1) 4)) (b1) 5)) (b1) 6)) (a) 7 (gI (gsI (gsI (gsI g11 (a) 4 (gI g11 (b1) 4)) (a) 5 (gI (gsI g11 (a) 4 (gI g11 (b1) 4)) (b1) 5)) (a) 6 (gI (gsI (gsI g11 (a) 4 (gI g11 (b1) 4)) (a) 5 (gI (gsI g11 (a) 4 (gI g11 (b1) 4)) (b1) 5)) (b1) 6)) (b1) 7))) rfl ?_
  refine g_getf rfl (ci := 8) (k := 8) rfl hb1 rfl ?_
  refine g_putf rfl (ci := 8) (k := 8) rfl (a := a) ha rfl (g' := gsI (gsI (gsI (gsI (gsI g11 (a) 4 (gI g11 (b1) 4)) (a) 5 (gI (gsI g11 (a) 4 (gI g11 (b1) 4)) (b1) 5)) (a) 6 (gI (gsI (gsI g11 (a) 4 (gI g11 (b1) 4)) (a) 5 (gI (gsI g11 (a) 4 (gI g11 (b1) 4)) (b1) 5)) (b1) 6)) (a) 7 (gI (gsI (gsI (gsI g11 (a) 4 (gI g11 (b1) 4)) (a) 5 (gI (gsI g11 (a) 4 (gI g11 (b1) 4)) (b1) 5)) (a) 6 (gI (gsI (gsI g11 (a) 4 (gI g11 (b1) 4)) (a) 5 (gI (gsI g11 (a) 4 (gI g11 (b1) 4)) (b1) 5)) (b1) 6)) (b1) 7)) (a) 8 (gI (gsI (gsI (gsI (gsI g11 (a) 4 (gI g11 (b1) 4)) (a) 5 (gI (gsI g11 (a) 4 (gI g11 (b1) 4)) (b1) 5)) (a) 6 (gI (gsI (gsI g11 (a) 4 (gI g11 (b1) 4)) (a) 5 (gI (gsI g11 (a) 4 (gI g11 (b1) 4)) (b1) 5)) (b1) 6)) (a) 7 (gI (gsI (gsI (gsI g11 (a) 4 (gI g11 (b1) 4)) (a) 5 (gI (gsI g11 (a) 4 (gI g11 (b1) 4)) (b1) 5)) (a) 6 (gI (gsI (gsI g11 (a) 4 (gI g11 (b1) 4)) (a) 5 (gI (gsI g11 (a) 4 (gI g11 (b1) 4)) (b1) 5)) (b1) 6)) (b1) 7)) (b1) 8)) rfl ?_
  refine g_run 2 (pc' := 86) (L' := [some (.ref a), some (.ref b1)]) (S' := [.ref b1, .ref a]) (M' := gm (gsI (gsI (gsI (gsI (gsI g11 (a) 4 (gI g11 (b1) 4)) (a) 5 (gI (gsI g11 (a) 4 (gI g11 (b1) 4)) (b1) 5)) (a) 6 (gI (gsI (gsI g11 (a) 4 (gI g11 (b1) 4)) (a) 5 (gI (gsI g11 (a) 4 (gI g11 (b1) 4)) (b1) 5)) (b1) 6)) (a) 7 (gI (gsI (gsI (gsI g11 (a) 4 (gI g11 (b1) 4)) (a) 5 (gI (gsI g11 (a) 4 (gI g11 (b1) 4)) (b1) 5)) (a) 6 (gI (gsI (gsI g11 (a) 4 (gI g11 (b1) 4)) (a) 5 (gI (gsI g11 (a) 4 (gI g11 (b1) 4)) (b1) 5)) (b1) 6)) (b1) 7)) (a) 8 (gI (gsI (gsI (gsI (gsI g11 (a) 4 (gI g11 (b1) 4)) (a) 5 (gI (gsI g11 (a) 4 (gI g11 (b1) 4)) (b1) 5)) (a) 6 (gI (gsI (gsI g11 (a) 4 (gI g11 (b1) 4)) (a) 5 (gI (gsI g11 (a) 4 (gI g11 (b1) 4)) (b1) 5)) (b1) 6)) (a) 7 (gI (gsI (gsI (gsI g11 (a) 4 (gI g11 (b1) 4)) (a) 5 (gI (gsI g11 (a) 4 (gI g11 (b1) 4)) (b1) 5)) (a) 6 (gI (gsI (gsI g11 (a) 4 (gI g11 (b1) 4)) (a) 5 (gI (gsI g11 (a) 4 (gI g11 (b1) 4)) (b1) 5)) (b1) 6)) (b1) 7)) (b1) 8))) rfl ?_
  refine g_getf rfl (ci := 8) (k := 9) rfl hb1 rfl ?_
  refine g_putf rfl (ci := 8) (k := 9) rfl (a := a) ha rfl (g' := gsI (gsI (gsI (gsI (gsI (gsI g11 (a) 4 (gI g11 (b1) 4)) (a) 5 (gI (gsI g11 (a) 4 (gI g11 (b1) 4)) (b1) 5)) (a) 6 (gI (gsI (gsI g11 (a) 4 (gI g11 (b1) 4)) (a) 5 (gI (gsI g11 (a) 4 (gI g11 (b1) 4)) (b1) 5)) (b1) 6)) (a) 7 (gI (gsI (gsI (gsI g11 (a) 4 (gI g11 (b1) 4)) (a) 5 (gI (gsI g11 (a) 4 (gI g11 (b1) 4)) (b1) 5)) (a) 6 (gI (gsI (gsI g11 (a) 4 (gI g11 (b1) 4)) (a) 5 (gI (gsI g11 (a) 4 (gI g11 (b1) 4)) (b1) 5)) (b1) 6)) (b1) 7)) (a) 8 (gI (gsI (gsI (gsI (gsI g11 (a) 4 (gI g11 (b1) 4)) (a) 5 (gI (gsI g11 (a) 4 (gI g11 (b1) 4)) (b1) 5)) (a) 6 (gI (gsI (gsI g11 (a) 4 (gI g11 (b1) 4)) (a) 5 (gI (gsI g11 (a) 4 (gI g11 (b1) 4)) (b1) 5)) (b1) 6)) (a) 7 (gI (gsI (gsI (gsI g11 (a) 4 (gI g11 (b1) 4)) (a) 5 (gI (gsI g11 (a) 4 (gI g11 (b1) 4)) (b1) 5)) (a) 6 (gI (gsI (gsI g11 (a) 4 (gI g11 (b1) 4)) (a) 5 (gI (gsI g11 (a) 4 (gI g11 (b1) 4)) (b1) 5)) (b1) 6)) (b1) 7)) (b1) 8)) (a) 9 (gI (gsI (gsI (gsI (gsI (gsI g11 (a) 4 (gI g11 (b1) 4)) (a) 5 (gI (gsI g11 (a) 4 (gI g11 (b1) 4)) (b1) 5)) (a) 6 (gI (gsI (gsI g11 (a) 4 (gI g11 (b1) 4)) (a) 5 (gI (gsI g11 (a) 4 (gI g11 (b1) 4)) (b1) 5)) (b1) 6)) (a) 7 (gI (gsI (gsI (gsI g11 (a) 4 (gI g11 (b1) 4)) (a) 5 (gI (gsI g11 (a) 4 (gI g11 (b1) 4)) (b1) 5)) (a) 6 (gI (gsI (gsI g11 (a) 4 (gI g11 (b1) 4)) (a) 5 (gI (gsI g11 (a) 4 (gI g11 (b1) 4)) (b1) 5)) (b1) 6)) (b1) 7)) (a) 8 (gI (gsI (gsI (gsI (gsI g11 (a) 4 (gI g11 (b1) 4)) (a) 5 (gI (gsI g11 (a) 4 (gI g11 (b1) 4)) (b1) 5)) (a) 6 (gI (gsI (gsI g11 (a) 4 (gI g11 (b1) 4)) (a) 5 (gI (gsI g11 (a) 4 (gI g11 (b1) 4)) (b1) 5)) (b1) 6)) (a) 7 (gI (gsI (gsI (gsI g11 (a) 4 (gI g11 (b1) 4)) (a) 5 (gI (gsI g11 (a) 4 (gI g11 (b1) 4)) (b1) 5)) (a) 6 (gI (gsI (gsI g11 (a) 4 (gI g11 (b1) 4)) (a) 5 (gI (gsI g11 (a) 4 (gI g11 (b1) 4)) (b1) 5)) (b1) 6)) (b1) 7)) (b1) 8)) (b1) 9)) rfl ?_
  refine g_run 2 (pc' := 94) (L' := [some (.ref a), some (.ref b1)]) (S' := [.ref b1, .ref a]) (M' := gm (gsI (gsI (gsI (gsI (gsI (gsI g11 (a) 4 (gI g11 (b1) 4)) (a) 5 (gI (gsI g11 (a) 4 (gI g11 (b1) 4)) (b1) 5)) (a) 6 (gI (gsI (gsI g11 (a) 4 (gI g11 (b1) 4)) (a) 5 (gI (gsI g11 (a) 4 (gI g11 (b1) 4)) (b1) 5)) (b1) 6)) (a) 7 (gI (gsI (gsI (gsI g11 (a) 4 (gI g11 (b1) 4)) (a) 5 (gI (gsI g11 (a) 4 (gI g11 (b1) 4)) (b1) 5)) (a) 6 (gI (gsI (gsI g11 (a) 4 (gI g11 (b1) 4)) (a) 5 (gI (gsI g11 (a) 4 (gI g11 (b1) 4)) (b1) 5)) (b1) 6)) (b1) 7)) (a) 8 (gI (gsI (gsI (gsI (gsI g11 (a) 4 (gI g11 (b1) 4)) (a) 5 (gI (gsI g11 (a) 4 (gI g11 (b1) 4)) (b1) 5)) (a) 6 (gI (gsI (gsI g11 (a) 4 (gI g11 (b1) 4)) (a) 5 (gI (gsI g11 (a) 4 (gI g11 (b1) 4)) (b1) 5)) (b1) 6)) (a) 7 (gI (gsI (gsI (gsI g11 (a) 4 (gI g11 (b1) 4)) (a) 5 (gI (gsI g11 (a) 4 (gI g11 (b1) 4)) (b1) 5)) (a) 6 (gI (gsI (gsI g11 (a) 4 (gI g11 (b1) 4)) (a) 5 (gI (gsI g11 (a) 4 (gI g11 (b1) 4)) (b1) 5)) (b1) 6)) (b1) 7)) (b1) 8)) (a) 9 (gI (gsI (gsI (gsI (gsI (gsI g11 (a) 4 (gI g11 (b1) 4)) (a) 5 (gI (gsI g11 (a) 4 (gI g11 (b1) 4)) (b1) 5)) (a) 6 (gI (gsI (gsI g11 (a) 4 (gI g11 (b1) 4)) (a) 5 (gI (gsI g11 (a) 4 (gI g11 (b1) 4)) (b1) 5)) (b1) 6)) (a) 7 (gI (gsI (gsI (gsI g11 (a) 4 (gI g11 (b1) 4)) (a) 5 (gI (gsI g11 (a) 4 (gI g11 (b1) 4)) (b1) 5)) (a) 6 (gI (gsI (gsI g11 (a) 4 (gI g11 (b1) 4)) (a) 5 (gI (gsI g11 (a) 4 (gI g11 (b1) 4)) (b1) 5)) (b1) 6)) (b1) 7)) (a) 8 (gI (gsI (gsI (gsI (gsI g11 (a) 4 (gI g11 (b1) 4)) (a) 5 (gI (gsI g11 (a) 4 (gI g11 (b1) 4)) (b1) 5)) (a) 6 (gI (gsI (gsI g11 (a) 4 (gI g11 (b1) 4)) (a) 5 (gI (gsI g11 (a) 4 (gI g11 (b1) 4)) (b1) 5)) (b1) 6)) (a) 7 (gI (gsI (gsI (gsI g11 (a) 4 (gI g11 (b1) 4)) (a) 5 (gI (gsI g11 (a) 4 (gI g11 (b1) 4)) (b1) 5)) (a) 6 (gI (gsI (gsI g11 (a) 4 (gI g11 (b1) 4)) (a) 5 (gI (gsI g11 (a) 4 (gI g11 (b1) 4)) (b1) 5)) (b1) 6)) (b1) 7)) (b1) 8)) (b1) 9))) rfl ?_
  refine g_getf rfl (ci := 8) (k := 10) rfl hb1 rfl ?_
  refine g_putf rfl (ci := 8) (k := 10) rfl (a := a) ha rfl (g' := gsI (gsI (gsI (gsI (gsI (gsI (gsI g11 (a) 4 (gI g11 (b1) 4)) (a) 5 (gI (gsI g11 (a) 4 (gI g11 (b1) 4)) (b1) 5)) (a) 6 (gI (gsI (gsI g11 (a) 4 (gI g11 (b1) 4)) (a) 5 (gI (gsI g11 (a) 4 (gI g11 (b1) 4)) (b1) 5)) (b1) 6)) (a) 7 (gI (gsI (gsI (gsI g11 (a) 4 (gI g11 (b1) 4)) (a) 5 (gI (gsI g11 (a) 4 (gI g11 (b1) 4)) (b1) 5)) (a) 6 (gI (gsI (gsI g11 (a) 4 (gI g11 (b1) 4)) (a) 5 (gI (gsI g11 (a) 4 (gI g11 (b1) 4)) (b1) 5)) (b1) 6)) (b1) 7)) (a) 8 (gI (gsI (gsI (gsI (gsI g11 (a) 4 (gI g11 (b1) 4)) (a) 5 (gI (gsI g11 (a) 4 (gI g11 (b1) 4)) (b1) 5)) (a) 6 (gI (gsI (gsI g11 (a) 4 (gI g11 (b1) 4)) (a) 5 (gI (gsI g11 (a) 4 (gI g11 (b1) 4)) (b1) 5)) (b1) 6)) (a) 7 (gI (gsI (gsI (gsI g11 (a) 4 (gI g11 (b1) 4)) (a) 5 (gI (gsI g11 (a) 4 (gI g11 (b1) 4)) (b1) 5)) (a) 6 (gI (gsI (gsI g11 (a) 4 (gI g11 (b1) 4)) (a) 5 (gI (gsI g11 (a) 4 (gI g11 (b1) 4)) (b1) 5)) (b1) 6)) (b1) 7)) (b1) 8)) (a) 9 (gI (gsI (gsI (gsI (gsI (gsI g11 (a) 4 (gI g11 (b1) 4)) (a) 5 (gI (gsI g11 (a) 4 (gI g11 (b1) 4)) (b1) 5)) (a) 6 (gI (gsI (gsI g11 (a) 4 (gI g11 (b1) 4)) (a) 5 (gI (gsI g11 (a) 4 (gI g11 (b1) 4)) (b1) 5)) (b1) 6)) (a) 7 (gI (gsI (gsI (gsI g11 (a) 4 (gI g11 (b1) 4)) (a) 5 (gI (gsI g11 (a) 4 (gI g11 (b1) 4)) (b1) 5)) (a) 6 (gI (gsI (gsI g11 (a) 4 (gI g11 (b1) 4)) (a) 5 (gI (gsI g11 (a) 4 (gI g11 (b1) 4)) (b1) 5)) (b1) 6)) (b1) 7)) (a) 8 (gI (gsI (gsI (gsI (gsI g11 (a) 4 (gI g11 (b1) 4)) (a) 5 (gI (gsI g11 (a) 4 (gI g11 (b1) 4)) (b1) 5)) (a) 6 (gI (gsI (gsI g11 (a) 4 (gI g11 (b1) 4)) (a) 5 (gI (gsI g11 (a) 4 (gI g11 (b1) 4)) (b1) 5)) (b1) 6)) (a) 7 (gI (gsI (gsI (gsI g11 (a) 4 (gI g11 (b1) 4)) (a) 5 (gI (gsI g11 (a) 4 (gI g11 (b1) 4)) (b1) 5)) (a) 6 (gI (gsI (gsI g11 (a) 4 (gI g11 (b1) 4)) (a) 5 (gI (gsI g11 (a) 4 (gI g11 (b1) 4)) (b1) 5)) (b1) 6)) (b1) 7)) (b1) 8)) (b1) 9)) (a) 10 (gI (gsI (gsI (gsI (gsI (gsI (gsI g11 (a) 4 (gI g11 (b1) 4)) (a) 5 (gI (gsI g11 (a) 4 (gI g11 (b1) 4)) (b1) 5)) (a) 6 (gI (gsI (gsI g11 (a) 4 (gI g11 (b1) 4)) (a) 5 (gI (gsI g11 (a) 4 (gI g11 (b1) 4)) (b1) 5)) (b1) 6)) (a) 7 (gI (gsI (gsI (gsI g11 (a) 4 (gI g11 (b1) 4)) (a) 5 (gI (gsI g11 (a) 4 (gI g11 (b1) 4)) (b1) 5)) (a) 6 (gI (gsI (gsI g11 (a) 4 (gI g11 (b1) 4)) (a) 5 (gI (gsI g11 (a) 4 (gI g11 (b1) 4)) (b1) 5)) (b1) 6)) (b1) 7)) (a) 8 (gI (gsI (gsI (gsI (gsI g11 (a) 4 (gI g11 (b1) 4)) (a) 5 (gI (gsI g11 (a) 4 (gI g11 (b1) 4)) (b1) 5)) (a) 6 (gI (gsI (gsI g11 (a) 4 (gI g11 (b1) 4)) (a) 5 (gI (gsI g11 (a) 4 (gI g11 (b1) 4)) (b1) 5)) (b1) 6)) (a) 7 (gI (gsI (gsI (gsI g11 (a) 4 (gI g11 (b1) 4)) (a) 5 (gI (gsI g11 (a) 4 (gI g11 (b1) 4)) (b1) 5)) (a) 6 (gI (gsI (gsI g11 (a) 4 (gI g11 (b1) 4)) (a) 5 (gI (gsI g11 (a) 4 (gI g11 (b1) 4)) (b1) 5)) (b1) 6)) (b1) 7)) (b1) 8)) (a) 9 (gI (gsI (gsI (gsI (gsI (gsI g11 (a) 4 (gI g11 (b1) 4)) (a) 5 (gI (gsI g11 (a) 4 (gI g11 (b1) 4)) (b1) 5)) (a) 6 (gI (gsI (gsI g11 (a) 4 (gI g11 (b1) 4)) (a) 5 (gI (gsI g11 (a) 4 (gI g11 (b1) 4)) (b1) 5)) (b1) 6)) (a) 7 (gI (gsI (gsI (gsI g11 (a) 4 (gI g11 (b1) 4)) (a) 5 (gI (gsI g11 (a) 4 (gI g11 (b1) 4)) (b1) 5)) (a) 6 (gI (gsI (gsI g11 (a) 4 (gI g11 (b1) 4)) (a) 5 (gI (gsI g11 (a) 4 (gI g11 (b1) 4)) (b1) 5)) (b1) 6)) (b1) 7)) (a) 8 (gI (gsI (gsI (gsI (gsI g11 (a) 4 (gI g11 (b1) 4)) (a) 5 (gI (gsI g11 (a) 4 (gI g11 (b1) 4)) (b1) 5)) (a) 6 (gI (gsI (gsI g11 (a) 4 (gI g11 (b1) 4)) (a) 5 (gI (gsI g11 (a) 4 (gI g11 (b1) 4)) (b1) 5)) (b1) 6)) (a) 7 (gI (gsI (gsI (gsI g11 (a) 4 (gI g11 (b1) 4)) (a) 5 (gI (gsI g11 (a) 4 (gI g11 (b1) 4)) (b1) 5)) (a) 6 (gI (gsI (gsI g11 (a) 4 (gI g11 (b1) 4)) (a) 5 (gI (gsI g11 (a) 4 (gI g11 (b1) 4)) (b1) 5)) (b1) 6)) (b1) 7)) (b1) 8)) (b1) 9)) (b1) 10)) rfl ?_
  cases h
  exact g_ret rfl rfl rfl rfl
def f_X2_forget (b1 : Nat) (g : zSg) : Option (Unit × zSg) := (zB (f_X8_become 507 b1 g) (fun v1 g2 => some ((), (gsI g2 506 8 0))))
set_option maxRecDepth 100000 in
set_option maxHeartbeats 4000000 in
theorem p_X2_forget {sc : zSc} {hp : zHp} (b1 : Nat) (hb1 : (zK0 b1).1 = 8) {g : zSg} {r : Unit × zSg} (h : f_X2_forget b1 g = some r) : zRn sc hp 3 zM_X2_forget [.ref 506, .ref b1] (gm g) none (gm r.2) := by
  intro d hD
  obtain ⟨d, rfl⟩ : ∃ d', d = d' + 1 := ⟨d - 1, by omega⟩
  show zG _ sc hp (zcd zM_X2_forget) 0 [some (.ref 506), some (.ref b1)] [] (gm g) _
  unfold f_X2_forget at h
  refine g_run 3 (pc' := 5) (L' := [some (.ref 506), some (.ref b1)]) (S' := [.ref b1, .ref 507]) (M' := gm g) rfl ?_
  replace h := zB_of h
  obtain ⟨v1, g2, e3, h⟩ := h
  refine g_inv2 (kd := 1) (p_X8_become 507 b1 rfl hb1 e3) rfl rfl rfl (by decide) rfl rfl rfl rfl (by omega) (pc' := 8) rfl (S' := []) rfl ?_
  refine g_run 3 (pc' := 13) (L' := [some (.ref 506), some (.ref b1)]) (S' := []) (M' := gm (gsI g2 506 8 0)) rfl ?_
  cases h
  exact g_ret rfl rfl rfl rfl
def f_X2_notes (g : zSg) : Option (Int32 × zSg) := some ((gI g 506 8), g)
set_option maxRecDepth 100000 in
set_option maxHeartbeats 4000000 in
theorem p_X2_notes {sc : zSc} {hp : zHp} {g : zSg} {r : Int32 × zSg} (h : f_X2_notes g = some r) : zRn sc hp 0 zM_X2_notes [.ref 506] (gm g) (some (.int r.1)) (gm r.2) := by
  intro d hD
  show zG _ sc hp (zcd zM_X2_notes) 0 [some (.ref 506)] [] (gm g) _
  unfold f_X2_notes at h
  refine g_run 2 (pc' := 4) (L' := [some (.ref 506)]) (S' := [.int ((gI g 506 8))]) (M' := gm g) rfl ?_
  cases h
  exact g_ret rfl rfl rfl rfl
def f_X2_note_52 (s0 : Int32) (s1 : Int32) (g : zSg) : Option (Int32 × zSg) := (zB (f_X7_set 520 s1 s0 g) (fun v1 g2 => some ((gI (gsI g2 506 8 ((gI g2 506 8) + 1)) 506 8), (gsI g2 506 8 ((gI g2 506 8) + 1)))))
set_option maxRecDepth 100000 in
set_option maxHeartbeats 4000000 in
theorem p_X2_note_52 {sc : zSc} {hp : zHp} {d : Nat} (hD : 1 ≤ d) (s0 : Int32) (s1 : Int32) (g : zSg) (r : Int32 × zSg) (h : f_X2_note_52 s0 s1 g = some r) : zG d sc hp (zcd zM_X2_note) 52 [some (.ref 506), none, none, none] [.int s0, .int s1, .ref 520] (gm g) ((some (.int r.1)), gm r.2) := by
  obtain ⟨d, rfl⟩ : ∃ d', d = d' + 1 := ⟨d - 1, by omega⟩
  unfold f_X2_note_52 at h
  replace h := zB_of h
  obtain ⟨v1, g2, e3, h⟩ := h
  refine g_inv2 (kd := 1) (p_X7_set 520 rfl e3) rfl rfl rfl (by decide) rfl rfl rfl rfl (by omega) (pc' := 55) rfl (S' := []) rfl ?_
  refine g_run 8 (pc' := 69) (L' := [some (.ref 506), none, none, none]) (S' := [.int ((gI (gsI g2 506 8 ((gI g2 506 8) + 1)) 506 8))]) (M' := gm (gsI g2 506 8 ((gI g2 506 8) + 1))) rfl ?_
  cases h
  exact g_ret rfl rfl rfl rfl
def f_X2_note (x1 : Int32) (x2 : Int32) (x3 : Int32) (g : zSg) : Option (Int32 × zSg) := (if (gI g 506 8) < 10 then (zB (f_X7_set 516 (gI g 506 8) x1 g) (fun v2 g3 => (zB (f_X7_set 518 (gI g3 506 8) x2 g3) (fun v5 g6 => (if x3 = 0 then f_X2_note_52 (0) (gI g6 506 8) g6 else f_X2_note_52 (1) (gI g6 506 8) g6))))) else some ((-1), g))
set_option maxRecDepth 100000 in
set_option maxHeartbeats 4000000 in
theorem p_X2_note {sc : zSc} {hp : zHp} {x1 : Int32} {x2 : Int32} {x3 : Int32} {g : zSg} {r : Int32 × zSg} (h : f_X2_note x1 x2 x3 g = some r) : zRn sc hp 1 zM_X2_note [.ref 506, .int x1, .int x2, .int x3] (gm g) (some (.int r.1)) (gm r.2) := by
  intro d hD
  obtain ⟨d, rfl⟩ : ∃ d', d = d' + 1 := ⟨d - 1, by omega⟩
  show zG _ sc hp (zcd zM_X2_note) 0 [some (.ref 506), some (.int x1), some (.int x2), some (.int x3)] [] (gm g) _
  unfold f_X2_note at h
  refine g_run 3 (pc' := 6) (L' := [some (.ref 506), some (.int x1), some (.int x2), some (.int x3)]) (S' := [.int 10, .int ((gI g 506 8))]) (M' := gm g) rfl ?_
  refine g_icmp ((gI g 506 8) < 10) rfl (t := 11) rfl rfl (fun c1 => ?_) (fun c1 => ?_)
  · replace h := (if_pos c1).symm.trans h
    refine g_run 5 (pc' := 20) (L' := [some (.ref 506), some (.int x1), some (.int x2), some (.int x3)]) (S' := [.int x1, .int ((gI g 506 8)), .ref 516]) (M' := gm g) rfl ?_
    replace h := zB_of h
    obtain ⟨v2, g3, e4, h⟩ := h
    refine g_inv2 (kd := 1) (p_X7_set 516 rfl e4) rfl rfl rfl (by decide) rfl rfl rfl rfl (by omega) (pc' := 23) rfl (S' := []) rfl ?_
    refine g_run 5 (pc' := 32) (L' := [some (.ref 506), some (.int x1), some (.int x2), some (.int x3)]) (S' := [.int x2, .int ((gI g3 506 8)), .ref 518]) (M' := gm g3) rfl ?_
    replace h := zB_of h
    obtain ⟨v5, g6, e7, h⟩ := h
    refine g_inv2 (kd := 1) (p_X7_set 518 rfl e7) rfl rfl rfl (by decide) rfl rfl rfl rfl (by omega) (pc' := 35) rfl (S' := []) rfl ?_
    refine g_run 5 (pc' := 44) (L' := [some (.ref 506), some (.int x1), some (.int x2), some (.int x3)]) (S' := [.int x3, .int ((gI g6 506 8)), .ref 520]) (M' := gm g6) rfl ?_
    refine g_if (x3 = 0) rfl (t := 51) rfl rfl (fun c8 => ?_) (fun c8 => ?_)
    · replace h := (if_pos c8).symm.trans h
      refine g_run 1 (pc' := 52) (L' := [some (.ref 506), some (.int x1), some (.int x2), some (.int x3)]) (S' := [.int 0, .int ((gI g6 506 8)), .ref 520]) (M' := gm g6) rfl ?_
      refine g_forget (L' := [some (.ref 506), none, none, none]) (And.intro rfl True.intro) ?_
      exact p_X2_note_52 hD (0) (gI g6 506 8) g6 _ h
    · replace h := (if_neg c8).symm.trans h
      refine g_run 2 (pc' := 52) (L' := [some (.ref 506), some (.int x1), some (.int x2), some (.int x3)]) (S' := [.int 1, .int ((gI g6 506 8)), .ref 520]) (M' := gm g6) rfl ?_
      refine g_forget (L' := [some (.ref 506), none, none, none]) (And.intro rfl True.intro) ?_
      exact p_X2_note_52 hD (1) (gI g6 506 8) g6 _ h
  · replace h := (if_neg c1).symm.trans h
    refine g_run 1 (pc' := 10) (L' := [some (.ref 506), some (.int x1), some (.int x2), some (.int x3)]) (S' := [.int (-1)]) (M' := gm g) rfl ?_
    cases h
    exact g_ret rfl rfl rfl rfl
def f_X4_workOut_212 (y3 : Int64) (g : zSg) : Option (Int32 × zSg) := (if (lg_cmp y3 1000000) ≤ 0 then (if 0 ≤ (lg_cmp y3 (-1000000)) then some ((y3).toInt32, g) else some ((-1000000), g)) else some (1000000, g))
set_option maxRecDepth 100000 in
set_option maxHeartbeats 4000000 in
theorem p_X4_workOut_212 {sc : zSc} {hp : zHp} {d : Nat} (hD : 0 ≤ d) (y3 : Int64) (g : zSg) (r : Int32 × zSg) (h : f_X4_workOut_212 y3 g = some r) : zG d sc hp (zcd zM_X4_workOut) 212 [none, none, none, some (.long (y3)), none] [] (gm g) ((some (.int r.1)), gm r.2) := by
  unfold f_X4_workOut_212 at h
  refine g_run 3 (pc' := 217) (L' := [none, none, none, some (.long (y3)), none]) (S' := [.int ((lg_cmp y3 1000000))]) (M' := gm g) rfl ?_
  refine g_if ((lg_cmp y3 1000000) ≤ 0) rfl (t := 223) rfl rfl (fun c1 => ?_) (fun c1 => ?_)
  · replace h := (if_pos c1).symm.trans h
    refine g_run 3 (pc' := 228) (L' := [none, none, none, some (.long (y3)), none]) (S' := [.int ((lg_cmp y3 (-1000000)))]) (M' := gm g) rfl ?_
    refine g_if (0 ≤ (lg_cmp y3 (-1000000))) rfl (t := 236) rfl rfl (fun c2 => ?_) (fun c2 => ?_)
    · replace h := (if_pos c2).symm.trans h
      refine g_run 2 (pc' := 238) (L' := [none, none, none, some (.long (y3)), none]) (S' := [.int ((y3).toInt32)]) (M' := gm g) rfl ?_
      cases h
      exact g_ret rfl rfl rfl rfl
    · replace h := (if_neg c2).symm.trans h
      refine g_run 2 (pc' := 238) (L' := [none, none, none, some (.long (y3)), none]) (S' := [.int (-1000000)]) (M' := gm g) rfl ?_
      cases h
      exact g_ret rfl rfl rfl rfl
  · replace h := (if_neg c1).symm.trans h
    refine g_run 1 (pc' := 222) (L' := [none, none, none, some (.long (y3)), none]) (S' := [.int 1000000]) (M' := gm g) rfl ?_
    cases h
    exact g_ret rfl rfl rfl rfl
def f_X4_workOut_153 (s0 : Int64) (g : zSg) : Option (Int32 × zSg) := f_X4_workOut_212 (s0) g
set_option maxRecDepth 100000 in
set_option maxHeartbeats 4000000 in
theorem p_X4_workOut_153 {sc : zSc} {hp : zHp} {d : Nat} (hD : 0 ≤ d) (s0 : Int64) (g : zSg) (r : Int32 × zSg) (h : f_X4_workOut_153 s0 g = some r) : zG d sc hp (zcd zM_X4_workOut) 153 [none, none, none, none, none] [.long (s0)] (gm g) ((some (.int r.1)), gm r.2) := by
  unfold f_X4_workOut_153 at h
  refine g_run 2 (pc' := 212) (L' := [none, none, none, some (.long (s0)), none]) (S' := []) (M' := gm g) rfl ?_
  exact p_X4_workOut_212 hD (s0) g _ h
def f_X4_workOut_167 (s0 : Int64) (g : zSg) : Option (Int32 × zSg) := f_X4_workOut_212 (s0) g
set_option maxRecDepth 100000 in
set_option maxHeartbeats 4000000 in
theorem p_X4_workOut_167 {sc : zSc} {hp : zHp} {d : Nat} (hD : 0 ≤ d) (s0 : Int64) (g : zSg) (r : Int32 × zSg) (h : f_X4_workOut_167 s0 g = some r) : zG d sc hp (zcd zM_X4_workOut) 167 [none, none, none, none, none] [.long (s0)] (gm g) ((some (.int r.1)), gm r.2) := by
  unfold f_X4_workOut_167 at h
  refine g_run 2 (pc' := 212) (L' := [none, none, none, some (.long (s0)), none]) (S' := []) (M' := gm g) rfl ?_
  exact p_X4_workOut_212 hD (s0) g _ h
def f_X4_workOut_181 (s0 : Int64) (g : zSg) : Option (Int32 × zSg) := f_X4_workOut_212 (s0) g
set_option maxRecDepth 100000 in
set_option maxHeartbeats 4000000 in
theorem p_X4_workOut_181 {sc : zSc} {hp : zHp} {d : Nat} (hD : 0 ≤ d) (s0 : Int64) (g : zSg) (r : Int32 × zSg) (h : f_X4_workOut_181 s0 g = some r) : zG d sc hp (zcd zM_X4_workOut) 181 [none, none, none, none, none] [.long (s0)] (gm g) ((some (.int r.1)), gm r.2) := by
  unfold f_X4_workOut_181 at h
  refine g_run 2 (pc' := 212) (L' := [none, none, none, some (.long (s0)), none]) (S' := []) (M' := gm g) rfl ?_
  exact p_X4_workOut_212 hD (s0) g _ h
def f_X4_workOut_195 (s0 : Int64) (g : zSg) : Option (Int32 × zSg) := f_X4_workOut_212 (s0) g
set_option maxRecDepth 100000 in
set_option maxHeartbeats 4000000 in
theorem p_X4_workOut_195 {sc : zSc} {hp : zHp} {d : Nat} (hD : 0 ≤ d) (s0 : Int64) (g : zSg) (r : Int32 × zSg) (h : f_X4_workOut_195 s0 g = some r) : zG d sc hp (zcd zM_X4_workOut) 195 [none, none, none, none, none] [.long (s0)] (gm g) ((some (.int r.1)), gm r.2) := by
  unfold f_X4_workOut_195 at h
  refine g_run 2 (pc' := 212) (L' := [none, none, none, some (.long (s0)), none]) (S' := []) (M' := gm g) rfl ?_
  exact p_X4_workOut_212 hD (s0) g _ h
def f_X4_workOut (x1 : Int32) (x2 : Int32) (x3 : Int32) (g : zSg) : Option (Int32 × zSg) := (if x1 = 38 then f_X4_workOut_212 (((x2 &&& x3)).toInt64) g else (if x1 = 39 then f_X4_workOut_212 (((x2 ||| x3)).toInt64) g else (if x1 = 40 then f_X4_workOut_212 (((x2 ||| x3)).toInt64) g else (if x1 = 41 then f_X4_workOut_212 (((x2 ||| x3)).toInt64) g else (if x1 = 42 then f_X4_workOut_212 ((x2).toInt64 * (x3).toInt64) g else (if x1 = 43 then f_X4_workOut_212 (((x2 + x3)).toInt64) g else (if x1 = 44 then f_X4_workOut_212 (((x2 ||| x3)).toInt64) g else (if x1 = 45 then f_X4_workOut_212 (((x2 - x3)).toInt64) g else (if x1 = 46 then f_X4_workOut_212 (((x2 ||| x3)).toInt64) g else (if x1 = 47 then (if ¬ x3 = 0 then (if x3 = 0 then none else f_X4_workOut_153 (((x2 / x3)).toInt64) g) else f_X4_workOut_153 (0) g) else (if x1 = 48 then f_X4_workOut_212 (((x2 ||| x3)).toInt64) g else (if x1 = 49 then f_X4_workOut_212 (((x2 ||| x3)).toInt64) g else (if x1 = 50 then f_X4_workOut_212 (((x2 ||| x3)).toInt64) g else (if x1 = 51 then f_X4_workOut_212 (((x2 ||| x3)).toInt64) g else (if x1 = 52 then f_X4_workOut_212 (((x2 ||| x3)).toInt64) g else (if x1 = 53 then f_X4_workOut_212 (((x2 ||| x3)).toInt64) g else (if x1 = 54 then f_X4_workOut_212 (((x2 ||| x3)).toInt64) g else (if x1 = 55 then f_X4_workOut_212 (((x2 ||| x3)).toInt64) g else (if x1 = 56 then f_X4_workOut_212 (((x2 ||| x3)).toInt64) g else (if x1 = 57 then f_X4_workOut_212 (((x2 ||| x3)).toInt64) g else (if x1 = 58 then f_X4_workOut_212 (((x2 ||| x3)).toInt64) g else (if x1 = 59 then f_X4_workOut_212 (((x2 ||| x3)).toInt64) g else (if x1 = 60 then (if x3 ≤ x2 then f_X4_workOut_181 (0) g else f_X4_workOut_181 (1) g) else (if x1 = 61 then (if ¬ x2 = x3 then f_X4_workOut_167 (0) g else f_X4_workOut_167 (1) g) else (if x1 = 62 then (if x2 ≤ x3 then f_X4_workOut_195 (0) g else f_X4_workOut_195 (1) g) else f_X4_workOut_212 (((x2 ||| x3)).toInt64) g)))))))))))))))))))))))))
set_option maxRecDepth 100000 in
set_option maxHeartbeats 4000000 in
theorem p_X4_workOut {sc : zSc} {hp : zHp} {x1 : Int32} {x2 : Int32} {x3 : Int32} {g : zSg} {r : Int32 × zSg} (h : f_X4_workOut x1 x2 x3 g = some r) : zRn sc hp 0 zM_X4_workOut [.int x1, .int x2, .int x3] (gm g) (some (.int r.1)) (gm r.2) := by
  intro d hD
  show zG _ sc hp (zcd zM_X4_workOut) 0 [some (.int x1), some (.int x2), some (.int x3), none, none] [] (gm g) _
  unfold f_X4_workOut at h
  refine g_run 1 (pc' := 1) (L' := [some (.int x1), some (.int x2), some (.int x3), none, none]) (S' := [.int x1]) (M' := gm g) rfl ?_
  by_cases c1 : x1 = 38
  · replace h := (if_pos c1).symm.trans h
    refine g_swc c1 rfl rfl rfl (pc' := 199) rfl ?_
    refine g_run 6 (pc' := 212) (L' := [some (.int x1), some (.int x2), some (.int x3), some (.long (((x2 &&& x3)).toInt64)), none]) (S' := []) (M' := gm g) rfl ?_
    refine g_forget (L' := [none, none, none, some (.long (((x2 &&& x3)).toInt64)), none]) (And.intro rfl True.intro) ?_
    exact p_X4_workOut_212 hD (((x2 &&& x3)).toInt64) g _ h
  replace h := (if_neg c1).symm.trans h
  by_cases c2 : x1 = 39
  · replace h := (if_pos c2).symm.trans h
    refine g_swc c2 rfl rfl rfl (pc' := 207) rfl ?_
    refine g_run 5 (pc' := 212) (L' := [some (.int x1), some (.int x2), some (.int x3), some (.long (((x2 ||| x3)).toInt64)), none]) (S' := []) (M' := gm g) rfl ?_
    refine g_forget (L' := [none, none, none, some (.long (((x2 ||| x3)).toInt64)), none]) (And.intro rfl True.intro) ?_
    exact p_X4_workOut_212 hD (((x2 ||| x3)).toInt64) g _ h
  replace h := (if_neg c2).symm.trans h
  by_cases c3 : x1 = 40
  · replace h := (if_pos c3).symm.trans h
    refine g_swc c3 rfl rfl rfl (pc' := 207) rfl ?_
    refine g_run 5 (pc' := 212) (L' := [some (.int x1), some (.int x2), some (.int x3), some (.long (((x2 ||| x3)).toInt64)), none]) (S' := []) (M' := gm g) rfl ?_
    refine g_forget (L' := [none, none, none, some (.long (((x2 ||| x3)).toInt64)), none]) (And.intro rfl True.intro) ?_
    exact p_X4_workOut_212 hD (((x2 ||| x3)).toInt64) g _ h
  replace h := (if_neg c3).symm.trans h
  by_cases c4 : x1 = 41
  · replace h := (if_pos c4).symm.trans h
    refine g_swc c4 rfl rfl rfl (pc' := 207) rfl ?_
    refine g_run 5 (pc' := 212) (L' := [some (.int x1), some (.int x2), some (.int x3), some (.long (((x2 ||| x3)).toInt64)), none]) (S' := []) (M' := gm g) rfl ?_
    refine g_forget (L' := [none, none, none, some (.long (((x2 ||| x3)).toInt64)), none]) (And.intro rfl True.intro) ?_
    exact p_X4_workOut_212 hD (((x2 ||| x3)).toInt64) g _ h
  replace h := (if_neg c4).symm.trans h
  by_cases c5 : x1 = 42
  · replace h := (if_pos c5).symm.trans h
    refine g_swc c5 rfl rfl rfl (pc' := 132) rfl ?_
    refine g_run 7 (pc' := 212) (L' := [some (.int x1), some (.int x2), some (.int x3), some (.long (((x2).toInt64 * (x3).toInt64))), none]) (S' := []) (M' := gm g) rfl ?_
    refine g_forget (L' := [none, none, none, some (.long (((x2).toInt64 * (x3).toInt64))), none]) (And.intro rfl True.intro) ?_
    exact p_X4_workOut_212 hD ((x2).toInt64 * (x3).toInt64) g _ h
  replace h := (if_neg c5).symm.trans h
  by_cases c6 : x1 = 43
  · replace h := (if_pos c6).symm.trans h
    refine g_swc c6 rfl rfl rfl (pc' := 116) rfl ?_
    refine g_run 6 (pc' := 212) (L' := [some (.int x1), some (.int x2), some (.int x3), some (.long (((x2 + x3)).toInt64)), none]) (S' := []) (M' := gm g) rfl ?_
    refine g_forget (L' := [none, none, none, some (.long (((x2 + x3)).toInt64)), none]) (And.intro rfl True.intro) ?_
    exact p_X4_workOut_212 hD (((x2 + x3)).toInt64) g _ h
  replace h := (if_neg c6).symm.trans h
  by_cases c7 : x1 = 44
  · replace h := (if_pos c7).symm.trans h
    refine g_swc c7 rfl rfl rfl (pc' := 207) rfl ?_
    refine g_run 5 (pc' := 212) (L' := [some (.int x1), some (.int x2), some (.int x3), some (.long (((x2 ||| x3)).toInt64)), none]) (S' := []) (M' := gm g) rfl ?_
    refine g_forget (L' := [none, none, none, some (.long (((x2 ||| x3)).toInt64)), none]) (And.intro rfl True.intro) ?_
    exact p_X4_workOut_212 hD (((x2 ||| x3)).toInt64) g _ h
  replace h := (if_neg c7).symm.trans h
  by_cases c8 : x1 = 45
  · replace h := (if_pos c8).symm.trans h
    refine g_swc c8 rfl rfl rfl (pc' := 124) rfl ?_
    refine g_run 6 (pc' := 212) (L' := [some (.int x1), some (.int x2), some (.int x3), some (.long (((x2 - x3)).toInt64)), none]) (S' := []) (M' := gm g) rfl ?_
    refine g_forget (L' := [none, none, none, some (.long (((x2 - x3)).toInt64)), none]) (And.intro rfl True.intro) ?_
    exact p_X4_workOut_212 hD (((x2 - x3)).toInt64) g _ h
  replace h := (if_neg c8).symm.trans h
  by_cases c9 : x1 = 46
  · replace h := (if_pos c9).symm.trans h
    refine g_swc c9 rfl rfl rfl (pc' := 207) rfl ?_
    refine g_run 5 (pc' := 212) (L' := [some (.int x1), some (.int x2), some (.int x3), some (.long (((x2 ||| x3)).toInt64)), none]) (S' := []) (M' := gm g) rfl ?_
    refine g_forget (L' := [none, none, none, some (.long (((x2 ||| x3)).toInt64)), none]) (And.intro rfl True.intro) ?_
    exact p_X4_workOut_212 hD (((x2 ||| x3)).toInt64) g _ h
  replace h := (if_neg c9).symm.trans h
  by_cases c10 : x1 = 47
  · replace h := (if_pos c10).symm.trans h
    refine g_swc c10 rfl rfl rfl (pc' := 141) rfl ?_
    refine g_run 1 (pc' := 142) (L' := [some (.int x1), some (.int x2), some (.int x3), none, none]) (S' := [.int x3]) (M' := gm g) rfl ?_
    refine g_if (¬ x3 = 0) rfl (t := 149) rfl rfl (fun c11 => ?_) (fun c11 => ?_)
    · replace h := (if_pos c11).symm.trans h
      refine g_run 2 (pc' := 151) (L' := [some (.int x1), some (.int x2), some (.int x3), none, none]) (S' := [.int x3, .int x2]) (M' := gm g) rfl ?_
      by_cases c12 : x3 = 0
      case pos => exact nomatch ((if_pos c12).symm.trans h)
      replace h := (if_neg c12).symm.trans h
      refine g_div rfl c12 ?_
      refine g_run 1 (pc' := 153) (L' := [some (.int x1), some (.int x2), some (.int x3), none, none]) (S' := [.long (((x2 / x3)).toInt64)]) (M' := gm g) rfl ?_
      refine g_forget (L' := [none, none, none, none, none]) True.intro ?_
      exact p_X4_workOut_153 hD (((x2 / x3)).toInt64) g _ h
    · replace h := (if_neg c11).symm.trans h
      refine g_run 2 (pc' := 153) (L' := [some (.int x1), some (.int x2), some (.int x3), none, none]) (S' := [.long (0)]) (M' := gm g) rfl ?_
      refine g_forget (L' := [none, none, none, none, none]) True.intro ?_
      exact p_X4_workOut_153 hD (0) g _ h
  replace h := (if_neg c10).symm.trans h
  by_cases c13 : x1 = 48
  · replace h := (if_pos c13).symm.trans h
    refine g_swc c13 rfl rfl rfl (pc' := 207) rfl ?_
    refine g_run 5 (pc' := 212) (L' := [some (.int x1), some (.int x2), some (.int x3), some (.long (((x2 ||| x3)).toInt64)), none]) (S' := []) (M' := gm g) rfl ?_
    refine g_forget (L' := [none, none, none, some (.long (((x2 ||| x3)).toInt64)), none]) (And.intro rfl True.intro) ?_
    exact p_X4_workOut_212 hD (((x2 ||| x3)).toInt64) g _ h
  replace h := (if_neg c13).symm.trans h
  by_cases c14 : x1 = 49
  · replace h := (if_pos c14).symm.trans h
    refine g_swc c14 rfl rfl rfl (pc' := 207) rfl ?_
    refine g_run 5 (pc' := 212) (L' := [some (.int x1), some (.int x2), some (.int x3), some (.long (((x2 ||| x3)).toInt64)), none]) (S' := []) (M' := gm g) rfl ?_
    refine g_forget (L' := [none, none, none, some (.long (((x2 ||| x3)).toInt64)), none]) (And.intro rfl True.intro) ?_
    exact p_X4_workOut_212 hD (((x2 ||| x3)).toInt64) g _ h
  replace h := (if_neg c14).symm.trans h
  by_cases c15 : x1 = 50
  · replace h := (if_pos c15).symm.trans h
    refine g_swc c15 rfl rfl rfl (pc' := 207) rfl ?_
    refine g_run 5 (pc' := 212) (L' := [some (.int x1), some (.int x2), some (.int x3), some (.long (((x2 ||| x3)).toInt64)), none]) (S' := []) (M' := gm g) rfl ?_
    refine g_forget (L' := [none, none, none, some (.long (((x2 ||| x3)).toInt64)), none]) (And.intro rfl True.intro) ?_
    exact p_X4_workOut_212 hD (((x2 ||| x3)).toInt64) g _ h
  replace h := (if_neg c15).symm.trans h
  by_cases c16 : x1 = 51
  · replace h := (if_pos c16).symm.trans h
    refine g_swc c16 rfl rfl rfl (pc' := 207) rfl ?_
    refine g_run 5 (pc' := 212) (L' := [some (.int x1), some (.int x2), some (.int x3), some (.long (((x2 ||| x3)).toInt64)), none]) (S' := []) (M' := gm g) rfl ?_
    refine g_forget (L' := [none, none, none, some (.long (((x2 ||| x3)).toInt64)), none]) (And.intro rfl True.intro) ?_
    exact p_X4_workOut_212 hD (((x2 ||| x3)).toInt64) g _ h
  replace h := (if_neg c16).symm.trans h
  by_cases c17 : x1 = 52
  · replace h := (if_pos c17).symm.trans h
    refine g_swc c17 rfl rfl rfl (pc' := 207) rfl ?_
    refine g_run 5 (pc' := 212) (L' := [some (.int x1), some (.int x2), some (.int x3), some (.long (((x2 ||| x3)).toInt64)), none]) (S' := []) (M' := gm g) rfl ?_
    refine g_forget (L' := [none, none, none, some (.long (((x2 ||| x3)).toInt64)), none]) (And.intro rfl True.intro) ?_
    exact p_X4_workOut_212 hD (((x2 ||| x3)).toInt64) g _ h
  replace h := (if_neg c17).symm.trans h
  by_cases c18 : x1 = 53
  · replace h := (if_pos c18).symm.trans h
    refine g_swc c18 rfl rfl rfl (pc' := 207) rfl ?_
    refine g_run 5 (pc' := 212) (L' := [some (.int x1), some (.int x2), some (.int x3), some (.long (((x2 ||| x3)).toInt64)), none]) (S' := []) (M' := gm g) rfl ?_
    refine g_forget (L' := [none, none, none, some (.long (((x2 ||| x3)).toInt64)), none]) (And.intro rfl True.intro) ?_
    exact p_X4_workOut_212 hD (((x2 ||| x3)).toInt64) g _ h
  replace h := (if_neg c18).symm.trans h
  by_cases c19 : x1 = 54
  · replace h := (if_pos c19).symm.trans h
    refine g_swc c19 rfl rfl rfl (pc' := 207) rfl ?_
    refine g_run 5 (pc' := 212) (L' := [some (.int x1), some (.int x2), some (.int x3), some (.long (((x2 ||| x3)).toInt64)), none]) (S' := []) (M' := gm g) rfl ?_
    refine g_forget (L' := [none, none, none, some (.long (((x2 ||| x3)).toInt64)), none]) (And.intro rfl True.intro) ?_
    exact p_X4_workOut_212 hD (((x2 ||| x3)).toInt64) g _ h
  replace h := (if_neg c19).symm.trans h
  by_cases c20 : x1 = 55
  · replace h := (if_pos c20).symm.trans h
    refine g_swc c20 rfl rfl rfl (pc' := 207) rfl ?_
    refine g_run 5 (pc' := 212) (L' := [some (.int x1), some (.int x2), some (.int x3), some (.long (((x2 ||| x3)).toInt64)), none]) (S' := []) (M' := gm g) rfl ?_
    refine g_forget (L' := [none, none, none, some (.long (((x2 ||| x3)).toInt64)), none]) (And.intro rfl True.intro) ?_
    exact p_X4_workOut_212 hD (((x2 ||| x3)).toInt64) g _ h
  replace h := (if_neg c20).symm.trans h
  by_cases c21 : x1 = 56
  · replace h := (if_pos c21).symm.trans h
    refine g_swc c21 rfl rfl rfl (pc' := 207) rfl ?_
    refine g_run 5 (pc' := 212) (L' := [some (.int x1), some (.int x2), some (.int x3), some (.long (((x2 ||| x3)).toInt64)), none]) (S' := []) (M' := gm g) rfl ?_
    refine g_forget (L' := [none, none, none, some (.long (((x2 ||| x3)).toInt64)), none]) (And.intro rfl True.intro) ?_
    exact p_X4_workOut_212 hD (((x2 ||| x3)).toInt64) g _ h
  replace h := (if_neg c21).symm.trans h
  by_cases c22 : x1 = 57
  · replace h := (if_pos c22).symm.trans h
    refine g_swc c22 rfl rfl rfl (pc' := 207) rfl ?_
    refine g_run 5 (pc' := 212) (L' := [some (.int x1), some (.int x2), some (.int x3), some (.long (((x2 ||| x3)).toInt64)), none]) (S' := []) (M' := gm g) rfl ?_
    refine g_forget (L' := [none, none, none, some (.long (((x2 ||| x3)).toInt64)), none]) (And.intro rfl True.intro) ?_
    exact p_X4_workOut_212 hD (((x2 ||| x3)).toInt64) g _ h
  replace h := (if_neg c22).symm.trans h
  by_cases c23 : x1 = 58
  · replace h := (if_pos c23).symm.trans h
    refine g_swc c23 rfl rfl rfl (pc' := 207) rfl ?_
    refine g_run 5 (pc' := 212) (L' := [some (.int x1), some (.int x2), some (.int x3), some (.long (((x2 ||| x3)).toInt64)), none]) (S' := []) (M' := gm g) rfl ?_
    refine g_forget (L' := [none, none, none, some (.long (((x2 ||| x3)).toInt64)), none]) (And.intro rfl True.intro) ?_
    exact p_X4_workOut_212 hD (((x2 ||| x3)).toInt64) g _ h
  replace h := (if_neg c23).symm.trans h
  by_cases c24 : x1 = 59
  · replace h := (if_pos c24).symm.trans h
    refine g_swc c24 rfl rfl rfl (pc' := 207) rfl ?_
    refine g_run 5 (pc' := 212) (L' := [some (.int x1), some (.int x2), some (.int x3), some (.long (((x2 ||| x3)).toInt64)), none]) (S' := []) (M' := gm g) rfl ?_
    refine g_forget (L' := [none, none, none, some (.long (((x2 ||| x3)).toInt64)), none]) (And.intro rfl True.intro) ?_
    exact p_X4_workOut_212 hD (((x2 ||| x3)).toInt64) g _ h
  replace h := (if_neg c24).symm.trans h
  by_cases c25 : x1 = 60
  · replace h := (if_pos c25).symm.trans h
    refine g_swc c25 rfl rfl rfl (pc' := 171) rfl ?_
    refine g_run 2 (pc' := 173) (L' := [some (.int x1), some (.int x2), some (.int x3), none, none]) (S' := [.int x3, .int x2]) (M' := gm g) rfl ?_
    refine g_icmp (x3 ≤ x2) rfl (t := 180) rfl rfl (fun c26 => ?_) (fun c26 => ?_)
    · replace h := (if_pos c26).symm.trans h
      refine g_run 1 (pc' := 181) (L' := [some (.int x1), some (.int x2), some (.int x3), none, none]) (S' := [.long (0)]) (M' := gm g) rfl ?_
      refine g_forget (L' := [none, none, none, none, none]) True.intro ?_
      exact p_X4_workOut_181 hD (0) g _ h
    · replace h := (if_neg c26).symm.trans h
      refine g_run 2 (pc' := 181) (L' := [some (.int x1), some (.int x2), some (.int x3), none, none]) (S' := [.long (1)]) (M' := gm g) rfl ?_
      refine g_forget (L' := [none, none, none, none, none]) True.intro ?_
      exact p_X4_workOut_181 hD (1) g _ h
  replace h := (if_neg c25).symm.trans h
  by_cases c27 : x1 = 61
  · replace h := (if_pos c27).symm.trans h
    refine g_swc c27 rfl rfl rfl (pc' := 157) rfl ?_
    refine g_run 2 (pc' := 159) (L' := [some (.int x1), some (.int x2), some (.int x3), none, none]) (S' := [.int x3, .int x2]) (M' := gm g) rfl ?_
    refine g_icmp (¬ x2 = x3) rfl (t := 166) rfl rfl (fun c28 => ?_) (fun c28 => ?_)
    · replace h := (if_pos c28).symm.trans h
      refine g_run 1 (pc' := 167) (L' := [some (.int x1), some (.int x2), some (.int x3), none, none]) (S' := [.long (0)]) (M' := gm g) rfl ?_
      refine g_forget (L' := [none, none, none, none, none]) True.intro ?_
      exact p_X4_workOut_167 hD (0) g _ h
    · replace h := (if_neg c28).symm.trans h
      refine g_run 2 (pc' := 167) (L' := [some (.int x1), some (.int x2), some (.int x3), none, none]) (S' := [.long (1)]) (M' := gm g) rfl ?_
      refine g_forget (L' := [none, none, none, none, none]) True.intro ?_
      exact p_X4_workOut_167 hD (1) g _ h
  replace h := (if_neg c27).symm.trans h
  by_cases c29 : x1 = 62
  · replace h := (if_pos c29).symm.trans h
    refine g_swc c29 rfl rfl rfl (pc' := 185) rfl ?_
    refine g_run 2 (pc' := 187) (L' := [some (.int x1), some (.int x2), some (.int x3), none, none]) (S' := [.int x3, .int x2]) (M' := gm g) rfl ?_
    refine g_icmp (x2 ≤ x3) rfl (t := 194) rfl rfl (fun c30 => ?_) (fun c30 => ?_)
    · replace h := (if_pos c30).symm.trans h
      refine g_run 1 (pc' := 195) (L' := [some (.int x1), some (.int x2), some (.int x3), none, none]) (S' := [.long (0)]) (M' := gm g) rfl ?_
      refine g_forget (L' := [none, none, none, none, none]) True.intro ?_
      exact p_X4_workOut_195 hD (0) g _ h
    · replace h := (if_neg c30).symm.trans h
      refine g_run 2 (pc' := 195) (L' := [some (.int x1), some (.int x2), some (.int x3), none, none]) (S' := [.long (1)]) (M' := gm g) rfl ?_
      refine g_forget (L' := [none, none, none, none, none]) True.intro ?_
      exact p_X4_workOut_195 hD (1) g _ h
  replace h := (if_neg c29).symm.trans h
  have hsw : (x1).toInt < 38 ∨ 62 < (x1).toInt := by
    have nc1 := lv_neT c1 (a := 38) rfl
    have nc2 := lv_neT c2 (a := 39) rfl
    have nc3 := lv_neT c3 (a := 40) rfl
    have nc4 := lv_neT c4 (a := 41) rfl
    have nc5 := lv_neT c5 (a := 42) rfl
    have nc6 := lv_neT c6 (a := 43) rfl
    have nc7 := lv_neT c7 (a := 44) rfl
    have nc8 := lv_neT c8 (a := 45) rfl
    have nc9 := lv_neT c9 (a := 46) rfl
    have nc10 := lv_neT c10 (a := 47) rfl
    have nc13 := lv_neT c13 (a := 48) rfl
    have nc14 := lv_neT c14 (a := 49) rfl
    have nc15 := lv_neT c15 (a := 50) rfl
    have nc16 := lv_neT c16 (a := 51) rfl
    have nc17 := lv_neT c17 (a := 52) rfl
    have nc18 := lv_neT c18 (a := 53) rfl
    have nc19 := lv_neT c19 (a := 54) rfl
    have nc20 := lv_neT c20 (a := 55) rfl
    have nc21 := lv_neT c21 (a := 56) rfl
    have nc22 := lv_neT c22 (a := 57) rfl
    have nc23 := lv_neT c23 (a := 58) rfl
    have nc24 := lv_neT c24 (a := 59) rfl
    have nc25 := lv_neT c25 (a := 60) rfl
    have nc27 := lv_neT c27 (a := 61) rfl
    have nc29 := lv_neT c29 (a := 62) rfl
    omega
  refine g_tsd rfl hsw (t := 207) rfl ?_
  refine g_run 5 (pc' := 212) (L' := [some (.int x1), some (.int x2), some (.int x3), some (.long (((x2 ||| x3)).toInt64)), none]) (S' := []) (M' := gm g) rfl ?_
  refine g_forget (L' := [none, none, none, some (.long (((x2 ||| x3)).toInt64)), none]) (And.intro rfl True.intro) ?_
  exact p_X4_workOut_212 hD (((x2 ||| x3)).toInt64) g _ h
def f_X4_worth_211 (a : Nat) (b1 : Nat) (k4 : Int32 → Int32 → zSg → Option (Int32 × zSg)) (y2 : Int32) (y3 : Int32) (g : zSg) : Option (Int32 × zSg) := k4 (y2) (y3 + 1) g
set_option maxRecDepth 100000 in
set_option maxHeartbeats 4000000 in
theorem p_X4_worth_211 {sc : zSc} {hp : zHp} {d : Nat} (hD : 17 ≤ d) (a : Nat) (b1 : Nat) (ha : (zK0 a).1 = 4) (hb1 : (zK0 b1).1 = 7) (k4 : Int32 → Int32 → zSg → Option (Int32 × zSg)) (hk4 : ∀ (y2 : Int32) (y3 : Int32) (g : zSg) (r : Int32 × zSg), k4 y2 y3 g = some r → zG d sc hp (zcd zM_X4_worth) 4 [some (.ref a), some (.ref b1), some (.int y2), some (.int y3), none] [] (gm g) ((some (.int r.1)), gm r.2)) (y2 : Int32) (y3 : Int32) (g : zSg) (r : Int32 × zSg) (h : f_X4_worth_211 a b1 k4 y2 y3 g = some r) : zG d sc hp (zcd zM_X4_worth) 211 [some (.ref a), some (.ref b1), some (.int y2), some (.int y3), none] [] (gm g) ((some (.int r.1)), gm r.2) := by
  obtain ⟨d, rfl⟩ : ∃ d', d = d' + 1 := ⟨d - 1, by omega⟩
  unfold f_X4_worth_211 at h
  refine g_run 2 (pc' := 4) (L' := [some (.ref a), some (.ref b1), some (.int y2), some (.int ((y3 + 1))), none]) (S' := []) (M' := gm g) rfl ?_
  exact hk4 (y2) (y3 + 1) g _ h
def f_X4_worth_126 (a : Nat) (b1 : Nat) (k4 : Int32 → Int32 → zSg → Option (Int32 × zSg)) (y2 : Int32) (y3 : Int32) (s0 : Int32) (s1 : Int32) (g : zSg) : Option (Int32 × zSg) := (zB (f_X7_set (a + 3) s1 s0 g) (fun v1 g2 => f_X4_worth_211 a b1 k4 (y2) (y3) g2))
set_option maxRecDepth 100000 in
set_option maxHeartbeats 4000000 in
theorem p_X4_worth_126 {sc : zSc} {hp : zHp} {d : Nat} (hD : 17 ≤ d) (a : Nat) (b1 : Nat) (ha : (zK0 a).1 = 4) (hb1 : (zK0 b1).1 = 7) (k4 : Int32 → Int32 → zSg → Option (Int32 × zSg)) (hk4 : ∀ (y2 : Int32) (y3 : Int32) (g : zSg) (r : Int32 × zSg), k4 y2 y3 g = some r → zG d sc hp (zcd zM_X4_worth) 4 [some (.ref a), some (.ref b1), some (.int y2), some (.int y3), none] [] (gm g) ((some (.int r.1)), gm r.2)) (y2 : Int32) (y3 : Int32) (s0 : Int32) (s1 : Int32) (g : zSg) (r : Int32 × zSg) (h : f_X4_worth_126 a b1 k4 y2 y3 s0 s1 g = some r) : zG d sc hp (zcd zM_X4_worth) 126 [some (.ref a), some (.ref b1), some (.int y2), some (.int y3), none] [.int s0, .int s1, .ref (a + 3)] (gm g) ((some (.int r.1)), gm r.2) := by
  obtain ⟨d, rfl⟩ : ∃ d', d = d' + 1 := ⟨d - 1, by omega⟩
  unfold f_X4_worth_126 at h
  replace h := zB_of h
  obtain ⟨v1, g2, e3, h⟩ := h
  refine g_inv2 (kd := 1) (p_X7_set (a + 3) (zK0_l ha).2 e3) rfl rfl rfl (by decide) rfl (g_recv (a := a + 3) rfl (Nat.le_of_ble_eq_true rfl) (Nat.le_of_ble_eq_true rfl) (Nat.le_of_ble_eq_true rfl) (Nat.le_of_ble_eq_true rfl) rfl (zK0_l ha).2 (Nat.le_of_ble_eq_true rfl)) rfl rfl (by omega) (pc' := 129) rfl (S' := []) rfl ?_
  refine g_run 1 (pc' := 211) (L' := [some (.ref a), some (.ref b1), some (.int y2), some (.int y3), none]) (S' := []) (M' := gm g2) rfl ?_
  exact p_X4_worth_211 hD a b1 ha hb1 k4 hk4 (y2) (y3) g2 _ h
def f_X4_worth_83 (a : Nat) (b1 : Nat) (y2 : Int32) (g : zSg) : Option (Int32 × zSg) := (zB (f_X7_get (a + 3) (y2 - 1) g) (fun v1 g2 => some (v1, g2)))
set_option maxRecDepth 100000 in
set_option maxHeartbeats 4000000 in
theorem p_X4_worth_83 {sc : zSc} {hp : zHp} {d : Nat} (hD : 17 ≤ d) (a : Nat) (b1 : Nat) (ha : (zK0 a).1 = 4) (hb1 : (zK0 b1).1 = 7) (y2 : Int32) (g : zSg) (r : Int32 × zSg) (h : f_X4_worth_83 a b1 y2 g = some r) : zG d sc hp (zcd zM_X4_worth) 83 [some (.ref a), none, some (.int y2), none, none] [] (gm g) ((some (.int r.1)), gm r.2) := by
  obtain ⟨d, rfl⟩ : ∃ d', d = d' + 1 := ⟨d - 1, by omega⟩
  unfold f_X4_worth_83 at h
  refine g_run 1 (pc' := 84) (L' := [some (.ref a), none, some (.int y2), none, none]) (S' := [.ref a]) (M' := gm g) rfl ?_
  refine g_getf rfl (ci := 4) (k := 1) rfl ha (gfv_l1 ha) ?_
  refine g_run 3 (pc' := 90) (L' := [some (.ref a), none, some (.int y2), none, none]) (S' := [.int ((y2 - 1)), .ref (a + 3)]) (M' := gm g) rfl ?_
  replace h := zB_of h
  obtain ⟨v1, g2, e3, h⟩ := h
  refine g_inv2 (kd := 1) (p_X7_get (a + 3) (zK0_l ha).2 e3) rfl rfl rfl (by decide) rfl (g_recv (a := a + 3) rfl (Nat.le_of_ble_eq_true rfl) (Nat.le_of_ble_eq_true rfl) (Nat.le_of_ble_eq_true rfl) (Nat.le_of_ble_eq_true rfl) rfl (zK0_l ha).2 (Nat.le_of_ble_eq_true rfl)) rfl rfl (by omega) (pc' := 93) rfl (S' := [.int v1]) rfl ?_
  cases h
  exact g_ret rfl rfl rfl rfl
def fb_X4_worth_4 (a : Nat) (b1 : Nat) (kk : Int32 → Int32 → zSg → Option (Int32 × zSg)) (y2 : Int32) (y3 : Int32) (g : zSg) : Option (Int32 × zSg) := (if (gI g (a) 2) ≤ y3 then some (0, g) else (zB (f_X7_get (a + 1) y3 g) (fun v2 g3 => (if v2 < 0 then (if v2 < (-6) then (if ¬ v2 = (-59) then (if ¬ v2 = (-33) then (if ¬ v2 = (-63) then (zB (f_X7_get (a + 3) ((y2 + (-1)) - 1) g3) (fun v10 g11 => (zB (f_X7_get (a + 3) (y2 + (-1)) g11) (fun v13 g14 => (zB (f_X4_workOut (-v2) v10 v13 g14) (fun v16 g17 => (zB (f_X7_set (a + 3) ((y2 + (-1)) - 1) v16 g17) (fun v19 g20 => f_X4_worth_211 a b1 kk (y2 + (-1)) (y3) g20)))))))) else (zB (f_X7_get (a + 3) (y2 + (-1)) g3) (fun v22 g23 => (if ¬ v22 = 0 then f_X4_worth_211 a b1 kk (y2 + (-1)) (y3 + 1) g23 else (zB (f_X7_get (a + 1) (y3 + 1) g23) (fun v26 g27 => f_X4_worth_211 a b1 kk (y2 + (-1)) (imax (y3 + 1) (v26 - 1)) g27)))))) else (zB (f_X7_get (a + 3) (y2 - 1) g3) (fun v29 g30 => (if ¬ v29 = 0 then f_X4_worth_126 a b1 kk (y2) (y3) (0) (y2 - 1) g30 else f_X4_worth_126 a b1 kk (y2) (y3) (1) (y2 - 1) g30)))) else f_X4_worth_83 a b1 (y2) g3) else (zB (f_X7_get b1 ((-1) - v2) g3) (fun v33 g34 => (zB (f_X7_set (a + 3) y2 v33 g34) (fun v36 g37 => f_X4_worth_211 a b1 kk (y2 + 1) (y3) g37))))) else (zB (f_X7_set (a + 3) y2 v2 g3) (fun v39 g40 => f_X4_worth_211 a b1 kk (y2 + 1) (y3) g40))))))
def f_X4_worth_4 (a : Nat) (b1 : Nat) : Nat → Int32 → Int32 → zSg → Option (Int32 × zSg)
  | 0, _, _, _ => none
  | n + 1, y2, y3, g => fb_X4_worth_4 a b1 (f_X4_worth_4 a b1 n) y2 y3 g
set_option maxRecDepth 100000 in
set_option maxHeartbeats 4000000 in
theorem p_X4_worth_4 {sc : zSc} {hp : zHp} {d : Nat} (hD : 17 ≤ d) (a : Nat) (b1 : Nat) (ha : (zK0 a).1 = 4) (hb1 : (zK0 b1).1 = 7) : ∀ (n : Nat) (y2 : Int32) (y3 : Int32) (g : zSg) (r : Int32 × zSg), f_X4_worth_4 a b1 n y2 y3 g = some r → zG d sc hp (zcd zM_X4_worth) 4 [some (.ref a), some (.ref b1), some (.int y2), some (.int y3), none] [] (gm g) ((some (.int r.1)), gm r.2) := by
  obtain ⟨d, rfl⟩ : ∃ d', d = d' + 1 := ⟨d - 1, by omega⟩
  intro n
  induction n with
  | zero => intro y2 y3 g r h; cases h
  | succ n ih =>
    intro y2 y3 g r h
    replace h : fb_X4_worth_4 a b1 (f_X4_worth_4 a b1 n) y2 y3 g = some r := h
    unfold fb_X4_worth_4 at h
    refine g_run 2 (pc' := 6) (L' := [some (.ref a), some (.ref b1), some (.int y2), some (.int y3), none]) (S' := [.ref a, .int y3]) (M' := gm g) rfl ?_
    refine g_getf rfl (ci := 4) (k := 2) rfl ha rfl ?_
    refine g_icmp ((gI g (a) 2) ≤ y3) rfl (t := 217) rfl rfl (fun c1 => ?_) (fun c1 => ?_)
    · replace h := (if_pos c1).symm.trans h
      refine g_run 1 (pc' := 218) (L' := [some (.ref a), some (.ref b1), some (.int y2), some (.int y3), none]) (S' := [.int 0]) (M' := gm g) rfl ?_
      cases h
      exact g_ret rfl rfl rfl rfl
    · replace h := (if_neg c1).symm.trans h
      refine g_run 1 (pc' := 13) (L' := [some (.ref a), some (.ref b1), some (.int y2), some (.int y3), none]) (S' := [.ref a]) (M' := gm g) rfl ?_
      refine g_getf rfl (ci := 4) (k := 0) rfl ha (gfv_l0 ha) ?_
      refine g_run 1 (pc' := 17) (L' := [some (.ref a), some (.ref b1), some (.int y2), some (.int y3), none]) (S' := [.int y3, .ref (a + 1)]) (M' := gm g) rfl ?_
      replace h := zB_of h
      obtain ⟨v2, g3, e4, h⟩ := h
      refine g_inv2 (kd := 1) (p_X7_get (a + 1) (zK0_l ha).1 e4) rfl rfl rfl (by decide) rfl (g_recv (a := a + 1) rfl (Nat.le_of_ble_eq_true rfl) (Nat.le_of_ble_eq_true rfl) (Nat.le_of_ble_eq_true rfl) (Nat.le_of_ble_eq_true rfl) rfl (zK0_l ha).1 (Nat.le_of_ble_eq_true rfl)) rfl rfl (by omega) (pc' := 20) rfl (S' := [.int v2]) rfl ?_
      refine g_run 2 (pc' := 24) (L' := [some (.ref a), some (.ref b1), some (.int y2), some (.int y3), some (.int v2)]) (S' := [.int v2]) (M' := gm g3) rfl ?_
      refine g_if (v2 < 0) rfl (t := 43) rfl rfl (fun c5 => ?_) (fun c5 => ?_)
      · replace h := (if_pos c5).symm.trans h
        refine g_run 2 (pc' := 47) (L' := [some (.ref a), some (.ref b1), some (.int y2), some (.int y3), some (.int v2)]) (S' := [.float 2, .int v2]) (M' := gm g3) rfl ?_
        refine g_spec2 (kd := 1) rfl rfl rfl (by decide) rfl (jd := 1006) rfl (by decide) rfl (Or.inr (by omega)) (S' := [.int 6, .int v2]) (M' := gm g3) rfl rfl (pc' := 50) rfl ?_
        refine g_run 1 (pc' := 51) (L' := [some (.ref a), some (.ref b1), some (.int y2), some (.int y3), some (.int v2)]) (S' := [.int (-6), .int v2]) (M' := gm g3) rfl ?_
        refine g_icmp (v2 < (-6)) rfl (t := 76) rfl rfl (fun c6 => ?_) (fun c6 => ?_)
        · replace h := (if_pos c6).symm.trans h
          refine g_run 2 (pc' := 80) (L' := [some (.ref a), some (.ref b1), some (.int y2), some (.int y3), some (.int v2)]) (S' := [.int (-59), .int v2]) (M' := gm g3) rfl ?_
          refine g_icmp (¬ v2 = (-59)) rfl (t := 94) rfl rfl (fun c7 => ?_) (fun c7 => ?_)
          · replace h := (if_pos c7).symm.trans h
            refine g_run 2 (pc' := 98) (L' := [some (.ref a), some (.ref b1), some (.int y2), some (.int y3), some (.int v2)]) (S' := [.int (-33), .int v2]) (M' := gm g3) rfl ?_
            refine g_icmp (¬ v2 = (-33)) rfl (t := 132) rfl rfl (fun c8 => ?_) (fun c8 => ?_)
            · replace h := (if_pos c8).symm.trans h
              refine g_run 2 (pc' := 136) (L' := [some (.ref a), some (.ref b1), some (.int y2), some (.int y3), some (.int v2)]) (S' := [.int (-63), .int v2]) (M' := gm g3) rfl ?_
              refine g_icmp (¬ v2 = (-63)) rfl (t := 174) rfl rfl (fun c9 => ?_) (fun c9 => ?_)
              · replace h := (if_pos c9).symm.trans h
                refine g_run 2 (pc' := 178) (L' := [some (.ref a), some (.ref b1), some (.int ((y2 + (-1)))), some (.int y3), some (.int v2)]) (S' := [.ref a]) (M' := gm g3) rfl ?_
                refine g_getf rfl (ci := 4) (k := 1) rfl ha (gfv_l1 ha) ?_
                refine g_run 6 (pc' := 188) (L' := [some (.ref a), some (.ref b1), some (.int ((y2 + (-1)))), some (.int y3), some (.int v2)]) (S' := [.ref a, .int ((-v2)), .int (((y2 + (-1)) - 1)), .ref (a + 3)]) (M' := gm g3) rfl ?_
                refine g_getf rfl (ci := 4) (k := 1) rfl ha (gfv_l1 ha) ?_
                refine g_run 3 (pc' := 194) (L' := [some (.ref a), some (.ref b1), some (.int ((y2 + (-1)))), some (.int y3), some (.int v2)]) (S' := [.int (((y2 + (-1)) - 1)), .ref (a + 3), .int ((-v2)), .int (((y2 + (-1)) - 1)), .ref (a + 3)]) (M' := gm g3) rfl ?_
                replace h := zB_of h
                obtain ⟨v10, g11, e12, h⟩ := h
                refine g_inv2 (kd := 1) (p_X7_get (a + 3) (zK0_l ha).2 e12) rfl rfl rfl (by decide) rfl (g_recv (a := a + 3) rfl (Nat.le_of_ble_eq_true rfl) (Nat.le_of_ble_eq_true rfl) (Nat.le_of_ble_eq_true rfl) (Nat.le_of_ble_eq_true rfl) rfl (zK0_l ha).2 (Nat.le_of_ble_eq_true rfl)) rfl rfl (by omega) (pc' := 197) rfl (S' := [.int v10, .int ((-v2)), .int (((y2 + (-1)) - 1)), .ref (a + 3)]) rfl ?_
                refine g_run 1 (pc' := 198) (L' := [some (.ref a), some (.ref b1), some (.int ((y2 + (-1)))), some (.int y3), some (.int v2)]) (S' := [.ref a, .int v10, .int ((-v2)), .int (((y2 + (-1)) - 1)), .ref (a + 3)]) (M' := gm g11) rfl ?_
                refine g_getf rfl (ci := 4) (k := 1) rfl ha (gfv_l1 ha) ?_
                refine g_run 1 (pc' := 202) (L' := [some (.ref a), some (.ref b1), some (.int ((y2 + (-1)))), some (.int y3), some (.int v2)]) (S' := [.int ((y2 + (-1))), .ref (a + 3), .int v10, .int ((-v2)), .int (((y2 + (-1)) - 1)), .ref (a + 3)]) (M' := gm g11) rfl ?_
                replace h := zB_of h
                obtain ⟨v13, g14, e15, h⟩ := h
                refine g_inv2 (kd := 1) (p_X7_get (a + 3) (zK0_l ha).2 e15) rfl rfl rfl (by decide) rfl (g_recv (a := a + 3) rfl (Nat.le_of_ble_eq_true rfl) (Nat.le_of_ble_eq_true rfl) (Nat.le_of_ble_eq_true rfl) (Nat.le_of_ble_eq_true rfl) rfl (zK0_l ha).2 (Nat.le_of_ble_eq_true rfl)) rfl rfl (by omega) (pc' := 205) rfl (S' := [.int v13, .int v10, .int ((-v2)), .int (((y2 + (-1)) - 1)), .ref (a + 3)]) rfl ?_
                replace h := zB_of h
                obtain ⟨v16, g17, e18, h⟩ := h
                refine g_inv2 (kd := 0) (p_X4_workOut  e18) rfl rfl rfl (by decide) rfl rfl rfl rfl (by omega) (pc' := 208) rfl (S' := [.int v16, .int (((y2 + (-1)) - 1)), .ref (a + 3)]) rfl ?_
                replace h := zB_of h
                obtain ⟨v19, g20, e21, h⟩ := h
                refine g_inv2 (kd := 1) (p_X7_set (a + 3) (zK0_l ha).2 e21) rfl rfl rfl (by decide) rfl (g_recv (a := a + 3) rfl (Nat.le_of_ble_eq_true rfl) (Nat.le_of_ble_eq_true rfl) (Nat.le_of_ble_eq_true rfl) (Nat.le_of_ble_eq_true rfl) rfl (zK0_l ha).2 (Nat.le_of_ble_eq_true rfl)) rfl rfl (by omega) (pc' := 211) rfl (S' := []) rfl ?_
                refine g_forget (L' := [some (.ref a), some (.ref b1), some (.int ((y2 + (-1)))), some (.int y3), none]) (And.intro rfl (And.intro rfl (And.intro rfl (And.intro rfl True.intro)))) ?_
                exact p_X4_worth_211 hD a b1 ha hb1 (f_X4_worth_4 a b1 n) ih (y2 + (-1)) (y3) g20 _ h
              · replace h := (if_neg c9).symm.trans h
                refine g_run 3 (pc' := 146) (L' := [some (.ref a), some (.ref b1), some (.int ((y2 + (-1)))), some (.int ((y3 + 1))), some (.int v2)]) (S' := [.ref a]) (M' := gm g3) rfl ?_
                refine g_getf rfl (ci := 4) (k := 1) rfl ha (gfv_l1 ha) ?_
                refine g_run 1 (pc' := 150) (L' := [some (.ref a), some (.ref b1), some (.int ((y2 + (-1)))), some (.int ((y3 + 1))), some (.int v2)]) (S' := [.int ((y2 + (-1))), .ref (a + 3)]) (M' := gm g3) rfl ?_
                replace h := zB_of h
                obtain ⟨v22, g23, e24, h⟩ := h
                refine g_inv2 (kd := 1) (p_X7_get (a + 3) (zK0_l ha).2 e24) rfl rfl rfl (by decide) rfl (g_recv (a := a + 3) rfl (Nat.le_of_ble_eq_true rfl) (Nat.le_of_ble_eq_true rfl) (Nat.le_of_ble_eq_true rfl) (Nat.le_of_ble_eq_true rfl) rfl (zK0_l ha).2 (Nat.le_of_ble_eq_true rfl)) rfl rfl (by omega) (pc' := 153) rfl (S' := [.int v22]) rfl ?_
                refine g_if (¬ v22 = 0) rfl (t := 211) rfl rfl (fun c25 => ?_) (fun c25 => ?_)
                · replace h := (if_pos c25).symm.trans h
                  refine g_forget (L' := [some (.ref a), some (.ref b1), some (.int ((y2 + (-1)))), some (.int ((y3 + 1))), none]) (And.intro rfl (And.intro rfl (And.intro rfl (And.intro rfl True.intro)))) ?_
                  exact p_X4_worth_211 hD a b1 ha hb1 (f_X4_worth_4 a b1 n) ih (y2 + (-1)) (y3 + 1) g23 _ h
                · replace h := (if_neg c25).symm.trans h
                  refine g_run 2 (pc' := 158) (L' := [some (.ref a), some (.ref b1), some (.int ((y2 + (-1)))), some (.int ((y3 + 1))), some (.int v2)]) (S' := [.ref a, .int ((y3 + 1))]) (M' := gm g23) rfl ?_
                  refine g_getf rfl (ci := 4) (k := 0) rfl ha (gfv_l0 ha) ?_
                  refine g_run 1 (pc' := 162) (L' := [some (.ref a), some (.ref b1), some (.int ((y2 + (-1)))), some (.int ((y3 + 1))), some (.int v2)]) (S' := [.int ((y3 + 1)), .ref (a + 1), .int ((y3 + 1))]) (M' := gm g23) rfl ?_
                  replace h := zB_of h
                  obtain ⟨v26, g27, e28, h⟩ := h
                  refine g_inv2 (kd := 1) (p_X7_get (a + 1) (zK0_l ha).1 e28) rfl rfl rfl (by decide) rfl (g_recv (a := a + 1) rfl (Nat.le_of_ble_eq_true rfl) (Nat.le_of_ble_eq_true rfl) (Nat.le_of_ble_eq_true rfl) (Nat.le_of_ble_eq_true rfl) rfl (zK0_l ha).1 (Nat.le_of_ble_eq_true rfl)) rfl rfl (by omega) (pc' := 165) rfl (S' := [.int v26, .int ((y3 + 1))]) rfl ?_
                  refine g_run 2 (pc' := 167) (L' := [some (.ref a), some (.ref b1), some (.int ((y2 + (-1)))), some (.int ((y3 + 1))), some (.int v2)]) (S' := [.int ((v26 - 1)), .int ((y3 + 1))]) (M' := gm g27) rfl ?_
                  refine g_spec2 (kd := 0) rfl rfl rfl (by decide) rfl (jd := 1002) rfl (by decide) rfl (Or.inl (by decide)) (S' := [.int ((imax (y3 + 1) (v26 - 1)))]) (M' := gm g27) rfl rfl (pc' := 170) rfl ?_
                  refine g_run 2 (pc' := 211) (L' := [some (.ref a), some (.ref b1), some (.int ((y2 + (-1)))), some (.int ((imax (y3 + 1) (v26 - 1)))), some (.int v2)]) (S' := []) (M' := gm g27) rfl ?_
                  refine g_forget (L' := [some (.ref a), some (.ref b1), some (.int ((y2 + (-1)))), some (.int ((imax (y3 + 1) (v26 - 1)))), none]) (And.intro rfl (And.intro rfl (And.intro rfl (And.intro rfl True.intro)))) ?_
                  exact p_X4_worth_211 hD a b1 ha hb1 (f_X4_worth_4 a b1 n) ih (y2 + (-1)) (imax (y3 + 1) (v26 - 1)) g27 _ h
            · replace h := (if_neg c8).symm.trans h
              refine g_run 1 (pc' := 102) (L' := [some (.ref a), some (.ref b1), some (.int y2), some (.int y3), some (.int v2)]) (S' := [.ref a]) (M' := gm g3) rfl ?_
              refine g_getf rfl (ci := 4) (k := 1) rfl ha (gfv_l1 ha) ?_
              refine g_run 4 (pc' := 109) (L' := [some (.ref a), some (.ref b1), some (.int y2), some (.int y3), some (.int v2)]) (S' := [.ref a, .int ((y2 - 1)), .ref (a + 3)]) (M' := gm g3) rfl ?_
              refine g_getf rfl (ci := 4) (k := 1) rfl ha (gfv_l1 ha) ?_
              refine g_run 3 (pc' := 115) (L' := [some (.ref a), some (.ref b1), some (.int y2), some (.int y3), some (.int v2)]) (S' := [.int ((y2 - 1)), .ref (a + 3), .int ((y2 - 1)), .ref (a + 3)]) (M' := gm g3) rfl ?_
              replace h := zB_of h
              obtain ⟨v29, g30, e31, h⟩ := h
              refine g_inv2 (kd := 1) (p_X7_get (a + 3) (zK0_l ha).2 e31) rfl rfl rfl (by decide) rfl (g_recv (a := a + 3) rfl (Nat.le_of_ble_eq_true rfl) (Nat.le_of_ble_eq_true rfl) (Nat.le_of_ble_eq_true rfl) (Nat.le_of_ble_eq_true rfl) rfl (zK0_l ha).2 (Nat.le_of_ble_eq_true rfl)) rfl rfl (by omega) (pc' := 118) rfl (S' := [.int v29, .int ((y2 - 1)), .ref (a + 3)]) rfl ?_
              refine g_if (¬ v29 = 0) rfl (t := 125) rfl rfl (fun c32 => ?_) (fun c32 => ?_)
              · replace h := (if_pos c32).symm.trans h
                refine g_run 1 (pc' := 126) (L' := [some (.ref a), some (.ref b1), some (.int y2), some (.int y3), some (.int v2)]) (S' := [.int 0, .int ((y2 - 1)), .ref (a + 3)]) (M' := gm g30) rfl ?_
                refine g_forget (L' := [some (.ref a), some (.ref b1), some (.int y2), some (.int y3), none]) (And.intro rfl (And.intro rfl (And.intro rfl (And.intro rfl True.intro)))) ?_
                exact p_X4_worth_126 hD a b1 ha hb1 (f_X4_worth_4 a b1 n) ih (y2) (y3) (0) (y2 - 1) g30 _ h
              · replace h := (if_neg c32).symm.trans h
                refine g_run 2 (pc' := 126) (L' := [some (.ref a), some (.ref b1), some (.int y2), some (.int y3), some (.int v2)]) (S' := [.int 1, .int ((y2 - 1)), .ref (a + 3)]) (M' := gm g30) rfl ?_
                refine g_forget (L' := [some (.ref a), some (.ref b1), some (.int y2), some (.int y3), none]) (And.intro rfl (And.intro rfl (And.intro rfl (And.intro rfl True.intro)))) ?_
                exact p_X4_worth_126 hD a b1 ha hb1 (f_X4_worth_4 a b1 n) ih (y2) (y3) (1) (y2 - 1) g30 _ h
          · replace h := (if_neg c7).symm.trans h
            refine g_forget (L' := [some (.ref a), none, some (.int y2), none, none]) (And.intro rfl (And.intro rfl True.intro)) ?_
            exact p_X4_worth_83 hD a b1 ha hb1 (y2) g3 _ h
        · replace h := (if_neg c6).symm.trans h
          refine g_run 1 (pc' := 55) (L' := [some (.ref a), some (.ref b1), some (.int y2), some (.int y3), some (.int v2)]) (S' := [.ref a]) (M' := gm g3) rfl ?_
          refine g_getf rfl (ci := 4) (k := 1) rfl ha (gfv_l1 ha) ?_
          refine g_run 5 (pc' := 64) (L' := [some (.ref a), some (.ref b1), some (.int y2), some (.int y3), some (.int v2)]) (S' := [.int (((-1) - v2)), .ref b1, .int y2, .ref (a + 3)]) (M' := gm g3) rfl ?_
          replace h := zB_of h
          obtain ⟨v33, g34, e35, h⟩ := h
          refine g_inv2 (kd := 1) (p_X7_get b1 hb1 e35) rfl rfl rfl (by decide) rfl (g_recv (a := b1) rfl (Nat.le_of_ble_eq_true rfl) (Nat.le_of_ble_eq_true rfl) (Nat.le_of_ble_eq_true rfl) (Nat.le_of_ble_eq_true rfl) rfl hb1 (Nat.le_of_ble_eq_true rfl)) rfl rfl (by omega) (pc' := 67) rfl (S' := [.int v33, .int y2, .ref (a + 3)]) rfl ?_
          replace h := zB_of h
          obtain ⟨v36, g37, e38, h⟩ := h
          refine g_inv2 (kd := 1) (p_X7_set (a + 3) (zK0_l ha).2 e38) rfl rfl rfl (by decide) rfl (g_recv (a := a + 3) rfl (Nat.le_of_ble_eq_true rfl) (Nat.le_of_ble_eq_true rfl) (Nat.le_of_ble_eq_true rfl) (Nat.le_of_ble_eq_true rfl) rfl (zK0_l ha).2 (Nat.le_of_ble_eq_true rfl)) rfl rfl (by omega) (pc' := 70) rfl (S' := []) rfl ?_
          refine g_run 2 (pc' := 211) (L' := [some (.ref a), some (.ref b1), some (.int ((y2 + 1))), some (.int y3), some (.int v2)]) (S' := []) (M' := gm g37) rfl ?_
          refine g_forget (L' := [some (.ref a), some (.ref b1), some (.int ((y2 + 1))), some (.int y3), none]) (And.intro rfl (And.intro rfl (And.intro rfl (And.intro rfl True.intro)))) ?_
          exact p_X4_worth_211 hD a b1 ha hb1 (f_X4_worth_4 a b1 n) ih (y2 + 1) (y3) g37 _ h
      · replace h := (if_neg c5).symm.trans h
        refine g_run 1 (pc' := 28) (L' := [some (.ref a), some (.ref b1), some (.int y2), some (.int y3), some (.int v2)]) (S' := [.ref a]) (M' := gm g3) rfl ?_
        refine g_getf rfl (ci := 4) (k := 1) rfl ha (gfv_l1 ha) ?_
        refine g_run 2 (pc' := 34) (L' := [some (.ref a), some (.ref b1), some (.int y2), some (.int y3), some (.int v2)]) (S' := [.int v2, .int y2, .ref (a + 3)]) (M' := gm g3) rfl ?_
        replace h := zB_of h
        obtain ⟨v39, g40, e41, h⟩ := h
        refine g_inv2 (kd := 1) (p_X7_set (a + 3) (zK0_l ha).2 e41) rfl rfl rfl (by decide) rfl (g_recv (a := a + 3) rfl (Nat.le_of_ble_eq_true rfl) (Nat.le_of_ble_eq_true rfl) (Nat.le_of_ble_eq_true rfl) (Nat.le_of_ble_eq_true rfl) rfl (zK0_l ha).2 (Nat.le_of_ble_eq_true rfl)) rfl rfl (by omega) (pc' := 37) rfl (S' := []) rfl ?_
        refine g_run 2 (pc' := 211) (L' := [some (.ref a), some (.ref b1), some (.int ((y2 + 1))), some (.int y3), some (.int v2)]) (S' := []) (M' := gm g40) rfl ?_
        refine g_forget (L' := [some (.ref a), some (.ref b1), some (.int ((y2 + 1))), some (.int y3), none]) (And.intro rfl (And.intro rfl (And.intro rfl (And.intro rfl True.intro)))) ?_
        exact p_X4_worth_211 hD a b1 ha hb1 (f_X4_worth_4 a b1 n) ih (y2 + 1) (y3) g40 _ h
def f_X4_worth (a : Nat) (b1 : Nat) (g : zSg) : Option (Int32 × zSg) := f_X4_worth_4 a b1 zFu (0) (0) g
set_option maxRecDepth 100000 in
set_option maxHeartbeats 4000000 in
theorem p_X4_worth {sc : zSc} {hp : zHp} (a : Nat) (b1 : Nat) (ha : (zK0 a).1 = 4) (hb1 : (zK0 b1).1 = 7) {g : zSg} {r : Int32 × zSg} (h : f_X4_worth a b1 g = some r) : zRn sc hp 17 zM_X4_worth [.ref a, .ref b1] (gm g) (some (.int r.1)) (gm r.2) := by
  intro d hD
  obtain ⟨d, rfl⟩ : ∃ d', d = d' + 1 := ⟨d - 1, by omega⟩
  show zG _ sc hp (zcd zM_X4_worth) 0 [some (.ref a), some (.ref b1), none, none, none] [] (gm g) _
  unfold f_X4_worth at h
  refine g_run 4 (pc' := 4) (L' := [some (.ref a), some (.ref b1), some (.int 0), some (.int 0), none]) (S' := []) (M' := gm g) rfl ?_
  exact p_X4_worth_4 hD a b1 ha hb1 zFu (0) (0) g _ h
def f_X10_strengthAt_132 (b1 : Nat) (y6 : Int32) (g : zSg) : Option (Int32 × zSg) := some ((imax 0 (imin 9 y6)), g)
set_option maxRecDepth 100000 in
set_option maxHeartbeats 4000000 in
theorem p_X10_strengthAt_132 {sc : zSc} {hp : zHp} {d : Nat} (hD : 18 ≤ d) (b1 : Nat) (hb1 : (zK0 b1).1 = 8) (y6 : Int32) (g : zSg) (r : Int32 × zSg) (h : f_X10_strengthAt_132 b1 y6 g = some r) : zG d sc hp (zcd zM_X10_strengthAt) 132 [none, none, none, none, none, none, some (.int y6)] [] (gm g) ((some (.int r.1)), gm r.2) := by
  obtain ⟨d, rfl⟩ : ∃ d', d = d' + 1 := ⟨d - 1, by omega⟩
  unfold f_X10_strengthAt_132 at h
  refine g_run 3 (pc' := 137) (L' := [none, none, none, none, none, none, some (.int y6)]) (S' := [.int y6, .int 9, .int 0]) (M' := gm g) rfl ?_
  refine g_spec2 (kd := 0) rfl rfl rfl (by decide) rfl (jd := 1001) rfl (by decide) rfl (Or.inl (by decide)) (S' := [.int ((imin 9 y6)), .int 0]) (M' := gm g) rfl rfl (pc' := 140) rfl ?_
  refine g_spec2 (kd := 0) rfl rfl rfl (by decide) rfl (jd := 1002) rfl (by decide) rfl (Or.inl (by decide)) (S' := [.int ((imax 0 (imin 9 y6)))]) (M' := gm g) rfl rfl (pc' := 143) rfl ?_
  cases h
  exact g_ret rfl rfl rfl rfl
def f_X10_strengthAt (b1 : Nat) (x2 : Int32) (x3 : Int32) (x4 : Int32) (g : zSg) : Option (Int32 × zSg) := (zB (f_X0_shed 3 x2 g) (fun v1 g2 => (zB (f_X0_away 3 v1 x3 (gI g2 (b1) 6) g2) (fun v4 g5 => (if ¬ v4 = (-1) then (zNu g5.2.2.2 (f_X10_strengthAt_132 b1 (x4 - v4) g5) (fun a8 => if (zK0 a8).1 = 4 then (zB (f_X7_set 424 0 x4 g5) (fun v11 g12 => (zB (f_X7_set 424 1 v4 g12) (fun v14 g15 => (zB (f_X7_get (b1 + 3) x2 g15) (fun v17 g18 => (zB (f_X7_set 424 2 v17 g18) (fun v20 g21 => (zB (f_X7_set 424 3 (gI g21 (b1) 6) g21) (fun v23 g24 => (zB (f_X7_set 424 4 (imod (gI g24 (b1) 9) 100) g24) (fun v26 g27 => (zB (f_X7_set 424 5 (gI g27 (b1) 7) g27) (fun v29 g30 => (zO g30.2.2.2 4 (fun a32 => (zB (f_X4_worth a32 424 g30) (fun v35 g36 => f_X10_strengthAt_132 b1 (v35) g36)))))))))))))))))) else none)) else some (0, g5))))))
set_option maxRecDepth 100000 in
set_option maxHeartbeats 4000000 in
theorem p_X10_strengthAt {sc : zSc} {hp : zHp} (b1 : Nat) (hb1 : (zK0 b1).1 = 8) {x2 : Int32} {x3 : Int32} {x4 : Int32} {g : zSg} {r : Int32 × zSg} (h : f_X10_strengthAt b1 x2 x3 x4 g = some r) : zRn sc hp 18 zM_X10_strengthAt [.ref 423, .ref b1, .int x2, .int x3, .int x4] (gm g) (some (.int r.1)) (gm r.2) := by
  intro d hD
  obtain ⟨d, rfl⟩ : ∃ d', d = d' + 1 := ⟨d - 1, by omega⟩
  show zG _ sc hp (zcd zM_X10_strengthAt) 0 [some (.ref 423), some (.ref b1), some (.int x2), some (.int x3), some (.int x4), none, none] [] (gm g) _
  unfold f_X10_strengthAt at h
  refine g_run 5 (pc' := 9) (L' := [some (.ref 423), some (.ref b1), some (.int x2), some (.int x3), some (.int x4), none, none]) (S' := [.int x2, .ref 3, .ref 3]) (M' := gm g) rfl ?_
  replace h := zB_of h
  obtain ⟨v1, g2, e3, h⟩ := h
  refine g_inv2 (kd := 1) (p_X0_shed 3 rfl e3) rfl rfl rfl (by decide) rfl rfl rfl rfl (by omega) (pc' := 12) rfl (S' := [.int v1, .ref 3]) rfl ?_
  refine g_run 2 (pc' := 14) (L' := [some (.ref 423), some (.ref b1), some (.int x2), some (.int x3), some (.int x4), none, none]) (S' := [.ref b1, .int x3, .int v1, .ref 3]) (M' := gm g2) rfl ?_
  refine g_getf rfl (ci := 8) (k := 6) rfl hb1 rfl ?_
  replace h := zB_of h
  obtain ⟨v4, g5, e6, h⟩ := h
  refine g_inv2 (kd := 1) (p_X0_away 3 rfl e6) rfl rfl rfl (by decide) rfl rfl rfl rfl (by omega) (pc' := 20) rfl (S' := [.int v4]) rfl ?_
  refine g_run 3 (pc' := 25) (L' := [some (.ref 423), some (.ref b1), some (.int x2), some (.int x3), some (.int x4), some (.int v4), none]) (S' := [.int (-1), .int v4]) (M' := gm g5) rfl ?_
  refine g_icmp (¬ v4 = (-1)) rfl (t := 30) rfl rfl (fun c7 => ?_) (fun c7 => ?_)
  · replace h := (if_pos c7).symm.trans h
    refine g_run 6 (pc' := 41) (L' := [some (.ref 423), some (.ref b1), some (.int x2), some (.int x3), some (.int x4), some (.int v4), some (.int ((x4 - v4)))]) (S' := [zrv (g5.2.2.2)]) (M' := gm g5) rfl ?_
    rcases q9 : g5.2.2.2 with _ | a8
    · try rw [q9] at h
      try rw [q9]
      replace h := zNu_n h
      show zG _ _ _ _ 41 [some (.ref 423), some (.ref b1), some (.int x2), some (.int x3), some (.int x4), some (.int v4), some (.int ((x4 - v4)))] [.null] (gm g5) _
      refine g_run 1 (pc' := 132) (L' := [some (.ref 423), some (.ref b1), some (.int x2), some (.int x3), some (.int x4), some (.int v4), some (.int ((x4 - v4)))]) (S' := []) (M' := gm g5) rfl ?_
      refine g_forget (L' := [none, none, none, none, none, none, some (.int ((x4 - v4)))]) (And.intro rfl True.intro) ?_
      exact p_X10_strengthAt_132 hD b1 hb1 (x4 - v4) g5 _ h
    · try rw [q9] at h
      try rw [q9]
      replace h := zNu_s h
      by_cases h10 : (zK0 a8).1 = 4
      case neg => exact nomatch ((if_neg h10).symm.trans h)
      replace h := (if_pos h10).symm.trans h
      show zG _ _ _ _ 41 [some (.ref 423), some (.ref b1), some (.int x2), some (.int x3), some (.int x4), some (.int v4), some (.int ((x4 - v4)))] [.ref a8] (gm g5) _
      refine g_run 1 (pc' := 44) (L' := [some (.ref 423), some (.ref b1), some (.int x2), some (.int x3), some (.int x4), some (.int v4), some (.int ((x4 - v4)))]) (S' := []) (M' := gm g5) rfl ?_
      refine g_run 4 (pc' := 51) (L' := [some (.ref 423), some (.ref b1), some (.int x2), some (.int x3), some (.int x4), some (.int v4), some (.int ((x4 - v4)))]) (S' := [.int x4, .int 0, .ref 424]) (M' := gm g5) rfl ?_
      replace h := zB_of h
      obtain ⟨v11, g12, e13, h⟩ := h
      refine g_inv2 (kd := 1) (p_X7_set 424 rfl e13) rfl rfl rfl (by decide) rfl rfl rfl rfl (by omega) (pc' := 54) rfl (S' := []) rfl ?_
      refine g_run 4 (pc' := 61) (L' := [some (.ref 423), some (.ref b1), some (.int x2), some (.int x3), some (.int x4), some (.int v4), some (.int ((x4 - v4)))]) (S' := [.int v4, .int 1, .ref 424]) (M' := gm g12) rfl ?_
      replace h := zB_of h
      obtain ⟨v14, g15, e16, h⟩ := h
      refine g_inv2 (kd := 1) (p_X7_set 424 rfl e16) rfl rfl rfl (by decide) rfl rfl rfl rfl (by omega) (pc' := 64) rfl (S' := []) rfl ?_
      refine g_run 4 (pc' := 70) (L' := [some (.ref 423), some (.ref b1), some (.int x2), some (.int x3), some (.int x4), some (.int v4), some (.int ((x4 - v4)))]) (S' := [.ref b1, .int 2, .ref 424]) (M' := gm g15) rfl ?_
      refine g_getf rfl (ci := 8) (k := 1) rfl hb1 (gfv_s1 hb1) ?_
      refine g_run 1 (pc' := 74) (L' := [some (.ref 423), some (.ref b1), some (.int x2), some (.int x3), some (.int x4), some (.int v4), some (.int ((x4 - v4)))]) (S' := [.int x2, .ref (b1 + 3), .int 2, .ref 424]) (M' := gm g15) rfl ?_
      replace h := zB_of h
      obtain ⟨v17, g18, e19, h⟩ := h
      refine g_inv2 (kd := 1) (p_X7_get (b1 + 3) (zK0_s hb1).2.1 e19) rfl rfl rfl (by decide) rfl (g_recv (a := b1 + 3) rfl (Nat.le_of_ble_eq_true rfl) (Nat.le_of_ble_eq_true rfl) (Nat.le_of_ble_eq_true rfl) (Nat.le_of_ble_eq_true rfl) rfl (zK0_s hb1).2.1 (Nat.le_of_ble_eq_true rfl)) rfl rfl (by omega) (pc' := 77) rfl (S' := [.int v17, .int 2, .ref 424]) rfl ?_
      replace h := zB_of h
      obtain ⟨v20, g21, e22, h⟩ := h
      refine g_inv2 (kd := 1) (p_X7_set 424 rfl e22) rfl rfl rfl (by decide) rfl rfl rfl rfl (by omega) (pc' := 80) rfl (S' := []) rfl ?_
      refine g_run 4 (pc' := 86) (L' := [some (.ref 423), some (.ref b1), some (.int x2), some (.int x3), some (.int x4), some (.int v4), some (.int ((x4 - v4)))]) (S' := [.ref b1, .int 3, .ref 424]) (M' := gm g21) rfl ?_
      refine g_getf rfl (ci := 8) (k := 6) rfl hb1 rfl ?_
      replace h := zB_of h
      obtain ⟨v23, g24, e25, h⟩ := h
      refine g_inv2 (kd := 1) (p_X7_set 424 rfl e25) rfl rfl rfl (by decide) rfl rfl rfl rfl (by omega) (pc' := 92) rfl (S' := []) rfl ?_
      refine g_run 4 (pc' := 98) (L' := [some (.ref 423), some (.ref b1), some (.int x2), some (.int x3), some (.int x4), some (.int v4), some (.int ((x4 - v4)))]) (S' := [.ref b1, .int 4, .ref 424]) (M' := gm g24) rfl ?_
      refine g_getf rfl (ci := 8) (k := 9) rfl hb1 rfl ?_
      refine g_run 2 (pc' := 104) (L' := [some (.ref 423), some (.ref b1), some (.int x2), some (.int x3), some (.int x4), some (.int v4), some (.int ((x4 - v4)))]) (S' := [.int ((imod (gI g24 (b1) 9) 100)), .int 4, .ref 424]) (M' := gm g24) rfl ?_
      replace h := zB_of h
      obtain ⟨v26, g27, e28, h⟩ := h
      refine g_inv2 (kd := 1) (p_X7_set 424 rfl e28) rfl rfl rfl (by decide) rfl rfl rfl rfl (by omega) (pc' := 107) rfl (S' := []) rfl ?_
      refine g_run 4 (pc' := 113) (L' := [some (.ref 423), some (.ref b1), some (.int x2), some (.int x3), some (.int x4), some (.int v4), some (.int ((x4 - v4)))]) (S' := [.ref b1, .int 5, .ref 424]) (M' := gm g27) rfl ?_
      refine g_getf rfl (ci := 8) (k := 7) rfl hb1 rfl ?_
      replace h := zB_of h
      obtain ⟨v29, g30, e31, h⟩ := h
      refine g_inv2 (kd := 1) (p_X7_set 424 rfl e31) rfl rfl rfl (by decide) rfl rfl rfl rfl (by omega) (pc' := 119) rfl (S' := []) rfl ?_
      refine g_run 4 (pc' := 127) (L' := [some (.ref 423), some (.ref b1), some (.int x2), some (.int x3), some (.int x4), some (.int v4), some (.int ((x4 - v4)))]) (S' := [.ref 424, zrv (g30.2.2.2)]) (M' := gm g30) rfl ?_
      replace h := zO_of h
      obtain ⟨a32, q33, h34, h⟩ := h
      try rw [q33]
      show zG _ _ _ _ 127 [some (.ref 423), some (.ref b1), some (.int x2), some (.int x3), some (.int x4), some (.int v4), some (.int ((x4 - v4)))] [.ref 424, .ref a32] (gm g30) _
      replace h := zB_of h
      obtain ⟨v35, g36, e37, h⟩ := h
      refine g_inv2 (kd := 1) (p_X4_worth a32 424 h34 rfl e37) rfl rfl rfl (by decide) rfl (g_recv (a := a32) rfl (Nat.le_of_ble_eq_true rfl) (Nat.le_of_ble_eq_true rfl) (Nat.le_of_ble_eq_true rfl) (Nat.le_of_ble_eq_true rfl) rfl h34 (Nat.le_of_ble_eq_true rfl)) rfl rfl (by omega) (pc' := 130) rfl (S' := [.int v35]) rfl ?_
      refine g_run 1 (pc' := 132) (L' := [some (.ref 423), some (.ref b1), some (.int x2), some (.int x3), some (.int x4), some (.int v4), some (.int v35)]) (S' := []) (M' := gm g36) rfl ?_
      refine g_forget (L' := [none, none, none, none, none, none, some (.int v35)]) (And.intro rfl True.intro) ?_
      exact p_X10_strengthAt_132 hD b1 hb1 (v35) g36 _ h
  · replace h := (if_neg c7).symm.trans h
    refine g_run 1 (pc' := 29) (L' := [some (.ref 423), some (.ref b1), some (.int x2), some (.int x3), some (.int x4), some (.int v4), none]) (S' := [.int 0]) (M' := gm g5) rfl ?_
    cases h
    exact g_ret rfl rfl rfl rfl
def f_X2_smellsAsTold (x1 : Int32) (x2 : Int32) (x3 : Int32) (g : zSg) : Option (Int32 × zSg) := (zB (f_X10_strengthAt 507 x1 x2 x3 g) (fun v1 g2 => (if v1 ≤ 0 then some (0, g2) else some (1, g2))))
set_option maxRecDepth 100000 in
set_option maxHeartbeats 4000000 in
theorem p_X2_smellsAsTold {sc : zSc} {hp : zHp} {x1 : Int32} {x2 : Int32} {x3 : Int32} {g : zSg} {r : Int32 × zSg} (h : f_X2_smellsAsTold x1 x2 x3 g = some r) : zRn sc hp 19 zM_X2_smellsAsTold [.ref 506, .int x1, .int x2, .int x3] (gm g) (some (.int r.1)) (gm r.2) := by
  intro d hD
  obtain ⟨d, rfl⟩ : ∃ d', d = d' + 1 := ⟨d - 1, by omega⟩
  show zG _ sc hp (zcd zM_X2_smellsAsTold) 0 [some (.ref 506), some (.int x1), some (.int x2), some (.int x3)] [] (gm g) _
  unfold f_X2_smellsAsTold at h
  refine g_run 7 (pc' := 11) (L' := [some (.ref 506), some (.int x1), some (.int x2), some (.int x3)]) (S' := [.int x3, .int x2, .int x1, .ref 507, .ref 423]) (M' := gm g) rfl ?_
  replace h := zB_of h
  obtain ⟨v1, g2, e3, h⟩ := h
  refine g_inv2 (kd := 1) (p_X10_strengthAt 507 rfl e3) rfl rfl rfl (by decide) rfl rfl rfl rfl (by omega) (pc' := 14) rfl (S' := [.int v1]) rfl ?_
  refine g_if (v1 ≤ 0) rfl (t := 21) rfl rfl (fun c4 => ?_) (fun c4 => ?_)
  · replace h := (if_pos c4).symm.trans h
    refine g_run 1 (pc' := 22) (L' := [some (.ref 506), some (.int x1), some (.int x2), some (.int x3)]) (S' := [.int 0]) (M' := gm g2) rfl ?_
    cases h
    exact g_ret rfl rfl rfl rfl
  · replace h := (if_neg c4).symm.trans h
    refine g_run 2 (pc' := 22) (L' := [some (.ref 506), some (.int x1), some (.int x2), some (.int x3)]) (S' := [.int 1]) (M' := gm g2) rfl ?_
    cases h
    exact g_ret rfl rfl rfl rfl
def f_X2_fits_57 (k2 : Int32 → Int32 → Int32 → zSg → Option (Int32 × zSg)) (y1 : Int32) (y2 : Int32) (y3 : Int32) (g : zSg) : Option (Int32 × zSg) := k2 (y1) (y2) (y3 + 1) g
set_option maxRecDepth 100000 in
set_option maxHeartbeats 4000000 in
theorem p_X2_fits_57 {sc : zSc} {hp : zHp} {d : Nat} (hD : 20 ≤ d) (k2 : Int32 → Int32 → Int32 → zSg → Option (Int32 × zSg)) (hk2 : ∀ (y1 : Int32) (y2 : Int32) (y3 : Int32) (g : zSg) (r : Int32 × zSg), k2 y1 y2 y3 g = some r → zG d sc hp (zcd zM_X2_fits) 2 [some (.ref 506), some (.int y1), some (.int y2), some (.int y3)] [] (gm g) ((some (.int r.1)), gm r.2)) (y1 : Int32) (y2 : Int32) (y3 : Int32) (g : zSg) (r : Int32 × zSg) (h : f_X2_fits_57 k2 y1 y2 y3 g = some r) : zG d sc hp (zcd zM_X2_fits) 57 [some (.ref 506), some (.int y1), some (.int y2), some (.int y3)] [] (gm g) ((some (.int r.1)), gm r.2) := by
  obtain ⟨d, rfl⟩ : ∃ d', d = d' + 1 := ⟨d - 1, by omega⟩
  unfold f_X2_fits_57 at h
  refine g_run 2 (pc' := 2) (L' := [some (.ref 506), some (.int y1), some (.int y2), some (.int ((y3 + 1)))]) (S' := []) (M' := gm g) rfl ?_
  exact hk2 (y1) (y2) (y3 + 1) g _ h
def f_X2_fits_52 (k2 : Int32 → Int32 → Int32 → zSg → Option (Int32 × zSg)) (y1 : Int32) (y2 : Int32) (y3 : Int32) (s0 : Int32) (s1 : Int32) (g : zSg) : Option (Int32 × zSg) := (if s1 = s0 then f_X2_fits_57 k2 (y1) (y2) (y3) g else some (0, g))
set_option maxRecDepth 100000 in
set_option maxHeartbeats 4000000 in
theorem p_X2_fits_52 {sc : zSc} {hp : zHp} {d : Nat} (hD : 20 ≤ d) (k2 : Int32 → Int32 → Int32 → zSg → Option (Int32 × zSg)) (hk2 : ∀ (y1 : Int32) (y2 : Int32) (y3 : Int32) (g : zSg) (r : Int32 × zSg), k2 y1 y2 y3 g = some r → zG d sc hp (zcd zM_X2_fits) 2 [some (.ref 506), some (.int y1), some (.int y2), some (.int y3)] [] (gm g) ((some (.int r.1)), gm r.2)) (y1 : Int32) (y2 : Int32) (y3 : Int32) (s0 : Int32) (s1 : Int32) (g : zSg) (r : Int32 × zSg) (h : f_X2_fits_52 k2 y1 y2 y3 s0 s1 g = some r) : zG d sc hp (zcd zM_X2_fits) 52 [some (.ref 506), some (.int y1), some (.int y2), some (.int y3)] [.int s0, .int s1] (gm g) ((some (.int r.1)), gm r.2) := by
  obtain ⟨d, rfl⟩ : ∃ d', d = d' + 1 := ⟨d - 1, by omega⟩
  unfold f_X2_fits_52 at h
  refine g_icmp (s1 = s0) rfl (t := 57) rfl rfl (fun c1 => ?_) (fun c1 => ?_)
  · replace h := (if_pos c1).symm.trans h
    exact p_X2_fits_57 hD k2 hk2 (y1) (y2) (y3) g _ h
  · replace h := (if_neg c1).symm.trans h
    refine g_run 1 (pc' := 56) (L' := [some (.ref 506), some (.int y1), some (.int y2), some (.int y3)]) (S' := [.int 0]) (M' := gm g) rfl ?_
    cases h
    exact g_ret rfl rfl rfl rfl
def fb_X2_fits_2 (kk : Int32 → Int32 → Int32 → zSg → Option (Int32 × zSg)) (y1 : Int32) (y2 : Int32) (y3 : Int32) (g : zSg) : Option (Int32 × zSg) := (if (gI g 506 8) ≤ y3 then some (1, g) else (zB (f_X7_get 516 y3 g) (fun v2 g3 => (if ¬ v2 = y1 then f_X2_fits_57 kk (y1) (y2) (y3) g3 else (zB (f_X7_get 518 y3 g3) (fun v6 g7 => (zB (f_X2_smellsAsTold y1 v6 y2 g7) (fun v9 g10 => (zB (f_X7_get 520 y3 g10) (fun v12 g13 => (if v12 = 0 then f_X2_fits_52 kk (y1) (y2) (y3) (0) (v9) g13 else f_X2_fits_52 kk (y1) (y2) (y3) (1) (v9) g13)))))))))))
def f_X2_fits_2 : Nat → Int32 → Int32 → Int32 → zSg → Option (Int32 × zSg)
  | 0, _, _, _, _ => none
  | n + 1, y1, y2, y3, g => fb_X2_fits_2 (f_X2_fits_2 n) y1 y2 y3 g
set_option maxRecDepth 100000 in
set_option maxHeartbeats 4000000 in
theorem p_X2_fits_2 {sc : zSc} {hp : zHp} {d : Nat} (hD : 20 ≤ d) : ∀ (n : Nat) (y1 : Int32) (y2 : Int32) (y3 : Int32) (g : zSg) (r : Int32 × zSg), f_X2_fits_2 n y1 y2 y3 g = some r → zG d sc hp (zcd zM_X2_fits) 2 [some (.ref 506), some (.int y1), some (.int y2), some (.int y3)] [] (gm g) ((some (.int r.1)), gm r.2) := by
  obtain ⟨d, rfl⟩ : ∃ d', d = d' + 1 := ⟨d - 1, by omega⟩
  intro n
  induction n with
  | zero => intro y1 y2 y3 g r h; cases h
  | succ n ih =>
    intro y1 y2 y3 g r h
    replace h : fb_X2_fits_2 (f_X2_fits_2 n) y1 y2 y3 g = some r := h
    unfold fb_X2_fits_2 at h
    refine g_run 3 (pc' := 7) (L' := [some (.ref 506), some (.int y1), some (.int y2), some (.int y3)]) (S' := [.int ((gI g 506 8)), .int y3]) (M' := gm g) rfl ?_
    refine g_icmp ((gI g 506 8) ≤ y3) rfl (t := 63) rfl rfl (fun c1 => ?_) (fun c1 => ?_)
    · replace h := (if_pos c1).symm.trans h
      refine g_run 1 (pc' := 64) (L' := [some (.ref 506), some (.int y1), some (.int y2), some (.int y3)]) (S' := [.int 1]) (M' := gm g) rfl ?_
      cases h
      exact g_ret rfl rfl rfl rfl
    · replace h := (if_neg c1).symm.trans h
      refine g_run 3 (pc' := 15) (L' := [some (.ref 506), some (.int y1), some (.int y2), some (.int y3)]) (S' := [.int y3, .ref 516]) (M' := gm g) rfl ?_
      replace h := zB_of h
      obtain ⟨v2, g3, e4, h⟩ := h
      refine g_inv2 (kd := 1) (p_X7_get 516 rfl e4) rfl rfl rfl (by decide) rfl rfl rfl rfl (by omega) (pc' := 18) rfl (S' := [.int v2]) rfl ?_
      refine g_run 1 (pc' := 19) (L' := [some (.ref 506), some (.int y1), some (.int y2), some (.int y3)]) (S' := [.int y1, .int v2]) (M' := gm g3) rfl ?_
      refine g_icmp (¬ v2 = y1) rfl (t := 57) rfl rfl (fun c5 => ?_) (fun c5 => ?_)
      · replace h := (if_pos c5).symm.trans h
        exact p_X2_fits_57 hD (f_X2_fits_2 n) ih (y1) (y2) (y3) g3 _ h
      · replace h := (if_neg c5).symm.trans h
        refine g_run 5 (pc' := 29) (L' := [some (.ref 506), some (.int y1), some (.int y2), some (.int y3)]) (S' := [.int y3, .ref 518, .int y1, .ref 506]) (M' := gm g3) rfl ?_
        replace h := zB_of h
        obtain ⟨v6, g7, e8, h⟩ := h
        refine g_inv2 (kd := 1) (p_X7_get 518 rfl e8) rfl rfl rfl (by decide) rfl rfl rfl rfl (by omega) (pc' := 32) rfl (S' := [.int v6, .int y1, .ref 506]) rfl ?_
        refine g_run 1 (pc' := 33) (L' := [some (.ref 506), some (.int y1), some (.int y2), some (.int y3)]) (S' := [.int y2, .int v6, .int y1, .ref 506]) (M' := gm g7) rfl ?_
        replace h := zB_of h
        obtain ⟨v9, g10, e11, h⟩ := h
        refine g_inv2 (kd := 1) (p_X2_smellsAsTold  e11) rfl rfl rfl (by decide) rfl rfl rfl rfl (by omega) (pc' := 36) rfl (S' := [.int v9]) rfl ?_
        refine g_run 3 (pc' := 41) (L' := [some (.ref 506), some (.int y1), some (.int y2), some (.int y3)]) (S' := [.int y3, .ref 520, .int v9]) (M' := gm g10) rfl ?_
        replace h := zB_of h
        obtain ⟨v12, g13, e14, h⟩ := h
        refine g_inv2 (kd := 1) (p_X7_get 520 rfl e14) rfl rfl rfl (by decide) rfl rfl rfl rfl (by omega) (pc' := 44) rfl (S' := [.int v12, .int v9]) rfl ?_
        refine g_if (v12 = 0) rfl (t := 51) rfl rfl (fun c15 => ?_) (fun c15 => ?_)
        · replace h := (if_pos c15).symm.trans h
          refine g_run 1 (pc' := 52) (L' := [some (.ref 506), some (.int y1), some (.int y2), some (.int y3)]) (S' := [.int 0, .int v9]) (M' := gm g13) rfl ?_
          exact p_X2_fits_52 hD (f_X2_fits_2 n) ih (y1) (y2) (y3) (0) (v9) g13 _ h
        · replace h := (if_neg c15).symm.trans h
          refine g_run 2 (pc' := 52) (L' := [some (.ref 506), some (.int y1), some (.int y2), some (.int y3)]) (S' := [.int 1, .int v9]) (M' := gm g13) rfl ?_
          exact p_X2_fits_52 hD (f_X2_fits_2 n) ih (y1) (y2) (y3) (1) (v9) g13 _ h
def f_X2_fits (x1 : Int32) (x2 : Int32) (g : zSg) : Option (Int32 × zSg) := f_X2_fits_2 zFu (x1) (x2) (0) g
set_option maxRecDepth 100000 in
set_option maxHeartbeats 4000000 in
theorem p_X2_fits {sc : zSc} {hp : zHp} {x1 : Int32} {x2 : Int32} {g : zSg} {r : Int32 × zSg} (h : f_X2_fits x1 x2 g = some r) : zRn sc hp 20 zM_X2_fits [.ref 506, .int x1, .int x2] (gm g) (some (.int r.1)) (gm r.2) := by
  intro d hD
  obtain ⟨d, rfl⟩ : ∃ d', d = d' + 1 := ⟨d - 1, by omega⟩
  show zG _ sc hp (zcd zM_X2_fits) 0 [some (.ref 506), some (.int x1), some (.int x2), none] [] (gm g) _
  unfold f_X2_fits at h
  refine g_run 2 (pc' := 2) (L' := [some (.ref 506), some (.int x1), some (.int x2), some (.int 0)]) (S' := []) (M' := gm g) rfl ?_
  exact p_X2_fits_2 hD zFu (x1) (x2) (0) g _ h
def f_X2_fitting_25 (k4 : Int32 → Int32 → Int32 → zSg → Option (Int32 × zSg)) (y1 : Int32) (y2 : Int32) (y3 : Int32) (g : zSg) : Option (Int32 × zSg) := k4 (y1) (y2) (y3 + 1) g
set_option maxRecDepth 100000 in
set_option maxHeartbeats 4000000 in
theorem p_X2_fitting_25 {sc : zSc} {hp : zHp} {d : Nat} (hD : 21 ≤ d) (k4 : Int32 → Int32 → Int32 → zSg → Option (Int32 × zSg)) (hk4 : ∀ (y1 : Int32) (y2 : Int32) (y3 : Int32) (g : zSg) (r : Int32 × zSg), k4 y1 y2 y3 g = some r → zG d sc hp (zcd zM_X2_fitting) 4 [some (.ref 506), some (.int y1), some (.int y2), some (.int y3)] [] (gm g) ((some (.int r.1)), gm r.2)) (y1 : Int32) (y2 : Int32) (y3 : Int32) (g : zSg) (r : Int32 × zSg) (h : f_X2_fitting_25 k4 y1 y2 y3 g = some r) : zG d sc hp (zcd zM_X2_fitting) 25 [some (.ref 506), some (.int y1), some (.int y2), some (.int y3)] [] (gm g) ((some (.int r.1)), gm r.2) := by
  obtain ⟨d, rfl⟩ : ∃ d', d = d' + 1 := ⟨d - 1, by omega⟩
  unfold f_X2_fitting_25 at h
  refine g_run 2 (pc' := 4) (L' := [some (.ref 506), some (.int y1), some (.int y2), some (.int ((y3 + 1)))]) (S' := []) (M' := gm g) rfl ?_
  exact hk4 (y1) (y2) (y3 + 1) g _ h
def fb_X2_fitting_4 (kk : Int32 → Int32 → Int32 → zSg → Option (Int32 × zSg)) (y1 : Int32) (y2 : Int32) (y3 : Int32) (g : zSg) : Option (Int32 × zSg) := (if 9 < y3 then some (y2, g) else (zB (f_X2_fits y1 y3 g) (fun v2 g3 => (if v2 = 0 then f_X2_fitting_25 kk (y1) (y2) (y3) g3 else f_X2_fitting_25 kk (y1) (y2 ||| (1 <<< (y3 &&& 31))) (y3) g3))))
def f_X2_fitting_4 : Nat → Int32 → Int32 → Int32 → zSg → Option (Int32 × zSg)
  | 0, _, _, _, _ => none
  | n + 1, y1, y2, y3, g => fb_X2_fitting_4 (f_X2_fitting_4 n) y1 y2 y3 g
set_option maxRecDepth 100000 in
set_option maxHeartbeats 4000000 in
theorem p_X2_fitting_4 {sc : zSc} {hp : zHp} {d : Nat} (hD : 21 ≤ d) : ∀ (n : Nat) (y1 : Int32) (y2 : Int32) (y3 : Int32) (g : zSg) (r : Int32 × zSg), f_X2_fitting_4 n y1 y2 y3 g = some r → zG d sc hp (zcd zM_X2_fitting) 4 [some (.ref 506), some (.int y1), some (.int y2), some (.int y3)] [] (gm g) ((some (.int r.1)), gm r.2) := by
  obtain ⟨d, rfl⟩ : ∃ d', d = d' + 1 := ⟨d - 1, by omega⟩
  intro n
  induction n with
  | zero => intro y1 y2 y3 g r h; cases h
  | succ n ih =>
    intro y1 y2 y3 g r h
    replace h : fb_X2_fitting_4 (f_X2_fitting_4 n) y1 y2 y3 g = some r := h
    unfold fb_X2_fitting_4 at h
    refine g_run 2 (pc' := 7) (L' := [some (.ref 506), some (.int y1), some (.int y2), some (.int y3)]) (S' := [.int 9, .int y3]) (M' := gm g) rfl ?_
    refine g_icmp (9 < y3) rfl (t := 31) rfl rfl (fun c1 => ?_) (fun c1 => ?_)
    · replace h := (if_pos c1).symm.trans h
      refine g_run 1 (pc' := 32) (L' := [some (.ref 506), some (.int y1), some (.int y2), some (.int y3)]) (S' := [.int y2]) (M' := gm g) rfl ?_
      cases h
      exact g_ret rfl rfl rfl rfl
    · replace h := (if_neg c1).symm.trans h
      refine g_run 3 (pc' := 13) (L' := [some (.ref 506), some (.int y1), some (.int y2), some (.int y3)]) (S' := [.int y3, .int y1, .ref 506]) (M' := gm g) rfl ?_
      replace h := zB_of h
      obtain ⟨v2, g3, e4, h⟩ := h
      refine g_inv2 (kd := 1) (p_X2_fits  e4) rfl rfl rfl (by decide) rfl rfl rfl rfl (by omega) (pc' := 16) rfl (S' := [.int v2]) rfl ?_
      refine g_if (v2 = 0) rfl (t := 25) rfl rfl (fun c5 => ?_) (fun c5 => ?_)
      · replace h := (if_pos c5).symm.trans h
        exact p_X2_fitting_25 hD (f_X2_fitting_4 n) ih (y1) (y2) (y3) g3 _ h
      · replace h := (if_neg c5).symm.trans h
        refine g_run 6 (pc' := 25) (L' := [some (.ref 506), some (.int y1), some (.int ((y2 ||| (1 <<< (y3 &&& 31))))), some (.int y3)]) (S' := []) (M' := gm g3) rfl ?_
        exact p_X2_fitting_25 hD (f_X2_fitting_4 n) ih (y1) (y2 ||| (1 <<< (y3 &&& 31))) (y3) g3 _ h
def f_X2_fitting (x1 : Int32) (g : zSg) : Option (Int32 × zSg) := f_X2_fitting_4 zFu (x1) (0) (1) g
set_option maxRecDepth 100000 in
set_option maxHeartbeats 4000000 in
theorem p_X2_fitting {sc : zSc} {hp : zHp} {x1 : Int32} {g : zSg} {r : Int32 × zSg} (h : f_X2_fitting x1 g = some r) : zRn sc hp 21 zM_X2_fitting [.ref 506, .int x1] (gm g) (some (.int r.1)) (gm r.2) := by
  intro d hD
  obtain ⟨d, rfl⟩ : ∃ d', d = d' + 1 := ⟨d - 1, by omega⟩
  show zG _ sc hp (zcd zM_X2_fitting) 0 [some (.ref 506), some (.int x1), none, none] [] (gm g) _
  unfold f_X2_fitting at h
  refine g_run 4 (pc' := 4) (L' := [some (.ref 506), some (.int x1), some (.int 0), some (.int 1)]) (S' := []) (M' := gm g) rfl ?_
  exact p_X2_fitting_4 hD zFu (x1) (0) (1) g _ h
def f_J6_bitCount_0f7a4 (x1 : Int32) (g : zSg) : Option (Int32 × zSg) := some (((((((((x1 - ((iushr x1 1) &&& 1431655765)) &&& 858993459) + ((iushr (x1 - ((iushr x1 1) &&& 1431655765)) 2) &&& 858993459)) + (iushr (((x1 - ((iushr x1 1) &&& 1431655765)) &&& 858993459) + ((iushr (x1 - ((iushr x1 1) &&& 1431655765)) 2) &&& 858993459)) 4)) &&& 252645135) + (iushr (((((x1 - ((iushr x1 1) &&& 1431655765)) &&& 858993459) + ((iushr (x1 - ((iushr x1 1) &&& 1431655765)) 2) &&& 858993459)) + (iushr (((x1 - ((iushr x1 1) &&& 1431655765)) &&& 858993459) + ((iushr (x1 - ((iushr x1 1) &&& 1431655765)) 2) &&& 858993459)) 4)) &&& 252645135) 8)) + (iushr ((((((x1 - ((iushr x1 1) &&& 1431655765)) &&& 858993459) + ((iushr (x1 - ((iushr x1 1) &&& 1431655765)) 2) &&& 858993459)) + (iushr (((x1 - ((iushr x1 1) &&& 1431655765)) &&& 858993459) + ((iushr (x1 - ((iushr x1 1) &&& 1431655765)) 2) &&& 858993459)) 4)) &&& 252645135) + (iushr (((((x1 - ((iushr x1 1) &&& 1431655765)) &&& 858993459) + ((iushr (x1 - ((iushr x1 1) &&& 1431655765)) 2) &&& 858993459)) + (iushr (((x1 - ((iushr x1 1) &&& 1431655765)) &&& 858993459) + ((iushr (x1 - ((iushr x1 1) &&& 1431655765)) 2) &&& 858993459)) 4)) &&& 252645135) 8)) 16)) &&& 63), g)
set_option maxRecDepth 100000 in
set_option maxHeartbeats 4000000 in
theorem p_J6_bitCount_0f7a4 {sc : zSc} {hp : zHp} {x1 : Int32} {g : zSg} {r : Int32 × zSg} (h : f_J6_bitCount_0f7a4 x1 g = some r) : zRn sc hp 0 zM_J6_bitCount_0f7a4 [.int x1] (gm g) (some (.int r.1)) (gm r.2) := by
  intro d hD
  show zG _ sc hp (zcd zM_J6_bitCount_0f7a4) 0 [some (.int x1)] [] (gm g) _
  unfold f_J6_bitCount_0f7a4 at h
  refine g_run 41 (pc' := 52) (L' := [some (.int ((((((((x1 - ((iushr x1 1) &&& 1431655765)) &&& 858993459) + ((iushr (x1 - ((iushr x1 1) &&& 1431655765)) 2) &&& 858993459)) + (iushr (((x1 - ((iushr x1 1) &&& 1431655765)) &&& 858993459) + ((iushr (x1 - ((iushr x1 1) &&& 1431655765)) 2) &&& 858993459)) 4)) &&& 252645135) + (iushr (((((x1 - ((iushr x1 1) &&& 1431655765)) &&& 858993459) + ((iushr (x1 - ((iushr x1 1) &&& 1431655765)) 2) &&& 858993459)) + (iushr (((x1 - ((iushr x1 1) &&& 1431655765)) &&& 858993459) + ((iushr (x1 - ((iushr x1 1) &&& 1431655765)) 2) &&& 858993459)) 4)) &&& 252645135) 8)) + (iushr ((((((x1 - ((iushr x1 1) &&& 1431655765)) &&& 858993459) + ((iushr (x1 - ((iushr x1 1) &&& 1431655765)) 2) &&& 858993459)) + (iushr (((x1 - ((iushr x1 1) &&& 1431655765)) &&& 858993459) + ((iushr (x1 - ((iushr x1 1) &&& 1431655765)) 2) &&& 858993459)) 4)) &&& 252645135) + (iushr (((((x1 - ((iushr x1 1) &&& 1431655765)) &&& 858993459) + ((iushr (x1 - ((iushr x1 1) &&& 1431655765)) 2) &&& 858993459)) + (iushr (((x1 - ((iushr x1 1) &&& 1431655765)) &&& 858993459) + ((iushr (x1 - ((iushr x1 1) &&& 1431655765)) 2) &&& 858993459)) 4)) &&& 252645135) 8)) 16))))]) (S' := [.int (((((((((x1 - ((iushr x1 1) &&& 1431655765)) &&& 858993459) + ((iushr (x1 - ((iushr x1 1) &&& 1431655765)) 2) &&& 858993459)) + (iushr (((x1 - ((iushr x1 1) &&& 1431655765)) &&& 858993459) + ((iushr (x1 - ((iushr x1 1) &&& 1431655765)) 2) &&& 858993459)) 4)) &&& 252645135) + (iushr (((((x1 - ((iushr x1 1) &&& 1431655765)) &&& 858993459) + ((iushr (x1 - ((iushr x1 1) &&& 1431655765)) 2) &&& 858993459)) + (iushr (((x1 - ((iushr x1 1) &&& 1431655765)) &&& 858993459) + ((iushr (x1 - ((iushr x1 1) &&& 1431655765)) 2) &&& 858993459)) 4)) &&& 252645135) 8)) + (iushr ((((((x1 - ((iushr x1 1) &&& 1431655765)) &&& 858993459) + ((iushr (x1 - ((iushr x1 1) &&& 1431655765)) 2) &&& 858993459)) + (iushr (((x1 - ((iushr x1 1) &&& 1431655765)) &&& 858993459) + ((iushr (x1 - ((iushr x1 1) &&& 1431655765)) 2) &&& 858993459)) 4)) &&& 252645135) + (iushr (((((x1 - ((iushr x1 1) &&& 1431655765)) &&& 858993459) + ((iushr (x1 - ((iushr x1 1) &&& 1431655765)) 2) &&& 858993459)) + (iushr (((x1 - ((iushr x1 1) &&& 1431655765)) &&& 858993459) + ((iushr (x1 - ((iushr x1 1) &&& 1431655765)) 2) &&& 858993459)) 4)) &&& 252645135) 8)) 16)) &&& 63))]) (M' := gm g) rfl ?_
  cases h
  exact g_ret rfl rfl rfl rfl
def f_X2_fittingHeavy_54 (k22 : Int32 → Int32 → Int32 → zSg → Option (Int32 × zSg)) (y3 : Int32) (y4 : Int32) (y5 : Int32) (g : zSg) : Option (Int32 × zSg) := k22 (y3) (y4) (y5 + 1) g
set_option maxRecDepth 100000 in
set_option maxHeartbeats 4000000 in
theorem p_X2_fittingHeavy_54 {sc : zSc} {hp : zHp} {d : Nat} (hD : 22 ≤ d) (k22 : Int32 → Int32 → Int32 → zSg → Option (Int32 × zSg)) (hk22 : ∀ (y3 : Int32) (y4 : Int32) (y5 : Int32) (g : zSg) (r : Int32 × zSg), k22 y3 y4 y5 g = some r → zG d sc hp (zcd zM_X2_fittingHeavy) 22 [none, none, none, some (.int y3), some (.int y4), some (.int y5)] [] (gm g) ((some (.int r.1)), gm r.2)) (y3 : Int32) (y4 : Int32) (y5 : Int32) (g : zSg) (r : Int32 × zSg) (h : f_X2_fittingHeavy_54 k22 y3 y4 y5 g = some r) : zG d sc hp (zcd zM_X2_fittingHeavy) 54 [none, none, none, some (.int y3), some (.int y4), some (.int y5)] [] (gm g) ((some (.int r.1)), gm r.2) := by
  obtain ⟨d, rfl⟩ : ∃ d', d = d' + 1 := ⟨d - 1, by omega⟩
  unfold f_X2_fittingHeavy_54 at h
  refine g_run 2 (pc' := 22) (L' := [none, none, none, some (.int y3), some (.int y4), some (.int ((y5 + 1)))]) (S' := []) (M' := gm g) rfl ?_
  exact hk22 (y3) (y4) (y5 + 1) g _ h
def fb_X2_fittingHeavy_22 (kk : Int32 → Int32 → Int32 → zSg → Option (Int32 × zSg)) (y3 : Int32) (y4 : Int32) (y5 : Int32) (g : zSg) : Option (Int32 × zSg) := (if 9 < y5 then some ((-1), g) else (if y4 < 0 then some ((-1), g) else (if ((y3 >>> (y5 &&& 31)) &&& 1) = 0 then f_X2_fittingHeavy_54 kk (y3) (y4) (y5) g else (if ¬ y4 = 0 then f_X2_fittingHeavy_54 kk (y3) (y4 + (-1)) (y5) g else some (y5, g)))))
def f_X2_fittingHeavy_22 : Nat → Int32 → Int32 → Int32 → zSg → Option (Int32 × zSg)
  | 0, _, _, _, _ => none
  | n + 1, y3, y4, y5, g => fb_X2_fittingHeavy_22 (f_X2_fittingHeavy_22 n) y3 y4 y5 g
set_option maxRecDepth 100000 in
set_option maxHeartbeats 4000000 in
theorem p_X2_fittingHeavy_22 {sc : zSc} {hp : zHp} {d : Nat} (hD : 22 ≤ d) : ∀ (n : Nat) (y3 : Int32) (y4 : Int32) (y5 : Int32) (g : zSg) (r : Int32 × zSg), f_X2_fittingHeavy_22 n y3 y4 y5 g = some r → zG d sc hp (zcd zM_X2_fittingHeavy) 22 [none, none, none, some (.int y3), some (.int y4), some (.int y5)] [] (gm g) ((some (.int r.1)), gm r.2) := by
  obtain ⟨d, rfl⟩ : ∃ d', d = d' + 1 := ⟨d - 1, by omega⟩
  intro n
  induction n with
  | zero => intro y3 y4 y5 g r h; cases h
  | succ n ih =>
    intro y3 y4 y5 g r h
    replace h : fb_X2_fittingHeavy_22 (f_X2_fittingHeavy_22 n) y3 y4 y5 g = some r := h
    unfold fb_X2_fittingHeavy_22 at h
    refine g_run 2 (pc' := 26) (L' := [none, none, none, some (.int y3), some (.int y4), some (.int y5)]) (S' := [.int 9, .int y5]) (M' := gm g) rfl ?_
    refine g_icmp (9 < y5) rfl (t := 60) rfl rfl (fun c1 => ?_) (fun c1 => ?_)
    · replace h := (if_pos c1).symm.trans h
      refine g_run 1 (pc' := 61) (L' := [none, none, none, some (.int y3), some (.int y4), some (.int y5)]) (S' := [.int (-1)]) (M' := gm g) rfl ?_
      cases h
      exact g_ret rfl rfl rfl rfl
    · replace h := (if_neg c1).symm.trans h
      refine g_run 1 (pc' := 31) (L' := [none, none, none, some (.int y3), some (.int y4), some (.int y5)]) (S' := [.int y4]) (M' := gm g) rfl ?_
      refine g_if (y4 < 0) rfl (t := 60) rfl rfl (fun c2 => ?_) (fun c2 => ?_)
      · replace h := (if_pos c2).symm.trans h
        refine g_run 1 (pc' := 61) (L' := [none, none, none, some (.int y3), some (.int y4), some (.int y5)]) (S' := [.int (-1)]) (M' := gm g) rfl ?_
        cases h
        exact g_ret rfl rfl rfl rfl
      · replace h := (if_neg c2).symm.trans h
        refine g_run 5 (pc' := 40) (L' := [none, none, none, some (.int y3), some (.int y4), some (.int y5)]) (S' := [.int (((y3 >>> (y5 &&& 31)) &&& 1))]) (M' := gm g) rfl ?_
        refine g_if (((y3 >>> (y5 &&& 31)) &&& 1) = 0) rfl (t := 54) rfl rfl (fun c3 => ?_) (fun c3 => ?_)
        · replace h := (if_pos c3).symm.trans h
          exact p_X2_fittingHeavy_54 hD (f_X2_fittingHeavy_22 n) ih (y3) (y4) (y5) g _ h
        · replace h := (if_neg c3).symm.trans h
          refine g_run 1 (pc' := 45) (L' := [none, none, none, some (.int y3), some (.int y4), some (.int y5)]) (S' := [.int y4]) (M' := gm g) rfl ?_
          refine g_if (¬ y4 = 0) rfl (t := 51) rfl rfl (fun c4 => ?_) (fun c4 => ?_)
          · replace h := (if_pos c4).symm.trans h
            refine g_run 1 (pc' := 54) (L' := [none, none, none, some (.int y3), some (.int ((y4 + (-1)))), some (.int y5)]) (S' := []) (M' := gm g) rfl ?_
            exact p_X2_fittingHeavy_54 hD (f_X2_fittingHeavy_22 n) ih (y3) (y4 + (-1)) (y5) g _ h
          · replace h := (if_neg c4).symm.trans h
            refine g_run 1 (pc' := 50) (L' := [none, none, none, some (.int y3), some (.int y4), some (.int y5)]) (S' := [.int y5]) (M' := gm g) rfl ?_
            cases h
            exact g_ret rfl rfl rfl rfl
def f_X2_fittingHeavy (x1 : Int32) (x2 : Int32) (g : zSg) : Option (Int32 × zSg) := (zB (f_X2_fitting x1 g) (fun v1 g2 => (if ¬ x2 = (-1) then f_X2_fittingHeavy_22 zFu (v1) (x2) (1) g2 else (zB (f_J6_bitCount_0f7a4 v1 g2) (fun v5 g6 => some (v5, g6))))))
set_option maxRecDepth 100000 in
set_option maxHeartbeats 4000000 in
theorem p_X2_fittingHeavy {sc : zSc} {hp : zHp} {x1 : Int32} {x2 : Int32} {g : zSg} {r : Int32 × zSg} (h : f_X2_fittingHeavy x1 x2 g = some r) : zRn sc hp 22 zM_X2_fittingHeavy [.ref 506, .int x1, .int x2] (gm g) (some (.int r.1)) (gm r.2) := by
  intro d hD
  obtain ⟨d, rfl⟩ : ∃ d', d = d' + 1 := ⟨d - 1, by omega⟩
  show zG _ sc hp (zcd zM_X2_fittingHeavy) 0 [some (.ref 506), some (.int x1), some (.int x2), none, none, none] [] (gm g) _
  unfold f_X2_fittingHeavy at h
  refine g_run 2 (pc' := 2) (L' := [some (.ref 506), some (.int x1), some (.int x2), none, none, none]) (S' := [.int x1, .ref 506]) (M' := gm g) rfl ?_
  replace h := zB_of h
  obtain ⟨v1, g2, e3, h⟩ := h
  refine g_inv2 (kd := 1) (p_X2_fitting  e3) rfl rfl rfl (by decide) rfl rfl rfl rfl (by omega) (pc' := 5) rfl (S' := [.int v1]) rfl ?_
  refine g_run 3 (pc' := 8) (L' := [some (.ref 506), some (.int x1), some (.int x2), some (.int v1), none, none]) (S' := [.int (-1), .int x2]) (M' := gm g2) rfl ?_
  refine g_icmp (¬ x2 = (-1)) rfl (t := 16) rfl rfl (fun c4 => ?_) (fun c4 => ?_)
  · replace h := (if_pos c4).symm.trans h
    refine g_run 4 (pc' := 22) (L' := [some (.ref 506), some (.int x1), some (.int x2), some (.int v1), some (.int x2), some (.int 1)]) (S' := []) (M' := gm g2) rfl ?_
    refine g_forget (L' := [none, none, none, some (.int v1), some (.int x2), some (.int 1)]) (And.intro rfl (And.intro rfl (And.intro rfl True.intro))) ?_
    exact p_X2_fittingHeavy_22 hD zFu (v1) (x2) (1) g2 _ h
  · replace h := (if_neg c4).symm.trans h
    refine g_run 1 (pc' := 12) (L' := [some (.ref 506), some (.int x1), some (.int x2), some (.int v1), none, none]) (S' := [.int v1]) (M' := gm g2) rfl ?_
    replace h := zB_of h
    obtain ⟨v5, g6, e7, h⟩ := h
    refine g_inv2 (kd := 0) (p_J6_bitCount_0f7a4  e7) rfl rfl rfl (by decide) rfl rfl rfl rfl (by omega) (pc' := 15) rfl (S' := [.int v5]) rfl ?_
    cases h
    exact g_ret rfl rfl rfl rfl
def f_X2_apart_49 (y4 : Int32) (g : zSg) : Option (Int32 × zSg) := some ((iabs y4), g)
set_option maxRecDepth 100000 in
set_option maxHeartbeats 4000000 in
theorem p_X2_apart_49 {sc : zSc} {hp : zHp} {d : Nat} (hD : 20 ≤ d) (y4 : Int32) (g : zSg) (r : Int32 × zSg) (h : f_X2_apart_49 y4 g = some r) : zG d sc hp (zcd zM_X2_apart) 49 [none, none, none, none, some (.int y4), none] [] (gm g) ((some (.int r.1)), gm r.2) := by
  obtain ⟨d, rfl⟩ : ∃ d', d = d' + 1 := ⟨d - 1, by omega⟩
  unfold f_X2_apart_49 at h
  refine g_run 1 (pc' := 51) (L' := [none, none, none, none, some (.int y4), none]) (S' := [.int y4]) (M' := gm g) rfl ?_
  refine g_spec2 (kd := 0) rfl rfl rfl (by decide) rfl (jd := 1003) rfl (by decide) rfl (Or.inl (by decide)) (S' := [.int ((iabs y4))]) (M' := gm g) rfl rfl (pc' := 54) rfl ?_
  cases h
  exact g_ret rfl rfl rfl rfl
def f_X2_apart_43 (k6 : Int32 → Int32 → Int32 → Int32 → Int32 → zSg → Option (Int32 × zSg)) (y1 : Int32) (y2 : Int32) (y3 : Int32) (y4 : Int32) (y5 : Int32) (g : zSg) : Option (Int32 × zSg) := k6 (y1) (y2) (y3) (y4) (y5 + 1) g
set_option maxRecDepth 100000 in
set_option maxHeartbeats 4000000 in
theorem p_X2_apart_43 {sc : zSc} {hp : zHp} {d : Nat} (hD : 20 ≤ d) (k6 : Int32 → Int32 → Int32 → Int32 → Int32 → zSg → Option (Int32 × zSg)) (hk6 : ∀ (y1 : Int32) (y2 : Int32) (y3 : Int32) (y4 : Int32) (y5 : Int32) (g : zSg) (r : Int32 × zSg), k6 y1 y2 y3 y4 y5 g = some r → zG d sc hp (zcd zM_X2_apart) 6 [some (.ref 506), some (.int y1), some (.int y2), some (.int y3), some (.int y4), some (.int y5)] [] (gm g) ((some (.int r.1)), gm r.2)) (y1 : Int32) (y2 : Int32) (y3 : Int32) (y4 : Int32) (y5 : Int32) (g : zSg) (r : Int32 × zSg) (h : f_X2_apart_43 k6 y1 y2 y3 y4 y5 g = some r) : zG d sc hp (zcd zM_X2_apart) 43 [some (.ref 506), some (.int y1), some (.int y2), some (.int y3), some (.int y4), some (.int y5)] [] (gm g) ((some (.int r.1)), gm r.2) := by
  obtain ⟨d, rfl⟩ : ∃ d', d = d' + 1 := ⟨d - 1, by omega⟩
  unfold f_X2_apart_43 at h
  refine g_run 2 (pc' := 6) (L' := [some (.ref 506), some (.int y1), some (.int y2), some (.int y3), some (.int y4), some (.int ((y5 + 1)))]) (S' := []) (M' := gm g) rfl ?_
  exact hk6 (y1) (y2) (y3) (y4) (y5 + 1) g _ h
def f_X2_apart_40 (k6 : Int32 → Int32 → Int32 → Int32 → Int32 → zSg → Option (Int32 × zSg)) (y1 : Int32) (y2 : Int32) (y3 : Int32) (y5 : Int32) (s0 : Int32) (s1 : Int32) (g : zSg) : Option (Int32 × zSg) := f_X2_apart_43 k6 (y1) (y2) (y3) (s1 + s0) (y5) g
set_option maxRecDepth 100000 in
set_option maxHeartbeats 4000000 in
theorem p_X2_apart_40 {sc : zSc} {hp : zHp} {d : Nat} (hD : 20 ≤ d) (k6 : Int32 → Int32 → Int32 → Int32 → Int32 → zSg → Option (Int32 × zSg)) (hk6 : ∀ (y1 : Int32) (y2 : Int32) (y3 : Int32) (y4 : Int32) (y5 : Int32) (g : zSg) (r : Int32 × zSg), k6 y1 y2 y3 y4 y5 g = some r → zG d sc hp (zcd zM_X2_apart) 6 [some (.ref 506), some (.int y1), some (.int y2), some (.int y3), some (.int y4), some (.int y5)] [] (gm g) ((some (.int r.1)), gm r.2)) (y1 : Int32) (y2 : Int32) (y3 : Int32) (y5 : Int32) (s0 : Int32) (s1 : Int32) (g : zSg) (r : Int32 × zSg) (h : f_X2_apart_40 k6 y1 y2 y3 y5 s0 s1 g = some r) : zG d sc hp (zcd zM_X2_apart) 40 [some (.ref 506), some (.int y1), some (.int y2), some (.int y3), none, some (.int y5)] [.int s0, .int s1] (gm g) ((some (.int r.1)), gm r.2) := by
  obtain ⟨d, rfl⟩ : ∃ d', d = d' + 1 := ⟨d - 1, by omega⟩
  unfold f_X2_apart_40 at h
  refine g_run 2 (pc' := 43) (L' := [some (.ref 506), some (.int y1), some (.int y2), some (.int y3), some (.int ((s1 + s0))), some (.int y5)]) (S' := []) (M' := gm g) rfl ?_
  exact p_X2_apart_43 hD k6 hk6 (y1) (y2) (y3) (s1 + s0) (y5) g _ h
def fb_X2_apart_6 (kk : Int32 → Int32 → Int32 → Int32 → Int32 → zSg → Option (Int32 × zSg)) (y1 : Int32) (y2 : Int32) (y3 : Int32) (y4 : Int32) (y5 : Int32) (g : zSg) : Option (Int32 × zSg) := (if 9 < y5 then f_X2_apart_49 (y4) g else (if ((y3 >>> (y5 &&& 31)) &&& 1) = 0 then f_X2_apart_43 kk (y1) (y2) (y3) (y4) (y5) g else (zB (f_X2_smellsAsTold y1 y2 y5 g) (fun v3 g4 => (if v3 = 0 then f_X2_apart_40 kk (y1) (y2) (y3) (y5) (-1) (y4) g4 else f_X2_apart_40 kk (y1) (y2) (y3) (y5) (1) (y4) g4)))))
def f_X2_apart_6 : Nat → Int32 → Int32 → Int32 → Int32 → Int32 → zSg → Option (Int32 × zSg)
  | 0, _, _, _, _, _, _ => none
  | n + 1, y1, y2, y3, y4, y5, g => fb_X2_apart_6 (f_X2_apart_6 n) y1 y2 y3 y4 y5 g
set_option maxRecDepth 100000 in
set_option maxHeartbeats 4000000 in
theorem p_X2_apart_6 {sc : zSc} {hp : zHp} {d : Nat} (hD : 20 ≤ d) : ∀ (n : Nat) (y1 : Int32) (y2 : Int32) (y3 : Int32) (y4 : Int32) (y5 : Int32) (g : zSg) (r : Int32 × zSg), f_X2_apart_6 n y1 y2 y3 y4 y5 g = some r → zG d sc hp (zcd zM_X2_apart) 6 [some (.ref 506), some (.int y1), some (.int y2), some (.int y3), some (.int y4), some (.int y5)] [] (gm g) ((some (.int r.1)), gm r.2) := by
  obtain ⟨d, rfl⟩ : ∃ d', d = d' + 1 := ⟨d - 1, by omega⟩
  intro n
  induction n with
  | zero => intro y1 y2 y3 y4 y5 g r h; cases h
  | succ n ih =>
    intro y1 y2 y3 y4 y5 g r h
    replace h : fb_X2_apart_6 (f_X2_apart_6 n) y1 y2 y3 y4 y5 g = some r := h
    unfold fb_X2_apart_6 at h
    refine g_run 2 (pc' := 10) (L' := [some (.ref 506), some (.int y1), some (.int y2), some (.int y3), some (.int y4), some (.int y5)]) (S' := [.int 9, .int y5]) (M' := gm g) rfl ?_
    refine g_icmp (9 < y5) rfl (t := 49) rfl rfl (fun c1 => ?_) (fun c1 => ?_)
    · replace h := (if_pos c1).symm.trans h
      refine g_forget (L' := [none, none, none, none, some (.int y4), none]) (And.intro rfl True.intro) ?_
      exact p_X2_apart_49 hD (y4) g _ h
    · replace h := (if_neg c1).symm.trans h
      refine g_run 5 (pc' := 19) (L' := [some (.ref 506), some (.int y1), some (.int y2), some (.int y3), some (.int y4), some (.int y5)]) (S' := [.int (((y3 >>> (y5 &&& 31)) &&& 1))]) (M' := gm g) rfl ?_
      refine g_if (((y3 >>> (y5 &&& 31)) &&& 1) = 0) rfl (t := 43) rfl rfl (fun c2 => ?_) (fun c2 => ?_)
      · replace h := (if_pos c2).symm.trans h
        exact p_X2_apart_43 hD (f_X2_apart_6 n) ih (y1) (y2) (y3) (y4) (y5) g _ h
      · replace h := (if_neg c2).symm.trans h
        refine g_run 5 (pc' := 29) (L' := [some (.ref 506), some (.int y1), some (.int y2), some (.int y3), some (.int y4), some (.int y5)]) (S' := [.int y5, .int y2, .int y1, .ref 506, .int y4]) (M' := gm g) rfl ?_
        replace h := zB_of h
        obtain ⟨v3, g4, e5, h⟩ := h
        refine g_inv2 (kd := 1) (p_X2_smellsAsTold  e5) rfl rfl rfl (by decide) rfl rfl rfl rfl (by omega) (pc' := 32) rfl (S' := [.int v3, .int y4]) rfl ?_
        refine g_if (v3 = 0) rfl (t := 39) rfl rfl (fun c6 => ?_) (fun c6 => ?_)
        · replace h := (if_pos c6).symm.trans h
          refine g_run 1 (pc' := 40) (L' := [some (.ref 506), some (.int y1), some (.int y2), some (.int y3), some (.int y4), some (.int y5)]) (S' := [.int (-1), .int y4]) (M' := gm g4) rfl ?_
          refine g_forget (L' := [some (.ref 506), some (.int y1), some (.int y2), some (.int y3), none, some (.int y5)]) (And.intro rfl (And.intro rfl (And.intro rfl (And.intro rfl (And.intro rfl True.intro))))) ?_
          exact p_X2_apart_40 hD (f_X2_apart_6 n) ih (y1) (y2) (y3) (y5) (-1) (y4) g4 _ h
        · replace h := (if_neg c6).symm.trans h
          refine g_run 2 (pc' := 40) (L' := [some (.ref 506), some (.int y1), some (.int y2), some (.int y3), some (.int y4), some (.int y5)]) (S' := [.int 1, .int y4]) (M' := gm g4) rfl ?_
          refine g_forget (L' := [some (.ref 506), some (.int y1), some (.int y2), some (.int y3), none, some (.int y5)]) (And.intro rfl (And.intro rfl (And.intro rfl (And.intro rfl (And.intro rfl True.intro))))) ?_
          exact p_X2_apart_40 hD (f_X2_apart_6 n) ih (y1) (y2) (y3) (y5) (1) (y4) g4 _ h
def f_X2_apart (x1 : Int32) (x2 : Int32) (x3 : Int32) (g : zSg) : Option (Int32 × zSg) := f_X2_apart_6 zFu (x1) (x2) (x3) (0) (1) g
set_option maxRecDepth 100000 in
set_option maxHeartbeats 4000000 in
theorem p_X2_apart {sc : zSc} {hp : zHp} {x1 : Int32} {x2 : Int32} {x3 : Int32} {g : zSg} {r : Int32 × zSg} (h : f_X2_apart x1 x2 x3 g = some r) : zRn sc hp 20 zM_X2_apart [.ref 506, .int x1, .int x2, .int x3] (gm g) (some (.int r.1)) (gm r.2) := by
  intro d hD
  obtain ⟨d, rfl⟩ : ∃ d', d = d' + 1 := ⟨d - 1, by omega⟩
  show zG _ sc hp (zcd zM_X2_apart) 0 [some (.ref 506), some (.int x1), some (.int x2), some (.int x3), none, none] [] (gm g) _
  unfold f_X2_apart at h
  refine g_run 4 (pc' := 6) (L' := [some (.ref 506), some (.int x1), some (.int x2), some (.int x3), some (.int 0), some (.int 1)]) (S' := []) (M' := gm g) rfl ?_
  exact p_X2_apart_6 hD zFu (x1) (x2) (x3) (0) (1) g _ h
def f_X2_cellToAsk_61 (k20 : Int32 → Int32 → Int32 → Int32 → Int32 → zSg → Option (Int32 × zSg)) (y1 : Int32) (y2 : Int32) (y3 : Int32) (y4 : Int32) (y5 : Int32) (g : zSg) : Option (Int32 × zSg) := k20 (y1) (y2) (y3) (y4) (y5 + 1) g
set_option maxRecDepth 100000 in
set_option maxHeartbeats 4000000 in
theorem p_X2_cellToAsk_61 {sc : zSc} {hp : zHp} {d : Nat} (hD : 22 ≤ d) (k20 : Int32 → Int32 → Int32 → Int32 → Int32 → zSg → Option (Int32 × zSg)) (hk20 : ∀ (y1 : Int32) (y2 : Int32) (y3 : Int32) (y4 : Int32) (y5 : Int32) (g : zSg) (r : Int32 × zSg), k20 y1 y2 y3 y4 y5 g = some r → zG d sc hp (zcd zM_X2_cellToAsk) 20 [some (.ref 506), some (.int y1), some (.int y2), some (.int y3), some (.int y4), some (.int y5), none] [] (gm g) ((some (.int r.1)), gm r.2)) (y1 : Int32) (y2 : Int32) (y3 : Int32) (y4 : Int32) (y5 : Int32) (g : zSg) (r : Int32 × zSg) (h : f_X2_cellToAsk_61 k20 y1 y2 y3 y4 y5 g = some r) : zG d sc hp (zcd zM_X2_cellToAsk) 61 [some (.ref 506), some (.int y1), some (.int y2), some (.int y3), some (.int y4), some (.int y5), none] [] (gm g) ((some (.int r.1)), gm r.2) := by
  obtain ⟨d, rfl⟩ : ∃ d', d = d' + 1 := ⟨d - 1, by omega⟩
  unfold f_X2_cellToAsk_61 at h
  refine g_run 2 (pc' := 20) (L' := [some (.ref 506), some (.int y1), some (.int y2), some (.int y3), some (.int y4), some (.int ((y5 + 1))), none]) (S' := []) (M' := gm g) rfl ?_
  exact hk20 (y1) (y2) (y3) (y4) (y5 + 1) g _ h
def f_X2_cellToAsk_54 (k20 : Int32 → Int32 → Int32 → Int32 → Int32 → zSg → Option (Int32 × zSg)) (y1 : Int32) (y2 : Int32) (y5 : Int32) (y6 : Int32) (g : zSg) : Option (Int32 × zSg) := f_X2_cellToAsk_61 k20 (y1) (y2) (y5) (y6) (y5) g
set_option maxRecDepth 100000 in
set_option maxHeartbeats 4000000 in
theorem p_X2_cellToAsk_54 {sc : zSc} {hp : zHp} {d : Nat} (hD : 22 ≤ d) (k20 : Int32 → Int32 → Int32 → Int32 → Int32 → zSg → Option (Int32 × zSg)) (hk20 : ∀ (y1 : Int32) (y2 : Int32) (y3 : Int32) (y4 : Int32) (y5 : Int32) (g : zSg) (r : Int32 × zSg), k20 y1 y2 y3 y4 y5 g = some r → zG d sc hp (zcd zM_X2_cellToAsk) 20 [some (.ref 506), some (.int y1), some (.int y2), some (.int y3), some (.int y4), some (.int y5), none] [] (gm g) ((some (.int r.1)), gm r.2)) (y1 : Int32) (y2 : Int32) (y5 : Int32) (y6 : Int32) (g : zSg) (r : Int32 × zSg) (h : f_X2_cellToAsk_54 k20 y1 y2 y5 y6 g = some r) : zG d sc hp (zcd zM_X2_cellToAsk) 54 [some (.ref 506), some (.int y1), some (.int y2), none, none, some (.int y5), some (.int y6)] [] (gm g) ((some (.int r.1)), gm r.2) := by
  obtain ⟨d, rfl⟩ : ∃ d', d = d' + 1 := ⟨d - 1, by omega⟩
  unfold f_X2_cellToAsk_54 at h
  refine g_run 4 (pc' := 61) (L' := [some (.ref 506), some (.int y1), some (.int y2), some (.int y5), some (.int y6), some (.int y5), some (.int y6)]) (S' := []) (M' := gm g) rfl ?_
  refine g_forget (L' := [some (.ref 506), some (.int y1), some (.int y2), some (.int y5), some (.int y6), some (.int y5), none]) (And.intro rfl (And.intro rfl (And.intro rfl (And.intro rfl (And.intro rfl (And.intro rfl True.intro)))))) ?_
  exact p_X2_cellToAsk_61 hD k20 hk20 (y1) (y2) (y5) (y6) (y5) g _ h
def fb_X2_cellToAsk_20 (kk : Int32 → Int32 → Int32 → Int32 → Int32 → zSg → Option (Int32 × zSg)) (y1 : Int32) (y2 : Int32) (y3 : Int32) (y4 : Int32) (y5 : Int32) (g : zSg) : Option (Int32 × zSg) := (zB (f_X0_cells 3 g) (fun v1 g2 => (if v1 ≤ y5 then some (y3, g2) else (zB (f_X2_apart y1 y5 y2 g2) (fun v5 g6 => (if y3 = (-1) then f_X2_cellToAsk_54 kk (y1) (y2) (y5) (v5) g6 else (if y4 ≤ v5 then f_X2_cellToAsk_61 kk (y1) (y2) (y3) (y4) (y5) g6 else f_X2_cellToAsk_54 kk (y1) (y2) (y5) (v5) g6)))))))
def f_X2_cellToAsk_20 : Nat → Int32 → Int32 → Int32 → Int32 → Int32 → zSg → Option (Int32 × zSg)
  | 0, _, _, _, _, _, _ => none
  | n + 1, y1, y2, y3, y4, y5, g => fb_X2_cellToAsk_20 (f_X2_cellToAsk_20 n) y1 y2 y3 y4 y5 g
set_option maxRecDepth 100000 in
set_option maxHeartbeats 4000000 in
theorem p_X2_cellToAsk_20 {sc : zSc} {hp : zHp} {d : Nat} (hD : 22 ≤ d) : ∀ (n : Nat) (y1 : Int32) (y2 : Int32) (y3 : Int32) (y4 : Int32) (y5 : Int32) (g : zSg) (r : Int32 × zSg), f_X2_cellToAsk_20 n y1 y2 y3 y4 y5 g = some r → zG d sc hp (zcd zM_X2_cellToAsk) 20 [some (.ref 506), some (.int y1), some (.int y2), some (.int y3), some (.int y4), some (.int y5), none] [] (gm g) ((some (.int r.1)), gm r.2) := by
  obtain ⟨d, rfl⟩ : ∃ d', d = d' + 1 := ⟨d - 1, by omega⟩
  intro n
  induction n with
  | zero => intro y1 y2 y3 y4 y5 g r h; cases h
  | succ n ih =>
    intro y1 y2 y3 y4 y5 g r h
    replace h : fb_X2_cellToAsk_20 (f_X2_cellToAsk_20 n) y1 y2 y3 y4 y5 g = some r := h
    unfold fb_X2_cellToAsk_20 at h
    refine g_run 3 (pc' := 26) (L' := [some (.ref 506), some (.int y1), some (.int y2), some (.int y3), some (.int y4), some (.int y5), none]) (S' := [.ref 3, .int y5]) (M' := gm g) rfl ?_
    replace h := zB_of h
    obtain ⟨v1, g2, e3, h⟩ := h
    refine g_inv2 (kd := 1) (p_X0_cells 3 rfl e3) rfl rfl rfl (by decide) rfl rfl rfl rfl (by omega) (pc' := 29) rfl (S' := [.int v1, .int y5]) rfl ?_
    refine g_icmp (v1 ≤ y5) rfl (t := 67) rfl rfl (fun c4 => ?_) (fun c4 => ?_)
    · replace h := (if_pos c4).symm.trans h
      refine g_run 1 (pc' := 68) (L' := [some (.ref 506), some (.int y1), some (.int y2), some (.int y3), some (.int y4), some (.int y5), none]) (S' := [.int y3]) (M' := gm g2) rfl ?_
      cases h
      exact g_ret rfl rfl rfl rfl
    · replace h := (if_neg c4).symm.trans h
      refine g_run 4 (pc' := 37) (L' := [some (.ref 506), some (.int y1), some (.int y2), some (.int y3), some (.int y4), some (.int y5), none]) (S' := [.int y2, .int y5, .int y1, .ref 506]) (M' := gm g2) rfl ?_
      replace h := zB_of h
      obtain ⟨v5, g6, e7, h⟩ := h
      refine g_inv2 (kd := 1) (p_X2_apart  e7) rfl rfl rfl (by decide) rfl rfl rfl rfl (by omega) (pc' := 40) rfl (S' := [.int v5]) rfl ?_
      refine g_run 3 (pc' := 44) (L' := [some (.ref 506), some (.int y1), some (.int y2), some (.int y3), some (.int y4), some (.int y5), some (.int v5)]) (S' := [.int (-1), .int y3]) (M' := gm g6) rfl ?_
      refine g_icmp (y3 = (-1)) rfl (t := 54) rfl rfl (fun c8 => ?_) (fun c8 => ?_)
      · replace h := (if_pos c8).symm.trans h
        refine g_forget (L' := [some (.ref 506), some (.int y1), some (.int y2), none, none, some (.int y5), some (.int v5)]) (And.intro rfl (And.intro rfl (And.intro rfl (And.intro rfl (And.intro rfl True.intro))))) ?_
        exact p_X2_cellToAsk_54 hD (f_X2_cellToAsk_20 n) ih (y1) (y2) (y5) (v5) g6 _ h
      · replace h := (if_neg c8).symm.trans h
        refine g_run 2 (pc' := 51) (L' := [some (.ref 506), some (.int y1), some (.int y2), some (.int y3), some (.int y4), some (.int y5), some (.int v5)]) (S' := [.int y4, .int v5]) (M' := gm g6) rfl ?_
        refine g_icmp (y4 ≤ v5) rfl (t := 61) rfl rfl (fun c9 => ?_) (fun c9 => ?_)
        · replace h := (if_pos c9).symm.trans h
          refine g_forget (L' := [some (.ref 506), some (.int y1), some (.int y2), some (.int y3), some (.int y4), some (.int y5), none]) (And.intro rfl (And.intro rfl (And.intro rfl (And.intro rfl (And.intro rfl (And.intro rfl True.intro)))))) ?_
          exact p_X2_cellToAsk_61 hD (f_X2_cellToAsk_20 n) ih (y1) (y2) (y3) (y4) (y5) g6 _ h
        · replace h := (if_neg c9).symm.trans h
          refine g_forget (L' := [some (.ref 506), some (.int y1), some (.int y2), none, none, some (.int y5), some (.int v5)]) (And.intro rfl (And.intro rfl (And.intro rfl (And.intro rfl (And.intro rfl True.intro))))) ?_
          exact p_X2_cellToAsk_54 hD (f_X2_cellToAsk_20 n) ih (y1) (y2) (y5) (v5) g6 _ h
def f_X2_cellToAsk (x1 : Int32) (g : zSg) : Option (Int32 × zSg) := (zB (f_X2_fitting x1 g) (fun v1 g2 => (if ¬ v1 = 0 then f_X2_cellToAsk_20 zFu (x1) (v1) (-1) (0) (0) g2 else some ((-1), g2))))
set_option maxRecDepth 100000 in
set_option maxHeartbeats 4000000 in
theorem p_X2_cellToAsk {sc : zSc} {hp : zHp} {x1 : Int32} {g : zSg} {r : Int32 × zSg} (h : f_X2_cellToAsk x1 g = some r) : zRn sc hp 22 zM_X2_cellToAsk [.ref 506, .int x1] (gm g) (some (.int r.1)) (gm r.2) := by
  intro d hD
  obtain ⟨d, rfl⟩ : ∃ d', d = d' + 1 := ⟨d - 1, by omega⟩
  show zG _ sc hp (zcd zM_X2_cellToAsk) 0 [some (.ref 506), some (.int x1), none, none, none, none, none] [] (gm g) _
  unfold f_X2_cellToAsk at h
  refine g_run 2 (pc' := 2) (L' := [some (.ref 506), some (.int x1), none, none, none, none, none]) (S' := [.int x1, .ref 506]) (M' := gm g) rfl ?_
  replace h := zB_of h
  obtain ⟨v1, g2, e3, h⟩ := h
  refine g_inv2 (kd := 1) (p_X2_fitting  e3) rfl rfl rfl (by decide) rfl rfl rfl rfl (by omega) (pc' := 5) rfl (S' := [.int v1]) rfl ?_
  refine g_run 2 (pc' := 7) (L' := [some (.ref 506), some (.int x1), some (.int v1), none, none, none, none]) (S' := [.int v1]) (M' := gm g2) rfl ?_
  refine g_if (¬ v1 = 0) rfl (t := 12) rfl rfl (fun c4 => ?_) (fun c4 => ?_)
  · replace h := (if_pos c4).symm.trans h
    refine g_run 6 (pc' := 20) (L' := [some (.ref 506), some (.int x1), some (.int v1), some (.int (-1)), some (.int 0), some (.int 0), none]) (S' := []) (M' := gm g2) rfl ?_
    exact p_X2_cellToAsk_20 hD zFu (x1) (v1) (-1) (0) (0) g2 _ h
  · replace h := (if_neg c4).symm.trans h
    refine g_run 1 (pc' := 11) (L' := [some (.ref 506), some (.int x1), some (.int v1), none, none, none, none]) (S' := [.int (-1)]) (M' := gm g2) rfl ?_
    cases h
    exact g_ret rfl rfl rfl rfl
def f_X2_heavyTogether_34 (k4 : Int32 → Int32 → Int32 → zSg → Option (Int32 × zSg)) (y1 : Int32) (y2 : Int32) (y3 : Int32) (g : zSg) : Option (Int32 × zSg) := k4 (y1) (y2) (y3 + 1) g
set_option maxRecDepth 100000 in
set_option maxHeartbeats 4000000 in
theorem p_X2_heavyTogether_34 {sc : zSc} {hp : zHp} {d : Nat} (hD : 2 ≤ d) (k4 : Int32 → Int32 → Int32 → zSg → Option (Int32 × zSg)) (hk4 : ∀ (y1 : Int32) (y2 : Int32) (y3 : Int32) (g : zSg) (r : Int32 × zSg), k4 y1 y2 y3 g = some r → zG d sc hp (zcd zM_X2_heavyTogether) 4 [some (.ref 506), some (.int y1), some (.int y2), some (.int y3)] [] (gm g) ((some (.int r.1)), gm r.2)) (y1 : Int32) (y2 : Int32) (y3 : Int32) (g : zSg) (r : Int32 × zSg) (h : f_X2_heavyTogether_34 k4 y1 y2 y3 g = some r) : zG d sc hp (zcd zM_X2_heavyTogether) 34 [some (.ref 506), some (.int y1), some (.int y2), some (.int y3)] [] (gm g) ((some (.int r.1)), gm r.2) := by
  obtain ⟨d, rfl⟩ : ∃ d', d = d' + 1 := ⟨d - 1, by omega⟩
  unfold f_X2_heavyTogether_34 at h
  refine g_run 2 (pc' := 4) (L' := [some (.ref 506), some (.int y1), some (.int y2), some (.int ((y3 + 1)))]) (S' := []) (M' := gm g) rfl ?_
  exact hk4 (y1) (y2) (y3 + 1) g _ h
def fb_X2_heavyTogether_4 (kk : Int32 → Int32 → Int32 → zSg → Option (Int32 × zSg)) (y1 : Int32) (y2 : Int32) (y3 : Int32) (g : zSg) : Option (Int32 × zSg) := (zB (f_X0_secrets 3 g) (fun v1 g2 => (if v1 ≤ y3 then some (y2, g2) else (if ((y1 >>> (y3 &&& 31)) &&& 1) = 0 then f_X2_heavyTogether_34 kk (y1) (y2) (y3) g2 else (zB (f_X0_heavy 3 y3 g2) (fun v6 g7 => f_X2_heavyTogether_34 kk (y1) (y2 + v6) (y3) g7))))))
def f_X2_heavyTogether_4 : Nat → Int32 → Int32 → Int32 → zSg → Option (Int32 × zSg)
  | 0, _, _, _, _ => none
  | n + 1, y1, y2, y3, g => fb_X2_heavyTogether_4 (f_X2_heavyTogether_4 n) y1 y2 y3 g
set_option maxRecDepth 100000 in
set_option maxHeartbeats 4000000 in
theorem p_X2_heavyTogether_4 {sc : zSc} {hp : zHp} {d : Nat} (hD : 2 ≤ d) : ∀ (n : Nat) (y1 : Int32) (y2 : Int32) (y3 : Int32) (g : zSg) (r : Int32 × zSg), f_X2_heavyTogether_4 n y1 y2 y3 g = some r → zG d sc hp (zcd zM_X2_heavyTogether) 4 [some (.ref 506), some (.int y1), some (.int y2), some (.int y3)] [] (gm g) ((some (.int r.1)), gm r.2) := by
  obtain ⟨d, rfl⟩ : ∃ d', d = d' + 1 := ⟨d - 1, by omega⟩
  intro n
  induction n with
  | zero => intro y1 y2 y3 g r h; cases h
  | succ n ih =>
    intro y1 y2 y3 g r h
    replace h : fb_X2_heavyTogether_4 (f_X2_heavyTogether_4 n) y1 y2 y3 g = some r := h
    unfold fb_X2_heavyTogether_4 at h
    refine g_run 3 (pc' := 9) (L' := [some (.ref 506), some (.int y1), some (.int y2), some (.int y3)]) (S' := [.ref 3, .int y3]) (M' := gm g) rfl ?_
    replace h := zB_of h
    obtain ⟨v1, g2, e3, h⟩ := h
    refine g_inv2 (kd := 1) (p_X0_secrets 3 rfl e3) rfl rfl rfl (by decide) rfl rfl rfl rfl (by omega) (pc' := 12) rfl (S' := [.int v1, .int y3]) rfl ?_
    refine g_icmp (v1 ≤ y3) rfl (t := 40) rfl rfl (fun c4 => ?_) (fun c4 => ?_)
    · replace h := (if_pos c4).symm.trans h
      refine g_run 1 (pc' := 41) (L' := [some (.ref 506), some (.int y1), some (.int y2), some (.int y3)]) (S' := [.int y2]) (M' := gm g2) rfl ?_
      cases h
      exact g_ret rfl rfl rfl rfl
    · replace h := (if_neg c4).symm.trans h
      refine g_run 5 (pc' := 20) (L' := [some (.ref 506), some (.int y1), some (.int y2), some (.int y3)]) (S' := [.int (((y1 >>> (y3 &&& 31)) &&& 1))]) (M' := gm g2) rfl ?_
      refine g_if (((y1 >>> (y3 &&& 31)) &&& 1) = 0) rfl (t := 34) rfl rfl (fun c5 => ?_) (fun c5 => ?_)
      · replace h := (if_pos c5).symm.trans h
        exact p_X2_heavyTogether_34 hD (f_X2_heavyTogether_4 n) ih (y1) (y2) (y3) g2 _ h
      · replace h := (if_neg c5).symm.trans h
        refine g_run 4 (pc' := 29) (L' := [some (.ref 506), some (.int y1), some (.int y2), some (.int y3)]) (S' := [.int y3, .ref 3, .int y2]) (M' := gm g2) rfl ?_
        replace h := zB_of h
        obtain ⟨v6, g7, e8, h⟩ := h
        refine g_inv2 (kd := 1) (p_X0_heavy 3 rfl e8) rfl rfl rfl (by decide) rfl rfl rfl rfl (by omega) (pc' := 32) rfl (S' := [.int v6, .int y2]) rfl ?_
        refine g_run 2 (pc' := 34) (L' := [some (.ref 506), some (.int y1), some (.int ((y2 + v6))), some (.int y3)]) (S' := []) (M' := gm g7) rfl ?_
        exact p_X2_heavyTogether_34 hD (f_X2_heavyTogether_4 n) ih (y1) (y2 + v6) (y3) g7 _ h
def f_X2_heavyTogether (x1 : Int32) (g : zSg) : Option (Int32 × zSg) := f_X2_heavyTogether_4 zFu (x1) (0) (0) g
set_option maxRecDepth 100000 in
set_option maxHeartbeats 4000000 in
theorem p_X2_heavyTogether {sc : zSc} {hp : zHp} {x1 : Int32} {g : zSg} {r : Int32 × zSg} (h : f_X2_heavyTogether x1 g = some r) : zRn sc hp 2 zM_X2_heavyTogether [.ref 506, .int x1] (gm g) (some (.int r.1)) (gm r.2) := by
  intro d hD
  obtain ⟨d, rfl⟩ : ∃ d', d = d' + 1 := ⟨d - 1, by omega⟩
  show zG _ sc hp (zcd zM_X2_heavyTogether) 0 [some (.ref 506), some (.int x1), none, none] [] (gm g) _
  unfold f_X2_heavyTogether at h
  refine g_run 4 (pc' := 4) (L' := [some (.ref 506), some (.int x1), some (.int 0), some (.int 0)]) (S' := []) (M' := gm g) rfl ?_
  exact p_X2_heavyTogether_4 hD zFu (x1) (0) (0) g _ h
def f_X8_isCured (a : Nat) (x1 : Int32) (g : zSg) : Option (Int32 × zSg) := (if (((gI g (a) 5) >>> (x1 &&& 31)) &&& 1) = 0 then some (0, g) else some (1, g))
set_option maxRecDepth 100000 in
set_option maxHeartbeats 4000000 in
theorem p_X8_isCured {sc : zSc} {hp : zHp} (a : Nat) (ha : (zK0 a).1 = 8) {x1 : Int32} {g : zSg} {r : Int32 × zSg} (h : f_X8_isCured a x1 g = some r) : zRn sc hp 0 zM_X8_isCured [.ref a, .int x1] (gm g) (some (.int r.1)) (gm r.2) := by
  intro d hD
  show zG _ sc hp (zcd zM_X8_isCured) 0 [some (.ref a), some (.int x1)] [] (gm g) _
  unfold f_X8_isCured at h
  refine g_run 1 (pc' := 1) (L' := [some (.ref a), some (.int x1)]) (S' := [.ref a]) (M' := gm g) rfl ?_
  refine g_getf rfl (ci := 8) (k := 5) rfl ha rfl ?_
  refine g_run 4 (pc' := 8) (L' := [some (.ref a), some (.int x1)]) (S' := [.int ((((gI g (a) 5) >>> (x1 &&& 31)) &&& 1))]) (M' := gm g) rfl ?_
  refine g_if ((((gI g (a) 5) >>> (x1 &&& 31)) &&& 1) = 0) rfl (t := 15) rfl rfl (fun c1 => ?_) (fun c1 => ?_)
  · replace h := (if_pos c1).symm.trans h
    refine g_run 1 (pc' := 16) (L' := [some (.ref a), some (.int x1)]) (S' := [.int 0]) (M' := gm g) rfl ?_
    cases h
    exact g_ret rfl rfl rfl rfl
  · replace h := (if_neg c1).symm.trans h
    refine g_run 2 (pc' := 16) (L' := [some (.ref a), some (.int x1)]) (S' := [.int 1]) (M' := gm g) rfl ?_
    cases h
    exact g_ret rfl rfl rfl rfl
def f_X10_lacks (b1 : Nat) (x2 : Int32) (g : zSg) : Option (Int32 × zSg) := (zB (f_X8_isCured b1 x2 g) (fun v1 g2 => (if v1 = 0 then (zB (f_X0_heavy 3 x2 g2) (fun v5 g6 => (zB (f_X7_get (b1 + 3) x2 g6) (fun v8 g9 => some ((v5 - v8), g9))))) else some (0, g2))))
set_option maxRecDepth 100000 in
set_option maxHeartbeats 4000000 in
theorem p_X10_lacks {sc : zSc} {hp : zHp} (b1 : Nat) (hb1 : (zK0 b1).1 = 8) {x2 : Int32} {g : zSg} {r : Int32 × zSg} (h : f_X10_lacks b1 x2 g = some r) : zRn sc hp 2 zM_X10_lacks [.ref 423, .ref b1, .int x2] (gm g) (some (.int r.1)) (gm r.2) := by
  intro d hD
  obtain ⟨d, rfl⟩ : ∃ d', d = d' + 1 := ⟨d - 1, by omega⟩
  show zG _ sc hp (zcd zM_X10_lacks) 0 [some (.ref 423), some (.ref b1), some (.int x2)] [] (gm g) _
  unfold f_X10_lacks at h
  refine g_run 2 (pc' := 2) (L' := [some (.ref 423), some (.ref b1), some (.int x2)]) (S' := [.int x2, .ref b1]) (M' := gm g) rfl ?_
  replace h := zB_of h
  obtain ⟨v1, g2, e3, h⟩ := h
  refine g_inv2 (kd := 1) (p_X8_isCured b1 hb1 e3) rfl rfl rfl (by decide) rfl (g_recv (a := b1) rfl (Nat.le_of_ble_eq_true rfl) (Nat.le_of_ble_eq_true rfl) (Nat.le_of_ble_eq_true rfl) (Nat.le_of_ble_eq_true rfl) rfl hb1 (Nat.le_of_ble_eq_true rfl)) rfl rfl (by omega) (pc' := 5) rfl (S' := [.int v1]) rfl ?_
  refine g_if (v1 = 0) rfl (t := 12) rfl rfl (fun c4 => ?_) (fun c4 => ?_)
  · replace h := (if_pos c4).symm.trans h
    refine g_run 3 (pc' := 17) (L' := [some (.ref 423), some (.ref b1), some (.int x2)]) (S' := [.int x2, .ref 3]) (M' := gm g2) rfl ?_
    replace h := zB_of h
    obtain ⟨v5, g6, e7, h⟩ := h
    refine g_inv2 (kd := 1) (p_X0_heavy 3 rfl e7) rfl rfl rfl (by decide) rfl rfl rfl rfl (by omega) (pc' := 20) rfl (S' := [.int v5]) rfl ?_
    refine g_run 1 (pc' := 21) (L' := [some (.ref 423), some (.ref b1), some (.int x2)]) (S' := [.ref b1, .int v5]) (M' := gm g6) rfl ?_
    refine g_getf rfl (ci := 8) (k := 1) rfl hb1 (gfv_s1 hb1) ?_
    refine g_run 1 (pc' := 25) (L' := [some (.ref 423), some (.ref b1), some (.int x2)]) (S' := [.int x2, .ref (b1 + 3), .int v5]) (M' := gm g6) rfl ?_
    replace h := zB_of h
    obtain ⟨v8, g9, e10, h⟩ := h
    refine g_inv2 (kd := 1) (p_X7_get (b1 + 3) (zK0_s hb1).2.1 e10) rfl rfl rfl (by decide) rfl (g_recv (a := b1 + 3) rfl (Nat.le_of_ble_eq_true rfl) (Nat.le_of_ble_eq_true rfl) (Nat.le_of_ble_eq_true rfl) (Nat.le_of_ble_eq_true rfl) rfl (zK0_s hb1).2.1 (Nat.le_of_ble_eq_true rfl)) rfl rfl (by omega) (pc' := 28) rfl (S' := [.int v8, .int v5]) rfl ?_
    refine g_run 1 (pc' := 29) (L' := [some (.ref 423), some (.ref b1), some (.int x2)]) (S' := [.int ((v5 - v8))]) (M' := gm g9) rfl ?_
    cases h
    exact g_ret rfl rfl rfl rfl
  · replace h := (if_neg c4).symm.trans h
    refine g_run 2 (pc' := 29) (L' := [some (.ref 423), some (.ref b1), some (.int x2)]) (S' := [.int 0]) (M' := gm g2) rfl ?_
    cases h
    exact g_ret rfl rfl rfl rfl
def f_X2_lackedBy_39 (b1 : Nat) (k5 : Int32 → Int32 → Int32 → zSg → Option (Int32 × zSg)) (y2 : Int32) (y3 : Int32) (y4 : Int32) (g : zSg) : Option (Int32 × zSg) := k5 (y2) (y3) (y4 + 1) g
set_option maxRecDepth 100000 in
set_option maxHeartbeats 4000000 in
theorem p_X2_lackedBy_39 {sc : zSc} {hp : zHp} {d : Nat} (hD : 3 ≤ d) (b1 : Nat) (hb1 : (zK0 b1).1 = 8) (k5 : Int32 → Int32 → Int32 → zSg → Option (Int32 × zSg)) (hk5 : ∀ (y2 : Int32) (y3 : Int32) (y4 : Int32) (g : zSg) (r : Int32 × zSg), k5 y2 y3 y4 g = some r → zG d sc hp (zcd zM_X2_lackedBy) 5 [some (.ref 506), some (.ref b1), some (.int y2), some (.int y3), some (.int y4)] [] (gm g) ((some (.int r.1)), gm r.2)) (y2 : Int32) (y3 : Int32) (y4 : Int32) (g : zSg) (r : Int32 × zSg) (h : f_X2_lackedBy_39 b1 k5 y2 y3 y4 g = some r) : zG d sc hp (zcd zM_X2_lackedBy) 39 [some (.ref 506), some (.ref b1), some (.int y2), some (.int y3), some (.int y4)] [] (gm g) ((some (.int r.1)), gm r.2) := by
  obtain ⟨d, rfl⟩ : ∃ d', d = d' + 1 := ⟨d - 1, by omega⟩
  unfold f_X2_lackedBy_39 at h
  refine g_run 2 (pc' := 5) (L' := [some (.ref 506), some (.ref b1), some (.int y2), some (.int y3), some (.int ((y4 + 1)))]) (S' := []) (M' := gm g) rfl ?_
  exact hk5 (y2) (y3) (y4 + 1) g _ h
def fb_X2_lackedBy_5 (b1 : Nat) (kk : Int32 → Int32 → Int32 → zSg → Option (Int32 × zSg)) (y2 : Int32) (y3 : Int32) (y4 : Int32) (g : zSg) : Option (Int32 × zSg) := (zB (f_X0_secrets 3 g) (fun v1 g2 => (if v1 ≤ y4 then some (y3, g2) else (if ((y2 >>> (y4 &&& 31)) &&& 1) = 0 then f_X2_lackedBy_39 b1 kk (y2) (y3) (y4) g2 else (zB (f_X10_lacks b1 y4 g2) (fun v6 g7 => f_X2_lackedBy_39 b1 kk (y2) (y3 + v6) (y4) g7))))))
def f_X2_lackedBy_5 (b1 : Nat) : Nat → Int32 → Int32 → Int32 → zSg → Option (Int32 × zSg)
  | 0, _, _, _, _ => none
  | n + 1, y2, y3, y4, g => fb_X2_lackedBy_5 b1 (f_X2_lackedBy_5 b1 n) y2 y3 y4 g
set_option maxRecDepth 100000 in
set_option maxHeartbeats 4000000 in
theorem p_X2_lackedBy_5 {sc : zSc} {hp : zHp} {d : Nat} (hD : 3 ≤ d) (b1 : Nat) (hb1 : (zK0 b1).1 = 8) : ∀ (n : Nat) (y2 : Int32) (y3 : Int32) (y4 : Int32) (g : zSg) (r : Int32 × zSg), f_X2_lackedBy_5 b1 n y2 y3 y4 g = some r → zG d sc hp (zcd zM_X2_lackedBy) 5 [some (.ref 506), some (.ref b1), some (.int y2), some (.int y3), some (.int y4)] [] (gm g) ((some (.int r.1)), gm r.2) := by
  obtain ⟨d, rfl⟩ : ∃ d', d = d' + 1 := ⟨d - 1, by omega⟩
  intro n
  induction n with
  | zero => intro y2 y3 y4 g r h; cases h
  | succ n ih =>
    intro y2 y3 y4 g r h
    replace h : fb_X2_lackedBy_5 b1 (f_X2_lackedBy_5 b1 n) y2 y3 y4 g = some r := h
    unfold fb_X2_lackedBy_5 at h
    refine g_run 3 (pc' := 11) (L' := [some (.ref 506), some (.ref b1), some (.int y2), some (.int y3), some (.int y4)]) (S' := [.ref 3, .int y4]) (M' := gm g) rfl ?_
    replace h := zB_of h
    obtain ⟨v1, g2, e3, h⟩ := h
    refine g_inv2 (kd := 1) (p_X0_secrets 3 rfl e3) rfl rfl rfl (by decide) rfl rfl rfl rfl (by omega) (pc' := 14) rfl (S' := [.int v1, .int y4]) rfl ?_
    refine g_icmp (v1 ≤ y4) rfl (t := 45) rfl rfl (fun c4 => ?_) (fun c4 => ?_)
    · replace h := (if_pos c4).symm.trans h
      refine g_run 1 (pc' := 46) (L' := [some (.ref 506), some (.ref b1), some (.int y2), some (.int y3), some (.int y4)]) (S' := [.int y3]) (M' := gm g2) rfl ?_
      cases h
      exact g_ret rfl rfl rfl rfl
    · replace h := (if_neg c4).symm.trans h
      refine g_run 5 (pc' := 23) (L' := [some (.ref 506), some (.ref b1), some (.int y2), some (.int y3), some (.int y4)]) (S' := [.int (((y2 >>> (y4 &&& 31)) &&& 1))]) (M' := gm g2) rfl ?_
      refine g_if (((y2 >>> (y4 &&& 31)) &&& 1) = 0) rfl (t := 39) rfl rfl (fun c5 => ?_) (fun c5 => ?_)
      · replace h := (if_pos c5).symm.trans h
        exact p_X2_lackedBy_39 hD b1 hb1 (f_X2_lackedBy_5 b1 n) ih (y2) (y3) (y4) g2 _ h
      · replace h := (if_neg c5).symm.trans h
        refine g_run 5 (pc' := 34) (L' := [some (.ref 506), some (.ref b1), some (.int y2), some (.int y3), some (.int y4)]) (S' := [.int y4, .ref b1, .ref 423, .int y3]) (M' := gm g2) rfl ?_
        replace h := zB_of h
        obtain ⟨v6, g7, e8, h⟩ := h
        refine g_inv2 (kd := 1) (p_X10_lacks b1 hb1 e8) rfl rfl rfl (by decide) rfl rfl rfl rfl (by omega) (pc' := 37) rfl (S' := [.int v6, .int y3]) rfl ?_
        refine g_run 2 (pc' := 39) (L' := [some (.ref 506), some (.ref b1), some (.int y2), some (.int ((y3 + v6))), some (.int y4)]) (S' := []) (M' := gm g7) rfl ?_
        exact p_X2_lackedBy_39 hD b1 hb1 (f_X2_lackedBy_5 b1 n) ih (y2) (y3 + v6) (y4) g7 _ h
def f_X2_lackedBy (b1 : Nat) (x2 : Int32) (g : zSg) : Option (Int32 × zSg) := f_X2_lackedBy_5 b1 zFu (x2) (0) (0) g
set_option maxRecDepth 100000 in
set_option maxHeartbeats 4000000 in
theorem p_X2_lackedBy {sc : zSc} {hp : zHp} (b1 : Nat) (hb1 : (zK0 b1).1 = 8) {x2 : Int32} {g : zSg} {r : Int32 × zSg} (h : f_X2_lackedBy b1 x2 g = some r) : zRn sc hp 3 zM_X2_lackedBy [.ref 506, .ref b1, .int x2] (gm g) (some (.int r.1)) (gm r.2) := by
  intro d hD
  obtain ⟨d, rfl⟩ : ∃ d', d = d' + 1 := ⟨d - 1, by omega⟩
  show zG _ sc hp (zcd zM_X2_lackedBy) 0 [some (.ref 506), some (.ref b1), some (.int x2), none, none] [] (gm g) _
  unfold f_X2_lackedBy at h
  refine g_run 4 (pc' := 5) (L' := [some (.ref 506), some (.ref b1), some (.int x2), some (.int 0), some (.int 0)]) (S' := []) (M' := gm g) rfl ?_
  exact p_X2_lackedBy_5 hD b1 hb1 zFu (x2) (0) (0) g _ h
def f_X2_worthiest_78 (b1 : Nat) (k4 : Int32 → Int32 → zSg → Option (Int32 × zSg)) (y2 : Int32) (y3 : Int32) (g : zSg) : Option (Int32 × zSg) := k4 (y2) (y3 + 1) g
set_option maxRecDepth 100000 in
set_option maxHeartbeats 4000000 in
theorem p_X2_worthiest_78 {sc : zSc} {hp : zHp} {d : Nat} (hD : 4 ≤ d) (b1 : Nat) (hb1 : (zK0 b1).1 = 8) (k4 : Int32 → Int32 → zSg → Option (Int32 × zSg)) (hk4 : ∀ (y2 : Int32) (y3 : Int32) (g : zSg) (r : Int32 × zSg), k4 y2 y3 g = some r → zG d sc hp (zcd zM_X2_worthiest) 4 [some (.ref 506), some (.ref b1), some (.int y2), some (.int y3), none] [] (gm g) ((some (.int r.1)), gm r.2)) (y2 : Int32) (y3 : Int32) (g : zSg) (r : Int32 × zSg) (h : f_X2_worthiest_78 b1 k4 y2 y3 g = some r) : zG d sc hp (zcd zM_X2_worthiest) 78 [some (.ref 506), some (.ref b1), some (.int y2), some (.int y3), none] [] (gm g) ((some (.int r.1)), gm r.2) := by
  obtain ⟨d, rfl⟩ : ∃ d', d = d' + 1 := ⟨d - 1, by omega⟩
  unfold f_X2_worthiest_78 at h
  refine g_run 2 (pc' := 4) (L' := [some (.ref 506), some (.ref b1), some (.int y2), some (.int ((y3 + 1))), none]) (S' := []) (M' := gm g) rfl ?_
  exact hk4 (y2) (y3 + 1) g _ h
def f_X2_worthiest_76 (b1 : Nat) (k4 : Int32 → Int32 → zSg → Option (Int32 × zSg)) (y3 : Int32) (g : zSg) : Option (Int32 × zSg) := f_X2_worthiest_78 b1 k4 (y3) (y3) g
set_option maxRecDepth 100000 in
set_option maxHeartbeats 4000000 in
theorem p_X2_worthiest_76 {sc : zSc} {hp : zHp} {d : Nat} (hD : 4 ≤ d) (b1 : Nat) (hb1 : (zK0 b1).1 = 8) (k4 : Int32 → Int32 → zSg → Option (Int32 × zSg)) (hk4 : ∀ (y2 : Int32) (y3 : Int32) (g : zSg) (r : Int32 × zSg), k4 y2 y3 g = some r → zG d sc hp (zcd zM_X2_worthiest) 4 [some (.ref 506), some (.ref b1), some (.int y2), some (.int y3), none] [] (gm g) ((some (.int r.1)), gm r.2)) (y3 : Int32) (g : zSg) (r : Int32 × zSg) (h : f_X2_worthiest_76 b1 k4 y3 g = some r) : zG d sc hp (zcd zM_X2_worthiest) 76 [some (.ref 506), some (.ref b1), none, some (.int y3), none] [] (gm g) ((some (.int r.1)), gm r.2) := by
  obtain ⟨d, rfl⟩ : ∃ d', d = d' + 1 := ⟨d - 1, by omega⟩
  unfold f_X2_worthiest_76 at h
  refine g_run 2 (pc' := 78) (L' := [some (.ref 506), some (.ref b1), some (.int y3), some (.int y3), none]) (S' := []) (M' := gm g) rfl ?_
  exact p_X2_worthiest_78 hD b1 hb1 k4 hk4 (y3) (y3) g _ h
def fb_X2_worthiest_4 (b1 : Nat) (kk : Int32 → Int32 → zSg → Option (Int32 × zSg)) (y2 : Int32) (y3 : Int32) (g : zSg) : Option (Int32 × zSg) := (zB (f_X0_secrets 3 g) (fun v1 g2 => (if (1 <<< (v1 &&& 31)) ≤ y3 then some (y2, g2) else (if ¬ (y3 &&& (gI g2 (b1) 5)) = 0 then f_X2_worthiest_78 b1 kk (y2) (y3) g2 else (zB (f_X2_lackedBy b1 y3 g2) (fun v6 g7 => (if v6 ≤ (gI g7 (b1) 7) then (zB (f_X2_heavyTogether y3 g7) (fun v10 g11 => (zB (f_X2_heavyTogether y2 g11) (fun v13 g14 => (if 0 < (v10 - v13) then f_X2_worthiest_76 b1 kk (y3) g14 else (if ¬ (v10 - v13) = 0 then f_X2_worthiest_78 b1 kk (y2) (y3) g14 else (zB (f_J6_bitCount_0f7a4 y3 g14) (fun v18 g19 => (zB (f_J6_bitCount_0f7a4 y2 g19) (fun v21 g22 => (if v21 ≤ v18 then f_X2_worthiest_78 b1 kk (y2) (y3) g22 else f_X2_worthiest_76 b1 kk (y3) g22))))))))))) else f_X2_worthiest_78 b1 kk (y2) (y3) g7)))))))
def f_X2_worthiest_4 (b1 : Nat) : Nat → Int32 → Int32 → zSg → Option (Int32 × zSg)
  | 0, _, _, _ => none
  | n + 1, y2, y3, g => fb_X2_worthiest_4 b1 (f_X2_worthiest_4 b1 n) y2 y3 g
set_option maxRecDepth 100000 in
set_option maxHeartbeats 4000000 in
theorem p_X2_worthiest_4 {sc : zSc} {hp : zHp} {d : Nat} (hD : 4 ≤ d) (b1 : Nat) (hb1 : (zK0 b1).1 = 8) : ∀ (n : Nat) (y2 : Int32) (y3 : Int32) (g : zSg) (r : Int32 × zSg), f_X2_worthiest_4 b1 n y2 y3 g = some r → zG d sc hp (zcd zM_X2_worthiest) 4 [some (.ref 506), some (.ref b1), some (.int y2), some (.int y3), none] [] (gm g) ((some (.int r.1)), gm r.2) := by
  obtain ⟨d, rfl⟩ : ∃ d', d = d' + 1 := ⟨d - 1, by omega⟩
  intro n
  induction n with
  | zero => intro y2 y3 g r h; cases h
  | succ n ih =>
    intro y2 y3 g r h
    replace h : fb_X2_worthiest_4 b1 (f_X2_worthiest_4 b1 n) y2 y3 g = some r := h
    unfold fb_X2_worthiest_4 at h
    refine g_run 4 (pc' := 10) (L' := [some (.ref 506), some (.ref b1), some (.int y2), some (.int y3), none]) (S' := [.ref 3, .int 1, .int y3]) (M' := gm g) rfl ?_
    replace h := zB_of h
    obtain ⟨v1, g2, e3, h⟩ := h
    refine g_inv2 (kd := 1) (p_X0_secrets 3 rfl e3) rfl rfl rfl (by decide) rfl rfl rfl rfl (by omega) (pc' := 13) rfl (S' := [.int v1, .int 1, .int y3]) rfl ?_
    refine g_run 1 (pc' := 14) (L' := [some (.ref 506), some (.ref b1), some (.int y2), some (.int y3), none]) (S' := [.int ((1 <<< (v1 &&& 31))), .int y3]) (M' := gm g2) rfl ?_
    refine g_icmp ((1 <<< (v1 &&& 31)) ≤ y3) rfl (t := 84) rfl rfl (fun c4 => ?_) (fun c4 => ?_)
    · replace h := (if_pos c4).symm.trans h
      refine g_run 1 (pc' := 85) (L' := [some (.ref 506), some (.ref b1), some (.int y2), some (.int y3), none]) (S' := [.int y2]) (M' := gm g2) rfl ?_
      cases h
      exact g_ret rfl rfl rfl rfl
    · replace h := (if_neg c4).symm.trans h
      refine g_run 2 (pc' := 19) (L' := [some (.ref 506), some (.ref b1), some (.int y2), some (.int y3), none]) (S' := [.ref b1, .int y3]) (M' := gm g2) rfl ?_
      refine g_getf rfl (ci := 8) (k := 5) rfl hb1 rfl ?_
      refine g_run 1 (pc' := 23) (L' := [some (.ref 506), some (.ref b1), some (.int y2), some (.int y3), none]) (S' := [.int ((y3 &&& (gI g2 (b1) 5)))]) (M' := gm g2) rfl ?_
      refine g_if (¬ (y3 &&& (gI g2 (b1) 5)) = 0) rfl (t := 78) rfl rfl (fun c5 => ?_) (fun c5 => ?_)
      · replace h := (if_pos c5).symm.trans h
        exact p_X2_worthiest_78 hD b1 hb1 (f_X2_worthiest_4 b1 n) ih (y2) (y3) g2 _ h
      · replace h := (if_neg c5).symm.trans h
        refine g_run 3 (pc' := 29) (L' := [some (.ref 506), some (.ref b1), some (.int y2), some (.int y3), none]) (S' := [.int y3, .ref b1, .ref 506]) (M' := gm g2) rfl ?_
        replace h := zB_of h
        obtain ⟨v6, g7, e8, h⟩ := h
        refine g_inv2 (kd := 1) (p_X2_lackedBy b1 hb1 e8) rfl rfl rfl (by decide) rfl rfl rfl rfl (by omega) (pc' := 32) rfl (S' := [.int v6]) rfl ?_
        refine g_run 1 (pc' := 33) (L' := [some (.ref 506), some (.ref b1), some (.int y2), some (.int y3), none]) (S' := [.ref b1, .int v6]) (M' := gm g7) rfl ?_
        refine g_getf rfl (ci := 8) (k := 7) rfl hb1 rfl ?_
        refine g_icmp (v6 ≤ (gI g7 (b1) 7)) rfl (t := 42) rfl rfl (fun c9 => ?_) (fun c9 => ?_)
        · replace h := (if_pos c9).symm.trans h
          refine g_run 2 (pc' := 44) (L' := [some (.ref 506), some (.ref b1), some (.int y2), some (.int y3), none]) (S' := [.int y3, .ref 506]) (M' := gm g7) rfl ?_
          replace h := zB_of h
          obtain ⟨v10, g11, e12, h⟩ := h
          refine g_inv2 (kd := 1) (p_X2_heavyTogether  e12) rfl rfl rfl (by decide) rfl rfl rfl rfl (by omega) (pc' := 47) rfl (S' := [.int v10]) rfl ?_
          refine g_run 2 (pc' := 49) (L' := [some (.ref 506), some (.ref b1), some (.int y2), some (.int y3), none]) (S' := [.int y2, .ref 506, .int v10]) (M' := gm g11) rfl ?_
          replace h := zB_of h
          obtain ⟨v13, g14, e15, h⟩ := h
          refine g_inv2 (kd := 1) (p_X2_heavyTogether  e15) rfl rfl rfl (by decide) rfl rfl rfl rfl (by omega) (pc' := 52) rfl (S' := [.int v13, .int v10]) rfl ?_
          refine g_run 3 (pc' := 57) (L' := [some (.ref 506), some (.ref b1), some (.int y2), some (.int y3), some (.int ((v10 - v13)))]) (S' := [.int ((v10 - v13))]) (M' := gm g14) rfl ?_
          refine g_if (0 < (v10 - v13)) rfl (t := 76) rfl rfl (fun c16 => ?_) (fun c16 => ?_)
          · replace h := (if_pos c16).symm.trans h
            refine g_forget (L' := [some (.ref 506), some (.ref b1), none, some (.int y3), none]) (And.intro rfl (And.intro rfl (And.intro rfl True.intro))) ?_
            exact p_X2_worthiest_76 hD b1 hb1 (f_X2_worthiest_4 b1 n) ih (y3) g14 _ h
          · replace h := (if_neg c16).symm.trans h
            refine g_run 1 (pc' := 62) (L' := [some (.ref 506), some (.ref b1), some (.int y2), some (.int y3), some (.int ((v10 - v13)))]) (S' := [.int ((v10 - v13))]) (M' := gm g14) rfl ?_
            refine g_if (¬ (v10 - v13) = 0) rfl (t := 78) rfl rfl (fun c17 => ?_) (fun c17 => ?_)
            · replace h := (if_pos c17).symm.trans h
              refine g_forget (L' := [some (.ref 506), some (.ref b1), some (.int y2), some (.int y3), none]) (And.intro rfl (And.intro rfl (And.intro rfl (And.intro rfl True.intro)))) ?_
              exact p_X2_worthiest_78 hD b1 hb1 (f_X2_worthiest_4 b1 n) ih (y2) (y3) g14 _ h
            · replace h := (if_neg c17).symm.trans h
              refine g_run 1 (pc' := 66) (L' := [some (.ref 506), some (.ref b1), some (.int y2), some (.int y3), some (.int ((v10 - v13)))]) (S' := [.int y3]) (M' := gm g14) rfl ?_
              replace h := zB_of h
              obtain ⟨v18, g19, e20, h⟩ := h
              refine g_inv2 (kd := 0) (p_J6_bitCount_0f7a4  e20) rfl rfl rfl (by decide) rfl rfl rfl rfl (by omega) (pc' := 69) rfl (S' := [.int v18]) rfl ?_
              refine g_run 1 (pc' := 70) (L' := [some (.ref 506), some (.ref b1), some (.int y2), some (.int y3), some (.int ((v10 - v13)))]) (S' := [.int y2, .int v18]) (M' := gm g19) rfl ?_
              replace h := zB_of h
              obtain ⟨v21, g22, e23, h⟩ := h
              refine g_inv2 (kd := 0) (p_J6_bitCount_0f7a4  e23) rfl rfl rfl (by decide) rfl rfl rfl rfl (by omega) (pc' := 73) rfl (S' := [.int v21, .int v18]) rfl ?_
              refine g_icmp (v21 ≤ v18) rfl (t := 78) rfl rfl (fun c24 => ?_) (fun c24 => ?_)
              · replace h := (if_pos c24).symm.trans h
                refine g_forget (L' := [some (.ref 506), some (.ref b1), some (.int y2), some (.int y3), none]) (And.intro rfl (And.intro rfl (And.intro rfl (And.intro rfl True.intro)))) ?_
                exact p_X2_worthiest_78 hD b1 hb1 (f_X2_worthiest_4 b1 n) ih (y2) (y3) g22 _ h
              · replace h := (if_neg c24).symm.trans h
                refine g_forget (L' := [some (.ref 506), some (.ref b1), none, some (.int y3), none]) (And.intro rfl (And.intro rfl (And.intro rfl True.intro))) ?_
                exact p_X2_worthiest_76 hD b1 hb1 (f_X2_worthiest_4 b1 n) ih (y3) g22 _ h
        · replace h := (if_neg c9).symm.trans h
          refine g_run 1 (pc' := 78) (L' := [some (.ref 506), some (.ref b1), some (.int y2), some (.int y3), none]) (S' := []) (M' := gm g7) rfl ?_
          exact p_X2_worthiest_78 hD b1 hb1 (f_X2_worthiest_4 b1 n) ih (y2) (y3) g7 _ h
def f_X2_worthiest (b1 : Nat) (g : zSg) : Option (Int32 × zSg) := f_X2_worthiest_4 b1 zFu (0) (1) g
set_option maxRecDepth 100000 in
set_option maxHeartbeats 4000000 in
theorem p_X2_worthiest {sc : zSc} {hp : zHp} (b1 : Nat) (hb1 : (zK0 b1).1 = 8) {g : zSg} {r : Int32 × zSg} (h : f_X2_worthiest b1 g = some r) : zRn sc hp 4 zM_X2_worthiest [.ref 506, .ref b1] (gm g) (some (.int r.1)) (gm r.2) := by
  intro d hD
  obtain ⟨d, rfl⟩ : ∃ d', d = d' + 1 := ⟨d - 1, by omega⟩
  show zG _ sc hp (zcd zM_X2_worthiest) 0 [some (.ref 506), some (.ref b1), none, none, none] [] (gm g) _
  unfold f_X2_worthiest at h
  refine g_run 4 (pc' := 4) (L' := [some (.ref 506), some (.ref b1), some (.int 0), some (.int 1), none]) (S' := []) (M' := gm g) rfl ?_
  exact p_X2_worthiest_4 hD b1 hb1 zFu (0) (1) g _ h
def f_X8_hangs (a : Nat) (x1 : Int32) (g : zSg) : Option (Int32 × zSg) := (if (((gI g (a) 4) >>> (x1 &&& 31)) &&& 1) = 0 then some (0, g) else some (1, g))
set_option maxRecDepth 100000 in
set_option maxHeartbeats 4000000 in
theorem p_X8_hangs {sc : zSc} {hp : zHp} (a : Nat) (ha : (zK0 a).1 = 8) {x1 : Int32} {g : zSg} {r : Int32 × zSg} (h : f_X8_hangs a x1 g = some r) : zRn sc hp 0 zM_X8_hangs [.ref a, .int x1] (gm g) (some (.int r.1)) (gm r.2) := by
  intro d hD
  show zG _ sc hp (zcd zM_X8_hangs) 0 [some (.ref a), some (.int x1)] [] (gm g) _
  unfold f_X8_hangs at h
  refine g_run 1 (pc' := 1) (L' := [some (.ref a), some (.int x1)]) (S' := [.ref a]) (M' := gm g) rfl ?_
  refine g_getf rfl (ci := 8) (k := 4) rfl ha rfl ?_
  refine g_run 4 (pc' := 8) (L' := [some (.ref a), some (.int x1)]) (S' := [.int ((((gI g (a) 4) >>> (x1 &&& 31)) &&& 1))]) (M' := gm g) rfl ?_
  refine g_if ((((gI g (a) 4) >>> (x1 &&& 31)) &&& 1) = 0) rfl (t := 15) rfl rfl (fun c1 => ?_) (fun c1 => ?_)
  · replace h := (if_pos c1).symm.trans h
    refine g_run 1 (pc' := 16) (L' := [some (.ref a), some (.int x1)]) (S' := [.int 0]) (M' := gm g) rfl ?_
    cases h
    exact g_ret rfl rfl rfl rfl
  · replace h := (if_neg c1).symm.trans h
    refine g_run 2 (pc' := 16) (L' := [some (.ref a), some (.int x1)]) (S' := [.int 1]) (M' := gm g) rfl ?_
    cases h
    exact g_ret rfl rfl rfl rfl
def f_X10_airAt_46 (b1 : Nat) (k5 : Int32 → Int32 → Int32 → zSg → Option (Int32 × zSg)) (y2 : Int32) (y3 : Int32) (y4 : Int32) (g : zSg) : Option (Int32 × zSg) := k5 (y2) (y3) (y4 + 1) g
set_option maxRecDepth 100000 in
set_option maxHeartbeats 4000000 in
theorem p_X10_airAt_46 {sc : zSc} {hp : zHp} {d : Nat} (hD : 19 ≤ d) (b1 : Nat) (hb1 : (zK0 b1).1 = 8) (k5 : Int32 → Int32 → Int32 → zSg → Option (Int32 × zSg)) (hk5 : ∀ (y2 : Int32) (y3 : Int32) (y4 : Int32) (g : zSg) (r : Int32 × zSg), k5 y2 y3 y4 g = some r → zG d sc hp (zcd zM_X10_airAt) 5 [some (.ref 423), some (.ref b1), some (.int y2), some (.int y3), some (.int y4)] [] (gm g) ((some (.int r.1)), gm r.2)) (y2 : Int32) (y3 : Int32) (y4 : Int32) (g : zSg) (r : Int32 × zSg) (h : f_X10_airAt_46 b1 k5 y2 y3 y4 g = some r) : zG d sc hp (zcd zM_X10_airAt) 46 [some (.ref 423), some (.ref b1), some (.int y2), some (.int y3), some (.int y4)] [] (gm g) ((some (.int r.1)), gm r.2) := by
  obtain ⟨d, rfl⟩ : ∃ d', d = d' + 1 := ⟨d - 1, by omega⟩
  unfold f_X10_airAt_46 at h
  refine g_run 2 (pc' := 5) (L' := [some (.ref 423), some (.ref b1), some (.int y2), some (.int y3), some (.int ((y4 + 1)))]) (S' := []) (M' := gm g) rfl ?_
  exact hk5 (y2) (y3) (y4 + 1) g _ h
def fb_X10_airAt_5 (b1 : Nat) (kk : Int32 → Int32 → Int32 → zSg → Option (Int32 × zSg)) (y2 : Int32) (y3 : Int32) (y4 : Int32) (g : zSg) : Option (Int32 × zSg) := (zB (f_X0_secrets 3 g) (fun v1 g2 => (if v1 ≤ y4 then some (y3, g2) else (zB (f_X8_hangs b1 y4 g2) (fun v5 g6 => (if v5 = 0 then f_X10_airAt_46 b1 kk (y2) (y3) (y4) g6 else (zB (f_X0_heavy 3 y4 g6) (fun v9 g10 => (zB (f_X10_strengthAt b1 y4 y2 v9 g10) (fun v12 g13 => f_X10_airAt_46 b1 kk (y2) (y3 + v12) (y4) g13))))))))))
def f_X10_airAt_5 (b1 : Nat) : Nat → Int32 → Int32 → Int32 → zSg → Option (Int32 × zSg)
  | 0, _, _, _, _ => none
  | n + 1, y2, y3, y4, g => fb_X10_airAt_5 b1 (f_X10_airAt_5 b1 n) y2 y3 y4 g
set_option maxRecDepth 100000 in
set_option maxHeartbeats 4000000 in
theorem p_X10_airAt_5 {sc : zSc} {hp : zHp} {d : Nat} (hD : 19 ≤ d) (b1 : Nat) (hb1 : (zK0 b1).1 = 8) : ∀ (n : Nat) (y2 : Int32) (y3 : Int32) (y4 : Int32) (g : zSg) (r : Int32 × zSg), f_X10_airAt_5 b1 n y2 y3 y4 g = some r → zG d sc hp (zcd zM_X10_airAt) 5 [some (.ref 423), some (.ref b1), some (.int y2), some (.int y3), some (.int y4)] [] (gm g) ((some (.int r.1)), gm r.2) := by
  obtain ⟨d, rfl⟩ : ∃ d', d = d' + 1 := ⟨d - 1, by omega⟩
  intro n
  induction n with
  | zero => intro y2 y3 y4 g r h; cases h
  | succ n ih =>
    intro y2 y3 y4 g r h
    replace h : fb_X10_airAt_5 b1 (f_X10_airAt_5 b1 n) y2 y3 y4 g = some r := h
    unfold fb_X10_airAt_5 at h
    refine g_run 3 (pc' := 11) (L' := [some (.ref 423), some (.ref b1), some (.int y2), some (.int y3), some (.int y4)]) (S' := [.ref 3, .int y4]) (M' := gm g) rfl ?_
    replace h := zB_of h
    obtain ⟨v1, g2, e3, h⟩ := h
    refine g_inv2 (kd := 1) (p_X0_secrets 3 rfl e3) rfl rfl rfl (by decide) rfl rfl rfl rfl (by omega) (pc' := 14) rfl (S' := [.int v1, .int y4]) rfl ?_
    refine g_icmp (v1 ≤ y4) rfl (t := 52) rfl rfl (fun c4 => ?_) (fun c4 => ?_)
    · replace h := (if_pos c4).symm.trans h
      refine g_run 1 (pc' := 53) (L' := [some (.ref 423), some (.ref b1), some (.int y2), some (.int y3), some (.int y4)]) (S' := [.int y3]) (M' := gm g2) rfl ?_
      cases h
      exact g_ret rfl rfl rfl rfl
    · replace h := (if_neg c4).symm.trans h
      refine g_run 2 (pc' := 20) (L' := [some (.ref 423), some (.ref b1), some (.int y2), some (.int y3), some (.int y4)]) (S' := [.int y4, .ref b1]) (M' := gm g2) rfl ?_
      replace h := zB_of h
      obtain ⟨v5, g6, e7, h⟩ := h
      refine g_inv2 (kd := 1) (p_X8_hangs b1 hb1 e7) rfl rfl rfl (by decide) rfl (g_recv (a := b1) rfl (Nat.le_of_ble_eq_true rfl) (Nat.le_of_ble_eq_true rfl) (Nat.le_of_ble_eq_true rfl) (Nat.le_of_ble_eq_true rfl) rfl hb1 (Nat.le_of_ble_eq_true rfl)) rfl rfl (by omega) (pc' := 23) rfl (S' := [.int v5]) rfl ?_
      refine g_if (v5 = 0) rfl (t := 46) rfl rfl (fun c8 => ?_) (fun c8 => ?_)
      · replace h := (if_pos c8).symm.trans h
        exact p_X10_airAt_46 hD b1 hb1 (f_X10_airAt_5 b1 n) ih (y2) (y3) (y4) g6 _ h
      · replace h := (if_neg c8).symm.trans h
        refine g_run 8 (pc' := 38) (L' := [some (.ref 423), some (.ref b1), some (.int y2), some (.int y3), some (.int y4)]) (S' := [.int y4, .ref 3, .int y2, .int y4, .ref b1, .ref 423, .int y3]) (M' := gm g6) rfl ?_
        replace h := zB_of h
        obtain ⟨v9, g10, e11, h⟩ := h
        refine g_inv2 (kd := 1) (p_X0_heavy 3 rfl e11) rfl rfl rfl (by decide) rfl rfl rfl rfl (by omega) (pc' := 41) rfl (S' := [.int v9, .int y2, .int y4, .ref b1, .ref 423, .int y3]) rfl ?_
        replace h := zB_of h
        obtain ⟨v12, g13, e14, h⟩ := h
        refine g_inv2 (kd := 1) (p_X10_strengthAt b1 hb1 e14) rfl rfl rfl (by decide) rfl rfl rfl rfl (by omega) (pc' := 44) rfl (S' := [.int v12, .int y3]) rfl ?_
        refine g_run 2 (pc' := 46) (L' := [some (.ref 423), some (.ref b1), some (.int y2), some (.int ((y3 + v12))), some (.int y4)]) (S' := []) (M' := gm g13) rfl ?_
        exact p_X10_airAt_46 hD b1 hb1 (f_X10_airAt_5 b1 n) ih (y2) (y3 + v12) (y4) g13 _ h
def f_X10_airAt (b1 : Nat) (x2 : Int32) (g : zSg) : Option (Int32 × zSg) := f_X10_airAt_5 b1 zFu (x2) (0) (0) g
set_option maxRecDepth 100000 in
set_option maxHeartbeats 4000000 in
theorem p_X10_airAt {sc : zSc} {hp : zHp} (b1 : Nat) (hb1 : (zK0 b1).1 = 8) {x2 : Int32} {g : zSg} {r : Int32 × zSg} (h : f_X10_airAt b1 x2 g = some r) : zRn sc hp 19 zM_X10_airAt [.ref 423, .ref b1, .int x2] (gm g) (some (.int r.1)) (gm r.2) := by
  intro d hD
  obtain ⟨d, rfl⟩ : ∃ d', d = d' + 1 := ⟨d - 1, by omega⟩
  show zG _ sc hp (zcd zM_X10_airAt) 0 [some (.ref 423), some (.ref b1), some (.int x2), none, none] [] (gm g) _
  unfold f_X10_airAt at h
  refine g_run 4 (pc' := 5) (L' := [some (.ref 423), some (.ref b1), some (.int x2), some (.int 0), some (.int 0)]) (S' := []) (M' := gm g) rfl ?_
  exact p_X10_airAt_5 hD b1 hb1 zFu (x2) (0) (0) g _ h
def f_X2_nearestPure_60 (b1 : Nat) (k5 : Int32 → Int32 → Int32 → zSg → Option (Int32 × zSg)) (y2 : Int32) (y3 : Int32) (y4 : Int32) (g : zSg) : Option (Int32 × zSg) := k5 (y2) (y3) (y4 + 1) g
set_option maxRecDepth 100000 in
set_option maxHeartbeats 4000000 in
theorem p_X2_nearestPure_60 {sc : zSc} {hp : zHp} {d : Nat} (hD : 20 ≤ d) (b1 : Nat) (hb1 : (zK0 b1).1 = 8) (k5 : Int32 → Int32 → Int32 → zSg → Option (Int32 × zSg)) (hk5 : ∀ (y2 : Int32) (y3 : Int32) (y4 : Int32) (g : zSg) (r : Int32 × zSg), k5 y2 y3 y4 g = some r → zG d sc hp (zcd zM_X2_nearestPure) 5 [some (.ref 506), some (.ref b1), some (.int y2), some (.int y3), some (.int y4)] [] (gm g) ((some (.int r.1)), gm r.2)) (y2 : Int32) (y3 : Int32) (y4 : Int32) (g : zSg) (r : Int32 × zSg) (h : f_X2_nearestPure_60 b1 k5 y2 y3 y4 g = some r) : zG d sc hp (zcd zM_X2_nearestPure) 60 [some (.ref 506), some (.ref b1), some (.int y2), some (.int y3), some (.int y4)] [] (gm g) ((some (.int r.1)), gm r.2) := by
  obtain ⟨d, rfl⟩ : ∃ d', d = d' + 1 := ⟨d - 1, by omega⟩
  unfold f_X2_nearestPure_60 at h
  refine g_run 2 (pc' := 5) (L' := [some (.ref 506), some (.ref b1), some (.int y2), some (.int y3), some (.int ((y4 + 1)))]) (S' := []) (M' := gm g) rfl ?_
  exact hk5 (y2) (y3) (y4 + 1) g _ h
def f_X2_nearestPure_57 (b1 : Nat) (k5 : Int32 → Int32 → Int32 → zSg → Option (Int32 × zSg)) (y2 : Int32) (y4 : Int32) (g : zSg) : Option (Int32 × zSg) := f_X2_nearestPure_60 b1 k5 (y2) (y4) (y4) g
set_option maxRecDepth 100000 in
set_option maxHeartbeats 4000000 in
theorem p_X2_nearestPure_57 {sc : zSc} {hp : zHp} {d : Nat} (hD : 20 ≤ d) (b1 : Nat) (hb1 : (zK0 b1).1 = 8) (k5 : Int32 → Int32 → Int32 → zSg → Option (Int32 × zSg)) (hk5 : ∀ (y2 : Int32) (y3 : Int32) (y4 : Int32) (g : zSg) (r : Int32 × zSg), k5 y2 y3 y4 g = some r → zG d sc hp (zcd zM_X2_nearestPure) 5 [some (.ref 506), some (.ref b1), some (.int y2), some (.int y3), some (.int y4)] [] (gm g) ((some (.int r.1)), gm r.2)) (y2 : Int32) (y4 : Int32) (g : zSg) (r : Int32 × zSg) (h : f_X2_nearestPure_57 b1 k5 y2 y4 g = some r) : zG d sc hp (zcd zM_X2_nearestPure) 57 [some (.ref 506), some (.ref b1), some (.int y2), none, some (.int y4)] [] (gm g) ((some (.int r.1)), gm r.2) := by
  obtain ⟨d, rfl⟩ : ∃ d', d = d' + 1 := ⟨d - 1, by omega⟩
  unfold f_X2_nearestPure_57 at h
  refine g_run 2 (pc' := 60) (L' := [some (.ref 506), some (.ref b1), some (.int y2), some (.int y4), some (.int y4)]) (S' := []) (M' := gm g) rfl ?_
  exact p_X2_nearestPure_60 hD b1 hb1 k5 hk5 (y2) (y4) (y4) g _ h
def fb_X2_nearestPure_5 (b1 : Nat) (kk : Int32 → Int32 → Int32 → zSg → Option (Int32 × zSg)) (y2 : Int32) (y3 : Int32) (y4 : Int32) (g : zSg) : Option (Int32 × zSg) := (zB (f_X0_cells 3 g) (fun v1 g2 => (if v1 ≤ y4 then some (y3, g2) else (zB (f_X10_airAt b1 y4 g2) (fun v5 g6 => (if ¬ v5 = 0 then f_X2_nearestPure_60 b1 kk (y2) (y3) (y4) g6 else (if y3 = (-1) then f_X2_nearestPure_57 b1 kk (y2) (y4) g6 else (zB (f_X0_steps 3 y2 y4 g6) (fun v10 g11 => (zB (f_X0_steps 3 y2 y3 g11) (fun v13 g14 => (if v13 ≤ v10 then f_X2_nearestPure_60 b1 kk (y2) (y3) (y4) g14 else f_X2_nearestPure_57 b1 kk (y2) (y4) g14))))))))))))
def f_X2_nearestPure_5 (b1 : Nat) : Nat → Int32 → Int32 → Int32 → zSg → Option (Int32 × zSg)
  | 0, _, _, _, _ => none
  | n + 1, y2, y3, y4, g => fb_X2_nearestPure_5 b1 (f_X2_nearestPure_5 b1 n) y2 y3 y4 g
set_option maxRecDepth 100000 in
set_option maxHeartbeats 4000000 in
theorem p_X2_nearestPure_5 {sc : zSc} {hp : zHp} {d : Nat} (hD : 20 ≤ d) (b1 : Nat) (hb1 : (zK0 b1).1 = 8) : ∀ (n : Nat) (y2 : Int32) (y3 : Int32) (y4 : Int32) (g : zSg) (r : Int32 × zSg), f_X2_nearestPure_5 b1 n y2 y3 y4 g = some r → zG d sc hp (zcd zM_X2_nearestPure) 5 [some (.ref 506), some (.ref b1), some (.int y2), some (.int y3), some (.int y4)] [] (gm g) ((some (.int r.1)), gm r.2) := by
  obtain ⟨d, rfl⟩ : ∃ d', d = d' + 1 := ⟨d - 1, by omega⟩
  intro n
  induction n with
  | zero => intro y2 y3 y4 g r h; cases h
  | succ n ih =>
    intro y2 y3 y4 g r h
    replace h : fb_X2_nearestPure_5 b1 (f_X2_nearestPure_5 b1 n) y2 y3 y4 g = some r := h
    unfold fb_X2_nearestPure_5 at h
    refine g_run 3 (pc' := 11) (L' := [some (.ref 506), some (.ref b1), some (.int y2), some (.int y3), some (.int y4)]) (S' := [.ref 3, .int y4]) (M' := gm g) rfl ?_
    replace h := zB_of h
    obtain ⟨v1, g2, e3, h⟩ := h
    refine g_inv2 (kd := 1) (p_X0_cells 3 rfl e3) rfl rfl rfl (by decide) rfl rfl rfl rfl (by omega) (pc' := 14) rfl (S' := [.int v1, .int y4]) rfl ?_
    refine g_icmp (v1 ≤ y4) rfl (t := 66) rfl rfl (fun c4 => ?_) (fun c4 => ?_)
    · replace h := (if_pos c4).symm.trans h
      refine g_run 1 (pc' := 67) (L' := [some (.ref 506), some (.ref b1), some (.int y2), some (.int y3), some (.int y4)]) (S' := [.int y3]) (M' := gm g2) rfl ?_
      cases h
      exact g_ret rfl rfl rfl rfl
    · replace h := (if_neg c4).symm.trans h
      refine g_run 4 (pc' := 24) (L' := [some (.ref 506), some (.ref b1), some (.int y2), some (.int y3), some (.int y4)]) (S' := [.int y4, .ref b1, .ref 423]) (M' := gm g2) rfl ?_
      replace h := zB_of h
      obtain ⟨v5, g6, e7, h⟩ := h
      refine g_inv2 (kd := 1) (p_X10_airAt b1 hb1 e7) rfl rfl rfl (by decide) rfl rfl rfl rfl (by omega) (pc' := 27) rfl (S' := [.int v5]) rfl ?_
      refine g_if (¬ v5 = 0) rfl (t := 60) rfl rfl (fun c8 => ?_) (fun c8 => ?_)
      · replace h := (if_pos c8).symm.trans h
        exact p_X2_nearestPure_60 hD b1 hb1 (f_X2_nearestPure_5 b1 n) ih (y2) (y3) (y4) g6 _ h
      · replace h := (if_neg c8).symm.trans h
        refine g_run 2 (pc' := 32) (L' := [some (.ref 506), some (.ref b1), some (.int y2), some (.int y3), some (.int y4)]) (S' := [.int (-1), .int y3]) (M' := gm g6) rfl ?_
        refine g_icmp (y3 = (-1)) rfl (t := 57) rfl rfl (fun c9 => ?_) (fun c9 => ?_)
        · replace h := (if_pos c9).symm.trans h
          refine g_forget (L' := [some (.ref 506), some (.ref b1), some (.int y2), none, some (.int y4)]) (And.intro rfl (And.intro rfl (And.intro rfl (And.intro rfl True.intro)))) ?_
          exact p_X2_nearestPure_57 hD b1 hb1 (f_X2_nearestPure_5 b1 n) ih (y2) (y4) g6 _ h
        · replace h := (if_neg c9).symm.trans h
          refine g_run 4 (pc' := 42) (L' := [some (.ref 506), some (.ref b1), some (.int y2), some (.int y3), some (.int y4)]) (S' := [.int y4, .int y2, .ref 3]) (M' := gm g6) rfl ?_
          replace h := zB_of h
          obtain ⟨v10, g11, e12, h⟩ := h
          refine g_inv2 (kd := 1) (p_X0_steps 3 rfl e12) rfl rfl rfl (by decide) rfl rfl rfl rfl (by omega) (pc' := 45) rfl (S' := [.int v10]) rfl ?_
          refine g_run 4 (pc' := 51) (L' := [some (.ref 506), some (.ref b1), some (.int y2), some (.int y3), some (.int y4)]) (S' := [.int y3, .int y2, .ref 3, .int v10]) (M' := gm g11) rfl ?_
          replace h := zB_of h
          obtain ⟨v13, g14, e15, h⟩ := h
          refine g_inv2 (kd := 1) (p_X0_steps 3 rfl e15) rfl rfl rfl (by decide) rfl rfl rfl rfl (by omega) (pc' := 54) rfl (S' := [.int v13, .int v10]) rfl ?_
          refine g_icmp (v13 ≤ v10) rfl (t := 60) rfl rfl (fun c16 => ?_) (fun c16 => ?_)
          · replace h := (if_pos c16).symm.trans h
            exact p_X2_nearestPure_60 hD b1 hb1 (f_X2_nearestPure_5 b1 n) ih (y2) (y3) (y4) g14 _ h
          · replace h := (if_neg c16).symm.trans h
            refine g_forget (L' := [some (.ref 506), some (.ref b1), some (.int y2), none, some (.int y4)]) (And.intro rfl (And.intro rfl (And.intro rfl (And.intro rfl True.intro)))) ?_
            exact p_X2_nearestPure_57 hD b1 hb1 (f_X2_nearestPure_5 b1 n) ih (y2) (y4) g14 _ h
def f_X2_nearestPure (b1 : Nat) (x2 : Int32) (g : zSg) : Option (Int32 × zSg) := f_X2_nearestPure_5 b1 zFu (x2) (-1) (0) g
set_option maxRecDepth 100000 in
set_option maxHeartbeats 4000000 in
theorem p_X2_nearestPure {sc : zSc} {hp : zHp} (b1 : Nat) (hb1 : (zK0 b1).1 = 8) {x2 : Int32} {g : zSg} {r : Int32 × zSg} (h : f_X2_nearestPure b1 x2 g = some r) : zRn sc hp 20 zM_X2_nearestPure [.ref 506, .ref b1, .int x2] (gm g) (some (.int r.1)) (gm r.2) := by
  intro d hD
  obtain ⟨d, rfl⟩ : ∃ d', d = d' + 1 := ⟨d - 1, by omega⟩
  show zG _ sc hp (zcd zM_X2_nearestPure) 0 [some (.ref 506), some (.ref b1), some (.int x2), none, none] [] (gm g) _
  unfold f_X2_nearestPure at h
  refine g_run 4 (pc' := 5) (L' := [some (.ref 506), some (.ref b1), some (.int x2), some (.int (-1)), some (.int 0)]) (S' := []) (M' := gm g) rfl ?_
  exact p_X2_nearestPure_5 hD b1 hb1 zFu (x2) (-1) (0) g _ h
def f_X2_goes (x1 : Int32) (x2 : Int32) (g : zSg) : Option (Int32 × zSg) := (zB (f_X0_beside 3 x1 x2 g) (fun v1 g2 => (if ¬ v1 = (-1) then some (v1, g2) else some (x1, g2))))
set_option maxRecDepth 100000 in
set_option maxHeartbeats 4000000 in
theorem p_X2_goes {sc : zSc} {hp : zHp} {x1 : Int32} {x2 : Int32} {g : zSg} {r : Int32 × zSg} (h : f_X2_goes x1 x2 g = some r) : zRn sc hp 3 zM_X2_goes [.ref 506, .int x1, .int x2] (gm g) (some (.int r.1)) (gm r.2) := by
  intro d hD
  obtain ⟨d, rfl⟩ : ∃ d', d = d' + 1 := ⟨d - 1, by omega⟩
  show zG _ sc hp (zcd zM_X2_goes) 0 [some (.ref 506), some (.int x1), some (.int x2), none] [] (gm g) _
  unfold f_X2_goes at h
  refine g_run 4 (pc' := 6) (L' := [some (.ref 506), some (.int x1), some (.int x2), none]) (S' := [.int x2, .int x1, .ref 3]) (M' := gm g) rfl ?_
  replace h := zB_of h
  obtain ⟨v1, g2, e3, h⟩ := h
  refine g_inv2 (kd := 1) (p_X0_beside 3 rfl e3) rfl rfl rfl (by decide) rfl rfl rfl rfl (by omega) (pc' := 9) rfl (S' := [.int v1]) rfl ?_
  refine g_run 3 (pc' := 12) (L' := [some (.ref 506), some (.int x1), some (.int x2), some (.int v1)]) (S' := [.int (-1), .int v1]) (M' := gm g2) rfl ?_
  refine g_icmp (¬ v1 = (-1)) rfl (t := 19) rfl rfl (fun c4 => ?_) (fun c4 => ?_)
  · replace h := (if_pos c4).symm.trans h
    refine g_run 1 (pc' := 20) (L' := [some (.ref 506), some (.int x1), some (.int x2), some (.int v1)]) (S' := [.int v1]) (M' := gm g2) rfl ?_
    cases h
    exact g_ret rfl rfl rfl rfl
  · replace h := (if_neg c4).symm.trans h
    refine g_run 2 (pc' := 20) (L' := [some (.ref 506), some (.int x1), some (.int x2), some (.int v1)]) (S' := [.int x1]) (M' := gm g2) rfl ?_
    cases h
    exact g_ret rfl rfl rfl rfl
def f_X2_gain_39 (b1 : Nat) (y4 : Int32) (y7 : Int32) (g : zSg) : Option (Int32 × zSg) := (if ¬ y4 = 4 then some ((y7 - 1), g) else some (y7, g))
set_option maxRecDepth 100000 in
set_option maxHeartbeats 4000000 in
theorem p_X2_gain_39 {sc : zSc} {hp : zHp} {d : Nat} (hD : 20 ≤ d) (b1 : Nat) (hb1 : (zK0 b1).1 = 8) (y4 : Int32) (y7 : Int32) (g : zSg) (r : Int32 × zSg) (h : f_X2_gain_39 b1 y4 y7 g = some r) : zG d sc hp (zcd zM_X2_gain) 39 [none, none, none, none, some (.int y4), none, none, some (.int y7)] [] (gm g) ((some (.int r.1)), gm r.2) := by
  obtain ⟨d, rfl⟩ : ∃ d', d = d' + 1 := ⟨d - 1, by omega⟩
  unfold f_X2_gain_39 at h
  refine g_run 2 (pc' := 42) (L' := [none, none, none, none, some (.int y4), none, none, some (.int y7)]) (S' := [.int 4, .int y4]) (M' := gm g) rfl ?_
  refine g_icmp (¬ y4 = 4) rfl (t := 50) rfl rfl (fun c1 => ?_) (fun c1 => ?_)
  · replace h := (if_pos c1).symm.trans h
    refine g_run 3 (pc' := 54) (L' := [none, none, none, none, some (.int y4), none, none, some (.int y7)]) (S' := [.int ((y7 - 1))]) (M' := gm g) rfl ?_
    cases h
    exact g_ret rfl rfl rfl rfl
  · replace h := (if_neg c1).symm.trans h
    refine g_run 2 (pc' := 54) (L' := [none, none, none, none, some (.int y4), none, none, some (.int y7)]) (S' := [.int y7]) (M' := gm g) rfl ?_
    cases h
    exact g_ret rfl rfl rfl rfl
def f_X2_gain (b1 : Nat) (x2 : Int32) (x3 : Int32) (x4 : Int32) (x5 : Int32) (g : zSg) : Option (Int32 × zSg) := (zB (f_X2_goes x2 x4 g) (fun v1 g2 => (zB (f_X10_airAt b1 v1 g2) (fun v4 g5 => (zB (f_X2_goes x3 x5 g5) (fun v7 g8 => (if ¬ v1 = v7 then f_X2_gain_39 b1 (x4) (9 - v4) g8 else f_X2_gain_39 b1 (x4) ((9 - v4) + 5) g8)))))))
set_option maxRecDepth 100000 in
set_option maxHeartbeats 4000000 in
theorem p_X2_gain {sc : zSc} {hp : zHp} (b1 : Nat) (hb1 : (zK0 b1).1 = 8) {x2 : Int32} {x3 : Int32} {x4 : Int32} {x5 : Int32} {g : zSg} {r : Int32 × zSg} (h : f_X2_gain b1 x2 x3 x4 x5 g = some r) : zRn sc hp 20 zM_X2_gain [.ref 506, .ref b1, .int x2, .int x3, .int x4, .int x5] (gm g) (some (.int r.1)) (gm r.2) := by
  intro d hD
  obtain ⟨d, rfl⟩ : ∃ d', d = d' + 1 := ⟨d - 1, by omega⟩
  show zG _ sc hp (zcd zM_X2_gain) 0 [some (.ref 506), some (.ref b1), some (.int x2), some (.int x3), some (.int x4), some (.int x5), none, none] [] (gm g) _
  unfold f_X2_gain at h
  refine g_run 3 (pc' := 4) (L' := [some (.ref 506), some (.ref b1), some (.int x2), some (.int x3), some (.int x4), some (.int x5), none, none]) (S' := [.int x4, .int x2, .ref 506]) (M' := gm g) rfl ?_
  replace h := zB_of h
  obtain ⟨v1, g2, e3, h⟩ := h
  refine g_inv2 (kd := 1) (p_X2_goes  e3) rfl rfl rfl (by decide) rfl rfl rfl rfl (by omega) (pc' := 7) rfl (S' := [.int v1]) rfl ?_
  refine g_run 6 (pc' := 18) (L' := [some (.ref 506), some (.ref b1), some (.int x2), some (.int x3), some (.int x4), some (.int x5), some (.int v1), none]) (S' := [.int v1, .ref b1, .ref 423, .int 9]) (M' := gm g2) rfl ?_
  replace h := zB_of h
  obtain ⟨v4, g5, e6, h⟩ := h
  refine g_inv2 (kd := 1) (p_X10_airAt b1 hb1 e6) rfl rfl rfl (by decide) rfl rfl rfl rfl (by omega) (pc' := 21) rfl (S' := [.int v4, .int 9]) rfl ?_
  refine g_run 6 (pc' := 30) (L' := [some (.ref 506), some (.ref b1), some (.int x2), some (.int x3), some (.int x4), some (.int x5), some (.int v1), some (.int ((9 - v4)))]) (S' := [.int x5, .int x3, .ref 506, .int v1]) (M' := gm g5) rfl ?_
  replace h := zB_of h
  obtain ⟨v7, g8, e9, h⟩ := h
  refine g_inv2 (kd := 1) (p_X2_goes  e9) rfl rfl rfl (by decide) rfl rfl rfl rfl (by omega) (pc' := 33) rfl (S' := [.int v7, .int v1]) rfl ?_
  refine g_icmp (¬ v1 = v7) rfl (t := 39) rfl rfl (fun c10 => ?_) (fun c10 => ?_)
  · replace h := (if_pos c10).symm.trans h
    refine g_forget (L' := [none, none, none, none, some (.int x4), none, none, some (.int ((9 - v4)))]) (And.intro rfl (And.intro rfl True.intro)) ?_
    exact p_X2_gain_39 hD b1 hb1 (x4) (9 - v4) g8 _ h
  · replace h := (if_neg c10).symm.trans h
    refine g_run 1 (pc' := 39) (L' := [some (.ref 506), some (.ref b1), some (.int x2), some (.int x3), some (.int x4), some (.int x5), some (.int v1), some (.int (((9 - v4) + 5)))]) (S' := []) (M' := gm g8) rfl ?_
    refine g_forget (L' := [none, none, none, none, some (.int x4), none, none, some (.int (((9 - v4) + 5)))]) (And.intro rfl (And.intro rfl True.intro)) ?_
    exact p_X2_gain_39 hD b1 hb1 (x4) ((9 - v4) + 5) g8 _ h
def fb_X2_isRest_30 (kk : Int32 → Int32 → Int32 → Int32 → Int32 → zSg → Option (Int32 × zSg)) (y1 : Int32) (y2 : Int32) (y3 : Int32) (y4 : Int32) (y5 : Int32) (g : zSg) : Option (Int32 × zSg) := (if 5 ≤ y5 then some (1, g) else (zB (f_X7_get 522 ((y5 * 5) + y2) g) (fun v2 g3 => (if y3 < v2 then some (0, g3) else (zB (f_X7_get 524 ((y1 * 5) + y5) g3) (fun v6 g7 => (if v6 ≤ y4 then kk (y1) (y2) (y3) (y4) (y5 + 1) g7 else some (0, g7))))))))
def f_X2_isRest_30 : Nat → Int32 → Int32 → Int32 → Int32 → Int32 → zSg → Option (Int32 × zSg)
  | 0, _, _, _, _, _, _ => none
  | n + 1, y1, y2, y3, y4, y5, g => fb_X2_isRest_30 (f_X2_isRest_30 n) y1 y2 y3 y4 y5 g
set_option maxRecDepth 100000 in
set_option maxHeartbeats 4000000 in
theorem p_X2_isRest_30 {sc : zSc} {hp : zHp} {d : Nat} (hD : 1 ≤ d) : ∀ (n : Nat) (y1 : Int32) (y2 : Int32) (y3 : Int32) (y4 : Int32) (y5 : Int32) (g : zSg) (r : Int32 × zSg), f_X2_isRest_30 n y1 y2 y3 y4 y5 g = some r → zG d sc hp (zcd zM_X2_isRest) 30 [some (.ref 506), some (.int y1), some (.int y2), some (.int y3), some (.int y4), some (.int y5)] [] (gm g) ((some (.int r.1)), gm r.2) := by
  obtain ⟨d, rfl⟩ : ∃ d', d = d' + 1 := ⟨d - 1, by omega⟩
  intro n
  induction n with
  | zero => intro y1 y2 y3 y4 y5 g r h; cases h
  | succ n ih =>
    intro y1 y2 y3 y4 y5 g r h
    replace h : fb_X2_isRest_30 (f_X2_isRest_30 n) y1 y2 y3 y4 y5 g = some r := h
    unfold fb_X2_isRest_30 at h
    refine g_run 2 (pc' := 33) (L' := [some (.ref 506), some (.int y1), some (.int y2), some (.int y3), some (.int y4), some (.int y5)]) (S' := [.int 5, .int y5]) (M' := gm g) rfl ?_
    refine g_icmp (5 ≤ y5) rfl (t := 79) rfl rfl (fun c1 => ?_) (fun c1 => ?_)
    · replace h := (if_pos c1).symm.trans h
      refine g_run 1 (pc' := 80) (L' := [some (.ref 506), some (.int y1), some (.int y2), some (.int y3), some (.int y4), some (.int y5)]) (S' := [.int 1]) (M' := gm g) rfl ?_
      cases h
      exact g_ret rfl rfl rfl rfl
    · replace h := (if_neg c1).symm.trans h
      refine g_run 7 (pc' := 46) (L' := [some (.ref 506), some (.int y1), some (.int y2), some (.int y3), some (.int y4), some (.int y5)]) (S' := [.int (((y5 * 5) + y2)), .ref 522]) (M' := gm g) rfl ?_
      replace h := zB_of h
      obtain ⟨v2, g3, e4, h⟩ := h
      refine g_inv2 (kd := 1) (p_X7_get 522 rfl e4) rfl rfl rfl (by decide) rfl rfl rfl rfl (by omega) (pc' := 49) rfl (S' := [.int v2]) rfl ?_
      refine g_run 1 (pc' := 50) (L' := [some (.ref 506), some (.int y1), some (.int y2), some (.int y3), some (.int y4), some (.int y5)]) (S' := [.int y3, .int v2]) (M' := gm g3) rfl ?_
      refine g_icmp (y3 < v2) rfl (t := 71) rfl rfl (fun c5 => ?_) (fun c5 => ?_)
      · replace h := (if_pos c5).symm.trans h
        refine g_run 1 (pc' := 72) (L' := [some (.ref 506), some (.int y1), some (.int y2), some (.int y3), some (.int y4), some (.int y5)]) (S' := [.int 0]) (M' := gm g3) rfl ?_
        cases h
        exact g_ret rfl rfl rfl rfl
      · replace h := (if_neg c5).symm.trans h
        refine g_run 7 (pc' := 63) (L' := [some (.ref 506), some (.int y1), some (.int y2), some (.int y3), some (.int y4), some (.int y5)]) (S' := [.int (((y1 * 5) + y5)), .ref 524]) (M' := gm g3) rfl ?_
        replace h := zB_of h
        obtain ⟨v6, g7, e8, h⟩ := h
        refine g_inv2 (kd := 1) (p_X7_get 524 rfl e8) rfl rfl rfl (by decide) rfl rfl rfl rfl (by omega) (pc' := 66) rfl (S' := [.int v6]) rfl ?_
        refine g_run 1 (pc' := 68) (L' := [some (.ref 506), some (.int y1), some (.int y2), some (.int y3), some (.int y4), some (.int y5)]) (S' := [.int y4, .int v6]) (M' := gm g7) rfl ?_
        refine g_icmp (v6 ≤ y4) rfl (t := 73) rfl rfl (fun c9 => ?_) (fun c9 => ?_)
        · replace h := (if_pos c9).symm.trans h
          refine g_run 2 (pc' := 30) (L' := [some (.ref 506), some (.int y1), some (.int y2), some (.int y3), some (.int y4), some (.int ((y5 + 1)))]) (S' := []) (M' := gm g7) rfl ?_
          exact ih (y1) (y2) (y3) (y4) (y5 + 1) g7 _ h
        · replace h := (if_neg c9).symm.trans h
          refine g_run 1 (pc' := 72) (L' := [some (.ref 506), some (.int y1), some (.int y2), some (.int y3), some (.int y4), some (.int y5)]) (S' := [.int 0]) (M' := gm g7) rfl ?_
          cases h
          exact g_ret rfl rfl rfl rfl
def f_X2_isRest (x1 : Int32) (x2 : Int32) (g : zSg) : Option (Int32 × zSg) := (zB (f_X7_get 522 ((x1 * 5) + x2) g) (fun v1 g2 => (zB (f_X7_get 524 ((x1 * 5) + x2) g2) (fun v4 g5 => f_X2_isRest_30 zFu (x1) (x2) (v1) (v4) (0) g5))))
set_option maxRecDepth 100000 in
set_option maxHeartbeats 4000000 in
theorem p_X2_isRest {sc : zSc} {hp : zHp} {x1 : Int32} {x2 : Int32} {g : zSg} {r : Int32 × zSg} (h : f_X2_isRest x1 x2 g = some r) : zRn sc hp 1 zM_X2_isRest [.ref 506, .int x1, .int x2] (gm g) (some (.int r.1)) (gm r.2) := by
  intro d hD
  obtain ⟨d, rfl⟩ : ∃ d', d = d' + 1 := ⟨d - 1, by omega⟩
  show zG _ sc hp (zcd zM_X2_isRest) 0 [some (.ref 506), some (.int x1), some (.int x2), none, none, none] [] (gm g) _
  unfold f_X2_isRest at h
  refine g_run 7 (pc' := 9) (L' := [some (.ref 506), some (.int x1), some (.int x2), none, none, none]) (S' := [.int (((x1 * 5) + x2)), .ref 522]) (M' := gm g) rfl ?_
  replace h := zB_of h
  obtain ⟨v1, g2, e3, h⟩ := h
  refine g_inv2 (kd := 1) (p_X7_get 522 rfl e3) rfl rfl rfl (by decide) rfl rfl rfl rfl (by omega) (pc' := 12) rfl (S' := [.int v1]) rfl ?_
  refine g_run 8 (pc' := 22) (L' := [some (.ref 506), some (.int x1), some (.int x2), some (.int v1), none, none]) (S' := [.int (((x1 * 5) + x2)), .ref 524]) (M' := gm g2) rfl ?_
  replace h := zB_of h
  obtain ⟨v4, g5, e6, h⟩ := h
  refine g_inv2 (kd := 1) (p_X7_get 524 rfl e6) rfl rfl rfl (by decide) rfl rfl rfl rfl (by omega) (pc' := 25) rfl (S' := [.int v4]) rfl ?_
  refine g_run 3 (pc' := 30) (L' := [some (.ref 506), some (.int x1), some (.int x2), some (.int v1), some (.int v4), some (.int 0)]) (S' := []) (M' := gm g5) rfl ?_
  exact p_X2_isRest_30 hD zFu (x1) (x2) (v1) (v4) (0) g5 _ h
def f_X2_rest_164 (b1 : Nat) (y4 : Int32) (y7 : Int32) (g : zSg) : Option (Int32 × zSg) := (if ¬ y4 = (-1) then some ((-1), g) else some (y7, g))
set_option maxRecDepth 100000 in
set_option maxHeartbeats 4000000 in
theorem p_X2_rest_164 {sc : zSc} {hp : zHp} {d : Nat} (hD : 21 ≤ d) (b1 : Nat) (hb1 : (zK0 b1).1 = 8) (y4 : Int32) (y7 : Int32) (g : zSg) (r : Int32 × zSg) (h : f_X2_rest_164 b1 y4 y7 g = some r) : zG d sc hp (zcd zM_X2_rest) 164 [none, none, none, none, some (.int y4), none, none, some (.int y7), none] [] (gm g) ((some (.int r.1)), gm r.2) := by
  obtain ⟨d, rfl⟩ : ∃ d', d = d' + 1 := ⟨d - 1, by omega⟩
  unfold f_X2_rest_164 at h
  refine g_run 2 (pc' := 167) (L' := [none, none, none, none, some (.int y4), none, none, some (.int y7), none]) (S' := [.int (-1), .int y4]) (M' := gm g) rfl ?_
  refine g_icmp (¬ y4 = (-1)) rfl (t := 175) rfl rfl (fun c1 => ?_) (fun c1 => ?_)
  · replace h := (if_pos c1).symm.trans h
    refine g_run 1 (pc' := 176) (L' := [none, none, none, none, some (.int y4), none, none, some (.int y7), none]) (S' := [.int (-1)]) (M' := gm g) rfl ?_
    cases h
    exact g_ret rfl rfl rfl rfl
  · replace h := (if_neg c1).symm.trans h
    refine g_run 2 (pc' := 176) (L' := [none, none, none, none, some (.int y4), none, none, some (.int y7), none]) (S' := [.int y7]) (M' := gm g) rfl ?_
    cases h
    exact g_ret rfl rfl rfl rfl
def f_X2_rest_158 (b1 : Nat) (k110 : Int32 → Int32 → Int32 → zSg → Option (Int32 × zSg)) (y4 : Int32) (y7 : Int32) (y8 : Int32) (g : zSg) : Option (Int32 × zSg) := k110 (y4) (y7) (y8 + 1) g
set_option maxRecDepth 100000 in
set_option maxHeartbeats 4000000 in
theorem p_X2_rest_158 {sc : zSc} {hp : zHp} {d : Nat} (hD : 21 ≤ d) (b1 : Nat) (hb1 : (zK0 b1).1 = 8) (k110 : Int32 → Int32 → Int32 → zSg → Option (Int32 × zSg)) (hk110 : ∀ (y4 : Int32) (y7 : Int32) (y8 : Int32) (g : zSg) (r : Int32 × zSg), k110 y4 y7 y8 g = some r → zG d sc hp (zcd zM_X2_rest) 110 [some (.ref 506), none, none, none, some (.int y4), none, none, some (.int y7), some (.int y8)] [] (gm g) ((some (.int r.1)), gm r.2)) (y4 : Int32) (y7 : Int32) (y8 : Int32) (g : zSg) (r : Int32 × zSg) (h : f_X2_rest_158 b1 k110 y4 y7 y8 g = some r) : zG d sc hp (zcd zM_X2_rest) 158 [some (.ref 506), none, none, none, some (.int y4), none, none, some (.int y7), some (.int y8)] [] (gm g) ((some (.int r.1)), gm r.2) := by
  obtain ⟨d, rfl⟩ : ∃ d', d = d' + 1 := ⟨d - 1, by omega⟩
  unfold f_X2_rest_158 at h
  refine g_run 2 (pc' := 110) (L' := [some (.ref 506), none, none, none, some (.int y4), none, none, some (.int y7), some (.int ((y8 + 1)))]) (S' := []) (M' := gm g) rfl ?_
  exact hk110 (y4) (y7) (y8 + 1) g _ h
def f_X2_rest_142 (b1 : Nat) (y8 : Int32) (g : zSg) : Option (Int32 × zSg) := some ((((y8 / 5) * 10) + (imod y8 5)), g)
set_option maxRecDepth 100000 in
set_option maxHeartbeats 4000000 in
theorem p_X2_rest_142 {sc : zSc} {hp : zHp} {d : Nat} (hD : 21 ≤ d) (b1 : Nat) (hb1 : (zK0 b1).1 = 8) (y8 : Int32) (g : zSg) (r : Int32 × zSg) (h : f_X2_rest_142 b1 y8 g = some r) : zG d sc hp (zcd zM_X2_rest) 142 [none, none, none, none, none, none, none, none, some (.int y8)] [] (gm g) ((some (.int r.1)), gm r.2) := by
  obtain ⟨d, rfl⟩ : ∃ d', d = d' + 1 := ⟨d - 1, by omega⟩
  unfold f_X2_rest_142 at h
  refine g_run 9 (pc' := 154) (L' := [none, none, none, none, none, none, none, none, some (.int y8)]) (S' := [.int ((((y8 / 5) * 10) + (imod y8 5)))]) (M' := gm g) rfl ?_
  cases h
  exact g_ret rfl rfl rfl rfl
def fb_X2_rest_110 (b1 : Nat) (kk : Int32 → Int32 → Int32 → zSg → Option (Int32 × zSg)) (y4 : Int32) (y7 : Int32) (y8 : Int32) (g : zSg) : Option (Int32 × zSg) := (if 25 ≤ y8 then f_X2_rest_164 b1 (y4) (y7) g else (zB (f_X2_isRest (y8 / 5) (imod y8 5) g) (fun v2 g3 => (if ¬ v2 = 0 then (if ¬ y7 = y4 then f_X2_rest_158 b1 kk (y4) (y7 + 1) (y8) g3 else f_X2_rest_142 b1 (y8) g3) else f_X2_rest_158 b1 kk (y4) (y7) (y8) g3))))
def f_X2_rest_110 (b1 : Nat) : Nat → Int32 → Int32 → Int32 → zSg → Option (Int32 × zSg)
  | 0, _, _, _, _ => none
  | n + 1, y4, y7, y8, g => fb_X2_rest_110 b1 (f_X2_rest_110 b1 n) y4 y7 y8 g
set_option maxRecDepth 100000 in
set_option maxHeartbeats 4000000 in
theorem p_X2_rest_110 {sc : zSc} {hp : zHp} {d : Nat} (hD : 21 ≤ d) (b1 : Nat) (hb1 : (zK0 b1).1 = 8) : ∀ (n : Nat) (y4 : Int32) (y7 : Int32) (y8 : Int32) (g : zSg) (r : Int32 × zSg), f_X2_rest_110 b1 n y4 y7 y8 g = some r → zG d sc hp (zcd zM_X2_rest) 110 [some (.ref 506), none, none, none, some (.int y4), none, none, some (.int y7), some (.int y8)] [] (gm g) ((some (.int r.1)), gm r.2) := by
  obtain ⟨d, rfl⟩ : ∃ d', d = d' + 1 := ⟨d - 1, by omega⟩
  intro n
  induction n with
  | zero => intro y4 y7 y8 g r h; cases h
  | succ n ih =>
    intro y4 y7 y8 g r h
    replace h : fb_X2_rest_110 b1 (f_X2_rest_110 b1 n) y4 y7 y8 g = some r := h
    unfold fb_X2_rest_110 at h
    refine g_run 2 (pc' := 114) (L' := [some (.ref 506), none, none, none, some (.int y4), none, none, some (.int y7), some (.int y8)]) (S' := [.int 25, .int y8]) (M' := gm g) rfl ?_
    refine g_icmp (25 ≤ y8) rfl (t := 164) rfl rfl (fun c1 => ?_) (fun c1 => ?_)
    · replace h := (if_pos c1).symm.trans h
      refine g_forget (L' := [none, none, none, none, some (.int y4), none, none, some (.int y7), none]) (And.intro rfl (And.intro rfl True.intro)) ?_
      exact p_X2_rest_164 hD b1 hb1 (y4) (y7) g _ h
    · replace h := (if_neg c1).symm.trans h
      refine g_run 7 (pc' := 126) (L' := [some (.ref 506), none, none, none, some (.int y4), none, none, some (.int y7), some (.int y8)]) (S' := [.int ((imod y8 5)), .int ((y8 / 5)), .ref 506]) (M' := gm g) rfl ?_
      replace h := zB_of h
      obtain ⟨v2, g3, e4, h⟩ := h
      refine g_inv2 (kd := 1) (p_X2_isRest  e4) rfl rfl rfl (by decide) rfl rfl rfl rfl (by omega) (pc' := 129) rfl (S' := [.int v2]) rfl ?_
      refine g_if (¬ v2 = 0) rfl (t := 135) rfl rfl (fun c5 => ?_) (fun c5 => ?_)
      · replace h := (if_pos c5).symm.trans h
        refine g_run 2 (pc' := 139) (L' := [some (.ref 506), none, none, none, some (.int y4), none, none, some (.int y7), some (.int y8)]) (S' := [.int y4, .int y7]) (M' := gm g3) rfl ?_
        refine g_icmp (¬ y7 = y4) rfl (t := 155) rfl rfl (fun c6 => ?_) (fun c6 => ?_)
        · replace h := (if_pos c6).symm.trans h
          refine g_run 1 (pc' := 158) (L' := [some (.ref 506), none, none, none, some (.int y4), none, none, some (.int ((y7 + 1))), some (.int y8)]) (S' := []) (M' := gm g3) rfl ?_
          exact p_X2_rest_158 hD b1 hb1 (f_X2_rest_110 b1 n) ih (y4) (y7 + 1) (y8) g3 _ h
        · replace h := (if_neg c6).symm.trans h
          refine g_forget (L' := [none, none, none, none, none, none, none, none, some (.int y8)]) (And.intro rfl True.intro) ?_
          exact p_X2_rest_142 hD b1 hb1 (y8) g3 _ h
      · replace h := (if_neg c5).symm.trans h
        refine g_run 1 (pc' := 158) (L' := [some (.ref 506), none, none, none, some (.int y4), none, none, some (.int y7), some (.int y8)]) (S' := []) (M' := gm g3) rfl ?_
        exact p_X2_rest_158 hD b1 hb1 (f_X2_rest_110 b1 n) ih (y4) (y7) (y8) g3 _ h
def f_X2_rest_104 (b1 : Nat) (y4 : Int32) (g : zSg) : Option (Int32 × zSg) := f_X2_rest_110 b1 zFu (y4) (0) (0) g
set_option maxRecDepth 100000 in
set_option maxHeartbeats 4000000 in
theorem p_X2_rest_104 {sc : zSc} {hp : zHp} {d : Nat} (hD : 21 ≤ d) (b1 : Nat) (hb1 : (zK0 b1).1 = 8) (y4 : Int32) (g : zSg) (r : Int32 × zSg) (h : f_X2_rest_104 b1 y4 g = some r) : zG d sc hp (zcd zM_X2_rest) 104 [some (.ref 506), none, none, none, some (.int y4), none, none, none, none] [] (gm g) ((some (.int r.1)), gm r.2) := by
  obtain ⟨d, rfl⟩ : ∃ d', d = d' + 1 := ⟨d - 1, by omega⟩
  unfold f_X2_rest_104 at h
  refine g_run 4 (pc' := 110) (L' := [some (.ref 506), none, none, none, some (.int y4), none, none, some (.int 0), some (.int 0)]) (S' := []) (M' := gm g) rfl ?_
  exact p_X2_rest_110 hD b1 hb1 zFu (y4) (0) (0) g _ h
def f_X2_rest_98 (b1 : Nat) (k23 : Int32 → Int32 → Int32 → Int32 → zSg → Option (Int32 × zSg)) (y4 : Int32) (y5 : Int32) (y6 : Int32) (y7 : Int32) (g : zSg) : Option (Int32 × zSg) := k23 (y4) (y5) (y6) (y7 + 1) g
set_option maxRecDepth 100000 in
set_option maxHeartbeats 4000000 in
theorem p_X2_rest_98 {sc : zSc} {hp : zHp} {d : Nat} (hD : 21 ≤ d) (b1 : Nat) (hb1 : (zK0 b1).1 = 8) (k23 : Int32 → Int32 → Int32 → Int32 → zSg → Option (Int32 × zSg)) (hk23 : ∀ (y4 : Int32) (y5 : Int32) (y6 : Int32) (y7 : Int32) (g : zSg) (r : Int32 × zSg), k23 y4 y5 y6 y7 g = some r → zG d sc hp (zcd zM_X2_rest) 23 [some (.ref 506), some (.ref b1), none, none, some (.int y4), some (.int y5), some (.int y6), some (.int y7), none] [] (gm g) ((some (.int r.1)), gm r.2)) (y4 : Int32) (y5 : Int32) (y6 : Int32) (y7 : Int32) (g : zSg) (r : Int32 × zSg) (h : f_X2_rest_98 b1 k23 y4 y5 y6 y7 g = some r) : zG d sc hp (zcd zM_X2_rest) 98 [some (.ref 506), some (.ref b1), none, none, some (.int y4), some (.int y5), some (.int y6), some (.int y7), none] [] (gm g) ((some (.int r.1)), gm r.2) := by
  obtain ⟨d, rfl⟩ : ∃ d', d = d' + 1 := ⟨d - 1, by omega⟩
  unfold f_X2_rest_98 at h
  refine g_run 2 (pc' := 23) (L' := [some (.ref 506), some (.ref b1), none, none, some (.int y4), some (.int y5), some (.int y6), some (.int ((y7 + 1))), none]) (S' := []) (M' := gm g) rfl ?_
  exact hk23 (y4) (y5) (y6) (y7 + 1) g _ h
def fb_X2_rest_32 (b1 : Nat) (k23 : Int32 → Int32 → Int32 → Int32 → zSg → Option (Int32 × zSg)) (kk : Int32 → Int32 → Int32 → Int32 → Int32 → zSg → Option (Int32 × zSg)) (y4 : Int32) (y5 : Int32) (y6 : Int32) (y7 : Int32) (y8 : Int32) (g : zSg) : Option (Int32 × zSg) := (if 5 ≤ y8 then f_X2_rest_98 b1 k23 (y4) (y5) (y6) (y7) g else (zB (f_X2_gain b1 y5 y6 y7 y8 g) (fun v2 g3 => (zB (f_X7_set 522 ((y7 * 5) + y8) v2 g3) (fun v5 g6 => (zB (f_X2_gain b1 y6 y5 y8 y7 g6) (fun v8 g9 => (zB (f_X7_set 524 ((y7 * 5) + y8) v8 g9) (fun v11 g12 => kk (y4) (y5) (y6) (y7) (y8 + 1) g12)))))))))
def f_X2_rest_32 (b1 : Nat) (k23 : Int32 → Int32 → Int32 → Int32 → zSg → Option (Int32 × zSg)) : Nat → Int32 → Int32 → Int32 → Int32 → Int32 → zSg → Option (Int32 × zSg)
  | 0, _, _, _, _, _, _ => none
  | n + 1, y4, y5, y6, y7, y8, g => fb_X2_rest_32 b1 k23 (f_X2_rest_32 b1 k23 n) y4 y5 y6 y7 y8 g
set_option maxRecDepth 100000 in
set_option maxHeartbeats 4000000 in
theorem p_X2_rest_32 {sc : zSc} {hp : zHp} {d : Nat} (hD : 21 ≤ d) (b1 : Nat) (hb1 : (zK0 b1).1 = 8) (k23 : Int32 → Int32 → Int32 → Int32 → zSg → Option (Int32 × zSg)) (hk23 : ∀ (y4 : Int32) (y5 : Int32) (y6 : Int32) (y7 : Int32) (g : zSg) (r : Int32 × zSg), k23 y4 y5 y6 y7 g = some r → zG d sc hp (zcd zM_X2_rest) 23 [some (.ref 506), some (.ref b1), none, none, some (.int y4), some (.int y5), some (.int y6), some (.int y7), none] [] (gm g) ((some (.int r.1)), gm r.2)) : ∀ (n : Nat) (y4 : Int32) (y5 : Int32) (y6 : Int32) (y7 : Int32) (y8 : Int32) (g : zSg) (r : Int32 × zSg), f_X2_rest_32 b1 k23 n y4 y5 y6 y7 y8 g = some r → zG d sc hp (zcd zM_X2_rest) 32 [some (.ref 506), some (.ref b1), none, none, some (.int y4), some (.int y5), some (.int y6), some (.int y7), some (.int y8)] [] (gm g) ((some (.int r.1)), gm r.2) := by
  obtain ⟨d, rfl⟩ : ∃ d', d = d' + 1 := ⟨d - 1, by omega⟩
  intro n
  induction n with
  | zero => intro y4 y5 y6 y7 y8 g r h; cases h
  | succ n ih =>
    intro y4 y5 y6 y7 y8 g r h
    replace h : fb_X2_rest_32 b1 k23 (f_X2_rest_32 b1 k23 n) y4 y5 y6 y7 y8 g = some r := h
    unfold fb_X2_rest_32 at h
    refine g_run 2 (pc' := 35) (L' := [some (.ref 506), some (.ref b1), none, none, some (.int y4), some (.int y5), some (.int y6), some (.int y7), some (.int y8)]) (S' := [.int 5, .int y8]) (M' := gm g) rfl ?_
    refine g_icmp (5 ≤ y8) rfl (t := 98) rfl rfl (fun c1 => ?_) (fun c1 => ?_)
    · replace h := (if_pos c1).symm.trans h
      refine g_forget (L' := [some (.ref 506), some (.ref b1), none, none, some (.int y4), some (.int y5), some (.int y6), some (.int y7), none]) (And.intro rfl (And.intro rfl (And.intro rfl (And.intro rfl (And.intro rfl (And.intro rfl True.intro)))))) ?_
      exact p_X2_rest_98 hD b1 hb1 k23 hk23 (y4) (y5) (y6) (y7) g _ h
    · replace h := (if_neg c1).symm.trans h
      refine g_run 13 (pc' := 59) (L' := [some (.ref 506), some (.ref b1), none, none, some (.int y4), some (.int y5), some (.int y6), some (.int y7), some (.int y8)]) (S' := [.int y8, .int y7, .int y6, .int y5, .ref b1, .ref 506, .int (((y7 * 5) + y8)), .ref 522]) (M' := gm g) rfl ?_
      replace h := zB_of h
      obtain ⟨v2, g3, e4, h⟩ := h
      refine g_inv2 (kd := 1) (p_X2_gain b1 hb1 e4) rfl rfl rfl (by decide) rfl rfl rfl rfl (by omega) (pc' := 62) rfl (S' := [.int v2, .int (((y7 * 5) + y8)), .ref 522]) rfl ?_
      replace h := zB_of h
      obtain ⟨v5, g6, e7, h⟩ := h
      refine g_inv2 (kd := 1) (p_X7_set 522 rfl e7) rfl rfl rfl (by decide) rfl rfl rfl rfl (by omega) (pc' := 65) rfl (S' := []) rfl ?_
      refine g_run 13 (pc' := 86) (L' := [some (.ref 506), some (.ref b1), none, none, some (.int y4), some (.int y5), some (.int y6), some (.int y7), some (.int y8)]) (S' := [.int y7, .int y8, .int y5, .int y6, .ref b1, .ref 506, .int (((y7 * 5) + y8)), .ref 524]) (M' := gm g6) rfl ?_
      replace h := zB_of h
      obtain ⟨v8, g9, e10, h⟩ := h
      refine g_inv2 (kd := 1) (p_X2_gain b1 hb1 e10) rfl rfl rfl (by decide) rfl rfl rfl rfl (by omega) (pc' := 89) rfl (S' := [.int v8, .int (((y7 * 5) + y8)), .ref 524]) rfl ?_
      replace h := zB_of h
      obtain ⟨v11, g12, e13, h⟩ := h
      refine g_inv2 (kd := 1) (p_X7_set 524 rfl e13) rfl rfl rfl (by decide) rfl rfl rfl rfl (by omega) (pc' := 92) rfl (S' := []) rfl ?_
      refine g_run 2 (pc' := 32) (L' := [some (.ref 506), some (.ref b1), none, none, some (.int y4), some (.int y5), some (.int y6), some (.int y7), some (.int ((y8 + 1)))]) (S' := []) (M' := gm g12) rfl ?_
      exact ih (y4) (y5) (y6) (y7) (y8 + 1) g12 _ h
def fb_X2_rest_23 (b1 : Nat) (kk : Int32 → Int32 → Int32 → Int32 → zSg → Option (Int32 × zSg)) (y4 : Int32) (y5 : Int32) (y6 : Int32) (y7 : Int32) (g : zSg) : Option (Int32 × zSg) := (if 5 ≤ y7 then f_X2_rest_104 b1 (y4) g else f_X2_rest_32 b1 kk zFu (y4) (y5) (y6) (y7) (0) g)
def f_X2_rest_23 (b1 : Nat) : Nat → Int32 → Int32 → Int32 → Int32 → zSg → Option (Int32 × zSg)
  | 0, _, _, _, _, _ => none
  | n + 1, y4, y5, y6, y7, g => fb_X2_rest_23 b1 (f_X2_rest_23 b1 n) y4 y5 y6 y7 g
set_option maxRecDepth 100000 in
set_option maxHeartbeats 4000000 in
theorem p_X2_rest_23 {sc : zSc} {hp : zHp} {d : Nat} (hD : 21 ≤ d) (b1 : Nat) (hb1 : (zK0 b1).1 = 8) : ∀ (n : Nat) (y4 : Int32) (y5 : Int32) (y6 : Int32) (y7 : Int32) (g : zSg) (r : Int32 × zSg), f_X2_rest_23 b1 n y4 y5 y6 y7 g = some r → zG d sc hp (zcd zM_X2_rest) 23 [some (.ref 506), some (.ref b1), none, none, some (.int y4), some (.int y5), some (.int y6), some (.int y7), none] [] (gm g) ((some (.int r.1)), gm r.2) := by
  obtain ⟨d, rfl⟩ : ∃ d', d = d' + 1 := ⟨d - 1, by omega⟩
  intro n
  induction n with
  | zero => intro y4 y5 y6 y7 g r h; cases h
  | succ n ih =>
    intro y4 y5 y6 y7 g r h
    replace h : fb_X2_rest_23 b1 (f_X2_rest_23 b1 n) y4 y5 y6 y7 g = some r := h
    unfold fb_X2_rest_23 at h
    refine g_run 2 (pc' := 26) (L' := [some (.ref 506), some (.ref b1), none, none, some (.int y4), some (.int y5), some (.int y6), some (.int y7), none]) (S' := [.int 5, .int y7]) (M' := gm g) rfl ?_
    refine g_icmp (5 ≤ y7) rfl (t := 104) rfl rfl (fun c1 => ?_) (fun c1 => ?_)
    · replace h := (if_pos c1).symm.trans h
      refine g_forget (L' := [some (.ref 506), none, none, none, some (.int y4), none, none, none, none]) (And.intro rfl (And.intro rfl True.intro)) ?_
      exact p_X2_rest_104 hD b1 hb1 (y4) g _ h
    · replace h := (if_neg c1).symm.trans h
      refine g_run 2 (pc' := 32) (L' := [some (.ref 506), some (.ref b1), none, none, some (.int y4), some (.int y5), some (.int y6), some (.int y7), some (.int 0)]) (S' := []) (M' := gm g) rfl ?_
      exact p_X2_rest_32 hD b1 hb1 (f_X2_rest_23 b1 n) ih zFu (y4) (y5) (y6) (y7) (0) g _ h
def f_X2_rest (b1 : Nat) (x2 : Int32) (x3 : Int32) (x4 : Int32) (g : zSg) : Option (Int32 × zSg) := (zB (f_X7_get (b1 + 1) x2 g) (fun v1 g2 => (zB (f_X7_get (b1 + 1) x3 g2) (fun v4 g5 => f_X2_rest_23 b1 zFu (x4) (v1) (v4) (0) g5))))
set_option maxRecDepth 100000 in
set_option maxHeartbeats 4000000 in
theorem p_X2_rest {sc : zSc} {hp : zHp} (b1 : Nat) (hb1 : (zK0 b1).1 = 8) {x2 : Int32} {x3 : Int32} {x4 : Int32} {g : zSg} {r : Int32 × zSg} (h : f_X2_rest b1 x2 x3 x4 g = some r) : zRn sc hp 21 zM_X2_rest [.ref 506, .ref b1, .int x2, .int x3, .int x4] (gm g) (some (.int r.1)) (gm r.2) := by
  intro d hD
  obtain ⟨d, rfl⟩ : ∃ d', d = d' + 1 := ⟨d - 1, by omega⟩
  show zG _ sc hp (zcd zM_X2_rest) 0 [some (.ref 506), some (.ref b1), some (.int x2), some (.int x3), some (.int x4), none, none, none, none] [] (gm g) _
  unfold f_X2_rest at h
  refine g_run 1 (pc' := 1) (L' := [some (.ref 506), some (.ref b1), some (.int x2), some (.int x3), some (.int x4), none, none, none, none]) (S' := [.ref b1]) (M' := gm g) rfl ?_
  refine g_getf rfl (ci := 8) (k := 0) rfl hb1 (gfv_s0 hb1) ?_
  refine g_run 1 (pc' := 5) (L' := [some (.ref 506), some (.ref b1), some (.int x2), some (.int x3), some (.int x4), none, none, none, none]) (S' := [.int x2, .ref (b1 + 1)]) (M' := gm g) rfl ?_
  replace h := zB_of h
  obtain ⟨v1, g2, e3, h⟩ := h
  refine g_inv2 (kd := 1) (p_X7_get (b1 + 1) (zK0_s hb1).1 e3) rfl rfl rfl (by decide) rfl (g_recv (a := b1 + 1) rfl (Nat.le_of_ble_eq_true rfl) (Nat.le_of_ble_eq_true rfl) (Nat.le_of_ble_eq_true rfl) (Nat.le_of_ble_eq_true rfl) rfl (zK0_s hb1).1 (Nat.le_of_ble_eq_true rfl)) rfl rfl (by omega) (pc' := 8) rfl (S' := [.int v1]) rfl ?_
  refine g_run 2 (pc' := 11) (L' := [some (.ref 506), some (.ref b1), some (.int x2), some (.int x3), some (.int x4), some (.int v1), none, none, none]) (S' := [.ref b1]) (M' := gm g2) rfl ?_
  refine g_getf rfl (ci := 8) (k := 0) rfl hb1 (gfv_s0 hb1) ?_
  refine g_run 1 (pc' := 15) (L' := [some (.ref 506), some (.ref b1), some (.int x2), some (.int x3), some (.int x4), some (.int v1), none, none, none]) (S' := [.int x3, .ref (b1 + 1)]) (M' := gm g2) rfl ?_
  replace h := zB_of h
  obtain ⟨v4, g5, e6, h⟩ := h
  refine g_inv2 (kd := 1) (p_X7_get (b1 + 1) (zK0_s hb1).1 e6) rfl rfl rfl (by decide) rfl (g_recv (a := b1 + 1) rfl (Nat.le_of_ble_eq_true rfl) (Nat.le_of_ble_eq_true rfl) (Nat.le_of_ble_eq_true rfl) (Nat.le_of_ble_eq_true rfl) rfl (zK0_s hb1).1 (Nat.le_of_ble_eq_true rfl)) rfl rfl (by omega) (pc' := 18) rfl (S' := [.int v4]) rfl ?_
  refine g_run 3 (pc' := 23) (L' := [some (.ref 506), some (.ref b1), some (.int x2), some (.int x3), some (.int x4), some (.int v1), some (.int v4), some (.int 0), none]) (S' := []) (M' := gm g5) rfl ?_
  refine g_forget (L' := [some (.ref 506), some (.ref b1), none, none, some (.int x4), some (.int v1), some (.int v4), some (.int 0), none]) (And.intro rfl (And.intro rfl (And.intro rfl (And.intro rfl (And.intro rfl (And.intro rfl True.intro)))))) ?_
  exact p_X2_rest_23 hD b1 hb1 zFu (x4) (v1) (v4) (0) g5 _ h
def f_X8_knows (a : Nat) (x1 : Int32) (x2 : Int32) (g : zSg) : Option (Int32 × zSg) := (zB (f_X7_get (a + 5) x2 g) (fun v1 g2 => (if ((v1 >>> (x1 &&& 31)) &&& 1) = 0 then some (0, g2) else some (1, g2))))
set_option maxRecDepth 100000 in
set_option maxHeartbeats 4000000 in
theorem p_X8_knows {sc : zSc} {hp : zHp} (a : Nat) (ha : (zK0 a).1 = 8) {x1 : Int32} {x2 : Int32} {g : zSg} {r : Int32 × zSg} (h : f_X8_knows a x1 x2 g = some r) : zRn sc hp 1 zM_X8_knows [.ref a, .int x1, .int x2] (gm g) (some (.int r.1)) (gm r.2) := by
  intro d hD
  obtain ⟨d, rfl⟩ : ∃ d', d = d' + 1 := ⟨d - 1, by omega⟩
  show zG _ sc hp (zcd zM_X8_knows) 0 [some (.ref a), some (.int x1), some (.int x2)] [] (gm g) _
  unfold f_X8_knows at h
  refine g_run 1 (pc' := 1) (L' := [some (.ref a), some (.int x1), some (.int x2)]) (S' := [.ref a]) (M' := gm g) rfl ?_
  refine g_getf rfl (ci := 8) (k := 2) rfl ha (gfv_s2 ha) ?_
  refine g_run 1 (pc' := 5) (L' := [some (.ref a), some (.int x1), some (.int x2)]) (S' := [.int x2, .ref (a + 5)]) (M' := gm g) rfl ?_
  replace h := zB_of h
  obtain ⟨v1, g2, e3, h⟩ := h
  refine g_inv2 (kd := 1) (p_X7_get (a + 5) (zK0_s ha).2.2.1 e3) rfl rfl rfl (by decide) rfl (g_recv (a := a + 5) rfl (Nat.le_of_ble_eq_true rfl) (Nat.le_of_ble_eq_true rfl) (Nat.le_of_ble_eq_true rfl) (Nat.le_of_ble_eq_true rfl) rfl (zK0_s ha).2.2.1 (Nat.le_of_ble_eq_true rfl)) rfl rfl (by omega) (pc' := 8) rfl (S' := [.int v1]) rfl ?_
  refine g_run 4 (pc' := 12) (L' := [some (.ref a), some (.int x1), some (.int x2)]) (S' := [.int (((v1 >>> (x1 &&& 31)) &&& 1))]) (M' := gm g2) rfl ?_
  refine g_if (((v1 >>> (x1 &&& 31)) &&& 1) = 0) rfl (t := 19) rfl rfl (fun c4 => ?_) (fun c4 => ?_)
  · replace h := (if_pos c4).symm.trans h
    refine g_run 1 (pc' := 20) (L' := [some (.ref a), some (.int x1), some (.int x2)]) (S' := [.int 0]) (M' := gm g2) rfl ?_
    cases h
    exact g_ret rfl rfl rfl rfl
  · replace h := (if_neg c4).symm.trans h
    refine g_run 2 (pc' := 20) (L' := [some (.ref a), some (.int x1), some (.int x2)]) (S' := [.int 1]) (M' := gm g2) rfl ?_
    cases h
    exact g_ret rfl rfl rfl rfl
def f_X8_breathe (a : Nat) (x1 : Int32) (x2 : Int32) (x3 : Int32) (x4 : Int32) (g : zSg) : Option (Unit × zSg) := (zB (f_X7_get (a + 7) ((x1 * 6) + x2) g) (fun v1 g2 => (zB (f_X7_set (a + 7) ((x1 * 6) + x2) (imin 99 (v1 + x3)) g2) (fun v4 g5 => (if (imin 99 (v1 + x3)) < x4 then some ((), g5) else (zB (f_X7_get (a + 5) x2 g5) (fun v8 g9 => (zB (f_X7_set (a + 5) x2 (v8 ||| (1 <<< (x1 &&& 31))) g9) (fun v11 g12 => some ((), g12))))))))))
set_option maxRecDepth 100000 in
set_option maxHeartbeats 4000000 in
theorem p_X8_breathe {sc : zSc} {hp : zHp} (a : Nat) (ha : (zK0 a).1 = 8) {x1 : Int32} {x2 : Int32} {x3 : Int32} {x4 : Int32} {g : zSg} {r : Unit × zSg} (h : f_X8_breathe a x1 x2 x3 x4 g = some r) : zRn sc hp 1 zM_X8_breathe [.ref a, .int x1, .int x2, .int x3, .int x4] (gm g) none (gm r.2) := by
  intro d hD
  obtain ⟨d, rfl⟩ : ∃ d', d = d' + 1 := ⟨d - 1, by omega⟩
  show zG _ sc hp (zcd zM_X8_breathe) 0 [some (.ref a), some (.int x1), some (.int x2), some (.int x3), some (.int x4), none, none] [] (gm g) _
  unfold f_X8_breathe at h
  refine g_run 8 (pc' := 11) (L' := [some (.ref a), some (.int x1), some (.int x2), some (.int x3), some (.int x4), some (.int (((x1 * 6) + x2))), none]) (S' := [.ref a, .int 99]) (M' := gm g) rfl ?_
  refine g_getf rfl (ci := 8) (k := 3) rfl ha (gfv_s3 ha) ?_
  refine g_run 1 (pc' := 16) (L' := [some (.ref a), some (.int x1), some (.int x2), some (.int x3), some (.int x4), some (.int (((x1 * 6) + x2))), none]) (S' := [.int (((x1 * 6) + x2)), .ref (a + 7), .int 99]) (M' := gm g) rfl ?_
  replace h := zB_of h
  obtain ⟨v1, g2, e3, h⟩ := h
  refine g_inv2 (kd := 1) (p_X7_get (a + 7) (zK0_s ha).2.2.2 e3) rfl rfl rfl (by decide) rfl (g_recv (a := a + 7) rfl (Nat.le_of_ble_eq_true rfl) (Nat.le_of_ble_eq_true rfl) (Nat.le_of_ble_eq_true rfl) (Nat.le_of_ble_eq_true rfl) rfl (zK0_s ha).2.2.2 (Nat.le_of_ble_eq_true rfl)) rfl rfl (by omega) (pc' := 19) rfl (S' := [.int v1, .int 99]) rfl ?_
  refine g_run 2 (pc' := 21) (L' := [some (.ref a), some (.int x1), some (.int x2), some (.int x3), some (.int x4), some (.int (((x1 * 6) + x2))), none]) (S' := [.int ((v1 + x3)), .int 99]) (M' := gm g2) rfl ?_
  refine g_spec2 (kd := 0) rfl rfl rfl (by decide) rfl (jd := 1001) rfl (by decide) rfl (Or.inl (by decide)) (S' := [.int ((imin 99 (v1 + x3)))]) (M' := gm g2) rfl rfl (pc' := 24) rfl ?_
  refine g_run 2 (pc' := 27) (L' := [some (.ref a), some (.int x1), some (.int x2), some (.int x3), some (.int x4), some (.int (((x1 * 6) + x2))), some (.int ((imin 99 (v1 + x3))))]) (S' := [.ref a]) (M' := gm g2) rfl ?_
  refine g_getf rfl (ci := 8) (k := 3) rfl ha (gfv_s3 ha) ?_
  refine g_run 2 (pc' := 34) (L' := [some (.ref a), some (.int x1), some (.int x2), some (.int x3), some (.int x4), some (.int (((x1 * 6) + x2))), some (.int ((imin 99 (v1 + x3))))]) (S' := [.int ((imin 99 (v1 + x3))), .int (((x1 * 6) + x2)), .ref (a + 7)]) (M' := gm g2) rfl ?_
  replace h := zB_of h
  obtain ⟨v4, g5, e6, h⟩ := h
  refine g_inv2 (kd := 1) (p_X7_set (a + 7) (zK0_s ha).2.2.2 e6) rfl rfl rfl (by decide) rfl (g_recv (a := a + 7) rfl (Nat.le_of_ble_eq_true rfl) (Nat.le_of_ble_eq_true rfl) (Nat.le_of_ble_eq_true rfl) (Nat.le_of_ble_eq_true rfl) rfl (zK0_s ha).2.2.2 (Nat.le_of_ble_eq_true rfl)) rfl rfl (by omega) (pc' := 37) rfl (S' := []) rfl ?_
  refine g_run 2 (pc' := 41) (L' := [some (.ref a), some (.int x1), some (.int x2), some (.int x3), some (.int x4), some (.int (((x1 * 6) + x2))), some (.int ((imin 99 (v1 + x3))))]) (S' := [.int x4, .int ((imin 99 (v1 + x3)))]) (M' := gm g5) rfl ?_
  refine g_icmp ((imin 99 (v1 + x3)) < x4) rfl (t := 64) rfl rfl (fun c7 => ?_) (fun c7 => ?_)
  · replace h := (if_pos c7).symm.trans h
    cases h
    exact g_ret rfl rfl rfl rfl
  · replace h := (if_neg c7).symm.trans h
    refine g_run 1 (pc' := 45) (L' := [some (.ref a), some (.int x1), some (.int x2), some (.int x3), some (.int x4), some (.int (((x1 * 6) + x2))), some (.int ((imin 99 (v1 + x3))))]) (S' := [.ref a]) (M' := gm g5) rfl ?_
    refine g_getf rfl (ci := 8) (k := 2) rfl ha (gfv_s2 ha) ?_
    refine g_run 2 (pc' := 50) (L' := [some (.ref a), some (.int x1), some (.int x2), some (.int x3), some (.int x4), some (.int (((x1 * 6) + x2))), some (.int ((imin 99 (v1 + x3))))]) (S' := [.ref a, .int x2, .ref (a + 5)]) (M' := gm g5) rfl ?_
    refine g_getf rfl (ci := 8) (k := 2) rfl ha (gfv_s2 ha) ?_
    refine g_run 1 (pc' := 54) (L' := [some (.ref a), some (.int x1), some (.int x2), some (.int x3), some (.int x4), some (.int (((x1 * 6) + x2))), some (.int ((imin 99 (v1 + x3))))]) (S' := [.int x2, .ref (a + 5), .int x2, .ref (a + 5)]) (M' := gm g5) rfl ?_
    replace h := zB_of h
    obtain ⟨v8, g9, e10, h⟩ := h
    refine g_inv2 (kd := 1) (p_X7_get (a + 5) (zK0_s ha).2.2.1 e10) rfl rfl rfl (by decide) rfl (g_recv (a := a + 5) rfl (Nat.le_of_ble_eq_true rfl) (Nat.le_of_ble_eq_true rfl) (Nat.le_of_ble_eq_true rfl) (Nat.le_of_ble_eq_true rfl) rfl (zK0_s ha).2.2.1 (Nat.le_of_ble_eq_true rfl)) rfl rfl (by omega) (pc' := 57) rfl (S' := [.int v8, .int x2, .ref (a + 5)]) rfl ?_
    refine g_run 4 (pc' := 61) (L' := [some (.ref a), some (.int x1), some (.int x2), some (.int x3), some (.int x4), some (.int (((x1 * 6) + x2))), some (.int ((imin 99 (v1 + x3))))]) (S' := [.int ((v8 ||| (1 <<< (x1 &&& 31)))), .int x2, .ref (a + 5)]) (M' := gm g9) rfl ?_
    replace h := zB_of h
    obtain ⟨v11, g12, e13, h⟩ := h
    refine g_inv2 (kd := 1) (p_X7_set (a + 5) (zK0_s ha).2.2.1 e13) rfl rfl rfl (by decide) rfl (g_recv (a := a + 5) rfl (Nat.le_of_ble_eq_true rfl) (Nat.le_of_ble_eq_true rfl) (Nat.le_of_ble_eq_true rfl) (Nat.le_of_ble_eq_true rfl) rfl (zK0_s ha).2.2.1 (Nat.le_of_ble_eq_true rfl)) rfl rfl (by omega) (pc' := 64) rfl (S' := []) rfl ?_
    cases h
    exact g_ret rfl rfl rfl rfl
def f_X7_add (a : Nat) (x1 : Int32) (x2 : Int32) (g : zSg) : Option (Unit × zSg) := (if x1 < 0 then some ((), g) else (if (Int32.ofNat (zK0 (a + 1)).2) ≤ x1 then some ((), g) else (if zib x1 (zK0 (a + 1)).2 = true then (if zib x1 (zK0 (a + 1)).2 = true then some ((), (gsI g (a + 1) (ix x1) ((gI g (a + 1) (ix x1)) + x2))) else none) else none)))
set_option maxRecDepth 100000 in
set_option maxHeartbeats 4000000 in
theorem p_X7_add {sc : zSc} {hp : zHp} (a : Nat) (ha : (zK0 a).1 = 7) {x1 : Int32} {x2 : Int32} {g : zSg} {r : Unit × zSg} (h : f_X7_add a x1 x2 g = some r) : zRn sc hp 0 zM_X7_add [.ref a, .int x1, .int x2] (gm g) none (gm r.2) := by
  intro d hD
  show zG _ sc hp (zcd zM_X7_add) 0 [some (.ref a), some (.int x1), some (.int x2)] [] (gm g) _
  unfold f_X7_add at h
  refine g_run 1 (pc' := 1) (L' := [some (.ref a), some (.int x1), some (.int x2)]) (S' := [.int x1]) (M' := gm g) rfl ?_
  refine g_if (x1 < 0) rfl (t := 23) rfl rfl (fun c1 => ?_) (fun c1 => ?_)
  · replace h := (if_pos c1).symm.trans h
    cases h
    exact g_ret rfl rfl rfl rfl
  · replace h := (if_neg c1).symm.trans h
    refine g_run 2 (pc' := 6) (L' := [some (.ref a), some (.int x1), some (.int x2)]) (S' := [.ref a, .int x1]) (M' := gm g) rfl ?_
    refine g_getf rfl (ci := 7) (k := 0) rfl ha (gfv_r0 ha) ?_
    refine g_alen rfl (a := a + 1) (by rw [(zK0_r ha)]; decide) ?_
    refine g_icmp ((Int32.ofNat (zK0 (a + 1)).2) ≤ x1) rfl (t := 23) rfl rfl (fun c2 => ?_) (fun c2 => ?_)
    · replace h := (if_pos c2).symm.trans h
      cases h
      exact g_ret rfl rfl rfl rfl
    · replace h := (if_neg c2).symm.trans h
      refine g_run 1 (pc' := 14) (L' := [some (.ref a), some (.int x1), some (.int x2)]) (S' := [.ref a]) (M' := gm g) rfl ?_
      refine g_getf rfl (ci := 7) (k := 0) rfl ha (gfv_r0 ha) ?_
      refine g_run 2 (pc' := 19) (L' := [some (.ref a), some (.int x1), some (.int x2)]) (S' := [.int x1, .ref (a + 1), .int x1, .ref (a + 1)]) (M' := gm g) rfl ?_
      by_cases c3 : zib x1 (zK0 (a + 1)).2 = true
      case neg => exact nomatch ((if_neg c3).symm.trans h)
      replace h := (if_pos c3).symm.trans h
      refine g_iald rfl (a := a + 1) (zK0_r ha) c3 ?_
      refine g_run 2 (pc' := 22) (L' := [some (.ref a), some (.int x1), some (.int x2)]) (S' := [.int (((gI g (a + 1) (ix x1)) + x2)), .int x1, .ref (a + 1)]) (M' := gm g) rfl ?_
      by_cases c4 : zib x1 (zK0 (a + 1)).2 = true
      case neg => exact nomatch ((if_neg c4).symm.trans h)
      replace h := (if_pos c4).symm.trans h
      refine g_iast rfl (a := a + 1) (zK0_r ha) c4 ?_
      cases h
      exact g_ret rfl rfl rfl rfl
def f_X10_smoke_145 (b1 : Nat) (y3 : Int32) (g : zSg) : Option (Unit × zSg) := some ((), (gsI g (b1) 7 y3))
set_option maxRecDepth 100000 in
set_option maxHeartbeats 4000000 in
theorem p_X10_smoke_145 {sc : zSc} {hp : zHp} {d : Nat} (hD : 19 ≤ d) (b1 : Nat) (hb1 : (zK0 b1).1 = 8) (y3 : Int32) (g : zSg) (r : Unit × zSg) (h : f_X10_smoke_145 b1 y3 g = some r) : zG d sc hp (zcd zM_X10_smoke) 145 [none, some (.ref b1), none, some (.int y3), none, none, none, none] [] (gm g) (none, gm r.2) := by
  obtain ⟨d, rfl⟩ : ∃ d', d = d' + 1 := ⟨d - 1, by omega⟩
  unfold f_X10_smoke_145 at h
  refine g_run 2 (pc' := 147) (L' := [none, some (.ref b1), none, some (.int y3), none, none, none, none]) (S' := [.int y3, .ref b1]) (M' := gm g) rfl ?_
  refine g_putf rfl (ci := 8) (k := 7) rfl (a := b1) hb1 rfl (g' := gsI g (b1) 7 y3) rfl ?_
  cases h
  exact g_ret rfl rfl rfl rfl
def f_X10_smoke_139 (b1 : Nat) (k8 : Int32 → Int32 → Int32 → zSg → Option (Unit × zSg)) (y2 : Int32) (y3 : Int32) (y4 : Int32) (g : zSg) : Option (Unit × zSg) := k8 (y2) (y3) (y4 + 1) g
set_option maxRecDepth 100000 in
set_option maxHeartbeats 4000000 in
theorem p_X10_smoke_139 {sc : zSc} {hp : zHp} {d : Nat} (hD : 19 ≤ d) (b1 : Nat) (hb1 : (zK0 b1).1 = 8) (k8 : Int32 → Int32 → Int32 → zSg → Option (Unit × zSg)) (hk8 : ∀ (y2 : Int32) (y3 : Int32) (y4 : Int32) (g : zSg) (r : Unit × zSg), k8 y2 y3 y4 g = some r → zG d sc hp (zcd zM_X10_smoke) 8 [some (.ref 423), some (.ref b1), some (.int y2), some (.int y3), some (.int y4), none, none, none] [] (gm g) (none, gm r.2)) (y2 : Int32) (y3 : Int32) (y4 : Int32) (g : zSg) (r : Unit × zSg) (h : f_X10_smoke_139 b1 k8 y2 y3 y4 g = some r) : zG d sc hp (zcd zM_X10_smoke) 139 [some (.ref 423), some (.ref b1), some (.int y2), some (.int y3), some (.int y4), none, none, none] [] (gm g) (none, gm r.2) := by
  obtain ⟨d, rfl⟩ : ∃ d', d = d' + 1 := ⟨d - 1, by omega⟩
  unfold f_X10_smoke_139 at h
  refine g_run 2 (pc' := 8) (L' := [some (.ref 423), some (.ref b1), some (.int y2), some (.int y3), some (.int ((y4 + 1))), none, none, none]) (S' := []) (M' := gm g) rfl ?_
  exact hk8 (y2) (y3) (y4 + 1) g _ h
def f_X10_smoke_129 (b1 : Nat) (k8 : Int32 → Int32 → Int32 → zSg → Option (Unit × zSg)) (y2 : Int32) (y3 : Int32) (y4 : Int32) (g : zSg) : Option (Unit × zSg) := (zB (f_X7_add (b1 + 3) y4 1 g) (fun v1 g2 => f_X10_smoke_139 b1 k8 (y2) (y3) (y4) g2))
set_option maxRecDepth 100000 in
set_option maxHeartbeats 4000000 in
theorem p_X10_smoke_129 {sc : zSc} {hp : zHp} {d : Nat} (hD : 19 ≤ d) (b1 : Nat) (hb1 : (zK0 b1).1 = 8) (k8 : Int32 → Int32 → Int32 → zSg → Option (Unit × zSg)) (hk8 : ∀ (y2 : Int32) (y3 : Int32) (y4 : Int32) (g : zSg) (r : Unit × zSg), k8 y2 y3 y4 g = some r → zG d sc hp (zcd zM_X10_smoke) 8 [some (.ref 423), some (.ref b1), some (.int y2), some (.int y3), some (.int y4), none, none, none] [] (gm g) (none, gm r.2)) (y2 : Int32) (y3 : Int32) (y4 : Int32) (g : zSg) (r : Unit × zSg) (h : f_X10_smoke_129 b1 k8 y2 y3 y4 g = some r) : zG d sc hp (zcd zM_X10_smoke) 129 [some (.ref 423), some (.ref b1), some (.int y2), some (.int y3), some (.int y4), none, none, none] [] (gm g) (none, gm r.2) := by
  obtain ⟨d, rfl⟩ : ∃ d', d = d' + 1 := ⟨d - 1, by omega⟩
  unfold f_X10_smoke_129 at h
  refine g_run 1 (pc' := 130) (L' := [some (.ref 423), some (.ref b1), some (.int y2), some (.int y3), some (.int y4), none, none, none]) (S' := [.ref b1]) (M' := gm g) rfl ?_
  refine g_getf rfl (ci := 8) (k := 1) rfl hb1 (gfv_s1 hb1) ?_
  refine g_run 2 (pc' := 136) (L' := [some (.ref 423), some (.ref b1), some (.int y2), some (.int y3), some (.int y4), none, none, none]) (S' := [.int 1, .int y4, .ref (b1 + 3)]) (M' := gm g) rfl ?_
  replace h := zB_of h
  obtain ⟨v1, g2, e3, h⟩ := h
  refine g_inv2 (kd := 1) (p_X7_add (b1 + 3) (zK0_s hb1).2.1 e3) rfl rfl rfl (by decide) rfl (g_recv (a := b1 + 3) rfl (Nat.le_of_ble_eq_true rfl) (Nat.le_of_ble_eq_true rfl) (Nat.le_of_ble_eq_true rfl) (Nat.le_of_ble_eq_true rfl) rfl (zK0_s hb1).2.1 (Nat.le_of_ble_eq_true rfl)) rfl rfl (by omega) (pc' := 139) rfl (S' := []) rfl ?_
  exact p_X10_smoke_139 hD b1 hb1 k8 hk8 (y2) (y3) (y4) g2 _ h
def f_X10_smoke_123 (b1 : Nat) (k8 : Int32 → Int32 → Int32 → zSg → Option (Unit × zSg)) (k65 : Int32 → Int32 → Int32 → Int32 → Int32 → zSg → Option (Unit × zSg)) (y2 : Int32) (y3 : Int32) (y4 : Int32) (y5 : Int32) (y6 : Int32) (g : zSg) : Option (Unit × zSg) := k65 (y2) (y3) (y4) (y5) (y6 + 1) g
set_option maxRecDepth 100000 in
set_option maxHeartbeats 4000000 in
theorem p_X10_smoke_123 {sc : zSc} {hp : zHp} {d : Nat} (hD : 19 ≤ d) (b1 : Nat) (hb1 : (zK0 b1).1 = 8) (k8 : Int32 → Int32 → Int32 → zSg → Option (Unit × zSg)) (hk8 : ∀ (y2 : Int32) (y3 : Int32) (y4 : Int32) (g : zSg) (r : Unit × zSg), k8 y2 y3 y4 g = some r → zG d sc hp (zcd zM_X10_smoke) 8 [some (.ref 423), some (.ref b1), some (.int y2), some (.int y3), some (.int y4), none, none, none] [] (gm g) (none, gm r.2)) (k65 : Int32 → Int32 → Int32 → Int32 → Int32 → zSg → Option (Unit × zSg)) (hk65 : ∀ (y2 : Int32) (y3 : Int32) (y4 : Int32) (y5 : Int32) (y6 : Int32) (g : zSg) (r : Unit × zSg), k65 y2 y3 y4 y5 y6 g = some r → zG d sc hp (zcd zM_X10_smoke) 65 [some (.ref 423), some (.ref b1), some (.int y2), some (.int y3), some (.int y4), some (.int y5), some (.int y6), none] [] (gm g) (none, gm r.2)) (y2 : Int32) (y3 : Int32) (y4 : Int32) (y5 : Int32) (y6 : Int32) (g : zSg) (r : Unit × zSg) (h : f_X10_smoke_123 b1 k8 k65 y2 y3 y4 y5 y6 g = some r) : zG d sc hp (zcd zM_X10_smoke) 123 [some (.ref 423), some (.ref b1), some (.int y2), some (.int y3), some (.int y4), some (.int y5), some (.int y6), none] [] (gm g) (none, gm r.2) := by
  obtain ⟨d, rfl⟩ : ∃ d', d = d' + 1 := ⟨d - 1, by omega⟩
  unfold f_X10_smoke_123 at h
  refine g_run 2 (pc' := 65) (L' := [some (.ref 423), some (.ref b1), some (.int y2), some (.int y3), some (.int y4), some (.int y5), some (.int ((y6 + 1))), none]) (S' := []) (M' := gm g) rfl ?_
  exact hk65 (y2) (y3) (y4) (y5) (y6 + 1) g _ h
def fb_X10_smoke_65 (b1 : Nat) (k8 : Int32 → Int32 → Int32 → zSg → Option (Unit × zSg)) (kk : Int32 → Int32 → Int32 → Int32 → Int32 → zSg → Option (Unit × zSg)) (y2 : Int32) (y3 : Int32) (y4 : Int32) (y5 : Int32) (y6 : Int32) (g : zSg) : Option (Unit × zSg) := (if y5 ≤ y6 then f_X10_smoke_129 b1 k8 (y2) (y3) (y4) g else (zB (f_X7_get (b1 + 1) y6 g) (fun v2 g3 => (zB (f_X0_heavy 3 y4 g3) (fun v5 g6 => (zB (f_X10_strengthAt b1 y4 v2 v5 g6) (fun v8 g9 => (if v8 ≤ 0 then f_X10_smoke_123 b1 k8 kk (y2) (y3) (y4) (y5) (y6) g9 else (zB (f_X0_nose 3 y6 g9) (fun v12 g13 => (zB (f_X8_breathe b1 y6 y4 v8 v12 g13) (fun v15 g16 => f_X10_smoke_123 b1 k8 kk (y2) (y3) (y4) (y5) (y6) g16))))))))))))
def f_X10_smoke_65 (b1 : Nat) (k8 : Int32 → Int32 → Int32 → zSg → Option (Unit × zSg)) : Nat → Int32 → Int32 → Int32 → Int32 → Int32 → zSg → Option (Unit × zSg)
  | 0, _, _, _, _, _, _ => none
  | n + 1, y2, y3, y4, y5, y6, g => fb_X10_smoke_65 b1 k8 (f_X10_smoke_65 b1 k8 n) y2 y3 y4 y5 y6 g
set_option maxRecDepth 100000 in
set_option maxHeartbeats 4000000 in
theorem p_X10_smoke_65 {sc : zSc} {hp : zHp} {d : Nat} (hD : 19 ≤ d) (b1 : Nat) (hb1 : (zK0 b1).1 = 8) (k8 : Int32 → Int32 → Int32 → zSg → Option (Unit × zSg)) (hk8 : ∀ (y2 : Int32) (y3 : Int32) (y4 : Int32) (g : zSg) (r : Unit × zSg), k8 y2 y3 y4 g = some r → zG d sc hp (zcd zM_X10_smoke) 8 [some (.ref 423), some (.ref b1), some (.int y2), some (.int y3), some (.int y4), none, none, none] [] (gm g) (none, gm r.2)) : ∀ (n : Nat) (y2 : Int32) (y3 : Int32) (y4 : Int32) (y5 : Int32) (y6 : Int32) (g : zSg) (r : Unit × zSg), f_X10_smoke_65 b1 k8 n y2 y3 y4 y5 y6 g = some r → zG d sc hp (zcd zM_X10_smoke) 65 [some (.ref 423), some (.ref b1), some (.int y2), some (.int y3), some (.int y4), some (.int y5), some (.int y6), none] [] (gm g) (none, gm r.2) := by
  obtain ⟨d, rfl⟩ : ∃ d', d = d' + 1 := ⟨d - 1, by omega⟩
  intro n
  induction n with
  | zero => intro y2 y3 y4 y5 y6 g r h; cases h
  | succ n ih =>
    intro y2 y3 y4 y5 y6 g r h
    replace h : fb_X10_smoke_65 b1 k8 (f_X10_smoke_65 b1 k8 n) y2 y3 y4 y5 y6 g = some r := h
    unfold fb_X10_smoke_65 at h
    refine g_run 2 (pc' := 69) (L' := [some (.ref 423), some (.ref b1), some (.int y2), some (.int y3), some (.int y4), some (.int y5), some (.int y6), none]) (S' := [.int y5, .int y6]) (M' := gm g) rfl ?_
    refine g_icmp (y5 ≤ y6) rfl (t := 129) rfl rfl (fun c1 => ?_) (fun c1 => ?_)
    · replace h := (if_pos c1).symm.trans h
      refine g_forget (L' := [some (.ref 423), some (.ref b1), some (.int y2), some (.int y3), some (.int y4), none, none, none]) (And.intro rfl (And.intro rfl (And.intro rfl (And.intro rfl (And.intro rfl True.intro))))) ?_
      exact p_X10_smoke_129 hD b1 hb1 k8 hk8 (y2) (y3) (y4) g _ h
    · replace h := (if_neg c1).symm.trans h
      refine g_run 4 (pc' := 77) (L' := [some (.ref 423), some (.ref b1), some (.int y2), some (.int y3), some (.int y4), some (.int y5), some (.int y6), none]) (S' := [.ref b1, .int y4, .ref b1, .ref 423]) (M' := gm g) rfl ?_
      refine g_getf rfl (ci := 8) (k := 0) rfl hb1 (gfv_s0 hb1) ?_
      refine g_run 1 (pc' := 82) (L' := [some (.ref 423), some (.ref b1), some (.int y2), some (.int y3), some (.int y4), some (.int y5), some (.int y6), none]) (S' := [.int y6, .ref (b1 + 1), .int y4, .ref b1, .ref 423]) (M' := gm g) rfl ?_
      replace h := zB_of h
      obtain ⟨v2, g3, e4, h⟩ := h
      refine g_inv2 (kd := 1) (p_X7_get (b1 + 1) (zK0_s hb1).1 e4) rfl rfl rfl (by decide) rfl (g_recv (a := b1 + 1) rfl (Nat.le_of_ble_eq_true rfl) (Nat.le_of_ble_eq_true rfl) (Nat.le_of_ble_eq_true rfl) (Nat.le_of_ble_eq_true rfl) rfl (zK0_s hb1).1 (Nat.le_of_ble_eq_true rfl)) rfl rfl (by omega) (pc' := 85) rfl (S' := [.int v2, .int y4, .ref b1, .ref 423]) rfl ?_
      refine g_run 3 (pc' := 91) (L' := [some (.ref 423), some (.ref b1), some (.int y2), some (.int y3), some (.int y4), some (.int y5), some (.int y6), none]) (S' := [.int y4, .ref 3, .int v2, .int y4, .ref b1, .ref 423]) (M' := gm g3) rfl ?_
      replace h := zB_of h
      obtain ⟨v5, g6, e7, h⟩ := h
      refine g_inv2 (kd := 1) (p_X0_heavy 3 rfl e7) rfl rfl rfl (by decide) rfl rfl rfl rfl (by omega) (pc' := 94) rfl (S' := [.int v5, .int v2, .int y4, .ref b1, .ref 423]) rfl ?_
      replace h := zB_of h
      obtain ⟨v8, g9, e10, h⟩ := h
      refine g_inv2 (kd := 1) (p_X10_strengthAt b1 hb1 e10) rfl rfl rfl (by decide) rfl rfl rfl rfl (by omega) (pc' := 97) rfl (S' := [.int v8]) rfl ?_
      refine g_run 2 (pc' := 101) (L' := [some (.ref 423), some (.ref b1), some (.int y2), some (.int y3), some (.int y4), some (.int y5), some (.int y6), some (.int v8)]) (S' := [.int v8]) (M' := gm g9) rfl ?_
      refine g_if (v8 ≤ 0) rfl (t := 123) rfl rfl (fun c11 => ?_) (fun c11 => ?_)
      · replace h := (if_pos c11).symm.trans h
        refine g_forget (L' := [some (.ref 423), some (.ref b1), some (.int y2), some (.int y3), some (.int y4), some (.int y5), some (.int y6), none]) (And.intro rfl (And.intro rfl (And.intro rfl (And.intro rfl (And.intro rfl (And.intro rfl (And.intro rfl True.intro))))))) ?_
        exact p_X10_smoke_123 hD b1 hb1 k8 hk8 (f_X10_smoke_65 b1 k8 n) ih (y2) (y3) (y4) (y5) (y6) g9 _ h
      · replace h := (if_neg c11).symm.trans h
        refine g_run 7 (pc' := 117) (L' := [some (.ref 423), some (.ref b1), some (.int y2), some (.int y3), some (.int y4), some (.int y5), some (.int y6), some (.int v8)]) (S' := [.int y6, .ref 3, .int v8, .int y4, .int y6, .ref b1]) (M' := gm g9) rfl ?_
        replace h := zB_of h
        obtain ⟨v12, g13, e14, h⟩ := h
        refine g_inv2 (kd := 1) (p_X0_nose 3 rfl e14) rfl rfl rfl (by decide) rfl rfl rfl rfl (by omega) (pc' := 120) rfl (S' := [.int v12, .int v8, .int y4, .int y6, .ref b1]) rfl ?_
        replace h := zB_of h
        obtain ⟨v15, g16, e17, h⟩ := h
        refine g_inv2 (kd := 1) (p_X8_breathe b1 hb1 e17) rfl rfl rfl (by decide) rfl (g_recv (a := b1) rfl (Nat.le_of_ble_eq_true rfl) (Nat.le_of_ble_eq_true rfl) (Nat.le_of_ble_eq_true rfl) (Nat.le_of_ble_eq_true rfl) rfl hb1 (Nat.le_of_ble_eq_true rfl)) rfl rfl (by omega) (pc' := 123) rfl (S' := []) rfl ?_
        refine g_forget (L' := [some (.ref 423), some (.ref b1), some (.int y2), some (.int y3), some (.int y4), some (.int y5), some (.int y6), none]) (And.intro rfl (And.intro rfl (And.intro rfl (And.intro rfl (And.intro rfl (And.intro rfl (And.intro rfl True.intro))))))) ?_
        exact p_X10_smoke_123 hD b1 hb1 k8 hk8 (f_X10_smoke_65 b1 k8 n) ih (y2) (y3) (y4) (y5) (y6) g16 _ h
def f_X10_smoke_60 (b1 : Nat) (k8 : Int32 → Int32 → Int32 → zSg → Option (Unit × zSg)) (y2 : Int32) (y3 : Int32) (y4 : Int32) (s0 : Int32) (g : zSg) : Option (Unit × zSg) := f_X10_smoke_65 b1 k8 zFu (y2) (y3) (y4) (s0) (0) g
set_option maxRecDepth 100000 in
set_option maxHeartbeats 4000000 in
theorem p_X10_smoke_60 {sc : zSc} {hp : zHp} {d : Nat} (hD : 19 ≤ d) (b1 : Nat) (hb1 : (zK0 b1).1 = 8) (k8 : Int32 → Int32 → Int32 → zSg → Option (Unit × zSg)) (hk8 : ∀ (y2 : Int32) (y3 : Int32) (y4 : Int32) (g : zSg) (r : Unit × zSg), k8 y2 y3 y4 g = some r → zG d sc hp (zcd zM_X10_smoke) 8 [some (.ref 423), some (.ref b1), some (.int y2), some (.int y3), some (.int y4), none, none, none] [] (gm g) (none, gm r.2)) (y2 : Int32) (y3 : Int32) (y4 : Int32) (s0 : Int32) (g : zSg) (r : Unit × zSg) (h : f_X10_smoke_60 b1 k8 y2 y3 y4 s0 g = some r) : zG d sc hp (zcd zM_X10_smoke) 60 [some (.ref 423), some (.ref b1), some (.int y2), some (.int y3), some (.int y4), none, none, none] [.int s0] (gm g) (none, gm r.2) := by
  obtain ⟨d, rfl⟩ : ∃ d', d = d' + 1 := ⟨d - 1, by omega⟩
  unfold f_X10_smoke_60 at h
  refine g_run 3 (pc' := 65) (L' := [some (.ref 423), some (.ref b1), some (.int y2), some (.int y3), some (.int y4), some (.int s0), some (.int 0), none]) (S' := []) (M' := gm g) rfl ?_
  exact p_X10_smoke_65 hD b1 hb1 k8 hk8 zFu (y2) (y3) (y4) (s0) (0) g _ h
def fb_X10_smoke_8 (b1 : Nat) (kk : Int32 → Int32 → Int32 → zSg → Option (Unit × zSg)) (y2 : Int32) (y3 : Int32) (y4 : Int32) (g : zSg) : Option (Unit × zSg) := (zB (f_X0_secrets 3 g) (fun v1 g2 => (if v1 ≤ y4 then f_X10_smoke_145 b1 (y3) g2 else (zB (f_X8_hangs b1 y4 g2) (fun v5 g6 => (if v5 = 0 then f_X10_smoke_139 b1 kk (y2) (y3) (y4) g6 else (if 1 ≤ y3 then (if ((y2 >>> (y4 &&& 31)) &&& 1) = 0 then f_X10_smoke_60 b1 kk (y2) (y3 + (-1)) (y4) (0) g6 else (zB (f_X0_persons 3 g6) (fun v11 g12 => f_X10_smoke_60 b1 kk (y2) (y3 + (-1)) (y4) (v11) g12))) else f_X10_smoke_139 b1 kk (y2) (y3) (y4) g6)))))))
def f_X10_smoke_8 (b1 : Nat) : Nat → Int32 → Int32 → Int32 → zSg → Option (Unit × zSg)
  | 0, _, _, _, _ => none
  | n + 1, y2, y3, y4, g => fb_X10_smoke_8 b1 (f_X10_smoke_8 b1 n) y2 y3 y4 g
set_option maxRecDepth 100000 in
set_option maxHeartbeats 4000000 in
theorem p_X10_smoke_8 {sc : zSc} {hp : zHp} {d : Nat} (hD : 19 ≤ d) (b1 : Nat) (hb1 : (zK0 b1).1 = 8) : ∀ (n : Nat) (y2 : Int32) (y3 : Int32) (y4 : Int32) (g : zSg) (r : Unit × zSg), f_X10_smoke_8 b1 n y2 y3 y4 g = some r → zG d sc hp (zcd zM_X10_smoke) 8 [some (.ref 423), some (.ref b1), some (.int y2), some (.int y3), some (.int y4), none, none, none] [] (gm g) (none, gm r.2) := by
  obtain ⟨d, rfl⟩ : ∃ d', d = d' + 1 := ⟨d - 1, by omega⟩
  intro n
  induction n with
  | zero => intro y2 y3 y4 g r h; cases h
  | succ n ih =>
    intro y2 y3 y4 g r h
    replace h : fb_X10_smoke_8 b1 (f_X10_smoke_8 b1 n) y2 y3 y4 g = some r := h
    unfold fb_X10_smoke_8 at h
    refine g_run 3 (pc' := 14) (L' := [some (.ref 423), some (.ref b1), some (.int y2), some (.int y3), some (.int y4), none, none, none]) (S' := [.ref 3, .int y4]) (M' := gm g) rfl ?_
    replace h := zB_of h
    obtain ⟨v1, g2, e3, h⟩ := h
    refine g_inv2 (kd := 1) (p_X0_secrets 3 rfl e3) rfl rfl rfl (by decide) rfl rfl rfl rfl (by omega) (pc' := 17) rfl (S' := [.int v1, .int y4]) rfl ?_
    refine g_icmp (v1 ≤ y4) rfl (t := 145) rfl rfl (fun c4 => ?_) (fun c4 => ?_)
    · replace h := (if_pos c4).symm.trans h
      refine g_forget (L' := [none, some (.ref b1), none, some (.int y3), none, none, none, none]) (And.intro rfl (And.intro rfl True.intro)) ?_
      exact p_X10_smoke_145 hD b1 hb1 (y3) g2 _ h
    · replace h := (if_neg c4).symm.trans h
      refine g_run 2 (pc' := 23) (L' := [some (.ref 423), some (.ref b1), some (.int y2), some (.int y3), some (.int y4), none, none, none]) (S' := [.int y4, .ref b1]) (M' := gm g2) rfl ?_
      replace h := zB_of h
      obtain ⟨v5, g6, e7, h⟩ := h
      refine g_inv2 (kd := 1) (p_X8_hangs b1 hb1 e7) rfl rfl rfl (by decide) rfl (g_recv (a := b1) rfl (Nat.le_of_ble_eq_true rfl) (Nat.le_of_ble_eq_true rfl) (Nat.le_of_ble_eq_true rfl) (Nat.le_of_ble_eq_true rfl) rfl hb1 (Nat.le_of_ble_eq_true rfl)) rfl rfl (by omega) (pc' := 26) rfl (S' := [.int v5]) rfl ?_
      refine g_if (v5 = 0) rfl (t := 139) rfl rfl (fun c8 => ?_) (fun c8 => ?_)
      · replace h := (if_pos c8).symm.trans h
        exact p_X10_smoke_139 hD b1 hb1 (f_X10_smoke_8 b1 n) ih (y2) (y3) (y4) g6 _ h
      · replace h := (if_neg c8).symm.trans h
        refine g_run 2 (pc' := 31) (L' := [some (.ref 423), some (.ref b1), some (.int y2), some (.int y3), some (.int y4), none, none, none]) (S' := [.int 1, .int y3]) (M' := gm g6) rfl ?_
        refine g_icmp (1 ≤ y3) rfl (t := 37) rfl rfl (fun c9 => ?_) (fun c9 => ?_)
        · replace h := (if_pos c9).symm.trans h
          refine g_run 6 (pc' := 46) (L' := [some (.ref 423), some (.ref b1), some (.int y2), some (.int ((y3 + (-1)))), some (.int y4), none, none, none]) (S' := [.int (((y2 >>> (y4 &&& 31)) &&& 1))]) (M' := gm g6) rfl ?_
          refine g_if (((y2 >>> (y4 &&& 31)) &&& 1) = 0) rfl (t := 59) rfl rfl (fun c10 => ?_) (fun c10 => ?_)
          · replace h := (if_pos c10).symm.trans h
            refine g_run 1 (pc' := 60) (L' := [some (.ref 423), some (.ref b1), some (.int y2), some (.int ((y3 + (-1)))), some (.int y4), none, none, none]) (S' := [.int 0]) (M' := gm g6) rfl ?_
            exact p_X10_smoke_60 hD b1 hb1 (f_X10_smoke_8 b1 n) ih (y2) (y3 + (-1)) (y4) (0) g6 _ h
          · replace h := (if_neg c10).symm.trans h
            refine g_run 2 (pc' := 53) (L' := [some (.ref 423), some (.ref b1), some (.int y2), some (.int ((y3 + (-1)))), some (.int y4), none, none, none]) (S' := [.ref 3]) (M' := gm g6) rfl ?_
            replace h := zB_of h
            obtain ⟨v11, g12, e13, h⟩ := h
            refine g_inv2 (kd := 1) (p_X0_persons 3 rfl e13) rfl rfl rfl (by decide) rfl rfl rfl rfl (by omega) (pc' := 56) rfl (S' := [.int v11]) rfl ?_
            refine g_run 1 (pc' := 60) (L' := [some (.ref 423), some (.ref b1), some (.int y2), some (.int ((y3 + (-1)))), some (.int y4), none, none, none]) (S' := [.int v11]) (M' := gm g12) rfl ?_
            exact p_X10_smoke_60 hD b1 hb1 (f_X10_smoke_8 b1 n) ih (y2) (y3 + (-1)) (y4) (v11) g12 _ h
        · replace h := (if_neg c9).symm.trans h
          refine g_run 1 (pc' := 139) (L' := [some (.ref 423), some (.ref b1), some (.int y2), some (.int y3), some (.int y4), none, none, none]) (S' := []) (M' := gm g6) rfl ?_
          exact p_X10_smoke_139 hD b1 hb1 (f_X10_smoke_8 b1 n) ih (y2) (y3) (y4) g6 _ h
def f_X10_smoke (b1 : Nat) (x2 : Int32) (g : zSg) : Option (Unit × zSg) := f_X10_smoke_8 b1 zFu (x2) (gI g (b1) 7) (0) g
set_option maxRecDepth 100000 in
set_option maxHeartbeats 4000000 in
theorem p_X10_smoke {sc : zSc} {hp : zHp} (b1 : Nat) (hb1 : (zK0 b1).1 = 8) {x2 : Int32} {g : zSg} {r : Unit × zSg} (h : f_X10_smoke b1 x2 g = some r) : zRn sc hp 19 zM_X10_smoke [.ref 423, .ref b1, .int x2] (gm g) none (gm r.2) := by
  intro d hD
  obtain ⟨d, rfl⟩ : ∃ d', d = d' + 1 := ⟨d - 1, by omega⟩
  show zG _ sc hp (zcd zM_X10_smoke) 0 [some (.ref 423), some (.ref b1), some (.int x2), none, none, none, none, none] [] (gm g) _
  unfold f_X10_smoke at h
  refine g_run 1 (pc' := 1) (L' := [some (.ref 423), some (.ref b1), some (.int x2), none, none, none, none, none]) (S' := [.ref b1]) (M' := gm g) rfl ?_
  refine g_getf rfl (ci := 8) (k := 7) rfl hb1 rfl ?_
  refine g_run 3 (pc' := 8) (L' := [some (.ref 423), some (.ref b1), some (.int x2), some (.int ((gI g (b1) 7))), some (.int 0), none, none, none]) (S' := []) (M' := gm g) rfl ?_
  exact p_X10_smoke_8 hD b1 hb1 zFu (x2) (gI g (b1) 7) (0) g _ h
def f_X10_cure_71 (b1 : Nat) (k4 : Int32 → Int32 → zSg → Option (Int32 × zSg)) (y2 : Int32) (y3 : Int32) (g : zSg) : Option (Int32 × zSg) := k4 (y2) (y3 + 1) g
set_option maxRecDepth 100000 in
set_option maxHeartbeats 4000000 in
theorem p_X10_cure_71 {sc : zSc} {hp : zHp} {d : Nat} (hD : 2 ≤ d) (b1 : Nat) (hb1 : (zK0 b1).1 = 8) (k4 : Int32 → Int32 → zSg → Option (Int32 × zSg)) (hk4 : ∀ (y2 : Int32) (y3 : Int32) (g : zSg) (r : Int32 × zSg), k4 y2 y3 g = some r → zG d sc hp (zcd zM_X10_cure) 4 [some (.ref 423), some (.ref b1), some (.int y2), some (.int y3)] [] (gm g) ((some (.int r.1)), gm r.2)) (y2 : Int32) (y3 : Int32) (g : zSg) (r : Int32 × zSg) (h : f_X10_cure_71 b1 k4 y2 y3 g = some r) : zG d sc hp (zcd zM_X10_cure) 71 [some (.ref 423), some (.ref b1), some (.int y2), some (.int y3)] [] (gm g) ((some (.int r.1)), gm r.2) := by
  obtain ⟨d, rfl⟩ : ∃ d', d = d' + 1 := ⟨d - 1, by omega⟩
  unfold f_X10_cure_71 at h
  refine g_run 2 (pc' := 4) (L' := [some (.ref 423), some (.ref b1), some (.int y2), some (.int ((y3 + 1)))]) (S' := []) (M' := gm g) rfl ?_
  exact hk4 (y2) (y3 + 1) g _ h
def fb_X10_cure_4 (b1 : Nat) (kk : Int32 → Int32 → zSg → Option (Int32 × zSg)) (y2 : Int32) (y3 : Int32) (g : zSg) : Option (Int32 × zSg) := (zB (f_X0_secrets 3 g) (fun v1 g2 => (if v1 ≤ y3 then some (y2, g2) else (zB (f_X8_isCured b1 y3 g2) (fun v5 g6 => (if ¬ v5 = 0 then f_X10_cure_71 b1 kk (y2) (y3) g6 else (zB (f_X7_get (b1 + 3) y3 g6) (fun v9 g10 => (zB (f_X0_heavy 3 y3 g10) (fun v12 g13 => (if v9 < v12 then f_X10_cure_71 b1 kk (y2) (y3) g13 else f_X10_cure_71 b1 kk (y2 + 1) (y3) (gsI (gsI g13 (b1) 5 ((gI g13 (b1) 5) ||| (1 <<< (y3 &&& 31)))) (b1) 4 ((gI (gsI g13 (b1) 5 ((gI g13 (b1) 5) ||| (1 <<< (y3 &&& 31)))) (b1) 4) &&& ((1 <<< (y3 &&& 31)) ^^^ (-1)))))))))))))))
def f_X10_cure_4 (b1 : Nat) : Nat → Int32 → Int32 → zSg → Option (Int32 × zSg)
  | 0, _, _, _ => none
  | n + 1, y2, y3, g => fb_X10_cure_4 b1 (f_X10_cure_4 b1 n) y2 y3 g
set_option maxRecDepth 100000 in
set_option maxHeartbeats 4000000 in
theorem p_X10_cure_4 {sc : zSc} {hp : zHp} {d : Nat} (hD : 2 ≤ d) (b1 : Nat) (hb1 : (zK0 b1).1 = 8) : ∀ (n : Nat) (y2 : Int32) (y3 : Int32) (g : zSg) (r : Int32 × zSg), f_X10_cure_4 b1 n y2 y3 g = some r → zG d sc hp (zcd zM_X10_cure) 4 [some (.ref 423), some (.ref b1), some (.int y2), some (.int y3)] [] (gm g) ((some (.int r.1)), gm r.2) := by
  obtain ⟨d, rfl⟩ : ∃ d', d = d' + 1 := ⟨d - 1, by omega⟩
  intro n
  induction n with
  | zero => intro y2 y3 g r h; cases h
  | succ n ih =>
    intro y2 y3 g r h
    replace h : fb_X10_cure_4 b1 (f_X10_cure_4 b1 n) y2 y3 g = some r := h
    unfold fb_X10_cure_4 at h
    refine g_run 3 (pc' := 9) (L' := [some (.ref 423), some (.ref b1), some (.int y2), some (.int y3)]) (S' := [.ref 3, .int y3]) (M' := gm g) rfl ?_
    replace h := zB_of h
    obtain ⟨v1, g2, e3, h⟩ := h
    refine g_inv2 (kd := 1) (p_X0_secrets 3 rfl e3) rfl rfl rfl (by decide) rfl rfl rfl rfl (by omega) (pc' := 12) rfl (S' := [.int v1, .int y3]) rfl ?_
    refine g_icmp (v1 ≤ y3) rfl (t := 77) rfl rfl (fun c4 => ?_) (fun c4 => ?_)
    · replace h := (if_pos c4).symm.trans h
      refine g_run 1 (pc' := 78) (L' := [some (.ref 423), some (.ref b1), some (.int y2), some (.int y3)]) (S' := [.int y2]) (M' := gm g2) rfl ?_
      cases h
      exact g_ret rfl rfl rfl rfl
    · replace h := (if_neg c4).symm.trans h
      refine g_run 2 (pc' := 17) (L' := [some (.ref 423), some (.ref b1), some (.int y2), some (.int y3)]) (S' := [.int y3, .ref b1]) (M' := gm g2) rfl ?_
      replace h := zB_of h
      obtain ⟨v5, g6, e7, h⟩ := h
      refine g_inv2 (kd := 1) (p_X8_isCured b1 hb1 e7) rfl rfl rfl (by decide) rfl (g_recv (a := b1) rfl (Nat.le_of_ble_eq_true rfl) (Nat.le_of_ble_eq_true rfl) (Nat.le_of_ble_eq_true rfl) (Nat.le_of_ble_eq_true rfl) rfl hb1 (Nat.le_of_ble_eq_true rfl)) rfl rfl (by omega) (pc' := 20) rfl (S' := [.int v5]) rfl ?_
      refine g_if (¬ v5 = 0) rfl (t := 71) rfl rfl (fun c8 => ?_) (fun c8 => ?_)
      · replace h := (if_pos c8).symm.trans h
        exact p_X10_cure_71 hD b1 hb1 (f_X10_cure_4 b1 n) ih (y2) (y3) g6 _ h
      · replace h := (if_neg c8).symm.trans h
        refine g_run 1 (pc' := 24) (L' := [some (.ref 423), some (.ref b1), some (.int y2), some (.int y3)]) (S' := [.ref b1]) (M' := gm g6) rfl ?_
        refine g_getf rfl (ci := 8) (k := 1) rfl hb1 (gfv_s1 hb1) ?_
        refine g_run 1 (pc' := 28) (L' := [some (.ref 423), some (.ref b1), some (.int y2), some (.int y3)]) (S' := [.int y3, .ref (b1 + 3)]) (M' := gm g6) rfl ?_
        replace h := zB_of h
        obtain ⟨v9, g10, e11, h⟩ := h
        refine g_inv2 (kd := 1) (p_X7_get (b1 + 3) (zK0_s hb1).2.1 e11) rfl rfl rfl (by decide) rfl (g_recv (a := b1 + 3) rfl (Nat.le_of_ble_eq_true rfl) (Nat.le_of_ble_eq_true rfl) (Nat.le_of_ble_eq_true rfl) (Nat.le_of_ble_eq_true rfl) rfl (zK0_s hb1).2.1 (Nat.le_of_ble_eq_true rfl)) rfl rfl (by omega) (pc' := 31) rfl (S' := [.int v9]) rfl ?_
        refine g_run 3 (pc' := 36) (L' := [some (.ref 423), some (.ref b1), some (.int y2), some (.int y3)]) (S' := [.int y3, .ref 3, .int v9]) (M' := gm g10) rfl ?_
        replace h := zB_of h
        obtain ⟨v12, g13, e14, h⟩ := h
        refine g_inv2 (kd := 1) (p_X0_heavy 3 rfl e14) rfl rfl rfl (by decide) rfl rfl rfl rfl (by omega) (pc' := 39) rfl (S' := [.int v12, .int v9]) rfl ?_
        refine g_icmp (v9 < v12) rfl (t := 71) rfl rfl (fun c15 => ?_) (fun c15 => ?_)
        · replace h := (if_pos c15).symm.trans h
          exact p_X10_cure_71 hD b1 hb1 (f_X10_cure_4 b1 n) ih (y2) (y3) g13 _ h
        · replace h := (if_neg c15).symm.trans h
          refine g_run 2 (pc' := 44) (L' := [some (.ref 423), some (.ref b1), some (.int y2), some (.int y3)]) (S' := [.ref b1, .ref b1]) (M' := gm g13) rfl ?_
          refine g_getf rfl (ci := 8) (k := 5) rfl hb1 rfl ?_
          refine g_run 4 (pc' := 51) (L' := [some (.ref 423), some (.ref b1), some (.int y2), some (.int y3)]) (S' := [.int (((gI g13 (b1) 5) ||| (1 <<< (y3 &&& 31)))), .ref b1]) (M' := gm g13) rfl ?_
          refine g_putf rfl (ci := 8) (k := 5) rfl (a := b1) hb1 rfl (g' := gsI g13 (b1) 5 ((gI g13 (b1) 5) ||| (1 <<< (y3 &&& 31)))) rfl ?_
          refine g_run 2 (pc' := 56) (L' := [some (.ref 423), some (.ref b1), some (.int y2), some (.int y3)]) (S' := [.ref b1, .ref b1]) (M' := gm (gsI g13 (b1) 5 ((gI g13 (b1) 5) ||| (1 <<< (y3 &&& 31))))) rfl ?_
          refine g_getf rfl (ci := 8) (k := 4) rfl hb1 rfl ?_
          refine g_run 6 (pc' := 65) (L' := [some (.ref 423), some (.ref b1), some (.int y2), some (.int y3)]) (S' := [.int (((gI (gsI g13 (b1) 5 ((gI g13 (b1) 5) ||| (1 <<< (y3 &&& 31)))) (b1) 4) &&& ((1 <<< (y3 &&& 31)) ^^^ (-1)))), .ref b1]) (M' := gm (gsI g13 (b1) 5 ((gI g13 (b1) 5) ||| (1 <<< (y3 &&& 31))))) rfl ?_
          refine g_putf rfl (ci := 8) (k := 4) rfl (a := b1) hb1 rfl (g' := gsI (gsI g13 (b1) 5 ((gI g13 (b1) 5) ||| (1 <<< (y3 &&& 31)))) (b1) 4 ((gI (gsI g13 (b1) 5 ((gI g13 (b1) 5) ||| (1 <<< (y3 &&& 31)))) (b1) 4) &&& ((1 <<< (y3 &&& 31)) ^^^ (-1)))) rfl ?_
          refine g_run 1 (pc' := 71) (L' := [some (.ref 423), some (.ref b1), some (.int ((y2 + 1))), some (.int y3)]) (S' := []) (M' := gm (gsI (gsI g13 (b1) 5 ((gI g13 (b1) 5) ||| (1 <<< (y3 &&& 31)))) (b1) 4 ((gI (gsI g13 (b1) 5 ((gI g13 (b1) 5) ||| (1 <<< (y3 &&& 31)))) (b1) 4) &&& ((1 <<< (y3 &&& 31)) ^^^ (-1))))) rfl ?_
          exact p_X10_cure_71 hD b1 hb1 (f_X10_cure_4 b1 n) ih (y2 + 1) (y3) (gsI (gsI g13 (b1) 5 ((gI g13 (b1) 5) ||| (1 <<< (y3 &&& 31)))) (b1) 4 ((gI (gsI g13 (b1) 5 ((gI g13 (b1) 5) ||| (1 <<< (y3 &&& 31)))) (b1) 4) &&& ((1 <<< (y3 &&& 31)) ^^^ (-1)))) _ h
def f_X10_cure (b1 : Nat) (g : zSg) : Option (Int32 × zSg) := f_X10_cure_4 b1 zFu (0) (0) g
set_option maxRecDepth 100000 in
set_option maxHeartbeats 4000000 in
theorem p_X10_cure {sc : zSc} {hp : zHp} (b1 : Nat) (hb1 : (zK0 b1).1 = 8) {g : zSg} {r : Int32 × zSg} (h : f_X10_cure b1 g = some r) : zRn sc hp 2 zM_X10_cure [.ref 423, .ref b1] (gm g) (some (.int r.1)) (gm r.2) := by
  intro d hD
  obtain ⟨d, rfl⟩ : ∃ d', d = d' + 1 := ⟨d - 1, by omega⟩
  show zG _ sc hp (zcd zM_X10_cure) 0 [some (.ref 423), some (.ref b1), none, none] [] (gm g) _
  unfold f_X10_cure at h
  refine g_run 4 (pc' := 4) (L' := [some (.ref 423), some (.ref b1), some (.int 0), some (.int 0)]) (S' := []) (M' := gm g) rfl ?_
  exact p_X10_cure_4 hD b1 hb1 zFu (0) (0) g _ h
def f_X10_tellAtTable_108 (b1 : Nat) (k3 : Int32 → Int32 → Int32 → Int32 → zSg → Option (Unit × zSg)) (y2 : Int32) (y3 : Int32) (y4 : Int32) (y5 : Int32) (g : zSg) : Option (Unit × zSg) := k3 (y2) (y3) (y4) (y5 + 1) g
set_option maxRecDepth 100000 in
set_option maxHeartbeats 4000000 in
theorem p_X10_tellAtTable_108 {sc : zSc} {hp : zHp} {d : Nat} (hD : 2 ≤ d) (b1 : Nat) (hb1 : (zK0 b1).1 = 8) (k3 : Int32 → Int32 → Int32 → Int32 → zSg → Option (Unit × zSg)) (hk3 : ∀ (y2 : Int32) (y3 : Int32) (y4 : Int32) (y5 : Int32) (g : zSg) (r : Unit × zSg), k3 y2 y3 y4 y5 g = some r → zG d sc hp (zcd zM_X10_tellAtTable) 3 [some (.ref 423), some (.ref b1), some (.int y2), some (.int y3), some (.int y4), some (.int y5), none, none, none] [] (gm g) (none, gm r.2)) (y2 : Int32) (y3 : Int32) (y4 : Int32) (y5 : Int32) (g : zSg) (r : Unit × zSg) (h : f_X10_tellAtTable_108 b1 k3 y2 y3 y4 y5 g = some r) : zG d sc hp (zcd zM_X10_tellAtTable) 108 [some (.ref 423), some (.ref b1), some (.int y2), some (.int y3), some (.int y4), some (.int y5), none, none, none] [] (gm g) (none, gm r.2) := by
  obtain ⟨d, rfl⟩ : ∃ d', d = d' + 1 := ⟨d - 1, by omega⟩
  unfold f_X10_tellAtTable_108 at h
  refine g_run 2 (pc' := 3) (L' := [some (.ref 423), some (.ref b1), some (.int y2), some (.int y3), some (.int y4), some (.int ((y5 + 1))), none, none, none]) (S' := []) (M' := gm g) rfl ?_
  exact hk3 (y2) (y3) (y4) (y5 + 1) g _ h
def f_X10_tellAtTable_88 (b1 : Nat) (k3 : Int32 → Int32 → Int32 → Int32 → zSg → Option (Unit × zSg)) (y2 : Int32) (y3 : Int32) (y4 : Int32) (y5 : Int32) (s0 : Int32) (g : zSg) : Option (Unit × zSg) := (zB (f_X0_nose 3 s0 g) (fun v1 g2 => (zB (f_X8_breathe b1 s0 y5 1 v1 g2) (fun v4 g5 => f_X10_tellAtTable_108 b1 k3 (y2) (y3) (y4) (y5) g5))))
set_option maxRecDepth 100000 in
set_option maxHeartbeats 4000000 in
theorem p_X10_tellAtTable_88 {sc : zSc} {hp : zHp} {d : Nat} (hD : 2 ≤ d) (b1 : Nat) (hb1 : (zK0 b1).1 = 8) (k3 : Int32 → Int32 → Int32 → Int32 → zSg → Option (Unit × zSg)) (hk3 : ∀ (y2 : Int32) (y3 : Int32) (y4 : Int32) (y5 : Int32) (g : zSg) (r : Unit × zSg), k3 y2 y3 y4 y5 g = some r → zG d sc hp (zcd zM_X10_tellAtTable) 3 [some (.ref 423), some (.ref b1), some (.int y2), some (.int y3), some (.int y4), some (.int y5), none, none, none] [] (gm g) (none, gm r.2)) (y2 : Int32) (y3 : Int32) (y4 : Int32) (y5 : Int32) (s0 : Int32) (g : zSg) (r : Unit × zSg) (h : f_X10_tellAtTable_88 b1 k3 y2 y3 y4 y5 s0 g = some r) : zG d sc hp (zcd zM_X10_tellAtTable) 88 [some (.ref 423), some (.ref b1), some (.int y2), some (.int y3), some (.int y4), some (.int y5), none, none, none] [.int s0] (gm g) (none, gm r.2) := by
  obtain ⟨d, rfl⟩ : ∃ d', d = d' + 1 := ⟨d - 1, by omega⟩
  unfold f_X10_tellAtTable_88 at h
  refine g_run 8 (pc' := 102) (L' := [some (.ref 423), some (.ref b1), some (.int y2), some (.int y3), some (.int y4), some (.int y5), none, none, some (.int s0)]) (S' := [.int s0, .ref 3, .int 1, .int y5, .int s0, .ref b1]) (M' := gm g) rfl ?_
  replace h := zB_of h
  obtain ⟨v1, g2, e3, h⟩ := h
  refine g_inv2 (kd := 1) (p_X0_nose 3 rfl e3) rfl rfl rfl (by decide) rfl rfl rfl rfl (by omega) (pc' := 105) rfl (S' := [.int v1, .int 1, .int y5, .int s0, .ref b1]) rfl ?_
  replace h := zB_of h
  obtain ⟨v4, g5, e6, h⟩ := h
  refine g_inv2 (kd := 1) (p_X8_breathe b1 hb1 e6) rfl rfl rfl (by decide) rfl (g_recv (a := b1) rfl (Nat.le_of_ble_eq_true rfl) (Nat.le_of_ble_eq_true rfl) (Nat.le_of_ble_eq_true rfl) (Nat.le_of_ble_eq_true rfl) rfl hb1 (Nat.le_of_ble_eq_true rfl)) rfl rfl (by omega) (pc' := 108) rfl (S' := []) rfl ?_
  refine g_forget (L' := [some (.ref 423), some (.ref b1), some (.int y2), some (.int y3), some (.int y4), some (.int y5), none, none, none]) (And.intro rfl (And.intro rfl (And.intro rfl (And.intro rfl (And.intro rfl (And.intro rfl True.intro)))))) ?_
  exact p_X10_tellAtTable_108 hD b1 hb1 k3 hk3 (y2) (y3) (y4) (y5) g5 _ h
def f_X10_tellAtTable_59 (b1 : Nat) (k3 : Int32 → Int32 → Int32 → Int32 → zSg → Option (Unit × zSg)) (y2 : Int32) (y3 : Int32) (y4 : Int32) (y5 : Int32) (y6 : Int32) (s0 : Int32) (g : zSg) : Option (Unit × zSg) := (if ((y4 >>> (y5 &&& 31)) &&& 1) = 0 then f_X10_tellAtTable_108 b1 k3 (y2) (y3) (y4) (y5) g else (if y6 = s0 then f_X10_tellAtTable_108 b1 k3 (y2) (y3) (y4) (y5) g else (if y6 = 0 then f_X10_tellAtTable_88 b1 k3 (y2) (y3) (y4) (y5) (y2) g else f_X10_tellAtTable_88 b1 k3 (y2) (y3) (y4) (y5) (y3) g)))
set_option maxRecDepth 100000 in
set_option maxHeartbeats 4000000 in
theorem p_X10_tellAtTable_59 {sc : zSc} {hp : zHp} {d : Nat} (hD : 2 ≤ d) (b1 : Nat) (hb1 : (zK0 b1).1 = 8) (k3 : Int32 → Int32 → Int32 → Int32 → zSg → Option (Unit × zSg)) (hk3 : ∀ (y2 : Int32) (y3 : Int32) (y4 : Int32) (y5 : Int32) (g : zSg) (r : Unit × zSg), k3 y2 y3 y4 y5 g = some r → zG d sc hp (zcd zM_X10_tellAtTable) 3 [some (.ref 423), some (.ref b1), some (.int y2), some (.int y3), some (.int y4), some (.int y5), none, none, none] [] (gm g) (none, gm r.2)) (y2 : Int32) (y3 : Int32) (y4 : Int32) (y5 : Int32) (y6 : Int32) (s0 : Int32) (g : zSg) (r : Unit × zSg) (h : f_X10_tellAtTable_59 b1 k3 y2 y3 y4 y5 y6 s0 g = some r) : zG d sc hp (zcd zM_X10_tellAtTable) 59 [some (.ref 423), some (.ref b1), some (.int y2), some (.int y3), some (.int y4), some (.int y5), some (.int y6), none, none] [.int s0] (gm g) (none, gm r.2) := by
  obtain ⟨d, rfl⟩ : ∃ d', d = d' + 1 := ⟨d - 1, by omega⟩
  unfold f_X10_tellAtTable_59 at h
  refine g_run 6 (pc' := 68) (L' := [some (.ref 423), some (.ref b1), some (.int y2), some (.int y3), some (.int y4), some (.int y5), some (.int y6), some (.int s0), none]) (S' := [.int (((y4 >>> (y5 &&& 31)) &&& 1))]) (M' := gm g) rfl ?_
  refine g_if (((y4 >>> (y5 &&& 31)) &&& 1) = 0) rfl (t := 108) rfl rfl (fun c1 => ?_) (fun c1 => ?_)
  · replace h := (if_pos c1).symm.trans h
    refine g_forget (L' := [some (.ref 423), some (.ref b1), some (.int y2), some (.int y3), some (.int y4), some (.int y5), none, none, none]) (And.intro rfl (And.intro rfl (And.intro rfl (And.intro rfl (And.intro rfl (And.intro rfl True.intro)))))) ?_
    exact p_X10_tellAtTable_108 hD b1 hb1 k3 hk3 (y2) (y3) (y4) (y5) g _ h
  · replace h := (if_neg c1).symm.trans h
    refine g_run 2 (pc' := 75) (L' := [some (.ref 423), some (.ref b1), some (.int y2), some (.int y3), some (.int y4), some (.int y5), some (.int y6), some (.int s0), none]) (S' := [.int s0, .int y6]) (M' := gm g) rfl ?_
    refine g_icmp (y6 = s0) rfl (t := 108) rfl rfl (fun c2 => ?_) (fun c2 => ?_)
    · replace h := (if_pos c2).symm.trans h
      refine g_forget (L' := [some (.ref 423), some (.ref b1), some (.int y2), some (.int y3), some (.int y4), some (.int y5), none, none, none]) (And.intro rfl (And.intro rfl (And.intro rfl (And.intro rfl (And.intro rfl (And.intro rfl True.intro)))))) ?_
      exact p_X10_tellAtTable_108 hD b1 hb1 k3 hk3 (y2) (y3) (y4) (y5) g _ h
    · replace h := (if_neg c2).symm.trans h
      refine g_run 1 (pc' := 80) (L' := [some (.ref 423), some (.ref b1), some (.int y2), some (.int y3), some (.int y4), some (.int y5), some (.int y6), some (.int s0), none]) (S' := [.int y6]) (M' := gm g) rfl ?_
      refine g_if (y6 = 0) rfl (t := 87) rfl rfl (fun c3 => ?_) (fun c3 => ?_)
      · replace h := (if_pos c3).symm.trans h
        refine g_run 1 (pc' := 88) (L' := [some (.ref 423), some (.ref b1), some (.int y2), some (.int y3), some (.int y4), some (.int y5), some (.int y6), some (.int s0), none]) (S' := [.int y2]) (M' := gm g) rfl ?_
        refine g_forget (L' := [some (.ref 423), some (.ref b1), some (.int y2), some (.int y3), some (.int y4), some (.int y5), none, none, none]) (And.intro rfl (And.intro rfl (And.intro rfl (And.intro rfl (And.intro rfl (And.intro rfl True.intro)))))) ?_
        exact p_X10_tellAtTable_88 hD b1 hb1 k3 hk3 (y2) (y3) (y4) (y5) (y2) g _ h
      · replace h := (if_neg c3).symm.trans h
        refine g_run 2 (pc' := 88) (L' := [some (.ref 423), some (.ref b1), some (.int y2), some (.int y3), some (.int y4), some (.int y5), some (.int y6), some (.int s0), none]) (S' := [.int y3]) (M' := gm g) rfl ?_
        refine g_forget (L' := [some (.ref 423), some (.ref b1), some (.int y2), some (.int y3), some (.int y4), some (.int y5), none, none, none]) (And.intro rfl (And.intro rfl (And.intro rfl (And.intro rfl (And.intro rfl (And.intro rfl True.intro)))))) ?_
        exact p_X10_tellAtTable_88 hD b1 hb1 k3 hk3 (y2) (y3) (y4) (y5) (y3) g _ h
def f_X10_tellAtTable_36 (b1 : Nat) (k3 : Int32 → Int32 → Int32 → Int32 → zSg → Option (Unit × zSg)) (y2 : Int32) (y3 : Int32) (y4 : Int32) (y5 : Int32) (s0 : Int32) (g : zSg) : Option (Unit × zSg) := (zB (f_X7_get 428 y5 g) (fun v1 g2 => (if ((v1 >>> (y3 &&& 31)) &&& 1) = 0 then f_X10_tellAtTable_59 b1 k3 (y2) (y3) (y4) (y5) (s0) (0) g2 else f_X10_tellAtTable_59 b1 k3 (y2) (y3) (y4) (y5) (s0) (1) g2)))
set_option maxRecDepth 100000 in
set_option maxHeartbeats 4000000 in
theorem p_X10_tellAtTable_36 {sc : zSc} {hp : zHp} {d : Nat} (hD : 2 ≤ d) (b1 : Nat) (hb1 : (zK0 b1).1 = 8) (k3 : Int32 → Int32 → Int32 → Int32 → zSg → Option (Unit × zSg)) (hk3 : ∀ (y2 : Int32) (y3 : Int32) (y4 : Int32) (y5 : Int32) (g : zSg) (r : Unit × zSg), k3 y2 y3 y4 y5 g = some r → zG d sc hp (zcd zM_X10_tellAtTable) 3 [some (.ref 423), some (.ref b1), some (.int y2), some (.int y3), some (.int y4), some (.int y5), none, none, none] [] (gm g) (none, gm r.2)) (y2 : Int32) (y3 : Int32) (y4 : Int32) (y5 : Int32) (s0 : Int32) (g : zSg) (r : Unit × zSg) (h : f_X10_tellAtTable_36 b1 k3 y2 y3 y4 y5 s0 g = some r) : zG d sc hp (zcd zM_X10_tellAtTable) 36 [some (.ref 423), some (.ref b1), some (.int y2), some (.int y3), some (.int y4), some (.int y5), none, none, none] [.int s0] (gm g) (none, gm r.2) := by
  obtain ⟨d, rfl⟩ : ∃ d', d = d' + 1 := ⟨d - 1, by omega⟩
  unfold f_X10_tellAtTable_36 at h
  refine g_run 4 (pc' := 44) (L' := [some (.ref 423), some (.ref b1), some (.int y2), some (.int y3), some (.int y4), some (.int y5), some (.int s0), none, none]) (S' := [.int y5, .ref 428]) (M' := gm g) rfl ?_
  replace h := zB_of h
  obtain ⟨v1, g2, e3, h⟩ := h
  refine g_inv2 (kd := 1) (p_X7_get 428 rfl e3) rfl rfl rfl (by decide) rfl rfl rfl rfl (by omega) (pc' := 47) rfl (S' := [.int v1]) rfl ?_
  refine g_run 4 (pc' := 51) (L' := [some (.ref 423), some (.ref b1), some (.int y2), some (.int y3), some (.int y4), some (.int y5), some (.int s0), none, none]) (S' := [.int (((v1 >>> (y3 &&& 31)) &&& 1))]) (M' := gm g2) rfl ?_
  refine g_if (((v1 >>> (y3 &&& 31)) &&& 1) = 0) rfl (t := 58) rfl rfl (fun c4 => ?_) (fun c4 => ?_)
  · replace h := (if_pos c4).symm.trans h
    refine g_run 1 (pc' := 59) (L' := [some (.ref 423), some (.ref b1), some (.int y2), some (.int y3), some (.int y4), some (.int y5), some (.int s0), none, none]) (S' := [.int 0]) (M' := gm g2) rfl ?_
    exact p_X10_tellAtTable_59 hD b1 hb1 k3 hk3 (y2) (y3) (y4) (y5) (s0) (0) g2 _ h
  · replace h := (if_neg c4).symm.trans h
    refine g_run 2 (pc' := 59) (L' := [some (.ref 423), some (.ref b1), some (.int y2), some (.int y3), some (.int y4), some (.int y5), some (.int s0), none, none]) (S' := [.int 1]) (M' := gm g2) rfl ?_
    exact p_X10_tellAtTable_59 hD b1 hb1 k3 hk3 (y2) (y3) (y4) (y5) (s0) (1) g2 _ h
def fb_X10_tellAtTable_3 (b1 : Nat) (kk : Int32 → Int32 → Int32 → Int32 → zSg → Option (Unit × zSg)) (y2 : Int32) (y3 : Int32) (y4 : Int32) (y5 : Int32) (g : zSg) : Option (Unit × zSg) := (zB (f_X0_secrets 3 g) (fun v1 g2 => (if v1 ≤ y5 then some ((), g2) else (zB (f_X7_get 428 y5 g2) (fun v5 g6 => (if ((v5 >>> (y2 &&& 31)) &&& 1) = 0 then f_X10_tellAtTable_36 b1 kk (y2) (y3) (y4) (y5) (0) g6 else f_X10_tellAtTable_36 b1 kk (y2) (y3) (y4) (y5) (1) g6))))))
def f_X10_tellAtTable_3 (b1 : Nat) : Nat → Int32 → Int32 → Int32 → Int32 → zSg → Option (Unit × zSg)
  | 0, _, _, _, _, _ => none
  | n + 1, y2, y3, y4, y5, g => fb_X10_tellAtTable_3 b1 (f_X10_tellAtTable_3 b1 n) y2 y3 y4 y5 g
set_option maxRecDepth 100000 in
set_option maxHeartbeats 4000000 in
theorem p_X10_tellAtTable_3 {sc : zSc} {hp : zHp} {d : Nat} (hD : 2 ≤ d) (b1 : Nat) (hb1 : (zK0 b1).1 = 8) : ∀ (n : Nat) (y2 : Int32) (y3 : Int32) (y4 : Int32) (y5 : Int32) (g : zSg) (r : Unit × zSg), f_X10_tellAtTable_3 b1 n y2 y3 y4 y5 g = some r → zG d sc hp (zcd zM_X10_tellAtTable) 3 [some (.ref 423), some (.ref b1), some (.int y2), some (.int y3), some (.int y4), some (.int y5), none, none, none] [] (gm g) (none, gm r.2) := by
  obtain ⟨d, rfl⟩ : ∃ d', d = d' + 1 := ⟨d - 1, by omega⟩
  intro n
  induction n with
  | zero => intro y2 y3 y4 y5 g r h; cases h
  | succ n ih =>
    intro y2 y3 y4 y5 g r h
    replace h : fb_X10_tellAtTable_3 b1 (f_X10_tellAtTable_3 b1 n) y2 y3 y4 y5 g = some r := h
    unfold fb_X10_tellAtTable_3 at h
    refine g_run 3 (pc' := 9) (L' := [some (.ref 423), some (.ref b1), some (.int y2), some (.int y3), some (.int y4), some (.int y5), none, none, none]) (S' := [.ref 3, .int y5]) (M' := gm g) rfl ?_
    replace h := zB_of h
    obtain ⟨v1, g2, e3, h⟩ := h
    refine g_inv2 (kd := 1) (p_X0_secrets 3 rfl e3) rfl rfl rfl (by decide) rfl rfl rfl rfl (by omega) (pc' := 12) rfl (S' := [.int v1, .int y5]) rfl ?_
    refine g_icmp (v1 ≤ y5) rfl (t := 114) rfl rfl (fun c4 => ?_) (fun c4 => ?_)
    · replace h := (if_pos c4).symm.trans h
      cases h
      exact g_ret rfl rfl rfl rfl
    · replace h := (if_neg c4).symm.trans h
      refine g_run 3 (pc' := 21) (L' := [some (.ref 423), some (.ref b1), some (.int y2), some (.int y3), some (.int y4), some (.int y5), none, none, none]) (S' := [.int y5, .ref 428]) (M' := gm g2) rfl ?_
      replace h := zB_of h
      obtain ⟨v5, g6, e7, h⟩ := h
      refine g_inv2 (kd := 1) (p_X7_get 428 rfl e7) rfl rfl rfl (by decide) rfl rfl rfl rfl (by omega) (pc' := 24) rfl (S' := [.int v5]) rfl ?_
      refine g_run 4 (pc' := 28) (L' := [some (.ref 423), some (.ref b1), some (.int y2), some (.int y3), some (.int y4), some (.int y5), none, none, none]) (S' := [.int (((v5 >>> (y2 &&& 31)) &&& 1))]) (M' := gm g6) rfl ?_
      refine g_if (((v5 >>> (y2 &&& 31)) &&& 1) = 0) rfl (t := 35) rfl rfl (fun c8 => ?_) (fun c8 => ?_)
      · replace h := (if_pos c8).symm.trans h
        refine g_run 1 (pc' := 36) (L' := [some (.ref 423), some (.ref b1), some (.int y2), some (.int y3), some (.int y4), some (.int y5), none, none, none]) (S' := [.int 0]) (M' := gm g6) rfl ?_
        exact p_X10_tellAtTable_36 hD b1 hb1 (f_X10_tellAtTable_3 b1 n) ih (y2) (y3) (y4) (y5) (0) g6 _ h
      · replace h := (if_neg c8).symm.trans h
        refine g_run 2 (pc' := 36) (L' := [some (.ref 423), some (.ref b1), some (.int y2), some (.int y3), some (.int y4), some (.int y5), none, none, none]) (S' := [.int 1]) (M' := gm g6) rfl ?_
        exact p_X10_tellAtTable_36 hD b1 hb1 (f_X10_tellAtTable_3 b1 n) ih (y2) (y3) (y4) (y5) (1) g6 _ h
def f_X10_tellAtTable (b1 : Nat) (x2 : Int32) (x3 : Int32) (x4 : Int32) (g : zSg) : Option (Unit × zSg) := f_X10_tellAtTable_3 b1 zFu (x2) (x3) (x4) (0) g
set_option maxRecDepth 100000 in
set_option maxHeartbeats 4000000 in
theorem p_X10_tellAtTable {sc : zSc} {hp : zHp} (b1 : Nat) (hb1 : (zK0 b1).1 = 8) {x2 : Int32} {x3 : Int32} {x4 : Int32} {g : zSg} {r : Unit × zSg} (h : f_X10_tellAtTable b1 x2 x3 x4 g = some r) : zRn sc hp 2 zM_X10_tellAtTable [.ref 423, .ref b1, .int x2, .int x3, .int x4] (gm g) none (gm r.2) := by
  intro d hD
  obtain ⟨d, rfl⟩ : ∃ d', d = d' + 1 := ⟨d - 1, by omega⟩
  show zG _ sc hp (zcd zM_X10_tellAtTable) 0 [some (.ref 423), some (.ref b1), some (.int x2), some (.int x3), some (.int x4), none, none, none, none] [] (gm g) _
  unfold f_X10_tellAtTable at h
  refine g_run 2 (pc' := 3) (L' := [some (.ref 423), some (.ref b1), some (.int x2), some (.int x3), some (.int x4), some (.int 0), none, none, none]) (S' := []) (M' := gm g) rfl ?_
  exact p_X10_tellAtTable_3 hD b1 hb1 zFu (x2) (x3) (x4) (0) g _ h
def f_X10_tell_83 (b1 : Nat) (k13 : Int32 → Int32 → zSg → Option (Unit × zSg)) (y2 : Int32) (y3 : Int32) (g : zSg) : Option (Unit × zSg) := k13 (y2) (y3 + 1) g
set_option maxRecDepth 100000 in
set_option maxHeartbeats 4000000 in
theorem p_X10_tell_83 {sc : zSc} {hp : zHp} {d : Nat} (hD : 3 ≤ d) (b1 : Nat) (hb1 : (zK0 b1).1 = 8) (k13 : Int32 → Int32 → zSg → Option (Unit × zSg)) (hk13 : ∀ (y2 : Int32) (y3 : Int32) (g : zSg) (r : Unit × zSg), k13 y2 y3 g = some r → zG d sc hp (zcd zM_X10_tell) 13 [some (.ref 423), some (.ref b1), some (.int y2), some (.int y3), none] [] (gm g) (none, gm r.2)) (y2 : Int32) (y3 : Int32) (g : zSg) (r : Unit × zSg) (h : f_X10_tell_83 b1 k13 y2 y3 g = some r) : zG d sc hp (zcd zM_X10_tell) 83 [some (.ref 423), some (.ref b1), some (.int y2), some (.int y3), none] [] (gm g) (none, gm r.2) := by
  obtain ⟨d, rfl⟩ : ∃ d', d = d' + 1 := ⟨d - 1, by omega⟩
  unfold f_X10_tell_83 at h
  refine g_run 2 (pc' := 13) (L' := [some (.ref 423), some (.ref b1), some (.int y2), some (.int ((y3 + 1))), none]) (S' := []) (M' := gm g) rfl ?_
  exact hk13 (y2) (y3 + 1) g _ h
def f_X10_tell_77 (b1 : Nat) (k13 : Int32 → Int32 → zSg → Option (Unit × zSg)) (k29 : Int32 → Int32 → Int32 → zSg → Option (Unit × zSg)) (y2 : Int32) (y3 : Int32) (y4 : Int32) (g : zSg) : Option (Unit × zSg) := k29 (y2) (y3) (y4 + 1) g
set_option maxRecDepth 100000 in
set_option maxHeartbeats 4000000 in
theorem p_X10_tell_77 {sc : zSc} {hp : zHp} {d : Nat} (hD : 3 ≤ d) (b1 : Nat) (hb1 : (zK0 b1).1 = 8) (k13 : Int32 → Int32 → zSg → Option (Unit × zSg)) (hk13 : ∀ (y2 : Int32) (y3 : Int32) (g : zSg) (r : Unit × zSg), k13 y2 y3 g = some r → zG d sc hp (zcd zM_X10_tell) 13 [some (.ref 423), some (.ref b1), some (.int y2), some (.int y3), none] [] (gm g) (none, gm r.2)) (k29 : Int32 → Int32 → Int32 → zSg → Option (Unit × zSg)) (hk29 : ∀ (y2 : Int32) (y3 : Int32) (y4 : Int32) (g : zSg) (r : Unit × zSg), k29 y2 y3 y4 g = some r → zG d sc hp (zcd zM_X10_tell) 29 [some (.ref 423), some (.ref b1), some (.int y2), some (.int y3), some (.int y4)] [] (gm g) (none, gm r.2)) (y2 : Int32) (y3 : Int32) (y4 : Int32) (g : zSg) (r : Unit × zSg) (h : f_X10_tell_77 b1 k13 k29 y2 y3 y4 g = some r) : zG d sc hp (zcd zM_X10_tell) 77 [some (.ref 423), some (.ref b1), some (.int y2), some (.int y3), some (.int y4)] [] (gm g) (none, gm r.2) := by
  obtain ⟨d, rfl⟩ : ∃ d', d = d' + 1 := ⟨d - 1, by omega⟩
  unfold f_X10_tell_77 at h
  refine g_run 2 (pc' := 29) (L' := [some (.ref 423), some (.ref b1), some (.int y2), some (.int y3), some (.int ((y4 + 1)))]) (S' := []) (M' := gm g) rfl ?_
  exact hk29 (y2) (y3) (y4 + 1) g _ h
def fb_X10_tell_29 (b1 : Nat) (k13 : Int32 → Int32 → zSg → Option (Unit × zSg)) (kk : Int32 → Int32 → Int32 → zSg → Option (Unit × zSg)) (y2 : Int32) (y3 : Int32) (y4 : Int32) (g : zSg) : Option (Unit × zSg) := (zB (f_X0_persons 3 g) (fun v1 g2 => (if v1 ≤ y4 then f_X10_tell_83 b1 k13 (y2) (y3) g2 else (zB (f_X7_get (b1 + 1) y3 g2) (fun v5 g6 => (zB (f_X7_get (b1 + 1) y4 g6) (fun v8 g9 => (if ¬ v5 = v8 then f_X10_tell_77 b1 k13 kk (y2) (y3) (y4) g9 else (zB (f_X10_tellAtTable b1 y3 y4 (y2 &&& ((gI g9 (b1) 5) ^^^ (-1))) g9) (fun v12 g13 => f_X10_tell_77 b1 k13 kk (y2) (y3) (y4) g13))))))))))
def f_X10_tell_29 (b1 : Nat) (k13 : Int32 → Int32 → zSg → Option (Unit × zSg)) : Nat → Int32 → Int32 → Int32 → zSg → Option (Unit × zSg)
  | 0, _, _, _, _ => none
  | n + 1, y2, y3, y4, g => fb_X10_tell_29 b1 k13 (f_X10_tell_29 b1 k13 n) y2 y3 y4 g
set_option maxRecDepth 100000 in
set_option maxHeartbeats 4000000 in
theorem p_X10_tell_29 {sc : zSc} {hp : zHp} {d : Nat} (hD : 3 ≤ d) (b1 : Nat) (hb1 : (zK0 b1).1 = 8) (k13 : Int32 → Int32 → zSg → Option (Unit × zSg)) (hk13 : ∀ (y2 : Int32) (y3 : Int32) (g : zSg) (r : Unit × zSg), k13 y2 y3 g = some r → zG d sc hp (zcd zM_X10_tell) 13 [some (.ref 423), some (.ref b1), some (.int y2), some (.int y3), none] [] (gm g) (none, gm r.2)) : ∀ (n : Nat) (y2 : Int32) (y3 : Int32) (y4 : Int32) (g : zSg) (r : Unit × zSg), f_X10_tell_29 b1 k13 n y2 y3 y4 g = some r → zG d sc hp (zcd zM_X10_tell) 29 [some (.ref 423), some (.ref b1), some (.int y2), some (.int y3), some (.int y4)] [] (gm g) (none, gm r.2) := by
  obtain ⟨d, rfl⟩ : ∃ d', d = d' + 1 := ⟨d - 1, by omega⟩
  intro n
  induction n with
  | zero => intro y2 y3 y4 g r h; cases h
  | succ n ih =>
    intro y2 y3 y4 g r h
    replace h : fb_X10_tell_29 b1 k13 (f_X10_tell_29 b1 k13 n) y2 y3 y4 g = some r := h
    unfold fb_X10_tell_29 at h
    refine g_run 3 (pc' := 35) (L' := [some (.ref 423), some (.ref b1), some (.int y2), some (.int y3), some (.int y4)]) (S' := [.ref 3, .int y4]) (M' := gm g) rfl ?_
    replace h := zB_of h
    obtain ⟨v1, g2, e3, h⟩ := h
    refine g_inv2 (kd := 1) (p_X0_persons 3 rfl e3) rfl rfl rfl (by decide) rfl rfl rfl rfl (by omega) (pc' := 38) rfl (S' := [.int v1, .int y4]) rfl ?_
    refine g_icmp (v1 ≤ y4) rfl (t := 83) rfl rfl (fun c4 => ?_) (fun c4 => ?_)
    · replace h := (if_pos c4).symm.trans h
      refine g_forget (L' := [some (.ref 423), some (.ref b1), some (.int y2), some (.int y3), none]) (And.intro rfl (And.intro rfl (And.intro rfl (And.intro rfl True.intro)))) ?_
      exact p_X10_tell_83 hD b1 hb1 k13 hk13 (y2) (y3) g2 _ h
    · replace h := (if_neg c4).symm.trans h
      refine g_run 1 (pc' := 42) (L' := [some (.ref 423), some (.ref b1), some (.int y2), some (.int y3), some (.int y4)]) (S' := [.ref b1]) (M' := gm g2) rfl ?_
      refine g_getf rfl (ci := 8) (k := 0) rfl hb1 (gfv_s0 hb1) ?_
      refine g_run 1 (pc' := 46) (L' := [some (.ref 423), some (.ref b1), some (.int y2), some (.int y3), some (.int y4)]) (S' := [.int y3, .ref (b1 + 1)]) (M' := gm g2) rfl ?_
      replace h := zB_of h
      obtain ⟨v5, g6, e7, h⟩ := h
      refine g_inv2 (kd := 1) (p_X7_get (b1 + 1) (zK0_s hb1).1 e7) rfl rfl rfl (by decide) rfl (g_recv (a := b1 + 1) rfl (Nat.le_of_ble_eq_true rfl) (Nat.le_of_ble_eq_true rfl) (Nat.le_of_ble_eq_true rfl) (Nat.le_of_ble_eq_true rfl) rfl (zK0_s hb1).1 (Nat.le_of_ble_eq_true rfl)) rfl rfl (by omega) (pc' := 49) rfl (S' := [.int v5]) rfl ?_
      refine g_run 1 (pc' := 50) (L' := [some (.ref 423), some (.ref b1), some (.int y2), some (.int y3), some (.int y4)]) (S' := [.ref b1, .int v5]) (M' := gm g6) rfl ?_
      refine g_getf rfl (ci := 8) (k := 0) rfl hb1 (gfv_s0 hb1) ?_
      refine g_run 1 (pc' := 55) (L' := [some (.ref 423), some (.ref b1), some (.int y2), some (.int y3), some (.int y4)]) (S' := [.int y4, .ref (b1 + 1), .int v5]) (M' := gm g6) rfl ?_
      replace h := zB_of h
      obtain ⟨v8, g9, e10, h⟩ := h
      refine g_inv2 (kd := 1) (p_X7_get (b1 + 1) (zK0_s hb1).1 e10) rfl rfl rfl (by decide) rfl (g_recv (a := b1 + 1) rfl (Nat.le_of_ble_eq_true rfl) (Nat.le_of_ble_eq_true rfl) (Nat.le_of_ble_eq_true rfl) (Nat.le_of_ble_eq_true rfl) rfl (zK0_s hb1).1 (Nat.le_of_ble_eq_true rfl)) rfl rfl (by omega) (pc' := 58) rfl (S' := [.int v8, .int v5]) rfl ?_
      refine g_icmp (¬ v5 = v8) rfl (t := 77) rfl rfl (fun c11 => ?_) (fun c11 => ?_)
      · replace h := (if_pos c11).symm.trans h
        exact p_X10_tell_77 hD b1 hb1 k13 hk13 (f_X10_tell_29 b1 k13 n) ih (y2) (y3) (y4) g9 _ h
      · replace h := (if_neg c11).symm.trans h
        refine g_run 6 (pc' := 68) (L' := [some (.ref 423), some (.ref b1), some (.int y2), some (.int y3), some (.int y4)]) (S' := [.ref b1, .int y2, .int y4, .int y3, .ref b1, .ref 423]) (M' := gm g9) rfl ?_
        refine g_getf rfl (ci := 8) (k := 5) rfl hb1 rfl ?_
        refine g_run 3 (pc' := 74) (L' := [some (.ref 423), some (.ref b1), some (.int y2), some (.int y3), some (.int y4)]) (S' := [.int ((y2 &&& ((gI g9 (b1) 5) ^^^ (-1)))), .int y4, .int y3, .ref b1, .ref 423]) (M' := gm g9) rfl ?_
        replace h := zB_of h
        obtain ⟨v12, g13, e14, h⟩ := h
        refine g_inv2 (kd := 1) (p_X10_tellAtTable b1 hb1 e14) rfl rfl rfl (by decide) rfl rfl rfl rfl (by omega) (pc' := 77) rfl (S' := []) rfl ?_
        exact p_X10_tell_77 hD b1 hb1 k13 hk13 (f_X10_tell_29 b1 k13 n) ih (y2) (y3) (y4) g13 _ h
def fb_X10_tell_13 (b1 : Nat) (kk : Int32 → Int32 → zSg → Option (Unit × zSg)) (y2 : Int32) (y3 : Int32) (g : zSg) : Option (Unit × zSg) := (zB (f_X0_persons 3 g) (fun v1 g2 => (if v1 ≤ y3 then some ((), g2) else f_X10_tell_29 b1 kk zFu (y2) (y3) (y3 + 1) g2)))
def f_X10_tell_13 (b1 : Nat) : Nat → Int32 → Int32 → zSg → Option (Unit × zSg)
  | 0, _, _, _ => none
  | n + 1, y2, y3, g => fb_X10_tell_13 b1 (f_X10_tell_13 b1 n) y2 y3 g
set_option maxRecDepth 100000 in
set_option maxHeartbeats 4000000 in
theorem p_X10_tell_13 {sc : zSc} {hp : zHp} {d : Nat} (hD : 3 ≤ d) (b1 : Nat) (hb1 : (zK0 b1).1 = 8) : ∀ (n : Nat) (y2 : Int32) (y3 : Int32) (g : zSg) (r : Unit × zSg), f_X10_tell_13 b1 n y2 y3 g = some r → zG d sc hp (zcd zM_X10_tell) 13 [some (.ref 423), some (.ref b1), some (.int y2), some (.int y3), none] [] (gm g) (none, gm r.2) := by
  obtain ⟨d, rfl⟩ : ∃ d', d = d' + 1 := ⟨d - 1, by omega⟩
  intro n
  induction n with
  | zero => intro y2 y3 g r h; cases h
  | succ n ih =>
    intro y2 y3 g r h
    replace h : fb_X10_tell_13 b1 (f_X10_tell_13 b1 n) y2 y3 g = some r := h
    unfold fb_X10_tell_13 at h
    refine g_run 3 (pc' := 18) (L' := [some (.ref 423), some (.ref b1), some (.int y2), some (.int y3), none]) (S' := [.ref 3, .int y3]) (M' := gm g) rfl ?_
    replace h := zB_of h
    obtain ⟨v1, g2, e3, h⟩ := h
    refine g_inv2 (kd := 1) (p_X0_persons 3 rfl e3) rfl rfl rfl (by decide) rfl rfl rfl rfl (by omega) (pc' := 21) rfl (S' := [.int v1, .int y3]) rfl ?_
    refine g_icmp (v1 ≤ y3) rfl (t := 89) rfl rfl (fun c4 => ?_) (fun c4 => ?_)
    · replace h := (if_pos c4).symm.trans h
      cases h
      exact g_ret rfl rfl rfl rfl
    · replace h := (if_neg c4).symm.trans h
      refine g_run 4 (pc' := 29) (L' := [some (.ref 423), some (.ref b1), some (.int y2), some (.int y3), some (.int ((y3 + 1)))]) (S' := []) (M' := gm g2) rfl ?_
      exact p_X10_tell_29 hD b1 hb1 (f_X10_tell_13 b1 n) ih zFu (y2) (y3) (y3 + 1) g2 _ h
def f_X10_tell (b1 : Nat) (x2 : Int32) (g : zSg) : Option (Unit × zSg) := (zB (f_X7_become 428 (b1 + 5) g) (fun v1 g2 => f_X10_tell_13 b1 zFu (x2) (0) g2))
set_option maxRecDepth 100000 in
set_option maxHeartbeats 4000000 in
theorem p_X10_tell {sc : zSc} {hp : zHp} (b1 : Nat) (hb1 : (zK0 b1).1 = 8) {x2 : Int32} {g : zSg} {r : Unit × zSg} (h : f_X10_tell b1 x2 g = some r) : zRn sc hp 3 zM_X10_tell [.ref 423, .ref b1, .int x2] (gm g) none (gm r.2) := by
  intro d hD
  obtain ⟨d, rfl⟩ : ∃ d', d = d' + 1 := ⟨d - 1, by omega⟩
  show zG _ sc hp (zcd zM_X10_tell) 0 [some (.ref 423), some (.ref b1), some (.int x2), none, none] [] (gm g) _
  unfold f_X10_tell at h
  refine g_run 3 (pc' := 5) (L' := [some (.ref 423), some (.ref b1), some (.int x2), none, none]) (S' := [.ref b1, .ref 428]) (M' := gm g) rfl ?_
  refine g_getf rfl (ci := 8) (k := 2) rfl hb1 (gfv_s2 hb1) ?_
  replace h := zB_of h
  obtain ⟨v1, g2, e3, h⟩ := h
  refine g_inv2 (kd := 1) (p_X7_become 428 (b1 + 5) rfl (zK0_s hb1).2.2.1 e3) rfl rfl rfl (by decide) rfl rfl rfl rfl (by omega) (pc' := 11) rfl (S' := []) rfl ?_
  refine g_run 2 (pc' := 13) (L' := [some (.ref 423), some (.ref b1), some (.int x2), some (.int 0), none]) (S' := []) (M' := gm g2) rfl ?_
  exact p_X10_tell_13 hD b1 hb1 zFu (x2) (0) g2 _ h
def fb_X10_pass_63 (b1 : Nat) (kk : Int32 → Int32 → zSg → Option (Int32 × zSg)) (y4 : Int32) (y5 : Int32) (g : zSg) : Option (Int32 × zSg) := (zB (f_X0_secrets 3 g) (fun v1 g2 => (if v1 ≤ y5 then some (y4, g2) else (zB (f_X7_get (b1 + 5) y5 g2) (fun v5 g6 => (zB (f_X7_get 426 y5 g6) (fun v8 g9 => kk (y4 ||| (v5 &&& (v8 ^^^ (-1)))) (y5 + 1) g9)))))))
def f_X10_pass_63 (b1 : Nat) : Nat → Int32 → Int32 → zSg → Option (Int32 × zSg)
  | 0, _, _, _ => none
  | n + 1, y4, y5, g => fb_X10_pass_63 b1 (f_X10_pass_63 b1 n) y4 y5 g
set_option maxRecDepth 100000 in
set_option maxHeartbeats 4000000 in
theorem p_X10_pass_63 {sc : zSc} {hp : zHp} {d : Nat} (hD : 20 ≤ d) (b1 : Nat) (hb1 : (zK0 b1).1 = 8) : ∀ (n : Nat) (y4 : Int32) (y5 : Int32) (g : zSg) (r : Int32 × zSg), f_X10_pass_63 b1 n y4 y5 g = some r → zG d sc hp (zcd zM_X10_pass) 63 [some (.ref 423), some (.ref b1), none, none, some (.int y4), some (.int y5)] [] (gm g) ((some (.int r.1)), gm r.2) := by
  obtain ⟨d, rfl⟩ : ∃ d', d = d' + 1 := ⟨d - 1, by omega⟩
  intro n
  induction n with
  | zero => intro y4 y5 g r h; cases h
  | succ n ih =>
    intro y4 y5 g r h
    replace h : fb_X10_pass_63 b1 (f_X10_pass_63 b1 n) y4 y5 g = some r := h
    unfold fb_X10_pass_63 at h
    refine g_run 3 (pc' := 69) (L' := [some (.ref 423), some (.ref b1), none, none, some (.int y4), some (.int y5)]) (S' := [.ref 3, .int y5]) (M' := gm g) rfl ?_
    replace h := zB_of h
    obtain ⟨v1, g2, e3, h⟩ := h
    refine g_inv2 (kd := 1) (p_X0_secrets 3 rfl e3) rfl rfl rfl (by decide) rfl rfl rfl rfl (by omega) (pc' := 72) rfl (S' := [.int v1, .int y5]) rfl ?_
    refine g_icmp (v1 ≤ y5) rfl (t := 107) rfl rfl (fun c4 => ?_) (fun c4 => ?_)
    · replace h := (if_pos c4).symm.trans h
      refine g_run 1 (pc' := 109) (L' := [some (.ref 423), some (.ref b1), none, none, some (.int y4), some (.int y5)]) (S' := [.int y4]) (M' := gm g2) rfl ?_
      cases h
      exact g_ret rfl rfl rfl rfl
    · replace h := (if_neg c4).symm.trans h
      refine g_run 2 (pc' := 78) (L' := [some (.ref 423), some (.ref b1), none, none, some (.int y4), some (.int y5)]) (S' := [.ref b1, .int y4]) (M' := gm g2) rfl ?_
      refine g_getf rfl (ci := 8) (k := 2) rfl hb1 (gfv_s2 hb1) ?_
      refine g_run 1 (pc' := 83) (L' := [some (.ref 423), some (.ref b1), none, none, some (.int y4), some (.int y5)]) (S' := [.int y5, .ref (b1 + 5), .int y4]) (M' := gm g2) rfl ?_
      replace h := zB_of h
      obtain ⟨v5, g6, e7, h⟩ := h
      refine g_inv2 (kd := 1) (p_X7_get (b1 + 5) (zK0_s hb1).2.2.1 e7) rfl rfl rfl (by decide) rfl (g_recv (a := b1 + 5) rfl (Nat.le_of_ble_eq_true rfl) (Nat.le_of_ble_eq_true rfl) (Nat.le_of_ble_eq_true rfl) (Nat.le_of_ble_eq_true rfl) rfl (zK0_s hb1).2.2.1 (Nat.le_of_ble_eq_true rfl)) rfl rfl (by omega) (pc' := 86) rfl (S' := [.int v5, .int y4]) rfl ?_
      refine g_run 3 (pc' := 92) (L' := [some (.ref 423), some (.ref b1), none, none, some (.int y4), some (.int y5)]) (S' := [.int y5, .ref 426, .int v5, .int y4]) (M' := gm g6) rfl ?_
      replace h := zB_of h
      obtain ⟨v8, g9, e10, h⟩ := h
      refine g_inv2 (kd := 1) (p_X7_get 426 rfl e10) rfl rfl rfl (by decide) rfl rfl rfl rfl (by omega) (pc' := 95) rfl (S' := [.int v8, .int v5, .int y4]) rfl ?_
      refine g_run 7 (pc' := 63) (L' := [some (.ref 423), some (.ref b1), none, none, some (.int ((y4 ||| (v5 &&& (v8 ^^^ (-1)))))), some (.int ((y5 + 1)))]) (S' := []) (M' := gm g9) rfl ?_
      exact ih (y4 ||| (v5 &&& (v8 ^^^ (-1)))) (y5 + 1) g9 _ h
def f_X10_pass (b1 : Nat) (x2 : Int32) (g : zSg) : Option (Int32 × zSg) := (zB (f_X7_become 426 (b1 + 5) g) (fun v1 g2 => (zB (f_X10_smoke b1 x2 g2) (fun v4 g5 => (zB (f_X10_cure b1 g5) (fun v7 g8 => (zB (f_X10_tell b1 x2 g8) (fun v10 g11 => f_X10_pass_63 b1 zFu (0) (0) (gsI (gsI g11 (b1) 8 (imin 999 ((gI g11 (b1) 8) + (2 * v7)))) (b1) 9 ((gI (gsI g11 (b1) 8 (imin 999 ((gI g11 (b1) 8) + (2 * v7)))) (b1) 9) + 1))))))))))
set_option maxRecDepth 100000 in
set_option maxHeartbeats 4000000 in
theorem p_X10_pass {sc : zSc} {hp : zHp} (b1 : Nat) (hb1 : (zK0 b1).1 = 8) {x2 : Int32} {g : zSg} {r : Int32 × zSg} (h : f_X10_pass b1 x2 g = some r) : zRn sc hp 20 zM_X10_pass [.ref 423, .ref b1, .int x2] (gm g) (some (.int r.1)) (gm r.2) := by
  intro d hD
  obtain ⟨d, rfl⟩ : ∃ d', d = d' + 1 := ⟨d - 1, by omega⟩
  show zG _ sc hp (zcd zM_X10_pass) 0 [some (.ref 423), some (.ref b1), some (.int x2), none, none, none] [] (gm g) _
  unfold f_X10_pass at h
  refine g_run 3 (pc' := 5) (L' := [some (.ref 423), some (.ref b1), some (.int x2), none, none, none]) (S' := [.ref b1, .ref 426]) (M' := gm g) rfl ?_
  refine g_getf rfl (ci := 8) (k := 2) rfl hb1 (gfv_s2 hb1) ?_
  replace h := zB_of h
  obtain ⟨v1, g2, e3, h⟩ := h
  refine g_inv2 (kd := 1) (p_X7_become 426 (b1 + 5) rfl (zK0_s hb1).2.2.1 e3) rfl rfl rfl (by decide) rfl rfl rfl rfl (by omega) (pc' := 11) rfl (S' := []) rfl ?_
  refine g_run 3 (pc' := 14) (L' := [some (.ref 423), some (.ref b1), some (.int x2), none, none, none]) (S' := [.int x2, .ref b1, .ref 423]) (M' := gm g2) rfl ?_
  replace h := zB_of h
  obtain ⟨v4, g5, e6, h⟩ := h
  refine g_inv2 (kd := 1) (p_X10_smoke b1 hb1 e6) rfl rfl rfl (by decide) rfl rfl rfl rfl (by omega) (pc' := 17) rfl (S' := []) rfl ?_
  refine g_run 2 (pc' := 19) (L' := [some (.ref 423), some (.ref b1), some (.int x2), none, none, none]) (S' := [.ref b1, .ref 423]) (M' := gm g5) rfl ?_
  replace h := zB_of h
  obtain ⟨v7, g8, e9, h⟩ := h
  refine g_inv2 (kd := 1) (p_X10_cure b1 hb1 e9) rfl rfl rfl (by decide) rfl rfl rfl rfl (by omega) (pc' := 22) rfl (S' := [.int v7]) rfl ?_
  refine g_run 4 (pc' := 26) (L' := [some (.ref 423), some (.ref b1), some (.int x2), some (.int v7), none, none]) (S' := [.int x2, .ref b1, .ref 423]) (M' := gm g8) rfl ?_
  replace h := zB_of h
  obtain ⟨v10, g11, e12, h⟩ := h
  refine g_inv2 (kd := 1) (p_X10_tell b1 hb1 e12) rfl rfl rfl (by decide) rfl rfl rfl rfl (by omega) (pc' := 29) rfl (S' := []) rfl ?_
  refine g_run 3 (pc' := 34) (L' := [some (.ref 423), some (.ref b1), some (.int x2), some (.int v7), none, none]) (S' := [.ref b1, .int 999, .ref b1]) (M' := gm g11) rfl ?_
  refine g_getf rfl (ci := 8) (k := 8) rfl hb1 rfl ?_
  refine g_run 4 (pc' := 41) (L' := [some (.ref 423), some (.ref b1), some (.int x2), some (.int v7), none, none]) (S' := [.int (((gI g11 (b1) 8) + (2 * v7))), .int 999, .ref b1]) (M' := gm g11) rfl ?_
  refine g_spec2 (kd := 0) rfl rfl rfl (by decide) rfl (jd := 1001) rfl (by decide) rfl (Or.inl (by decide)) (S' := [.int ((imin 999 ((gI g11 (b1) 8) + (2 * v7)))), .ref b1]) (M' := gm g11) rfl rfl (pc' := 44) rfl ?_
  refine g_putf rfl (ci := 8) (k := 8) rfl (a := b1) hb1 rfl (g' := gsI g11 (b1) 8 (imin 999 ((gI g11 (b1) 8) + (2 * v7)))) rfl ?_
  refine g_run 2 (pc' := 49) (L' := [some (.ref 423), some (.ref b1), some (.int x2), some (.int v7), none, none]) (S' := [.ref b1, .ref b1]) (M' := gm (gsI g11 (b1) 8 (imin 999 ((gI g11 (b1) 8) + (2 * v7))))) rfl ?_
  refine g_getf rfl (ci := 8) (k := 9) rfl hb1 rfl ?_
  refine g_run 2 (pc' := 54) (L' := [some (.ref 423), some (.ref b1), some (.int x2), some (.int v7), none, none]) (S' := [.int (((gI (gsI g11 (b1) 8 (imin 999 ((gI g11 (b1) 8) + (2 * v7)))) (b1) 9) + 1)), .ref b1]) (M' := gm (gsI g11 (b1) 8 (imin 999 ((gI g11 (b1) 8) + (2 * v7))))) rfl ?_
  refine g_putf rfl (ci := 8) (k := 9) rfl (a := b1) hb1 rfl (g' := gsI (gsI g11 (b1) 8 (imin 999 ((gI g11 (b1) 8) + (2 * v7)))) (b1) 9 ((gI (gsI g11 (b1) 8 (imin 999 ((gI g11 (b1) 8) + (2 * v7)))) (b1) 9) + 1)) rfl ?_
  refine g_run 4 (pc' := 63) (L' := [some (.ref 423), some (.ref b1), some (.int x2), some (.int v7), some (.int 0), some (.int 0)]) (S' := []) (M' := gm (gsI (gsI g11 (b1) 8 (imin 999 ((gI g11 (b1) 8) + (2 * v7)))) (b1) 9 ((gI (gsI g11 (b1) 8 (imin 999 ((gI g11 (b1) 8) + (2 * v7)))) (b1) 9) + 1))) rfl ?_
  refine g_forget (L' := [some (.ref 423), some (.ref b1), none, none, some (.int 0), some (.int 0)]) (And.intro rfl (And.intro rfl (And.intro rfl (And.intro rfl True.intro)))) ?_
  exact p_X10_pass_63 hD b1 hb1 zFu (0) (0) (gsI (gsI g11 (b1) 8 (imin 999 ((gI g11 (b1) 8) + (2 * v7)))) (b1) 9 ((gI (gsI g11 (b1) 8 (imin 999 ((gI g11 (b1) 8) + (2 * v7)))) (b1) 9) + 1)) _ h
def fb_X3_nightsTillKnown_11 (b1 : Nat) (kk : Int32 → Int32 → Int32 → zSg → Option (Int32 × zSg)) (y2 : Int32) (y3 : Int32) (y4 : Int32) (g : zSg) : Option (Int32 × zSg) := (if 99 < y4 then some ((-1), g) else (zB (f_X8_knows 434 y2 y3 g) (fun v2 g3 => (if v2 = 0 then (zB (f_X10_pass 434 (1 <<< (y3 &&& 31)) g3) (fun v6 g7 => kk (y2) (y3) (y4 + 1) g7)) else some (y4, g3)))))
def f_X3_nightsTillKnown_11 (b1 : Nat) : Nat → Int32 → Int32 → Int32 → zSg → Option (Int32 × zSg)
  | 0, _, _, _, _ => none
  | n + 1, y2, y3, y4, g => fb_X3_nightsTillKnown_11 b1 (f_X3_nightsTillKnown_11 b1 n) y2 y3 y4 g
set_option maxRecDepth 100000 in
set_option maxHeartbeats 4000000 in
theorem p_X3_nightsTillKnown_11 {sc : zSc} {hp : zHp} {d : Nat} (hD : 21 ≤ d) (b1 : Nat) (hb1 : (zK0 b1).1 = 8) : ∀ (n : Nat) (y2 : Int32) (y3 : Int32) (y4 : Int32) (g : zSg) (r : Int32 × zSg), f_X3_nightsTillKnown_11 b1 n y2 y3 y4 g = some r → zG d sc hp (zcd zM_X3_nightsTillKnown) 11 [some (.ref 430), none, some (.int y2), some (.int y3), some (.int y4)] [] (gm g) ((some (.int r.1)), gm r.2) := by
  obtain ⟨d, rfl⟩ : ∃ d', d = d' + 1 := ⟨d - 1, by omega⟩
  intro n
  induction n with
  | zero => intro y2 y3 y4 g r h; cases h
  | succ n ih =>
    intro y2 y3 y4 g r h
    replace h : fb_X3_nightsTillKnown_11 b1 (f_X3_nightsTillKnown_11 b1 n) y2 y3 y4 g = some r := h
    unfold fb_X3_nightsTillKnown_11 at h
    refine g_run 2 (pc' := 15) (L' := [some (.ref 430), none, some (.int y2), some (.int y3), some (.int y4)]) (S' := [.int 99, .int y4]) (M' := gm g) rfl ?_
    refine g_icmp (99 < y4) rfl (t := 54) rfl rfl (fun c1 => ?_) (fun c1 => ?_)
    · replace h := (if_pos c1).symm.trans h
      refine g_run 1 (pc' := 55) (L' := [some (.ref 430), none, some (.int y2), some (.int y3), some (.int y4)]) (S' := [.int (-1)]) (M' := gm g) rfl ?_
      cases h
      exact g_ret rfl rfl rfl rfl
    · replace h := (if_neg c1).symm.trans h
      refine g_run 4 (pc' := 24) (L' := [some (.ref 430), none, some (.int y2), some (.int y3), some (.int y4)]) (S' := [.int y3, .int y2, .ref 434]) (M' := gm g) rfl ?_
      replace h := zB_of h
      obtain ⟨v2, g3, e4, h⟩ := h
      refine g_inv2 (kd := 1) (p_X8_knows 434 rfl e4) rfl rfl rfl (by decide) rfl rfl rfl rfl (by omega) (pc' := 27) rfl (S' := [.int v2]) rfl ?_
      refine g_if (v2 = 0) rfl (t := 33) rfl rfl (fun c5 => ?_) (fun c5 => ?_)
      · replace h := (if_pos c5).symm.trans h
        refine g_run 7 (pc' := 44) (L' := [some (.ref 430), none, some (.int y2), some (.int y3), some (.int y4)]) (S' := [.int ((1 <<< (y3 &&& 31))), .ref 434, .ref 423]) (M' := gm g3) rfl ?_
        replace h := zB_of h
        obtain ⟨v6, g7, e8, h⟩ := h
        refine g_inv2 (kd := 1) (p_X10_pass 434 rfl e8) rfl rfl rfl (by decide) rfl rfl rfl rfl (by omega) (pc' := 47) rfl (S' := [.int v6]) rfl ?_
        refine g_run 3 (pc' := 11) (L' := [some (.ref 430), none, some (.int y2), some (.int y3), some (.int ((y4 + 1)))]) (S' := []) (M' := gm g7) rfl ?_
        exact ih (y2) (y3) (y4 + 1) g7 _ h
      · replace h := (if_neg c5).symm.trans h
        refine g_run 1 (pc' := 32) (L' := [some (.ref 430), none, some (.int y2), some (.int y3), some (.int y4)]) (S' := [.int y4]) (M' := gm g3) rfl ?_
        cases h
        exact g_ret rfl rfl rfl rfl
def f_X3_nightsTillKnown (b1 : Nat) (x2 : Int32) (x3 : Int32) (g : zSg) : Option (Int32 × zSg) := (zB (f_X8_become 434 b1 g) (fun v1 g2 => f_X3_nightsTillKnown_11 b1 zFu (x2) (x3) (0) g2))
set_option maxRecDepth 100000 in
set_option maxHeartbeats 4000000 in
theorem p_X3_nightsTillKnown {sc : zSc} {hp : zHp} (b1 : Nat) (hb1 : (zK0 b1).1 = 8) {x2 : Int32} {x3 : Int32} {g : zSg} {r : Int32 × zSg} (h : f_X3_nightsTillKnown b1 x2 x3 g = some r) : zRn sc hp 21 zM_X3_nightsTillKnown [.ref 430, .ref b1, .int x2, .int x3] (gm g) (some (.int r.1)) (gm r.2) := by
  intro d hD
  obtain ⟨d, rfl⟩ : ∃ d', d = d' + 1 := ⟨d - 1, by omega⟩
  show zG _ sc hp (zcd zM_X3_nightsTillKnown) 0 [some (.ref 430), some (.ref b1), some (.int x2), some (.int x3), none] [] (gm g) _
  unfold f_X3_nightsTillKnown at h
  refine g_run 3 (pc' := 5) (L' := [some (.ref 430), some (.ref b1), some (.int x2), some (.int x3), none]) (S' := [.ref b1, .ref 434]) (M' := gm g) rfl ?_
  replace h := zB_of h
  obtain ⟨v1, g2, e3, h⟩ := h
  refine g_inv2 (kd := 1) (p_X8_become 434 b1 rfl hb1 e3) rfl rfl rfl (by decide) rfl rfl rfl rfl (by omega) (pc' := 8) rfl (S' := []) rfl ?_
  refine g_run 2 (pc' := 11) (L' := [some (.ref 430), some (.ref b1), some (.int x2), some (.int x3), some (.int 0)]) (S' := []) (M' := gm g2) rfl ?_
  refine g_forget (L' := [some (.ref 430), none, some (.int x2), some (.int x3), some (.int 0)]) (And.intro rfl (And.intro rfl (And.intro rfl (And.intro rfl True.intro)))) ?_
  exact p_X3_nightsTillKnown_11 hD b1 hb1 zFu (x2) (x3) (0) g2 _ h
def fb_X3_nightsTillCured_10 (b1 : Nat) (kk : Int32 → Int32 → zSg → Option (Int32 × zSg)) (y2 : Int32) (y3 : Int32) (g : zSg) : Option (Int32 × zSg) := (if 99 < y3 then some ((-1), g) else (zB (f_X8_isCured 434 y2 g) (fun v2 g3 => (if v2 = 0 then (zB (f_X10_pass 434 0 g3) (fun v6 g7 => kk (y2) (y3 + 1) g7)) else some (y3, g3)))))
def f_X3_nightsTillCured_10 (b1 : Nat) : Nat → Int32 → Int32 → zSg → Option (Int32 × zSg)
  | 0, _, _, _ => none
  | n + 1, y2, y3, g => fb_X3_nightsTillCured_10 b1 (f_X3_nightsTillCured_10 b1 n) y2 y3 g
set_option maxRecDepth 100000 in
set_option maxHeartbeats 4000000 in
theorem p_X3_nightsTillCured_10 {sc : zSc} {hp : zHp} {d : Nat} (hD : 21 ≤ d) (b1 : Nat) (hb1 : (zK0 b1).1 = 8) : ∀ (n : Nat) (y2 : Int32) (y3 : Int32) (g : zSg) (r : Int32 × zSg), f_X3_nightsTillCured_10 b1 n y2 y3 g = some r → zG d sc hp (zcd zM_X3_nightsTillCured) 10 [some (.ref 430), none, some (.int y2), some (.int y3)] [] (gm g) ((some (.int r.1)), gm r.2) := by
  obtain ⟨d, rfl⟩ : ∃ d', d = d' + 1 := ⟨d - 1, by omega⟩
  intro n
  induction n with
  | zero => intro y2 y3 g r h; cases h
  | succ n ih =>
    intro y2 y3 g r h
    replace h : fb_X3_nightsTillCured_10 b1 (f_X3_nightsTillCured_10 b1 n) y2 y3 g = some r := h
    unfold fb_X3_nightsTillCured_10 at h
    refine g_run 2 (pc' := 13) (L' := [some (.ref 430), none, some (.int y2), some (.int y3)]) (S' := [.int 99, .int y3]) (M' := gm g) rfl ?_
    refine g_icmp (99 < y3) rfl (t := 48) rfl rfl (fun c1 => ?_) (fun c1 => ?_)
    · replace h := (if_pos c1).symm.trans h
      refine g_run 1 (pc' := 49) (L' := [some (.ref 430), none, some (.int y2), some (.int y3)]) (S' := [.int (-1)]) (M' := gm g) rfl ?_
      cases h
      exact g_ret rfl rfl rfl rfl
    · replace h := (if_neg c1).symm.trans h
      refine g_run 3 (pc' := 21) (L' := [some (.ref 430), none, some (.int y2), some (.int y3)]) (S' := [.int y2, .ref 434]) (M' := gm g) rfl ?_
      replace h := zB_of h
      obtain ⟨v2, g3, e4, h⟩ := h
      refine g_inv2 (kd := 1) (p_X8_isCured 434 rfl e4) rfl rfl rfl (by decide) rfl rfl rfl rfl (by omega) (pc' := 24) rfl (S' := [.int v2]) rfl ?_
      refine g_if (v2 = 0) rfl (t := 29) rfl rfl (fun c5 => ?_) (fun c5 => ?_)
      · replace h := (if_pos c5).symm.trans h
        refine g_run 5 (pc' := 38) (L' := [some (.ref 430), none, some (.int y2), some (.int y3)]) (S' := [.int 0, .ref 434, .ref 423]) (M' := gm g3) rfl ?_
        replace h := zB_of h
        obtain ⟨v6, g7, e8, h⟩ := h
        refine g_inv2 (kd := 1) (p_X10_pass 434 rfl e8) rfl rfl rfl (by decide) rfl rfl rfl rfl (by omega) (pc' := 41) rfl (S' := [.int v6]) rfl ?_
        refine g_run 3 (pc' := 10) (L' := [some (.ref 430), none, some (.int y2), some (.int ((y3 + 1)))]) (S' := []) (M' := gm g7) rfl ?_
        exact ih (y2) (y3 + 1) g7 _ h
      · replace h := (if_neg c5).symm.trans h
        refine g_run 1 (pc' := 28) (L' := [some (.ref 430), none, some (.int y2), some (.int y3)]) (S' := [.int y3]) (M' := gm g3) rfl ?_
        cases h
        exact g_ret rfl rfl rfl rfl
def f_X3_nightsTillCured (b1 : Nat) (x2 : Int32) (g : zSg) : Option (Int32 × zSg) := (zB (f_X8_become 434 b1 g) (fun v1 g2 => f_X3_nightsTillCured_10 b1 zFu (x2) (0) g2))
set_option maxRecDepth 100000 in
set_option maxHeartbeats 4000000 in
theorem p_X3_nightsTillCured {sc : zSc} {hp : zHp} (b1 : Nat) (hb1 : (zK0 b1).1 = 8) {x2 : Int32} {g : zSg} {r : Int32 × zSg} (h : f_X3_nightsTillCured b1 x2 g = some r) : zRn sc hp 21 zM_X3_nightsTillCured [.ref 430, .ref b1, .int x2] (gm g) (some (.int r.1)) (gm r.2) := by
  intro d hD
  obtain ⟨d, rfl⟩ : ∃ d', d = d' + 1 := ⟨d - 1, by omega⟩
  show zG _ sc hp (zcd zM_X3_nightsTillCured) 0 [some (.ref 430), some (.ref b1), some (.int x2), none] [] (gm g) _
  unfold f_X3_nightsTillCured at h
  refine g_run 3 (pc' := 5) (L' := [some (.ref 430), some (.ref b1), some (.int x2), none]) (S' := [.ref b1, .ref 434]) (M' := gm g) rfl ?_
  replace h := zB_of h
  obtain ⟨v1, g2, e3, h⟩ := h
  refine g_inv2 (kd := 1) (p_X8_become 434 b1 rfl hb1 e3) rfl rfl rfl (by decide) rfl rfl rfl rfl (by omega) (pc' := 8) rfl (S' := []) rfl ?_
  refine g_run 2 (pc' := 10) (L' := [some (.ref 430), some (.ref b1), some (.int x2), some (.int 0)]) (S' := []) (M' := gm g2) rfl ?_
  refine g_forget (L' := [some (.ref 430), none, some (.int x2), some (.int 0)]) (And.intro rfl (And.intro rfl (And.intro rfl True.intro))) ?_
  exact p_X3_nightsTillCured_10 hD b1 hb1 zFu (x2) (0) g2 _ h
def f_X8_pick_16 (b1 : Nat) (g : zSg) : Option (Option Nat × zSg) := some (none, g)
set_option maxRecDepth 100000 in
set_option maxHeartbeats 4000000 in
theorem p_X8_pick_16 {sc : zSc} {hp : zHp} {d : Nat} (hD : 0 ≤ d) (b1 : Nat) (hb1 : (zK0 b1).1 = 16) (g : zSg) (r : Option Nat × zSg) (h : f_X8_pick_16 b1 g = some r) : zG d sc hp (zcd zM_X8_pick) 16 [none, none] [] (gm g) ((some (zrv r.1)), gm r.2) := by
  unfold f_X8_pick_16 at h
  refine g_run 1 (pc' := 17) (L' := [none, none]) (S' := [.null]) (M' := gm g) rfl ?_
  cases h
  exact g_reto (v := none) rfl rfl
def f_X8_pick (b1 : Nat) (x2 : Int32) (g : zSg) : Option (Option Nat × zSg) := (if x2 < 0 then f_X8_pick_16 b1 g else (if (Int32.ofNat (zK0 (b1)).2) ≤ x2 then f_X8_pick_16 b1 g else (if zib x2 (zK0 (b1)).2 = true then some ((zR0 g.2.2.2 (b1) (ix x2)), g) else none)))
set_option maxRecDepth 100000 in
set_option maxHeartbeats 4000000 in
theorem p_X8_pick {sc : zSc} {hp : zHp} (b1 : Nat) (hb1 : (zK0 b1).1 = 16) {x2 : Int32} {g : zSg} {r : Option Nat × zSg} (h : f_X8_pick b1 x2 g = some r) : zRn sc hp 0 zM_X8_pick [.ref b1, .int x2] (gm g) (some (zrv r.1)) (gm r.2) := by
  intro d hD
  show zG _ sc hp (zcd zM_X8_pick) 0 [some (.ref b1), some (.int x2)] [] (gm g) _
  unfold f_X8_pick at h
  refine g_run 1 (pc' := 1) (L' := [some (.ref b1), some (.int x2)]) (S' := [.int x2]) (M' := gm g) rfl ?_
  refine g_if (x2 < 0) rfl (t := 16) rfl rfl (fun c1 => ?_) (fun c1 => ?_)
  · replace h := (if_pos c1).symm.trans h
    refine g_forget (L' := [none, none]) True.intro ?_
    exact p_X8_pick_16 hD b1 hb1 g _ h
  · replace h := (if_neg c1).symm.trans h
    refine g_run 2 (pc' := 6) (L' := [some (.ref b1), some (.int x2)]) (S' := [.ref b1, .int x2]) (M' := gm g) rfl ?_
    refine g_alen rfl (a := b1) (by rw [hb1]; decide) ?_
    refine g_icmp ((Int32.ofNat (zK0 (b1)).2) ≤ x2) rfl (t := 16) rfl rfl (fun c2 => ?_) (fun c2 => ?_)
    · replace h := (if_pos c2).symm.trans h
      refine g_forget (L' := [none, none]) True.intro ?_
      exact p_X8_pick_16 hD b1 hb1 g _ h
    · replace h := (if_neg c2).symm.trans h
      refine g_run 2 (pc' := 12) (L' := [some (.ref b1), some (.int x2)]) (S' := [.int x2, .ref b1]) (M' := gm g) rfl ?_
      by_cases c3 : zib x2 (zK0 (b1)).2 = true
      case neg => exact nomatch ((if_neg c3).symm.trans h)
      replace h := (if_pos c3).symm.trans h
      refine g_aald rfl (a := b1) (Or.inr hb1) c3 ?_
      refine g_run 1 (pc' := 17) (L' := [some (.ref b1), some (.int x2)]) (S' := [zrv ((zR0 g.2.2.2 (b1) (ix x2)))]) (M' := gm g) rfl ?_
      cases h
      exact g_reto (v := (zR0 g.2.2.2 (b1) (ix x2))) rfl rfl
def f_X3_firstNew_41 (y3 : Int32) (g : zSg) : Option (Int32 × zSg) := some ((imax 0 y3), g)
set_option maxRecDepth 100000 in
set_option maxHeartbeats 4000000 in
theorem p_X3_firstNew_41 {sc : zSc} {hp : zHp} {d : Nat} (hD : 1 ≤ d) (y3 : Int32) (g : zSg) (r : Int32 × zSg) (h : f_X3_firstNew_41 y3 g = some r) : zG d sc hp (zcd zM_X3_firstNew) 41 [none, none, none, some (.int y3), none] [] (gm g) ((some (.int r.1)), gm r.2) := by
  obtain ⟨d, rfl⟩ : ∃ d', d = d' + 1 := ⟨d - 1, by omega⟩
  unfold f_X3_firstNew_41 at h
  refine g_run 2 (pc' := 43) (L' := [none, none, none, some (.int y3), none]) (S' := [.int y3, .int 0]) (M' := gm g) rfl ?_
  refine g_spec2 (kd := 0) rfl rfl rfl (by decide) rfl (jd := 1002) rfl (by decide) rfl (Or.inl (by decide)) (S' := [.int ((imax 0 y3))]) (M' := gm g) rfl rfl (pc' := 46) rfl ?_
  cases h
  exact g_ret rfl rfl rfl rfl
def fb_X3_firstNew_7 (kk : Int32 → Int32 → Int32 → Int32 → Int32 → zSg → Option (Int32 × zSg)) (y0 : Int32) (y1 : Int32) (y2 : Int32) (y3 : Int32) (y4 : Int32) (g : zSg) : Option (Int32 × zSg) := (if y1 ≤ y4 then f_X3_firstNew_41 (y3) g else (if y3 ≤ 0 then f_X3_firstNew_41 (y3) g else (if ¬ ((y0 >>> ((y2 * y4) &&& 31)) &&& ((1 <<< (y2 &&& 31)) - 1)) = 0 then f_X3_firstNew_41 (y3) g else kk (y0) (y1) (y2) (y3 + (-1)) (y4 + 1) g)))
def f_X3_firstNew_7 : Nat → Int32 → Int32 → Int32 → Int32 → Int32 → zSg → Option (Int32 × zSg)
  | 0, _, _, _, _, _, _ => none
  | n + 1, y0, y1, y2, y3, y4, g => fb_X3_firstNew_7 (f_X3_firstNew_7 n) y0 y1 y2 y3 y4 g
set_option maxRecDepth 100000 in
set_option maxHeartbeats 4000000 in
theorem p_X3_firstNew_7 {sc : zSc} {hp : zHp} {d : Nat} (hD : 1 ≤ d) : ∀ (n : Nat) (y0 : Int32) (y1 : Int32) (y2 : Int32) (y3 : Int32) (y4 : Int32) (g : zSg) (r : Int32 × zSg), f_X3_firstNew_7 n y0 y1 y2 y3 y4 g = some r → zG d sc hp (zcd zM_X3_firstNew) 7 [some (.int y0), some (.int y1), some (.int y2), some (.int y3), some (.int y4)] [] (gm g) ((some (.int r.1)), gm r.2) := by
  obtain ⟨d, rfl⟩ : ∃ d', d = d' + 1 := ⟨d - 1, by omega⟩
  intro n
  induction n with
  | zero => intro y0 y1 y2 y3 y4 g r h; cases h
  | succ n ih =>
    intro y0 y1 y2 y3 y4 g r h
    replace h : fb_X3_firstNew_7 (f_X3_firstNew_7 n) y0 y1 y2 y3 y4 g = some r := h
    unfold fb_X3_firstNew_7 at h
    refine g_run 2 (pc' := 10) (L' := [some (.int y0), some (.int y1), some (.int y2), some (.int y3), some (.int y4)]) (S' := [.int y1, .int y4]) (M' := gm g) rfl ?_
    refine g_icmp (y1 ≤ y4) rfl (t := 41) rfl rfl (fun c1 => ?_) (fun c1 => ?_)
    · replace h := (if_pos c1).symm.trans h
      refine g_forget (L' := [none, none, none, some (.int y3), none]) (And.intro rfl True.intro) ?_
      exact p_X3_firstNew_41 hD (y3) g _ h
    · replace h := (if_neg c1).symm.trans h
      refine g_run 1 (pc' := 14) (L' := [some (.int y0), some (.int y1), some (.int y2), some (.int y3), some (.int y4)]) (S' := [.int y3]) (M' := gm g) rfl ?_
      refine g_if (y3 ≤ 0) rfl (t := 41) rfl rfl (fun c2 => ?_) (fun c2 => ?_)
      · replace h := (if_pos c2).symm.trans h
        refine g_forget (L' := [none, none, none, some (.int y3), none]) (And.intro rfl True.intro) ?_
        exact p_X3_firstNew_41 hD (y3) g _ h
      · replace h := (if_neg c2).symm.trans h
        refine g_run 11 (pc' := 29) (L' := [some (.int y0), some (.int y1), some (.int y2), some (.int y3), some (.int y4)]) (S' := [.int (((y0 >>> ((y2 * y4) &&& 31)) &&& ((1 <<< (y2 &&& 31)) - 1)))]) (M' := gm g) rfl ?_
        refine g_if (¬ ((y0 >>> ((y2 * y4) &&& 31)) &&& ((1 <<< (y2 &&& 31)) - 1)) = 0) rfl (t := 41) rfl rfl (fun c3 => ?_) (fun c3 => ?_)
        · replace h := (if_pos c3).symm.trans h
          refine g_forget (L' := [none, none, none, some (.int y3), none]) (And.intro rfl True.intro) ?_
          exact p_X3_firstNew_41 hD (y3) g _ h
        · replace h := (if_neg c3).symm.trans h
          refine g_run 3 (pc' := 7) (L' := [some (.int y0), some (.int y1), some (.int y2), some (.int ((y3 + (-1)))), some (.int ((y4 + 1)))]) (S' := []) (M' := gm g) rfl ?_
          exact ih (y0) (y1) (y2) (y3 + (-1)) (y4 + 1) g _ h
def f_X3_firstNew (x1 : Int32) (x2 : Int32) (x3 : Int32) (g : zSg) : Option (Int32 × zSg) := f_X3_firstNew_7 zFu (x1) (x2) (x3) (x2 - 1) (0) g
set_option maxRecDepth 100000 in
set_option maxHeartbeats 4000000 in
theorem p_X3_firstNew {sc : zSc} {hp : zHp} {x1 : Int32} {x2 : Int32} {x3 : Int32} {g : zSg} {r : Int32 × zSg} (h : f_X3_firstNew x1 x2 x3 g = some r) : zRn sc hp 1 zM_X3_firstNew [.int x1, .int x2, .int x3] (gm g) (some (.int r.1)) (gm r.2) := by
  intro d hD
  obtain ⟨d, rfl⟩ : ∃ d', d = d' + 1 := ⟨d - 1, by omega⟩
  show zG _ sc hp (zcd zM_X3_firstNew) 0 [some (.int x1), some (.int x2), some (.int x3), none, none] [] (gm g) _
  unfold f_X3_firstNew at h
  refine g_run 6 (pc' := 7) (L' := [some (.int x1), some (.int x2), some (.int x3), some (.int ((x2 - 1))), some (.int 0)]) (S' := []) (M' := gm g) rfl ?_
  exact p_X3_firstNew_7 hD zFu (x1) (x2) (x3) (x2 - 1) (0) g _ h
def f_X3_passTillKnown_114 (y2 : Int32) (g : zSg) : Option (Int32 × zSg) := some ((y2 + 1), g)
set_option maxRecDepth 100000 in
set_option maxHeartbeats 4000000 in
theorem p_X3_passTillKnown_114 {sc : zSc} {hp : zHp} {d : Nat} (hD : 21 ≤ d) (y2 : Int32) (g : zSg) (r : Int32 × zSg) (h : f_X3_passTillKnown_114 y2 g = some r) : zG d sc hp (zcd zM_X3_passTillKnown) 114 [none, none, some (.int y2), none, none, none, none, none] [] (gm g) ((some (.int r.1)), gm r.2) := by
  obtain ⟨d, rfl⟩ : ∃ d', d = d' + 1 := ⟨d - 1, by omega⟩
  unfold f_X3_passTillKnown_114 at h
  refine g_run 3 (pc' := 117) (L' := [none, none, some (.int y2), none, none, none, none, none]) (S' := [.int ((y2 + 1))]) (M' := gm g) rfl ?_
  cases h
  exact g_ret rfl rfl rfl rfl
def f_X3_passTillKnown_103 (y5 : Int32) (g : zSg) : Option (Int32 × zSg) := some ((y5 + 1), g)
set_option maxRecDepth 100000 in
set_option maxHeartbeats 4000000 in
theorem p_X3_passTillKnown_103 {sc : zSc} {hp : zHp} {d : Nat} (hD : 21 ≤ d) (y5 : Int32) (g : zSg) (r : Int32 × zSg) (h : f_X3_passTillKnown_103 y5 g = some r) : zG d sc hp (zcd zM_X3_passTillKnown) 103 [none, none, none, none, none, some (.int y5), none, none] [] (gm g) ((some (.int r.1)), gm r.2) := by
  obtain ⟨d, rfl⟩ : ∃ d', d = d' + 1 := ⟨d - 1, by omega⟩
  unfold f_X3_passTillKnown_103 at h
  refine g_run 3 (pc' := 107) (L' := [none, none, none, none, none, some (.int y5), none, none]) (S' := [.int ((y5 + 1))]) (M' := gm g) rfl ?_
  cases h
  exact g_ret rfl rfl rfl rfl
def fb_X3_passTillKnown_8 (kk : Int32 → Int32 → Int32 → Int32 → Int32 → zSg → Option (Int32 × zSg)) (y1 : Int32) (y2 : Int32) (y3 : Int32) (y4 : Int32) (y5 : Int32) (g : zSg) : Option (Int32 × zSg) := (if y2 ≤ y5 then f_X3_passTillKnown_114 (y2) g else (zB (f_X8_pick 431 y5 g) (fun v2 g3 => (zB (f_X8_pick 431 (y5 + 1) g3) (fun v5 g6 => (zNu v2 (some (y5, g6)) (fun a8 => if (zK0 a8).1 = 8 then (zNu v5 (some (y5, g6)) (fun a11 => if (zK0 a11).1 = 8 then (zB (f_X8_become a11 a8 g6) (fun v14 g15 => (zB (f_X10_pass a11 (1 <<< (y3 &&& 31)) (gsI g15 (a11) 6 ((y1 >>> ((2 * ((y2 - 1) - y5)) &&& 31)) &&& 3))) (fun v17 g18 => (zB (f_X7_get (a11 + 5) y3 g18) (fun v20 g21 => (if (v20 &&& y4) = 0 then kk (y1) (y2) (y3) (y4) (y5 + 1) g21 else f_X3_passTillKnown_103 (y5) g21))))))) else none)) else none)))))))
def f_X3_passTillKnown_8 : Nat → Int32 → Int32 → Int32 → Int32 → Int32 → zSg → Option (Int32 × zSg)
  | 0, _, _, _, _, _, _ => none
  | n + 1, y1, y2, y3, y4, y5, g => fb_X3_passTillKnown_8 (f_X3_passTillKnown_8 n) y1 y2 y3 y4 y5 g
set_option maxRecDepth 100000 in
set_option maxHeartbeats 4000000 in
theorem p_X3_passTillKnown_8 {sc : zSc} {hp : zHp} {d : Nat} (hD : 21 ≤ d) : ∀ (n : Nat) (y1 : Int32) (y2 : Int32) (y3 : Int32) (y4 : Int32) (y5 : Int32) (g : zSg) (r : Int32 × zSg), f_X3_passTillKnown_8 n y1 y2 y3 y4 y5 g = some r → zG d sc hp (zcd zM_X3_passTillKnown) 8 [some (.ref 430), some (.int y1), some (.int y2), some (.int y3), some (.int y4), some (.int y5), none, none] [] (gm g) ((some (.int r.1)), gm r.2) := by
  obtain ⟨d, rfl⟩ : ∃ d', d = d' + 1 := ⟨d - 1, by omega⟩
  intro n
  induction n with
  | zero => intro y1 y2 y3 y4 y5 g r h; cases h
  | succ n ih =>
    intro y1 y2 y3 y4 y5 g r h
    replace h : fb_X3_passTillKnown_8 (f_X3_passTillKnown_8 n) y1 y2 y3 y4 y5 g = some r := h
    unfold fb_X3_passTillKnown_8 at h
    refine g_run 2 (pc' := 11) (L' := [some (.ref 430), some (.int y1), some (.int y2), some (.int y3), some (.int y4), some (.int y5), none, none]) (S' := [.int y2, .int y5]) (M' := gm g) rfl ?_
    refine g_icmp (y2 ≤ y5) rfl (t := 114) rfl rfl (fun c1 => ?_) (fun c1 => ?_)
    · replace h := (if_pos c1).symm.trans h
      refine g_forget (L' := [none, none, some (.int y2), none, none, none, none, none]) (And.intro rfl True.intro) ?_
      exact p_X3_passTillKnown_114 hD (y2) g _ h
    · replace h := (if_neg c1).symm.trans h
      refine g_run 3 (pc' := 20) (L' := [some (.ref 430), some (.int y1), some (.int y2), some (.int y3), some (.int y4), some (.int y5), none, none]) (S' := [.int y5, .ref 431]) (M' := gm g) rfl ?_
      replace h := zB_of h
      obtain ⟨v2, g3, e4, h⟩ := h
      refine g_inv2 (kd := 0) (p_X8_pick 431 rfl e4) rfl rfl rfl (by decide) rfl rfl rfl rfl (by omega) (pc' := 23) rfl (S' := [zrv v2]) rfl ?_
      refine g_astore (v := v2) rfl (Nat.le_of_ble_eq_true rfl) (L' := [some (.ref 430), some (.int y1), some (.int y2), some (.int y3), some (.int y4), some (.int y5), some (zrv v2), none]) rfl ?_
      refine g_run 5 (pc' := 33) (L' := [some (.ref 430), some (.int y1), some (.int y2), some (.int y3), some (.int y4), some (.int y5), some (zrv v2), none]) (S' := [.int ((y5 + 1)), .ref 431]) (M' := gm g3) rfl ?_
      replace h := zB_of h
      obtain ⟨v5, g6, e7, h⟩ := h
      refine g_inv2 (kd := 0) (p_X8_pick 431 rfl e7) rfl rfl rfl (by decide) rfl rfl rfl rfl (by omega) (pc' := 36) rfl (S' := [zrv v5]) rfl ?_
      refine g_astore (v := v5) rfl (Nat.le_of_ble_eq_true rfl) (L' := [some (.ref 430), some (.int y1), some (.int y2), some (.int y3), some (.int y4), some (.int y5), some (zrv v2), some (zrv v5)]) ((zst1_o (j := 6) (v := v2) rfl).trans rfl) ?_
      refine g_aload (v := v2) rfl rfl ?_
      rcases v2 with _ | a8
      · replace h := zNu_n h
        show zG _ _ _ _ 40 [some (.ref 430), some (.int y1), some (.int y2), some (.int y3), some (.int y4), some (.int y5), some (.null), some (zrv v5)] [.null] (gm g6) _
        refine g_run 1 (pc' := 48) (L' := [some (.ref 430), some (.int y1), some (.int y2), some (.int y3), some (.int y4), some (.int y5), some (.null), some (zrv v5)]) (S' := []) (M' := gm g6) rfl ?_
        refine g_run 1 (pc' := 50) (L' := [some (.ref 430), some (.int y1), some (.int y2), some (.int y3), some (.int y4), some (.int y5), some (.null), some (zrv v5)]) (S' := [.int y5]) (M' := gm g6) rfl ?_
        cases h
        exact g_ret rfl rfl rfl rfl
      · replace h := zNu_s h
        by_cases h10 : (zK0 a8).1 = 8
        case neg => exact nomatch ((if_neg h10).symm.trans h)
        replace h := (if_pos h10).symm.trans h
        show zG _ _ _ _ 40 [some (.ref 430), some (.int y1), some (.int y2), some (.int y3), some (.int y4), some (.int y5), some (.ref a8), some (zrv v5)] [.ref a8] (gm g6) _
        refine g_run 1 (pc' := 43) (L' := [some (.ref 430), some (.int y1), some (.int y2), some (.int y3), some (.int y4), some (.int y5), some (.ref a8), some (zrv v5)]) (S' := []) (M' := gm g6) rfl ?_
        refine g_aload (v := v5) rfl rfl ?_
        rcases v5 with _ | a11
        · replace h := zNu_n h
          show zG _ _ _ _ 45 [some (.ref 430), some (.int y1), some (.int y2), some (.int y3), some (.int y4), some (.int y5), some (.ref a8), some (.null)] [.null] (gm g6) _
          refine g_run 1 (pc' := 48) (L' := [some (.ref 430), some (.int y1), some (.int y2), some (.int y3), some (.int y4), some (.int y5), some (.ref a8), some (.null)]) (S' := []) (M' := gm g6) rfl ?_
          refine g_run 1 (pc' := 50) (L' := [some (.ref 430), some (.int y1), some (.int y2), some (.int y3), some (.int y4), some (.int y5), some (.ref a8), some (.null)]) (S' := [.int y5]) (M' := gm g6) rfl ?_
          cases h
          exact g_ret rfl rfl rfl rfl
        · replace h := zNu_s h
          by_cases h13 : (zK0 a11).1 = 8
          case neg => exact nomatch ((if_neg h13).symm.trans h)
          replace h := (if_pos h13).symm.trans h
          show zG _ _ _ _ 45 [some (.ref 430), some (.int y1), some (.int y2), some (.int y3), some (.int y4), some (.int y5), some (.ref a8), some (.ref a11)] [.ref a11] (gm g6) _
          refine g_run 1 (pc' := 51) (L' := [some (.ref 430), some (.int y1), some (.int y2), some (.int y3), some (.int y4), some (.int y5), some (.ref a8), some (.ref a11)]) (S' := []) (M' := gm g6) rfl ?_
          refine g_run 2 (pc' := 55) (L' := [some (.ref 430), some (.int y1), some (.int y2), some (.int y3), some (.int y4), some (.int y5), some (.ref a8), some (.ref a11)]) (S' := [.ref a8, .ref a11]) (M' := gm g6) rfl ?_
          replace h := zB_of h
          obtain ⟨v14, g15, e16, h⟩ := h
          refine g_inv2 (kd := 1) (p_X8_become a11 a8 h13 h10 e16) rfl rfl rfl (by decide) rfl (g_recv (a := a11) rfl (Nat.le_of_ble_eq_true rfl) (Nat.le_of_ble_eq_true rfl) (Nat.le_of_ble_eq_true rfl) (Nat.le_of_ble_eq_true rfl) rfl h13 (Nat.le_of_ble_eq_true rfl)) rfl rfl (by omega) (pc' := 58) rfl (S' := []) rfl ?_
          refine g_run 12 (pc' := 72) (L' := [some (.ref 430), some (.int y1), some (.int y2), some (.int y3), some (.int y4), some (.int y5), some (.ref a8), some (.ref a11)]) (S' := [.int (((y1 >>> ((2 * ((y2 - 1) - y5)) &&& 31)) &&& 3)), .ref a11]) (M' := gm g15) rfl ?_
          refine g_putf rfl (ci := 8) (k := 6) rfl (a := a11) h13 rfl (g' := gsI g15 (a11) 6 ((y1 >>> ((2 * ((y2 - 1) - y5)) &&& 31)) &&& 3)) rfl ?_
          refine g_run 6 (pc' := 84) (L' := [some (.ref 430), some (.int y1), some (.int y2), some (.int y3), some (.int y4), some (.int y5), some (.ref a8), some (.ref a11)]) (S' := [.int ((1 <<< (y3 &&& 31))), .ref a11, .ref 423]) (M' := gm (gsI g15 (a11) 6 ((y1 >>> ((2 * ((y2 - 1) - y5)) &&& 31)) &&& 3))) rfl ?_
          replace h := zB_of h
          obtain ⟨v17, g18, e19, h⟩ := h
          refine g_inv2 (kd := 1) (p_X10_pass a11 h13 e19) rfl rfl rfl (by decide) rfl rfl rfl rfl (by omega) (pc' := 87) rfl (S' := [.int v17]) rfl ?_
          refine g_run 2 (pc' := 90) (L' := [some (.ref 430), some (.int y1), some (.int y2), some (.int y3), some (.int y4), some (.int y5), some (.ref a8), some (.ref a11)]) (S' := [.ref a11]) (M' := gm g18) rfl ?_
          refine g_getf rfl (ci := 8) (k := 2) rfl h13 (gfv_s2 h13) ?_
          refine g_run 1 (pc' := 94) (L' := [some (.ref 430), some (.int y1), some (.int y2), some (.int y3), some (.int y4), some (.int y5), some (.ref a8), some (.ref a11)]) (S' := [.int y3, .ref (a11 + 5)]) (M' := gm g18) rfl ?_
          replace h := zB_of h
          obtain ⟨v20, g21, e22, h⟩ := h
          refine g_inv2 (kd := 1) (p_X7_get (a11 + 5) (zK0_s h13).2.2.1 e22) rfl rfl rfl (by decide) rfl (g_recv (a := a11 + 5) rfl (Nat.le_of_ble_eq_true rfl) (Nat.le_of_ble_eq_true rfl) (Nat.le_of_ble_eq_true rfl) (Nat.le_of_ble_eq_true rfl) rfl (zK0_s h13).2.2.1 (Nat.le_of_ble_eq_true rfl)) rfl rfl (by omega) (pc' := 97) rfl (S' := [.int v20]) rfl ?_
          refine g_run 2 (pc' := 100) (L' := [some (.ref 430), some (.int y1), some (.int y2), some (.int y3), some (.int y4), some (.int y5), some (.ref a8), some (.ref a11)]) (S' := [.int ((v20 &&& y4))]) (M' := gm g21) rfl ?_
          refine g_if ((v20 &&& y4) = 0) rfl (t := 108) rfl rfl (fun c23 => ?_) (fun c23 => ?_)
          · replace h := (if_pos c23).symm.trans h
            refine g_run 2 (pc' := 8) (L' := [some (.ref 430), some (.int y1), some (.int y2), some (.int y3), some (.int y4), some (.int ((y5 + 1))), some (.ref a8), some (.ref a11)]) (S' := []) (M' := gm g21) rfl ?_
            refine g_forget (L' := [some (.ref 430), some (.int y1), some (.int y2), some (.int y3), some (.int y4), some (.int ((y5 + 1))), none, none]) (And.intro rfl (And.intro rfl (And.intro rfl (And.intro rfl (And.intro rfl (And.intro rfl True.intro)))))) ?_
            exact ih (y1) (y2) (y3) (y4) (y5 + 1) g21 _ h
          · replace h := (if_neg c23).symm.trans h
            refine g_forget (L' := [none, none, none, none, none, some (.int y5), none, none]) (And.intro rfl True.intro) ?_
            exact p_X3_passTillKnown_103 hD (y5) g21 _ h
def f_X3_passTillKnown (x1 : Int32) (x2 : Int32) (x3 : Int32) (x4 : Int32) (g : zSg) : Option (Int32 × zSg) := (zB (f_X3_firstNew x1 x2 2 g) (fun v1 g2 => f_X3_passTillKnown_8 zFu (x1) (x2) (x3) (x4) (v1) g2))
set_option maxRecDepth 100000 in
set_option maxHeartbeats 4000000 in
theorem p_X3_passTillKnown {sc : zSc} {hp : zHp} {x1 : Int32} {x2 : Int32} {x3 : Int32} {x4 : Int32} {g : zSg} {r : Int32 × zSg} (h : f_X3_passTillKnown x1 x2 x3 x4 g = some r) : zRn sc hp 21 zM_X3_passTillKnown [.ref 430, .int x1, .int x2, .int x3, .int x4] (gm g) (some (.int r.1)) (gm r.2) := by
  intro d hD
  obtain ⟨d, rfl⟩ : ∃ d', d = d' + 1 := ⟨d - 1, by omega⟩
  show zG _ sc hp (zcd zM_X3_passTillKnown) 0 [some (.ref 430), some (.int x1), some (.int x2), some (.int x3), some (.int x4), none, none, none] [] (gm g) _
  unfold f_X3_passTillKnown at h
  refine g_run 3 (pc' := 3) (L' := [some (.ref 430), some (.int x1), some (.int x2), some (.int x3), some (.int x4), none, none, none]) (S' := [.int 2, .int x2, .int x1]) (M' := gm g) rfl ?_
  replace h := zB_of h
  obtain ⟨v1, g2, e3, h⟩ := h
  refine g_inv2 (kd := 0) (p_X3_firstNew  e3) rfl rfl rfl (by decide) rfl rfl rfl rfl (by omega) (pc' := 6) rfl (S' := [.int v1]) rfl ?_
  refine g_run 1 (pc' := 8) (L' := [some (.ref 430), some (.int x1), some (.int x2), some (.int x3), some (.int x4), some (.int v1), none, none]) (S' := []) (M' := gm g2) rfl ?_
  exact p_X3_passTillKnown_8 hD zFu (x1) (x2) (x3) (x4) (v1) g2 _ h
def fb_X3_digits_6 (kk : Int32 → Int32 → Int32 → zSg → Option (Int32 × zSg)) (y0 : Int32) (y2 : Int32) (y3 : Int32) (g : zSg) : Option (Int32 × zSg) := (if y3 < 0 then some (y2, g) else kk (y0) ((y2 * 10) + ((y0 >>> ((2 * y3) &&& 31)) &&& 3)) (y3 + (-1)) g)
def f_X3_digits_6 : Nat → Int32 → Int32 → Int32 → zSg → Option (Int32 × zSg)
  | 0, _, _, _, _ => none
  | n + 1, y0, y2, y3, g => fb_X3_digits_6 (f_X3_digits_6 n) y0 y2 y3 g
set_option maxRecDepth 100000 in
set_option maxHeartbeats 4000000 in
theorem p_X3_digits_6 {sc : zSc} {hp : zHp} {d : Nat} (hD : 0 ≤ d) : ∀ (n : Nat) (y0 : Int32) (y2 : Int32) (y3 : Int32) (g : zSg) (r : Int32 × zSg), f_X3_digits_6 n y0 y2 y3 g = some r → zG d sc hp (zcd zM_X3_digits) 6 [some (.int y0), none, some (.int y2), some (.int y3)] [] (gm g) ((some (.int r.1)), gm r.2) := by
  intro n
  induction n with
  | zero => intro y0 y2 y3 g r h; cases h
  | succ n ih =>
    intro y0 y2 y3 g r h
    replace h : fb_X3_digits_6 (f_X3_digits_6 n) y0 y2 y3 g = some r := h
    unfold fb_X3_digits_6 at h
    refine g_run 1 (pc' := 7) (L' := [some (.int y0), none, some (.int y2), some (.int y3)]) (S' := [.int y3]) (M' := gm g) rfl ?_
    refine g_if (y3 < 0) rfl (t := 29) rfl rfl (fun c1 => ?_) (fun c1 => ?_)
    · replace h := (if_pos c1).symm.trans h
      refine g_run 1 (pc' := 30) (L' := [some (.int y0), none, some (.int y2), some (.int y3)]) (S' := [.int y2]) (M' := gm g) rfl ?_
      cases h
      exact g_ret rfl rfl rfl rfl
    · replace h := (if_neg c1).symm.trans h
      refine g_run 14 (pc' := 6) (L' := [some (.int y0), none, some (.int (((y2 * 10) + ((y0 >>> ((2 * y3) &&& 31)) &&& 3)))), some (.int ((y3 + (-1))))]) (S' := []) (M' := gm g) rfl ?_
      exact ih (y0) ((y2 * 10) + ((y0 >>> ((2 * y3) &&& 31)) &&& 3)) (y3 + (-1)) g _ h
def f_X3_digits (x1 : Int32) (x2 : Int32) (g : zSg) : Option (Int32 × zSg) := f_X3_digits_6 zFu (x1) (0) (x2 - 1) g
set_option maxRecDepth 100000 in
set_option maxHeartbeats 4000000 in
theorem p_X3_digits {sc : zSc} {hp : zHp} {x1 : Int32} {x2 : Int32} {g : zSg} {r : Int32 × zSg} (h : f_X3_digits x1 x2 g = some r) : zRn sc hp 0 zM_X3_digits [.int x1, .int x2] (gm g) (some (.int r.1)) (gm r.2) := by
  intro d hD
  show zG _ sc hp (zcd zM_X3_digits) 0 [some (.int x1), some (.int x2), none, none] [] (gm g) _
  unfold f_X3_digits at h
  refine g_run 6 (pc' := 6) (L' := [some (.int x1), some (.int x2), some (.int 0), some (.int ((x2 - 1)))]) (S' := []) (M' := gm g) rfl ?_
  refine g_forget (L' := [some (.int x1), none, some (.int 0), some (.int ((x2 - 1)))]) (And.intro rfl (And.intro rfl (And.intro rfl True.intro))) ?_
  exact p_X3_digits_6 hD zFu (x1) (0) (x2 - 1) g _ h
def f_X3_rowsOfWinds_158 (b1 : Nat) (y4 : Int32) (y9 : Int32) (g : zSg) : Option (Int32 × zSg) := (if y4 = 0 then some (y9, g) else some ((-1), g))
set_option maxRecDepth 100000 in
set_option maxHeartbeats 4000000 in
theorem p_X3_rowsOfWinds_158 {sc : zSc} {hp : zHp} {d : Nat} (hD : 22 ≤ d) (b1 : Nat) (hb1 : (zK0 b1).1 = 8) (y4 : Int32) (y9 : Int32) (g : zSg) (r : Int32 × zSg) (h : f_X3_rowsOfWinds_158 b1 y4 y9 g = some r) : zG d sc hp (zcd zM_X3_rowsOfWinds) 158 [none, none, none, none, some (.int y4), none, none, none, none, some (.int y9), none, none] [] (gm g) ((some (.int r.1)), gm r.2) := by
  obtain ⟨d, rfl⟩ : ∃ d', d = d' + 1 := ⟨d - 1, by omega⟩
  unfold f_X3_rowsOfWinds_158 at h
  refine g_run 1 (pc' := 160) (L' := [none, none, none, none, some (.int y4), none, none, none, none, some (.int y9), none, none]) (S' := [.int y4]) (M' := gm g) rfl ?_
  refine g_if (y4 = 0) rfl (t := 167) rfl rfl (fun c1 => ?_) (fun c1 => ?_)
  · replace h := (if_pos c1).symm.trans h
    refine g_run 1 (pc' := 169) (L' := [none, none, none, none, some (.int y4), none, none, none, none, some (.int y9), none, none]) (S' := [.int y9]) (M' := gm g) rfl ?_
    cases h
    exact g_ret rfl rfl rfl rfl
  · replace h := (if_neg c1).symm.trans h
    refine g_run 2 (pc' := 169) (L' := [none, none, none, none, some (.int y4), none, none, none, none, some (.int y9), none, none]) (S' := [.int (-1)]) (M' := gm g) rfl ?_
    cases h
    exact g_ret rfl rfl rfl rfl
def f_X3_rowsOfWinds_152 (b1 : Nat) (k82 : Int32 → Int32 → Int32 → Int32 → Nat → Int32 → Int32 → Int32 → zSg → Option (Int32 × zSg)) (y2 : Int32) (y3 : Int32) (y4 : Int32) (y5 : Int32) (y7 : Nat) (y8 : Int32) (y9 : Int32) (y10 : Int32) (g : zSg) : Option (Int32 × zSg) := k82 (y2) (y3) (y4) (y5) (y7) (y8) (y9) (y10 + 1) g
set_option maxRecDepth 100000 in
set_option maxHeartbeats 4000000 in
theorem p_X3_rowsOfWinds_152 {sc : zSc} {hp : zHp} {d : Nat} (hD : 22 ≤ d) (b1 : Nat) (hb1 : (zK0 b1).1 = 8) (k82 : Int32 → Int32 → Int32 → Int32 → Nat → Int32 → Int32 → Int32 → zSg → Option (Int32 × zSg)) (hk82 : ∀ (y2 : Int32) (y3 : Int32) (y4 : Int32) (y5 : Int32) (y7 : Nat) (y8 : Int32) (y9 : Int32) (y10 : Int32) (g : zSg) (r : Int32 × zSg), (zK0 y7).1 = 8 → k82 y2 y3 y4 y5 y7 y8 y9 y10 g = some r → zG d sc hp (zcd zM_X3_rowsOfWinds) 82 [some (.ref 430), none, some (.int y2), some (.int y3), some (.int y4), some (.int y5), none, some (.ref y7), some (.int y8), some (.int y9), some (.int y10), none] [] (gm g) ((some (.int r.1)), gm r.2)) (y2 : Int32) (y3 : Int32) (y4 : Int32) (y5 : Int32) (y7 : Nat) (y8 : Int32) (y9 : Int32) (y10 : Int32) (g : zSg) (r : Int32 × zSg) (hy7 : (zK0 y7).1 = 8) (h : f_X3_rowsOfWinds_152 b1 k82 y2 y3 y4 y5 y7 y8 y9 y10 g = some r) : zG d sc hp (zcd zM_X3_rowsOfWinds) 152 [some (.ref 430), none, some (.int y2), some (.int y3), some (.int y4), some (.int y5), none, some (.ref y7), some (.int y8), some (.int y9), some (.int y10), none] [] (gm g) ((some (.int r.1)), gm r.2) := by
  obtain ⟨d, rfl⟩ : ∃ d', d = d' + 1 := ⟨d - 1, by omega⟩
  unfold f_X3_rowsOfWinds_152 at h
  refine g_run 2 (pc' := 82) (L' := [some (.ref 430), none, some (.int y2), some (.int y3), some (.int y4), some (.int y5), none, some (.ref y7), some (.int y8), some (.int y9), some (.int ((y10 + 1))), none]) (S' := []) (M' := gm g) rfl ?_
  exact hk82 (y2) (y3) (y4) (y5) (y7) (y8) (y9) (y10 + 1) g _ hy7 h
def f_X3_rowsOfWinds_141 (b1 : Nat) (y5 : Int32) (y10 : Int32) (g : zSg) : Option (Int32 × zSg) := (zB (f_X3_digits y10 y5 g) (fun v1 g2 => some (v1, g2)))
set_option maxRecDepth 100000 in
set_option maxHeartbeats 4000000 in
theorem p_X3_rowsOfWinds_141 {sc : zSc} {hp : zHp} {d : Nat} (hD : 22 ≤ d) (b1 : Nat) (hb1 : (zK0 b1).1 = 8) (y5 : Int32) (y10 : Int32) (g : zSg) (r : Int32 × zSg) (h : f_X3_rowsOfWinds_141 b1 y5 y10 g = some r) : zG d sc hp (zcd zM_X3_rowsOfWinds) 141 [none, none, none, none, none, some (.int y5), none, none, none, none, some (.int y10), none] [] (gm g) ((some (.int r.1)), gm r.2) := by
  obtain ⟨d, rfl⟩ : ∃ d', d = d' + 1 := ⟨d - 1, by omega⟩
  unfold f_X3_rowsOfWinds_141 at h
  refine g_run 2 (pc' := 145) (L' := [none, none, none, none, none, some (.int y5), none, none, none, none, some (.int y10), none]) (S' := [.int y5, .int y10]) (M' := gm g) rfl ?_
  replace h := zB_of h
  obtain ⟨v1, g2, e3, h⟩ := h
  refine g_inv2 (kd := 0) (p_X3_digits  e3) rfl rfl rfl (by decide) rfl rfl rfl rfl (by omega) (pc' := 148) rfl (S' := [.int v1]) rfl ?_
  cases h
  exact g_ret rfl rfl rfl rfl
def fb_X3_rowsOfWinds_82 (b1 : Nat) (kk : Int32 → Int32 → Int32 → Int32 → Nat → Int32 → Int32 → Int32 → zSg → Option (Int32 × zSg)) (y2 : Int32) (y3 : Int32) (y4 : Int32) (y5 : Int32) (y7 : Nat) (y8 : Int32) (y9 : Int32) (y10 : Int32) (g : zSg) : Option (Int32 × zSg) := (if y8 ≤ y10 then f_X3_rowsOfWinds_158 b1 (y4) (y9) g else (zB (f_X3_passTillKnown y10 y5 y2 y3 g) (fun v2 g3 => (if y5 < v2 then (zB (f_X8_isCured y7 y2 g3) (fun v6 g7 => (if v6 = 0 then f_X3_rowsOfWinds_152 b1 kk (y2) (y3) (y4) (y5) (y7) (y8) (y9) (y10) g7 else (if y4 = 0 then f_X3_rowsOfWinds_152 b1 kk (y2) (y3) (y4) (y5) (y7) (y8) (y9 + 1) (y10) g7 else f_X3_rowsOfWinds_141 b1 (y5) (y10) g7)))) else f_X3_rowsOfWinds_152 b1 kk (y2) (y3) (y4) (y5) (y7) (y8) (y9) (y10 ||| ((1 <<< ((2 * (y5 - v2)) &&& 31)) - 1)) g3))))
def f_X3_rowsOfWinds_82 (b1 : Nat) : Nat → Int32 → Int32 → Int32 → Int32 → Nat → Int32 → Int32 → Int32 → zSg → Option (Int32 × zSg)
  | 0, _, _, _, _, _, _, _, _, _ => none
  | n + 1, y2, y3, y4, y5, y7, y8, y9, y10, g => fb_X3_rowsOfWinds_82 b1 (f_X3_rowsOfWinds_82 b1 n) y2 y3 y4 y5 y7 y8 y9 y10 g
set_option maxRecDepth 100000 in
set_option maxHeartbeats 4000000 in
theorem p_X3_rowsOfWinds_82 {sc : zSc} {hp : zHp} {d : Nat} (hD : 22 ≤ d) (b1 : Nat) (hb1 : (zK0 b1).1 = 8) : ∀ (n : Nat) (y2 : Int32) (y3 : Int32) (y4 : Int32) (y5 : Int32) (y7 : Nat) (y8 : Int32) (y9 : Int32) (y10 : Int32) (g : zSg) (r : Int32 × zSg) (hy7 : (zK0 y7).1 = 8), f_X3_rowsOfWinds_82 b1 n y2 y3 y4 y5 y7 y8 y9 y10 g = some r → zG d sc hp (zcd zM_X3_rowsOfWinds) 82 [some (.ref 430), none, some (.int y2), some (.int y3), some (.int y4), some (.int y5), none, some (.ref y7), some (.int y8), some (.int y9), some (.int y10), none] [] (gm g) ((some (.int r.1)), gm r.2) := by
  obtain ⟨d, rfl⟩ : ∃ d', d = d' + 1 := ⟨d - 1, by omega⟩
  intro n
  induction n with
  | zero => intro y2 y3 y4 y5 y7 y8 y9 y10 g r hy7 h; cases h
  | succ n ih =>
    intro y2 y3 y4 y5 y7 y8 y9 y10 g r hy7 h
    replace h : fb_X3_rowsOfWinds_82 b1 (f_X3_rowsOfWinds_82 b1 n) y2 y3 y4 y5 y7 y8 y9 y10 g = some r := h
    unfold fb_X3_rowsOfWinds_82 at h
    refine g_run 2 (pc' := 86) (L' := [some (.ref 430), none, some (.int y2), some (.int y3), some (.int y4), some (.int y5), none, some (.ref y7), some (.int y8), some (.int y9), some (.int y10), none]) (S' := [.int y8, .int y10]) (M' := gm g) rfl ?_
    refine g_icmp (y8 ≤ y10) rfl (t := 158) rfl rfl (fun c1 => ?_) (fun c1 => ?_)
    · replace h := (if_pos c1).symm.trans h
      refine g_forget (L' := [none, none, none, none, some (.int y4), none, none, none, none, some (.int y9), none, none]) (And.intro rfl (And.intro rfl True.intro)) ?_
      exact p_X3_rowsOfWinds_158 hD b1 hb1 (y4) (y9) g _ h
    · replace h := (if_neg c1).symm.trans h
      refine g_run 5 (pc' := 96) (L' := [some (.ref 430), none, some (.int y2), some (.int y3), some (.int y4), some (.int y5), none, some (.ref y7), some (.int y8), some (.int y9), some (.int y10), none]) (S' := [.int y3, .int y2, .int y5, .int y10, .ref 430]) (M' := gm g) rfl ?_
      replace h := zB_of h
      obtain ⟨v2, g3, e4, h⟩ := h
      refine g_inv2 (kd := 1) (p_X3_passTillKnown  e4) rfl rfl rfl (by decide) rfl rfl rfl rfl (by omega) (pc' := 99) rfl (S' := [.int v2]) rfl ?_
      refine g_run 3 (pc' := 105) (L' := [some (.ref 430), none, some (.int y2), some (.int y3), some (.int y4), some (.int y5), none, some (.ref y7), some (.int y8), some (.int y9), some (.int y10), some (.int v2)]) (S' := [.int y5, .int v2]) (M' := gm g3) rfl ?_
      refine g_icmp (y5 < v2) rfl (t := 127) rfl rfl (fun c5 => ?_) (fun c5 => ?_)
      · replace h := (if_pos c5).symm.trans h
        refine g_run 2 (pc' := 130) (L' := [some (.ref 430), none, some (.int y2), some (.int y3), some (.int y4), some (.int y5), none, some (.ref y7), some (.int y8), some (.int y9), some (.int y10), some (.int v2)]) (S' := [.int y2, .ref y7]) (M' := gm g3) rfl ?_
        replace h := zB_of h
        obtain ⟨v6, g7, e8, h⟩ := h
        refine g_inv2 (kd := 1) (p_X8_isCured y7 hy7 e8) rfl rfl rfl (by decide) rfl (g_recv (a := y7) rfl (Nat.le_of_ble_eq_true rfl) (Nat.le_of_ble_eq_true rfl) (Nat.le_of_ble_eq_true rfl) (Nat.le_of_ble_eq_true rfl) rfl hy7 (Nat.le_of_ble_eq_true rfl)) rfl rfl (by omega) (pc' := 133) rfl (S' := [.int v6]) rfl ?_
        refine g_if (v6 = 0) rfl (t := 152) rfl rfl (fun c9 => ?_) (fun c9 => ?_)
        · replace h := (if_pos c9).symm.trans h
          refine g_forget (L' := [some (.ref 430), none, some (.int y2), some (.int y3), some (.int y4), some (.int y5), none, some (.ref y7), some (.int y8), some (.int y9), some (.int y10), none]) (And.intro rfl (And.intro rfl (And.intro rfl (And.intro rfl (And.intro rfl (And.intro rfl (And.intro rfl (And.intro rfl (And.intro rfl True.intro))))))))) ?_
          exact p_X3_rowsOfWinds_152 hD b1 hb1 (f_X3_rowsOfWinds_82 b1 n) ih (y2) (y3) (y4) (y5) (y7) (y8) (y9) (y10) g7 _ hy7 h
        · replace h := (if_neg c9).symm.trans h
          refine g_run 1 (pc' := 138) (L' := [some (.ref 430), none, some (.int y2), some (.int y3), some (.int y4), some (.int y5), none, some (.ref y7), some (.int y8), some (.int y9), some (.int y10), some (.int v2)]) (S' := [.int y4]) (M' := gm g7) rfl ?_
          refine g_if (y4 = 0) rfl (t := 149) rfl rfl (fun c10 => ?_) (fun c10 => ?_)
          · replace h := (if_pos c10).symm.trans h
            refine g_run 1 (pc' := 152) (L' := [some (.ref 430), none, some (.int y2), some (.int y3), some (.int y4), some (.int y5), none, some (.ref y7), some (.int y8), some (.int ((y9 + 1))), some (.int y10), some (.int v2)]) (S' := []) (M' := gm g7) rfl ?_
            refine g_forget (L' := [some (.ref 430), none, some (.int y2), some (.int y3), some (.int y4), some (.int y5), none, some (.ref y7), some (.int y8), some (.int ((y9 + 1))), some (.int y10), none]) (And.intro rfl (And.intro rfl (And.intro rfl (And.intro rfl (And.intro rfl (And.intro rfl (And.intro rfl (And.intro rfl (And.intro rfl True.intro))))))))) ?_
            exact p_X3_rowsOfWinds_152 hD b1 hb1 (f_X3_rowsOfWinds_82 b1 n) ih (y2) (y3) (y4) (y5) (y7) (y8) (y9 + 1) (y10) g7 _ hy7 h
          · replace h := (if_neg c10).symm.trans h
            refine g_forget (L' := [none, none, none, none, none, some (.int y5), none, none, none, none, some (.int y10), none]) (And.intro rfl (And.intro rfl True.intro)) ?_
            exact p_X3_rowsOfWinds_141 hD b1 hb1 (y5) (y10) g7 _ h
      · replace h := (if_neg c5).symm.trans h
        refine g_run 13 (pc' := 152) (L' := [some (.ref 430), none, some (.int y2), some (.int y3), some (.int y4), some (.int y5), none, some (.ref y7), some (.int y8), some (.int y9), some (.int ((y10 ||| ((1 <<< ((2 * (y5 - v2)) &&& 31)) - 1)))), some (.int v2)]) (S' := []) (M' := gm g3) rfl ?_
        refine g_forget (L' := [some (.ref 430), none, some (.int y2), some (.int y3), some (.int y4), some (.int y5), none, some (.ref y7), some (.int y8), some (.int y9), some (.int ((y10 ||| ((1 <<< ((2 * (y5 - v2)) &&& 31)) - 1)))), none]) (And.intro rfl (And.intro rfl (And.intro rfl (And.intro rfl (And.intro rfl (And.intro rfl (And.intro rfl (And.intro rfl (And.intro rfl True.intro))))))))) ?_
        exact p_X3_rowsOfWinds_152 hD b1 hb1 (f_X3_rowsOfWinds_82 b1 n) ih (y2) (y3) (y4) (y5) (y7) (y8) (y9) (y10 ||| ((1 <<< ((2 * (y5 - v2)) &&& 31)) - 1)) g3 _ hy7 h
def f_X3_rowsOfWinds (b1 : Nat) (x2 : Int32) (x3 : Int32) (x4 : Int32) (g : zSg) : Option (Int32 × zSg) := (zB (f_X10_lacks b1 x2 g) (fun v1 g2 => (zB (f_X8_pick 431 0 g2) (fun v4 g5 => (zB (f_X8_pick 431 (imin 6 v1) g5) (fun v7 g8 => (zNu v4 (some ((-1), g8)) (fun a10 => if (zK0 a10).1 = 8 then (zNu v7 (some ((-1), g8)) (fun a13 => if (zK0 a13).1 = 8 then (zB (f_X8_become a10 b1 g8) (fun v16 g17 => f_X3_rowsOfWinds_82 b1 zFu (x2) (x3) (x4) (imin 6 v1) (a13) (1 <<< ((2 * (imin 6 v1)) &&& 31)) (0) (0) (gsI g17 (a10) 4 ((gI g17 (a10) 4) ||| (1 <<< (x2 &&& 31)))))) else none)) else none))))))))
set_option maxRecDepth 100000 in
set_option maxHeartbeats 4000000 in
theorem p_X3_rowsOfWinds {sc : zSc} {hp : zHp} (b1 : Nat) (hb1 : (zK0 b1).1 = 8) {x2 : Int32} {x3 : Int32} {x4 : Int32} {g : zSg} {r : Int32 × zSg} (h : f_X3_rowsOfWinds b1 x2 x3 x4 g = some r) : zRn sc hp 22 zM_X3_rowsOfWinds [.ref 430, .ref b1, .int x2, .int x3, .int x4] (gm g) (some (.int r.1)) (gm r.2) := by
  intro d hD
  obtain ⟨d, rfl⟩ : ∃ d', d = d' + 1 := ⟨d - 1, by omega⟩
  show zG _ sc hp (zcd zM_X3_rowsOfWinds) 0 [some (.ref 430), some (.ref b1), some (.int x2), some (.int x3), some (.int x4), none, none, none, none, none, none, none] [] (gm g) _
  unfold f_X3_rowsOfWinds at h
  refine g_run 5 (pc' := 8) (L' := [some (.ref 430), some (.ref b1), some (.int x2), some (.int x3), some (.int x4), none, none, none, none, none, none, none]) (S' := [.int x2, .ref b1, .ref 423, .int 6]) (M' := gm g) rfl ?_
  replace h := zB_of h
  obtain ⟨v1, g2, e3, h⟩ := h
  refine g_inv2 (kd := 1) (p_X10_lacks b1 hb1 e3) rfl rfl rfl (by decide) rfl rfl rfl rfl (by omega) (pc' := 11) rfl (S' := [.int v1, .int 6]) rfl ?_
  refine g_spec2 (kd := 0) rfl rfl rfl (by decide) rfl (jd := 1001) rfl (by decide) rfl (Or.inl (by decide)) (S' := [.int ((imin 6 v1))]) (M' := gm g2) rfl rfl (pc' := 14) rfl ?_
  refine g_run 4 (pc' := 21) (L' := [some (.ref 430), some (.ref b1), some (.int x2), some (.int x3), some (.int x4), some (.int ((imin 6 v1))), none, none, none, none, none, none]) (S' := [.int 0, .ref 431]) (M' := gm g2) rfl ?_
  replace h := zB_of h
  obtain ⟨v4, g5, e6, h⟩ := h
  refine g_inv2 (kd := 0) (p_X8_pick 431 rfl e6) rfl rfl rfl (by decide) rfl rfl rfl rfl (by omega) (pc' := 24) rfl (S' := [zrv v4]) rfl ?_
  refine g_astore (v := v4) rfl (Nat.le_of_ble_eq_true rfl) (L' := [some (.ref 430), some (.ref b1), some (.int x2), some (.int x3), some (.int x4), some (.int ((imin 6 v1))), some (zrv v4), none, none, none, none, none]) rfl ?_
  refine g_run 3 (pc' := 32) (L' := [some (.ref 430), some (.ref b1), some (.int x2), some (.int x3), some (.int x4), some (.int ((imin 6 v1))), some (zrv v4), none, none, none, none, none]) (S' := [.int ((imin 6 v1)), .ref 431]) (M' := gm g5) rfl ?_
  replace h := zB_of h
  obtain ⟨v7, g8, e9, h⟩ := h
  refine g_inv2 (kd := 0) (p_X8_pick 431 rfl e9) rfl rfl rfl (by decide) rfl rfl rfl rfl (by omega) (pc' := 35) rfl (S' := [zrv v7]) rfl ?_
  refine g_astore (v := v7) rfl (Nat.le_of_ble_eq_true rfl) (L' := [some (.ref 430), some (.ref b1), some (.int x2), some (.int x3), some (.int x4), some (.int ((imin 6 v1))), some (zrv v4), some (zrv v7), none, none, none, none]) ((zst1_o (j := 6) (v := v4) rfl).trans rfl) ?_
  refine g_aload (v := v4) rfl rfl ?_
  rcases v4 with _ | a10
  · replace h := zNu_n h
    show zG _ _ _ _ 39 [some (.ref 430), some (.ref b1), some (.int x2), some (.int x3), some (.int x4), some (.int ((imin 6 v1))), some (.null), some (zrv v7), none, none, none, none] [.null] (gm g8) _
    refine g_run 1 (pc' := 47) (L' := [some (.ref 430), some (.ref b1), some (.int x2), some (.int x3), some (.int x4), some (.int ((imin 6 v1))), some (.null), some (zrv v7), none, none, none, none]) (S' := []) (M' := gm g8) rfl ?_
    refine g_run 1 (pc' := 48) (L' := [some (.ref 430), some (.ref b1), some (.int x2), some (.int x3), some (.int x4), some (.int ((imin 6 v1))), some (.null), some (zrv v7), none, none, none, none]) (S' := [.int (-1)]) (M' := gm g8) rfl ?_
    cases h
    exact g_ret rfl rfl rfl rfl
  · replace h := zNu_s h
    by_cases h12 : (zK0 a10).1 = 8
    case neg => exact nomatch ((if_neg h12).symm.trans h)
    replace h := (if_pos h12).symm.trans h
    show zG _ _ _ _ 39 [some (.ref 430), some (.ref b1), some (.int x2), some (.int x3), some (.int x4), some (.int ((imin 6 v1))), some (.ref a10), some (zrv v7), none, none, none, none] [.ref a10] (gm g8) _
    refine g_run 1 (pc' := 42) (L' := [some (.ref 430), some (.ref b1), some (.int x2), some (.int x3), some (.int x4), some (.int ((imin 6 v1))), some (.ref a10), some (zrv v7), none, none, none, none]) (S' := []) (M' := gm g8) rfl ?_
    refine g_aload (v := v7) rfl rfl ?_
    rcases v7 with _ | a13
    · replace h := zNu_n h
      show zG _ _ _ _ 44 [some (.ref 430), some (.ref b1), some (.int x2), some (.int x3), some (.int x4), some (.int ((imin 6 v1))), some (.ref a10), some (.null), none, none, none, none] [.null] (gm g8) _
      refine g_run 1 (pc' := 47) (L' := [some (.ref 430), some (.ref b1), some (.int x2), some (.int x3), some (.int x4), some (.int ((imin 6 v1))), some (.ref a10), some (.null), none, none, none, none]) (S' := []) (M' := gm g8) rfl ?_
      refine g_run 1 (pc' := 48) (L' := [some (.ref 430), some (.ref b1), some (.int x2), some (.int x3), some (.int x4), some (.int ((imin 6 v1))), some (.ref a10), some (.null), none, none, none, none]) (S' := [.int (-1)]) (M' := gm g8) rfl ?_
      cases h
      exact g_ret rfl rfl rfl rfl
    · replace h := zNu_s h
      by_cases h15 : (zK0 a13).1 = 8
      case neg => exact nomatch ((if_neg h15).symm.trans h)
      replace h := (if_pos h15).symm.trans h
      show zG _ _ _ _ 44 [some (.ref 430), some (.ref b1), some (.int x2), some (.int x3), some (.int x4), some (.int ((imin 6 v1))), some (.ref a10), some (.ref a13), none, none, none, none] [.ref a13] (gm g8) _
      refine g_run 1 (pc' := 49) (L' := [some (.ref 430), some (.ref b1), some (.int x2), some (.int x3), some (.int x4), some (.int ((imin 6 v1))), some (.ref a10), some (.ref a13), none, none, none, none]) (S' := []) (M' := gm g8) rfl ?_
      refine g_run 2 (pc' := 52) (L' := [some (.ref 430), some (.ref b1), some (.int x2), some (.int x3), some (.int x4), some (.int ((imin 6 v1))), some (.ref a10), some (.ref a13), none, none, none, none]) (S' := [.ref b1, .ref a10]) (M' := gm g8) rfl ?_
      replace h := zB_of h
      obtain ⟨v16, g17, e18, h⟩ := h
      refine g_inv2 (kd := 1) (p_X8_become a10 b1 h12 hb1 e18) rfl rfl rfl (by decide) rfl (g_recv (a := a10) rfl (Nat.le_of_ble_eq_true rfl) (Nat.le_of_ble_eq_true rfl) (Nat.le_of_ble_eq_true rfl) (Nat.le_of_ble_eq_true rfl) rfl h12 (Nat.le_of_ble_eq_true rfl)) rfl rfl (by omega) (pc' := 55) rfl (S' := []) rfl ?_
      refine g_run 2 (pc' := 58) (L' := [some (.ref 430), some (.ref b1), some (.int x2), some (.int x3), some (.int x4), some (.int ((imin 6 v1))), some (.ref a10), some (.ref a13), none, none, none, none]) (S' := [.ref a10, .ref a10]) (M' := gm g17) rfl ?_
      refine g_getf rfl (ci := 8) (k := 4) rfl h12 rfl ?_
      refine g_run 4 (pc' := 65) (L' := [some (.ref 430), some (.ref b1), some (.int x2), some (.int x3), some (.int x4), some (.int ((imin 6 v1))), some (.ref a10), some (.ref a13), none, none, none, none]) (S' := [.int (((gI g17 (a10) 4) ||| (1 <<< (x2 &&& 31)))), .ref a10]) (M' := gm g17) rfl ?_
      refine g_putf rfl (ci := 8) (k := 4) rfl (a := a10) h12 rfl (g' := gsI g17 (a10) 4 ((gI g17 (a10) 4) ||| (1 <<< (x2 &&& 31)))) rfl ?_
      refine g_run 10 (pc' := 82) (L' := [some (.ref 430), some (.ref b1), some (.int x2), some (.int x3), some (.int x4), some (.int ((imin 6 v1))), some (.ref a10), some (.ref a13), some (.int ((1 <<< ((2 * (imin 6 v1)) &&& 31)))), some (.int 0), some (.int 0), none]) (S' := []) (M' := gm (gsI g17 (a10) 4 ((gI g17 (a10) 4) ||| (1 <<< (x2 &&& 31))))) rfl ?_
      refine g_forget (L' := [some (.ref 430), none, some (.int x2), some (.int x3), some (.int x4), some (.int ((imin 6 v1))), none, some (.ref a13), some (.int ((1 <<< ((2 * (imin 6 v1)) &&& 31)))), some (.int 0), some (.int 0), none]) (And.intro rfl (And.intro rfl (And.intro rfl (And.intro rfl (And.intro rfl (And.intro rfl (And.intro rfl (And.intro rfl (And.intro rfl True.intro))))))))) ?_
      exact p_X3_rowsOfWinds_82 hD b1 hb1 zFu (x2) (x3) (x4) (imin 6 v1) (a13) (1 <<< ((2 * (imin 6 v1)) &&& 31)) (0) (0) (gsI g17 (a10) 4 ((gI g17 (a10) 4) ||| (1 <<< (x2 &&& 31)))) _ h15 h
def f_X3_stepByChance_32 (g : zSg) : Option (Option Nat × zSg) := some (none, g)
set_option maxRecDepth 100000 in
set_option maxHeartbeats 4000000 in
theorem p_X3_stepByChance_32 {sc : zSc} {hp : zHp} {d : Nat} (hD : 3 ≤ d) (g : zSg) (r : Option Nat × zSg) (h : f_X3_stepByChance_32 g = some r) : zG d sc hp (zcd zM_X3_stepByChance) 32 [none, none, none, none, none, none, none, none] [] (gm g) ((some (zrv r.1)), gm r.2) := by
  obtain ⟨d, rfl⟩ : ∃ d', d = d' + 1 := ⟨d - 1, by omega⟩
  unfold f_X3_stepByChance_32 at h
  refine g_run 1 (pc' := 33) (L' := [none, none, none, none, none, none, none, none]) (S' := [.null]) (M' := gm g) rfl ?_
  cases h
  exact g_reto (v := none) rfl rfl
def f_X3_stepByChance_111 (y5 : Nat) (s0 : Int32) (s1 : Nat) (g : zSg) : Option (Option Nat × zSg) := some (some (y5), (gsI g (s1) 6 s0))
set_option maxRecDepth 100000 in
set_option maxHeartbeats 4000000 in
theorem p_X3_stepByChance_111 {sc : zSc} {hp : zHp} {d : Nat} (hD : 3 ≤ d) (y5 : Nat) (s0 : Int32) (s1 : Nat) (g : zSg) (r : Option Nat × zSg) (hy5 : (zK0 y5).1 = 8) (hs1 : (zK0 s1).1 = 8) (h : f_X3_stepByChance_111 y5 s0 s1 g = some r) : zG d sc hp (zcd zM_X3_stepByChance) 111 [none, none, none, none, none, some (.ref y5), none, none] [.int s0, .ref s1] (gm g) ((some (zrv r.1)), gm r.2) := by
  obtain ⟨d, rfl⟩ : ∃ d', d = d' + 1 := ⟨d - 1, by omega⟩
  unfold f_X3_stepByChance_111 at h
  refine g_putf rfl (ci := 8) (k := 6) rfl (a := s1) hs1 rfl (g' := gsI g (s1) 6 s0) rfl ?_
  refine g_run 1 (pc' := 116) (L' := [none, none, none, none, none, some (.ref y5), none, none]) (S' := [.ref y5]) (M' := gm (gsI g (s1) 6 s0)) rfl ?_
  cases h
  exact g_reto (v := some (y5)) rfl rfl
def f_X3_stepByChance_78 (y2 : Int32) (y4 : Nat) (y5 : Nat) (s0 : Int32) (s1 : Int32) (g : zSg) : Option (Option Nat × zSg) := (zB (f_X7_set 432 s1 s0 g) (fun v1 g2 => (zB (f_X8_become y5 y4 g2) (fun v4 g5 => (if y2 = 0 then f_X3_stepByChance_111 (y5) (gI g5 (y4) 6) (y5) g5 else f_X3_stepByChance_111 (y5) (imod ((gI g5 (y4) 6) + 1) 4) (y5) g5)))))
set_option maxRecDepth 100000 in
set_option maxHeartbeats 4000000 in
theorem p_X3_stepByChance_78 {sc : zSc} {hp : zHp} {d : Nat} (hD : 3 ≤ d) (y2 : Int32) (y4 : Nat) (y5 : Nat) (s0 : Int32) (s1 : Int32) (g : zSg) (r : Option Nat × zSg) (hy4 : (zK0 y4).1 = 8) (hy5 : (zK0 y5).1 = 8) (h : f_X3_stepByChance_78 y2 y4 y5 s0 s1 g = some r) : zG d sc hp (zcd zM_X3_stepByChance) 78 [none, none, some (.int y2), none, some (.ref y4), some (.ref y5), none, none] [.int s0, .int s1, .ref 432] (gm g) ((some (zrv r.1)), gm r.2) := by
  obtain ⟨d, rfl⟩ : ∃ d', d = d' + 1 := ⟨d - 1, by omega⟩
  unfold f_X3_stepByChance_78 at h
  replace h := zB_of h
  obtain ⟨v1, g2, e3, h⟩ := h
  refine g_inv2 (kd := 1) (p_X7_set 432 rfl e3) rfl rfl rfl (by decide) rfl rfl rfl rfl (by omega) (pc' := 81) rfl (S' := []) rfl ?_
  refine g_run 2 (pc' := 85) (L' := [none, none, some (.int y2), none, some (.ref y4), some (.ref y5), none, none]) (S' := [.ref y4, .ref y5]) (M' := gm g2) rfl ?_
  replace h := zB_of h
  obtain ⟨v4, g5, e6, h⟩ := h
  refine g_inv2 (kd := 1) (p_X8_become y5 y4 hy5 hy4 e6) rfl rfl rfl (by decide) rfl (g_recv (a := y5) rfl (Nat.le_of_ble_eq_true rfl) (Nat.le_of_ble_eq_true rfl) (Nat.le_of_ble_eq_true rfl) (Nat.le_of_ble_eq_true rfl) rfl hy5 (Nat.le_of_ble_eq_true rfl)) rfl rfl (by omega) (pc' := 88) rfl (S' := []) rfl ?_
  refine g_run 2 (pc' := 91) (L' := [none, none, some (.int y2), none, some (.ref y4), some (.ref y5), none, none]) (S' := [.int y2, .ref y5]) (M' := gm g5) rfl ?_
  refine g_if (y2 = 0) rfl (t := 106) rfl rfl (fun c7 => ?_) (fun c7 => ?_)
  · replace h := (if_pos c7).symm.trans h
    refine g_run 1 (pc' := 108) (L' := [none, none, some (.int y2), none, some (.ref y4), some (.ref y5), none, none]) (S' := [.ref y4, .ref y5]) (M' := gm g5) rfl ?_
    refine g_getf rfl (ci := 8) (k := 6) rfl hy4 rfl ?_
    refine g_forget (L' := [none, none, none, none, none, some (.ref y5), none, none]) (And.intro rfl True.intro) ?_
    exact p_X3_stepByChance_111 hD (y5) (gI g5 (y4) 6) (y5) g5 _ hy5 hy5 h
  · replace h := (if_neg c7).symm.trans h
    refine g_run 1 (pc' := 96) (L' := [none, none, some (.int y2), none, some (.ref y4), some (.ref y5), none, none]) (S' := [.ref y4, .ref y5]) (M' := gm g5) rfl ?_
    refine g_getf rfl (ci := 8) (k := 6) rfl hy4 rfl ?_
    refine g_run 5 (pc' := 111) (L' := [none, none, some (.int y2), none, some (.ref y4), some (.ref y5), none, none]) (S' := [.int ((imod ((gI g5 (y4) 6) + 1) 4)), .ref y5]) (M' := gm g5) rfl ?_
    refine g_forget (L' := [none, none, none, none, none, some (.ref y5), none, none]) (And.intro rfl True.intro) ?_
    exact p_X3_stepByChance_111 hD (y5) (imod ((gI g5 (y4) 6) + 1) 4) (y5) g5 _ hy5 hy5 h
def f_X3_stepByChance (x1 : Int32) (x2 : Int32) (x3 : Int32) (g : zSg) : Option (Option Nat × zSg) := (zB (f_X8_pick 431 x1 g) (fun v1 g2 => (zB (f_X8_pick 431 (x1 + 1) g2) (fun v4 g5 => (zNu v1 (f_X3_stepByChance_32 g5) (fun a7 => if (zK0 a7).1 = 8 then (zNu v4 (f_X3_stepByChance_32 g5) (fun a10 => if (zK0 a10).1 = 8 then (zB (f_X7_get 432 x1 g5) (fun v13 g14 => (if x2 = 0 then f_X3_stepByChance_78 (x2) (a7) (a10) (v13 - ((((v13).toInt64 * (x3).toInt64) / 100)).toInt32) (x1 + 1) g14 else f_X3_stepByChance_78 (x2) (a7) (a10) (((((v13).toInt64 * (x3).toInt64) / 100)).toInt32) (x1 + 1) g14))) else none)) else none))))))
set_option maxRecDepth 100000 in
set_option maxHeartbeats 4000000 in
theorem p_X3_stepByChance {sc : zSc} {hp : zHp} {x1 : Int32} {x2 : Int32} {x3 : Int32} {g : zSg} {r : Option Nat × zSg} (h : f_X3_stepByChance x1 x2 x3 g = some r) : zRn sc hp 3 zM_X3_stepByChance [.ref 430, .int x1, .int x2, .int x3] (gm g) (some (zrv r.1)) (gm r.2) := by
  intro d hD
  obtain ⟨d, rfl⟩ : ∃ d', d = d' + 1 := ⟨d - 1, by omega⟩
  show zG _ sc hp (zcd zM_X3_stepByChance) 0 [some (.ref 430), some (.int x1), some (.int x2), some (.int x3), none, none, none, none] [] (gm g) _
  unfold f_X3_stepByChance at h
  refine g_run 3 (pc' := 5) (L' := [some (.ref 430), some (.int x1), some (.int x2), some (.int x3), none, none, none, none]) (S' := [.int x1, .ref 431]) (M' := gm g) rfl ?_
  replace h := zB_of h
  obtain ⟨v1, g2, e3, h⟩ := h
  refine g_inv2 (kd := 0) (p_X8_pick 431 rfl e3) rfl rfl rfl (by decide) rfl rfl rfl rfl (by omega) (pc' := 8) rfl (S' := [zrv v1]) rfl ?_
  refine g_astore (v := v1) rfl (Nat.le_of_ble_eq_true rfl) (L' := [some (.ref 430), some (.int x1), some (.int x2), some (.int x3), some (zrv v1), none, none, none]) rfl ?_
  refine g_run 5 (pc' := 17) (L' := [some (.ref 430), some (.int x1), some (.int x2), some (.int x3), some (zrv v1), none, none, none]) (S' := [.int ((x1 + 1)), .ref 431]) (M' := gm g2) rfl ?_
  replace h := zB_of h
  obtain ⟨v4, g5, e6, h⟩ := h
  refine g_inv2 (kd := 0) (p_X8_pick 431 rfl e6) rfl rfl rfl (by decide) rfl rfl rfl rfl (by omega) (pc' := 20) rfl (S' := [zrv v4]) rfl ?_
  refine g_astore (v := v4) rfl (Nat.le_of_ble_eq_true rfl) (L' := [some (.ref 430), some (.int x1), some (.int x2), some (.int x3), some (zrv v1), some (zrv v4), none, none]) ((zst1_o (j := 4) (v := v1) rfl).trans rfl) ?_
  refine g_aload (v := v1) rfl rfl ?_
  rcases v1 with _ | a7
  · replace h := zNu_n h
    show zG _ _ _ _ 24 [some (.ref 430), some (.int x1), some (.int x2), some (.int x3), some (.null), some (zrv v4), none, none] [.null] (gm g5) _
    refine g_run 1 (pc' := 32) (L' := [some (.ref 430), some (.int x1), some (.int x2), some (.int x3), some (.null), some (zrv v4), none, none]) (S' := []) (M' := gm g5) rfl ?_
    refine g_forget (L' := [none, none, none, none, none, none, none, none]) True.intro ?_
    exact p_X3_stepByChance_32 hD g5 _ h
  · replace h := zNu_s h
    by_cases h9 : (zK0 a7).1 = 8
    case neg => exact nomatch ((if_neg h9).symm.trans h)
    replace h := (if_pos h9).symm.trans h
    show zG _ _ _ _ 24 [some (.ref 430), some (.int x1), some (.int x2), some (.int x3), some (.ref a7), some (zrv v4), none, none] [.ref a7] (gm g5) _
    refine g_run 1 (pc' := 27) (L' := [some (.ref 430), some (.int x1), some (.int x2), some (.int x3), some (.ref a7), some (zrv v4), none, none]) (S' := []) (M' := gm g5) rfl ?_
    refine g_aload (v := v4) rfl rfl ?_
    rcases v4 with _ | a10
    · replace h := zNu_n h
      show zG _ _ _ _ 29 [some (.ref 430), some (.int x1), some (.int x2), some (.int x3), some (.ref a7), some (.null), none, none] [.null] (gm g5) _
      refine g_run 1 (pc' := 32) (L' := [some (.ref 430), some (.int x1), some (.int x2), some (.int x3), some (.ref a7), some (.null), none, none]) (S' := []) (M' := gm g5) rfl ?_
      refine g_forget (L' := [none, none, none, none, none, none, none, none]) True.intro ?_
      exact p_X3_stepByChance_32 hD g5 _ h
    · replace h := zNu_s h
      by_cases h12 : (zK0 a10).1 = 8
      case neg => exact nomatch ((if_neg h12).symm.trans h)
      replace h := (if_pos h12).symm.trans h
      show zG _ _ _ _ 29 [some (.ref 430), some (.int x1), some (.int x2), some (.int x3), some (.ref a7), some (.ref a10), none, none] [.ref a10] (gm g5) _
      refine g_run 1 (pc' := 34) (L' := [some (.ref 430), some (.int x1), some (.int x2), some (.int x3), some (.ref a7), some (.ref a10), none, none]) (S' := []) (M' := gm g5) rfl ?_
      refine g_run 3 (pc' := 39) (L' := [some (.ref 430), some (.int x1), some (.int x2), some (.int x3), some (.ref a7), some (.ref a10), none, none]) (S' := [.int x1, .ref 432]) (M' := gm g5) rfl ?_
      replace h := zB_of h
      obtain ⟨v13, g14, e15, h⟩ := h
      refine g_inv2 (kd := 1) (p_X7_get 432 rfl e15) rfl rfl rfl (by decide) rfl rfl rfl rfl (by omega) (pc' := 42) rfl (S' := [.int v13]) rfl ?_
      refine g_run 16 (pc' := 65) (L' := [some (.ref 430), some (.int x1), some (.int x2), some (.int x3), some (.ref a7), some (.ref a10), some (.int v13), some (.int (((((v13).toInt64 * (x3).toInt64) / 100)).toInt32))]) (S' := [.int x2, .int ((x1 + 1)), .ref 432]) (M' := gm g14) rfl ?_
      refine g_if (x2 = 0) rfl (t := 73) rfl rfl (fun c16 => ?_) (fun c16 => ?_)
      · replace h := (if_pos c16).symm.trans h
        refine g_run 3 (pc' := 78) (L' := [some (.ref 430), some (.int x1), some (.int x2), some (.int x3), some (.ref a7), some (.ref a10), some (.int v13), some (.int (((((v13).toInt64 * (x3).toInt64) / 100)).toInt32))]) (S' := [.int ((v13 - ((((v13).toInt64 * (x3).toInt64) / 100)).toInt32)), .int ((x1 + 1)), .ref 432]) (M' := gm g14) rfl ?_
        refine g_forget (L' := [none, none, some (.int x2), none, some (.ref a7), some (.ref a10), none, none]) (And.intro rfl (And.intro rfl (And.intro rfl True.intro))) ?_
        exact p_X3_stepByChance_78 hD (x2) (a7) (a10) (v13 - ((((v13).toInt64 * (x3).toInt64) / 100)).toInt32) (x1 + 1) g14 _ h9 h12 h
      · replace h := (if_neg c16).symm.trans h
        refine g_run 2 (pc' := 78) (L' := [some (.ref 430), some (.int x1), some (.int x2), some (.int x3), some (.ref a7), some (.ref a10), some (.int v13), some (.int (((((v13).toInt64 * (x3).toInt64) / 100)).toInt32))]) (S' := [.int (((((v13).toInt64 * (x3).toInt64) / 100)).toInt32), .int ((x1 + 1)), .ref 432]) (M' := gm g14) rfl ?_
        refine g_forget (L' := [none, none, some (.int x2), none, some (.ref a7), some (.ref a10), none, none]) (And.intro rfl (And.intro rfl (And.intro rfl True.intro))) ?_
        exact p_X3_stepByChance_78 hD (x2) (a7) (a10) (((((v13).toInt64 * (x3).toInt64) / 100)).toInt32) (x1 + 1) g14 _ h9 h12 h
def f_X3_partsThatKnow_163 (b1 : Nat) (k55 : Int32 → Int32 → Int32 → Int32 → Nat → Int32 → Int32 → zSg → Option (Int32 × zSg)) (y2 : Int32) (y3 : Int32) (y4 : Int32) (y5 : Int32) (y7 : Nat) (y8 : Int32) (y9 : Int32) (g : zSg) : Option (Int32 × zSg) := k55 (y2) (y3) (y4) (y5) (y7) (y8) (y9 + 1) g
set_option maxRecDepth 100000 in
set_option maxHeartbeats 4000000 in
theorem p_X3_partsThatKnow_163 {sc : zSc} {hp : zHp} {d : Nat} (hD : 21 ≤ d) (b1 : Nat) (hb1 : (zK0 b1).1 = 8) (k55 : Int32 → Int32 → Int32 → Int32 → Nat → Int32 → Int32 → zSg → Option (Int32 × zSg)) (hk55 : ∀ (y2 : Int32) (y3 : Int32) (y4 : Int32) (y5 : Int32) (y7 : Nat) (y8 : Int32) (y9 : Int32) (g : zSg) (r : Int32 × zSg), (zK0 y7).1 = 8 → k55 y2 y3 y4 y5 y7 y8 y9 g = some r → zG d sc hp (zcd zM_X3_partsThatKnow) 55 [some (.ref 430), none, some (.int y2), some (.int y3), some (.int y4), some (.int y5), none, some (.ref y7), some (.int y8), some (.int y9), none, none, none] [] (gm g) ((some (.int r.1)), gm r.2)) (y2 : Int32) (y3 : Int32) (y4 : Int32) (y5 : Int32) (y7 : Nat) (y8 : Int32) (y9 : Int32) (g : zSg) (r : Int32 × zSg) (hy7 : (zK0 y7).1 = 8) (h : f_X3_partsThatKnow_163 b1 k55 y2 y3 y4 y5 y7 y8 y9 g = some r) : zG d sc hp (zcd zM_X3_partsThatKnow) 163 [some (.ref 430), none, some (.int y2), some (.int y3), some (.int y4), some (.int y5), none, some (.ref y7), some (.int y8), some (.int y9), none, none, none] [] (gm g) ((some (.int r.1)), gm r.2) := by
  obtain ⟨d, rfl⟩ : ∃ d', d = d' + 1 := ⟨d - 1, by omega⟩
  unfold f_X3_partsThatKnow_163 at h
  refine g_run 2 (pc' := 55) (L' := [some (.ref 430), none, some (.int y2), some (.int y3), some (.int y4), some (.int y5), none, some (.ref y7), some (.int y8), some (.int ((y9 + 1))), none, none, none]) (S' := []) (M' := gm g) rfl ?_
  exact hk55 (y2) (y3) (y4) (y5) (y7) (y8) (y9 + 1) g _ hy7 h
def f_X3_partsThatKnow_139 (b1 : Nat) (k55 : Int32 → Int32 → Int32 → Int32 → Nat → Int32 → Int32 → zSg → Option (Int32 × zSg)) (y2 : Int32) (y3 : Int32) (y4 : Int32) (y5 : Int32) (y7 : Nat) (y8 : Int32) (y9 : Int32) (g : zSg) : Option (Int32 × zSg) := (zB (f_X8_knows y7 y2 y3 g) (fun v1 g2 => (if v1 = 0 then f_X3_partsThatKnow_163 b1 k55 (y2) (y3) (y4) (y5) (y7) (y8) (y9) g2 else (zB (f_X7_get 432 y4 g2) (fun v5 g6 => f_X3_partsThatKnow_163 b1 k55 (y2) (y3) (y4) (y5) (y7) (y8 + v5) (y9) g6)))))
set_option maxRecDepth 100000 in
set_option maxHeartbeats 4000000 in
theorem p_X3_partsThatKnow_139 {sc : zSc} {hp : zHp} {d : Nat} (hD : 21 ≤ d) (b1 : Nat) (hb1 : (zK0 b1).1 = 8) (k55 : Int32 → Int32 → Int32 → Int32 → Nat → Int32 → Int32 → zSg → Option (Int32 × zSg)) (hk55 : ∀ (y2 : Int32) (y3 : Int32) (y4 : Int32) (y5 : Int32) (y7 : Nat) (y8 : Int32) (y9 : Int32) (g : zSg) (r : Int32 × zSg), (zK0 y7).1 = 8 → k55 y2 y3 y4 y5 y7 y8 y9 g = some r → zG d sc hp (zcd zM_X3_partsThatKnow) 55 [some (.ref 430), none, some (.int y2), some (.int y3), some (.int y4), some (.int y5), none, some (.ref y7), some (.int y8), some (.int y9), none, none, none] [] (gm g) ((some (.int r.1)), gm r.2)) (y2 : Int32) (y3 : Int32) (y4 : Int32) (y5 : Int32) (y7 : Nat) (y8 : Int32) (y9 : Int32) (g : zSg) (r : Int32 × zSg) (hy7 : (zK0 y7).1 = 8) (h : f_X3_partsThatKnow_139 b1 k55 y2 y3 y4 y5 y7 y8 y9 g = some r) : zG d sc hp (zcd zM_X3_partsThatKnow) 139 [some (.ref 430), none, some (.int y2), some (.int y3), some (.int y4), some (.int y5), none, some (.ref y7), some (.int y8), some (.int y9), none, none, none] [] (gm g) ((some (.int r.1)), gm r.2) := by
  obtain ⟨d, rfl⟩ : ∃ d', d = d' + 1 := ⟨d - 1, by omega⟩
  unfold f_X3_partsThatKnow_139 at h
  refine g_run 3 (pc' := 143) (L' := [some (.ref 430), none, some (.int y2), some (.int y3), some (.int y4), some (.int y5), none, some (.ref y7), some (.int y8), some (.int y9), none, none, none]) (S' := [.int y3, .int y2, .ref y7]) (M' := gm g) rfl ?_
  replace h := zB_of h
  obtain ⟨v1, g2, e3, h⟩ := h
  refine g_inv2 (kd := 1) (p_X8_knows y7 hy7 e3) rfl rfl rfl (by decide) rfl (g_recv (a := y7) rfl (Nat.le_of_ble_eq_true rfl) (Nat.le_of_ble_eq_true rfl) (Nat.le_of_ble_eq_true rfl) (Nat.le_of_ble_eq_true rfl) rfl hy7 (Nat.le_of_ble_eq_true rfl)) rfl rfl (by omega) (pc' := 146) rfl (S' := [.int v1]) rfl ?_
  refine g_if (v1 = 0) rfl (t := 163) rfl rfl (fun c4 => ?_) (fun c4 => ?_)
  · replace h := (if_pos c4).symm.trans h
    exact p_X3_partsThatKnow_163 hD b1 hb1 k55 hk55 (y2) (y3) (y4) (y5) (y7) (y8) (y9) g2 _ hy7 h
  · replace h := (if_neg c4).symm.trans h
    refine g_run 4 (pc' := 157) (L' := [some (.ref 430), none, some (.int y2), some (.int y3), some (.int y4), some (.int y5), none, some (.ref y7), some (.int y8), some (.int y9), none, none, none]) (S' := [.int y4, .ref 432, .int y8]) (M' := gm g2) rfl ?_
    replace h := zB_of h
    obtain ⟨v5, g6, e7, h⟩ := h
    refine g_inv2 (kd := 1) (p_X7_get 432 rfl e7) rfl rfl rfl (by decide) rfl rfl rfl rfl (by omega) (pc' := 160) rfl (S' := [.int v5, .int y8]) rfl ?_
    refine g_run 2 (pc' := 163) (L' := [some (.ref 430), none, some (.int y2), some (.int y3), some (.int y4), some (.int y5), none, some (.ref y7), some (.int ((y8 + v5))), some (.int y9), none, none, none]) (S' := []) (M' := gm g6) rfl ?_
    exact p_X3_partsThatKnow_163 hD b1 hb1 k55 hk55 (y2) (y3) (y4) (y5) (y7) (y8 + v5) (y9) g6 _ hy7 h
def f_X3_partsThatKnow_133 (b1 : Nat) (k55 : Int32 → Int32 → Int32 → Int32 → Nat → Int32 → Int32 → zSg → Option (Int32 × zSg)) (k74 : Int32 → Int32 → Int32 → Int32 → Nat → Int32 → Int32 → Int32 → zSg → Option (Int32 × zSg)) (y2 : Int32) (y3 : Int32) (y4 : Int32) (y5 : Int32) (y7 : Nat) (y8 : Int32) (y9 : Int32) (y10 : Int32) (g : zSg) : Option (Int32 × zSg) := k74 (y2) (y3) (y4) (y5) (y7) (y8) (y9) (y10 + 1) g
set_option maxRecDepth 100000 in
set_option maxHeartbeats 4000000 in
theorem p_X3_partsThatKnow_133 {sc : zSc} {hp : zHp} {d : Nat} (hD : 21 ≤ d) (b1 : Nat) (hb1 : (zK0 b1).1 = 8) (k55 : Int32 → Int32 → Int32 → Int32 → Nat → Int32 → Int32 → zSg → Option (Int32 × zSg)) (hk55 : ∀ (y2 : Int32) (y3 : Int32) (y4 : Int32) (y5 : Int32) (y7 : Nat) (y8 : Int32) (y9 : Int32) (g : zSg) (r : Int32 × zSg), (zK0 y7).1 = 8 → k55 y2 y3 y4 y5 y7 y8 y9 g = some r → zG d sc hp (zcd zM_X3_partsThatKnow) 55 [some (.ref 430), none, some (.int y2), some (.int y3), some (.int y4), some (.int y5), none, some (.ref y7), some (.int y8), some (.int y9), none, none, none] [] (gm g) ((some (.int r.1)), gm r.2)) (k74 : Int32 → Int32 → Int32 → Int32 → Nat → Int32 → Int32 → Int32 → zSg → Option (Int32 × zSg)) (hk74 : ∀ (y2 : Int32) (y3 : Int32) (y4 : Int32) (y5 : Int32) (y7 : Nat) (y8 : Int32) (y9 : Int32) (y10 : Int32) (g : zSg) (r : Int32 × zSg), (zK0 y7).1 = 8 → k74 y2 y3 y4 y5 y7 y8 y9 y10 g = some r → zG d sc hp (zcd zM_X3_partsThatKnow) 74 [some (.ref 430), none, some (.int y2), some (.int y3), some (.int y4), some (.int y5), none, some (.ref y7), some (.int y8), some (.int y9), some (.int y10), none, none] [] (gm g) ((some (.int r.1)), gm r.2)) (y2 : Int32) (y3 : Int32) (y4 : Int32) (y5 : Int32) (y7 : Nat) (y8 : Int32) (y9 : Int32) (y10 : Int32) (g : zSg) (r : Int32 × zSg) (hy7 : (zK0 y7).1 = 8) (h : f_X3_partsThatKnow_133 b1 k55 k74 y2 y3 y4 y5 y7 y8 y9 y10 g = some r) : zG d sc hp (zcd zM_X3_partsThatKnow) 133 [some (.ref 430), none, some (.int y2), some (.int y3), some (.int y4), some (.int y5), none, some (.ref y7), some (.int y8), some (.int y9), some (.int y10), none, none] [] (gm g) ((some (.int r.1)), gm r.2) := by
  obtain ⟨d, rfl⟩ : ∃ d', d = d' + 1 := ⟨d - 1, by omega⟩
  unfold f_X3_partsThatKnow_133 at h
  refine g_run 2 (pc' := 74) (L' := [some (.ref 430), none, some (.int y2), some (.int y3), some (.int y4), some (.int y5), none, some (.ref y7), some (.int y8), some (.int y9), some (.int ((y10 + 1))), none, none]) (S' := []) (M' := gm g) rfl ?_
  exact hk74 (y2) (y3) (y4) (y5) (y7) (y8) (y9) (y10 + 1) g _ hy7 h
def f_X3_partsThatKnow_101 (b1 : Nat) (k55 : Int32 → Int32 → Int32 → Int32 → Nat → Int32 → Int32 → zSg → Option (Int32 × zSg)) (k74 : Int32 → Int32 → Int32 → Int32 → Nat → Int32 → Int32 → Int32 → zSg → Option (Int32 × zSg)) (y2 : Int32) (y3 : Int32) (y4 : Int32) (y5 : Int32) (y7 : Nat) (y8 : Int32) (y9 : Int32) (y10 : Int32) (s0 : Int32) (g : zSg) : Option (Int32 × zSg) := (zB (f_X3_stepByChance y10 s0 y5 g) (fun v1 g2 => (zNu v1 (f_X3_partsThatKnow_133 b1 k55 k74 (y2) (y3) (y4) (y5) (y7) (y8) (y9) (y10) g2) (fun a4 => if (zK0 a4).1 = 8 then (zB (f_X10_pass a4 (1 <<< (y3 &&& 31)) g2) (fun v7 g8 => f_X3_partsThatKnow_133 b1 k55 k74 (y2) (y3) (y4) (y5) (y7) (y8) (y9) (y10) g8)) else none))))
set_option maxRecDepth 100000 in
set_option maxHeartbeats 4000000 in
theorem p_X3_partsThatKnow_101 {sc : zSc} {hp : zHp} {d : Nat} (hD : 21 ≤ d) (b1 : Nat) (hb1 : (zK0 b1).1 = 8) (k55 : Int32 → Int32 → Int32 → Int32 → Nat → Int32 → Int32 → zSg → Option (Int32 × zSg)) (hk55 : ∀ (y2 : Int32) (y3 : Int32) (y4 : Int32) (y5 : Int32) (y7 : Nat) (y8 : Int32) (y9 : Int32) (g : zSg) (r : Int32 × zSg), (zK0 y7).1 = 8 → k55 y2 y3 y4 y5 y7 y8 y9 g = some r → zG d sc hp (zcd zM_X3_partsThatKnow) 55 [some (.ref 430), none, some (.int y2), some (.int y3), some (.int y4), some (.int y5), none, some (.ref y7), some (.int y8), some (.int y9), none, none, none] [] (gm g) ((some (.int r.1)), gm r.2)) (k74 : Int32 → Int32 → Int32 → Int32 → Nat → Int32 → Int32 → Int32 → zSg → Option (Int32 × zSg)) (hk74 : ∀ (y2 : Int32) (y3 : Int32) (y4 : Int32) (y5 : Int32) (y7 : Nat) (y8 : Int32) (y9 : Int32) (y10 : Int32) (g : zSg) (r : Int32 × zSg), (zK0 y7).1 = 8 → k74 y2 y3 y4 y5 y7 y8 y9 y10 g = some r → zG d sc hp (zcd zM_X3_partsThatKnow) 74 [some (.ref 430), none, some (.int y2), some (.int y3), some (.int y4), some (.int y5), none, some (.ref y7), some (.int y8), some (.int y9), some (.int y10), none, none] [] (gm g) ((some (.int r.1)), gm r.2)) (y2 : Int32) (y3 : Int32) (y4 : Int32) (y5 : Int32) (y7 : Nat) (y8 : Int32) (y9 : Int32) (y10 : Int32) (s0 : Int32) (g : zSg) (r : Int32 × zSg) (hy7 : (zK0 y7).1 = 8) (h : f_X3_partsThatKnow_101 b1 k55 k74 y2 y3 y4 y5 y7 y8 y9 y10 s0 g = some r) : zG d sc hp (zcd zM_X3_partsThatKnow) 101 [some (.ref 430), none, some (.int y2), some (.int y3), some (.int y4), some (.int y5), none, some (.ref y7), some (.int y8), some (.int y9), some (.int y10), none, none] [.int s0] (gm g) ((some (.int r.1)), gm r.2) := by
  obtain ⟨d, rfl⟩ : ∃ d', d = d' + 1 := ⟨d - 1, by omega⟩
  unfold f_X3_partsThatKnow_101 at h
  refine g_run 5 (pc' := 110) (L' := [some (.ref 430), none, some (.int y2), some (.int y3), some (.int y4), some (.int y5), none, some (.ref y7), some (.int y8), some (.int y9), some (.int y10), some (.int s0), none]) (S' := [.int y5, .int s0, .int y10, .ref 430]) (M' := gm g) rfl ?_
  replace h := zB_of h
  obtain ⟨v1, g2, e3, h⟩ := h
  refine g_inv2 (kd := 1) (p_X3_stepByChance  e3) rfl rfl rfl (by decide) rfl rfl rfl rfl (by omega) (pc' := 113) rfl (S' := [zrv v1]) rfl ?_
  refine g_astore (v := v1) rfl (Nat.le_of_ble_eq_true rfl) (L' := [some (.ref 430), none, some (.int y2), some (.int y3), some (.int y4), some (.int y5), none, some (.ref y7), some (.int y8), some (.int y9), some (.int y10), some (.int s0), some (zrv v1)]) rfl ?_
  refine g_aload (v := v1) rfl rfl ?_
  rcases v1 with _ | a4
  · replace h := zNu_n h
    show zG _ _ _ _ 117 [some (.ref 430), none, some (.int y2), some (.int y3), some (.int y4), some (.int y5), none, some (.ref y7), some (.int y8), some (.int y9), some (.int y10), some (.int s0), some (.null)] [.null] (gm g2) _
    refine g_run 1 (pc' := 133) (L' := [some (.ref 430), none, some (.int y2), some (.int y3), some (.int y4), some (.int y5), none, some (.ref y7), some (.int y8), some (.int y9), some (.int y10), some (.int s0), some (.null)]) (S' := []) (M' := gm g2) rfl ?_
    refine g_forget (L' := [some (.ref 430), none, some (.int y2), some (.int y3), some (.int y4), some (.int y5), none, some (.ref y7), some (.int y8), some (.int y9), some (.int y10), none, none]) (And.intro rfl (And.intro rfl (And.intro rfl (And.intro rfl (And.intro rfl (And.intro rfl (And.intro rfl (And.intro rfl (And.intro rfl True.intro))))))))) ?_
    exact p_X3_partsThatKnow_133 hD b1 hb1 k55 hk55 k74 hk74 (y2) (y3) (y4) (y5) (y7) (y8) (y9) (y10) g2 _ hy7 h
  · replace h := zNu_s h
    by_cases h6 : (zK0 a4).1 = 8
    case neg => exact nomatch ((if_neg h6).symm.trans h)
    replace h := (if_pos h6).symm.trans h
    show zG _ _ _ _ 117 [some (.ref 430), none, some (.int y2), some (.int y3), some (.int y4), some (.int y5), none, some (.ref y7), some (.int y8), some (.int y9), some (.int y10), some (.int s0), some (.ref a4)] [.ref a4] (gm g2) _
    refine g_run 1 (pc' := 120) (L' := [some (.ref 430), none, some (.int y2), some (.int y3), some (.int y4), some (.int y5), none, some (.ref y7), some (.int y8), some (.int y9), some (.int y10), some (.int s0), some (.ref a4)]) (S' := []) (M' := gm g2) rfl ?_
    refine g_run 6 (pc' := 129) (L' := [some (.ref 430), none, some (.int y2), some (.int y3), some (.int y4), some (.int y5), none, some (.ref y7), some (.int y8), some (.int y9), some (.int y10), some (.int s0), some (.ref a4)]) (S' := [.int ((1 <<< (y3 &&& 31))), .ref a4, .ref 423]) (M' := gm g2) rfl ?_
    replace h := zB_of h
    obtain ⟨v7, g8, e9, h⟩ := h
    refine g_inv2 (kd := 1) (p_X10_pass a4 h6 e9) rfl rfl rfl (by decide) rfl rfl rfl rfl (by omega) (pc' := 132) rfl (S' := [.int v7]) rfl ?_
    refine g_run 1 (pc' := 133) (L' := [some (.ref 430), none, some (.int y2), some (.int y3), some (.int y4), some (.int y5), none, some (.ref y7), some (.int y8), some (.int y9), some (.int y10), some (.int s0), some (.ref a4)]) (S' := []) (M' := gm g8) rfl ?_
    refine g_forget (L' := [some (.ref 430), none, some (.int y2), some (.int y3), some (.int y4), some (.int y5), none, some (.ref y7), some (.int y8), some (.int y9), some (.int y10), none, none]) (And.intro rfl (And.intro rfl (And.intro rfl (And.intro rfl (And.intro rfl (And.intro rfl (And.intro rfl (And.intro rfl (And.intro rfl True.intro))))))))) ?_
    exact p_X3_partsThatKnow_133 hD b1 hb1 k55 hk55 k74 hk74 (y2) (y3) (y4) (y5) (y7) (y8) (y9) (y10) g8 _ hy7 h
def fb_X3_partsThatKnow_74 (b1 : Nat) (k55 : Int32 → Int32 → Int32 → Int32 → Nat → Int32 → Int32 → zSg → Option (Int32 × zSg)) (kk : Int32 → Int32 → Int32 → Int32 → Nat → Int32 → Int32 → Int32 → zSg → Option (Int32 × zSg)) (y2 : Int32) (y3 : Int32) (y4 : Int32) (y5 : Int32) (y7 : Nat) (y8 : Int32) (y9 : Int32) (y10 : Int32) (g : zSg) : Option (Int32 × zSg) := (if y4 ≤ y10 then f_X3_partsThatKnow_139 b1 k55 (y2) (y3) (y4) (y5) (y7) (y8) (y9) g else (if ((y9 >>> (((y4 - 1) - y10) &&& 31)) &&& 1) = 0 then f_X3_partsThatKnow_101 b1 k55 kk (y2) (y3) (y4) (y5) (y7) (y8) (y9) (y10) (0) g else f_X3_partsThatKnow_101 b1 k55 kk (y2) (y3) (y4) (y5) (y7) (y8) (y9) (y10) (1) g))
def f_X3_partsThatKnow_74 (b1 : Nat) (k55 : Int32 → Int32 → Int32 → Int32 → Nat → Int32 → Int32 → zSg → Option (Int32 × zSg)) : Nat → Int32 → Int32 → Int32 → Int32 → Nat → Int32 → Int32 → Int32 → zSg → Option (Int32 × zSg)
  | 0, _, _, _, _, _, _, _, _, _ => none
  | n + 1, y2, y3, y4, y5, y7, y8, y9, y10, g => fb_X3_partsThatKnow_74 b1 k55 (f_X3_partsThatKnow_74 b1 k55 n) y2 y3 y4 y5 y7 y8 y9 y10 g
set_option maxRecDepth 100000 in
set_option maxHeartbeats 4000000 in
theorem p_X3_partsThatKnow_74 {sc : zSc} {hp : zHp} {d : Nat} (hD : 21 ≤ d) (b1 : Nat) (hb1 : (zK0 b1).1 = 8) (k55 : Int32 → Int32 → Int32 → Int32 → Nat → Int32 → Int32 → zSg → Option (Int32 × zSg)) (hk55 : ∀ (y2 : Int32) (y3 : Int32) (y4 : Int32) (y5 : Int32) (y7 : Nat) (y8 : Int32) (y9 : Int32) (g : zSg) (r : Int32 × zSg), (zK0 y7).1 = 8 → k55 y2 y3 y4 y5 y7 y8 y9 g = some r → zG d sc hp (zcd zM_X3_partsThatKnow) 55 [some (.ref 430), none, some (.int y2), some (.int y3), some (.int y4), some (.int y5), none, some (.ref y7), some (.int y8), some (.int y9), none, none, none] [] (gm g) ((some (.int r.1)), gm r.2)) : ∀ (n : Nat) (y2 : Int32) (y3 : Int32) (y4 : Int32) (y5 : Int32) (y7 : Nat) (y8 : Int32) (y9 : Int32) (y10 : Int32) (g : zSg) (r : Int32 × zSg) (hy7 : (zK0 y7).1 = 8), f_X3_partsThatKnow_74 b1 k55 n y2 y3 y4 y5 y7 y8 y9 y10 g = some r → zG d sc hp (zcd zM_X3_partsThatKnow) 74 [some (.ref 430), none, some (.int y2), some (.int y3), some (.int y4), some (.int y5), none, some (.ref y7), some (.int y8), some (.int y9), some (.int y10), none, none] [] (gm g) ((some (.int r.1)), gm r.2) := by
  obtain ⟨d, rfl⟩ : ∃ d', d = d' + 1 := ⟨d - 1, by omega⟩
  intro n
  induction n with
  | zero => intro y2 y3 y4 y5 y7 y8 y9 y10 g r hy7 h; cases h
  | succ n ih =>
    intro y2 y3 y4 y5 y7 y8 y9 y10 g r hy7 h
    replace h : fb_X3_partsThatKnow_74 b1 k55 (f_X3_partsThatKnow_74 b1 k55 n) y2 y3 y4 y5 y7 y8 y9 y10 g = some r := h
    unfold fb_X3_partsThatKnow_74 at h
    refine g_run 2 (pc' := 78) (L' := [some (.ref 430), none, some (.int y2), some (.int y3), some (.int y4), some (.int y5), none, some (.ref y7), some (.int y8), some (.int y9), some (.int y10), none, none]) (S' := [.int y4, .int y10]) (M' := gm g) rfl ?_
    refine g_icmp (y4 ≤ y10) rfl (t := 139) rfl rfl (fun c1 => ?_) (fun c1 => ?_)
    · replace h := (if_pos c1).symm.trans h
      refine g_forget (L' := [some (.ref 430), none, some (.int y2), some (.int y3), some (.int y4), some (.int y5), none, some (.ref y7), some (.int y8), some (.int y9), none, none, none]) (And.intro rfl (And.intro rfl (And.intro rfl (And.intro rfl (And.intro rfl (And.intro rfl (And.intro rfl (And.intro rfl True.intro)))))))) ?_
      exact p_X3_partsThatKnow_139 hD b1 hb1 k55 hk55 (y2) (y3) (y4) (y5) (y7) (y8) (y9) g _ hy7 h
    · replace h := (if_neg c1).symm.trans h
      refine g_run 9 (pc' := 93) (L' := [some (.ref 430), none, some (.int y2), some (.int y3), some (.int y4), some (.int y5), none, some (.ref y7), some (.int y8), some (.int y9), some (.int y10), none, none]) (S' := [.int (((y9 >>> (((y4 - 1) - y10) &&& 31)) &&& 1))]) (M' := gm g) rfl ?_
      refine g_if (((y9 >>> (((y4 - 1) - y10) &&& 31)) &&& 1) = 0) rfl (t := 100) rfl rfl (fun c2 => ?_) (fun c2 => ?_)
      · replace h := (if_pos c2).symm.trans h
        refine g_run 1 (pc' := 101) (L' := [some (.ref 430), none, some (.int y2), some (.int y3), some (.int y4), some (.int y5), none, some (.ref y7), some (.int y8), some (.int y9), some (.int y10), none, none]) (S' := [.int 0]) (M' := gm g) rfl ?_
        exact p_X3_partsThatKnow_101 hD b1 hb1 k55 hk55 (f_X3_partsThatKnow_74 b1 k55 n) ih (y2) (y3) (y4) (y5) (y7) (y8) (y9) (y10) (0) g _ hy7 h
      · replace h := (if_neg c2).symm.trans h
        refine g_run 2 (pc' := 101) (L' := [some (.ref 430), none, some (.int y2), some (.int y3), some (.int y4), some (.int y5), none, some (.ref y7), some (.int y8), some (.int y9), some (.int y10), none, none]) (S' := [.int 1]) (M' := gm g) rfl ?_
        exact p_X3_partsThatKnow_101 hD b1 hb1 k55 hk55 (f_X3_partsThatKnow_74 b1 k55 n) ih (y2) (y3) (y4) (y5) (y7) (y8) (y9) (y10) (1) g _ hy7 h
def fb_X3_partsThatKnow_55 (b1 : Nat) (kk : Int32 → Int32 → Int32 → Int32 → Nat → Int32 → Int32 → zSg → Option (Int32 × zSg)) (y2 : Int32) (y3 : Int32) (y4 : Int32) (y5 : Int32) (y7 : Nat) (y8 : Int32) (y9 : Int32) (g : zSg) : Option (Int32 × zSg) := (if (1 <<< (y4 &&& 31)) ≤ y9 then some (y8, g) else (zB (f_X3_firstNew y9 y4 1 g) (fun v2 g3 => f_X3_partsThatKnow_74 b1 kk zFu (y2) (y3) (y4) (y5) (y7) (y8) (y9) (v2) g3)))
def f_X3_partsThatKnow_55 (b1 : Nat) : Nat → Int32 → Int32 → Int32 → Int32 → Nat → Int32 → Int32 → zSg → Option (Int32 × zSg)
  | 0, _, _, _, _, _, _, _, _ => none
  | n + 1, y2, y3, y4, y5, y7, y8, y9, g => fb_X3_partsThatKnow_55 b1 (f_X3_partsThatKnow_55 b1 n) y2 y3 y4 y5 y7 y8 y9 g
set_option maxRecDepth 100000 in
set_option maxHeartbeats 4000000 in
theorem p_X3_partsThatKnow_55 {sc : zSc} {hp : zHp} {d : Nat} (hD : 21 ≤ d) (b1 : Nat) (hb1 : (zK0 b1).1 = 8) : ∀ (n : Nat) (y2 : Int32) (y3 : Int32) (y4 : Int32) (y5 : Int32) (y7 : Nat) (y8 : Int32) (y9 : Int32) (g : zSg) (r : Int32 × zSg) (hy7 : (zK0 y7).1 = 8), f_X3_partsThatKnow_55 b1 n y2 y3 y4 y5 y7 y8 y9 g = some r → zG d sc hp (zcd zM_X3_partsThatKnow) 55 [some (.ref 430), none, some (.int y2), some (.int y3), some (.int y4), some (.int y5), none, some (.ref y7), some (.int y8), some (.int y9), none, none, none] [] (gm g) ((some (.int r.1)), gm r.2) := by
  obtain ⟨d, rfl⟩ : ∃ d', d = d' + 1 := ⟨d - 1, by omega⟩
  intro n
  induction n with
  | zero => intro y2 y3 y4 y5 y7 y8 y9 g r hy7 h; cases h
  | succ n ih =>
    intro y2 y3 y4 y5 y7 y8 y9 g r hy7 h
    replace h : fb_X3_partsThatKnow_55 b1 (f_X3_partsThatKnow_55 b1 n) y2 y3 y4 y5 y7 y8 y9 g = some r := h
    unfold fb_X3_partsThatKnow_55 at h
    refine g_run 4 (pc' := 61) (L' := [some (.ref 430), none, some (.int y2), some (.int y3), some (.int y4), some (.int y5), none, some (.ref y7), some (.int y8), some (.int y9), none, none, none]) (S' := [.int ((1 <<< (y4 &&& 31))), .int y9]) (M' := gm g) rfl ?_
    refine g_icmp ((1 <<< (y4 &&& 31)) ≤ y9) rfl (t := 169) rfl rfl (fun c1 => ?_) (fun c1 => ?_)
    · replace h := (if_pos c1).symm.trans h
      refine g_run 1 (pc' := 171) (L' := [some (.ref 430), none, some (.int y2), some (.int y3), some (.int y4), some (.int y5), none, some (.ref y7), some (.int y8), some (.int y9), none, none, none]) (S' := [.int y8]) (M' := gm g) rfl ?_
      cases h
      exact g_ret rfl rfl rfl rfl
    · replace h := (if_neg c1).symm.trans h
      refine g_run 3 (pc' := 69) (L' := [some (.ref 430), none, some (.int y2), some (.int y3), some (.int y4), some (.int y5), none, some (.ref y7), some (.int y8), some (.int y9), none, none, none]) (S' := [.int 1, .int y4, .int y9]) (M' := gm g) rfl ?_
      replace h := zB_of h
      obtain ⟨v2, g3, e4, h⟩ := h
      refine g_inv2 (kd := 0) (p_X3_firstNew  e4) rfl rfl rfl (by decide) rfl rfl rfl rfl (by omega) (pc' := 72) rfl (S' := [.int v2]) rfl ?_
      refine g_run 1 (pc' := 74) (L' := [some (.ref 430), none, some (.int y2), some (.int y3), some (.int y4), some (.int y5), none, some (.ref y7), some (.int y8), some (.int y9), some (.int v2), none, none]) (S' := []) (M' := gm g3) rfl ?_
      exact p_X3_partsThatKnow_74 hD b1 hb1 (f_X3_partsThatKnow_55 b1 n) ih zFu (y2) (y3) (y4) (y5) (y7) (y8) (y9) (v2) g3 _ hy7 h
def f_X3_partsThatKnow (b1 : Nat) (x2 : Int32) (x3 : Int32) (x4 : Int32) (x5 : Int32) (g : zSg) : Option (Int32 × zSg) := (zB (f_X8_pick 431 0 g) (fun v1 g2 => (zB (f_X8_pick 431 x4 g2) (fun v4 g5 => (zNu v1 (some ((-1), g5)) (fun a7 => if (zK0 a7).1 = 8 then (zNu v4 (some ((-1), g5)) (fun a10 => if (zK0 a10).1 = 8 then (zB (f_X8_become a7 b1 g5) (fun v13 g14 => (zB (f_X7_set 432 0 1000000000 g14) (fun v16 g17 => f_X3_partsThatKnow_55 b1 zFu (x2) (x3) (x4) (x5) (a10) (0) (0) g17)))) else none)) else none))))))
set_option maxRecDepth 100000 in
set_option maxHeartbeats 4000000 in
theorem p_X3_partsThatKnow {sc : zSc} {hp : zHp} (b1 : Nat) (hb1 : (zK0 b1).1 = 8) {x2 : Int32} {x3 : Int32} {x4 : Int32} {x5 : Int32} {g : zSg} {r : Int32 × zSg} (h : f_X3_partsThatKnow b1 x2 x3 x4 x5 g = some r) : zRn sc hp 21 zM_X3_partsThatKnow [.ref 430, .ref b1, .int x2, .int x3, .int x4, .int x5] (gm g) (some (.int r.1)) (gm r.2) := by
  intro d hD
  obtain ⟨d, rfl⟩ : ∃ d', d = d' + 1 := ⟨d - 1, by omega⟩
  show zG _ sc hp (zcd zM_X3_partsThatKnow) 0 [some (.ref 430), some (.ref b1), some (.int x2), some (.int x3), some (.int x4), some (.int x5), none, none, none, none, none, none, none] [] (gm g) _
  unfold f_X3_partsThatKnow at h
  refine g_run 3 (pc' := 5) (L' := [some (.ref 430), some (.ref b1), some (.int x2), some (.int x3), some (.int x4), some (.int x5), none, none, none, none, none, none, none]) (S' := [.int 0, .ref 431]) (M' := gm g) rfl ?_
  replace h := zB_of h
  obtain ⟨v1, g2, e3, h⟩ := h
  refine g_inv2 (kd := 0) (p_X8_pick 431 rfl e3) rfl rfl rfl (by decide) rfl rfl rfl rfl (by omega) (pc' := 8) rfl (S' := [zrv v1]) rfl ?_
  refine g_astore (v := v1) rfl (Nat.le_of_ble_eq_true rfl) (L' := [some (.ref 430), some (.ref b1), some (.int x2), some (.int x3), some (.int x4), some (.int x5), some (zrv v1), none, none, none, none, none, none]) rfl ?_
  refine g_run 3 (pc' := 16) (L' := [some (.ref 430), some (.ref b1), some (.int x2), some (.int x3), some (.int x4), some (.int x5), some (zrv v1), none, none, none, none, none, none]) (S' := [.int x4, .ref 431]) (M' := gm g2) rfl ?_
  replace h := zB_of h
  obtain ⟨v4, g5, e6, h⟩ := h
  refine g_inv2 (kd := 0) (p_X8_pick 431 rfl e6) rfl rfl rfl (by decide) rfl rfl rfl rfl (by omega) (pc' := 19) rfl (S' := [zrv v4]) rfl ?_
  refine g_astore (v := v4) rfl (Nat.le_of_ble_eq_true rfl) (L' := [some (.ref 430), some (.ref b1), some (.int x2), some (.int x3), some (.int x4), some (.int x5), some (zrv v1), some (zrv v4), none, none, none, none, none]) ((zst1_o (j := 6) (v := v1) rfl).trans rfl) ?_
  refine g_aload (v := v1) rfl rfl ?_
  rcases v1 with _ | a7
  · replace h := zNu_n h
    show zG _ _ _ _ 23 [some (.ref 430), some (.ref b1), some (.int x2), some (.int x3), some (.int x4), some (.int x5), some (.null), some (zrv v4), none, none, none, none, none] [.null] (gm g5) _
    refine g_run 1 (pc' := 31) (L' := [some (.ref 430), some (.ref b1), some (.int x2), some (.int x3), some (.int x4), some (.int x5), some (.null), some (zrv v4), none, none, none, none, none]) (S' := []) (M' := gm g5) rfl ?_
    refine g_run 1 (pc' := 32) (L' := [some (.ref 430), some (.ref b1), some (.int x2), some (.int x3), some (.int x4), some (.int x5), some (.null), some (zrv v4), none, none, none, none, none]) (S' := [.int (-1)]) (M' := gm g5) rfl ?_
    cases h
    exact g_ret rfl rfl rfl rfl
  · replace h := zNu_s h
    by_cases h9 : (zK0 a7).1 = 8
    case neg => exact nomatch ((if_neg h9).symm.trans h)
    replace h := (if_pos h9).symm.trans h
    show zG _ _ _ _ 23 [some (.ref 430), some (.ref b1), some (.int x2), some (.int x3), some (.int x4), some (.int x5), some (.ref a7), some (zrv v4), none, none, none, none, none] [.ref a7] (gm g5) _
    refine g_run 1 (pc' := 26) (L' := [some (.ref 430), some (.ref b1), some (.int x2), some (.int x3), some (.int x4), some (.int x5), some (.ref a7), some (zrv v4), none, none, none, none, none]) (S' := []) (M' := gm g5) rfl ?_
    refine g_aload (v := v4) rfl rfl ?_
    rcases v4 with _ | a10
    · replace h := zNu_n h
      show zG _ _ _ _ 28 [some (.ref 430), some (.ref b1), some (.int x2), some (.int x3), some (.int x4), some (.int x5), some (.ref a7), some (.null), none, none, none, none, none] [.null] (gm g5) _
      refine g_run 1 (pc' := 31) (L' := [some (.ref 430), some (.ref b1), some (.int x2), some (.int x3), some (.int x4), some (.int x5), some (.ref a7), some (.null), none, none, none, none, none]) (S' := []) (M' := gm g5) rfl ?_
      refine g_run 1 (pc' := 32) (L' := [some (.ref 430), some (.ref b1), some (.int x2), some (.int x3), some (.int x4), some (.int x5), some (.ref a7), some (.null), none, none, none, none, none]) (S' := [.int (-1)]) (M' := gm g5) rfl ?_
      cases h
      exact g_ret rfl rfl rfl rfl
    · replace h := zNu_s h
      by_cases h12 : (zK0 a10).1 = 8
      case neg => exact nomatch ((if_neg h12).symm.trans h)
      replace h := (if_pos h12).symm.trans h
      show zG _ _ _ _ 28 [some (.ref 430), some (.ref b1), some (.int x2), some (.int x3), some (.int x4), some (.int x5), some (.ref a7), some (.ref a10), none, none, none, none, none] [.ref a10] (gm g5) _
      refine g_run 1 (pc' := 33) (L' := [some (.ref 430), some (.ref b1), some (.int x2), some (.int x3), some (.int x4), some (.int x5), some (.ref a7), some (.ref a10), none, none, none, none, none]) (S' := []) (M' := gm g5) rfl ?_
      refine g_run 2 (pc' := 36) (L' := [some (.ref 430), some (.ref b1), some (.int x2), some (.int x3), some (.int x4), some (.int x5), some (.ref a7), some (.ref a10), none, none, none, none, none]) (S' := [.ref b1, .ref a7]) (M' := gm g5) rfl ?_
      replace h := zB_of h
      obtain ⟨v13, g14, e15, h⟩ := h
      refine g_inv2 (kd := 1) (p_X8_become a7 b1 h9 hb1 e15) rfl rfl rfl (by decide) rfl (g_recv (a := a7) rfl (Nat.le_of_ble_eq_true rfl) (Nat.le_of_ble_eq_true rfl) (Nat.le_of_ble_eq_true rfl) (Nat.le_of_ble_eq_true rfl) rfl h9 (Nat.le_of_ble_eq_true rfl)) rfl rfl (by omega) (pc' := 39) rfl (S' := []) rfl ?_
      refine g_run 4 (pc' := 46) (L' := [some (.ref 430), some (.ref b1), some (.int x2), some (.int x3), some (.int x4), some (.int x5), some (.ref a7), some (.ref a10), none, none, none, none, none]) (S' := [.int 1000000000, .int 0, .ref 432]) (M' := gm g14) rfl ?_
      replace h := zB_of h
      obtain ⟨v16, g17, e18, h⟩ := h
      refine g_inv2 (kd := 1) (p_X7_set 432 rfl e18) rfl rfl rfl (by decide) rfl rfl rfl rfl (by omega) (pc' := 49) rfl (S' := []) rfl ?_
      refine g_run 4 (pc' := 55) (L' := [some (.ref 430), some (.ref b1), some (.int x2), some (.int x3), some (.int x4), some (.int x5), some (.ref a7), some (.ref a10), some (.int 0), some (.int 0), none, none, none]) (S' := []) (M' := gm g17) rfl ?_
      refine g_forget (L' := [some (.ref 430), none, some (.int x2), some (.int x3), some (.int x4), some (.int x5), none, some (.ref a10), some (.int 0), some (.int 0), none, none, none]) (And.intro rfl (And.intro rfl (And.intro rfl (And.intro rfl (And.intro rfl (And.intro rfl (And.intro rfl (And.intro rfl True.intro)))))))) ?_
      exact p_X3_partsThatKnow_55 hD b1 hb1 zFu (x2) (x3) (x4) (x5) (a10) (0) (0) g17 _ h12 h
def f_X4_clear (a : Nat) (g : zSg) : Option (Unit × zSg) := some ((), (gsI g (a) 2 0))
set_option maxRecDepth 100000 in
set_option maxHeartbeats 4000000 in
theorem p_X4_clear {sc : zSc} {hp : zHp} (a : Nat) (ha : (zK0 a).1 = 4) {g : zSg} {r : Unit × zSg} (h : f_X4_clear a g = some r) : zRn sc hp 0 zM_X4_clear [.ref a] (gm g) none (gm r.2) := by
  intro d hD
  show zG _ sc hp (zcd zM_X4_clear) 0 [some (.ref a)] [] (gm g) _
  unfold f_X4_clear at h
  refine g_run 2 (pc' := 2) (L' := [some (.ref a)]) (S' := [.int 0, .ref a]) (M' := gm g) rfl ?_
  refine g_putf rfl (ci := 4) (k := 2) rfl (a := a) ha rfl (g' := gsI g (a) 2 0) rfl ?_
  cases h
  exact g_ret rfl rfl rfl rfl
