/-! ===== decompiled functions (by program), 4 ===== -/
def f_X12_bounded (x1 : Int64) (g : zSg) : Option (Int32 × zSg) := some (((lmax (-1000000) (lmin 1000000 x1))).toInt32, g)
set_option maxRecDepth 100000 in
set_option maxHeartbeats 4000000 in
theorem p_X12_bounded {sc : zSc} {hp : zHp} {x1 : Int64} {g : zSg} {r : Int32 × zSg} (h : f_X12_bounded x1 g = some r) : zRn sc hp 1 zM_X12_bounded [.long (x1)] (gm g) (some (.int r.1)) (gm r.2) := by
  intro d hD
  obtain ⟨d, rfl⟩ : ∃ d', d = d' + 1 := ⟨d - 1, by omega⟩
  show zG _ sc hp (zcd zM_X12_bounded) 0 [some (.long (x1)), none] [] (gm g) _
  unfold f_X12_bounded at h
  refine g_run 3 (pc' := 7) (L' := [some (.long (x1)), none]) (S' := [.long (x1), .long (1000000), .long ((-1000000))]) (M' := gm g) rfl ?_
  refine g_spec2 (kd := 0) rfl rfl rfl (by decide) rfl (jd := 1004) rfl (by decide) rfl (Or.inl (by decide)) (S' := [.long ((lmin 1000000 x1)), .long ((-1000000))]) (M' := gm g) rfl rfl (pc' := 10) rfl ?_
  refine g_spec2 (kd := 0) rfl rfl rfl (by decide) rfl (jd := 1005) rfl (by decide) rfl (Or.inl (by decide)) (S' := [.long ((lmax (-1000000) (lmin 1000000 x1)))]) (M' := gm g) rfl rfl (pc' := 13) rfl ?_
  refine g_run 1 (pc' := 14) (L' := [some (.long (x1)), none]) (S' := [.int (((lmax (-1000000) (lmin 1000000 x1))).toInt32)]) (M' := gm g) rfl ?_
  cases h
  exact g_ret rfl rfl rfl rfl
def f_X12_worked (x1 : Int32) (x2 : Int64) (x3 : Int64) (g : zSg) : Option (Int32 × zSg) := (if x1 = 2 then (zB (f_X12_bounded (x2 + x3) g) (fun v2 g3 => some (v2, g3))) else (if x1 = 3 then (zB (f_X12_bounded (x2 - x3) g) (fun v6 g7 => some (v6, g7))) else (if x1 = 4 then (zB (f_X12_bounded (x2 * x3) g) (fun v10 g11 => some (v10, g11))) else (if x1 = 5 then (if ¬ (lg_cmp x3 0) = 0 then (if x3 = 0 then none else (zB (f_X12_bounded (x2 / x3) g) (fun v16 g17 => some (v16, g17)))) else some (0, g)) else (if x1 = 6 then (if ¬ (lg_cmp x2 x3) = 0 then some (0, g) else some (1, g)) else (if x1 = 7 then (if 0 ≤ (lg_cmp x2 x3) then some (0, g) else some (1, g)) else (if x1 = 8 then (if (lg_cmp x2 x3) ≤ 0 then some (0, g) else some (1, g)) else (if x1 = 9 then (if ¬ (lg_cmp x2 0) = 0 then some (1, g) else (if (lg_cmp x3 0) = 0 then some (0, g) else some (1, g))) else (if x1 = 10 then (if (lg_cmp x2 0) = 0 then some (0, g) else (if (lg_cmp x3 0) = 0 then some (0, g) else some (1, g))) else (if ¬ (lg_cmp x2 0) = 0 then some (1, g) else (if (lg_cmp x3 0) = 0 then some (0, g) else some (1, g))))))))))))
set_option maxRecDepth 100000 in
set_option maxHeartbeats 4000000 in
theorem p_X12_worked {sc : zSc} {hp : zHp} {x1 : Int32} {x2 : Int64} {x3 : Int64} {g : zSg} {r : Int32 × zSg} (h : f_X12_worked x1 x2 x3 g = some r) : zRn sc hp 2 zM_X12_worked [.int x1, .long (x2), .long (x3)] (gm g) (some (.int r.1)) (gm r.2) := by
  intro d hD
  obtain ⟨d, rfl⟩ : ∃ d', d = d' + 1 := ⟨d - 1, by omega⟩
  show zG _ sc hp (zcd zM_X12_worked) 0 [some (.int x1), some (.long (x2)), none, some (.long (x3)), none] [] (gm g) _
  unfold f_X12_worked at h
  refine g_run 1 (pc' := 1) (L' := [some (.int x1), some (.long (x2)), none, some (.long (x3)), none]) (S' := [.int x1]) (M' := gm g) rfl ?_
  by_cases c1 : x1 = 2
  · replace h := (if_pos c1).symm.trans h
    refine g_swc c1 rfl rfl rfl (pc' := 52) rfl ?_
    refine g_run 3 (pc' := 55) (L' := [some (.int x1), some (.long (x2)), none, some (.long (x3)), none]) (S' := [.long ((x2 + x3))]) (M' := gm g) rfl ?_
    replace h := zB_of h
    obtain ⟨v2, g3, e4, h⟩ := h
    refine g_inv2 (kd := 0) (p_X12_bounded  e4) rfl rfl rfl (by decide) rfl rfl rfl rfl (by omega) (pc' := 58) rfl (S' := [.int v2]) rfl ?_
    cases h
    exact g_ret rfl rfl rfl rfl
  replace h := (if_neg c1).symm.trans h
  by_cases c5 : x1 = 3
  · replace h := (if_pos c5).symm.trans h
    refine g_swc c5 rfl rfl rfl (pc' := 59) rfl ?_
    refine g_run 3 (pc' := 62) (L' := [some (.int x1), some (.long (x2)), none, some (.long (x3)), none]) (S' := [.long ((x2 - x3))]) (M' := gm g) rfl ?_
    replace h := zB_of h
    obtain ⟨v6, g7, e8, h⟩ := h
    refine g_inv2 (kd := 0) (p_X12_bounded  e8) rfl rfl rfl (by decide) rfl rfl rfl rfl (by omega) (pc' := 65) rfl (S' := [.int v6]) rfl ?_
    cases h
    exact g_ret rfl rfl rfl rfl
  replace h := (if_neg c5).symm.trans h
  by_cases c9 : x1 = 4
  · replace h := (if_pos c9).symm.trans h
    refine g_swc c9 rfl rfl rfl (pc' := 66) rfl ?_
    refine g_run 3 (pc' := 69) (L' := [some (.int x1), some (.long (x2)), none, some (.long (x3)), none]) (S' := [.long ((x2 * x3))]) (M' := gm g) rfl ?_
    replace h := zB_of h
    obtain ⟨v10, g11, e12, h⟩ := h
    refine g_inv2 (kd := 0) (p_X12_bounded  e12) rfl rfl rfl (by decide) rfl rfl rfl rfl (by omega) (pc' := 72) rfl (S' := [.int v10]) rfl ?_
    cases h
    exact g_ret rfl rfl rfl rfl
  replace h := (if_neg c9).symm.trans h
  by_cases c13 : x1 = 5
  · replace h := (if_pos c13).symm.trans h
    refine g_swc c13 rfl rfl rfl (pc' := 73) rfl ?_
    refine g_run 3 (pc' := 76) (L' := [some (.int x1), some (.long (x2)), none, some (.long (x3)), none]) (S' := [.int ((lg_cmp x3 0))]) (M' := gm g) rfl ?_
    refine g_if (¬ (lg_cmp x3 0) = 0) rfl (t := 83) rfl rfl (fun c14 => ?_) (fun c14 => ?_)
    · replace h := (if_pos c14).symm.trans h
      refine g_run 2 (pc' := 85) (L' := [some (.int x1), some (.long (x2)), none, some (.long (x3)), none]) (S' := [.long (x3), .long (x2)]) (M' := gm g) rfl ?_
      by_cases c15 : x3 = 0
      case pos => exact nomatch ((if_pos c15).symm.trans h)
      replace h := (if_neg c15).symm.trans h
      refine g_ldiv rfl c15 ?_
      replace h := zB_of h
      obtain ⟨v16, g17, e18, h⟩ := h
      refine g_inv2 (kd := 0) (p_X12_bounded  e18) rfl rfl rfl (by decide) rfl rfl rfl rfl (by omega) (pc' := 89) rfl (S' := [.int v16]) rfl ?_
      cases h
      exact g_ret rfl rfl rfl rfl
    · replace h := (if_neg c14).symm.trans h
      refine g_run 2 (pc' := 89) (L' := [some (.int x1), some (.long (x2)), none, some (.long (x3)), none]) (S' := [.int 0]) (M' := gm g) rfl ?_
      cases h
      exact g_ret rfl rfl rfl rfl
  replace h := (if_neg c13).symm.trans h
  by_cases c19 : x1 = 6
  · replace h := (if_pos c19).symm.trans h
    refine g_swc c19 rfl rfl rfl (pc' := 90) rfl ?_
    refine g_run 3 (pc' := 93) (L' := [some (.int x1), some (.long (x2)), none, some (.long (x3)), none]) (S' := [.int ((lg_cmp x2 x3))]) (M' := gm g) rfl ?_
    refine g_if (¬ (lg_cmp x2 x3) = 0) rfl (t := 100) rfl rfl (fun c20 => ?_) (fun c20 => ?_)
    · replace h := (if_pos c20).symm.trans h
      refine g_run 1 (pc' := 101) (L' := [some (.int x1), some (.long (x2)), none, some (.long (x3)), none]) (S' := [.int 0]) (M' := gm g) rfl ?_
      cases h
      exact g_ret rfl rfl rfl rfl
    · replace h := (if_neg c20).symm.trans h
      refine g_run 2 (pc' := 101) (L' := [some (.int x1), some (.long (x2)), none, some (.long (x3)), none]) (S' := [.int 1]) (M' := gm g) rfl ?_
      cases h
      exact g_ret rfl rfl rfl rfl
  replace h := (if_neg c19).symm.trans h
  by_cases c21 : x1 = 7
  · replace h := (if_pos c21).symm.trans h
    refine g_swc c21 rfl rfl rfl (pc' := 102) rfl ?_
    refine g_run 3 (pc' := 105) (L' := [some (.int x1), some (.long (x2)), none, some (.long (x3)), none]) (S' := [.int ((lg_cmp x2 x3))]) (M' := gm g) rfl ?_
    refine g_if (0 ≤ (lg_cmp x2 x3)) rfl (t := 112) rfl rfl (fun c22 => ?_) (fun c22 => ?_)
    · replace h := (if_pos c22).symm.trans h
      refine g_run 1 (pc' := 113) (L' := [some (.int x1), some (.long (x2)), none, some (.long (x3)), none]) (S' := [.int 0]) (M' := gm g) rfl ?_
      cases h
      exact g_ret rfl rfl rfl rfl
    · replace h := (if_neg c22).symm.trans h
      refine g_run 2 (pc' := 113) (L' := [some (.int x1), some (.long (x2)), none, some (.long (x3)), none]) (S' := [.int 1]) (M' := gm g) rfl ?_
      cases h
      exact g_ret rfl rfl rfl rfl
  replace h := (if_neg c21).symm.trans h
  by_cases c23 : x1 = 8
  · replace h := (if_pos c23).symm.trans h
    refine g_swc c23 rfl rfl rfl (pc' := 114) rfl ?_
    refine g_run 3 (pc' := 117) (L' := [some (.int x1), some (.long (x2)), none, some (.long (x3)), none]) (S' := [.int ((lg_cmp x2 x3))]) (M' := gm g) rfl ?_
    refine g_if ((lg_cmp x2 x3) ≤ 0) rfl (t := 124) rfl rfl (fun c24 => ?_) (fun c24 => ?_)
    · replace h := (if_pos c24).symm.trans h
      refine g_run 1 (pc' := 125) (L' := [some (.int x1), some (.long (x2)), none, some (.long (x3)), none]) (S' := [.int 0]) (M' := gm g) rfl ?_
      cases h
      exact g_ret rfl rfl rfl rfl
    · replace h := (if_neg c24).symm.trans h
      refine g_run 2 (pc' := 125) (L' := [some (.int x1), some (.long (x2)), none, some (.long (x3)), none]) (S' := [.int 1]) (M' := gm g) rfl ?_
      cases h
      exact g_ret rfl rfl rfl rfl
  replace h := (if_neg c23).symm.trans h
  by_cases c25 : x1 = 9
  · replace h := (if_pos c25).symm.trans h
    refine g_swc c25 rfl rfl rfl (pc' := 144) rfl ?_
    refine g_run 3 (pc' := 147) (L' := [some (.int x1), some (.long (x2)), none, some (.long (x3)), none]) (S' := [.int ((lg_cmp x2 0))]) (M' := gm g) rfl ?_
    refine g_if (¬ (lg_cmp x2 0) = 0) rfl (t := 156) rfl rfl (fun c26 => ?_) (fun c26 => ?_)
    · replace h := (if_pos c26).symm.trans h
      refine g_run 2 (pc' := 161) (L' := [some (.int x1), some (.long (x2)), none, some (.long (x3)), none]) (S' := [.int 1]) (M' := gm g) rfl ?_
      cases h
      exact g_ret rfl rfl rfl rfl
    · replace h := (if_neg c26).symm.trans h
      refine g_run 3 (pc' := 153) (L' := [some (.int x1), some (.long (x2)), none, some (.long (x3)), none]) (S' := [.int ((lg_cmp x3 0))]) (M' := gm g) rfl ?_
      refine g_if ((lg_cmp x3 0) = 0) rfl (t := 160) rfl rfl (fun c27 => ?_) (fun c27 => ?_)
      · replace h := (if_pos c27).symm.trans h
        refine g_run 1 (pc' := 161) (L' := [some (.int x1), some (.long (x2)), none, some (.long (x3)), none]) (S' := [.int 0]) (M' := gm g) rfl ?_
        cases h
        exact g_ret rfl rfl rfl rfl
      · replace h := (if_neg c27).symm.trans h
        refine g_run 2 (pc' := 161) (L' := [some (.int x1), some (.long (x2)), none, some (.long (x3)), none]) (S' := [.int 1]) (M' := gm g) rfl ?_
        cases h
        exact g_ret rfl rfl rfl rfl
  replace h := (if_neg c25).symm.trans h
  by_cases c28 : x1 = 10
  · replace h := (if_pos c28).symm.trans h
    refine g_swc c28 rfl rfl rfl (pc' := 126) rfl ?_
    refine g_run 3 (pc' := 129) (L' := [some (.int x1), some (.long (x2)), none, some (.long (x3)), none]) (S' := [.int ((lg_cmp x2 0))]) (M' := gm g) rfl ?_
    refine g_if ((lg_cmp x2 0) = 0) rfl (t := 142) rfl rfl (fun c29 => ?_) (fun c29 => ?_)
    · replace h := (if_pos c29).symm.trans h
      refine g_run 1 (pc' := 143) (L' := [some (.int x1), some (.long (x2)), none, some (.long (x3)), none]) (S' := [.int 0]) (M' := gm g) rfl ?_
      cases h
      exact g_ret rfl rfl rfl rfl
    · replace h := (if_neg c29).symm.trans h
      refine g_run 3 (pc' := 135) (L' := [some (.int x1), some (.long (x2)), none, some (.long (x3)), none]) (S' := [.int ((lg_cmp x3 0))]) (M' := gm g) rfl ?_
      refine g_if ((lg_cmp x3 0) = 0) rfl (t := 142) rfl rfl (fun c30 => ?_) (fun c30 => ?_)
      · replace h := (if_pos c30).symm.trans h
        refine g_run 1 (pc' := 143) (L' := [some (.int x1), some (.long (x2)), none, some (.long (x3)), none]) (S' := [.int 0]) (M' := gm g) rfl ?_
        cases h
        exact g_ret rfl rfl rfl rfl
      · replace h := (if_neg c30).symm.trans h
        refine g_run 2 (pc' := 143) (L' := [some (.int x1), some (.long (x2)), none, some (.long (x3)), none]) (S' := [.int 1]) (M' := gm g) rfl ?_
        cases h
        exact g_ret rfl rfl rfl rfl
  replace h := (if_neg c28).symm.trans h
  have hsw : (x1).toInt < 2 ∨ 10 < (x1).toInt := by
    have nc1 := lv_neT c1 (a := 2) rfl
    have nc5 := lv_neT c5 (a := 3) rfl
    have nc9 := lv_neT c9 (a := 4) rfl
    have nc13 := lv_neT c13 (a := 5) rfl
    have nc19 := lv_neT c19 (a := 6) rfl
    have nc21 := lv_neT c21 (a := 7) rfl
    have nc23 := lv_neT c23 (a := 8) rfl
    have nc25 := lv_neT c25 (a := 9) rfl
    have nc28 := lv_neT c28 (a := 10) rfl
    omega
  refine g_tsd rfl hsw (t := 144) rfl ?_
  refine g_run 3 (pc' := 147) (L' := [some (.int x1), some (.long (x2)), none, some (.long (x3)), none]) (S' := [.int ((lg_cmp x2 0))]) (M' := gm g) rfl ?_
  refine g_if (¬ (lg_cmp x2 0) = 0) rfl (t := 156) rfl rfl (fun c31 => ?_) (fun c31 => ?_)
  · replace h := (if_pos c31).symm.trans h
    refine g_run 2 (pc' := 161) (L' := [some (.int x1), some (.long (x2)), none, some (.long (x3)), none]) (S' := [.int 1]) (M' := gm g) rfl ?_
    cases h
    exact g_ret rfl rfl rfl rfl
  · replace h := (if_neg c31).symm.trans h
    refine g_run 3 (pc' := 153) (L' := [some (.int x1), some (.long (x2)), none, some (.long (x3)), none]) (S' := [.int ((lg_cmp x3 0))]) (M' := gm g) rfl ?_
    refine g_if ((lg_cmp x3 0) = 0) rfl (t := 160) rfl rfl (fun c32 => ?_) (fun c32 => ?_)
    · replace h := (if_pos c32).symm.trans h
      refine g_run 1 (pc' := 161) (L' := [some (.int x1), some (.long (x2)), none, some (.long (x3)), none]) (S' := [.int 0]) (M' := gm g) rfl ?_
      cases h
      exact g_ret rfl rfl rfl rfl
    · replace h := (if_neg c32).symm.trans h
      refine g_run 2 (pc' := 161) (L' := [some (.int x1), some (.long (x2)), none, some (.long (x3)), none]) (S' := [.int 1]) (M' := gm g) rfl ?_
      cases h
      exact g_ret rfl rfl rfl rfl
def f_X12_workOut_171 (g : zSg) : Option (Int32 × zSg) := some ((gI g 536 0), g)
set_option maxRecDepth 100000 in
set_option maxHeartbeats 4000000 in
theorem p_X12_workOut_171 {sc : zSc} {hp : zHp} {d : Nat} (hD : 3 ≤ d) (g : zSg) (r : Int32 × zSg) (h : f_X12_workOut_171 g = some r) : zG d sc hp (zcd zM_X12_workOut) 171 [some (.ref 526), none, none, none, none, none] [] (gm g) ((some (.int r.1)), gm r.2) := by
  obtain ⟨d, rfl⟩ : ∃ d', d = d' + 1 := ⟨d - 1, by omega⟩
  unfold f_X12_workOut_171 at h
  refine g_run 4 (pc' := 177) (L' := [some (.ref 526), none, none, none, none, none]) (S' := [.int ((gI g 536 0))]) (M' := gm g) rfl ?_
  cases h
  exact g_ret rfl rfl rfl rfl
def f_X12_workOut_165 (k12 : Int32 → Int32 → Int32 → Int32 → zSg → Option (Int32 × zSg)) (y1 : Int32) (y3 : Int32) (y4 : Int32) (y5 : Int32) (g : zSg) : Option (Int32 × zSg) := k12 (y1) (y3) (y4) (y5 + 1) g
set_option maxRecDepth 100000 in
set_option maxHeartbeats 4000000 in
theorem p_X12_workOut_165 {sc : zSc} {hp : zHp} {d : Nat} (hD : 3 ≤ d) (k12 : Int32 → Int32 → Int32 → Int32 → zSg → Option (Int32 × zSg)) (hk12 : ∀ (y1 : Int32) (y3 : Int32) (y4 : Int32) (y5 : Int32) (g : zSg) (r : Int32 × zSg), k12 y1 y3 y4 y5 g = some r → zG d sc hp (zcd zM_X12_workOut) 12 [some (.ref 526), some (.int y1), none, some (.int y3), some (.int y4), some (.int y5)] [] (gm g) ((some (.int r.1)), gm r.2)) (y1 : Int32) (y3 : Int32) (y4 : Int32) (y5 : Int32) (g : zSg) (r : Int32 × zSg) (h : f_X12_workOut_165 k12 y1 y3 y4 y5 g = some r) : zG d sc hp (zcd zM_X12_workOut) 165 [some (.ref 526), some (.int y1), none, some (.int y3), some (.int y4), some (.int y5)] [] (gm g) ((some (.int r.1)), gm r.2) := by
  obtain ⟨d, rfl⟩ : ∃ d', d = d' + 1 := ⟨d - 1, by omega⟩
  unfold f_X12_workOut_165 at h
  refine g_run 2 (pc' := 12) (L' := [some (.ref 526), some (.int y1), none, some (.int y3), some (.int y4), some (.int ((y5 + 1)))]) (S' := []) (M' := gm g) rfl ?_
  exact hk12 (y1) (y3) (y4) (y5 + 1) g _ h
def f_X12_workOut_83 (k12 : Int32 → Int32 → Int32 → Int32 → zSg → Option (Int32 × zSg)) (y1 : Int32) (y3 : Int32) (y4 : Int32) (y5 : Int32) (s0 : Int32) (s1 : Int32) (g : zSg) : Option (Int32 × zSg) := (if zib s1 80 = true then f_X12_workOut_165 k12 (y1) (y3) (y4 + 1) (y5) (gsI g (536) (ix s1) s0) else none)
set_option maxRecDepth 100000 in
set_option maxHeartbeats 4000000 in
theorem p_X12_workOut_83 {sc : zSc} {hp : zHp} {d : Nat} (hD : 3 ≤ d) (k12 : Int32 → Int32 → Int32 → Int32 → zSg → Option (Int32 × zSg)) (hk12 : ∀ (y1 : Int32) (y3 : Int32) (y4 : Int32) (y5 : Int32) (g : zSg) (r : Int32 × zSg), k12 y1 y3 y4 y5 g = some r → zG d sc hp (zcd zM_X12_workOut) 12 [some (.ref 526), some (.int y1), none, some (.int y3), some (.int y4), some (.int y5)] [] (gm g) ((some (.int r.1)), gm r.2)) (y1 : Int32) (y3 : Int32) (y4 : Int32) (y5 : Int32) (s0 : Int32) (s1 : Int32) (g : zSg) (r : Int32 × zSg) (h : f_X12_workOut_83 k12 y1 y3 y4 y5 s0 s1 g = some r) : zG d sc hp (zcd zM_X12_workOut) 83 [some (.ref 526), some (.int y1), none, some (.int y3), some (.int y4), some (.int y5)] [.int s0, .int s1, .ref 536] (gm g) ((some (.int r.1)), gm r.2) := by
  obtain ⟨d, rfl⟩ : ∃ d', d = d' + 1 := ⟨d - 1, by omega⟩
  unfold f_X12_workOut_83 at h
  by_cases c1 : zib s1 80 = true
  case neg => exact nomatch ((if_neg c1).symm.trans h)
  replace h := (if_pos c1).symm.trans h
  refine g_iast rfl (a := 536) rfl c1 ?_
  refine g_run 2 (pc' := 165) (L' := [some (.ref 526), some (.int y1), none, some (.int y3), some (.int ((y4 + 1))), some (.int y5)]) (S' := []) (M' := gm (gsI g (536) (ix s1) s0)) rfl ?_
  exact p_X12_workOut_165 hD k12 hk12 (y1) (y3) (y4 + 1) (y5) (gsI g (536) (ix s1) s0) _ h
def f_X12_workOut_45 (k12 : Int32 → Int32 → Int32 → Int32 → zSg → Option (Int32 × zSg)) (y1 : Int32) (y3 : Int32) (y4 : Int32) (y5 : Int32) (g : zSg) : Option (Int32 × zSg) := (if zib y5 2600 = true then (if ¬ (gI g 528 (ix y5)) = 0 then (if zib y5 2600 = true then (if zib (gI g 529 (ix y5)) 6 = true then f_X12_workOut_83 k12 (y1) (y3) (y4) (y5) (gI g 535 (ix (gI g 529 (ix y5)))) (y4) g else none) else none) else (if zib y5 2600 = true then f_X12_workOut_83 k12 (y1) (y3) (y4) (y5) (gI g 529 (ix y5)) (y4) g else none)) else none)
set_option maxRecDepth 100000 in
set_option maxHeartbeats 4000000 in
theorem p_X12_workOut_45 {sc : zSc} {hp : zHp} {d : Nat} (hD : 3 ≤ d) (k12 : Int32 → Int32 → Int32 → Int32 → zSg → Option (Int32 × zSg)) (hk12 : ∀ (y1 : Int32) (y3 : Int32) (y4 : Int32) (y5 : Int32) (g : zSg) (r : Int32 × zSg), k12 y1 y3 y4 y5 g = some r → zG d sc hp (zcd zM_X12_workOut) 12 [some (.ref 526), some (.int y1), none, some (.int y3), some (.int y4), some (.int y5)] [] (gm g) ((some (.int r.1)), gm r.2)) (y1 : Int32) (y3 : Int32) (y4 : Int32) (y5 : Int32) (g : zSg) (r : Int32 × zSg) (h : f_X12_workOut_45 k12 y1 y3 y4 y5 g = some r) : zG d sc hp (zcd zM_X12_workOut) 45 [some (.ref 526), some (.int y1), none, some (.int y3), some (.int y4), some (.int y5)] [] (gm g) ((some (.int r.1)), gm r.2) := by
  obtain ⟨d, rfl⟩ : ∃ d', d = d' + 1 := ⟨d - 1, by omega⟩
  unfold f_X12_workOut_45 at h
  refine g_run 6 (pc' := 57) (L' := [some (.ref 526), some (.int y1), none, some (.int y3), some (.int y4), some (.int y5)]) (S' := [.int y5, .ref 528, .int y4, .ref 536]) (M' := gm g) rfl ?_
  by_cases c1 : zib y5 2600 = true
  case neg => exact nomatch ((if_neg c1).symm.trans h)
  replace h := (if_pos c1).symm.trans h
  refine g_iald rfl (a := 528) rfl c1 ?_
  refine g_if (¬ (gI g 528 (ix y5)) = 0) rfl (t := 71) rfl rfl (fun c2 => ?_) (fun c2 => ?_)
  · replace h := (if_pos c2).symm.trans h
    refine g_run 5 (pc' := 81) (L' := [some (.ref 526), some (.int y1), none, some (.int y3), some (.int y4), some (.int y5)]) (S' := [.int y5, .ref 529, .ref 535, .int y4, .ref 536]) (M' := gm g) rfl ?_
    by_cases c3 : zib y5 2600 = true
    case neg => exact nomatch ((if_neg c3).symm.trans h)
    replace h := (if_pos c3).symm.trans h
    refine g_iald rfl (a := 529) rfl c3 ?_
    by_cases c4 : zib (gI g 529 (ix y5)) 6 = true
    case neg => exact nomatch ((if_neg c4).symm.trans h)
    replace h := (if_pos c4).symm.trans h
    refine g_iald rfl (a := 535) rfl c4 ?_
    exact p_X12_workOut_83 hD k12 hk12 (y1) (y3) (y4) (y5) (gI g 535 (ix (gI g 529 (ix y5)))) (y4) g _ h
  · replace h := (if_neg c2).symm.trans h
    refine g_run 3 (pc' := 67) (L' := [some (.ref 526), some (.int y1), none, some (.int y3), some (.int y4), some (.int y5)]) (S' := [.int y5, .ref 529, .int y4, .ref 536]) (M' := gm g) rfl ?_
    by_cases c5 : zib y5 2600 = true
    case neg => exact nomatch ((if_neg c5).symm.trans h)
    replace h := (if_pos c5).symm.trans h
    refine g_iald rfl (a := 529) rfl c5 ?_
    refine g_run 1 (pc' := 83) (L' := [some (.ref 526), some (.int y1), none, some (.int y3), some (.int y4), some (.int y5)]) (S' := [.int ((gI g 529 (ix y5))), .int y4, .ref 536]) (M' := gm g) rfl ?_
    exact p_X12_workOut_83 hD k12 hk12 (y1) (y3) (y4) (y5) (gI g 529 (ix y5)) (y4) g _ h
def fb_X12_workOut_12 (kk : Int32 → Int32 → Int32 → Int32 → zSg → Option (Int32 × zSg)) (y1 : Int32) (y3 : Int32) (y4 : Int32) (y5 : Int32) (g : zSg) : Option (Int32 × zSg) := (if ((520 * y1) + y3) ≤ y5 then f_X12_workOut_171 g else (if zib y5 2600 = true then (if (gI g 528 (ix y5)) = 0 then f_X12_workOut_45 kk (y1) (y3) (y4) (y5) g else (if zib y5 2600 = true then (if ¬ (gI g 528 (ix y5)) = 1 then (if zib y5 2600 = true then (if ¬ (gI g 528 (ix y5)) = 9 then (if zib y5 2600 = true then (if zib ((y4 + (-1)) - 1) 80 = true then (if zib (y4 + (-1)) 80 = true then (zB (f_X12_worked (gI g 528 (ix y5)) (((gI g 536 (ix ((y4 + (-1)) - 1)))).toInt64) (((gI g 536 (ix (y4 + (-1))))).toInt64) g) (fun v11 g12 => (if zib ((y4 + (-1)) - 1) 80 = true then f_X12_workOut_165 kk (y1) (y3) (y4 + (-1)) (y5) (gsI g12 (536) (ix ((y4 + (-1)) - 1)) v11) else none))) else none) else none) else none) else (if zib (y4 - 1) 80 = true then (if zib (y4 - 1) 80 = true then f_X12_workOut_165 kk (y1) (y3) (y4) (y5) (gsI g (536) (ix (y4 - 1)) (1 - (gI g 536 (ix (y4 - 1))))) else none) else none)) else none) else f_X12_workOut_45 kk (y1) (y3) (y4) (y5) g) else none)) else none))
def f_X12_workOut_12 : Nat → Int32 → Int32 → Int32 → Int32 → zSg → Option (Int32 × zSg)
  | 0, _, _, _, _, _ => none
  | n + 1, y1, y3, y4, y5, g => fb_X12_workOut_12 (f_X12_workOut_12 n) y1 y3 y4 y5 g
set_option maxRecDepth 100000 in
set_option maxHeartbeats 4000000 in
theorem p_X12_workOut_12 {sc : zSc} {hp : zHp} {d : Nat} (hD : 3 ≤ d) : ∀ (n : Nat) (y1 : Int32) (y3 : Int32) (y4 : Int32) (y5 : Int32) (g : zSg) (r : Int32 × zSg), f_X12_workOut_12 n y1 y3 y4 y5 g = some r → zG d sc hp (zcd zM_X12_workOut) 12 [some (.ref 526), some (.int y1), none, some (.int y3), some (.int y4), some (.int y5)] [] (gm g) ((some (.int r.1)), gm r.2) := by
  obtain ⟨d, rfl⟩ : ∃ d', d = d' + 1 := ⟨d - 1, by omega⟩
  intro n
  induction n with
  | zero => intro y1 y3 y4 y5 g r h; cases h
  | succ n ih =>
    intro y1 y3 y4 y5 g r h
    replace h : fb_X12_workOut_12 (f_X12_workOut_12 n) y1 y3 y4 y5 g = some r := h
    unfold fb_X12_workOut_12 at h
    refine g_run 6 (pc' := 21) (L' := [some (.ref 526), some (.int y1), none, some (.int y3), some (.int y4), some (.int y5)]) (S' := [.int (((520 * y1) + y3)), .int y5]) (M' := gm g) rfl ?_
    refine g_icmp (((520 * y1) + y3) ≤ y5) rfl (t := 171) rfl rfl (fun c1 => ?_) (fun c1 => ?_)
    · replace h := (if_pos c1).symm.trans h
      refine g_forget (L' := [some (.ref 526), none, none, none, none, none]) (And.intro rfl True.intro) ?_
      exact p_X12_workOut_171 hD g _ h
    · replace h := (if_neg c1).symm.trans h
      refine g_run 3 (pc' := 30) (L' := [some (.ref 526), some (.int y1), none, some (.int y3), some (.int y4), some (.int y5)]) (S' := [.int y5, .ref 528]) (M' := gm g) rfl ?_
      by_cases c2 : zib y5 2600 = true
      case neg => exact nomatch ((if_neg c2).symm.trans h)
      replace h := (if_pos c2).symm.trans h
      refine g_iald rfl (a := 528) rfl c2 ?_
      refine g_if ((gI g 528 (ix y5)) = 0) rfl (t := 45) rfl rfl (fun c3 => ?_) (fun c3 => ?_)
      · replace h := (if_pos c3).symm.trans h
        exact p_X12_workOut_45 hD (f_X12_workOut_12 n) ih (y1) (y3) (y4) (y5) g _ h
      · replace h := (if_neg c3).symm.trans h
        refine g_run 3 (pc' := 40) (L' := [some (.ref 526), some (.int y1), none, some (.int y3), some (.int y4), some (.int y5)]) (S' := [.int y5, .ref 528]) (M' := gm g) rfl ?_
        by_cases c4 : zib y5 2600 = true
        case neg => exact nomatch ((if_neg c4).symm.trans h)
        replace h := (if_pos c4).symm.trans h
        refine g_iald rfl (a := 528) rfl c4 ?_
        refine g_run 1 (pc' := 42) (L' := [some (.ref 526), some (.int y1), none, some (.int y3), some (.int y4), some (.int y5)]) (S' := [.int 1, .int ((gI g 528 (ix y5)))]) (M' := gm g) rfl ?_
        refine g_icmp (¬ (gI g 528 (ix y5)) = 1) rfl (t := 90) rfl rfl (fun c5 => ?_) (fun c5 => ?_)
        · replace h := (if_pos c5).symm.trans h
          refine g_run 3 (pc' := 96) (L' := [some (.ref 526), some (.int y1), none, some (.int y3), some (.int y4), some (.int y5)]) (S' := [.int y5, .ref 528]) (M' := gm g) rfl ?_
          by_cases c6 : zib y5 2600 = true
          case neg => exact nomatch ((if_neg c6).symm.trans h)
          replace h := (if_pos c6).symm.trans h
          refine g_iald rfl (a := 528) rfl c6 ?_
          refine g_run 1 (pc' := 99) (L' := [some (.ref 526), some (.int y1), none, some (.int y3), some (.int y4), some (.int y5)]) (S' := [.int 9, .int ((gI g 528 (ix y5)))]) (M' := gm g) rfl ?_
          refine g_icmp (¬ (gI g 528 (ix y5)) = 9) rfl (t := 125) rfl rfl (fun c7 => ?_) (fun c7 => ?_)
          · replace h := (if_pos c7).symm.trans h
            refine g_run 9 (pc' := 142) (L' := [some (.ref 526), some (.int y1), none, some (.int y3), some (.int ((y4 + (-1)))), some (.int y5)]) (S' := [.int y5, .ref 528, .int (((y4 + (-1)) - 1)), .ref 536]) (M' := gm g) rfl ?_
            by_cases c8 : zib y5 2600 = true
            case neg => exact nomatch ((if_neg c8).symm.trans h)
            replace h := (if_pos c8).symm.trans h
            refine g_iald rfl (a := 528) rfl c8 ?_
            refine g_run 5 (pc' := 151) (L' := [some (.ref 526), some (.int y1), none, some (.int y3), some (.int ((y4 + (-1)))), some (.int y5)]) (S' := [.int (((y4 + (-1)) - 1)), .ref 536, .int ((gI g 528 (ix y5))), .int (((y4 + (-1)) - 1)), .ref 536]) (M' := gm g) rfl ?_
            by_cases c9 : zib ((y4 + (-1)) - 1) 80 = true
            case neg => exact nomatch ((if_neg c9).symm.trans h)
            replace h := (if_pos c9).symm.trans h
            refine g_iald rfl (a := 536) rfl c9 ?_
            refine g_run 4 (pc' := 159) (L' := [some (.ref 526), some (.int y1), none, some (.int y3), some (.int ((y4 + (-1)))), some (.int y5)]) (S' := [.int ((y4 + (-1))), .ref 536, .long (((gI g 536 (ix ((y4 + (-1)) - 1)))).toInt64), .int ((gI g 528 (ix y5))), .int (((y4 + (-1)) - 1)), .ref 536]) (M' := gm g) rfl ?_
            by_cases c10 : zib (y4 + (-1)) 80 = true
            case neg => exact nomatch ((if_neg c10).symm.trans h)
            replace h := (if_pos c10).symm.trans h
            refine g_iald rfl (a := 536) rfl c10 ?_
            refine g_run 1 (pc' := 161) (L' := [some (.ref 526), some (.int y1), none, some (.int y3), some (.int ((y4 + (-1)))), some (.int y5)]) (S' := [.long (((gI g 536 (ix (y4 + (-1))))).toInt64), .long (((gI g 536 (ix ((y4 + (-1)) - 1)))).toInt64), .int ((gI g 528 (ix y5))), .int (((y4 + (-1)) - 1)), .ref 536]) (M' := gm g) rfl ?_
            replace h := zB_of h
            obtain ⟨v11, g12, e13, h⟩ := h
            refine g_inv2 (kd := 0) (p_X12_worked  e13) rfl rfl rfl (by decide) rfl rfl rfl rfl (by omega) (pc' := 164) rfl (S' := [.int v11, .int (((y4 + (-1)) - 1)), .ref 536]) rfl ?_
            by_cases c14 : zib ((y4 + (-1)) - 1) 80 = true
            case neg => exact nomatch ((if_neg c14).symm.trans h)
            replace h := (if_pos c14).symm.trans h
            refine g_iast rfl (a := 536) rfl c14 ?_
            exact p_X12_workOut_165 hD (f_X12_workOut_12 n) ih (y1) (y3) (y4 + (-1)) (y5) (gsI g12 (536) (ix ((y4 + (-1)) - 1)) v11) _ h
          · replace h := (if_neg c7).symm.trans h
            refine g_run 11 (pc' := 119) (L' := [some (.ref 526), some (.int y1), none, some (.int y3), some (.int y4), some (.int y5)]) (S' := [.int ((y4 - 1)), .ref 536, .int 1, .int ((y4 - 1)), .ref 536]) (M' := gm g) rfl ?_
            by_cases c15 : zib (y4 - 1) 80 = true
            case neg => exact nomatch ((if_neg c15).symm.trans h)
            replace h := (if_pos c15).symm.trans h
            refine g_iald rfl (a := 536) rfl c15 ?_
            refine g_run 1 (pc' := 121) (L' := [some (.ref 526), some (.int y1), none, some (.int y3), some (.int y4), some (.int y5)]) (S' := [.int ((1 - (gI g 536 (ix (y4 - 1))))), .int ((y4 - 1)), .ref 536]) (M' := gm g) rfl ?_
            by_cases c16 : zib (y4 - 1) 80 = true
            case neg => exact nomatch ((if_neg c16).symm.trans h)
            replace h := (if_pos c16).symm.trans h
            refine g_iast rfl (a := 536) rfl c16 ?_
            refine g_run 1 (pc' := 165) (L' := [some (.ref 526), some (.int y1), none, some (.int y3), some (.int y4), some (.int y5)]) (S' := []) (M' := gm (gsI g (536) (ix (y4 - 1)) (1 - (gI g 536 (ix (y4 - 1)))))) rfl ?_
            exact p_X12_workOut_165 hD (f_X12_workOut_12 n) ih (y1) (y3) (y4) (y5) (gsI g (536) (ix (y4 - 1)) (1 - (gI g 536 (ix (y4 - 1))))) _ h
        · replace h := (if_neg c5).symm.trans h
          exact p_X12_workOut_45 hD (f_X12_workOut_12 n) ih (y1) (y3) (y4) (y5) g _ h
def f_X12_workOut (x1 : Int32) (x2 : Int32) (x3 : Int32) (g : zSg) : Option (Int32 × zSg) := f_X12_workOut_12 zFu (x1) (x3) (0) ((520 * x1) + x2) g
set_option maxRecDepth 100000 in
set_option maxHeartbeats 4000000 in
theorem p_X12_workOut {sc : zSc} {hp : zHp} {x1 : Int32} {x2 : Int32} {x3 : Int32} {g : zSg} {r : Int32 × zSg} (h : f_X12_workOut x1 x2 x3 g = some r) : zRn sc hp 3 zM_X12_workOut [.ref 526, .int x1, .int x2, .int x3] (gm g) (some (.int r.1)) (gm r.2) := by
  intro d hD
  obtain ⟨d, rfl⟩ : ∃ d', d = d' + 1 := ⟨d - 1, by omega⟩
  show zG _ sc hp (zcd zM_X12_workOut) 0 [some (.ref 526), some (.int x1), some (.int x2), some (.int x3), none, none] [] (gm g) _
  unfold f_X12_workOut at h
  refine g_run 8 (pc' := 12) (L' := [some (.ref 526), some (.int x1), some (.int x2), some (.int x3), some (.int 0), some (.int (((520 * x1) + x2)))]) (S' := []) (M' := gm g) rfl ?_
  refine g_forget (L' := [some (.ref 526), some (.int x1), none, some (.int x3), some (.int 0), some (.int (((520 * x1) + x2)))]) (And.intro rfl (And.intro rfl (And.intro rfl (And.intro rfl (And.intro rfl True.intro))))) ?_
  exact p_X12_workOut_12 hD zFu (x1) (x3) (0) ((520 * x1) + x2) g _ h
def f_X12_worthOf_57 (y1 : Int32) (y2 : Int32) (g : zSg) : Option (Int32 × zSg) := (if zib y2 700 = true then (if zib y2 700 = true then (zB (f_X12_workOut y1 (gI g 533 (ix y2)) (gI g 534 (ix y2)) g) (fun v3 g4 => some (v3, g4))) else none) else none)
set_option maxRecDepth 100000 in
set_option maxHeartbeats 4000000 in
theorem p_X12_worthOf_57 {sc : zSc} {hp : zHp} {d : Nat} (hD : 4 ≤ d) (y1 : Int32) (y2 : Int32) (g : zSg) (r : Int32 × zSg) (h : f_X12_worthOf_57 y1 y2 g = some r) : zG d sc hp (zcd zM_X12_worthOf) 57 [some (.ref 526), some (.int y1), some (.int y2)] [] (gm g) ((some (.int r.1)), gm r.2) := by
  obtain ⟨d, rfl⟩ : ∃ d', d = d' + 1 := ⟨d - 1, by omega⟩
  unfold f_X12_worthOf_57 at h
  refine g_run 5 (pc' := 64) (L' := [some (.ref 526), some (.int y1), some (.int y2)]) (S' := [.int y2, .ref 533, .int y1, .ref 526]) (M' := gm g) rfl ?_
  by_cases c1 : zib y2 700 = true
  case neg => exact nomatch ((if_neg c1).symm.trans h)
  replace h := (if_pos c1).symm.trans h
  refine g_iald rfl (a := 533) rfl c1 ?_
  refine g_run 3 (pc' := 70) (L' := [some (.ref 526), some (.int y1), some (.int y2)]) (S' := [.int y2, .ref 534, .int ((gI g 533 (ix y2))), .int y1, .ref 526]) (M' := gm g) rfl ?_
  by_cases c2 : zib y2 700 = true
  case neg => exact nomatch ((if_neg c2).symm.trans h)
  replace h := (if_pos c2).symm.trans h
  refine g_iald rfl (a := 534) rfl c2 ?_
  replace h := zB_of h
  obtain ⟨v3, g4, e5, h⟩ := h
  refine g_inv2 (kd := 1) (p_X12_workOut  e5) rfl rfl rfl (by decide) rfl rfl rfl rfl (by omega) (pc' := 74) rfl (S' := [.int v3]) rfl ?_
  cases h
  exact g_ret rfl rfl rfl rfl
def fb_X12_worthOf_6 (kk : Int32 → Int32 → zSg → Option (Int32 × zSg)) (y1 : Int32) (y2 : Int32) (g : zSg) : Option (Int32 × zSg) := (if zib y1 5 = true then (if ((140 * y1) + (gI g 531 (ix y1))) ≤ y2 then some (0, g) else (if zib y2 700 = true then (if zib y2 700 = true then (if (gI g 532 (ix y2)) = (gI g 533 (ix y2)) then f_X12_worthOf_57 (y1) (y2) g else (if zib y2 700 = true then (if zib y2 700 = true then (zB (f_X12_workOut y1 (gI g 532 (ix y2)) (gI g 533 (ix y2)) g) (fun v8 g9 => (if v8 = 0 then kk (y1) (y2 + 1) g9 else f_X12_worthOf_57 (y1) (y2) g9))) else none) else none)) else none) else none)) else none)
def f_X12_worthOf_6 : Nat → Int32 → Int32 → zSg → Option (Int32 × zSg)
  | 0, _, _, _ => none
  | n + 1, y1, y2, g => fb_X12_worthOf_6 (f_X12_worthOf_6 n) y1 y2 g
set_option maxRecDepth 100000 in
set_option maxHeartbeats 4000000 in
theorem p_X12_worthOf_6 {sc : zSc} {hp : zHp} {d : Nat} (hD : 4 ≤ d) : ∀ (n : Nat) (y1 : Int32) (y2 : Int32) (g : zSg) (r : Int32 × zSg), f_X12_worthOf_6 n y1 y2 g = some r → zG d sc hp (zcd zM_X12_worthOf) 6 [some (.ref 526), some (.int y1), some (.int y2)] [] (gm g) ((some (.int r.1)), gm r.2) := by
  obtain ⟨d, rfl⟩ : ∃ d', d = d' + 1 := ⟨d - 1, by omega⟩
  intro n
  induction n with
  | zero => intro y1 y2 g r h; cases h
  | succ n ih =>
    intro y1 y2 g r h
    replace h : fb_X12_worthOf_6 (f_X12_worthOf_6 n) y1 y2 g = some r := h
    unfold fb_X12_worthOf_6 at h
    refine g_run 7 (pc' := 17) (L' := [some (.ref 526), some (.int y1), some (.int y2)]) (S' := [.int y1, .ref 531, .int ((140 * y1)), .int y2]) (M' := gm g) rfl ?_
    by_cases c1 : zib y1 5 = true
    case neg => exact nomatch ((if_neg c1).symm.trans h)
    replace h := (if_pos c1).symm.trans h
    refine g_iald rfl (a := 531) rfl c1 ?_
    refine g_run 1 (pc' := 19) (L' := [some (.ref 526), some (.int y1), some (.int y2)]) (S' := [.int (((140 * y1) + (gI g 531 (ix y1)))), .int y2]) (M' := gm g) rfl ?_
    refine g_icmp (((140 * y1) + (gI g 531 (ix y1))) ≤ y2) rfl (t := 81) rfl rfl (fun c2 => ?_) (fun c2 => ?_)
    · replace h := (if_pos c2).symm.trans h
      refine g_run 1 (pc' := 82) (L' := [some (.ref 526), some (.int y1), some (.int y2)]) (S' := [.int 0]) (M' := gm g) rfl ?_
      cases h
      exact g_ret rfl rfl rfl rfl
    · replace h := (if_neg c2).symm.trans h
      refine g_run 3 (pc' := 27) (L' := [some (.ref 526), some (.int y1), some (.int y2)]) (S' := [.int y2, .ref 532]) (M' := gm g) rfl ?_
      by_cases c3 : zib y2 700 = true
      case neg => exact nomatch ((if_neg c3).symm.trans h)
      replace h := (if_pos c3).symm.trans h
      refine g_iald rfl (a := 532) rfl c3 ?_
      refine g_run 3 (pc' := 33) (L' := [some (.ref 526), some (.int y1), some (.int y2)]) (S' := [.int y2, .ref 533, .int ((gI g 532 (ix y2)))]) (M' := gm g) rfl ?_
      by_cases c4 : zib y2 700 = true
      case neg => exact nomatch ((if_neg c4).symm.trans h)
      replace h := (if_pos c4).symm.trans h
      refine g_iald rfl (a := 533) rfl c4 ?_
      refine g_icmp ((gI g 532 (ix y2)) = (gI g 533 (ix y2))) rfl (t := 57) rfl rfl (fun c5 => ?_) (fun c5 => ?_)
      · replace h := (if_pos c5).symm.trans h
        exact p_X12_worthOf_57 hD (y1) (y2) g _ h
      · replace h := (if_neg c5).symm.trans h
        refine g_run 5 (pc' := 44) (L' := [some (.ref 526), some (.int y1), some (.int y2)]) (S' := [.int y2, .ref 532, .int y1, .ref 526]) (M' := gm g) rfl ?_
        by_cases c6 : zib y2 700 = true
        case neg => exact nomatch ((if_neg c6).symm.trans h)
        replace h := (if_pos c6).symm.trans h
        refine g_iald rfl (a := 532) rfl c6 ?_
        refine g_run 3 (pc' := 50) (L' := [some (.ref 526), some (.int y1), some (.int y2)]) (S' := [.int y2, .ref 533, .int ((gI g 532 (ix y2))), .int y1, .ref 526]) (M' := gm g) rfl ?_
        by_cases c7 : zib y2 700 = true
        case neg => exact nomatch ((if_neg c7).symm.trans h)
        replace h := (if_pos c7).symm.trans h
        refine g_iald rfl (a := 533) rfl c7 ?_
        replace h := zB_of h
        obtain ⟨v8, g9, e10, h⟩ := h
        refine g_inv2 (kd := 1) (p_X12_workOut  e10) rfl rfl rfl (by decide) rfl rfl rfl rfl (by omega) (pc' := 54) rfl (S' := [.int v8]) rfl ?_
        refine g_if (v8 = 0) rfl (t := 75) rfl rfl (fun c11 => ?_) (fun c11 => ?_)
        · replace h := (if_pos c11).symm.trans h
          refine g_run 2 (pc' := 6) (L' := [some (.ref 526), some (.int y1), some (.int ((y2 + 1)))]) (S' := []) (M' := gm g9) rfl ?_
          exact ih (y1) (y2 + 1) g9 _ h
        · replace h := (if_neg c11).symm.trans h
          exact p_X12_worthOf_57 hD (y1) (y2) g9 _ h
def f_X12_worthOf (x1 : Int32) (g : zSg) : Option (Int32 × zSg) := f_X12_worthOf_6 zFu (x1) (140 * x1) g
set_option maxRecDepth 100000 in
set_option maxHeartbeats 4000000 in
theorem p_X12_worthOf {sc : zSc} {hp : zHp} {x1 : Int32} {g : zSg} {r : Int32 × zSg} (h : f_X12_worthOf x1 g = some r) : zRn sc hp 4 zM_X12_worthOf [.ref 526, .int x1] (gm g) (some (.int r.1)) (gm r.2) := by
  intro d hD
  obtain ⟨d, rfl⟩ : ∃ d', d = d' + 1 := ⟨d - 1, by omega⟩
  show zG _ sc hp (zcd zM_X12_worthOf) 0 [some (.ref 526), some (.int x1), none] [] (gm g) _
  unfold f_X12_worthOf at h
  refine g_run 4 (pc' := 6) (L' := [some (.ref 526), some (.int x1), some (.int ((140 * x1)))]) (S' := []) (M' := gm g) rfl ?_
  exact p_X12_worthOf_6 hD zFu (x1) (140 * x1) g _ h
def f_X12_number_67 (y1 : Int32) (y2 : Int32) (y3 : Int32) (g : zSg) : Option (Int32 × zSg) := (zB (f_X12_here g) (fun v1 g2 => (zB (f_X12_isDigit v1 g2) (fun v4 g5 => (if v4 = 0 then (zB (f_X12_in y3 y1 y2 g5) (fun v8 g9 => (if ¬ v8 = 0 then some (y3, g9) else (zB (f_X12_bad (gsI g9 526 3 ((gI g9 526 3) - 1))) (fun v12 g13 => some (y3, g13)))))) else (zB (f_X12_bad g5) (fun v15 g16 => some (y3, g16))))))))
set_option maxRecDepth 100000 in
set_option maxHeartbeats 4000000 in
theorem p_X12_number_67 {sc : zSc} {hp : zHp} {d : Nat} (hD : 2 ≤ d) (y1 : Int32) (y2 : Int32) (y3 : Int32) (g : zSg) (r : Int32 × zSg) (h : f_X12_number_67 y1 y2 y3 g = some r) : zG d sc hp (zcd zM_X12_number) 67 [some (.ref 526), some (.int y1), some (.int y2), some (.int y3)] [] (gm g) ((some (.int r.1)), gm r.2) := by
  obtain ⟨d, rfl⟩ : ∃ d', d = d' + 1 := ⟨d - 1, by omega⟩
  unfold f_X12_number_67 at h
  refine g_run 1 (pc' := 68) (L' := [some (.ref 526), some (.int y1), some (.int y2), some (.int y3)]) (S' := [.ref 526]) (M' := gm g) rfl ?_
  replace h := zB_of h
  obtain ⟨v1, g2, e3, h⟩ := h
  refine g_inv2 (kd := 1) (p_X12_here  e3) rfl rfl rfl (by decide) rfl rfl rfl rfl (by omega) (pc' := 71) rfl (S' := [.int v1]) rfl ?_
  replace h := zB_of h
  obtain ⟨v4, g5, e6, h⟩ := h
  refine g_inv2 (kd := 0) (p_X12_isDigit  e6) rfl rfl rfl (by decide) rfl rfl rfl rfl (by omega) (pc' := 74) rfl (S' := [.int v4]) rfl ?_
  refine g_if (v4 = 0) rfl (t := 84) rfl rfl (fun c7 => ?_) (fun c7 => ?_)
  · replace h := (if_pos c7).symm.trans h
    refine g_run 3 (pc' := 87) (L' := [some (.ref 526), some (.int y1), some (.int y2), some (.int y3)]) (S' := [.int y2, .int y1, .int y3]) (M' := gm g5) rfl ?_
    replace h := zB_of h
    obtain ⟨v8, g9, e10, h⟩ := h
    refine g_inv2 (kd := 0) (p_X12_in  e10) rfl rfl rfl (by decide) rfl rfl rfl rfl (by omega) (pc' := 90) rfl (S' := [.int v8]) rfl ?_
    refine g_if (¬ v8 = 0) rfl (t := 107) rfl rfl (fun c11 => ?_) (fun c11 => ?_)
    · replace h := (if_pos c11).symm.trans h
      refine g_run 1 (pc' := 108) (L' := [some (.ref 526), some (.int y1), some (.int y2), some (.int y3)]) (S' := [.int y3]) (M' := gm g9) rfl ?_
      cases h
      exact g_ret rfl rfl rfl rfl
    · replace h := (if_neg c11).symm.trans h
      refine g_run 7 (pc' := 104) (L' := [some (.ref 526), some (.int y1), some (.int y2), some (.int y3)]) (S' := [.ref 526]) (M' := gm (gsI g9 526 3 ((gI g9 526 3) - 1))) rfl ?_
      replace h := zB_of h
      obtain ⟨v12, g13, e14, h⟩ := h
      refine g_inv2 (kd := 1) (p_X12_bad  e14) rfl rfl rfl (by decide) rfl rfl rfl rfl (by omega) (pc' := 107) rfl (S' := []) rfl ?_
      refine g_run 1 (pc' := 108) (L' := [some (.ref 526), some (.int y1), some (.int y2), some (.int y3)]) (S' := [.int y3]) (M' := gm g13) rfl ?_
      cases h
      exact g_ret rfl rfl rfl rfl
  · replace h := (if_neg c7).symm.trans h
    refine g_run 1 (pc' := 78) (L' := [some (.ref 526), some (.int y1), some (.int y2), some (.int y3)]) (S' := [.ref 526]) (M' := gm g5) rfl ?_
    replace h := zB_of h
    obtain ⟨v15, g16, e17, h⟩ := h
    refine g_inv2 (kd := 1) (p_X12_bad  e17) rfl rfl rfl (by decide) rfl rfl rfl rfl (by omega) (pc' := 81) rfl (S' := []) rfl ?_
    refine g_run 2 (pc' := 108) (L' := [some (.ref 526), some (.int y1), some (.int y2), some (.int y3)]) (S' := [.int y3]) (M' := gm g16) rfl ?_
    cases h
    exact g_ret rfl rfl rfl rfl
def f_X12_number (x1 : Int32) (x2 : Int32) (g : zSg) : Option (Int32 × zSg) := (zB (f_X12_look g) (fun v1 g2 => (zB (f_X12_isDigit v1 g2) (fun v4 g5 => (if ¬ v4 = 0 then (zB (f_X12_here g5) (fun v8 g9 => (zB (f_X12_here (gsI g9 526 3 ((gI g9 526 3) + 1))) (fun v11 g12 => (zB (f_X12_isDigit v11 g12) (fun v14 g15 => (if v14 = 0 then f_X12_number_67 (x1) (x2) (v8 - 48) g15 else (zB (f_X12_here g15) (fun v18 g19 => f_X12_number_67 (x1) (x2) (((10 * (v8 - 48)) + v18) - 48) (gsI g19 526 3 ((gI g19 526 3) + 1))))))))))) else (zB (f_X12_bad g5) (fun v21 g22 => some (x1, g22))))))))
set_option maxRecDepth 100000 in
set_option maxHeartbeats 4000000 in
theorem p_X12_number {sc : zSc} {hp : zHp} {x1 : Int32} {x2 : Int32} {g : zSg} {r : Int32 × zSg} (h : f_X12_number x1 x2 g = some r) : zRn sc hp 2 zM_X12_number [.ref 526, .int x1, .int x2] (gm g) (some (.int r.1)) (gm r.2) := by
  intro d hD
  obtain ⟨d, rfl⟩ : ∃ d', d = d' + 1 := ⟨d - 1, by omega⟩
  show zG _ sc hp (zcd zM_X12_number) 0 [some (.ref 526), some (.int x1), some (.int x2), none] [] (gm g) _
  unfold f_X12_number at h
  refine g_run 1 (pc' := 1) (L' := [some (.ref 526), some (.int x1), some (.int x2), none]) (S' := [.ref 526]) (M' := gm g) rfl ?_
  replace h := zB_of h
  obtain ⟨v1, g2, e3, h⟩ := h
  refine g_inv2 (kd := 1) (p_X12_look  e3) rfl rfl rfl (by decide) rfl rfl rfl rfl (by omega) (pc' := 4) rfl (S' := [.int v1]) rfl ?_
  replace h := zB_of h
  obtain ⟨v4, g5, e6, h⟩ := h
  refine g_inv2 (kd := 0) (p_X12_isDigit  e6) rfl rfl rfl (by decide) rfl rfl rfl rfl (by omega) (pc' := 7) rfl (S' := [.int v4]) rfl ?_
  refine g_if (¬ v4 = 0) rfl (t := 16) rfl rfl (fun c7 => ?_) (fun c7 => ?_)
  · replace h := (if_pos c7).symm.trans h
    refine g_run 1 (pc' := 17) (L' := [some (.ref 526), some (.int x1), some (.int x2), none]) (S' := [.ref 526]) (M' := gm g5) rfl ?_
    replace h := zB_of h
    obtain ⟨v8, g9, e10, h⟩ := h
    refine g_inv2 (kd := 1) (p_X12_here  e10) rfl rfl rfl (by decide) rfl rfl rfl rfl (by omega) (pc' := 20) rfl (S' := [.int v8]) rfl ?_
    refine g_run 10 (pc' := 35) (L' := [some (.ref 526), some (.int x1), some (.int x2), some (.int ((v8 - 48)))]) (S' := [.ref 526]) (M' := gm (gsI g9 526 3 ((gI g9 526 3) + 1))) rfl ?_
    replace h := zB_of h
    obtain ⟨v11, g12, e13, h⟩ := h
    refine g_inv2 (kd := 1) (p_X12_here  e13) rfl rfl rfl (by decide) rfl rfl rfl rfl (by omega) (pc' := 38) rfl (S' := [.int v11]) rfl ?_
    replace h := zB_of h
    obtain ⟨v14, g15, e16, h⟩ := h
    refine g_inv2 (kd := 0) (p_X12_isDigit  e16) rfl rfl rfl (by decide) rfl rfl rfl rfl (by omega) (pc' := 41) rfl (S' := [.int v14]) rfl ?_
    refine g_if (v14 = 0) rfl (t := 67) rfl rfl (fun c17 => ?_) (fun c17 => ?_)
    · replace h := (if_pos c17).symm.trans h
      exact p_X12_number_67 hD (x1) (x2) (v8 - 48) g15 _ h
    · replace h := (if_neg c17).symm.trans h
      refine g_run 4 (pc' := 49) (L' := [some (.ref 526), some (.int x1), some (.int x2), some (.int ((v8 - 48)))]) (S' := [.ref 526, .int ((10 * (v8 - 48)))]) (M' := gm g15) rfl ?_
      replace h := zB_of h
      obtain ⟨v18, g19, e20, h⟩ := h
      refine g_inv2 (kd := 1) (p_X12_here  e20) rfl rfl rfl (by decide) rfl rfl rfl rfl (by omega) (pc' := 52) rfl (S' := [.int v18, .int ((10 * (v8 - 48)))]) rfl ?_
      refine g_run 10 (pc' := 67) (L' := [some (.ref 526), some (.int x1), some (.int x2), some (.int ((((10 * (v8 - 48)) + v18) - 48)))]) (S' := []) (M' := gm (gsI g19 526 3 ((gI g19 526 3) + 1))) rfl ?_
      exact p_X12_number_67 hD (x1) (x2) (((10 * (v8 - 48)) + v18) - 48) (gsI g19 526 3 ((gI g19 526 3) + 1)) _ h
  · replace h := (if_neg c7).symm.trans h
    refine g_run 1 (pc' := 11) (L' := [some (.ref 526), some (.int x1), some (.int x2), none]) (S' := [.ref 526]) (M' := gm g5) rfl ?_
    replace h := zB_of h
    obtain ⟨v21, g22, e23, h⟩ := h
    refine g_inv2 (kd := 1) (p_X12_bad  e23) rfl rfl rfl (by decide) rfl rfl rfl rfl (by omega) (pc' := 14) rfl (S' := []) rfl ?_
    refine g_run 1 (pc' := 15) (L' := [some (.ref 526), some (.int x1), some (.int x2), none]) (S' := [.int x1]) (M' := gm g22) rfl ?_
    cases h
    exact g_ret rfl rfl rfl rfl
def f_X12_itemOf (x1 : Int32) (x2 : Int32) (g : zSg) : Option (Int32 × zSg) := (if x1 = 112 then (if ¬ x2 = 120 then (if ¬ x2 = 121 then (if ¬ x2 = 110 then some ((-1), g) else some (2, g)) else some (1, g)) else some (0, g)) else (if x1 = 115 then (if ¬ x2 = 119 then (if ¬ x2 = 104 then (if ¬ x2 = 111 then (if ¬ x2 = 107 then (if ¬ x2 = 118 then some ((-1), g) else some (4, g)) else some (3, g)) else some (2, g)) else some (1, g)) else some (0, g)) else (if ¬ x2 = 97 then (if ¬ x2 = 107 then (if ¬ x2 = 120 then (if ¬ x2 = 121 then some ((-1), g) else some (3, g)) else some (2, g)) else some (1, g)) else some (0, g))))
set_option maxRecDepth 100000 in
set_option maxHeartbeats 4000000 in
theorem p_X12_itemOf {sc : zSc} {hp : zHp} {x1 : Int32} {x2 : Int32} {g : zSg} {r : Int32 × zSg} (h : f_X12_itemOf x1 x2 g = some r) : zRn sc hp 0 zM_X12_itemOf [.int x1, .int x2] (gm g) (some (.int r.1)) (gm r.2) := by
  intro d hD
  show zG _ sc hp (zcd zM_X12_itemOf) 0 [some (.int x1), some (.int x2)] [] (gm g) _
  unfold f_X12_itemOf at h
  refine g_run 1 (pc' := 1) (L' := [some (.int x1), some (.int x2)]) (S' := [.int x1]) (M' := gm g) rfl ?_
  by_cases c1 : x1 = 112
  · replace h := (if_pos c1).symm.trans h
    refine g_swc c1 rfl rfl rfl (pc' := 80) rfl ?_
    refine g_run 2 (pc' := 83) (L' := [some (.int x1), some (.int x2)]) (S' := [.int 120, .int x2]) (M' := gm g) rfl ?_
    refine g_icmp (¬ x2 = 120) rfl (t := 90) rfl rfl (fun c2 => ?_) (fun c2 => ?_)
    · replace h := (if_pos c2).symm.trans h
      refine g_run 2 (pc' := 93) (L' := [some (.int x1), some (.int x2)]) (S' := [.int 121, .int x2]) (M' := gm g) rfl ?_
      refine g_icmp (¬ x2 = 121) rfl (t := 100) rfl rfl (fun c3 => ?_) (fun c3 => ?_)
      · replace h := (if_pos c3).symm.trans h
        refine g_run 2 (pc' := 103) (L' := [some (.int x1), some (.int x2)]) (S' := [.int 110, .int x2]) (M' := gm g) rfl ?_
        refine g_icmp (¬ x2 = 110) rfl (t := 110) rfl rfl (fun c4 => ?_) (fun c4 => ?_)
        · replace h := (if_pos c4).symm.trans h
          refine g_run 1 (pc' := 111) (L' := [some (.int x1), some (.int x2)]) (S' := [.int (-1)]) (M' := gm g) rfl ?_
          cases h
          exact g_ret rfl rfl rfl rfl
        · replace h := (if_neg c4).symm.trans h
          refine g_run 2 (pc' := 111) (L' := [some (.int x1), some (.int x2)]) (S' := [.int 2]) (M' := gm g) rfl ?_
          cases h
          exact g_ret rfl rfl rfl rfl
      · replace h := (if_neg c3).symm.trans h
        refine g_run 2 (pc' := 111) (L' := [some (.int x1), some (.int x2)]) (S' := [.int 1]) (M' := gm g) rfl ?_
        cases h
        exact g_ret rfl rfl rfl rfl
    · replace h := (if_neg c2).symm.trans h
      refine g_run 2 (pc' := 111) (L' := [some (.int x1), some (.int x2)]) (S' := [.int 0]) (M' := gm g) rfl ?_
      cases h
      exact g_ret rfl rfl rfl rfl
  replace h := (if_neg c1).symm.trans h
  by_cases c5 : x1 = 115
  · replace h := (if_pos c5).symm.trans h
    refine g_swc c5 rfl rfl rfl (pc' := 28) rfl ?_
    refine g_run 2 (pc' := 31) (L' := [some (.int x1), some (.int x2)]) (S' := [.int 119, .int x2]) (M' := gm g) rfl ?_
    refine g_icmp (¬ x2 = 119) rfl (t := 38) rfl rfl (fun c6 => ?_) (fun c6 => ?_)
    · replace h := (if_pos c6).symm.trans h
      refine g_run 2 (pc' := 41) (L' := [some (.int x1), some (.int x2)]) (S' := [.int 104, .int x2]) (M' := gm g) rfl ?_
      refine g_icmp (¬ x2 = 104) rfl (t := 48) rfl rfl (fun c7 => ?_) (fun c7 => ?_)
      · replace h := (if_pos c7).symm.trans h
        refine g_run 2 (pc' := 51) (L' := [some (.int x1), some (.int x2)]) (S' := [.int 111, .int x2]) (M' := gm g) rfl ?_
        refine g_icmp (¬ x2 = 111) rfl (t := 58) rfl rfl (fun c8 => ?_) (fun c8 => ?_)
        · replace h := (if_pos c8).symm.trans h
          refine g_run 2 (pc' := 61) (L' := [some (.int x1), some (.int x2)]) (S' := [.int 107, .int x2]) (M' := gm g) rfl ?_
          refine g_icmp (¬ x2 = 107) rfl (t := 68) rfl rfl (fun c9 => ?_) (fun c9 => ?_)
          · replace h := (if_pos c9).symm.trans h
            refine g_run 2 (pc' := 71) (L' := [some (.int x1), some (.int x2)]) (S' := [.int 118, .int x2]) (M' := gm g) rfl ?_
            refine g_icmp (¬ x2 = 118) rfl (t := 78) rfl rfl (fun c10 => ?_) (fun c10 => ?_)
            · replace h := (if_pos c10).symm.trans h
              refine g_run 1 (pc' := 79) (L' := [some (.int x1), some (.int x2)]) (S' := [.int (-1)]) (M' := gm g) rfl ?_
              cases h
              exact g_ret rfl rfl rfl rfl
            · replace h := (if_neg c10).symm.trans h
              refine g_run 2 (pc' := 79) (L' := [some (.int x1), some (.int x2)]) (S' := [.int 4]) (M' := gm g) rfl ?_
              cases h
              exact g_ret rfl rfl rfl rfl
          · replace h := (if_neg c9).symm.trans h
            refine g_run 2 (pc' := 79) (L' := [some (.int x1), some (.int x2)]) (S' := [.int 3]) (M' := gm g) rfl ?_
            cases h
            exact g_ret rfl rfl rfl rfl
        · replace h := (if_neg c8).symm.trans h
          refine g_run 2 (pc' := 79) (L' := [some (.int x1), some (.int x2)]) (S' := [.int 2]) (M' := gm g) rfl ?_
          cases h
          exact g_ret rfl rfl rfl rfl
      · replace h := (if_neg c7).symm.trans h
        refine g_run 2 (pc' := 79) (L' := [some (.int x1), some (.int x2)]) (S' := [.int 1]) (M' := gm g) rfl ?_
        cases h
        exact g_ret rfl rfl rfl rfl
    · replace h := (if_neg c6).symm.trans h
      refine g_run 2 (pc' := 79) (L' := [some (.int x1), some (.int x2)]) (S' := [.int 0]) (M' := gm g) rfl ?_
      cases h
      exact g_ret rfl rfl rfl rfl
  replace h := (if_neg c5).symm.trans h
  refine g_lsd rfl rfl (off := 111) (by show Op.lookupswitch.offset [(112, 79), (115, 27)] 111 (x1).toInt = _; rw [lv_osw (a := 112) c1 rfl]; rw [lv_osw (a := 115) c5 rfl]; rfl) (t := 112) rfl ?_
  refine g_run 2 (pc' := 115) (L' := [some (.int x1), some (.int x2)]) (S' := [.int 97, .int x2]) (M' := gm g) rfl ?_
  refine g_icmp (¬ x2 = 97) rfl (t := 122) rfl rfl (fun c11 => ?_) (fun c11 => ?_)
  · replace h := (if_pos c11).symm.trans h
    refine g_run 2 (pc' := 125) (L' := [some (.int x1), some (.int x2)]) (S' := [.int 107, .int x2]) (M' := gm g) rfl ?_
    refine g_icmp (¬ x2 = 107) rfl (t := 132) rfl rfl (fun c12 => ?_) (fun c12 => ?_)
    · replace h := (if_pos c12).symm.trans h
      refine g_run 2 (pc' := 135) (L' := [some (.int x1), some (.int x2)]) (S' := [.int 120, .int x2]) (M' := gm g) rfl ?_
      refine g_icmp (¬ x2 = 120) rfl (t := 142) rfl rfl (fun c13 => ?_) (fun c13 => ?_)
      · replace h := (if_pos c13).symm.trans h
        refine g_run 2 (pc' := 145) (L' := [some (.int x1), some (.int x2)]) (S' := [.int 121, .int x2]) (M' := gm g) rfl ?_
        refine g_icmp (¬ x2 = 121) rfl (t := 152) rfl rfl (fun c14 => ?_) (fun c14 => ?_)
        · replace h := (if_pos c14).symm.trans h
          refine g_run 1 (pc' := 153) (L' := [some (.int x1), some (.int x2)]) (S' := [.int (-1)]) (M' := gm g) rfl ?_
          cases h
          exact g_ret rfl rfl rfl rfl
        · replace h := (if_neg c14).symm.trans h
          refine g_run 2 (pc' := 153) (L' := [some (.int x1), some (.int x2)]) (S' := [.int 3]) (M' := gm g) rfl ?_
          cases h
          exact g_ret rfl rfl rfl rfl
      · replace h := (if_neg c13).symm.trans h
        refine g_run 2 (pc' := 153) (L' := [some (.int x1), some (.int x2)]) (S' := [.int 2]) (M' := gm g) rfl ?_
        cases h
        exact g_ret rfl rfl rfl rfl
    · replace h := (if_neg c12).symm.trans h
      refine g_run 2 (pc' := 153) (L' := [some (.int x1), some (.int x2)]) (S' := [.int 1]) (M' := gm g) rfl ?_
      cases h
      exact g_ret rfl rfl rfl rfl
  · replace h := (if_neg c11).symm.trans h
    refine g_run 2 (pc' := 153) (L' := [some (.int x1), some (.int x2)]) (S' := [.int 0]) (M' := gm g) rfl ?_
    cases h
    exact g_ret rfl rfl rfl rfl
def f_X12_lowest (x1 : Int32) (x2 : Int32) (g : zSg) : Option (Int32 × zSg) := (if x1 = 112 then (if ¬ x2 = 2 then some (0, g) else some (1, g)) else (if x1 = 115 then (if x2 = 0 then some (2, g) else (if ¬ x2 = 1 then some (0, g) else some (2, g))) else (if ¬ x2 = 1 then some (0, g) else some (1, g))))
set_option maxRecDepth 100000 in
set_option maxHeartbeats 4000000 in
theorem p_X12_lowest {sc : zSc} {hp : zHp} {x1 : Int32} {x2 : Int32} {g : zSg} {r : Int32 × zSg} (h : f_X12_lowest x1 x2 g = some r) : zRn sc hp 0 zM_X12_lowest [.int x1, .int x2] (gm g) (some (.int r.1)) (gm r.2) := by
  intro d hD
  show zG _ sc hp (zcd zM_X12_lowest) 0 [some (.int x1), some (.int x2)] [] (gm g) _
  unfold f_X12_lowest at h
  refine g_run 1 (pc' := 1) (L' := [some (.int x1), some (.int x2)]) (S' := [.int x1]) (M' := gm g) rfl ?_
  by_cases c1 : x1 = 112
  · replace h := (if_pos c1).symm.trans h
    refine g_swc c1 rfl rfl rfl (pc' := 43) rfl ?_
    refine g_run 2 (pc' := 45) (L' := [some (.int x1), some (.int x2)]) (S' := [.int 2, .int x2]) (M' := gm g) rfl ?_
    refine g_icmp (¬ x2 = 2) rfl (t := 52) rfl rfl (fun c2 => ?_) (fun c2 => ?_)
    · replace h := (if_pos c2).symm.trans h
      refine g_run 1 (pc' := 53) (L' := [some (.int x1), some (.int x2)]) (S' := [.int 0]) (M' := gm g) rfl ?_
      cases h
      exact g_ret rfl rfl rfl rfl
    · replace h := (if_neg c2).symm.trans h
      refine g_run 2 (pc' := 53) (L' := [some (.int x1), some (.int x2)]) (S' := [.int 1]) (M' := gm g) rfl ?_
      cases h
      exact g_ret rfl rfl rfl rfl
  replace h := (if_neg c1).symm.trans h
  by_cases c3 : x1 = 115
  · replace h := (if_pos c3).symm.trans h
    refine g_swc c3 rfl rfl rfl (pc' := 28) rfl ?_
    refine g_run 1 (pc' := 29) (L' := [some (.int x1), some (.int x2)]) (S' := [.int x2]) (M' := gm g) rfl ?_
    refine g_if (x2 = 0) rfl (t := 37) rfl rfl (fun c4 => ?_) (fun c4 => ?_)
    · replace h := (if_pos c4).symm.trans h
      refine g_run 2 (pc' := 42) (L' := [some (.int x1), some (.int x2)]) (S' := [.int 2]) (M' := gm g) rfl ?_
      cases h
      exact g_ret rfl rfl rfl rfl
    · replace h := (if_neg c4).symm.trans h
      refine g_run 2 (pc' := 34) (L' := [some (.int x1), some (.int x2)]) (S' := [.int 1, .int x2]) (M' := gm g) rfl ?_
      refine g_icmp (¬ x2 = 1) rfl (t := 41) rfl rfl (fun c5 => ?_) (fun c5 => ?_)
      · replace h := (if_pos c5).symm.trans h
        refine g_run 1 (pc' := 42) (L' := [some (.int x1), some (.int x2)]) (S' := [.int 0]) (M' := gm g) rfl ?_
        cases h
        exact g_ret rfl rfl rfl rfl
      · replace h := (if_neg c5).symm.trans h
        refine g_run 2 (pc' := 42) (L' := [some (.int x1), some (.int x2)]) (S' := [.int 2]) (M' := gm g) rfl ?_
        cases h
        exact g_ret rfl rfl rfl rfl
  replace h := (if_neg c3).symm.trans h
  refine g_lsd rfl rfl (off := 53) (by show Op.lookupswitch.offset [(112, 42), (115, 27)] 53 (x1).toInt = _; rw [lv_osw (a := 112) c1 rfl]; rw [lv_osw (a := 115) c3 rfl]; rfl) (t := 54) rfl ?_
  refine g_run 2 (pc' := 56) (L' := [some (.int x1), some (.int x2)]) (S' := [.int 1, .int x2]) (M' := gm g) rfl ?_
  refine g_icmp (¬ x2 = 1) rfl (t := 63) rfl rfl (fun c6 => ?_) (fun c6 => ?_)
  · replace h := (if_pos c6).symm.trans h
    refine g_run 1 (pc' := 64) (L' := [some (.int x1), some (.int x2)]) (S' := [.int 0]) (M' := gm g) rfl ?_
    cases h
    exact g_ret rfl rfl rfl rfl
  · replace h := (if_neg c6).symm.trans h
    refine g_run 2 (pc' := 64) (L' := [some (.int x1), some (.int x2)]) (S' := [.int 1]) (M' := gm g) rfl ?_
    cases h
    exact g_ret rfl rfl rfl rfl
def f_X12_highest (x1 : Int32) (x2 : Int32) (g : zSg) : Option (Int32 × zSg) := (if x1 = 112 then (if ¬ x2 = 0 then (if ¬ x2 = 1 then some (9, g) else some (4, g)) else some (5, g)) else (if x1 = 115 then (if ¬ x2 = 0 then (if ¬ x2 = 1 then (if ¬ x2 = 4 then some (99, g) else some (3, g)) else some (5, g)) else some (6, g)) else (if ¬ x2 = 0 then (if ¬ x2 = 1 then (if ¬ x2 = 2 then some (4, g) else some (5, g)) else some (9, g)) else some (5, g))))
set_option maxRecDepth 100000 in
set_option maxHeartbeats 4000000 in
theorem p_X12_highest {sc : zSc} {hp : zHp} {x1 : Int32} {x2 : Int32} {g : zSg} {r : Int32 × zSg} (h : f_X12_highest x1 x2 g = some r) : zRn sc hp 0 zM_X12_highest [.int x1, .int x2] (gm g) (some (.int r.1)) (gm r.2) := by
  intro d hD
  show zG _ sc hp (zcd zM_X12_highest) 0 [some (.int x1), some (.int x2)] [] (gm g) _
  unfold f_X12_highest at h
  refine g_run 1 (pc' := 1) (L' := [some (.int x1), some (.int x2)]) (S' := [.int x1]) (M' := gm g) rfl ?_
  by_cases c1 : x1 = 112
  · replace h := (if_pos c1).symm.trans h
    refine g_swc c1 rfl rfl rfl (pc' := 58) rfl ?_
    refine g_run 1 (pc' := 59) (L' := [some (.int x1), some (.int x2)]) (S' := [.int x2]) (M' := gm g) rfl ?_
    refine g_if (¬ x2 = 0) rfl (t := 66) rfl rfl (fun c2 => ?_) (fun c2 => ?_)
    · replace h := (if_pos c2).symm.trans h
      refine g_run 2 (pc' := 68) (L' := [some (.int x1), some (.int x2)]) (S' := [.int 1, .int x2]) (M' := gm g) rfl ?_
      refine g_icmp (¬ x2 = 1) rfl (t := 75) rfl rfl (fun c3 => ?_) (fun c3 => ?_)
      · replace h := (if_pos c3).symm.trans h
        refine g_run 1 (pc' := 77) (L' := [some (.int x1), some (.int x2)]) (S' := [.int 9]) (M' := gm g) rfl ?_
        cases h
        exact g_ret rfl rfl rfl rfl
      · replace h := (if_neg c3).symm.trans h
        refine g_run 2 (pc' := 77) (L' := [some (.int x1), some (.int x2)]) (S' := [.int 4]) (M' := gm g) rfl ?_
        cases h
        exact g_ret rfl rfl rfl rfl
    · replace h := (if_neg c2).symm.trans h
      refine g_run 2 (pc' := 77) (L' := [some (.int x1), some (.int x2)]) (S' := [.int 5]) (M' := gm g) rfl ?_
      cases h
      exact g_ret rfl rfl rfl rfl
  replace h := (if_neg c1).symm.trans h
  by_cases c4 : x1 = 115
  · replace h := (if_pos c4).symm.trans h
    refine g_swc c4 rfl rfl rfl (pc' := 28) rfl ?_
    refine g_run 1 (pc' := 29) (L' := [some (.int x1), some (.int x2)]) (S' := [.int x2]) (M' := gm g) rfl ?_
    refine g_if (¬ x2 = 0) rfl (t := 37) rfl rfl (fun c5 => ?_) (fun c5 => ?_)
    · replace h := (if_pos c5).symm.trans h
      refine g_run 2 (pc' := 39) (L' := [some (.int x1), some (.int x2)]) (S' := [.int 1, .int x2]) (M' := gm g) rfl ?_
      refine g_icmp (¬ x2 = 1) rfl (t := 46) rfl rfl (fun c6 => ?_) (fun c6 => ?_)
      · replace h := (if_pos c6).symm.trans h
        refine g_run 2 (pc' := 48) (L' := [some (.int x1), some (.int x2)]) (S' := [.int 4, .int x2]) (M' := gm g) rfl ?_
        refine g_icmp (¬ x2 = 4) rfl (t := 55) rfl rfl (fun c7 => ?_) (fun c7 => ?_)
        · replace h := (if_pos c7).symm.trans h
          refine g_run 1 (pc' := 57) (L' := [some (.int x1), some (.int x2)]) (S' := [.int 99]) (M' := gm g) rfl ?_
          cases h
          exact g_ret rfl rfl rfl rfl
        · replace h := (if_neg c7).symm.trans h
          refine g_run 2 (pc' := 57) (L' := [some (.int x1), some (.int x2)]) (S' := [.int 3]) (M' := gm g) rfl ?_
          cases h
          exact g_ret rfl rfl rfl rfl
      · replace h := (if_neg c6).symm.trans h
        refine g_run 2 (pc' := 57) (L' := [some (.int x1), some (.int x2)]) (S' := [.int 5]) (M' := gm g) rfl ?_
        cases h
        exact g_ret rfl rfl rfl rfl
    · replace h := (if_neg c5).symm.trans h
      refine g_run 2 (pc' := 57) (L' := [some (.int x1), some (.int x2)]) (S' := [.int 6]) (M' := gm g) rfl ?_
      cases h
      exact g_ret rfl rfl rfl rfl
  replace h := (if_neg c4).symm.trans h
  refine g_lsd rfl rfl (off := 77) (by show Op.lookupswitch.offset [(112, 57), (115, 27)] 77 (x1).toInt = _; rw [lv_osw (a := 112) c1 rfl]; rw [lv_osw (a := 115) c4 rfl]; rfl) (t := 78) rfl ?_
  refine g_run 1 (pc' := 79) (L' := [some (.int x1), some (.int x2)]) (S' := [.int x2]) (M' := gm g) rfl ?_
  refine g_if (¬ x2 = 0) rfl (t := 86) rfl rfl (fun c8 => ?_) (fun c8 => ?_)
  · replace h := (if_pos c8).symm.trans h
    refine g_run 2 (pc' := 88) (L' := [some (.int x1), some (.int x2)]) (S' := [.int 1, .int x2]) (M' := gm g) rfl ?_
    refine g_icmp (¬ x2 = 1) rfl (t := 96) rfl rfl (fun c9 => ?_) (fun c9 => ?_)
    · replace h := (if_pos c9).symm.trans h
      refine g_run 2 (pc' := 98) (L' := [some (.int x1), some (.int x2)]) (S' := [.int 2, .int x2]) (M' := gm g) rfl ?_
      refine g_icmp (¬ x2 = 2) rfl (t := 105) rfl rfl (fun c10 => ?_) (fun c10 => ?_)
      · replace h := (if_pos c10).symm.trans h
        refine g_run 1 (pc' := 106) (L' := [some (.int x1), some (.int x2)]) (S' := [.int 4]) (M' := gm g) rfl ?_
        cases h
        exact g_ret rfl rfl rfl rfl
      · replace h := (if_neg c10).symm.trans h
        refine g_run 2 (pc' := 106) (L' := [some (.int x1), some (.int x2)]) (S' := [.int 5]) (M' := gm g) rfl ?_
        cases h
        exact g_ret rfl rfl rfl rfl
    · replace h := (if_neg c9).symm.trans h
      refine g_run 2 (pc' := 106) (L' := [some (.int x1), some (.int x2)]) (S' := [.int 9]) (M' := gm g) rfl ?_
      cases h
      exact g_ret rfl rfl rfl rfl
  · replace h := (if_neg c8).symm.trans h
    refine g_run 2 (pc' := 106) (L' := [some (.int x1), some (.int x2)]) (S' := [.int 5]) (M' := gm g) rfl ?_
    cases h
    exact g_ret rfl rfl rfl rfl
def f_X12_usual (x1 : Int32) (x2 : Int32) (g : zSg) : Option (Int32 × zSg) := (if x1 = 112 then (if ¬ x2 = 2 then some (0, g) else some (3, g)) else (if x1 = 115 then (if ¬ x2 = 0 then (if ¬ x2 = 1 then (if ¬ x2 = 2 then (if ¬ x2 = 3 then some (1, g) else some (20, g)) else some (30, g)) else some (4, g)) else some (5, g)) else (if ¬ x2 = 1 then some (0, g) else some (3, g))))
set_option maxRecDepth 100000 in
set_option maxHeartbeats 4000000 in
theorem p_X12_usual {sc : zSc} {hp : zHp} {x1 : Int32} {x2 : Int32} {g : zSg} {r : Int32 × zSg} (h : f_X12_usual x1 x2 g = some r) : zRn sc hp 0 zM_X12_usual [.int x1, .int x2] (gm g) (some (.int r.1)) (gm r.2) := by
  intro d hD
  show zG _ sc hp (zcd zM_X12_usual) 0 [some (.int x1), some (.int x2)] [] (gm g) _
  unfold f_X12_usual at h
  refine g_run 1 (pc' := 1) (L' := [some (.int x1), some (.int x2)]) (S' := [.int x1]) (M' := gm g) rfl ?_
  by_cases c1 : x1 = 112
  · replace h := (if_pos c1).symm.trans h
    refine g_swc c1 rfl rfl rfl (pc' := 67) rfl ?_
    refine g_run 2 (pc' := 69) (L' := [some (.int x1), some (.int x2)]) (S' := [.int 2, .int x2]) (M' := gm g) rfl ?_
    refine g_icmp (¬ x2 = 2) rfl (t := 76) rfl rfl (fun c2 => ?_) (fun c2 => ?_)
    · replace h := (if_pos c2).symm.trans h
      refine g_run 1 (pc' := 77) (L' := [some (.int x1), some (.int x2)]) (S' := [.int 0]) (M' := gm g) rfl ?_
      cases h
      exact g_ret rfl rfl rfl rfl
    · replace h := (if_neg c2).symm.trans h
      refine g_run 2 (pc' := 77) (L' := [some (.int x1), some (.int x2)]) (S' := [.int 3]) (M' := gm g) rfl ?_
      cases h
      exact g_ret rfl rfl rfl rfl
  replace h := (if_neg c1).symm.trans h
  by_cases c3 : x1 = 115
  · replace h := (if_pos c3).symm.trans h
    refine g_swc c3 rfl rfl rfl (pc' := 28) rfl ?_
    refine g_run 1 (pc' := 29) (L' := [some (.int x1), some (.int x2)]) (S' := [.int x2]) (M' := gm g) rfl ?_
    refine g_if (¬ x2 = 0) rfl (t := 36) rfl rfl (fun c4 => ?_) (fun c4 => ?_)
    · replace h := (if_pos c4).symm.trans h
      refine g_run 2 (pc' := 38) (L' := [some (.int x1), some (.int x2)]) (S' := [.int 1, .int x2]) (M' := gm g) rfl ?_
      refine g_icmp (¬ x2 = 1) rfl (t := 45) rfl rfl (fun c5 => ?_) (fun c5 => ?_)
      · replace h := (if_pos c5).symm.trans h
        refine g_run 2 (pc' := 47) (L' := [some (.int x1), some (.int x2)]) (S' := [.int 2, .int x2]) (M' := gm g) rfl ?_
        refine g_icmp (¬ x2 = 2) rfl (t := 55) rfl rfl (fun c6 => ?_) (fun c6 => ?_)
        · replace h := (if_pos c6).symm.trans h
          refine g_run 2 (pc' := 57) (L' := [some (.int x1), some (.int x2)]) (S' := [.int 3, .int x2]) (M' := gm g) rfl ?_
          refine g_icmp (¬ x2 = 3) rfl (t := 65) rfl rfl (fun c7 => ?_) (fun c7 => ?_)
          · replace h := (if_pos c7).symm.trans h
            refine g_run 1 (pc' := 66) (L' := [some (.int x1), some (.int x2)]) (S' := [.int 1]) (M' := gm g) rfl ?_
            cases h
            exact g_ret rfl rfl rfl rfl
          · replace h := (if_neg c7).symm.trans h
            refine g_run 2 (pc' := 66) (L' := [some (.int x1), some (.int x2)]) (S' := [.int 20]) (M' := gm g) rfl ?_
            cases h
            exact g_ret rfl rfl rfl rfl
        · replace h := (if_neg c6).symm.trans h
          refine g_run 2 (pc' := 66) (L' := [some (.int x1), some (.int x2)]) (S' := [.int 30]) (M' := gm g) rfl ?_
          cases h
          exact g_ret rfl rfl rfl rfl
      · replace h := (if_neg c5).symm.trans h
        refine g_run 2 (pc' := 66) (L' := [some (.int x1), some (.int x2)]) (S' := [.int 4]) (M' := gm g) rfl ?_
        cases h
        exact g_ret rfl rfl rfl rfl
    · replace h := (if_neg c4).symm.trans h
      refine g_run 2 (pc' := 66) (L' := [some (.int x1), some (.int x2)]) (S' := [.int 5]) (M' := gm g) rfl ?_
      cases h
      exact g_ret rfl rfl rfl rfl
  replace h := (if_neg c3).symm.trans h
  refine g_lsd rfl rfl (off := 77) (by show Op.lookupswitch.offset [(112, 66), (115, 27)] 77 (x1).toInt = _; rw [lv_osw (a := 112) c1 rfl]; rw [lv_osw (a := 115) c3 rfl]; rfl) (t := 78) rfl ?_
  refine g_run 2 (pc' := 80) (L' := [some (.int x1), some (.int x2)]) (S' := [.int 1, .int x2]) (M' := gm g) rfl ?_
  refine g_icmp (¬ x2 = 1) rfl (t := 87) rfl rfl (fun c8 => ?_) (fun c8 => ?_)
  · replace h := (if_pos c8).symm.trans h
    refine g_run 1 (pc' := 88) (L' := [some (.int x1), some (.int x2)]) (S' := [.int 0]) (M' := gm g) rfl ?_
    cases h
    exact g_ret rfl rfl rfl rfl
  · replace h := (if_neg c8).symm.trans h
    refine g_run 2 (pc' := 88) (L' := [some (.int x1), some (.int x2)]) (S' := [.int 3]) (M' := gm g) rfl ?_
    cases h
    exact g_ret rfl rfl rfl rfl
def f_X12_items_126 (b2 : Nat) (k41 : Int32 → Int32 → Int32 → Int32 → zSg → Option (Unit × zSg)) (y1 : Int32) (y3 : Int32) (y5 : Int32) (s0 : Int32) (g : zSg) : Option (Unit × zSg) := k41 (y1) (y3) (y5) (s0) g
set_option maxRecDepth 100000 in
set_option maxHeartbeats 4000000 in
theorem p_X12_items_126 {sc : zSc} {hp : zHp} {d : Nat} (hD : 3 ≤ d) (b2 : Nat) (hb2 : (zK0 b2).1 = 13) (k41 : Int32 → Int32 → Int32 → Int32 → zSg → Option (Unit × zSg)) (hk41 : ∀ (y1 : Int32) (y3 : Int32) (y5 : Int32) (y6 : Int32) (g : zSg) (r : Unit × zSg), k41 y1 y3 y5 y6 g = some r → zG d sc hp (zcd zM_X12_items) 41 [some (.ref 526), some (.int y1), some (.ref b2), some (.int y3), none, some (.int y5), some (.int y6)] [] (gm g) (none, gm r.2)) (y1 : Int32) (y3 : Int32) (y5 : Int32) (s0 : Int32) (g : zSg) (r : Unit × zSg) (h : f_X12_items_126 b2 k41 y1 y3 y5 s0 g = some r) : zG d sc hp (zcd zM_X12_items) 126 [some (.ref 526), some (.int y1), some (.ref b2), some (.int y3), none, some (.int y5), none] [.int s0] (gm g) (none, gm r.2) := by
  obtain ⟨d, rfl⟩ : ∃ d', d = d' + 1 := ⟨d - 1, by omega⟩
  unfold f_X12_items_126 at h
  refine g_run 2 (pc' := 41) (L' := [some (.ref 526), some (.int y1), some (.ref b2), some (.int y3), none, some (.int y5), some (.int s0)]) (S' := []) (M' := gm g) rfl ?_
  exact hk41 (y1) (y3) (y5) (s0) g _ h
def fb_X12_items_41 (b2 : Nat) (kk : Int32 → Int32 → Int32 → Int32 → zSg → Option (Unit × zSg)) (y1 : Int32) (y3 : Int32) (y5 : Int32) (y6 : Int32) (g : zSg) : Option (Unit × zSg) := (if ¬ (gI g 526 4) = (-1) then some ((), g) else (if y6 = (-1) then some ((), g) else (zB (f_X12_has y5 y6 g) (fun v3 g4 => (if ¬ v3 = 0 then some ((), g4) else (zB (f_X12_lowest y1 y6 (gsI g4 526 3 ((gI g4 526 3) + 1))) (fun v7 g8 => (zB (f_X12_highest y1 y6 g8) (fun v10 g11 => (zB (f_X12_number v7 v10 g11) (fun v13 g14 => (if zib (y3 + y6) (zK0 (b2)).2 = true then (if ¬ (gI (gsI g14 (b2) (ix (y3 + y6)) v13) 526 4) = (-1) then f_X12_items_126 b2 kk (y1) (y3) (y5 ||| (1 <<< (y6 &&& 31))) (-1) (gsI g14 (b2) (ix (y3 + y6)) v13) else (zB (f_X12_look (gsI g14 (b2) (ix (y3 + y6)) v13)) (fun v18 g19 => (zB (f_X12_itemOf y1 v18 g19) (fun v21 g22 => f_X12_items_126 b2 kk (y1) (y3) (y5 ||| (1 <<< (y6 &&& 31))) (v21) g22))))) else none))))))))))))
def f_X12_items_41 (b2 : Nat) : Nat → Int32 → Int32 → Int32 → Int32 → zSg → Option (Unit × zSg)
  | 0, _, _, _, _, _ => none
  | n + 1, y1, y3, y5, y6, g => fb_X12_items_41 b2 (f_X12_items_41 b2 n) y1 y3 y5 y6 g
set_option maxRecDepth 100000 in
set_option maxHeartbeats 4000000 in
theorem p_X12_items_41 {sc : zSc} {hp : zHp} {d : Nat} (hD : 3 ≤ d) (b2 : Nat) (hb2 : (zK0 b2).1 = 13) : ∀ (n : Nat) (y1 : Int32) (y3 : Int32) (y5 : Int32) (y6 : Int32) (g : zSg) (r : Unit × zSg), f_X12_items_41 b2 n y1 y3 y5 y6 g = some r → zG d sc hp (zcd zM_X12_items) 41 [some (.ref 526), some (.int y1), some (.ref b2), some (.int y3), none, some (.int y5), some (.int y6)] [] (gm g) (none, gm r.2) := by
  obtain ⟨d, rfl⟩ : ∃ d', d = d' + 1 := ⟨d - 1, by omega⟩
  intro n
  induction n with
  | zero => intro y1 y3 y5 y6 g r h; cases h
  | succ n ih =>
    intro y1 y3 y5 y6 g r h
    replace h : fb_X12_items_41 b2 (f_X12_items_41 b2 n) y1 y3 y5 y6 g = some r := h
    unfold fb_X12_items_41 at h
    refine g_run 3 (pc' := 46) (L' := [some (.ref 526), some (.int y1), some (.ref b2), some (.int y3), none, some (.int y5), some (.int y6)]) (S' := [.int (-1), .int ((gI g 526 4))]) (M' := gm g) rfl ?_
    refine g_icmp (¬ (gI g 526 4) = (-1)) rfl (t := 131) rfl rfl (fun c1 => ?_) (fun c1 => ?_)
    · replace h := (if_pos c1).symm.trans h
      cases h
      exact g_ret rfl rfl rfl rfl
    · replace h := (if_neg c1).symm.trans h
      refine g_run 2 (pc' := 52) (L' := [some (.ref 526), some (.int y1), some (.ref b2), some (.int y3), none, some (.int y5), some (.int y6)]) (S' := [.int (-1), .int y6]) (M' := gm g) rfl ?_
      refine g_icmp (y6 = (-1)) rfl (t := 131) rfl rfl (fun c2 => ?_) (fun c2 => ?_)
      · replace h := (if_pos c2).symm.trans h
        cases h
        exact g_ret rfl rfl rfl rfl
      · replace h := (if_neg c2).symm.trans h
        refine g_run 2 (pc' := 59) (L' := [some (.ref 526), some (.int y1), some (.ref b2), some (.int y3), none, some (.int y5), some (.int y6)]) (S' := [.int y6, .int y5]) (M' := gm g) rfl ?_
        replace h := zB_of h
        obtain ⟨v3, g4, e5, h⟩ := h
        refine g_inv2 (kd := 0) (p_X12_has  e5) rfl rfl rfl (by decide) rfl rfl rfl rfl (by omega) (pc' := 62) rfl (S' := [.int v3]) rfl ?_
        refine g_if (¬ v3 = 0) rfl (t := 131) rfl rfl (fun c6 => ?_) (fun c6 => ?_)
        · replace h := (if_pos c6).symm.trans h
          cases h
          exact g_ret rfl rfl rfl rfl
        · replace h := (if_neg c6).symm.trans h
          refine g_run 19 (pc' := 93) (L' := [some (.ref 526), some (.int y1), some (.ref b2), some (.int y3), none, some (.int ((y5 ||| (1 <<< (y6 &&& 31))))), some (.int y6)]) (S' := [.int y6, .int y1, .ref 526, .int ((y3 + y6)), .ref b2]) (M' := gm (gsI g4 526 3 ((gI g4 526 3) + 1))) rfl ?_
          replace h := zB_of h
          obtain ⟨v7, g8, e9, h⟩ := h
          refine g_inv2 (kd := 0) (p_X12_lowest  e9) rfl rfl rfl (by decide) rfl rfl rfl rfl (by omega) (pc' := 96) rfl (S' := [.int v7, .ref 526, .int ((y3 + y6)), .ref b2]) rfl ?_
          refine g_run 2 (pc' := 99) (L' := [some (.ref 526), some (.int y1), some (.ref b2), some (.int y3), none, some (.int ((y5 ||| (1 <<< (y6 &&& 31))))), some (.int y6)]) (S' := [.int y6, .int y1, .int v7, .ref 526, .int ((y3 + y6)), .ref b2]) (M' := gm g8) rfl ?_
          replace h := zB_of h
          obtain ⟨v10, g11, e12, h⟩ := h
          refine g_inv2 (kd := 0) (p_X12_highest  e12) rfl rfl rfl (by decide) rfl rfl rfl rfl (by omega) (pc' := 102) rfl (S' := [.int v10, .int v7, .ref 526, .int ((y3 + y6)), .ref b2]) rfl ?_
          replace h := zB_of h
          obtain ⟨v13, g14, e15, h⟩ := h
          refine g_inv2 (kd := 1) (p_X12_number  e15) rfl rfl rfl (by decide) rfl rfl rfl rfl (by omega) (pc' := 105) rfl (S' := [.int v13, .int ((y3 + y6)), .ref b2]) rfl ?_
          by_cases c16 : zib (y3 + y6) (zK0 (b2)).2 = true
          case neg => exact nomatch ((if_neg c16).symm.trans h)
          replace h := (if_pos c16).symm.trans h
          refine g_iast rfl (a := b2) hb2 c16 ?_
          refine g_run 3 (pc' := 111) (L' := [some (.ref 526), some (.int y1), some (.ref b2), some (.int y3), none, some (.int ((y5 ||| (1 <<< (y6 &&& 31))))), some (.int y6)]) (S' := [.int (-1), .int ((gI (gsI g14 (b2) (ix (y3 + y6)) v13) 526 4))]) (M' := gm (gsI g14 (b2) (ix (y3 + y6)) v13)) rfl ?_
          refine g_icmp (¬ (gI (gsI g14 (b2) (ix (y3 + y6)) v13) 526 4) = (-1)) rfl (t := 125) rfl rfl (fun c17 => ?_) (fun c17 => ?_)
          · replace h := (if_pos c17).symm.trans h
            refine g_run 1 (pc' := 126) (L' := [some (.ref 526), some (.int y1), some (.ref b2), some (.int y3), none, some (.int ((y5 ||| (1 <<< (y6 &&& 31))))), some (.int y6)]) (S' := [.int (-1)]) (M' := gm (gsI g14 (b2) (ix (y3 + y6)) v13)) rfl ?_
            refine g_forget (L' := [some (.ref 526), some (.int y1), some (.ref b2), some (.int y3), none, some (.int ((y5 ||| (1 <<< (y6 &&& 31))))), none]) (And.intro rfl (And.intro rfl (And.intro rfl (And.intro rfl (And.intro rfl True.intro))))) ?_
            exact p_X12_items_126 hD b2 hb2 (f_X12_items_41 b2 n) ih (y1) (y3) (y5 ||| (1 <<< (y6 &&& 31))) (-1) (gsI g14 (b2) (ix (y3 + y6)) v13) _ h
          · replace h := (if_neg c17).symm.trans h
            refine g_run 2 (pc' := 116) (L' := [some (.ref 526), some (.int y1), some (.ref b2), some (.int y3), none, some (.int ((y5 ||| (1 <<< (y6 &&& 31))))), some (.int y6)]) (S' := [.ref 526, .int y1]) (M' := gm (gsI g14 (b2) (ix (y3 + y6)) v13)) rfl ?_
            replace h := zB_of h
            obtain ⟨v18, g19, e20, h⟩ := h
            refine g_inv2 (kd := 1) (p_X12_look  e20) rfl rfl rfl (by decide) rfl rfl rfl rfl (by omega) (pc' := 119) rfl (S' := [.int v18, .int y1]) rfl ?_
            replace h := zB_of h
            obtain ⟨v21, g22, e23, h⟩ := h
            refine g_inv2 (kd := 0) (p_X12_itemOf  e23) rfl rfl rfl (by decide) rfl rfl rfl rfl (by omega) (pc' := 122) rfl (S' := [.int v21]) rfl ?_
            refine g_run 1 (pc' := 126) (L' := [some (.ref 526), some (.int y1), some (.ref b2), some (.int y3), none, some (.int ((y5 ||| (1 <<< (y6 &&& 31))))), some (.int y6)]) (S' := [.int v21]) (M' := gm g22) rfl ?_
            refine g_forget (L' := [some (.ref 526), some (.int y1), some (.ref b2), some (.int y3), none, some (.int ((y5 ||| (1 <<< (y6 &&& 31))))), none]) (And.intro rfl (And.intro rfl (And.intro rfl (And.intro rfl (And.intro rfl True.intro))))) ?_
            exact p_X12_items_126 hD b2 hb2 (f_X12_items_41 b2 n) ih (y1) (y3) (y5 ||| (1 <<< (y6 &&& 31))) (v21) g22 _ h
def f_X12_items_28 (b2 : Nat) (y1 : Int32) (y3 : Int32) (g : zSg) : Option (Unit × zSg) := (zB (f_X12_look g) (fun v1 g2 => (zB (f_X12_itemOf y1 v1 g2) (fun v4 g5 => f_X12_items_41 b2 zFu (y1) (y3) (0) (v4) g5))))
set_option maxRecDepth 100000 in
set_option maxHeartbeats 4000000 in
theorem p_X12_items_28 {sc : zSc} {hp : zHp} {d : Nat} (hD : 3 ≤ d) (b2 : Nat) (hb2 : (zK0 b2).1 = 13) (y1 : Int32) (y3 : Int32) (g : zSg) (r : Unit × zSg) (h : f_X12_items_28 b2 y1 y3 g = some r) : zG d sc hp (zcd zM_X12_items) 28 [some (.ref 526), some (.int y1), some (.ref b2), some (.int y3), none, none, none] [] (gm g) (none, gm r.2) := by
  obtain ⟨d, rfl⟩ : ∃ d', d = d' + 1 := ⟨d - 1, by omega⟩
  unfold f_X12_items_28 at h
  refine g_run 4 (pc' := 33) (L' := [some (.ref 526), some (.int y1), some (.ref b2), some (.int y3), none, some (.int 0), none]) (S' := [.ref 526, .int y1]) (M' := gm g) rfl ?_
  replace h := zB_of h
  obtain ⟨v1, g2, e3, h⟩ := h
  refine g_inv2 (kd := 1) (p_X12_look  e3) rfl rfl rfl (by decide) rfl rfl rfl rfl (by omega) (pc' := 36) rfl (S' := [.int v1, .int y1]) rfl ?_
  replace h := zB_of h
  obtain ⟨v4, g5, e6, h⟩ := h
  refine g_inv2 (kd := 0) (p_X12_itemOf  e6) rfl rfl rfl (by decide) rfl rfl rfl rfl (by omega) (pc' := 39) rfl (S' := [.int v4]) rfl ?_
  refine g_run 1 (pc' := 41) (L' := [some (.ref 526), some (.int y1), some (.ref b2), some (.int y3), none, some (.int 0), some (.int v4)]) (S' := []) (M' := gm g5) rfl ?_
  exact p_X12_items_41 hD b2 hb2 zFu (y1) (y3) (0) (v4) g5 _ h
def fb_X12_items_3 (b2 : Nat) (kk : Int32 → Int32 → Int32 → Int32 → zSg → Option (Unit × zSg)) (y1 : Int32) (y3 : Int32) (y4 : Int32) (y5 : Int32) (g : zSg) : Option (Unit × zSg) := (if y4 ≤ y5 then f_X12_items_28 b2 (y1) (y3) g else (zB (f_X12_usual y1 y5 g) (fun v2 g3 => (if zib (y3 + y5) (zK0 (b2)).2 = true then kk (y1) (y3) (y4) (y5 + 1) (gsI g3 (b2) (ix (y3 + y5)) v2) else none))))
def f_X12_items_3 (b2 : Nat) : Nat → Int32 → Int32 → Int32 → Int32 → zSg → Option (Unit × zSg)
  | 0, _, _, _, _, _ => none
  | n + 1, y1, y3, y4, y5, g => fb_X12_items_3 b2 (f_X12_items_3 b2 n) y1 y3 y4 y5 g
set_option maxRecDepth 100000 in
set_option maxHeartbeats 4000000 in
theorem p_X12_items_3 {sc : zSc} {hp : zHp} {d : Nat} (hD : 3 ≤ d) (b2 : Nat) (hb2 : (zK0 b2).1 = 13) : ∀ (n : Nat) (y1 : Int32) (y3 : Int32) (y4 : Int32) (y5 : Int32) (g : zSg) (r : Unit × zSg), f_X12_items_3 b2 n y1 y3 y4 y5 g = some r → zG d sc hp (zcd zM_X12_items) 3 [some (.ref 526), some (.int y1), some (.ref b2), some (.int y3), some (.int y4), some (.int y5), none] [] (gm g) (none, gm r.2) := by
  obtain ⟨d, rfl⟩ : ∃ d', d = d' + 1 := ⟨d - 1, by omega⟩
  intro n
  induction n with
  | zero => intro y1 y3 y4 y5 g r h; cases h
  | succ n ih =>
    intro y1 y3 y4 y5 g r h
    replace h : fb_X12_items_3 b2 (f_X12_items_3 b2 n) y1 y3 y4 y5 g = some r := h
    unfold fb_X12_items_3 at h
    refine g_run 2 (pc' := 7) (L' := [some (.ref 526), some (.int y1), some (.ref b2), some (.int y3), some (.int y4), some (.int y5), none]) (S' := [.int y4, .int y5]) (M' := gm g) rfl ?_
    refine g_icmp (y4 ≤ y5) rfl (t := 28) rfl rfl (fun c1 => ?_) (fun c1 => ?_)
    · replace h := (if_pos c1).symm.trans h
      refine g_forget (L' := [some (.ref 526), some (.int y1), some (.ref b2), some (.int y3), none, none, none]) (And.intro rfl (And.intro rfl (And.intro rfl (And.intro rfl True.intro)))) ?_
      exact p_X12_items_28 hD b2 hb2 (y1) (y3) g _ h
    · replace h := (if_neg c1).symm.trans h
      refine g_run 6 (pc' := 18) (L' := [some (.ref 526), some (.int y1), some (.ref b2), some (.int y3), some (.int y4), some (.int y5), none]) (S' := [.int y5, .int y1, .int ((y3 + y5)), .ref b2]) (M' := gm g) rfl ?_
      replace h := zB_of h
      obtain ⟨v2, g3, e4, h⟩ := h
      refine g_inv2 (kd := 0) (p_X12_usual  e4) rfl rfl rfl (by decide) rfl rfl rfl rfl (by omega) (pc' := 21) rfl (S' := [.int v2, .int ((y3 + y5)), .ref b2]) rfl ?_
      by_cases c5 : zib (y3 + y5) (zK0 (b2)).2 = true
      case neg => exact nomatch ((if_neg c5).symm.trans h)
      replace h := (if_pos c5).symm.trans h
      refine g_iast rfl (a := b2) hb2 c5 ?_
      refine g_run 2 (pc' := 3) (L' := [some (.ref 526), some (.int y1), some (.ref b2), some (.int y3), some (.int y4), some (.int ((y5 + 1))), none]) (S' := []) (M' := gm (gsI g3 (b2) (ix (y3 + y5)) v2)) rfl ?_
      exact ih (y1) (y3) (y4) (y5 + 1) (gsI g3 (b2) (ix (y3 + y5)) v2) _ h
def f_X12_items (b2 : Nat) (x1 : Int32) (x3 : Int32) (x4 : Int32) (g : zSg) : Option (Unit × zSg) := f_X12_items_3 b2 zFu (x1) (x3) (x4) (0) g
set_option maxRecDepth 100000 in
set_option maxHeartbeats 4000000 in
theorem p_X12_items {sc : zSc} {hp : zHp} (b2 : Nat) (hb2 : (zK0 b2).1 = 13) {x1 : Int32} {x3 : Int32} {x4 : Int32} {g : zSg} {r : Unit × zSg} (h : f_X12_items b2 x1 x3 x4 g = some r) : zRn sc hp 3 zM_X12_items [.ref 526, .int x1, .ref b2, .int x3, .int x4] (gm g) none (gm r.2) := by
  intro d hD
  obtain ⟨d, rfl⟩ : ∃ d', d = d' + 1 := ⟨d - 1, by omega⟩
  show zG _ sc hp (zcd zM_X12_items) 0 [some (.ref 526), some (.int x1), some (.ref b2), some (.int x3), some (.int x4), none, none] [] (gm g) _
  unfold f_X12_items at h
  refine g_run 2 (pc' := 3) (L' := [some (.ref 526), some (.int x1), some (.ref b2), some (.int x3), some (.int x4), some (.int 0), none]) (S' := []) (M' := gm g) rfl ?_
  exact p_X12_items_3 hD b2 hb2 zFu (x1) (x3) (x4) (0) g _ h
def f_X12_isWhole_159 (k87 : Int32 → Int32 → zSg → Option (Int32 × zSg)) (y2 : Int32) (s0 : Int32) (g : zSg) : Option (Int32 × zSg) := k87 (s0) (y2 + 1) g
set_option maxRecDepth 100000 in
set_option maxHeartbeats 4000000 in
theorem p_X12_isWhole_159 {sc : zSc} {hp : zHp} {d : Nat} (hD : 0 ≤ d) (k87 : Int32 → Int32 → zSg → Option (Int32 × zSg)) (hk87 : ∀ (y1 : Int32) (y2 : Int32) (g : zSg) (r : Int32 × zSg), k87 y1 y2 g = some r → zG d sc hp (zcd zM_X12_isWhole) 87 [some (.ref 526), some (.int y1), some (.int y2)] [] (gm g) ((some (.int r.1)), gm r.2)) (y2 : Int32) (s0 : Int32) (g : zSg) (r : Int32 × zSg) (h : f_X12_isWhole_159 k87 y2 s0 g = some r) : zG d sc hp (zcd zM_X12_isWhole) 159 [some (.ref 526), none, some (.int y2)] [.int s0] (gm g) ((some (.int r.1)), gm r.2) := by
  unfold f_X12_isWhole_159 at h
  refine g_run 3 (pc' := 87) (L' := [some (.ref 526), some (.int s0), some (.int ((y2 + 1)))]) (S' := []) (M' := gm g) rfl ?_
  exact hk87 (s0) (y2 + 1) g _ h
def f_X12_isWhole_158 (k87 : Int32 → Int32 → zSg → Option (Int32 × zSg)) (y2 : Int32) (g : zSg) : Option (Int32 × zSg) := f_X12_isWhole_159 k87 (y2) (0) g
set_option maxRecDepth 100000 in
set_option maxHeartbeats 4000000 in
theorem p_X12_isWhole_158 {sc : zSc} {hp : zHp} {d : Nat} (hD : 0 ≤ d) (k87 : Int32 → Int32 → zSg → Option (Int32 × zSg)) (hk87 : ∀ (y1 : Int32) (y2 : Int32) (g : zSg) (r : Int32 × zSg), k87 y1 y2 g = some r → zG d sc hp (zcd zM_X12_isWhole) 87 [some (.ref 526), some (.int y1), some (.int y2)] [] (gm g) ((some (.int r.1)), gm r.2)) (y2 : Int32) (g : zSg) (r : Int32 × zSg) (h : f_X12_isWhole_158 k87 y2 g = some r) : zG d sc hp (zcd zM_X12_isWhole) 158 [some (.ref 526), none, some (.int y2)] [] (gm g) ((some (.int r.1)), gm r.2) := by
  unfold f_X12_isWhole_158 at h
  refine g_run 1 (pc' := 159) (L' := [some (.ref 526), none, some (.int y2)]) (S' := [.int 0]) (M' := gm g) rfl ?_
  exact p_X12_isWhole_159 hD k87 hk87 (y2) (0) g _ h
def fb_X12_isWhole_87 (kk : Int32 → Int32 → zSg → Option (Int32 × zSg)) (y1 : Int32) (y2 : Int32) (g : zSg) : Option (Int32 × zSg) := (if (gI g 526 21) ≤ y2 then (if y1 = 0 ∨ y1 = 1 then some (y1, g) else none) else (if y1 = 0 then f_X12_isWhole_158 kk (y2) g else (if zib ((4 * y2) + 0) 24 = true then (if (gI g 526 20) ≤ (gI g 539 (ix ((4 * y2) + 0))) then f_X12_isWhole_158 kk (y2) g else (if zib ((4 * y2) + 2) 24 = true then (if (gI g 537 0) ≤ (gI g 539 (ix ((4 * y2) + 2))) then f_X12_isWhole_158 kk (y2) g else (if zib ((4 * y2) + 3) 24 = true then (if (gI g 537 1) ≤ (gI g 539 (ix ((4 * y2) + 3))) then f_X12_isWhole_158 kk (y2) g else f_X12_isWhole_159 kk (y2) (1) g) else none)) else none)) else none)))
def f_X12_isWhole_87 : Nat → Int32 → Int32 → zSg → Option (Int32 × zSg)
  | 0, _, _, _ => none
  | n + 1, y1, y2, g => fb_X12_isWhole_87 (f_X12_isWhole_87 n) y1 y2 g
set_option maxRecDepth 100000 in
set_option maxHeartbeats 4000000 in
theorem p_X12_isWhole_87 {sc : zSc} {hp : zHp} {d : Nat} (hD : 0 ≤ d) : ∀ (n : Nat) (y1 : Int32) (y2 : Int32) (g : zSg) (r : Int32 × zSg), f_X12_isWhole_87 n y1 y2 g = some r → zG d sc hp (zcd zM_X12_isWhole) 87 [some (.ref 526), some (.int y1), some (.int y2)] [] (gm g) ((some (.int r.1)), gm r.2) := by
  intro n
  induction n with
  | zero => intro y1 y2 g r h; cases h
  | succ n ih =>
    intro y1 y2 g r h
    replace h : fb_X12_isWhole_87 (f_X12_isWhole_87 n) y1 y2 g = some r := h
    unfold fb_X12_isWhole_87 at h
    refine g_run 3 (pc' := 92) (L' := [some (.ref 526), some (.int y1), some (.int y2)]) (S' := [.int ((gI g 526 21)), .int y2]) (M' := gm g) rfl ?_
    refine g_icmp ((gI g 526 21) ≤ y2) rfl (t := 166) rfl rfl (fun c1 => ?_) (fun c1 => ?_)
    · replace h := (if_pos c1).symm.trans h
      refine g_run 1 (pc' := 167) (L' := [some (.ref 526), some (.int y1), some (.int y2)]) (S' := [.int y1]) (M' := gm g) rfl ?_
      by_cases c2 : y1 = 0 ∨ y1 = 1
      case neg => exact nomatch ((if_neg c2).symm.trans h)
      replace h := (if_pos c2).symm.trans h
      cases h
      exact g_retz rfl rfl c2
    · replace h := (if_neg c1).symm.trans h
      refine g_run 1 (pc' := 96) (L' := [some (.ref 526), some (.int y1), some (.int y2)]) (S' := [.int y1]) (M' := gm g) rfl ?_
      refine g_if (y1 = 0) rfl (t := 158) rfl rfl (fun c3 => ?_) (fun c3 => ?_)
      · replace h := (if_pos c3).symm.trans h
        refine g_forget (L' := [some (.ref 526), none, some (.int y2)]) (And.intro rfl (And.intro rfl True.intro)) ?_
        exact p_X12_isWhole_158 hD (f_X12_isWhole_87 n) ih (y2) g _ h
      · replace h := (if_neg c3).symm.trans h
        refine g_run 7 (pc' := 108) (L' := [some (.ref 526), some (.int y1), some (.int y2)]) (S' := [.int (((4 * y2) + 0)), .ref 539]) (M' := gm g) rfl ?_
        by_cases c4 : zib ((4 * y2) + 0) 24 = true
        case neg => exact nomatch ((if_neg c4).symm.trans h)
        replace h := (if_pos c4).symm.trans h
        refine g_iald rfl (a := 539) rfl c4 ?_
        refine g_run 2 (pc' := 113) (L' := [some (.ref 526), some (.int y1), some (.int y2)]) (S' := [.int ((gI g 526 20)), .int ((gI g 539 (ix ((4 * y2) + 0))))]) (M' := gm g) rfl ?_
        refine g_icmp ((gI g 526 20) ≤ (gI g 539 (ix ((4 * y2) + 0)))) rfl (t := 158) rfl rfl (fun c5 => ?_) (fun c5 => ?_)
        · replace h := (if_pos c5).symm.trans h
          refine g_forget (L' := [some (.ref 526), none, some (.int y2)]) (And.intro rfl (And.intro rfl True.intro)) ?_
          exact p_X12_isWhole_158 hD (f_X12_isWhole_87 n) ih (y2) g _ h
        · replace h := (if_neg c5).symm.trans h
          refine g_run 7 (pc' := 125) (L' := [some (.ref 526), some (.int y1), some (.int y2)]) (S' := [.int (((4 * y2) + 2)), .ref 539]) (M' := gm g) rfl ?_
          by_cases c6 : zib ((4 * y2) + 2) 24 = true
          case neg => exact nomatch ((if_neg c6).symm.trans h)
          replace h := (if_pos c6).symm.trans h
          refine g_iald rfl (a := 539) rfl c6 ?_
          refine g_run 4 (pc' := 132) (L' := [some (.ref 526), some (.int y1), some (.int y2)]) (S' := [.int ((gI g 537 0)), .int ((gI g 539 (ix ((4 * y2) + 2))))]) (M' := gm g) rfl ?_
          refine g_icmp ((gI g 537 0) ≤ (gI g 539 (ix ((4 * y2) + 2)))) rfl (t := 158) rfl rfl (fun c7 => ?_) (fun c7 => ?_)
          · replace h := (if_pos c7).symm.trans h
            refine g_forget (L' := [some (.ref 526), none, some (.int y2)]) (And.intro rfl (And.intro rfl True.intro)) ?_
            exact p_X12_isWhole_158 hD (f_X12_isWhole_87 n) ih (y2) g _ h
          · replace h := (if_neg c7).symm.trans h
            refine g_run 7 (pc' := 144) (L' := [some (.ref 526), some (.int y1), some (.int y2)]) (S' := [.int (((4 * y2) + 3)), .ref 539]) (M' := gm g) rfl ?_
            by_cases c8 : zib ((4 * y2) + 3) 24 = true
            case neg => exact nomatch ((if_neg c8).symm.trans h)
            replace h := (if_pos c8).symm.trans h
            refine g_iald rfl (a := 539) rfl c8 ?_
            refine g_run 4 (pc' := 151) (L' := [some (.ref 526), some (.int y1), some (.int y2)]) (S' := [.int ((gI g 537 1)), .int ((gI g 539 (ix ((4 * y2) + 3))))]) (M' := gm g) rfl ?_
            refine g_icmp ((gI g 537 1) ≤ (gI g 539 (ix ((4 * y2) + 3)))) rfl (t := 158) rfl rfl (fun c9 => ?_) (fun c9 => ?_)
            · replace h := (if_pos c9).symm.trans h
              refine g_forget (L' := [some (.ref 526), none, some (.int y2)]) (And.intro rfl (And.intro rfl True.intro)) ?_
              exact p_X12_isWhole_158 hD (f_X12_isWhole_87 n) ih (y2) g _ h
            · replace h := (if_neg c9).symm.trans h
              refine g_run 2 (pc' := 159) (L' := [some (.ref 526), some (.int y1), some (.int y2)]) (S' := [.int 1]) (M' := gm g) rfl ?_
              refine g_forget (L' := [some (.ref 526), none, some (.int y2)]) (And.intro rfl (And.intro rfl True.intro)) ?_
              exact p_X12_isWhole_159 hD (f_X12_isWhole_87 n) ih (y2) (1) g _ h
def f_X12_isWhole_85 (y1 : Int32) (g : zSg) : Option (Int32 × zSg) := f_X12_isWhole_87 zFu (y1) (0) g
set_option maxRecDepth 100000 in
set_option maxHeartbeats 4000000 in
theorem p_X12_isWhole_85 {sc : zSc} {hp : zHp} {d : Nat} (hD : 0 ≤ d) (y1 : Int32) (g : zSg) (r : Int32 × zSg) (h : f_X12_isWhole_85 y1 g = some r) : zG d sc hp (zcd zM_X12_isWhole) 85 [some (.ref 526), some (.int y1), none] [] (gm g) ((some (.int r.1)), gm r.2) := by
  unfold f_X12_isWhole_85 at h
  refine g_run 2 (pc' := 87) (L' := [some (.ref 526), some (.int y1), some (.int 0)]) (S' := []) (M' := gm g) rfl ?_
  exact p_X12_isWhole_87 hD zFu (y1) (0) g _ h
def f_X12_isWhole_78 (k23 : Int32 → Int32 → zSg → Option (Int32 × zSg)) (y2 : Int32) (s0 : Int32) (g : zSg) : Option (Int32 × zSg) := k23 (s0) (y2 + 1) g
set_option maxRecDepth 100000 in
set_option maxHeartbeats 4000000 in
theorem p_X12_isWhole_78 {sc : zSc} {hp : zHp} {d : Nat} (hD : 0 ≤ d) (k23 : Int32 → Int32 → zSg → Option (Int32 × zSg)) (hk23 : ∀ (y1 : Int32) (y2 : Int32) (g : zSg) (r : Int32 × zSg), k23 y1 y2 g = some r → zG d sc hp (zcd zM_X12_isWhole) 23 [some (.ref 526), some (.int y1), some (.int y2)] [] (gm g) ((some (.int r.1)), gm r.2)) (y2 : Int32) (s0 : Int32) (g : zSg) (r : Int32 × zSg) (h : f_X12_isWhole_78 k23 y2 s0 g = some r) : zG d sc hp (zcd zM_X12_isWhole) 78 [some (.ref 526), none, some (.int y2)] [.int s0] (gm g) ((some (.int r.1)), gm r.2) := by
  unfold f_X12_isWhole_78 at h
  refine g_run 3 (pc' := 23) (L' := [some (.ref 526), some (.int s0), some (.int ((y2 + 1)))]) (S' := []) (M' := gm g) rfl ?_
  exact hk23 (s0) (y2 + 1) g _ h
def f_X12_isWhole_77 (k23 : Int32 → Int32 → zSg → Option (Int32 × zSg)) (y2 : Int32) (g : zSg) : Option (Int32 × zSg) := f_X12_isWhole_78 k23 (y2) (0) g
set_option maxRecDepth 100000 in
set_option maxHeartbeats 4000000 in
theorem p_X12_isWhole_77 {sc : zSc} {hp : zHp} {d : Nat} (hD : 0 ≤ d) (k23 : Int32 → Int32 → zSg → Option (Int32 × zSg)) (hk23 : ∀ (y1 : Int32) (y2 : Int32) (g : zSg) (r : Int32 × zSg), k23 y1 y2 g = some r → zG d sc hp (zcd zM_X12_isWhole) 23 [some (.ref 526), some (.int y1), some (.int y2)] [] (gm g) ((some (.int r.1)), gm r.2)) (y2 : Int32) (g : zSg) (r : Int32 × zSg) (h : f_X12_isWhole_77 k23 y2 g = some r) : zG d sc hp (zcd zM_X12_isWhole) 77 [some (.ref 526), none, some (.int y2)] [] (gm g) ((some (.int r.1)), gm r.2) := by
  unfold f_X12_isWhole_77 at h
  refine g_run 1 (pc' := 78) (L' := [some (.ref 526), none, some (.int y2)]) (S' := [.int 0]) (M' := gm g) rfl ?_
  exact p_X12_isWhole_78 hD k23 hk23 (y2) (0) g _ h
def fb_X12_isWhole_23 (kk : Int32 → Int32 → zSg → Option (Int32 × zSg)) (y1 : Int32) (y2 : Int32) (g : zSg) : Option (Int32 × zSg) := (if (gI g 526 20) ≤ y2 then f_X12_isWhole_85 (y1) g else (if y1 = 0 then f_X12_isWhole_77 kk (y2) g else (if zib ((3 * y2) + 0) 18 = true then (if (gI g 537 0) ≤ (gI g 538 (ix ((3 * y2) + 0))) then f_X12_isWhole_77 kk (y2) g else (if zib ((3 * y2) + 1) 18 = true then (if (gI g 537 1) ≤ (gI g 538 (ix ((3 * y2) + 1))) then f_X12_isWhole_77 kk (y2) g else f_X12_isWhole_78 kk (y2) (1) g) else none)) else none)))
def f_X12_isWhole_23 : Nat → Int32 → Int32 → zSg → Option (Int32 × zSg)
  | 0, _, _, _ => none
  | n + 1, y1, y2, g => fb_X12_isWhole_23 (f_X12_isWhole_23 n) y1 y2 g
set_option maxRecDepth 100000 in
set_option maxHeartbeats 4000000 in
theorem p_X12_isWhole_23 {sc : zSc} {hp : zHp} {d : Nat} (hD : 0 ≤ d) : ∀ (n : Nat) (y1 : Int32) (y2 : Int32) (g : zSg) (r : Int32 × zSg), f_X12_isWhole_23 n y1 y2 g = some r → zG d sc hp (zcd zM_X12_isWhole) 23 [some (.ref 526), some (.int y1), some (.int y2)] [] (gm g) ((some (.int r.1)), gm r.2) := by
  intro n
  induction n with
  | zero => intro y1 y2 g r h; cases h
  | succ n ih =>
    intro y1 y2 g r h
    replace h : fb_X12_isWhole_23 (f_X12_isWhole_23 n) y1 y2 g = some r := h
    unfold fb_X12_isWhole_23 at h
    refine g_run 3 (pc' := 28) (L' := [some (.ref 526), some (.int y1), some (.int y2)]) (S' := [.int ((gI g 526 20)), .int y2]) (M' := gm g) rfl ?_
    refine g_icmp ((gI g 526 20) ≤ y2) rfl (t := 85) rfl rfl (fun c1 => ?_) (fun c1 => ?_)
    · replace h := (if_pos c1).symm.trans h
      refine g_forget (L' := [some (.ref 526), some (.int y1), none]) (And.intro rfl (And.intro rfl True.intro)) ?_
      exact p_X12_isWhole_85 hD (y1) g _ h
    · replace h := (if_neg c1).symm.trans h
      refine g_run 1 (pc' := 32) (L' := [some (.ref 526), some (.int y1), some (.int y2)]) (S' := [.int y1]) (M' := gm g) rfl ?_
      refine g_if (y1 = 0) rfl (t := 77) rfl rfl (fun c2 => ?_) (fun c2 => ?_)
      · replace h := (if_pos c2).symm.trans h
        refine g_forget (L' := [some (.ref 526), none, some (.int y2)]) (And.intro rfl (And.intro rfl True.intro)) ?_
        exact p_X12_isWhole_77 hD (f_X12_isWhole_23 n) ih (y2) g _ h
      · replace h := (if_neg c2).symm.trans h
        refine g_run 7 (pc' := 44) (L' := [some (.ref 526), some (.int y1), some (.int y2)]) (S' := [.int (((3 * y2) + 0)), .ref 538]) (M' := gm g) rfl ?_
        by_cases c3 : zib ((3 * y2) + 0) 18 = true
        case neg => exact nomatch ((if_neg c3).symm.trans h)
        replace h := (if_pos c3).symm.trans h
        refine g_iald rfl (a := 538) rfl c3 ?_
        refine g_run 4 (pc' := 51) (L' := [some (.ref 526), some (.int y1), some (.int y2)]) (S' := [.int ((gI g 537 0)), .int ((gI g 538 (ix ((3 * y2) + 0))))]) (M' := gm g) rfl ?_
        refine g_icmp ((gI g 537 0) ≤ (gI g 538 (ix ((3 * y2) + 0)))) rfl (t := 77) rfl rfl (fun c4 => ?_) (fun c4 => ?_)
        · replace h := (if_pos c4).symm.trans h
          refine g_forget (L' := [some (.ref 526), none, some (.int y2)]) (And.intro rfl (And.intro rfl True.intro)) ?_
          exact p_X12_isWhole_77 hD (f_X12_isWhole_23 n) ih (y2) g _ h
        · replace h := (if_neg c4).symm.trans h
          refine g_run 7 (pc' := 63) (L' := [some (.ref 526), some (.int y1), some (.int y2)]) (S' := [.int (((3 * y2) + 1)), .ref 538]) (M' := gm g) rfl ?_
          by_cases c5 : zib ((3 * y2) + 1) 18 = true
          case neg => exact nomatch ((if_neg c5).symm.trans h)
          replace h := (if_pos c5).symm.trans h
          refine g_iald rfl (a := 538) rfl c5 ?_
          refine g_run 4 (pc' := 70) (L' := [some (.ref 526), some (.int y1), some (.int y2)]) (S' := [.int ((gI g 537 1)), .int ((gI g 538 (ix ((3 * y2) + 1))))]) (M' := gm g) rfl ?_
          refine g_icmp ((gI g 537 1) ≤ (gI g 538 (ix ((3 * y2) + 1)))) rfl (t := 77) rfl rfl (fun c6 => ?_) (fun c6 => ?_)
          · replace h := (if_pos c6).symm.trans h
            refine g_forget (L' := [some (.ref 526), none, some (.int y2)]) (And.intro rfl (And.intro rfl True.intro)) ?_
            exact p_X12_isWhole_77 hD (f_X12_isWhole_23 n) ih (y2) g _ h
          · replace h := (if_neg c6).symm.trans h
            refine g_run 2 (pc' := 78) (L' := [some (.ref 526), some (.int y1), some (.int y2)]) (S' := [.int 1]) (M' := gm g) rfl ?_
            refine g_forget (L' := [some (.ref 526), none, some (.int y2)]) (And.intro rfl (And.intro rfl True.intro)) ?_
            exact p_X12_isWhole_78 hD (f_X12_isWhole_23 n) ih (y2) (1) g _ h
def f_X12_isWhole_20 (s0 : Int32) (g : zSg) : Option (Int32 × zSg) := f_X12_isWhole_23 zFu (s0) (0) g
set_option maxRecDepth 100000 in
set_option maxHeartbeats 4000000 in
theorem p_X12_isWhole_20 {sc : zSc} {hp : zHp} {d : Nat} (hD : 0 ≤ d) (s0 : Int32) (g : zSg) (r : Int32 × zSg) (h : f_X12_isWhole_20 s0 g = some r) : zG d sc hp (zcd zM_X12_isWhole) 20 [some (.ref 526), none, none] [.int s0] (gm g) ((some (.int r.1)), gm r.2) := by
  unfold f_X12_isWhole_20 at h
  refine g_run 3 (pc' := 23) (L' := [some (.ref 526), some (.int s0), some (.int 0)]) (S' := []) (M' := gm g) rfl ?_
  exact p_X12_isWhole_23 hD zFu (s0) (0) g _ h
def f_X12_isWhole_19 (g : zSg) : Option (Int32 × zSg) := f_X12_isWhole_20 (0) g
set_option maxRecDepth 100000 in
set_option maxHeartbeats 4000000 in
theorem p_X12_isWhole_19 {sc : zSc} {hp : zHp} {d : Nat} (hD : 0 ≤ d) (g : zSg) (r : Int32 × zSg) (h : f_X12_isWhole_19 g = some r) : zG d sc hp (zcd zM_X12_isWhole) 19 [some (.ref 526), none, none] [] (gm g) ((some (.int r.1)), gm r.2) := by
  unfold f_X12_isWhole_19 at h
  refine g_run 1 (pc' := 20) (L' := [some (.ref 526), none, none]) (S' := [.int 0]) (M' := gm g) rfl ?_
  exact p_X12_isWhole_20 hD (0) g _ h
def f_X12_isWhole (g : zSg) : Option (Int32 × zSg) := (if (gI g 526 20) ≤ 1 then f_X12_isWhole_19 g else (if (gI g 526 21) ≤ 0 then f_X12_isWhole_19 g else f_X12_isWhole_20 (1) g))
set_option maxRecDepth 100000 in
set_option maxHeartbeats 4000000 in
theorem p_X12_isWhole {sc : zSc} {hp : zHp} {g : zSg} {r : Int32 × zSg} (h : f_X12_isWhole g = some r) : zRn sc hp 0 zM_X12_isWhole [.ref 526] (gm g) (some (.int r.1)) (gm r.2) := by
  intro d hD
  show zG _ sc hp (zcd zM_X12_isWhole) 0 [some (.ref 526), none, none] [] (gm g) _
  unfold f_X12_isWhole at h
  refine g_run 3 (pc' := 5) (L' := [some (.ref 526), none, none]) (S' := [.int 1, .int ((gI g 526 20))]) (M' := gm g) rfl ?_
  refine g_icmp ((gI g 526 20) ≤ 1) rfl (t := 19) rfl rfl (fun c1 => ?_) (fun c1 => ?_)
  · replace h := (if_pos c1).symm.trans h
    exact p_X12_isWhole_19 hD g _ h
  · replace h := (if_neg c1).symm.trans h
    refine g_run 2 (pc' := 12) (L' := [some (.ref 526), none, none]) (S' := [.int ((gI g 526 21))]) (M' := gm g) rfl ?_
    refine g_if ((gI g 526 21) ≤ 0) rfl (t := 19) rfl rfl (fun c2 => ?_) (fun c2 => ?_)
    · replace h := (if_pos c2).symm.trans h
      exact p_X12_isWhole_19 hD g _ h
    · replace h := (if_neg c2).symm.trans h
      refine g_run 2 (pc' := 20) (L' := [some (.ref 526), none, none]) (S' := [.int 1]) (M' := gm g) rfl ?_
      exact p_X12_isWhole_20 hD (1) g _ h
def f_X12_readCoast_285 (g : zSg) : Option (Int32 × zSg) := some ((gI g 526 4), g)
set_option maxRecDepth 100000 in
set_option maxHeartbeats 4000000 in
theorem p_X12_readCoast_285 {sc : zSc} {hp : zHp} {d : Nat} (hD : 4 ≤ d) (g : zSg) (r : Int32 × zSg) (h : f_X12_readCoast_285 g = some r) : zG d sc hp (zcd zM_X12_readCoast) 285 [some (.ref 526), none, none, none] [] (gm g) ((some (.int r.1)), gm r.2) := by
  obtain ⟨d, rfl⟩ : ∃ d', d = d' + 1 := ⟨d - 1, by omega⟩
  unfold f_X12_readCoast_285 at h
  refine g_run 2 (pc' := 289) (L' := [some (.ref 526), none, none, none]) (S' := [.int ((gI g 526 4))]) (M' := gm g) rfl ?_
  cases h
  exact g_ret rfl rfl rfl rfl
def f_X12_readCoast_281 (g : zSg) : Option (Int32 × zSg) := (zB (f_X12_bad g) (fun v1 g2 => f_X12_readCoast_285 g2))
set_option maxRecDepth 100000 in
set_option maxHeartbeats 4000000 in
theorem p_X12_readCoast_281 {sc : zSc} {hp : zHp} {d : Nat} (hD : 4 ≤ d) (g : zSg) (r : Int32 × zSg) (h : f_X12_readCoast_281 g = some r) : zG d sc hp (zcd zM_X12_readCoast) 281 [some (.ref 526), none, none, none] [] (gm g) ((some (.int r.1)), gm r.2) := by
  obtain ⟨d, rfl⟩ : ∃ d', d = d' + 1 := ⟨d - 1, by omega⟩
  unfold f_X12_readCoast_281 at h
  refine g_run 1 (pc' := 282) (L' := [some (.ref 526), none, none, none]) (S' := [.ref 526]) (M' := gm g) rfl ?_
  replace h := zB_of h
  obtain ⟨v1, g2, e3, h⟩ := h
  refine g_inv2 (kd := 1) (p_X12_bad  e3) rfl rfl rfl (by decide) rfl rfl rfl rfl (by omega) (pc' := 285) rfl (S' := []) rfl ?_
  exact p_X12_readCoast_285 hD g2 _ h
def f_X12_readCoast_258 (g : zSg) : Option (Int32 × zSg) := (if ¬ (gI g 526 4) = (-1) then f_X12_readCoast_285 g else (zB (f_X12_look g) (fun v2 g3 => (if ¬ v2 = (-1) then f_X12_readCoast_281 g3 else (zB (f_X12_isWhole g3) (fun v6 g7 => (if ¬ v6 = 0 then f_X12_readCoast_285 g7 else f_X12_readCoast_281 g7)))))))
set_option maxRecDepth 100000 in
set_option maxHeartbeats 4000000 in
theorem p_X12_readCoast_258 {sc : zSc} {hp : zHp} {d : Nat} (hD : 4 ≤ d) (g : zSg) (r : Int32 × zSg) (h : f_X12_readCoast_258 g = some r) : zG d sc hp (zcd zM_X12_readCoast) 258 [some (.ref 526), none, none, none] [] (gm g) ((some (.int r.1)), gm r.2) := by
  obtain ⟨d, rfl⟩ : ∃ d', d = d' + 1 := ⟨d - 1, by omega⟩
  unfold f_X12_readCoast_258 at h
  refine g_run 3 (pc' := 263) (L' := [some (.ref 526), none, none, none]) (S' := [.int (-1), .int ((gI g 526 4))]) (M' := gm g) rfl ?_
  refine g_icmp (¬ (gI g 526 4) = (-1)) rfl (t := 285) rfl rfl (fun c1 => ?_) (fun c1 => ?_)
  · replace h := (if_pos c1).symm.trans h
    exact p_X12_readCoast_285 hD g _ h
  · replace h := (if_neg c1).symm.trans h
    refine g_run 1 (pc' := 267) (L' := [some (.ref 526), none, none, none]) (S' := [.ref 526]) (M' := gm g) rfl ?_
    replace h := zB_of h
    obtain ⟨v2, g3, e4, h⟩ := h
    refine g_inv2 (kd := 1) (p_X12_look  e4) rfl rfl rfl (by decide) rfl rfl rfl rfl (by omega) (pc' := 270) rfl (S' := [.int v2]) rfl ?_
    refine g_run 1 (pc' := 271) (L' := [some (.ref 526), none, none, none]) (S' := [.int (-1), .int v2]) (M' := gm g3) rfl ?_
    refine g_icmp (¬ v2 = (-1)) rfl (t := 281) rfl rfl (fun c5 => ?_) (fun c5 => ?_)
    · replace h := (if_pos c5).symm.trans h
      exact p_X12_readCoast_281 hD g3 _ h
    · replace h := (if_neg c5).symm.trans h
      refine g_run 1 (pc' := 275) (L' := [some (.ref 526), none, none, none]) (S' := [.ref 526]) (M' := gm g3) rfl ?_
      replace h := zB_of h
      obtain ⟨v6, g7, e8, h⟩ := h
      refine g_inv2 (kd := 1) (p_X12_isWhole  e8) rfl rfl rfl (by decide) rfl rfl rfl rfl (by omega) (pc' := 278) rfl (S' := [.int v6]) rfl ?_
      refine g_if (¬ v6 = 0) rfl (t := 285) rfl rfl (fun c9 => ?_) (fun c9 => ?_)
      · replace h := (if_pos c9).symm.trans h
        exact p_X12_readCoast_285 hD g7 _ h
      · replace h := (if_neg c9).symm.trans h
        exact p_X12_readCoast_281 hD g7 _ h
def f_X12_readCoast_251 (k49 : Int32 → Int32 → zSg → Option (Int32 × zSg)) (y1 : Int32) (y2 : Int32) (s0 : Int32) (s1 : Int32) (g : zSg) : Option (Int32 × zSg) := k49 (y1) (y2) (gsI g 526 3 (s1 + s0))
set_option maxRecDepth 100000 in
set_option maxHeartbeats 4000000 in
theorem p_X12_readCoast_251 {sc : zSc} {hp : zHp} {d : Nat} (hD : 4 ≤ d) (k49 : Int32 → Int32 → zSg → Option (Int32 × zSg)) (hk49 : ∀ (y1 : Int32) (y2 : Int32) (g : zSg) (r : Int32 × zSg), k49 y1 y2 g = some r → zG d sc hp (zcd zM_X12_readCoast) 49 [some (.ref 526), some (.int y1), some (.int y2), none] [] (gm g) ((some (.int r.1)), gm r.2)) (y1 : Int32) (y2 : Int32) (s0 : Int32) (s1 : Int32) (g : zSg) (r : Int32 × zSg) (h : f_X12_readCoast_251 k49 y1 y2 s0 s1 g = some r) : zG d sc hp (zcd zM_X12_readCoast) 251 [some (.ref 526), some (.int y1), some (.int y2), none] [.int s0, .int s1, .ref 526] (gm g) ((some (.int r.1)), gm r.2) := by
  obtain ⟨d, rfl⟩ : ∃ d', d = d' + 1 := ⟨d - 1, by omega⟩
  unfold f_X12_readCoast_251 at h
  refine g_run 3 (pc' := 49) (L' := [some (.ref 526), some (.int y1), some (.int y2), none]) (S' := []) (M' := gm (gsI g 526 3 (s1 + s0))) rfl ?_
  exact hk49 (y1) (y2) (gsI g 526 3 (s1 + s0)) _ h
def f_X12_readCoast_236 (k49 : Int32 → Int32 → zSg → Option (Int32 × zSg)) (y1 : Int32) (s0 : Int32) (g : zSg) : Option (Int32 × zSg) := (if s0 = 0 then f_X12_readCoast_251 k49 (y1) (s0) (0) (gI g 526 3) g else f_X12_readCoast_251 k49 (y1) (s0) (1) (gI g 526 3) g)
set_option maxRecDepth 100000 in
set_option maxHeartbeats 4000000 in
theorem p_X12_readCoast_236 {sc : zSc} {hp : zHp} {d : Nat} (hD : 4 ≤ d) (k49 : Int32 → Int32 → zSg → Option (Int32 × zSg)) (hk49 : ∀ (y1 : Int32) (y2 : Int32) (g : zSg) (r : Int32 × zSg), k49 y1 y2 g = some r → zG d sc hp (zcd zM_X12_readCoast) 49 [some (.ref 526), some (.int y1), some (.int y2), none] [] (gm g) ((some (.int r.1)), gm r.2)) (y1 : Int32) (s0 : Int32) (g : zSg) (r : Int32 × zSg) (h : f_X12_readCoast_236 k49 y1 s0 g = some r) : zG d sc hp (zcd zM_X12_readCoast) 236 [some (.ref 526), some (.int y1), none, none] [.int s0] (gm g) ((some (.int r.1)), gm r.2) := by
  obtain ⟨d, rfl⟩ : ∃ d', d = d' + 1 := ⟨d - 1, by omega⟩
  unfold f_X12_readCoast_236 at h
  refine g_run 5 (pc' := 243) (L' := [some (.ref 526), some (.int y1), some (.int s0), none]) (S' := [.int s0, .int ((gI g 526 3)), .ref 526]) (M' := gm g) rfl ?_
  refine g_if (s0 = 0) rfl (t := 250) rfl rfl (fun c1 => ?_) (fun c1 => ?_)
  · replace h := (if_pos c1).symm.trans h
    refine g_run 1 (pc' := 251) (L' := [some (.ref 526), some (.int y1), some (.int s0), none]) (S' := [.int 0, .int ((gI g 526 3)), .ref 526]) (M' := gm g) rfl ?_
    exact p_X12_readCoast_251 hD k49 hk49 (y1) (s0) (0) (gI g 526 3) g _ h
  · replace h := (if_neg c1).symm.trans h
    refine g_run 2 (pc' := 251) (L' := [some (.ref 526), some (.int y1), some (.int s0), none]) (S' := [.int 1, .int ((gI g 526 3)), .ref 526]) (M' := gm g) rfl ?_
    exact p_X12_readCoast_251 hD k49 hk49 (y1) (s0) (1) (gI g 526 3) g _ h
def f_X12_readCoast_235 (k49 : Int32 → Int32 → zSg → Option (Int32 × zSg)) (y1 : Int32) (g : zSg) : Option (Int32 × zSg) := f_X12_readCoast_236 k49 (y1) (0) g
set_option maxRecDepth 100000 in
set_option maxHeartbeats 4000000 in
theorem p_X12_readCoast_235 {sc : zSc} {hp : zHp} {d : Nat} (hD : 4 ≤ d) (k49 : Int32 → Int32 → zSg → Option (Int32 × zSg)) (hk49 : ∀ (y1 : Int32) (y2 : Int32) (g : zSg) (r : Int32 × zSg), k49 y1 y2 g = some r → zG d sc hp (zcd zM_X12_readCoast) 49 [some (.ref 526), some (.int y1), some (.int y2), none] [] (gm g) ((some (.int r.1)), gm r.2)) (y1 : Int32) (g : zSg) (r : Int32 × zSg) (h : f_X12_readCoast_235 k49 y1 g = some r) : zG d sc hp (zcd zM_X12_readCoast) 235 [some (.ref 526), some (.int y1), none, none] [] (gm g) ((some (.int r.1)), gm r.2) := by
  obtain ⟨d, rfl⟩ : ∃ d', d = d' + 1 := ⟨d - 1, by omega⟩
  unfold f_X12_readCoast_235 at h
  refine g_run 1 (pc' := 236) (L' := [some (.ref 526), some (.int y1), none, none]) (S' := [.int 0]) (M' := gm g) rfl ?_
  exact p_X12_readCoast_236 hD k49 hk49 (y1) (0) g _ h
def f_X12_readCoast_214 (k49 : Int32 → Int32 → zSg → Option (Int32 × zSg)) (y1 : Int32) (g : zSg) : Option (Int32 × zSg) := (if ¬ (gI g 526 4) = (-1) then f_X12_readCoast_235 k49 (y1) g else (zB (f_X12_look g) (fun v2 g3 => (if ¬ v2 = 59 then f_X12_readCoast_235 k49 (y1) g3 else f_X12_readCoast_236 k49 (y1) (1) g3))))
set_option maxRecDepth 100000 in
set_option maxHeartbeats 4000000 in
theorem p_X12_readCoast_214 {sc : zSc} {hp : zHp} {d : Nat} (hD : 4 ≤ d) (k49 : Int32 → Int32 → zSg → Option (Int32 × zSg)) (hk49 : ∀ (y1 : Int32) (y2 : Int32) (g : zSg) (r : Int32 × zSg), k49 y1 y2 g = some r → zG d sc hp (zcd zM_X12_readCoast) 49 [some (.ref 526), some (.int y1), some (.int y2), none] [] (gm g) ((some (.int r.1)), gm r.2)) (y1 : Int32) (g : zSg) (r : Int32 × zSg) (h : f_X12_readCoast_214 k49 y1 g = some r) : zG d sc hp (zcd zM_X12_readCoast) 214 [some (.ref 526), some (.int y1), none, none] [] (gm g) ((some (.int r.1)), gm r.2) := by
  obtain ⟨d, rfl⟩ : ∃ d', d = d' + 1 := ⟨d - 1, by omega⟩
  unfold f_X12_readCoast_214 at h
  refine g_run 3 (pc' := 219) (L' := [some (.ref 526), some (.int y1), none, none]) (S' := [.int (-1), .int ((gI g 526 4))]) (M' := gm g) rfl ?_
  refine g_icmp (¬ (gI g 526 4) = (-1)) rfl (t := 235) rfl rfl (fun c1 => ?_) (fun c1 => ?_)
  · replace h := (if_pos c1).symm.trans h
    exact p_X12_readCoast_235 hD k49 hk49 (y1) g _ h
  · replace h := (if_neg c1).symm.trans h
    refine g_run 1 (pc' := 223) (L' := [some (.ref 526), some (.int y1), none, none]) (S' := [.ref 526]) (M' := gm g) rfl ?_
    replace h := zB_of h
    obtain ⟨v2, g3, e4, h⟩ := h
    refine g_inv2 (kd := 1) (p_X12_look  e4) rfl rfl rfl (by decide) rfl rfl rfl rfl (by omega) (pc' := 226) rfl (S' := [.int v2]) rfl ?_
    refine g_run 1 (pc' := 228) (L' := [some (.ref 526), some (.int y1), none, none]) (S' := [.int 59, .int v2]) (M' := gm g3) rfl ?_
    refine g_icmp (¬ v2 = 59) rfl (t := 235) rfl rfl (fun c5 => ?_) (fun c5 => ?_)
    · replace h := (if_pos c5).symm.trans h
      exact p_X12_readCoast_235 hD k49 hk49 (y1) g3 _ h
    · replace h := (if_neg c5).symm.trans h
      refine g_run 2 (pc' := 236) (L' := [some (.ref 526), some (.int y1), none, none]) (S' := [.int 1]) (M' := gm g3) rfl ?_
      exact p_X12_readCoast_236 hD k49 hk49 (y1) (1) g3 _ h
def f_X12_readCoast_210 (k49 : Int32 → Int32 → zSg → Option (Int32 × zSg)) (y1 : Int32) (g : zSg) : Option (Int32 × zSg) := (zB (f_X12_bad g) (fun v1 g2 => f_X12_readCoast_214 k49 (y1) g2))
set_option maxRecDepth 100000 in
set_option maxHeartbeats 4000000 in
theorem p_X12_readCoast_210 {sc : zSc} {hp : zHp} {d : Nat} (hD : 4 ≤ d) (k49 : Int32 → Int32 → zSg → Option (Int32 × zSg)) (hk49 : ∀ (y1 : Int32) (y2 : Int32) (g : zSg) (r : Int32 × zSg), k49 y1 y2 g = some r → zG d sc hp (zcd zM_X12_readCoast) 49 [some (.ref 526), some (.int y1), some (.int y2), none] [] (gm g) ((some (.int r.1)), gm r.2)) (y1 : Int32) (g : zSg) (r : Int32 × zSg) (h : f_X12_readCoast_210 k49 y1 g = some r) : zG d sc hp (zcd zM_X12_readCoast) 210 [some (.ref 526), some (.int y1), none, none] [] (gm g) ((some (.int r.1)), gm r.2) := by
  obtain ⟨d, rfl⟩ : ∃ d', d = d' + 1 := ⟨d - 1, by omega⟩
  unfold f_X12_readCoast_210 at h
  refine g_run 1 (pc' := 211) (L' := [some (.ref 526), some (.int y1), none, none]) (S' := [.ref 526]) (M' := gm g) rfl ?_
  replace h := zB_of h
  obtain ⟨v1, g2, e3, h⟩ := h
  refine g_inv2 (kd := 1) (p_X12_bad  e3) rfl rfl rfl (by decide) rfl rfl rfl rfl (by omega) (pc' := 214) rfl (S' := []) rfl ?_
  exact p_X12_readCoast_214 hD k49 hk49 (y1) g2 _ h
def f_X12_readCoast_156 (k49 : Int32 → Int32 → zSg → Option (Int32 × zSg)) (y1 : Int32) (y3 : Int32) (g : zSg) : Option (Int32 × zSg) := (if ¬ y3 = 99 then f_X12_readCoast_210 k49 (y1) g else (if 6 ≤ (gI g 526 21) then f_X12_readCoast_210 k49 (y1) g else (zB (f_X12_items 539 y3 (4 * (gI (gsI g 526 3 ((gI g 526 3) + 1)) 526 21)) 4 (gsI g 526 3 ((gI g 526 3) + 1))) (fun v3 g4 => f_X12_readCoast_214 k49 (y1) (gsI g4 526 21 ((gI g4 526 21) + 1))))))
set_option maxRecDepth 100000 in
set_option maxHeartbeats 4000000 in
theorem p_X12_readCoast_156 {sc : zSc} {hp : zHp} {d : Nat} (hD : 4 ≤ d) (k49 : Int32 → Int32 → zSg → Option (Int32 × zSg)) (hk49 : ∀ (y1 : Int32) (y2 : Int32) (g : zSg) (r : Int32 × zSg), k49 y1 y2 g = some r → zG d sc hp (zcd zM_X12_readCoast) 49 [some (.ref 526), some (.int y1), some (.int y2), none] [] (gm g) ((some (.int r.1)), gm r.2)) (y1 : Int32) (y3 : Int32) (g : zSg) (r : Int32 × zSg) (h : f_X12_readCoast_156 k49 y1 y3 g = some r) : zG d sc hp (zcd zM_X12_readCoast) 156 [some (.ref 526), some (.int y1), none, some (.int y3)] [] (gm g) ((some (.int r.1)), gm r.2) := by
  obtain ⟨d, rfl⟩ : ∃ d', d = d' + 1 := ⟨d - 1, by omega⟩
  unfold f_X12_readCoast_156 at h
  refine g_run 2 (pc' := 159) (L' := [some (.ref 526), some (.int y1), none, some (.int y3)]) (S' := [.int 99, .int y3]) (M' := gm g) rfl ?_
  refine g_icmp (¬ y3 = 99) rfl (t := 210) rfl rfl (fun c1 => ?_) (fun c1 => ?_)
  · replace h := (if_pos c1).symm.trans h
    refine g_forget (L' := [some (.ref 526), some (.int y1), none, none]) (And.intro rfl (And.intro rfl True.intro)) ?_
    exact p_X12_readCoast_210 hD k49 hk49 (y1) g _ h
  · replace h := (if_neg c1).symm.trans h
    refine g_run 3 (pc' := 168) (L' := [some (.ref 526), some (.int y1), none, some (.int y3)]) (S' := [.int 6, .int ((gI g 526 21))]) (M' := gm g) rfl ?_
    refine g_icmp (6 ≤ (gI g 526 21)) rfl (t := 210) rfl rfl (fun c2 => ?_) (fun c2 => ?_)
    · replace h := (if_pos c2).symm.trans h
      refine g_forget (L' := [some (.ref 526), some (.int y1), none, none]) (And.intro rfl (And.intro rfl True.intro)) ?_
      exact p_X12_readCoast_210 hD k49 hk49 (y1) g _ h
    · replace h := (if_neg c2).symm.trans h
      refine g_run 15 (pc' := 194) (L' := [some (.ref 526), some (.int y1), none, some (.int y3)]) (S' := [.int 4, .int ((4 * (gI (gsI g 526 3 ((gI g 526 3) + 1)) 526 21))), .ref 539, .int y3, .ref 526]) (M' := gm (gsI g 526 3 ((gI g 526 3) + 1))) rfl ?_
      replace h := zB_of h
      obtain ⟨v3, g4, e5, h⟩ := h
      refine g_inv2 (kd := 1) (p_X12_items 539 rfl e5) rfl rfl rfl (by decide) rfl rfl rfl rfl (by omega) (pc' := 197) rfl (S' := []) rfl ?_
      refine g_run 7 (pc' := 214) (L' := [some (.ref 526), some (.int y1), none, some (.int y3)]) (S' := []) (M' := gm (gsI g4 526 21 ((gI g4 526 21) + 1))) rfl ?_
      refine g_forget (L' := [some (.ref 526), some (.int y1), none, none]) (And.intro rfl (And.intro rfl True.intro)) ?_
      exact p_X12_readCoast_214 hD k49 hk49 (y1) (gsI g4 526 21 ((gI g4 526 21) + 1)) _ h
def f_X12_readCoast_102 (k49 : Int32 → Int32 → zSg → Option (Int32 × zSg)) (y1 : Int32) (y3 : Int32) (g : zSg) : Option (Int32 × zSg) := (if ¬ y3 = 112 then f_X12_readCoast_156 k49 (y1) (y3) g else (if 6 ≤ (gI g 526 20) then f_X12_readCoast_156 k49 (y1) (y3) g else (zB (f_X12_items 538 y3 (3 * (gI (gsI g 526 3 ((gI g 526 3) + 1)) 526 20)) 3 (gsI g 526 3 ((gI g 526 3) + 1))) (fun v3 g4 => f_X12_readCoast_214 k49 (y1) (gsI g4 526 20 ((gI g4 526 20) + 1))))))
set_option maxRecDepth 100000 in
set_option maxHeartbeats 4000000 in
theorem p_X12_readCoast_102 {sc : zSc} {hp : zHp} {d : Nat} (hD : 4 ≤ d) (k49 : Int32 → Int32 → zSg → Option (Int32 × zSg)) (hk49 : ∀ (y1 : Int32) (y2 : Int32) (g : zSg) (r : Int32 × zSg), k49 y1 y2 g = some r → zG d sc hp (zcd zM_X12_readCoast) 49 [some (.ref 526), some (.int y1), some (.int y2), none] [] (gm g) ((some (.int r.1)), gm r.2)) (y1 : Int32) (y3 : Int32) (g : zSg) (r : Int32 × zSg) (h : f_X12_readCoast_102 k49 y1 y3 g = some r) : zG d sc hp (zcd zM_X12_readCoast) 102 [some (.ref 526), some (.int y1), none, some (.int y3)] [] (gm g) ((some (.int r.1)), gm r.2) := by
  obtain ⟨d, rfl⟩ : ∃ d', d = d' + 1 := ⟨d - 1, by omega⟩
  unfold f_X12_readCoast_102 at h
  refine g_run 2 (pc' := 105) (L' := [some (.ref 526), some (.int y1), none, some (.int y3)]) (S' := [.int 112, .int y3]) (M' := gm g) rfl ?_
  refine g_icmp (¬ y3 = 112) rfl (t := 156) rfl rfl (fun c1 => ?_) (fun c1 => ?_)
  · replace h := (if_pos c1).symm.trans h
    exact p_X12_readCoast_156 hD k49 hk49 (y1) (y3) g _ h
  · replace h := (if_neg c1).symm.trans h
    refine g_run 3 (pc' := 114) (L' := [some (.ref 526), some (.int y1), none, some (.int y3)]) (S' := [.int 6, .int ((gI g 526 20))]) (M' := gm g) rfl ?_
    refine g_icmp (6 ≤ (gI g 526 20)) rfl (t := 156) rfl rfl (fun c2 => ?_) (fun c2 => ?_)
    · replace h := (if_pos c2).symm.trans h
      exact p_X12_readCoast_156 hD k49 hk49 (y1) (y3) g _ h
    · replace h := (if_neg c2).symm.trans h
      refine g_run 15 (pc' := 140) (L' := [some (.ref 526), some (.int y1), none, some (.int y3)]) (S' := [.int 3, .int ((3 * (gI (gsI g 526 3 ((gI g 526 3) + 1)) 526 20))), .ref 538, .int y3, .ref 526]) (M' := gm (gsI g 526 3 ((gI g 526 3) + 1))) rfl ?_
      replace h := zB_of h
      obtain ⟨v3, g4, e5, h⟩ := h
      refine g_inv2 (kd := 1) (p_X12_items 538 rfl e5) rfl rfl rfl (by decide) rfl rfl rfl rfl (by omega) (pc' := 143) rfl (S' := []) rfl ?_
      refine g_run 7 (pc' := 214) (L' := [some (.ref 526), some (.int y1), none, some (.int y3)]) (S' := []) (M' := gm (gsI g4 526 20 ((gI g4 526 20) + 1))) rfl ?_
      refine g_forget (L' := [some (.ref 526), some (.int y1), none, none]) (And.intro rfl (And.intro rfl True.intro)) ?_
      exact p_X12_readCoast_214 hD k49 hk49 (y1) (gsI g4 526 20 ((gI g4 526 20) + 1)) _ h
def fb_X12_readCoast_49 (kk : Int32 → Int32 → zSg → Option (Int32 × zSg)) (y1 : Int32) (y2 : Int32) (g : zSg) : Option (Int32 × zSg) := (if y2 = 0 then f_X12_readCoast_258 g else (if ¬ (gI g 526 4) = (-1) then f_X12_readCoast_258 g else (zB (f_X12_look g) (fun v3 g4 => (if ¬ v3 = 115 then f_X12_readCoast_102 kk (y1) (v3) g4 else (if ¬ y1 = 0 then f_X12_readCoast_102 kk (y1) (v3) g4 else (zB (f_X12_items 537 v3 0 5 (gsI g4 526 3 ((gI g4 526 3) + 1))) (fun v8 g9 => f_X12_readCoast_214 kk (1) g9))))))))
def f_X12_readCoast_49 : Nat → Int32 → Int32 → zSg → Option (Int32 × zSg)
  | 0, _, _, _ => none
  | n + 1, y1, y2, g => fb_X12_readCoast_49 (f_X12_readCoast_49 n) y1 y2 g
set_option maxRecDepth 100000 in
set_option maxHeartbeats 4000000 in
theorem p_X12_readCoast_49 {sc : zSc} {hp : zHp} {d : Nat} (hD : 4 ≤ d) : ∀ (n : Nat) (y1 : Int32) (y2 : Int32) (g : zSg) (r : Int32 × zSg), f_X12_readCoast_49 n y1 y2 g = some r → zG d sc hp (zcd zM_X12_readCoast) 49 [some (.ref 526), some (.int y1), some (.int y2), none] [] (gm g) ((some (.int r.1)), gm r.2) := by
  obtain ⟨d, rfl⟩ : ∃ d', d = d' + 1 := ⟨d - 1, by omega⟩
  intro n
  induction n with
  | zero => intro y1 y2 g r h; cases h
  | succ n ih =>
    intro y1 y2 g r h
    replace h : fb_X12_readCoast_49 (f_X12_readCoast_49 n) y1 y2 g = some r := h
    unfold fb_X12_readCoast_49 at h
    refine g_run 1 (pc' := 50) (L' := [some (.ref 526), some (.int y1), some (.int y2), none]) (S' := [.int y2]) (M' := gm g) rfl ?_
    refine g_if (y2 = 0) rfl (t := 258) rfl rfl (fun c1 => ?_) (fun c1 => ?_)
    · replace h := (if_pos c1).symm.trans h
      refine g_forget (L' := [some (.ref 526), none, none, none]) (And.intro rfl True.intro) ?_
      exact p_X12_readCoast_258 hD g _ h
    · replace h := (if_neg c1).symm.trans h
      refine g_run 3 (pc' := 58) (L' := [some (.ref 526), some (.int y1), some (.int y2), none]) (S' := [.int (-1), .int ((gI g 526 4))]) (M' := gm g) rfl ?_
      refine g_icmp (¬ (gI g 526 4) = (-1)) rfl (t := 258) rfl rfl (fun c2 => ?_) (fun c2 => ?_)
      · replace h := (if_pos c2).symm.trans h
        refine g_forget (L' := [some (.ref 526), none, none, none]) (And.intro rfl True.intro) ?_
        exact p_X12_readCoast_258 hD g _ h
      · replace h := (if_neg c2).symm.trans h
        refine g_run 1 (pc' := 62) (L' := [some (.ref 526), some (.int y1), some (.int y2), none]) (S' := [.ref 526]) (M' := gm g) rfl ?_
        replace h := zB_of h
        obtain ⟨v3, g4, e5, h⟩ := h
        refine g_inv2 (kd := 1) (p_X12_look  e5) rfl rfl rfl (by decide) rfl rfl rfl rfl (by omega) (pc' := 65) rfl (S' := [.int v3]) rfl ?_
        refine g_run 3 (pc' := 69) (L' := [some (.ref 526), some (.int y1), some (.int y2), some (.int v3)]) (S' := [.int 115, .int v3]) (M' := gm g4) rfl ?_
        refine g_icmp (¬ v3 = 115) rfl (t := 102) rfl rfl (fun c6 => ?_) (fun c6 => ?_)
        · replace h := (if_pos c6).symm.trans h
          refine g_forget (L' := [some (.ref 526), some (.int y1), none, some (.int v3)]) (And.intro rfl (And.intro rfl (And.intro rfl True.intro))) ?_
          exact p_X12_readCoast_102 hD (f_X12_readCoast_49 n) ih (y1) (v3) g4 _ h
        · replace h := (if_neg c6).symm.trans h
          refine g_run 1 (pc' := 73) (L' := [some (.ref 526), some (.int y1), some (.int y2), some (.int v3)]) (S' := [.int y1]) (M' := gm g4) rfl ?_
          refine g_if (¬ y1 = 0) rfl (t := 102) rfl rfl (fun c7 => ?_) (fun c7 => ?_)
          · replace h := (if_pos c7).symm.trans h
            refine g_forget (L' := [some (.ref 526), some (.int y1), none, some (.int v3)]) (And.intro rfl (And.intro rfl (And.intro rfl True.intro))) ?_
            exact p_X12_readCoast_102 hD (f_X12_readCoast_49 n) ih (y1) (v3) g4 _ h
          · replace h := (if_neg c7).symm.trans h
            refine g_run 14 (pc' := 96) (L' := [some (.ref 526), some (.int 1), some (.int y2), some (.int v3)]) (S' := [.int 5, .int 0, .ref 537, .int v3, .ref 526]) (M' := gm (gsI g4 526 3 ((gI g4 526 3) + 1))) rfl ?_
            replace h := zB_of h
            obtain ⟨v8, g9, e10, h⟩ := h
            refine g_inv2 (kd := 1) (p_X12_items 537 rfl e10) rfl rfl rfl (by decide) rfl rfl rfl rfl (by omega) (pc' := 99) rfl (S' := []) rfl ?_
            refine g_run 1 (pc' := 214) (L' := [some (.ref 526), some (.int 1), some (.int y2), some (.int v3)]) (S' := []) (M' := gm g9) rfl ?_
            refine g_forget (L' := [some (.ref 526), some (.int 1), none, none]) (And.intro rfl (And.intro rfl True.intro)) ?_
            exact p_X12_readCoast_214 hD (f_X12_readCoast_49 n) ih (1) g9 _ h
def f_X12_readCoast_47 (y1 : Int32) (g : zSg) : Option (Int32 × zSg) := f_X12_readCoast_49 zFu (y1) (1) g
set_option maxRecDepth 100000 in
set_option maxHeartbeats 4000000 in
theorem p_X12_readCoast_47 {sc : zSc} {hp : zHp} {d : Nat} (hD : 4 ≤ d) (y1 : Int32) (g : zSg) (r : Int32 × zSg) (h : f_X12_readCoast_47 y1 g = some r) : zG d sc hp (zcd zM_X12_readCoast) 47 [some (.ref 526), some (.int y1), none, none] [] (gm g) ((some (.int r.1)), gm r.2) := by
  obtain ⟨d, rfl⟩ : ∃ d', d = d' + 1 := ⟨d - 1, by omega⟩
  unfold f_X12_readCoast_47 at h
  refine g_run 2 (pc' := 49) (L' := [some (.ref 526), some (.int y1), some (.int 1), none]) (S' := []) (M' := gm g) rfl ?_
  exact p_X12_readCoast_49 hD zFu (y1) (1) g _ h
def fb_X12_readCoast_24 (kk : Int32 → Int32 → zSg → Option (Int32 × zSg)) (y1 : Int32) (y2 : Int32) (g : zSg) : Option (Int32 × zSg) := (if 5 ≤ y2 then f_X12_readCoast_47 (y1) g else (zB (f_X12_usual 115 y2 g) (fun v2 g3 => (if zib y2 5 = true then kk (y1) (y2 + 1) (gsI g3 (537) (ix y2) v2) else none))))
def f_X12_readCoast_24 : Nat → Int32 → Int32 → zSg → Option (Int32 × zSg)
  | 0, _, _, _ => none
  | n + 1, y1, y2, g => fb_X12_readCoast_24 (f_X12_readCoast_24 n) y1 y2 g
set_option maxRecDepth 100000 in
set_option maxHeartbeats 4000000 in
theorem p_X12_readCoast_24 {sc : zSc} {hp : zHp} {d : Nat} (hD : 4 ≤ d) : ∀ (n : Nat) (y1 : Int32) (y2 : Int32) (g : zSg) (r : Int32 × zSg), f_X12_readCoast_24 n y1 y2 g = some r → zG d sc hp (zcd zM_X12_readCoast) 24 [some (.ref 526), some (.int y1), some (.int y2), none] [] (gm g) ((some (.int r.1)), gm r.2) := by
  obtain ⟨d, rfl⟩ : ∃ d', d = d' + 1 := ⟨d - 1, by omega⟩
  intro n
  induction n with
  | zero => intro y1 y2 g r h; cases h
  | succ n ih =>
    intro y1 y2 g r h
    replace h : fb_X12_readCoast_24 (f_X12_readCoast_24 n) y1 y2 g = some r := h
    unfold fb_X12_readCoast_24 at h
    refine g_run 2 (pc' := 26) (L' := [some (.ref 526), some (.int y1), some (.int y2), none]) (S' := [.int 5, .int y2]) (M' := gm g) rfl ?_
    refine g_icmp (5 ≤ y2) rfl (t := 47) rfl rfl (fun c1 => ?_) (fun c1 => ?_)
    · replace h := (if_pos c1).symm.trans h
      refine g_forget (L' := [some (.ref 526), some (.int y1), none, none]) (And.intro rfl (And.intro rfl True.intro)) ?_
      exact p_X12_readCoast_47 hD (y1) g _ h
    · replace h := (if_neg c1).symm.trans h
      refine g_run 5 (pc' := 37) (L' := [some (.ref 526), some (.int y1), some (.int y2), none]) (S' := [.int y2, .int 115, .int y2, .ref 537]) (M' := gm g) rfl ?_
      replace h := zB_of h
      obtain ⟨v2, g3, e4, h⟩ := h
      refine g_inv2 (kd := 0) (p_X12_usual  e4) rfl rfl rfl (by decide) rfl rfl rfl rfl (by omega) (pc' := 40) rfl (S' := [.int v2, .int y2, .ref 537]) rfl ?_
      by_cases c5 : zib y2 5 = true
      case neg => exact nomatch ((if_neg c5).symm.trans h)
      replace h := (if_pos c5).symm.trans h
      refine g_iast rfl (a := 537) rfl c5 ?_
      refine g_run 2 (pc' := 24) (L' := [some (.ref 526), some (.int y1), some (.int ((y2 + 1))), none]) (S' := []) (M' := gm (gsI g3 (537) (ix y2) v2)) rfl ?_
      exact ih (y1) (y2 + 1) (gsI g3 (537) (ix y2) v2) _ h
def f_X12_readCoast (g : zSg) : Option (Int32 × zSg) := f_X12_readCoast_24 zFu (0) (0) (gsI (gsI (gsI (gsI g 526 3 0) 526 4 (-1)) 526 20 0) 526 21 0)
set_option maxRecDepth 100000 in
set_option maxHeartbeats 4000000 in
theorem p_X12_readCoast {sc : zSc} {hp : zHp} {g : zSg} {r : Int32 × zSg} (h : f_X12_readCoast g = some r) : zRn sc hp 4 zM_X12_readCoast [.ref 526] (gm g) (some (.int r.1)) (gm r.2) := by
  intro d hD
  obtain ⟨d, rfl⟩ : ∃ d', d = d' + 1 := ⟨d - 1, by omega⟩
  show zG _ sc hp (zcd zM_X12_readCoast) 0 [some (.ref 526), none, none, none] [] (gm g) _
  unfold f_X12_readCoast at h
  refine g_run 16 (pc' := 24) (L' := [some (.ref 526), some (.int 0), some (.int 0), none]) (S' := []) (M' := gm (gsI (gsI (gsI (gsI g 526 3 0) 526 4 (-1)) 526 20 0) 526 21 0)) rfl ?_
  exact p_X12_readCoast_24 hD zFu (0) (0) (gsI (gsI (gsI (gsI g 526 3 0) 526 4 (-1)) 526 20 0) 526 21 0) _ h
def f_X12_ofPerson (x1 : Int32) (x2 : Int32) (g : zSg) : Option (Int32 × zSg) := (if zib ((3 * x1) + x2) 18 = true then some ((gI g 541 (ix ((3 * x1) + x2))), g) else none)
set_option maxRecDepth 100000 in
set_option maxHeartbeats 4000000 in
theorem p_X12_ofPerson {sc : zSc} {hp : zHp} {x1 : Int32} {x2 : Int32} {g : zSg} {r : Int32 × zSg} (h : f_X12_ofPerson x1 x2 g = some r) : zRn sc hp 0 zM_X12_ofPerson [.ref 526, .int x1, .int x2] (gm g) (some (.int r.1)) (gm r.2) := by
  intro d hD
  show zG _ sc hp (zcd zM_X12_ofPerson) 0 [some (.ref 526), some (.int x1), some (.int x2)] [] (gm g) _
  unfold f_X12_ofPerson at h
  refine g_run 7 (pc' := 9) (L' := [some (.ref 526), some (.int x1), some (.int x2)]) (S' := [.int (((3 * x1) + x2)), .ref 541]) (M' := gm g) rfl ?_
  by_cases c1 : zib ((3 * x1) + x2) 18 = true
  case neg => exact nomatch ((if_neg c1).symm.trans h)
  replace h := (if_pos c1).symm.trans h
  refine g_iald rfl (a := 541) rfl c1 ?_
  cases h
  exact g_ret rfl rfl rfl rfl
def f_X12_takeCoast_176 (g : zSg) : Option (Int32 × zSg) := some ((gI (gsI (gsI (gsI (gsI (gsI (gsI g 543 50 (gI g 540 4)) 543 51 (gI (gsI g 543 50 (gI g 540 4)) 540 2)) 543 52 (gI (gsI (gsI g 543 50 (gI g 540 4)) 543 51 (gI (gsI g 543 50 (gI g 540 4)) 540 2)) 540 3)) 526 43 0) 526 35 0) 526 47 0) 526 27), (gsI (gsI (gsI (gsI (gsI (gsI g 543 50 (gI g 540 4)) 543 51 (gI (gsI g 543 50 (gI g 540 4)) 540 2)) 543 52 (gI (gsI (gsI g 543 50 (gI g 540 4)) 543 51 (gI (gsI g 543 50 (gI g 540 4)) 540 2)) 540 3)) 526 43 0) 526 35 0) 526 47 0))
set_option maxRecDepth 100000 in
set_option maxHeartbeats 4000000 in
theorem p_X12_takeCoast_176 {sc : zSc} {hp : zHp} {d : Nat} (hD : 1 ≤ d) (g : zSg) (r : Int32 × zSg) (h : f_X12_takeCoast_176 g = some r) : zG d sc hp (zcd zM_X12_takeCoast) 176 [some (.ref 526), none] [] (gm g) ((some (.int r.1)), gm r.2) := by
  obtain ⟨d, rfl⟩ : ∃ d', d = d' + 1 := ⟨d - 1, by omega⟩
  unfold f_X12_takeCoast_176 at h
  refine g_run 35 (pc' := 234) (L' := [some (.ref 526), none]) (S' := [.int ((gI (gsI (gsI (gsI (gsI (gsI (gsI g 543 50 (gI g 540 4)) 543 51 (gI (gsI g 543 50 (gI g 540 4)) 540 2)) 543 52 (gI (gsI (gsI g 543 50 (gI g 540 4)) 543 51 (gI (gsI g 543 50 (gI g 540 4)) 540 2)) 540 3)) 526 43 0) 526 35 0) 526 47 0) 526 27))]) (M' := gm (gsI (gsI (gsI (gsI (gsI (gsI g 543 50 (gI g 540 4)) 543 51 (gI (gsI g 543 50 (gI g 540 4)) 540 2)) 543 52 (gI (gsI (gsI g 543 50 (gI g 540 4)) 543 51 (gI (gsI g 543 50 (gI g 540 4)) 540 2)) 540 3)) 526 43 0) 526 35 0) 526 47 0)) rfl ?_
  cases h
  exact g_ret rfl rfl rfl rfl
def fb_X12_takeCoast_134 (kk : Int32 → zSg → Option (Int32 × zSg)) (y1 : Int32) (g : zSg) : Option (Int32 × zSg) := (if (gI g 526 25) ≤ y1 then f_X12_takeCoast_176 g else (zB (f_X12_ofPerson y1 1 g) (fun v2 g3 => (zB (f_X12_ofPerson y1 0 g3) (fun v5 g6 => (if zib (0 + y1) 235 = true then kk (y1 + 1) (gsI g6 (543) (ix (0 + y1)) (((gI g 540 0) * v2) + v5)) else none))))))
def f_X12_takeCoast_134 : Nat → Int32 → zSg → Option (Int32 × zSg)
  | 0, _, _ => none
  | n + 1, y1, g => fb_X12_takeCoast_134 (f_X12_takeCoast_134 n) y1 g
set_option maxRecDepth 100000 in
set_option maxHeartbeats 4000000 in
theorem p_X12_takeCoast_134 {sc : zSc} {hp : zHp} {d : Nat} (hD : 1 ≤ d) : ∀ (n : Nat) (y1 : Int32) (g : zSg) (r : Int32 × zSg), f_X12_takeCoast_134 n y1 g = some r → zG d sc hp (zcd zM_X12_takeCoast) 134 [some (.ref 526), some (.int y1)] [] (gm g) ((some (.int r.1)), gm r.2) := by
  obtain ⟨d, rfl⟩ : ∃ d', d = d' + 1 := ⟨d - 1, by omega⟩
  intro n
  induction n with
  | zero => intro y1 g r h; cases h
  | succ n ih =>
    intro y1 g r h
    replace h : fb_X12_takeCoast_134 (f_X12_takeCoast_134 n) y1 g = some r := h
    unfold fb_X12_takeCoast_134 at h
    refine g_run 3 (pc' := 139) (L' := [some (.ref 526), some (.int y1)]) (S' := [.int ((gI g 526 25)), .int y1]) (M' := gm g) rfl ?_
    refine g_icmp ((gI g 526 25) ≤ y1) rfl (t := 176) rfl rfl (fun c1 => ?_) (fun c1 => ?_)
    · replace h := (if_pos c1).symm.trans h
      refine g_forget (L' := [some (.ref 526), none]) (And.intro rfl True.intro) ?_
      exact p_X12_takeCoast_176 hD g _ h
    · replace h := (if_neg c1).symm.trans h
      refine g_run 12 (pc' := 158) (L' := [some (.ref 526), some (.int y1)]) (S' := [.int 1, .int y1, .ref 526, .int ((gI g 540 0)), .int ((0 + y1)), .ref 543]) (M' := gm g) rfl ?_
      replace h := zB_of h
      obtain ⟨v2, g3, e4, h⟩ := h
      refine g_inv2 (kd := 1) (p_X12_ofPerson  e4) rfl rfl rfl (by decide) rfl rfl rfl rfl (by omega) (pc' := 161) rfl (S' := [.int v2, .int ((gI g 540 0)), .int ((0 + y1)), .ref 543]) rfl ?_
      refine g_run 4 (pc' := 165) (L' := [some (.ref 526), some (.int y1)]) (S' := [.int 0, .int y1, .ref 526, .int (((gI g 540 0) * v2)), .int ((0 + y1)), .ref 543]) (M' := gm g3) rfl ?_
      replace h := zB_of h
      obtain ⟨v5, g6, e7, h⟩ := h
      refine g_inv2 (kd := 1) (p_X12_ofPerson  e7) rfl rfl rfl (by decide) rfl rfl rfl rfl (by omega) (pc' := 168) rfl (S' := [.int v5, .int (((gI g 540 0) * v2)), .int ((0 + y1)), .ref 543]) rfl ?_
      refine g_run 1 (pc' := 169) (L' := [some (.ref 526), some (.int y1)]) (S' := [.int ((((gI g 540 0) * v2) + v5)), .int ((0 + y1)), .ref 543]) (M' := gm g6) rfl ?_
      by_cases c8 : zib (0 + y1) 235 = true
      case neg => exact nomatch ((if_neg c8).symm.trans h)
      replace h := (if_pos c8).symm.trans h
      refine g_iast rfl (a := 543) rfl c8 ?_
      refine g_run 2 (pc' := 134) (L' := [some (.ref 526), some (.int ((y1 + 1)))]) (S' := []) (M' := gm (gsI g6 (543) (ix (0 + y1)) (((gI g 540 0) * v2) + v5))) rfl ?_
      exact ih (y1 + 1) (gsI g6 (543) (ix (0 + y1)) (((gI g 540 0) * v2) + v5)) _ h
def f_X12_takeCoast_132 (g : zSg) : Option (Int32 × zSg) := f_X12_takeCoast_134 zFu (0) g
set_option maxRecDepth 100000 in
set_option maxHeartbeats 4000000 in
theorem p_X12_takeCoast_132 {sc : zSc} {hp : zHp} {d : Nat} (hD : 1 ≤ d) (g : zSg) (r : Int32 × zSg) (h : f_X12_takeCoast_132 g = some r) : zG d sc hp (zcd zM_X12_takeCoast) 132 [some (.ref 526), none] [] (gm g) ((some (.int r.1)), gm r.2) := by
  obtain ⟨d, rfl⟩ : ∃ d', d = d' + 1 := ⟨d - 1, by omega⟩
  unfold f_X12_takeCoast_132 at h
  refine g_run 2 (pc' := 134) (L' := [some (.ref 526), some (.int 0)]) (S' := []) (M' := gm g) rfl ?_
  exact p_X12_takeCoast_134 hD zFu (0) g _ h
def fb_X12_takeCoast_112 (kk : Int32 → zSg → Option (Int32 × zSg)) (y1 : Int32) (g : zSg) : Option (Int32 × zSg) := (if 235 ≤ y1 then f_X12_takeCoast_132 g else (if zib y1 235 = true then kk (y1 + 1) (gsI g (543) (ix y1) 0) else none))
def f_X12_takeCoast_112 : Nat → Int32 → zSg → Option (Int32 × zSg)
  | 0, _, _ => none
  | n + 1, y1, g => fb_X12_takeCoast_112 (f_X12_takeCoast_112 n) y1 g
set_option maxRecDepth 100000 in
set_option maxHeartbeats 4000000 in
theorem p_X12_takeCoast_112 {sc : zSc} {hp : zHp} {d : Nat} (hD : 1 ≤ d) : ∀ (n : Nat) (y1 : Int32) (g : zSg) (r : Int32 × zSg), f_X12_takeCoast_112 n y1 g = some r → zG d sc hp (zcd zM_X12_takeCoast) 112 [some (.ref 526), some (.int y1)] [] (gm g) ((some (.int r.1)), gm r.2) := by
  obtain ⟨d, rfl⟩ : ∃ d', d = d' + 1 := ⟨d - 1, by omega⟩
  intro n
  induction n with
  | zero => intro y1 g r h; cases h
  | succ n ih =>
    intro y1 g r h
    replace h : fb_X12_takeCoast_112 (f_X12_takeCoast_112 n) y1 g = some r := h
    unfold fb_X12_takeCoast_112 at h
    refine g_run 2 (pc' := 116) (L' := [some (.ref 526), some (.int y1)]) (S' := [.int 235, .int y1]) (M' := gm g) rfl ?_
    refine g_icmp (235 ≤ y1) rfl (t := 132) rfl rfl (fun c1 => ?_) (fun c1 => ?_)
    · replace h := (if_pos c1).symm.trans h
      refine g_forget (L' := [some (.ref 526), none]) (And.intro rfl True.intro) ?_
      exact p_X12_takeCoast_132 hD g _ h
    · replace h := (if_neg c1).symm.trans h
      refine g_run 4 (pc' := 125) (L' := [some (.ref 526), some (.int y1)]) (S' := [.int 0, .int y1, .ref 543]) (M' := gm g) rfl ?_
      by_cases c2 : zib y1 235 = true
      case neg => exact nomatch ((if_neg c2).symm.trans h)
      replace h := (if_pos c2).symm.trans h
      refine g_iast rfl (a := 543) rfl c2 ?_
      refine g_run 2 (pc' := 112) (L' := [some (.ref 526), some (.int ((y1 + 1)))]) (S' := []) (M' := gm (gsI g (543) (ix y1) 0)) rfl ?_
      exact ih (y1 + 1) (gsI g (543) (ix y1) 0) _ h
def f_X12_takeCoast_110 (g : zSg) : Option (Int32 × zSg) := f_X12_takeCoast_112 zFu (0) g
set_option maxRecDepth 100000 in
set_option maxHeartbeats 4000000 in
theorem p_X12_takeCoast_110 {sc : zSc} {hp : zHp} {d : Nat} (hD : 1 ≤ d) (g : zSg) (r : Int32 × zSg) (h : f_X12_takeCoast_110 g = some r) : zG d sc hp (zcd zM_X12_takeCoast) 110 [some (.ref 526), none] [] (gm g) ((some (.int r.1)), gm r.2) := by
  obtain ⟨d, rfl⟩ : ∃ d', d = d' + 1 := ⟨d - 1, by omega⟩
  unfold f_X12_takeCoast_110 at h
  refine g_run 2 (pc' := 112) (L' := [some (.ref 526), some (.int 0)]) (S' := []) (M' := gm g) rfl ?_
  exact p_X12_takeCoast_112 hD zFu (0) g _ h
def fb_X12_takeCoast_86 (kk : Int32 → zSg → Option (Int32 × zSg)) (y1 : Int32) (g : zSg) : Option (Int32 × zSg) := (if 24 ≤ y1 then f_X12_takeCoast_110 g else (if zib y1 24 = true then (if zib y1 24 = true then kk (y1 + 1) (gsI g (542) (ix y1) (gI g 539 (ix y1))) else none) else none))
def f_X12_takeCoast_86 : Nat → Int32 → zSg → Option (Int32 × zSg)
  | 0, _, _ => none
  | n + 1, y1, g => fb_X12_takeCoast_86 (f_X12_takeCoast_86 n) y1 g
set_option maxRecDepth 100000 in
set_option maxHeartbeats 4000000 in
theorem p_X12_takeCoast_86 {sc : zSc} {hp : zHp} {d : Nat} (hD : 1 ≤ d) : ∀ (n : Nat) (y1 : Int32) (g : zSg) (r : Int32 × zSg), f_X12_takeCoast_86 n y1 g = some r → zG d sc hp (zcd zM_X12_takeCoast) 86 [some (.ref 526), some (.int y1)] [] (gm g) ((some (.int r.1)), gm r.2) := by
  obtain ⟨d, rfl⟩ : ∃ d', d = d' + 1 := ⟨d - 1, by omega⟩
  intro n
  induction n with
  | zero => intro y1 g r h; cases h
  | succ n ih =>
    intro y1 g r h
    replace h : fb_X12_takeCoast_86 (f_X12_takeCoast_86 n) y1 g = some r := h
    unfold fb_X12_takeCoast_86 at h
    refine g_run 2 (pc' := 89) (L' := [some (.ref 526), some (.int y1)]) (S' := [.int 24, .int y1]) (M' := gm g) rfl ?_
    refine g_icmp (24 ≤ y1) rfl (t := 110) rfl rfl (fun c1 => ?_) (fun c1 => ?_)
    · replace h := (if_pos c1).symm.trans h
      refine g_forget (L' := [some (.ref 526), none]) (And.intro rfl True.intro) ?_
      exact p_X12_takeCoast_110 hD g _ h
    · replace h := (if_neg c1).symm.trans h
      refine g_run 6 (pc' := 102) (L' := [some (.ref 526), some (.int y1)]) (S' := [.int y1, .ref 539, .int y1, .ref 542]) (M' := gm g) rfl ?_
      by_cases c2 : zib y1 24 = true
      case neg => exact nomatch ((if_neg c2).symm.trans h)
      replace h := (if_pos c2).symm.trans h
      refine g_iald rfl (a := 539) rfl c2 ?_
      by_cases c3 : zib y1 24 = true
      case neg => exact nomatch ((if_neg c3).symm.trans h)
      replace h := (if_pos c3).symm.trans h
      refine g_iast rfl (a := 542) rfl c3 ?_
      refine g_run 2 (pc' := 86) (L' := [some (.ref 526), some (.int ((y1 + 1)))]) (S' := []) (M' := gm (gsI g (542) (ix y1) (gI g 539 (ix y1)))) rfl ?_
      exact ih (y1 + 1) (gsI g (542) (ix y1) (gI g 539 (ix y1))) _ h
def f_X12_takeCoast_84 (g : zSg) : Option (Int32 × zSg) := f_X12_takeCoast_86 zFu (0) g
set_option maxRecDepth 100000 in
set_option maxHeartbeats 4000000 in
theorem p_X12_takeCoast_84 {sc : zSc} {hp : zHp} {d : Nat} (hD : 1 ≤ d) (g : zSg) (r : Int32 × zSg) (h : f_X12_takeCoast_84 g = some r) : zG d sc hp (zcd zM_X12_takeCoast) 84 [some (.ref 526), none] [] (gm g) ((some (.int r.1)), gm r.2) := by
  obtain ⟨d, rfl⟩ : ∃ d', d = d' + 1 := ⟨d - 1, by omega⟩
  unfold f_X12_takeCoast_84 at h
  refine g_run 2 (pc' := 86) (L' := [some (.ref 526), some (.int 0)]) (S' := []) (M' := gm g) rfl ?_
  exact p_X12_takeCoast_86 hD zFu (0) g _ h
def fb_X12_takeCoast_60 (kk : Int32 → zSg → Option (Int32 × zSg)) (y1 : Int32) (g : zSg) : Option (Int32 × zSg) := (if 18 ≤ y1 then f_X12_takeCoast_84 g else (if zib y1 18 = true then (if zib y1 18 = true then kk (y1 + 1) (gsI g (541) (ix y1) (gI g 538 (ix y1))) else none) else none))
def f_X12_takeCoast_60 : Nat → Int32 → zSg → Option (Int32 × zSg)
  | 0, _, _ => none
  | n + 1, y1, g => fb_X12_takeCoast_60 (f_X12_takeCoast_60 n) y1 g
set_option maxRecDepth 100000 in
set_option maxHeartbeats 4000000 in
theorem p_X12_takeCoast_60 {sc : zSc} {hp : zHp} {d : Nat} (hD : 1 ≤ d) : ∀ (n : Nat) (y1 : Int32) (g : zSg) (r : Int32 × zSg), f_X12_takeCoast_60 n y1 g = some r → zG d sc hp (zcd zM_X12_takeCoast) 60 [some (.ref 526), some (.int y1)] [] (gm g) ((some (.int r.1)), gm r.2) := by
  obtain ⟨d, rfl⟩ : ∃ d', d = d' + 1 := ⟨d - 1, by omega⟩
  intro n
  induction n with
  | zero => intro y1 g r h; cases h
  | succ n ih =>
    intro y1 g r h
    replace h : fb_X12_takeCoast_60 (f_X12_takeCoast_60 n) y1 g = some r := h
    unfold fb_X12_takeCoast_60 at h
    refine g_run 2 (pc' := 63) (L' := [some (.ref 526), some (.int y1)]) (S' := [.int 18, .int y1]) (M' := gm g) rfl ?_
    refine g_icmp (18 ≤ y1) rfl (t := 84) rfl rfl (fun c1 => ?_) (fun c1 => ?_)
    · replace h := (if_pos c1).symm.trans h
      refine g_forget (L' := [some (.ref 526), none]) (And.intro rfl True.intro) ?_
      exact p_X12_takeCoast_84 hD g _ h
    · replace h := (if_neg c1).symm.trans h
      refine g_run 6 (pc' := 76) (L' := [some (.ref 526), some (.int y1)]) (S' := [.int y1, .ref 538, .int y1, .ref 541]) (M' := gm g) rfl ?_
      by_cases c2 : zib y1 18 = true
      case neg => exact nomatch ((if_neg c2).symm.trans h)
      replace h := (if_pos c2).symm.trans h
      refine g_iald rfl (a := 538) rfl c2 ?_
      by_cases c3 : zib y1 18 = true
      case neg => exact nomatch ((if_neg c3).symm.trans h)
      replace h := (if_pos c3).symm.trans h
      refine g_iast rfl (a := 541) rfl c3 ?_
      refine g_run 2 (pc' := 60) (L' := [some (.ref 526), some (.int ((y1 + 1)))]) (S' := []) (M' := gm (gsI g (541) (ix y1) (gI g 538 (ix y1)))) rfl ?_
      exact ih (y1 + 1) (gsI g (541) (ix y1) (gI g 538 (ix y1))) _ h
def f_X12_takeCoast_41 (g : zSg) : Option (Int32 × zSg) := f_X12_takeCoast_60 zFu (0) (gsI g 526 27 ((gI g 540 0) * (gI g 540 1)))
set_option maxRecDepth 100000 in
set_option maxHeartbeats 4000000 in
theorem p_X12_takeCoast_41 {sc : zSc} {hp : zHp} {d : Nat} (hD : 1 ≤ d) (g : zSg) (r : Int32 × zSg) (h : f_X12_takeCoast_41 g = some r) : zG d sc hp (zcd zM_X12_takeCoast) 41 [some (.ref 526), none] [] (gm g) ((some (.int r.1)), gm r.2) := by
  obtain ⟨d, rfl⟩ : ∃ d', d = d' + 1 := ⟨d - 1, by omega⟩
  unfold f_X12_takeCoast_41 at h
  refine g_run 13 (pc' := 60) (L' := [some (.ref 526), some (.int 0)]) (S' := []) (M' := gm (gsI g 526 27 ((gI g 540 0) * (gI g 540 1)))) rfl ?_
  exact p_X12_takeCoast_60 hD zFu (0) (gsI g 526 27 ((gI g 540 0) * (gI g 540 1))) _ h
def fb_X12_takeCoast_18 (kk : Int32 → zSg → Option (Int32 × zSg)) (y1 : Int32) (g : zSg) : Option (Int32 × zSg) := (if 5 ≤ y1 then f_X12_takeCoast_41 g else (if zib y1 5 = true then (if zib y1 5 = true then kk (y1 + 1) (gsI g (540) (ix y1) (gI g 537 (ix y1))) else none) else none))
def f_X12_takeCoast_18 : Nat → Int32 → zSg → Option (Int32 × zSg)
  | 0, _, _ => none
  | n + 1, y1, g => fb_X12_takeCoast_18 (f_X12_takeCoast_18 n) y1 g
set_option maxRecDepth 100000 in
set_option maxHeartbeats 4000000 in
theorem p_X12_takeCoast_18 {sc : zSc} {hp : zHp} {d : Nat} (hD : 1 ≤ d) : ∀ (n : Nat) (y1 : Int32) (g : zSg) (r : Int32 × zSg), f_X12_takeCoast_18 n y1 g = some r → zG d sc hp (zcd zM_X12_takeCoast) 18 [some (.ref 526), some (.int y1)] [] (gm g) ((some (.int r.1)), gm r.2) := by
  obtain ⟨d, rfl⟩ : ∃ d', d = d' + 1 := ⟨d - 1, by omega⟩
  intro n
  induction n with
  | zero => intro y1 g r h; cases h
  | succ n ih =>
    intro y1 g r h
    replace h : fb_X12_takeCoast_18 (f_X12_takeCoast_18 n) y1 g = some r := h
    unfold fb_X12_takeCoast_18 at h
    refine g_run 2 (pc' := 20) (L' := [some (.ref 526), some (.int y1)]) (S' := [.int 5, .int y1]) (M' := gm g) rfl ?_
    refine g_icmp (5 ≤ y1) rfl (t := 41) rfl rfl (fun c1 => ?_) (fun c1 => ?_)
    · replace h := (if_pos c1).symm.trans h
      refine g_forget (L' := [some (.ref 526), none]) (And.intro rfl True.intro) ?_
      exact p_X12_takeCoast_41 hD g _ h
    · replace h := (if_neg c1).symm.trans h
      refine g_run 6 (pc' := 33) (L' := [some (.ref 526), some (.int y1)]) (S' := [.int y1, .ref 537, .int y1, .ref 540]) (M' := gm g) rfl ?_
      by_cases c2 : zib y1 5 = true
      case neg => exact nomatch ((if_neg c2).symm.trans h)
      replace h := (if_pos c2).symm.trans h
      refine g_iald rfl (a := 537) rfl c2 ?_
      by_cases c3 : zib y1 5 = true
      case neg => exact nomatch ((if_neg c3).symm.trans h)
      replace h := (if_pos c3).symm.trans h
      refine g_iast rfl (a := 540) rfl c3 ?_
      refine g_run 2 (pc' := 18) (L' := [some (.ref 526), some (.int ((y1 + 1)))]) (S' := []) (M' := gm (gsI g (540) (ix y1) (gI g 537 (ix y1)))) rfl ?_
      exact ih (y1 + 1) (gsI g (540) (ix y1) (gI g 537 (ix y1))) _ h
def f_X12_takeCoast (g : zSg) : Option (Int32 × zSg) := f_X12_takeCoast_18 zFu (0) (gsI (gsI g 526 25 (gI g 526 20)) 526 26 (gI (gsI g 526 25 (gI g 526 20)) 526 21))
set_option maxRecDepth 100000 in
set_option maxHeartbeats 4000000 in
theorem p_X12_takeCoast {sc : zSc} {hp : zHp} {g : zSg} {r : Int32 × zSg} (h : f_X12_takeCoast g = some r) : zRn sc hp 1 zM_X12_takeCoast [.ref 526] (gm g) (some (.int r.1)) (gm r.2) := by
  intro d hD
  obtain ⟨d, rfl⟩ : ∃ d', d = d' + 1 := ⟨d - 1, by omega⟩
  show zG _ sc hp (zcd zM_X12_takeCoast) 0 [some (.ref 526), none] [] (gm g) _
  unfold f_X12_takeCoast at h
  refine g_run 10 (pc' := 18) (L' := [some (.ref 526), some (.int 0)]) (S' := []) (M' := gm (gsI (gsI g 526 25 (gI g 526 20)) 526 26 (gI (gsI g 526 25 (gI g 526 20)) 526 21))) rfl ?_
  exact p_X12_takeCoast_18 hD zFu (0) (gsI (gsI g 526 25 (gI g 526 20)) 526 26 (gI (gsI g 526 25 (gI g 526 20)) 526 21)) _ h
def f_X12_isPerson (x1 : Int32) (g : zSg) : Option (Int32 × zSg) := (zB (f_X12_in x1 0 ((gI g 526 25) - 1) g) (fun v1 g2 => (if v1 = 0 ∨ v1 = 1 then some (v1, g2) else none)))
set_option maxRecDepth 100000 in
set_option maxHeartbeats 4000000 in
theorem p_X12_isPerson {sc : zSc} {hp : zHp} {x1 : Int32} {g : zSg} {r : Int32 × zSg} (h : f_X12_isPerson x1 g = some r) : zRn sc hp 1 zM_X12_isPerson [.ref 526, .int x1] (gm g) (some (.int r.1)) (gm r.2) := by
  intro d hD
  obtain ⟨d, rfl⟩ : ∃ d', d = d' + 1 := ⟨d - 1, by omega⟩
  show zG _ sc hp (zcd zM_X12_isPerson) 0 [some (.ref 526), some (.int x1)] [] (gm g) _
  unfold f_X12_isPerson at h
  refine g_run 6 (pc' := 8) (L' := [some (.ref 526), some (.int x1)]) (S' := [.int (((gI g 526 25) - 1)), .int 0, .int x1]) (M' := gm g) rfl ?_
  replace h := zB_of h
  obtain ⟨v1, g2, e3, h⟩ := h
  refine g_inv2 (kd := 0) (p_X12_in  e3) rfl rfl rfl (by decide) rfl rfl rfl rfl (by omega) (pc' := 11) rfl (S' := [.int v1]) rfl ?_
  by_cases c4 : v1 = 0 ∨ v1 = 1
  case neg => exact nomatch ((if_neg c4).symm.trans h)
  replace h := (if_pos c4).symm.trans h
  cases h
  exact g_retz rfl rfl c4
def f_X12_isSecret (x1 : Int32) (g : zSg) : Option (Int32 × zSg) := (zB (f_X12_in x1 0 ((gI g 526 26) - 1) g) (fun v1 g2 => (if v1 = 0 ∨ v1 = 1 then some (v1, g2) else none)))
set_option maxRecDepth 100000 in
set_option maxHeartbeats 4000000 in
theorem p_X12_isSecret {sc : zSc} {hp : zHp} {x1 : Int32} {g : zSg} {r : Int32 × zSg} (h : f_X12_isSecret x1 g = some r) : zRn sc hp 1 zM_X12_isSecret [.ref 526, .int x1] (gm g) (some (.int r.1)) (gm r.2) := by
  intro d hD
  obtain ⟨d, rfl⟩ : ∃ d', d = d' + 1 := ⟨d - 1, by omega⟩
  show zG _ sc hp (zcd zM_X12_isSecret) 0 [some (.ref 526), some (.int x1)] [] (gm g) _
  unfold f_X12_isSecret at h
  refine g_run 6 (pc' := 8) (L' := [some (.ref 526), some (.int x1)]) (S' := [.int (((gI g 526 26) - 1)), .int 0, .int x1]) (M' := gm g) rfl ?_
  replace h := zB_of h
  obtain ⟨v1, g2, e3, h⟩ := h
  refine g_inv2 (kd := 0) (p_X12_in  e3) rfl rfl rfl (by decide) rfl rfl rfl rfl (by omega) (pc' := 11) rfl (S' := [.int v1]) rfl ?_
  by_cases c4 : v1 = 0 ∨ v1 = 1
  case neg => exact nomatch ((if_neg c4).symm.trans h)
  replace h := (if_pos c4).symm.trans h
  cases h
  exact g_retz rfl rfl c4
def f_X12_isCell (x1 : Int32) (g : zSg) : Option (Int32 × zSg) := (zB (f_X12_in x1 0 ((gI g 526 27) - 1) g) (fun v1 g2 => (if v1 = 0 ∨ v1 = 1 then some (v1, g2) else none)))
set_option maxRecDepth 100000 in
set_option maxHeartbeats 4000000 in
theorem p_X12_isCell {sc : zSc} {hp : zHp} {x1 : Int32} {g : zSg} {r : Int32 × zSg} (h : f_X12_isCell x1 g = some r) : zRn sc hp 1 zM_X12_isCell [.ref 526, .int x1] (gm g) (some (.int r.1)) (gm r.2) := by
  intro d hD
  obtain ⟨d, rfl⟩ : ∃ d', d = d' + 1 := ⟨d - 1, by omega⟩
  show zG _ sc hp (zcd zM_X12_isCell) 0 [some (.ref 526), some (.int x1)] [] (gm g) _
  unfold f_X12_isCell at h
  refine g_run 6 (pc' := 8) (L' := [some (.ref 526), some (.int x1)]) (S' := [.int (((gI g 526 27) - 1)), .int 0, .int x1]) (M' := gm g) rfl ?_
  replace h := zB_of h
  obtain ⟨v1, g2, e3, h⟩ := h
  refine g_inv2 (kd := 0) (p_X12_in  e3) rfl rfl rfl (by decide) rfl rfl rfl rfl (by omega) (pc' := 11) rfl (S' := [.int v1]) rfl ?_
  by_cases c4 : v1 = 0 ∨ v1 = 1
  case neg => exact nomatch ((if_neg c4).symm.trans h)
  replace h := (if_pos c4).symm.trans h
  cases h
  exact g_retz rfl rfl c4
def f_X12_of (x1 : Int32) (x2 : Int32) (g : zSg) : Option (Int32 × zSg) := (if zib ((4 * x1) + x2) 24 = true then some ((gI g 542 (ix ((4 * x1) + x2))), g) else none)
set_option maxRecDepth 100000 in
set_option maxHeartbeats 4000000 in
theorem p_X12_of {sc : zSc} {hp : zHp} {x1 : Int32} {x2 : Int32} {g : zSg} {r : Int32 × zSg} (h : f_X12_of x1 x2 g = some r) : zRn sc hp 0 zM_X12_of [.ref 526, .int x1, .int x2] (gm g) (some (.int r.1)) (gm r.2) := by
  intro d hD
  show zG _ sc hp (zcd zM_X12_of) 0 [some (.ref 526), some (.int x1), some (.int x2)] [] (gm g) _
  unfold f_X12_of at h
  refine g_run 7 (pc' := 9) (L' := [some (.ref 526), some (.int x1), some (.int x2)]) (S' := [.int (((4 * x1) + x2)), .ref 542]) (M' := gm g) rfl ?_
  by_cases c1 : zib ((4 * x1) + x2) 24 = true
  case neg => exact nomatch ((if_neg c1).symm.trans h)
  replace h := (if_pos c1).symm.trans h
  refine g_iald rfl (a := 542) rfl c1 ?_
  cases h
  exact g_ret rfl rfl rfl rfl
def f_X12_shedOf (x1 : Int32) (g : zSg) : Option (Int32 × zSg) := (zB (f_X12_of x1 3 g) (fun v1 g2 => (zB (f_X12_of x1 2 g2) (fun v4 g5 => some ((((gI g 540 0) * v1) + v4), g5)))))
set_option maxRecDepth 100000 in
set_option maxHeartbeats 4000000 in
theorem p_X12_shedOf {sc : zSc} {hp : zHp} {x1 : Int32} {g : zSg} {r : Int32 × zSg} (h : f_X12_shedOf x1 g = some r) : zRn sc hp 1 zM_X12_shedOf [.ref 526, .int x1] (gm g) (some (.int r.1)) (gm r.2) := by
  intro d hD
  obtain ⟨d, rfl⟩ : ∃ d', d = d' + 1 := ⟨d - 1, by omega⟩
  show zG _ sc hp (zcd zM_X12_shedOf) 0 [some (.ref 526), some (.int x1)] [] (gm g) _
  unfold f_X12_shedOf at h
  refine g_run 7 (pc' := 9) (L' := [some (.ref 526), some (.int x1)]) (S' := [.int 3, .int x1, .ref 526, .int ((gI g 540 0))]) (M' := gm g) rfl ?_
  replace h := zB_of h
  obtain ⟨v1, g2, e3, h⟩ := h
  refine g_inv2 (kd := 1) (p_X12_of  e3) rfl rfl rfl (by decide) rfl rfl rfl rfl (by omega) (pc' := 12) rfl (S' := [.int v1, .int ((gI g 540 0))]) rfl ?_
  refine g_run 4 (pc' := 16) (L' := [some (.ref 526), some (.int x1)]) (S' := [.int 2, .int x1, .ref 526, .int (((gI g 540 0) * v1))]) (M' := gm g2) rfl ?_
  replace h := zB_of h
  obtain ⟨v4, g5, e6, h⟩ := h
  refine g_inv2 (kd := 1) (p_X12_of  e6) rfl rfl rfl (by decide) rfl rfl rfl rfl (by omega) (pc' := 19) rfl (S' := [.int v4, .int (((gI g 540 0) * v1))]) rfl ?_
  refine g_run 1 (pc' := 20) (L' := [some (.ref 526), some (.int x1)]) (S' := [.int ((((gI g 540 0) * v1) + v4))]) (M' := gm g5) rfl ?_
  cases h
  exact g_ret rfl rfl rfl rfl
def f_X12_hangs (x1 : Int32) (g : zSg) : Option (Int32 × zSg) := (zB (f_X12_has (gI g 543 48) x1 g) (fun v1 g2 => (if v1 = 0 ∨ v1 = 1 then some (v1, g2) else none)))
set_option maxRecDepth 100000 in
set_option maxHeartbeats 4000000 in
theorem p_X12_hangs {sc : zSc} {hp : zHp} {x1 : Int32} {g : zSg} {r : Int32 × zSg} (h : f_X12_hangs x1 g = some r) : zRn sc hp 1 zM_X12_hangs [.ref 526, .int x1] (gm g) (some (.int r.1)) (gm r.2) := by
  intro d hD
  obtain ⟨d, rfl⟩ : ∃ d', d = d' + 1 := ⟨d - 1, by omega⟩
  show zG _ sc hp (zcd zM_X12_hangs) 0 [some (.ref 526), some (.int x1)] [] (gm g) _
  unfold f_X12_hangs at h
  refine g_run 5 (pc' := 8) (L' := [some (.ref 526), some (.int x1)]) (S' := [.int x1, .int ((gI g 543 48))]) (M' := gm g) rfl ?_
  replace h := zB_of h
  obtain ⟨v1, g2, e3, h⟩ := h
  refine g_inv2 (kd := 0) (p_X12_has  e3) rfl rfl rfl (by decide) rfl rfl rfl rfl (by omega) (pc' := 11) rfl (S' := [.int v1]) rfl ?_
  by_cases c4 : v1 = 0 ∨ v1 = 1
  case neg => exact nomatch ((if_neg c4).symm.trans h)
  replace h := (if_pos c4).symm.trans h
  cases h
  exact g_retz rfl rfl c4
def f_X12_isRaw (x1 : Int32) (g : zSg) : Option (Int32 × zSg) := (zB (f_X12_has (gI g 543 49) x1 g) (fun v1 g2 => (if ¬ v1 = 0 then some (0, g2) else some (1, g2))))
set_option maxRecDepth 100000 in
set_option maxHeartbeats 4000000 in
theorem p_X12_isRaw {sc : zSc} {hp : zHp} {x1 : Int32} {g : zSg} {r : Int32 × zSg} (h : f_X12_isRaw x1 g = some r) : zRn sc hp 1 zM_X12_isRaw [.ref 526, .int x1] (gm g) (some (.int r.1)) (gm r.2) := by
  intro d hD
  obtain ⟨d, rfl⟩ : ∃ d', d = d' + 1 := ⟨d - 1, by omega⟩
  show zG _ sc hp (zcd zM_X12_isRaw) 0 [some (.ref 526), some (.int x1)] [] (gm g) _
  unfold f_X12_isRaw at h
  refine g_run 5 (pc' := 8) (L' := [some (.ref 526), some (.int x1)]) (S' := [.int x1, .int ((gI g 543 49))]) (M' := gm g) rfl ?_
  replace h := zB_of h
  obtain ⟨v1, g2, e3, h⟩ := h
  refine g_inv2 (kd := 0) (p_X12_has  e3) rfl rfl rfl (by decide) rfl rfl rfl rfl (by omega) (pc' := 11) rfl (S' := [.int v1]) rfl ?_
  refine g_if (¬ v1 = 0) rfl (t := 18) rfl rfl (fun c4 => ?_) (fun c4 => ?_)
  · replace h := (if_pos c4).symm.trans h
    refine g_run 1 (pc' := 19) (L' := [some (.ref 526), some (.int x1)]) (S' := [.int 0]) (M' := gm g2) rfl ?_
    cases h
    exact g_ret rfl rfl rfl rfl
  · replace h := (if_neg c4).symm.trans h
    refine g_run 2 (pc' := 19) (L' := [some (.ref 526), some (.int x1)]) (S' := [.int 1]) (M' := gm g2) rfl ?_
    cases h
    exact g_ret rfl rfl rfl rfl
def f_X12_breathOf (x1 : Int32) (x2 : Int32) (g : zSg) : Option (Int32 × zSg) := (if zib ((6 + (6 * x1)) + x2) 235 = true then some ((gI g 543 (ix ((6 + (6 * x1)) + x2))), g) else none)
set_option maxRecDepth 100000 in
set_option maxHeartbeats 4000000 in
theorem p_X12_breathOf {sc : zSc} {hp : zHp} {x1 : Int32} {x2 : Int32} {g : zSg} {r : Int32 × zSg} (h : f_X12_breathOf x1 x2 g = some r) : zRn sc hp 0 zM_X12_breathOf [.ref 526, .int x1, .int x2] (gm g) (some (.int r.1)) (gm r.2) := by
  intro d hD
  show zG _ sc hp (zcd zM_X12_breathOf) 0 [some (.ref 526), some (.int x1), some (.int x2)] [] (gm g) _
  unfold f_X12_breathOf at h
  refine g_run 9 (pc' := 13) (L' := [some (.ref 526), some (.int x1), some (.int x2)]) (S' := [.int (((6 + (6 * x1)) + x2)), .ref 543]) (M' := gm g) rfl ?_
  by_cases c1 : zib ((6 + (6 * x1)) + x2) 235 = true
  case neg => exact nomatch ((if_neg c1).symm.trans h)
  replace h := (if_pos c1).symm.trans h
  refine g_iald rfl (a := 543) rfl c1 ?_
  cases h
  exact g_ret rfl rfl rfl rfl
def f_X12_breathe (x1 : Int32) (x2 : Int32) (x3 : Int32) (g : zSg) : Option (Unit × zSg) := (zB (f_X12_breathOf x1 x2 g) (fun v1 g2 => (if zib ((6 + (6 * x1)) + x2) 235 = true then some ((), (gsI g2 (543) (ix ((6 + (6 * x1)) + x2)) (imin 99 (v1 + x3)))) else none)))
set_option maxRecDepth 100000 in
set_option maxHeartbeats 4000000 in
theorem p_X12_breathe {sc : zSc} {hp : zHp} {x1 : Int32} {x2 : Int32} {x3 : Int32} {g : zSg} {r : Unit × zSg} (h : f_X12_breathe x1 x2 x3 g = some r) : zRn sc hp 1 zM_X12_breathe [.ref 526, .int x1, .int x2, .int x3] (gm g) none (gm r.2) := by
  intro d hD
  obtain ⟨d, rfl⟩ : ∃ d', d = d' + 1 := ⟨d - 1, by omega⟩
  show zG _ sc hp (zcd zM_X12_breathe) 0 [some (.ref 526), some (.int x1), some (.int x2), some (.int x3)] [] (gm g) _
  unfold f_X12_breathe at h
  refine g_run 13 (pc' := 18) (L' := [some (.ref 526), some (.int x1), some (.int x2), some (.int x3)]) (S' := [.int x2, .int x1, .ref 526, .int 99, .int (((6 + (6 * x1)) + x2)), .ref 543]) (M' := gm g) rfl ?_
  replace h := zB_of h
  obtain ⟨v1, g2, e3, h⟩ := h
  refine g_inv2 (kd := 1) (p_X12_breathOf  e3) rfl rfl rfl (by decide) rfl rfl rfl rfl (by omega) (pc' := 21) rfl (S' := [.int v1, .int 99, .int (((6 + (6 * x1)) + x2)), .ref 543]) rfl ?_
  refine g_run 2 (pc' := 23) (L' := [some (.ref 526), some (.int x1), some (.int x2), some (.int x3)]) (S' := [.int ((v1 + x3)), .int 99, .int (((6 + (6 * x1)) + x2)), .ref 543]) (M' := gm g2) rfl ?_
  refine g_spec2 (kd := 0) rfl rfl rfl (by decide) rfl (jd := 1001) rfl (by decide) rfl (Or.inl (by decide)) (S' := [.int ((imin 99 (v1 + x3))), .int (((6 + (6 * x1)) + x2)), .ref 543]) (M' := gm g2) rfl rfl (pc' := 26) rfl ?_
  by_cases c4 : zib ((6 + (6 * x1)) + x2) 235 = true
  case neg => exact nomatch ((if_neg c4).symm.trans h)
  replace h := (if_pos c4).symm.trans h
  refine g_iast rfl (a := 543) rfl c4 ?_
  cases h
  exact g_ret rfl rfl rfl rfl
def f_X12_knows (x1 : Int32) (x2 : Int32) (g : zSg) : Option (Int32 × zSg) := (zB (f_X12_of x2 0 g) (fun v1 g2 => (if v1 = x1 then some (1, g2) else (zB (f_X12_breathOf x1 x2 g2) (fun v5 g6 => (zB (f_X12_ofPerson x1 2 g6) (fun v8 g9 => (if v5 < v8 then some (0, g9) else some (1, g9)))))))))
set_option maxRecDepth 100000 in
set_option maxHeartbeats 4000000 in
theorem p_X12_knows {sc : zSc} {hp : zHp} {x1 : Int32} {x2 : Int32} {g : zSg} {r : Int32 × zSg} (h : f_X12_knows x1 x2 g = some r) : zRn sc hp 1 zM_X12_knows [.ref 526, .int x1, .int x2] (gm g) (some (.int r.1)) (gm r.2) := by
  intro d hD
  obtain ⟨d, rfl⟩ : ∃ d', d = d' + 1 := ⟨d - 1, by omega⟩
  show zG _ sc hp (zcd zM_X12_knows) 0 [some (.ref 526), some (.int x1), some (.int x2)] [] (gm g) _
  unfold f_X12_knows at h
  refine g_run 3 (pc' := 3) (L' := [some (.ref 526), some (.int x1), some (.int x2)]) (S' := [.int 0, .int x2, .ref 526]) (M' := gm g) rfl ?_
  replace h := zB_of h
  obtain ⟨v1, g2, e3, h⟩ := h
  refine g_inv2 (kd := 1) (p_X12_of  e3) rfl rfl rfl (by decide) rfl rfl rfl rfl (by omega) (pc' := 6) rfl (S' := [.int v1]) rfl ?_
  refine g_run 1 (pc' := 7) (L' := [some (.ref 526), some (.int x1), some (.int x2)]) (S' := [.int x1, .int v1]) (M' := gm g2) rfl ?_
  refine g_icmp (v1 = x1) rfl (t := 25) rfl rfl (fun c4 => ?_) (fun c4 => ?_)
  · replace h := (if_pos c4).symm.trans h
    refine g_run 2 (pc' := 30) (L' := [some (.ref 526), some (.int x1), some (.int x2)]) (S' := [.int 1]) (M' := gm g2) rfl ?_
    cases h
    exact g_ret rfl rfl rfl rfl
  · replace h := (if_neg c4).symm.trans h
    refine g_run 3 (pc' := 13) (L' := [some (.ref 526), some (.int x1), some (.int x2)]) (S' := [.int x2, .int x1, .ref 526]) (M' := gm g2) rfl ?_
    replace h := zB_of h
    obtain ⟨v5, g6, e7, h⟩ := h
    refine g_inv2 (kd := 1) (p_X12_breathOf  e7) rfl rfl rfl (by decide) rfl rfl rfl rfl (by omega) (pc' := 16) rfl (S' := [.int v5]) rfl ?_
    refine g_run 3 (pc' := 19) (L' := [some (.ref 526), some (.int x1), some (.int x2)]) (S' := [.int 2, .int x1, .ref 526, .int v5]) (M' := gm g6) rfl ?_
    replace h := zB_of h
    obtain ⟨v8, g9, e10, h⟩ := h
    refine g_inv2 (kd := 1) (p_X12_ofPerson  e10) rfl rfl rfl (by decide) rfl rfl rfl rfl (by omega) (pc' := 22) rfl (S' := [.int v8, .int v5]) rfl ?_
    refine g_icmp (v5 < v8) rfl (t := 29) rfl rfl (fun c11 => ?_) (fun c11 => ?_)
    · replace h := (if_pos c11).symm.trans h
      refine g_run 1 (pc' := 30) (L' := [some (.ref 526), some (.int x1), some (.int x2)]) (S' := [.int 0]) (M' := gm g9) rfl ?_
      cases h
      exact g_ret rfl rfl rfl rfl
    · replace h := (if_neg c11).symm.trans h
      refine g_run 2 (pc' := 30) (L' := [some (.ref 526), some (.int x1), some (.int x2)]) (S' := [.int 1]) (M' := gm g9) rfl ?_
      cases h
      exact g_ret rfl rfl rfl rfl
def f_X12_knownTo_29 (k4 : Int32 → Int32 → Int32 → zSg → Option (Int32 × zSg)) (y1 : Int32) (y3 : Int32) (s0 : Int32) (s1 : Int32) (g : zSg) : Option (Int32 × zSg) := k4 (y1) (s1 ||| s0) (y3 + 1) g
set_option maxRecDepth 100000 in
set_option maxHeartbeats 4000000 in
theorem p_X12_knownTo_29 {sc : zSc} {hp : zHp} {d : Nat} (hD : 2 ≤ d) (k4 : Int32 → Int32 → Int32 → zSg → Option (Int32 × zSg)) (hk4 : ∀ (y1 : Int32) (y2 : Int32) (y3 : Int32) (g : zSg) (r : Int32 × zSg), k4 y1 y2 y3 g = some r → zG d sc hp (zcd zM_X12_knownTo) 4 [some (.ref 526), some (.int y1), some (.int y2), some (.int y3)] [] (gm g) ((some (.int r.1)), gm r.2)) (y1 : Int32) (y3 : Int32) (s0 : Int32) (s1 : Int32) (g : zSg) (r : Int32 × zSg) (h : f_X12_knownTo_29 k4 y1 y3 s0 s1 g = some r) : zG d sc hp (zcd zM_X12_knownTo) 29 [some (.ref 526), some (.int y1), none, some (.int y3)] [.int s0, .int s1] (gm g) ((some (.int r.1)), gm r.2) := by
  obtain ⟨d, rfl⟩ : ∃ d', d = d' + 1 := ⟨d - 1, by omega⟩
  unfold f_X12_knownTo_29 at h
  refine g_run 4 (pc' := 4) (L' := [some (.ref 526), some (.int y1), some (.int ((s1 ||| s0))), some (.int ((y3 + 1)))]) (S' := []) (M' := gm g) rfl ?_
  exact hk4 (y1) (s1 ||| s0) (y3 + 1) g _ h
def fb_X12_knownTo_4 (kk : Int32 → Int32 → Int32 → zSg → Option (Int32 × zSg)) (y1 : Int32) (y2 : Int32) (y3 : Int32) (g : zSg) : Option (Int32 × zSg) := (if (gI g 526 26) ≤ y3 then some (y2, g) else (zB (f_X12_knows y1 y3 g) (fun v2 g3 => (if v2 = 0 then f_X12_knownTo_29 kk (y1) (y3) (0) (y2) g3 else f_X12_knownTo_29 kk (y1) (y3) (1 <<< (y3 &&& 31)) (y2) g3))))
def f_X12_knownTo_4 : Nat → Int32 → Int32 → Int32 → zSg → Option (Int32 × zSg)
  | 0, _, _, _, _ => none
  | n + 1, y1, y2, y3, g => fb_X12_knownTo_4 (f_X12_knownTo_4 n) y1 y2 y3 g
set_option maxRecDepth 100000 in
set_option maxHeartbeats 4000000 in
theorem p_X12_knownTo_4 {sc : zSc} {hp : zHp} {d : Nat} (hD : 2 ≤ d) : ∀ (n : Nat) (y1 : Int32) (y2 : Int32) (y3 : Int32) (g : zSg) (r : Int32 × zSg), f_X12_knownTo_4 n y1 y2 y3 g = some r → zG d sc hp (zcd zM_X12_knownTo) 4 [some (.ref 526), some (.int y1), some (.int y2), some (.int y3)] [] (gm g) ((some (.int r.1)), gm r.2) := by
  obtain ⟨d, rfl⟩ : ∃ d', d = d' + 1 := ⟨d - 1, by omega⟩
  intro n
  induction n with
  | zero => intro y1 y2 y3 g r h; cases h
  | succ n ih =>
    intro y1 y2 y3 g r h
    replace h : fb_X12_knownTo_4 (f_X12_knownTo_4 n) y1 y2 y3 g = some r := h
    unfold fb_X12_knownTo_4 at h
    refine g_run 3 (pc' := 9) (L' := [some (.ref 526), some (.int y1), some (.int y2), some (.int y3)]) (S' := [.int ((gI g 526 26)), .int y3]) (M' := gm g) rfl ?_
    refine g_icmp ((gI g 526 26) ≤ y3) rfl (t := 37) rfl rfl (fun c1 => ?_) (fun c1 => ?_)
    · replace h := (if_pos c1).symm.trans h
      refine g_run 1 (pc' := 38) (L' := [some (.ref 526), some (.int y1), some (.int y2), some (.int y3)]) (S' := [.int y2]) (M' := gm g) rfl ?_
      cases h
      exact g_ret rfl rfl rfl rfl
    · replace h := (if_neg c1).symm.trans h
      refine g_run 4 (pc' := 16) (L' := [some (.ref 526), some (.int y1), some (.int y2), some (.int y3)]) (S' := [.int y3, .int y1, .ref 526, .int y2]) (M' := gm g) rfl ?_
      replace h := zB_of h
      obtain ⟨v2, g3, e4, h⟩ := h
      refine g_inv2 (kd := 1) (p_X12_knows  e4) rfl rfl rfl (by decide) rfl rfl rfl rfl (by omega) (pc' := 19) rfl (S' := [.int v2, .int y2]) rfl ?_
      refine g_if (v2 = 0) rfl (t := 28) rfl rfl (fun c5 => ?_) (fun c5 => ?_)
      · replace h := (if_pos c5).symm.trans h
        refine g_run 1 (pc' := 29) (L' := [some (.ref 526), some (.int y1), some (.int y2), some (.int y3)]) (S' := [.int 0, .int y2]) (M' := gm g3) rfl ?_
        refine g_forget (L' := [some (.ref 526), some (.int y1), none, some (.int y3)]) (And.intro rfl (And.intro rfl (And.intro rfl True.intro))) ?_
        exact p_X12_knownTo_29 hD (f_X12_knownTo_4 n) ih (y1) (y3) (0) (y2) g3 _ h
      · replace h := (if_neg c5).symm.trans h
        refine g_run 4 (pc' := 29) (L' := [some (.ref 526), some (.int y1), some (.int y2), some (.int y3)]) (S' := [.int ((1 <<< (y3 &&& 31))), .int y2]) (M' := gm g3) rfl ?_
        refine g_forget (L' := [some (.ref 526), some (.int y1), none, some (.int y3)]) (And.intro rfl (And.intro rfl (And.intro rfl True.intro))) ?_
        exact p_X12_knownTo_29 hD (f_X12_knownTo_4 n) ih (y1) (y3) (1 <<< (y3 &&& 31)) (y2) g3 _ h
def f_X12_knownTo (x1 : Int32) (g : zSg) : Option (Int32 × zSg) := f_X12_knownTo_4 zFu (x1) (0) (0) g
set_option maxRecDepth 100000 in
set_option maxHeartbeats 4000000 in
theorem p_X12_knownTo {sc : zSc} {hp : zHp} {x1 : Int32} {g : zSg} {r : Int32 × zSg} (h : f_X12_knownTo x1 g = some r) : zRn sc hp 2 zM_X12_knownTo [.ref 526, .int x1] (gm g) (some (.int r.1)) (gm r.2) := by
  intro d hD
  obtain ⟨d, rfl⟩ : ∃ d', d = d' + 1 := ⟨d - 1, by omega⟩
  show zG _ sc hp (zcd zM_X12_knownTo) 0 [some (.ref 526), some (.int x1), none, none] [] (gm g) _
  unfold f_X12_knownTo at h
  refine g_run 4 (pc' := 4) (L' := [some (.ref 526), some (.int x1), some (.int 0), some (.int 0)]) (S' := []) (M' := gm g) rfl ?_
  exact p_X12_knownTo_4 hD zFu (x1) (0) (0) g _ h
def f_X12_knownOf_29 (k4 : Int32 → Int32 → Int32 → zSg → Option (Int32 × zSg)) (y1 : Int32) (y3 : Int32) (s0 : Int32) (s1 : Int32) (g : zSg) : Option (Int32 × zSg) := k4 (y1) (s1 ||| s0) (y3 + 1) g
set_option maxRecDepth 100000 in
set_option maxHeartbeats 4000000 in
theorem p_X12_knownOf_29 {sc : zSc} {hp : zHp} {d : Nat} (hD : 2 ≤ d) (k4 : Int32 → Int32 → Int32 → zSg → Option (Int32 × zSg)) (hk4 : ∀ (y1 : Int32) (y2 : Int32) (y3 : Int32) (g : zSg) (r : Int32 × zSg), k4 y1 y2 y3 g = some r → zG d sc hp (zcd zM_X12_knownOf) 4 [some (.ref 526), some (.int y1), some (.int y2), some (.int y3)] [] (gm g) ((some (.int r.1)), gm r.2)) (y1 : Int32) (y3 : Int32) (s0 : Int32) (s1 : Int32) (g : zSg) (r : Int32 × zSg) (h : f_X12_knownOf_29 k4 y1 y3 s0 s1 g = some r) : zG d sc hp (zcd zM_X12_knownOf) 29 [some (.ref 526), some (.int y1), none, some (.int y3)] [.int s0, .int s1] (gm g) ((some (.int r.1)), gm r.2) := by
  obtain ⟨d, rfl⟩ : ∃ d', d = d' + 1 := ⟨d - 1, by omega⟩
  unfold f_X12_knownOf_29 at h
  refine g_run 4 (pc' := 4) (L' := [some (.ref 526), some (.int y1), some (.int ((s1 ||| s0))), some (.int ((y3 + 1)))]) (S' := []) (M' := gm g) rfl ?_
  exact hk4 (y1) (s1 ||| s0) (y3 + 1) g _ h
def fb_X12_knownOf_4 (kk : Int32 → Int32 → Int32 → zSg → Option (Int32 × zSg)) (y1 : Int32) (y2 : Int32) (y3 : Int32) (g : zSg) : Option (Int32 × zSg) := (if (gI g 526 25) ≤ y3 then some (y2, g) else (zB (f_X12_knows y3 y1 g) (fun v2 g3 => (if v2 = 0 then f_X12_knownOf_29 kk (y1) (y3) (0) (y2) g3 else f_X12_knownOf_29 kk (y1) (y3) (1 <<< (y3 &&& 31)) (y2) g3))))
def f_X12_knownOf_4 : Nat → Int32 → Int32 → Int32 → zSg → Option (Int32 × zSg)
  | 0, _, _, _, _ => none
  | n + 1, y1, y2, y3, g => fb_X12_knownOf_4 (f_X12_knownOf_4 n) y1 y2 y3 g
set_option maxRecDepth 100000 in
set_option maxHeartbeats 4000000 in
theorem p_X12_knownOf_4 {sc : zSc} {hp : zHp} {d : Nat} (hD : 2 ≤ d) : ∀ (n : Nat) (y1 : Int32) (y2 : Int32) (y3 : Int32) (g : zSg) (r : Int32 × zSg), f_X12_knownOf_4 n y1 y2 y3 g = some r → zG d sc hp (zcd zM_X12_knownOf) 4 [some (.ref 526), some (.int y1), some (.int y2), some (.int y3)] [] (gm g) ((some (.int r.1)), gm r.2) := by
  obtain ⟨d, rfl⟩ : ∃ d', d = d' + 1 := ⟨d - 1, by omega⟩
  intro n
  induction n with
  | zero => intro y1 y2 y3 g r h; cases h
  | succ n ih =>
    intro y1 y2 y3 g r h
    replace h : fb_X12_knownOf_4 (f_X12_knownOf_4 n) y1 y2 y3 g = some r := h
    unfold fb_X12_knownOf_4 at h
    refine g_run 3 (pc' := 9) (L' := [some (.ref 526), some (.int y1), some (.int y2), some (.int y3)]) (S' := [.int ((gI g 526 25)), .int y3]) (M' := gm g) rfl ?_
    refine g_icmp ((gI g 526 25) ≤ y3) rfl (t := 37) rfl rfl (fun c1 => ?_) (fun c1 => ?_)
    · replace h := (if_pos c1).symm.trans h
      refine g_run 1 (pc' := 38) (L' := [some (.ref 526), some (.int y1), some (.int y2), some (.int y3)]) (S' := [.int y2]) (M' := gm g) rfl ?_
      cases h
      exact g_ret rfl rfl rfl rfl
    · replace h := (if_neg c1).symm.trans h
      refine g_run 4 (pc' := 16) (L' := [some (.ref 526), some (.int y1), some (.int y2), some (.int y3)]) (S' := [.int y1, .int y3, .ref 526, .int y2]) (M' := gm g) rfl ?_
      replace h := zB_of h
      obtain ⟨v2, g3, e4, h⟩ := h
      refine g_inv2 (kd := 1) (p_X12_knows  e4) rfl rfl rfl (by decide) rfl rfl rfl rfl (by omega) (pc' := 19) rfl (S' := [.int v2, .int y2]) rfl ?_
      refine g_if (v2 = 0) rfl (t := 28) rfl rfl (fun c5 => ?_) (fun c5 => ?_)
      · replace h := (if_pos c5).symm.trans h
        refine g_run 1 (pc' := 29) (L' := [some (.ref 526), some (.int y1), some (.int y2), some (.int y3)]) (S' := [.int 0, .int y2]) (M' := gm g3) rfl ?_
        refine g_forget (L' := [some (.ref 526), some (.int y1), none, some (.int y3)]) (And.intro rfl (And.intro rfl (And.intro rfl True.intro))) ?_
        exact p_X12_knownOf_29 hD (f_X12_knownOf_4 n) ih (y1) (y3) (0) (y2) g3 _ h
      · replace h := (if_neg c5).symm.trans h
        refine g_run 4 (pc' := 29) (L' := [some (.ref 526), some (.int y1), some (.int y2), some (.int y3)]) (S' := [.int ((1 <<< (y3 &&& 31))), .int y2]) (M' := gm g3) rfl ?_
        refine g_forget (L' := [some (.ref 526), some (.int y1), none, some (.int y3)]) (And.intro rfl (And.intro rfl (And.intro rfl True.intro))) ?_
        exact p_X12_knownOf_29 hD (f_X12_knownOf_4 n) ih (y1) (y3) (1 <<< (y3 &&& 31)) (y2) g3 _ h
def f_X12_knownOf (x1 : Int32) (g : zSg) : Option (Int32 × zSg) := f_X12_knownOf_4 zFu (x1) (0) (0) g
set_option maxRecDepth 100000 in
set_option maxHeartbeats 4000000 in
theorem p_X12_knownOf {sc : zSc} {hp : zHp} {x1 : Int32} {g : zSg} {r : Int32 × zSg} (h : f_X12_knownOf x1 g = some r) : zRn sc hp 2 zM_X12_knownOf [.ref 526, .int x1] (gm g) (some (.int r.1)) (gm r.2) := by
  intro d hD
  obtain ⟨d, rfl⟩ : ∃ d', d = d' + 1 := ⟨d - 1, by omega⟩
  show zG _ sc hp (zcd zM_X12_knownOf) 0 [some (.ref 526), some (.int x1), none, none] [] (gm g) _
  unfold f_X12_knownOf at h
  refine g_run 4 (pc' := 4) (L' := [some (.ref 526), some (.int x1), some (.int 0), some (.int 0)]) (S' := []) (M' := gm g) rfl ?_
  exact p_X12_knownOf_4 hD zFu (x1) (0) (0) g _ h
def f_X12_beside_55 (y3 : Int32) (s0 : Int32) (s1 : Int32) (g : zSg) : Option (Int32 × zSg) := (zB (f_X12_in y3 0 ((gI g 540 0) - 1) g) (fun v1 g2 => (if v1 = 0 then some ((-1), g2) else (zB (f_X12_in (s1 + s0) 0 ((gI g2 540 1) - 1) g2) (fun v5 g6 => (if v5 = 0 then some ((-1), g6) else some ((((gI g6 540 0) * (s1 + s0)) + y3), g6)))))))
set_option maxRecDepth 100000 in
set_option maxHeartbeats 4000000 in
theorem p_X12_beside_55 {sc : zSc} {hp : zHp} {d : Nat} (hD : 1 ≤ d) (y3 : Int32) (s0 : Int32) (s1 : Int32) (g : zSg) (r : Int32 × zSg) (h : f_X12_beside_55 y3 s0 s1 g = some r) : zG d sc hp (zcd zM_X12_beside) 55 [some (.ref 526), none, none, some (.int y3), none] [.int s0, .int s1] (gm g) ((some (.int r.1)), gm r.2) := by
  obtain ⟨d, rfl⟩ : ∃ d', d = d' + 1 := ⟨d - 1, by omega⟩
  unfold f_X12_beside_55 at h
  refine g_run 10 (pc' := 68) (L' := [some (.ref 526), none, none, some (.int y3), some (.int ((s1 + s0)))]) (S' := [.int (((gI g 540 0) - 1)), .int 0, .int y3]) (M' := gm g) rfl ?_
  replace h := zB_of h
  obtain ⟨v1, g2, e3, h⟩ := h
  refine g_inv2 (kd := 0) (p_X12_in  e3) rfl rfl rfl (by decide) rfl rfl rfl rfl (by omega) (pc' := 71) rfl (S' := [.int v1]) rfl ?_
  refine g_if (v1 = 0) rfl (t := 105) rfl rfl (fun c4 => ?_) (fun c4 => ?_)
  · replace h := (if_pos c4).symm.trans h
    refine g_run 1 (pc' := 106) (L' := [some (.ref 526), none, none, some (.int y3), some (.int ((s1 + s0)))]) (S' := [.int (-1)]) (M' := gm g2) rfl ?_
    cases h
    exact g_ret rfl rfl rfl rfl
  · replace h := (if_neg c4).symm.trans h
    refine g_run 8 (pc' := 85) (L' := [some (.ref 526), none, none, some (.int y3), some (.int ((s1 + s0)))]) (S' := [.int (((gI g2 540 1) - 1)), .int 0, .int ((s1 + s0))]) (M' := gm g2) rfl ?_
    replace h := zB_of h
    obtain ⟨v5, g6, e7, h⟩ := h
    refine g_inv2 (kd := 0) (p_X12_in  e7) rfl rfl rfl (by decide) rfl rfl rfl rfl (by omega) (pc' := 88) rfl (S' := [.int v5]) rfl ?_
    refine g_if (v5 = 0) rfl (t := 105) rfl rfl (fun c8 => ?_) (fun c8 => ?_)
    · replace h := (if_pos c8).symm.trans h
      refine g_run 1 (pc' := 106) (L' := [some (.ref 526), none, none, some (.int y3), some (.int ((s1 + s0)))]) (S' := [.int (-1)]) (M' := gm g6) rfl ?_
      cases h
      exact g_ret rfl rfl rfl rfl
    · replace h := (if_neg c8).symm.trans h
      refine g_run 9 (pc' := 106) (L' := [some (.ref 526), none, none, some (.int y3), some (.int ((s1 + s0)))]) (S' := [.int ((((gI g6 540 0) * (s1 + s0)) + y3))]) (M' := gm g6) rfl ?_
      cases h
      exact g_ret rfl rfl rfl rfl
def f_X12_beside_27 (y1 : Int32) (y2 : Int32) (s0 : Int32) (s1 : Int32) (g : zSg) : Option (Int32 × zSg) := (if (gI g 540 0) = 0 then none else (if ¬ y2 = 2 then (if ¬ y2 = 0 then f_X12_beside_55 (s1 + s0) (0) (y1 / (gI g 540 0)) g else f_X12_beside_55 (s1 + s0) (-1) (y1 / (gI g 540 0)) g) else f_X12_beside_55 (s1 + s0) (1) (y1 / (gI g 540 0)) g))
set_option maxRecDepth 100000 in
set_option maxHeartbeats 4000000 in
theorem p_X12_beside_27 {sc : zSc} {hp : zHp} {d : Nat} (hD : 1 ≤ d) (y1 : Int32) (y2 : Int32) (s0 : Int32) (s1 : Int32) (g : zSg) (r : Int32 × zSg) (h : f_X12_beside_27 y1 y2 s0 s1 g = some r) : zG d sc hp (zcd zM_X12_beside) 27 [some (.ref 526), some (.int y1), some (.int y2), none, none] [.int s0, .int s1] (gm g) ((some (.int r.1)), gm r.2) := by
  obtain ⟨d, rfl⟩ : ∃ d', d = d' + 1 := ⟨d - 1, by omega⟩
  unfold f_X12_beside_27 at h
  refine g_run 7 (pc' := 36) (L' := [some (.ref 526), some (.int y1), some (.int y2), some (.int ((s1 + s0))), none]) (S' := [.int ((gI g 540 0)), .int y1]) (M' := gm g) rfl ?_
  by_cases c1 : (gI g 540 0) = 0
  case pos => exact nomatch ((if_pos c1).symm.trans h)
  replace h := (if_neg c1).symm.trans h
  refine g_div rfl c1 ?_
  refine g_run 2 (pc' := 39) (L' := [some (.ref 526), some (.int y1), some (.int y2), some (.int ((s1 + s0))), none]) (S' := [.int 2, .int y2, .int ((y1 / (gI g 540 0)))]) (M' := gm g) rfl ?_
  refine g_icmp (¬ y2 = 2) rfl (t := 46) rfl rfl (fun c2 => ?_) (fun c2 => ?_)
  · replace h := (if_pos c2).symm.trans h
    refine g_run 1 (pc' := 47) (L' := [some (.ref 526), some (.int y1), some (.int y2), some (.int ((s1 + s0))), none]) (S' := [.int y2, .int ((y1 / (gI g 540 0)))]) (M' := gm g) rfl ?_
    refine g_if (¬ y2 = 0) rfl (t := 54) rfl rfl (fun c3 => ?_) (fun c3 => ?_)
    · replace h := (if_pos c3).symm.trans h
      refine g_run 1 (pc' := 55) (L' := [some (.ref 526), some (.int y1), some (.int y2), some (.int ((s1 + s0))), none]) (S' := [.int 0, .int ((y1 / (gI g 540 0)))]) (M' := gm g) rfl ?_
      refine g_forget (L' := [some (.ref 526), none, none, some (.int ((s1 + s0))), none]) (And.intro rfl (And.intro rfl True.intro)) ?_
      exact p_X12_beside_55 hD (s1 + s0) (0) (y1 / (gI g 540 0)) g _ h
    · replace h := (if_neg c3).symm.trans h
      refine g_run 2 (pc' := 55) (L' := [some (.ref 526), some (.int y1), some (.int y2), some (.int ((s1 + s0))), none]) (S' := [.int (-1), .int ((y1 / (gI g 540 0)))]) (M' := gm g) rfl ?_
      refine g_forget (L' := [some (.ref 526), none, none, some (.int ((s1 + s0))), none]) (And.intro rfl (And.intro rfl True.intro)) ?_
      exact p_X12_beside_55 hD (s1 + s0) (-1) (y1 / (gI g 540 0)) g _ h
  · replace h := (if_neg c2).symm.trans h
    refine g_run 2 (pc' := 55) (L' := [some (.ref 526), some (.int y1), some (.int y2), some (.int ((s1 + s0))), none]) (S' := [.int 1, .int ((y1 / (gI g 540 0)))]) (M' := gm g) rfl ?_
    refine g_forget (L' := [some (.ref 526), none, none, some (.int ((s1 + s0))), none]) (And.intro rfl (And.intro rfl True.intro)) ?_
    exact p_X12_beside_55 hD (s1 + s0) (1) (y1 / (gI g 540 0)) g _ h
def f_X12_beside (x1 : Int32) (x2 : Int32) (g : zSg) : Option (Int32 × zSg) := (if (gI g 540 0) = 0 then none else (if ¬ x2 = 1 then (if ¬ x2 = 3 then f_X12_beside_27 (x1) (x2) (0) (imod x1 (gI g 540 0)) g else f_X12_beside_27 (x1) (x2) (-1) (imod x1 (gI g 540 0)) g) else f_X12_beside_27 (x1) (x2) (1) (imod x1 (gI g 540 0)) g))
set_option maxRecDepth 100000 in
set_option maxHeartbeats 4000000 in
theorem p_X12_beside {sc : zSc} {hp : zHp} {x1 : Int32} {x2 : Int32} {g : zSg} {r : Int32 × zSg} (h : f_X12_beside x1 x2 g = some r) : zRn sc hp 1 zM_X12_beside [.ref 526, .int x1, .int x2] (gm g) (some (.int r.1)) (gm r.2) := by
  intro d hD
  obtain ⟨d, rfl⟩ : ∃ d', d = d' + 1 := ⟨d - 1, by omega⟩
  show zG _ sc hp (zcd zM_X12_beside) 0 [some (.ref 526), some (.int x1), some (.int x2), none, none] [] (gm g) _
  unfold f_X12_beside at h
  refine g_run 5 (pc' := 7) (L' := [some (.ref 526), some (.int x1), some (.int x2), none, none]) (S' := [.int ((gI g 540 0)), .int x1]) (M' := gm g) rfl ?_
  by_cases c1 : (gI g 540 0) = 0
  case pos => exact nomatch ((if_pos c1).symm.trans h)
  replace h := (if_neg c1).symm.trans h
  refine g_rem rfl c1 ?_
  refine g_run 2 (pc' := 10) (L' := [some (.ref 526), some (.int x1), some (.int x2), none, none]) (S' := [.int 1, .int x2, .int ((imod x1 (gI g 540 0)))]) (M' := gm g) rfl ?_
  refine g_icmp (¬ x2 = 1) rfl (t := 17) rfl rfl (fun c2 => ?_) (fun c2 => ?_)
  · replace h := (if_pos c2).symm.trans h
    refine g_run 2 (pc' := 19) (L' := [some (.ref 526), some (.int x1), some (.int x2), none, none]) (S' := [.int 3, .int x2, .int ((imod x1 (gI g 540 0)))]) (M' := gm g) rfl ?_
    refine g_icmp (¬ x2 = 3) rfl (t := 26) rfl rfl (fun c3 => ?_) (fun c3 => ?_)
    · replace h := (if_pos c3).symm.trans h
      refine g_run 1 (pc' := 27) (L' := [some (.ref 526), some (.int x1), some (.int x2), none, none]) (S' := [.int 0, .int ((imod x1 (gI g 540 0)))]) (M' := gm g) rfl ?_
      exact p_X12_beside_27 hD (x1) (x2) (0) (imod x1 (gI g 540 0)) g _ h
    · replace h := (if_neg c3).symm.trans h
      refine g_run 2 (pc' := 27) (L' := [some (.ref 526), some (.int x1), some (.int x2), none, none]) (S' := [.int (-1), .int ((imod x1 (gI g 540 0)))]) (M' := gm g) rfl ?_
      exact p_X12_beside_27 hD (x1) (x2) (-1) (imod x1 (gI g 540 0)) g _ h
  · replace h := (if_neg c2).symm.trans h
    refine g_run 2 (pc' := 27) (L' := [some (.ref 526), some (.int x1), some (.int x2), none, none]) (S' := [.int 1, .int ((imod x1 (gI g 540 0)))]) (M' := gm g) rfl ?_
    exact p_X12_beside_27 hD (x1) (x2) (1) (imod x1 (gI g 540 0)) g _ h
def f_X12_offShed_37 (y4 : Int32) (y5 : Int32) (g : zSg) : Option (Int32 × zSg) := (if ¬ y4 = (-1) then some (y5, g) else some ((-1), g))
set_option maxRecDepth 100000 in
set_option maxHeartbeats 4000000 in
theorem p_X12_offShed_37 {sc : zSc} {hp : zHp} {d : Nat} (hD : 2 ≤ d) (y4 : Int32) (y5 : Int32) (g : zSg) (r : Int32 × zSg) (h : f_X12_offShed_37 y4 y5 g = some r) : zG d sc hp (zcd zM_X12_offShed) 37 [none, none, none, none, some (.int y4), some (.int y5)] [] (gm g) ((some (.int r.1)), gm r.2) := by
  obtain ⟨d, rfl⟩ : ∃ d', d = d' + 1 := ⟨d - 1, by omega⟩
  unfold f_X12_offShed_37 at h
  refine g_run 2 (pc' := 40) (L' := [none, none, none, none, some (.int y4), some (.int y5)]) (S' := [.int (-1), .int y4]) (M' := gm g) rfl ?_
  refine g_icmp (¬ y4 = (-1)) rfl (t := 47) rfl rfl (fun c1 => ?_) (fun c1 => ?_)
  · replace h := (if_pos c1).symm.trans h
    refine g_run 1 (pc' := 49) (L' := [none, none, none, none, some (.int y4), some (.int y5)]) (S' := [.int y5]) (M' := gm g) rfl ?_
    cases h
    exact g_ret rfl rfl rfl rfl
  · replace h := (if_neg c1).symm.trans h
    refine g_run 2 (pc' := 49) (L' := [none, none, none, none, some (.int y4), some (.int y5)]) (S' := [.int (-1)]) (M' := gm g) rfl ?_
    cases h
    exact g_ret rfl rfl rfl rfl
def fb_X12_offShed_10 (kk : Int32 → Int32 → Int32 → Int32 → zSg → Option (Int32 × zSg)) (y2 : Int32) (y3 : Int32) (y4 : Int32) (y5 : Int32) (g : zSg) : Option (Int32 × zSg) := (if y4 = (-1) then f_X12_offShed_37 (y4) (y5) g else (if y4 = y2 then f_X12_offShed_37 (y4) (y5) g else (zB (f_X12_beside y4 y3 g) (fun v3 g4 => kk (y2) (y3) (v3) (y5 + 1) g4))))
def f_X12_offShed_10 : Nat → Int32 → Int32 → Int32 → Int32 → zSg → Option (Int32 × zSg)
  | 0, _, _, _, _, _ => none
  | n + 1, y2, y3, y4, y5, g => fb_X12_offShed_10 (f_X12_offShed_10 n) y2 y3 y4 y5 g
set_option maxRecDepth 100000 in
set_option maxHeartbeats 4000000 in
theorem p_X12_offShed_10 {sc : zSc} {hp : zHp} {d : Nat} (hD : 2 ≤ d) : ∀ (n : Nat) (y2 : Int32) (y3 : Int32) (y4 : Int32) (y5 : Int32) (g : zSg) (r : Int32 × zSg), f_X12_offShed_10 n y2 y3 y4 y5 g = some r → zG d sc hp (zcd zM_X12_offShed) 10 [some (.ref 526), none, some (.int y2), some (.int y3), some (.int y4), some (.int y5)] [] (gm g) ((some (.int r.1)), gm r.2) := by
  obtain ⟨d, rfl⟩ : ∃ d', d = d' + 1 := ⟨d - 1, by omega⟩
  intro n
  induction n with
  | zero => intro y2 y3 y4 y5 g r h; cases h
  | succ n ih =>
    intro y2 y3 y4 y5 g r h
    replace h : fb_X12_offShed_10 (f_X12_offShed_10 n) y2 y3 y4 y5 g = some r := h
    unfold fb_X12_offShed_10 at h
    refine g_run 2 (pc' := 13) (L' := [some (.ref 526), none, some (.int y2), some (.int y3), some (.int y4), some (.int y5)]) (S' := [.int (-1), .int y4]) (M' := gm g) rfl ?_
    refine g_icmp (y4 = (-1)) rfl (t := 37) rfl rfl (fun c1 => ?_) (fun c1 => ?_)
    · replace h := (if_pos c1).symm.trans h
      refine g_forget (L' := [none, none, none, none, some (.int y4), some (.int y5)]) (And.intro rfl (And.intro rfl True.intro)) ?_
      exact p_X12_offShed_37 hD (y4) (y5) g _ h
    · replace h := (if_neg c1).symm.trans h
      refine g_run 2 (pc' := 19) (L' := [some (.ref 526), none, some (.int y2), some (.int y3), some (.int y4), some (.int y5)]) (S' := [.int y2, .int y4]) (M' := gm g) rfl ?_
      refine g_icmp (y4 = y2) rfl (t := 37) rfl rfl (fun c2 => ?_) (fun c2 => ?_)
      · replace h := (if_pos c2).symm.trans h
        refine g_forget (L' := [none, none, none, none, some (.int y4), some (.int y5)]) (And.intro rfl (And.intro rfl True.intro)) ?_
        exact p_X12_offShed_37 hD (y4) (y5) g _ h
      · replace h := (if_neg c2).symm.trans h
        refine g_run 3 (pc' := 26) (L' := [some (.ref 526), none, some (.int y2), some (.int y3), some (.int y4), some (.int y5)]) (S' := [.int y3, .int y4, .ref 526]) (M' := gm g) rfl ?_
        replace h := zB_of h
        obtain ⟨v3, g4, e5, h⟩ := h
        refine g_inv2 (kd := 1) (p_X12_beside  e5) rfl rfl rfl (by decide) rfl rfl rfl rfl (by omega) (pc' := 29) rfl (S' := [.int v3]) rfl ?_
        refine g_run 3 (pc' := 10) (L' := [some (.ref 526), none, some (.int y2), some (.int y3), some (.int v3), some (.int ((y5 + 1)))]) (S' := []) (M' := gm g4) rfl ?_
        exact ih (y2) (y3) (v3) (y5 + 1) g4 _ h
def f_X12_offShed (x1 : Int32) (x2 : Int32) (x3 : Int32) (g : zSg) : Option (Int32 × zSg) := (zB (f_X12_shedOf x1 g) (fun v1 g2 => f_X12_offShed_10 zFu (x2) (x3) (v1) (0) g2))
set_option maxRecDepth 100000 in
set_option maxHeartbeats 4000000 in
theorem p_X12_offShed {sc : zSc} {hp : zHp} {x1 : Int32} {x2 : Int32} {x3 : Int32} {g : zSg} {r : Int32 × zSg} (h : f_X12_offShed x1 x2 x3 g = some r) : zRn sc hp 2 zM_X12_offShed [.ref 526, .int x1, .int x2, .int x3] (gm g) (some (.int r.1)) (gm r.2) := by
  intro d hD
  obtain ⟨d, rfl⟩ : ∃ d', d = d' + 1 := ⟨d - 1, by omega⟩
  show zG _ sc hp (zcd zM_X12_offShed) 0 [some (.ref 526), some (.int x1), some (.int x2), some (.int x3), none, none] [] (gm g) _
  unfold f_X12_offShed at h
  refine g_run 2 (pc' := 2) (L' := [some (.ref 526), some (.int x1), some (.int x2), some (.int x3), none, none]) (S' := [.int x1, .ref 526]) (M' := gm g) rfl ?_
  replace h := zB_of h
  obtain ⟨v1, g2, e3, h⟩ := h
  refine g_inv2 (kd := 1) (p_X12_shedOf  e3) rfl rfl rfl (by decide) rfl rfl rfl rfl (by omega) (pc' := 5) rfl (S' := [.int v1]) rfl ?_
  refine g_run 3 (pc' := 10) (L' := [some (.ref 526), some (.int x1), some (.int x2), some (.int x3), some (.int v1), some (.int 0)]) (S' := []) (M' := gm g2) rfl ?_
  refine g_forget (L' := [some (.ref 526), none, some (.int x2), some (.int x3), some (.int v1), some (.int 0)]) (And.intro rfl (And.intro rfl (And.intro rfl (And.intro rfl (And.intro rfl True.intro))))) ?_
  exact p_X12_offShed_10 hD zFu (x2) (x3) (v1) (0) g2 _ h
def f_X12_strengthBy_92 (y9 : Int32) (g : zSg) : Option (Int32 × zSg) := some ((imax 0 (imin 9 y9)), g)
set_option maxRecDepth 100000 in
set_option maxHeartbeats 4000000 in
theorem p_X12_strengthBy_92 {sc : zSc} {hp : zHp} {d : Nat} (hD : 5 ≤ d) (y9 : Int32) (g : zSg) (r : Int32 × zSg) (h : f_X12_strengthBy_92 y9 g = some r) : zG d sc hp (zcd zM_X12_strengthBy) 92 [none, none, none, none, none, none, none, none, none, some (.int y9)] [] (gm g) ((some (.int r.1)), gm r.2) := by
  obtain ⟨d, rfl⟩ : ∃ d', d = d' + 1 := ⟨d - 1, by omega⟩
  unfold f_X12_strengthBy_92 at h
  refine g_run 3 (pc' := 97) (L' := [none, none, none, none, none, none, none, none, none, some (.int y9)]) (S' := [.int y9, .int 9, .int 0]) (M' := gm g) rfl ?_
  refine g_spec2 (kd := 0) rfl rfl rfl (by decide) rfl (jd := 1001) rfl (by decide) rfl (Or.inl (by decide)) (S' := [.int ((imin 9 y9)), .int 0]) (M' := gm g) rfl rfl (pc' := 100) rfl ?_
  refine g_spec2 (kd := 0) rfl rfl rfl (by decide) rfl (jd := 1002) rfl (by decide) rfl (Or.inl (by decide)) (S' := [.int ((imax 0 (imin 9 y9)))]) (M' := gm g) rfl rfl (pc' := 103) rfl ?_
  cases h
  exact g_ret rfl rfl rfl rfl
def f_X12_strengthBy (x1 : Int32) (x2 : Int32) (x3 : Int32) (x4 : Int32) (x5 : Int32) (x6 : Int32) (x7 : Int32) (g : zSg) : Option (Int32 × zSg) := (zB (f_X12_offShed x1 x2 x4 g) (fun v1 g2 => (if ¬ v1 = (-1) then (if (gI g2 526 30) = (-1) then f_X12_strengthBy_92 (x3 - v1) g2 else (zB (f_X12_worthOf (gI (gsI (gsI (gsI (gsI (gsI (gsI g2 535 0 x3) 535 1 v1) 535 2 x5) 535 3 x4) 535 4 (imod x6 100)) 535 5 x7) 526 30) (gsI (gsI (gsI (gsI (gsI (gsI g2 535 0 x3) 535 1 v1) 535 2 x5) 535 3 x4) 535 4 (imod x6 100)) 535 5 x7)) (fun v6 g7 => f_X12_strengthBy_92 (v6) g7))) else some (0, g2))))
set_option maxRecDepth 100000 in
set_option maxHeartbeats 4000000 in
theorem p_X12_strengthBy {sc : zSc} {hp : zHp} {x1 : Int32} {x2 : Int32} {x3 : Int32} {x4 : Int32} {x5 : Int32} {x6 : Int32} {x7 : Int32} {g : zSg} {r : Int32 × zSg} (h : f_X12_strengthBy x1 x2 x3 x4 x5 x6 x7 g = some r) : zRn sc hp 5 zM_X12_strengthBy [.ref 526, .int x1, .int x2, .int x3, .int x4, .int x5, .int x6, .int x7] (gm g) (some (.int r.1)) (gm r.2) := by
  intro d hD
  obtain ⟨d, rfl⟩ : ∃ d', d = d' + 1 := ⟨d - 1, by omega⟩
  show zG _ sc hp (zcd zM_X12_strengthBy) 0 [some (.ref 526), some (.int x1), some (.int x2), some (.int x3), some (.int x4), some (.int x5), some (.int x6), some (.int x7), none, none] [] (gm g) _
  unfold f_X12_strengthBy at h
  refine g_run 4 (pc' := 5) (L' := [some (.ref 526), some (.int x1), some (.int x2), some (.int x3), some (.int x4), some (.int x5), some (.int x6), some (.int x7), none, none]) (S' := [.int x4, .int x2, .int x1, .ref 526]) (M' := gm g) rfl ?_
  replace h := zB_of h
  obtain ⟨v1, g2, e3, h⟩ := h
  refine g_inv2 (kd := 1) (p_X12_offShed  e3) rfl rfl rfl (by decide) rfl rfl rfl rfl (by omega) (pc' := 8) rfl (S' := [.int v1]) rfl ?_
  refine g_run 3 (pc' := 13) (L' := [some (.ref 526), some (.int x1), some (.int x2), some (.int x3), some (.int x4), some (.int x5), some (.int x6), some (.int x7), some (.int v1), none]) (S' := [.int (-1), .int v1]) (M' := gm g2) rfl ?_
  refine g_icmp (¬ v1 = (-1)) rfl (t := 18) rfl rfl (fun c4 => ?_) (fun c4 => ?_)
  · replace h := (if_pos c4).symm.trans h
    refine g_run 7 (pc' := 29) (L' := [some (.ref 526), some (.int x1), some (.int x2), some (.int x3), some (.int x4), some (.int x5), some (.int x6), some (.int x7), some (.int v1), some (.int ((x3 - v1)))]) (S' := [.int (-1), .int ((gI g2 526 30))]) (M' := gm g2) rfl ?_
    refine g_icmp ((gI g2 526 30) = (-1)) rfl (t := 92) rfl rfl (fun c5 => ?_) (fun c5 => ?_)
    · replace h := (if_pos c5).symm.trans h
      refine g_forget (L' := [none, none, none, none, none, none, none, none, none, some (.int ((x3 - v1)))]) (And.intro rfl True.intro) ?_
      exact p_X12_strengthBy_92 hD (x3 - v1) g2 _ h
    · replace h := (if_neg c5).symm.trans h
      refine g_run 35 (pc' := 87) (L' := [some (.ref 526), some (.int x1), some (.int x2), some (.int x3), some (.int x4), some (.int x5), some (.int x6), some (.int x7), some (.int v1), some (.int ((x3 - v1)))]) (S' := [.int ((gI (gsI (gsI (gsI (gsI (gsI (gsI g2 535 0 x3) 535 1 v1) 535 2 x5) 535 3 x4) 535 4 (imod x6 100)) 535 5 x7) 526 30)), .ref 526]) (M' := gm (gsI (gsI (gsI (gsI (gsI (gsI g2 535 0 x3) 535 1 v1) 535 2 x5) 535 3 x4) 535 4 (imod x6 100)) 535 5 x7)) rfl ?_
      replace h := zB_of h
      obtain ⟨v6, g7, e8, h⟩ := h
      refine g_inv2 (kd := 1) (p_X12_worthOf  e8) rfl rfl rfl (by decide) rfl rfl rfl rfl (by omega) (pc' := 90) rfl (S' := [.int v6]) rfl ?_
      refine g_run 1 (pc' := 92) (L' := [some (.ref 526), some (.int x1), some (.int x2), some (.int x3), some (.int x4), some (.int x5), some (.int x6), some (.int x7), some (.int v1), some (.int v6)]) (S' := []) (M' := gm g7) rfl ?_
      refine g_forget (L' := [none, none, none, none, none, none, none, none, none, some (.int v6)]) (And.intro rfl True.intro) ?_
      exact p_X12_strengthBy_92 hD (v6) g7 _ h
  · replace h := (if_neg c4).symm.trans h
    refine g_run 1 (pc' := 17) (L' := [some (.ref 526), some (.int x1), some (.int x2), some (.int x3), some (.int x4), some (.int x5), some (.int x6), some (.int x7), some (.int v1), none]) (S' := [.int 0]) (M' := gm g2) rfl ?_
    cases h
    exact g_ret rfl rfl rfl rfl
def f_X12_strengthNow (x1 : Int32) (x2 : Int32) (x3 : Int32) (g : zSg) : Option (Int32 × zSg) := (zB (f_X12_of x1 1 g) (fun v1 g2 => (if zib (42 + x1) 235 = true then (zB (f_X12_strengthBy x1 x2 v1 (gI g2 543 50) (gI g2 543 (ix (42 + x1))) (gI g2 543 53) x3 g2) (fun v5 g6 => some (v5, g6))) else none)))
set_option maxRecDepth 100000 in
set_option maxHeartbeats 4000000 in
theorem p_X12_strengthNow {sc : zSc} {hp : zHp} {x1 : Int32} {x2 : Int32} {x3 : Int32} {g : zSg} {r : Int32 × zSg} (h : f_X12_strengthNow x1 x2 x3 g = some r) : zRn sc hp 6 zM_X12_strengthNow [.ref 526, .int x1, .int x2, .int x3] (gm g) (some (.int r.1)) (gm r.2) := by
  intro d hD
  obtain ⟨d, rfl⟩ : ∃ d', d = d' + 1 := ⟨d - 1, by omega⟩
  show zG _ sc hp (zcd zM_X12_strengthNow) 0 [some (.ref 526), some (.int x1), some (.int x2), some (.int x3)] [] (gm g) _
  unfold f_X12_strengthNow at h
  refine g_run 6 (pc' := 6) (L' := [some (.ref 526), some (.int x1), some (.int x2), some (.int x3)]) (S' := [.int 1, .int x1, .ref 526, .int x2, .int x1, .ref 526]) (M' := gm g) rfl ?_
  replace h := zB_of h
  obtain ⟨v1, g2, e3, h⟩ := h
  refine g_inv2 (kd := 1) (p_X12_of  e3) rfl rfl rfl (by decide) rfl rfl rfl rfl (by omega) (pc' := 9) rfl (S' := [.int v1, .int x2, .int x1, .ref 526]) rfl ?_
  refine g_run 9 (pc' := 24) (L' := [some (.ref 526), some (.int x1), some (.int x2), some (.int x3)]) (S' := [.int ((42 + x1)), .ref 543, .int ((gI g2 543 50)), .int v1, .int x2, .int x1, .ref 526]) (M' := gm g2) rfl ?_
  by_cases c4 : zib (42 + x1) 235 = true
  case neg => exact nomatch ((if_neg c4).symm.trans h)
  replace h := (if_pos c4).symm.trans h
  refine g_iald rfl (a := 543) rfl c4 ?_
  refine g_run 5 (pc' := 33) (L' := [some (.ref 526), some (.int x1), some (.int x2), some (.int x3)]) (S' := [.int x3, .int ((gI g2 543 53)), .int ((gI g2 543 (ix (42 + x1)))), .int ((gI g2 543 50)), .int v1, .int x2, .int x1, .ref 526]) (M' := gm g2) rfl ?_
  replace h := zB_of h
  obtain ⟨v5, g6, e7, h⟩ := h
  refine g_inv2 (kd := 1) (p_X12_strengthBy  e7) rfl rfl rfl (by decide) rfl rfl rfl rfl (by omega) (pc' := 36) rfl (S' := [.int v5]) rfl ?_
  cases h
  exact g_ret rfl rfl rfl rfl
def f_X12_airOf_38 (k4 : Int32 → Int32 → Int32 → zSg → Option (Int32 × zSg)) (y1 : Int32) (y3 : Int32) (s0 : Int32) (s1 : Int32) (g : zSg) : Option (Int32 × zSg) := k4 (y1) (s1 + s0) (y3 + 1) g
set_option maxRecDepth 100000 in
set_option maxHeartbeats 4000000 in
theorem p_X12_airOf_38 {sc : zSc} {hp : zHp} {d : Nat} (hD : 7 ≤ d) (k4 : Int32 → Int32 → Int32 → zSg → Option (Int32 × zSg)) (hk4 : ∀ (y1 : Int32) (y2 : Int32) (y3 : Int32) (g : zSg) (r : Int32 × zSg), k4 y1 y2 y3 g = some r → zG d sc hp (zcd zM_X12_airOf) 4 [some (.ref 526), some (.int y1), some (.int y2), some (.int y3)] [] (gm g) ((some (.int r.1)), gm r.2)) (y1 : Int32) (y3 : Int32) (s0 : Int32) (s1 : Int32) (g : zSg) (r : Int32 × zSg) (h : f_X12_airOf_38 k4 y1 y3 s0 s1 g = some r) : zG d sc hp (zcd zM_X12_airOf) 38 [some (.ref 526), some (.int y1), none, some (.int y3)] [.int s0, .int s1] (gm g) ((some (.int r.1)), gm r.2) := by
  obtain ⟨d, rfl⟩ : ∃ d', d = d' + 1 := ⟨d - 1, by omega⟩
  unfold f_X12_airOf_38 at h
  refine g_run 4 (pc' := 4) (L' := [some (.ref 526), some (.int y1), some (.int ((s1 + s0))), some (.int ((y3 + 1)))]) (S' := []) (M' := gm g) rfl ?_
  exact hk4 (y1) (s1 + s0) (y3 + 1) g _ h
def fb_X12_airOf_4 (kk : Int32 → Int32 → Int32 → zSg → Option (Int32 × zSg)) (y1 : Int32) (y2 : Int32) (y3 : Int32) (g : zSg) : Option (Int32 × zSg) := (if (gI g 526 26) ≤ y3 then some (y2, g) else (zB (f_X12_hangs y3 g) (fun v2 g3 => (if v2 = 0 then f_X12_airOf_38 kk (y1) (y3) (0) (y2) g3 else (zB (f_X12_strengthNow y3 y1 (gI g3 543 51) g3) (fun v6 g7 => f_X12_airOf_38 kk (y1) (y3) (v6) (y2) g7))))))
def f_X12_airOf_4 : Nat → Int32 → Int32 → Int32 → zSg → Option (Int32 × zSg)
  | 0, _, _, _, _ => none
  | n + 1, y1, y2, y3, g => fb_X12_airOf_4 (f_X12_airOf_4 n) y1 y2 y3 g
set_option maxRecDepth 100000 in
set_option maxHeartbeats 4000000 in
theorem p_X12_airOf_4 {sc : zSc} {hp : zHp} {d : Nat} (hD : 7 ≤ d) : ∀ (n : Nat) (y1 : Int32) (y2 : Int32) (y3 : Int32) (g : zSg) (r : Int32 × zSg), f_X12_airOf_4 n y1 y2 y3 g = some r → zG d sc hp (zcd zM_X12_airOf) 4 [some (.ref 526), some (.int y1), some (.int y2), some (.int y3)] [] (gm g) ((some (.int r.1)), gm r.2) := by
  obtain ⟨d, rfl⟩ : ∃ d', d = d' + 1 := ⟨d - 1, by omega⟩
  intro n
  induction n with
  | zero => intro y1 y2 y3 g r h; cases h
  | succ n ih =>
    intro y1 y2 y3 g r h
    replace h : fb_X12_airOf_4 (f_X12_airOf_4 n) y1 y2 y3 g = some r := h
    unfold fb_X12_airOf_4 at h
    refine g_run 3 (pc' := 9) (L' := [some (.ref 526), some (.int y1), some (.int y2), some (.int y3)]) (S' := [.int ((gI g 526 26)), .int y3]) (M' := gm g) rfl ?_
    refine g_icmp ((gI g 526 26) ≤ y3) rfl (t := 46) rfl rfl (fun c1 => ?_) (fun c1 => ?_)
    · replace h := (if_pos c1).symm.trans h
      refine g_run 1 (pc' := 47) (L' := [some (.ref 526), some (.int y1), some (.int y2), some (.int y3)]) (S' := [.int y2]) (M' := gm g) rfl ?_
      cases h
      exact g_ret rfl rfl rfl rfl
    · replace h := (if_neg c1).symm.trans h
      refine g_run 3 (pc' := 15) (L' := [some (.ref 526), some (.int y1), some (.int y2), some (.int y3)]) (S' := [.int y3, .ref 526, .int y2]) (M' := gm g) rfl ?_
      replace h := zB_of h
      obtain ⟨v2, g3, e4, h⟩ := h
      refine g_inv2 (kd := 1) (p_X12_hangs  e4) rfl rfl rfl (by decide) rfl rfl rfl rfl (by omega) (pc' := 18) rfl (S' := [.int v2, .int y2]) rfl ?_
      refine g_if (v2 = 0) rfl (t := 37) rfl rfl (fun c5 => ?_) (fun c5 => ?_)
      · replace h := (if_pos c5).symm.trans h
        refine g_run 1 (pc' := 38) (L' := [some (.ref 526), some (.int y1), some (.int y2), some (.int y3)]) (S' := [.int 0, .int y2]) (M' := gm g3) rfl ?_
        refine g_forget (L' := [some (.ref 526), some (.int y1), none, some (.int y3)]) (And.intro rfl (And.intro rfl (And.intro rfl True.intro))) ?_
        exact p_X12_airOf_38 hD (f_X12_airOf_4 n) ih (y1) (y3) (0) (y2) g3 _ h
      · replace h := (if_neg c5).symm.trans h
        refine g_run 7 (pc' := 31) (L' := [some (.ref 526), some (.int y1), some (.int y2), some (.int y3)]) (S' := [.int ((gI g3 543 51)), .int y1, .int y3, .ref 526, .int y2]) (M' := gm g3) rfl ?_
        replace h := zB_of h
        obtain ⟨v6, g7, e8, h⟩ := h
        refine g_inv2 (kd := 1) (p_X12_strengthNow  e8) rfl rfl rfl (by decide) rfl rfl rfl rfl (by omega) (pc' := 34) rfl (S' := [.int v6, .int y2]) rfl ?_
        refine g_run 1 (pc' := 38) (L' := [some (.ref 526), some (.int y1), some (.int y2), some (.int y3)]) (S' := [.int v6, .int y2]) (M' := gm g7) rfl ?_
        refine g_forget (L' := [some (.ref 526), some (.int y1), none, some (.int y3)]) (And.intro rfl (And.intro rfl (And.intro rfl True.intro))) ?_
        exact p_X12_airOf_38 hD (f_X12_airOf_4 n) ih (y1) (y3) (v6) (y2) g7 _ h
def f_X12_airOf (x1 : Int32) (g : zSg) : Option (Int32 × zSg) := f_X12_airOf_4 zFu (x1) (0) (0) g
set_option maxRecDepth 100000 in
set_option maxHeartbeats 4000000 in
theorem p_X12_airOf {sc : zSc} {hp : zHp} {x1 : Int32} {g : zSg} {r : Int32 × zSg} (h : f_X12_airOf x1 g = some r) : zRn sc hp 7 zM_X12_airOf [.ref 526, .int x1] (gm g) (some (.int r.1)) (gm r.2) := by
  intro d hD
  obtain ⟨d, rfl⟩ : ∃ d', d = d' + 1 := ⟨d - 1, by omega⟩
  show zG _ sc hp (zcd zM_X12_airOf) 0 [some (.ref 526), some (.int x1), none, none] [] (gm g) _
  unfold f_X12_airOf at h
  refine g_run 4 (pc' := 4) (L' := [some (.ref 526), some (.int x1), some (.int 0), some (.int 0)]) (S' := []) (M' := gm g) rfl ?_
  exact p_X12_airOf_4 hD zFu (x1) (0) (0) g _ h
def f_X12_smokeAll_96 (k10 : Int32 → Int32 → zSg → Option (Unit × zSg)) (y1 : Int32) (y2 : Int32) (g : zSg) : Option (Unit × zSg) := k10 (y1) (y2 + 1) g
set_option maxRecDepth 100000 in
set_option maxHeartbeats 4000000 in
theorem p_X12_smokeAll_96 {sc : zSc} {hp : zHp} {d : Nat} (hD : 7 ≤ d) (k10 : Int32 → Int32 → zSg → Option (Unit × zSg)) (hk10 : ∀ (y1 : Int32) (y2 : Int32) (g : zSg) (r : Unit × zSg), k10 y1 y2 g = some r → zG d sc hp (zcd zM_X12_smokeAll) 10 [some (.ref 526), some (.int y1), some (.int y2), none] [] (gm g) (none, gm r.2)) (y1 : Int32) (y2 : Int32) (g : zSg) (r : Unit × zSg) (h : f_X12_smokeAll_96 k10 y1 y2 g = some r) : zG d sc hp (zcd zM_X12_smokeAll) 96 [some (.ref 526), some (.int y1), some (.int y2), none] [] (gm g) (none, gm r.2) := by
  obtain ⟨d, rfl⟩ : ∃ d', d = d' + 1 := ⟨d - 1, by omega⟩
  unfold f_X12_smokeAll_96 at h
  refine g_run 2 (pc' := 10) (L' := [some (.ref 526), some (.int y1), some (.int ((y2 + 1))), none]) (S' := []) (M' := gm g) rfl ?_
  exact hk10 (y1) (y2 + 1) g _ h
def f_X12_smokeAll_83 (k10 : Int32 → Int32 → zSg → Option (Unit × zSg)) (y1 : Int32) (y2 : Int32) (g : zSg) : Option (Unit × zSg) := (if zib (42 + y2) 235 = true then (if zib (42 + y2) 235 = true then f_X12_smokeAll_96 k10 (y1) (y2) (gsI g (543) (ix (42 + y2)) ((gI g 543 (ix (42 + y2))) + 1)) else none) else none)
set_option maxRecDepth 100000 in
set_option maxHeartbeats 4000000 in
theorem p_X12_smokeAll_83 {sc : zSc} {hp : zHp} {d : Nat} (hD : 7 ≤ d) (k10 : Int32 → Int32 → zSg → Option (Unit × zSg)) (hk10 : ∀ (y1 : Int32) (y2 : Int32) (g : zSg) (r : Unit × zSg), k10 y1 y2 g = some r → zG d sc hp (zcd zM_X12_smokeAll) 10 [some (.ref 526), some (.int y1), some (.int y2), none] [] (gm g) (none, gm r.2)) (y1 : Int32) (y2 : Int32) (g : zSg) (r : Unit × zSg) (h : f_X12_smokeAll_83 k10 y1 y2 g = some r) : zG d sc hp (zcd zM_X12_smokeAll) 83 [some (.ref 526), some (.int y1), some (.int y2), none] [] (gm g) (none, gm r.2) := by
  obtain ⟨d, rfl⟩ : ∃ d', d = d' + 1 := ⟨d - 1, by omega⟩
  unfold f_X12_smokeAll_83 at h
  refine g_run 6 (pc' := 92) (L' := [some (.ref 526), some (.int y1), some (.int y2), none]) (S' := [.int ((42 + y2)), .ref 543, .int ((42 + y2)), .ref 543]) (M' := gm g) rfl ?_
  by_cases c1 : zib (42 + y2) 235 = true
  case neg => exact nomatch ((if_neg c1).symm.trans h)
  replace h := (if_pos c1).symm.trans h
  refine g_iald rfl (a := 543) rfl c1 ?_
  refine g_run 2 (pc' := 95) (L' := [some (.ref 526), some (.int y1), some (.int y2), none]) (S' := [.int (((gI g 543 (ix (42 + y2))) + 1)), .int ((42 + y2)), .ref 543]) (M' := gm g) rfl ?_
  by_cases c2 : zib (42 + y2) 235 = true
  case neg => exact nomatch ((if_neg c2).symm.trans h)
  replace h := (if_pos c2).symm.trans h
  refine g_iast rfl (a := 543) rfl c2 ?_
  exact p_X12_smokeAll_96 hD k10 hk10 (y1) (y2) (gsI g (543) (ix (42 + y2)) ((gI g 543 (ix (42 + y2))) + 1)) _ h
def fb_X12_smokeAll_49 (k10 : Int32 → Int32 → zSg → Option (Unit × zSg)) (kk : Int32 → Int32 → Int32 → zSg → Option (Unit × zSg)) (y1 : Int32) (y2 : Int32) (y3 : Int32) (g : zSg) : Option (Unit × zSg) := (if (gI g 526 25) ≤ y3 then f_X12_smokeAll_83 k10 (y1) (y2) g else (if zib (0 + y3) 235 = true then (zB (f_X12_strengthNow y2 (gI g 543 (ix (0 + y3))) y1 g) (fun v3 g4 => (zB (f_X12_breathe y3 y2 v3 g4) (fun v6 g7 => kk (y1) (y2) (y3 + 1) g7)))) else none))
def f_X12_smokeAll_49 (k10 : Int32 → Int32 → zSg → Option (Unit × zSg)) : Nat → Int32 → Int32 → Int32 → zSg → Option (Unit × zSg)
  | 0, _, _, _, _ => none
  | n + 1, y1, y2, y3, g => fb_X12_smokeAll_49 k10 (f_X12_smokeAll_49 k10 n) y1 y2 y3 g
set_option maxRecDepth 100000 in
set_option maxHeartbeats 4000000 in
theorem p_X12_smokeAll_49 {sc : zSc} {hp : zHp} {d : Nat} (hD : 7 ≤ d) (k10 : Int32 → Int32 → zSg → Option (Unit × zSg)) (hk10 : ∀ (y1 : Int32) (y2 : Int32) (g : zSg) (r : Unit × zSg), k10 y1 y2 g = some r → zG d sc hp (zcd zM_X12_smokeAll) 10 [some (.ref 526), some (.int y1), some (.int y2), none] [] (gm g) (none, gm r.2)) : ∀ (n : Nat) (y1 : Int32) (y2 : Int32) (y3 : Int32) (g : zSg) (r : Unit × zSg), f_X12_smokeAll_49 k10 n y1 y2 y3 g = some r → zG d sc hp (zcd zM_X12_smokeAll) 49 [some (.ref 526), some (.int y1), some (.int y2), some (.int y3)] [] (gm g) (none, gm r.2) := by
  obtain ⟨d, rfl⟩ : ∃ d', d = d' + 1 := ⟨d - 1, by omega⟩
  intro n
  induction n with
  | zero => intro y1 y2 y3 g r h; cases h
  | succ n ih =>
    intro y1 y2 y3 g r h
    replace h : fb_X12_smokeAll_49 k10 (f_X12_smokeAll_49 k10 n) y1 y2 y3 g = some r := h
    unfold fb_X12_smokeAll_49 at h
    refine g_run 3 (pc' := 54) (L' := [some (.ref 526), some (.int y1), some (.int y2), some (.int y3)]) (S' := [.int ((gI g 526 25)), .int y3]) (M' := gm g) rfl ?_
    refine g_icmp ((gI g 526 25) ≤ y3) rfl (t := 83) rfl rfl (fun c1 => ?_) (fun c1 => ?_)
    · replace h := (if_pos c1).symm.trans h
      refine g_forget (L' := [some (.ref 526), some (.int y1), some (.int y2), none]) (And.intro rfl (And.intro rfl (And.intro rfl True.intro))) ?_
      exact p_X12_smokeAll_83 hD k10 hk10 (y1) (y2) g _ h
    · replace h := (if_neg c1).symm.trans h
      refine g_run 10 (pc' := 69) (L' := [some (.ref 526), some (.int y1), some (.int y2), some (.int y3)]) (S' := [.int ((0 + y3)), .ref 543, .int y2, .ref 526, .int y2, .int y3, .ref 526]) (M' := gm g) rfl ?_
      by_cases c2 : zib (0 + y3) 235 = true
      case neg => exact nomatch ((if_neg c2).symm.trans h)
      replace h := (if_pos c2).symm.trans h
      refine g_iald rfl (a := 543) rfl c2 ?_
      refine g_run 1 (pc' := 71) (L' := [some (.ref 526), some (.int y1), some (.int y2), some (.int y3)]) (S' := [.int y1, .int ((gI g 543 (ix (0 + y3)))), .int y2, .ref 526, .int y2, .int y3, .ref 526]) (M' := gm g) rfl ?_
      replace h := zB_of h
      obtain ⟨v3, g4, e5, h⟩ := h
      refine g_inv2 (kd := 1) (p_X12_strengthNow  e5) rfl rfl rfl (by decide) rfl rfl rfl rfl (by omega) (pc' := 74) rfl (S' := [.int v3, .int y2, .int y3, .ref 526]) rfl ?_
      replace h := zB_of h
      obtain ⟨v6, g7, e8, h⟩ := h
      refine g_inv2 (kd := 1) (p_X12_breathe  e8) rfl rfl rfl (by decide) rfl rfl rfl rfl (by omega) (pc' := 77) rfl (S' := []) rfl ?_
      refine g_run 2 (pc' := 49) (L' := [some (.ref 526), some (.int y1), some (.int y2), some (.int ((y3 + 1)))]) (S' := []) (M' := gm g7) rfl ?_
      exact ih (y1) (y2) (y3 + 1) g7 _ h
def fb_X12_smokeAll_10 (kk : Int32 → Int32 → zSg → Option (Unit × zSg)) (y1 : Int32) (y2 : Int32) (g : zSg) : Option (Unit × zSg) := (if (gI g 526 26) ≤ y2 then some ((), g) else (zB (f_X12_hangs y2 g) (fun v2 g3 => (if v2 = 0 then f_X12_smokeAll_96 kk (y1) (y2) g3 else (if (gI g3 543 51) ≤ 0 then f_X12_smokeAll_96 kk (y1) (y2) g3 else f_X12_smokeAll_49 kk zFu (y1) (y2) (0) (gsI g3 543 51 ((gI g3 543 51) - 1)))))))
def f_X12_smokeAll_10 : Nat → Int32 → Int32 → zSg → Option (Unit × zSg)
  | 0, _, _, _ => none
  | n + 1, y1, y2, g => fb_X12_smokeAll_10 (f_X12_smokeAll_10 n) y1 y2 g
set_option maxRecDepth 100000 in
set_option maxHeartbeats 4000000 in
theorem p_X12_smokeAll_10 {sc : zSc} {hp : zHp} {d : Nat} (hD : 7 ≤ d) : ∀ (n : Nat) (y1 : Int32) (y2 : Int32) (g : zSg) (r : Unit × zSg), f_X12_smokeAll_10 n y1 y2 g = some r → zG d sc hp (zcd zM_X12_smokeAll) 10 [some (.ref 526), some (.int y1), some (.int y2), none] [] (gm g) (none, gm r.2) := by
  obtain ⟨d, rfl⟩ : ∃ d', d = d' + 1 := ⟨d - 1, by omega⟩
  intro n
  induction n with
  | zero => intro y1 y2 g r h; cases h
  | succ n ih =>
    intro y1 y2 g r h
    replace h : fb_X12_smokeAll_10 (f_X12_smokeAll_10 n) y1 y2 g = some r := h
    unfold fb_X12_smokeAll_10 at h
    refine g_run 3 (pc' := 15) (L' := [some (.ref 526), some (.int y1), some (.int y2), none]) (S' := [.int ((gI g 526 26)), .int y2]) (M' := gm g) rfl ?_
    refine g_icmp ((gI g 526 26) ≤ y2) rfl (t := 102) rfl rfl (fun c1 => ?_) (fun c1 => ?_)
    · replace h := (if_pos c1).symm.trans h
      cases h
      exact g_ret rfl rfl rfl rfl
    · replace h := (if_neg c1).symm.trans h
      refine g_run 2 (pc' := 20) (L' := [some (.ref 526), some (.int y1), some (.int y2), none]) (S' := [.int y2, .ref 526]) (M' := gm g) rfl ?_
      replace h := zB_of h
      obtain ⟨v2, g3, e4, h⟩ := h
      refine g_inv2 (kd := 1) (p_X12_hangs  e4) rfl rfl rfl (by decide) rfl rfl rfl rfl (by omega) (pc' := 23) rfl (S' := [.int v2]) rfl ?_
      refine g_if (v2 = 0) rfl (t := 96) rfl rfl (fun c5 => ?_) (fun c5 => ?_)
      · replace h := (if_pos c5).symm.trans h
        exact p_X12_smokeAll_96 hD (f_X12_smokeAll_10 n) ih (y1) (y2) g3 _ h
      · replace h := (if_neg c5).symm.trans h
        refine g_run 4 (pc' := 33) (L' := [some (.ref 526), some (.int y1), some (.int y2), none]) (S' := [.int ((gI g3 543 51))]) (M' := gm g3) rfl ?_
        refine g_if ((gI g3 543 51) ≤ 0) rfl (t := 96) rfl rfl (fun c6 => ?_) (fun c6 => ?_)
        · replace h := (if_pos c6).symm.trans h
          exact p_X12_smokeAll_96 hD (f_X12_smokeAll_10 n) ih (y1) (y2) g3 _ h
        · replace h := (if_neg c6).symm.trans h
          refine g_run 10 (pc' := 49) (L' := [some (.ref 526), some (.int y1), some (.int y2), some (.int 0)]) (S' := []) (M' := gm (gsI g3 543 51 ((gI g3 543 51) - 1))) rfl ?_
          exact p_X12_smokeAll_49 hD (f_X12_smokeAll_10 n) ih zFu (y1) (y2) (0) (gsI g3 543 51 ((gI g3 543 51) - 1)) _ h
def f_X12_smokeAll (g : zSg) : Option (Unit × zSg) := f_X12_smokeAll_10 zFu (gI g 543 51) (0) g
set_option maxRecDepth 100000 in
set_option maxHeartbeats 4000000 in
theorem p_X12_smokeAll {sc : zSc} {hp : zHp} {g : zSg} {r : Unit × zSg} (h : f_X12_smokeAll g = some r) : zRn sc hp 7 zM_X12_smokeAll [.ref 526] (gm g) none (gm r.2) := by
  intro d hD
  obtain ⟨d, rfl⟩ : ∃ d', d = d' + 1 := ⟨d - 1, by omega⟩
  show zG _ sc hp (zcd zM_X12_smokeAll) 0 [some (.ref 526), none, none, none] [] (gm g) _
  unfold f_X12_smokeAll at h
  refine g_run 7 (pc' := 10) (L' := [some (.ref 526), some (.int ((gI g 543 51))), some (.int 0), none]) (S' := []) (M' := gm g) rfl ?_
  exact p_X12_smokeAll_10 hD zFu (gI g 543 51) (0) g _ h
def f_X12_cureAll_69 (k4 : Int32 → Int32 → zSg → Option (Int32 × zSg)) (y1 : Int32) (y2 : Int32) (g : zSg) : Option (Int32 × zSg) := k4 (y1) (y2 + 1) g
set_option maxRecDepth 100000 in
set_option maxHeartbeats 4000000 in
theorem p_X12_cureAll_69 {sc : zSc} {hp : zHp} {d : Nat} (hD : 2 ≤ d) (k4 : Int32 → Int32 → zSg → Option (Int32 × zSg)) (hk4 : ∀ (y1 : Int32) (y2 : Int32) (g : zSg) (r : Int32 × zSg), k4 y1 y2 g = some r → zG d sc hp (zcd zM_X12_cureAll) 4 [some (.ref 526), some (.int y1), some (.int y2)] [] (gm g) ((some (.int r.1)), gm r.2)) (y1 : Int32) (y2 : Int32) (g : zSg) (r : Int32 × zSg) (h : f_X12_cureAll_69 k4 y1 y2 g = some r) : zG d sc hp (zcd zM_X12_cureAll) 69 [some (.ref 526), some (.int y1), some (.int y2)] [] (gm g) ((some (.int r.1)), gm r.2) := by
  obtain ⟨d, rfl⟩ : ∃ d', d = d' + 1 := ⟨d - 1, by omega⟩
  unfold f_X12_cureAll_69 at h
  refine g_run 2 (pc' := 4) (L' := [some (.ref 526), some (.int y1), some (.int ((y2 + 1)))]) (S' := []) (M' := gm g) rfl ?_
  exact hk4 (y1) (y2 + 1) g _ h
def fb_X12_cureAll_4 (kk : Int32 → Int32 → zSg → Option (Int32 × zSg)) (y1 : Int32) (y2 : Int32) (g : zSg) : Option (Int32 × zSg) := (if (gI g 526 26) ≤ y2 then some (y1, g) else (zB (f_X12_hangs y2 g) (fun v2 g3 => (if v2 = 0 then f_X12_cureAll_69 kk (y1) (y2) g3 else (if zib (42 + y2) 235 = true then (zB (f_X12_of y2 1 g3) (fun v7 g8 => (if (gI g3 543 (ix (42 + y2))) < v7 then f_X12_cureAll_69 kk (y1) (y2) g8 else f_X12_cureAll_69 kk (y1 + 1) (y2) (gsI (gsI g8 543 49 ((gI g8 543 49) ||| (1 <<< (y2 &&& 31)))) 543 48 ((gI (gsI g8 543 49 ((gI g8 543 49) ||| (1 <<< (y2 &&& 31)))) 543 48) &&& ((1 <<< (y2 &&& 31)) ^^^ (-1))))))) else none)))))
def f_X12_cureAll_4 : Nat → Int32 → Int32 → zSg → Option (Int32 × zSg)
  | 0, _, _, _ => none
  | n + 1, y1, y2, g => fb_X12_cureAll_4 (f_X12_cureAll_4 n) y1 y2 g
set_option maxRecDepth 100000 in
set_option maxHeartbeats 4000000 in
theorem p_X12_cureAll_4 {sc : zSc} {hp : zHp} {d : Nat} (hD : 2 ≤ d) : ∀ (n : Nat) (y1 : Int32) (y2 : Int32) (g : zSg) (r : Int32 × zSg), f_X12_cureAll_4 n y1 y2 g = some r → zG d sc hp (zcd zM_X12_cureAll) 4 [some (.ref 526), some (.int y1), some (.int y2)] [] (gm g) ((some (.int r.1)), gm r.2) := by
  obtain ⟨d, rfl⟩ : ∃ d', d = d' + 1 := ⟨d - 1, by omega⟩
  intro n
  induction n with
  | zero => intro y1 y2 g r h; cases h
  | succ n ih =>
    intro y1 y2 g r h
    replace h : fb_X12_cureAll_4 (f_X12_cureAll_4 n) y1 y2 g = some r := h
    unfold fb_X12_cureAll_4 at h
    refine g_run 3 (pc' := 9) (L' := [some (.ref 526), some (.int y1), some (.int y2)]) (S' := [.int ((gI g 526 26)), .int y2]) (M' := gm g) rfl ?_
    refine g_icmp ((gI g 526 26) ≤ y2) rfl (t := 75) rfl rfl (fun c1 => ?_) (fun c1 => ?_)
    · replace h := (if_pos c1).symm.trans h
      refine g_run 1 (pc' := 76) (L' := [some (.ref 526), some (.int y1), some (.int y2)]) (S' := [.int y1]) (M' := gm g) rfl ?_
      cases h
      exact g_ret rfl rfl rfl rfl
    · replace h := (if_neg c1).symm.trans h
      refine g_run 2 (pc' := 14) (L' := [some (.ref 526), some (.int y1), some (.int y2)]) (S' := [.int y2, .ref 526]) (M' := gm g) rfl ?_
      replace h := zB_of h
      obtain ⟨v2, g3, e4, h⟩ := h
      refine g_inv2 (kd := 1) (p_X12_hangs  e4) rfl rfl rfl (by decide) rfl rfl rfl rfl (by omega) (pc' := 17) rfl (S' := [.int v2]) rfl ?_
      refine g_if (v2 = 0) rfl (t := 69) rfl rfl (fun c5 => ?_) (fun c5 => ?_)
      · replace h := (if_pos c5).symm.trans h
        exact p_X12_cureAll_69 hD (f_X12_cureAll_4 n) ih (y1) (y2) g3 _ h
      · replace h := (if_neg c5).symm.trans h
        refine g_run 5 (pc' := 28) (L' := [some (.ref 526), some (.int y1), some (.int y2)]) (S' := [.int ((42 + y2)), .ref 543]) (M' := gm g3) rfl ?_
        by_cases c6 : zib (42 + y2) 235 = true
        case neg => exact nomatch ((if_neg c6).symm.trans h)
        replace h := (if_pos c6).symm.trans h
        refine g_iald rfl (a := 543) rfl c6 ?_
        refine g_run 3 (pc' := 32) (L' := [some (.ref 526), some (.int y1), some (.int y2)]) (S' := [.int 1, .int y2, .ref 526, .int ((gI g3 543 (ix (42 + y2))))]) (M' := gm g3) rfl ?_
        replace h := zB_of h
        obtain ⟨v7, g8, e9, h⟩ := h
        refine g_inv2 (kd := 1) (p_X12_of  e9) rfl rfl rfl (by decide) rfl rfl rfl rfl (by omega) (pc' := 35) rfl (S' := [.int v7, .int ((gI g3 543 (ix (42 + y2))))]) rfl ?_
        refine g_icmp ((gI g3 543 (ix (42 + y2))) < v7) rfl (t := 69) rfl rfl (fun c10 => ?_) (fun c10 => ?_)
        · replace h := (if_pos c10).symm.trans h
          exact p_X12_cureAll_69 hD (f_X12_cureAll_4 n) ih (y1) (y2) g8 _ h
        · replace h := (if_neg c10).symm.trans h
          refine g_run 23 (pc' := 69) (L' := [some (.ref 526), some (.int ((y1 + 1))), some (.int y2)]) (S' := []) (M' := gm (gsI (gsI g8 543 49 ((gI g8 543 49) ||| (1 <<< (y2 &&& 31)))) 543 48 ((gI (gsI g8 543 49 ((gI g8 543 49) ||| (1 <<< (y2 &&& 31)))) 543 48) &&& ((1 <<< (y2 &&& 31)) ^^^ (-1))))) rfl ?_
          exact p_X12_cureAll_69 hD (f_X12_cureAll_4 n) ih (y1 + 1) (y2) (gsI (gsI g8 543 49 ((gI g8 543 49) ||| (1 <<< (y2 &&& 31)))) 543 48 ((gI (gsI g8 543 49 ((gI g8 543 49) ||| (1 <<< (y2 &&& 31)))) 543 48) &&& ((1 <<< (y2 &&& 31)) ^^^ (-1)))) _ h
def f_X12_cureAll (g : zSg) : Option (Int32 × zSg) := f_X12_cureAll_4 zFu (0) (0) g
set_option maxRecDepth 100000 in
set_option maxHeartbeats 4000000 in
theorem p_X12_cureAll {sc : zSc} {hp : zHp} {g : zSg} {r : Int32 × zSg} (h : f_X12_cureAll g = some r) : zRn sc hp 2 zM_X12_cureAll [.ref 526] (gm g) (some (.int r.1)) (gm r.2) := by
  intro d hD
  obtain ⟨d, rfl⟩ : ∃ d', d = d' + 1 := ⟨d - 1, by omega⟩
  show zG _ sc hp (zcd zM_X12_cureAll) 0 [some (.ref 526), none, none] [] (gm g) _
  unfold f_X12_cureAll at h
  refine g_run 4 (pc' := 4) (L' := [some (.ref 526), some (.int 0), some (.int 0)]) (S' := []) (M' := gm g) rfl ?_
  exact p_X12_cureAll_4 hD zFu (0) (0) g _ h
def f_X12_talkAll_146 (k29 : Int32 → zSg → Option (Unit × zSg)) (y1 : Int32) (g : zSg) : Option (Unit × zSg) := k29 (y1 + 1) g
set_option maxRecDepth 100000 in
set_option maxHeartbeats 4000000 in
theorem p_X12_talkAll_146 {sc : zSc} {hp : zHp} {d : Nat} (hD : 3 ≤ d) (k29 : Int32 → zSg → Option (Unit × zSg)) (hk29 : ∀ (y1 : Int32) (g : zSg) (r : Unit × zSg), k29 y1 g = some r → zG d sc hp (zcd zM_X12_talkAll) 29 [some (.ref 526), some (.int y1), none, none, none] [] (gm g) (none, gm r.2)) (y1 : Int32) (g : zSg) (r : Unit × zSg) (h : f_X12_talkAll_146 k29 y1 g = some r) : zG d sc hp (zcd zM_X12_talkAll) 146 [some (.ref 526), some (.int y1), none, none, none] [] (gm g) (none, gm r.2) := by
  obtain ⟨d, rfl⟩ : ∃ d', d = d' + 1 := ⟨d - 1, by omega⟩
  unfold f_X12_talkAll_146 at h
  refine g_run 2 (pc' := 29) (L' := [some (.ref 526), some (.int ((y1 + 1))), none, none, none]) (S' := []) (M' := gm g) rfl ?_
  exact hk29 (y1 + 1) g _ h
def f_X12_talkAll_140 (k29 : Int32 → zSg → Option (Unit × zSg)) (k39 : Int32 → Int32 → zSg → Option (Unit × zSg)) (y1 : Int32) (y2 : Int32) (g : zSg) : Option (Unit × zSg) := k39 (y1) (y2 + 1) g
set_option maxRecDepth 100000 in
set_option maxHeartbeats 4000000 in
theorem p_X12_talkAll_140 {sc : zSc} {hp : zHp} {d : Nat} (hD : 3 ≤ d) (k29 : Int32 → zSg → Option (Unit × zSg)) (hk29 : ∀ (y1 : Int32) (g : zSg) (r : Unit × zSg), k29 y1 g = some r → zG d sc hp (zcd zM_X12_talkAll) 29 [some (.ref 526), some (.int y1), none, none, none] [] (gm g) (none, gm r.2)) (k39 : Int32 → Int32 → zSg → Option (Unit × zSg)) (hk39 : ∀ (y1 : Int32) (y2 : Int32) (g : zSg) (r : Unit × zSg), k39 y1 y2 g = some r → zG d sc hp (zcd zM_X12_talkAll) 39 [some (.ref 526), some (.int y1), some (.int y2), none, none] [] (gm g) (none, gm r.2)) (y1 : Int32) (y2 : Int32) (g : zSg) (r : Unit × zSg) (h : f_X12_talkAll_140 k29 k39 y1 y2 g = some r) : zG d sc hp (zcd zM_X12_talkAll) 140 [some (.ref 526), some (.int y1), some (.int y2), none, none] [] (gm g) (none, gm r.2) := by
  obtain ⟨d, rfl⟩ : ∃ d', d = d' + 1 := ⟨d - 1, by omega⟩
  unfold f_X12_talkAll_140 at h
  refine g_run 2 (pc' := 39) (L' := [some (.ref 526), some (.int y1), some (.int ((y2 + 1))), none, none]) (S' := []) (M' := gm g) rfl ?_
  exact hk39 (y1) (y2 + 1) g _ h
def f_X12_talkAll_131 (k29 : Int32 → zSg → Option (Unit × zSg)) (k39 : Int32 → Int32 → zSg → Option (Unit × zSg)) (k104 : Int32 → Int32 → Int32 → Int32 → zSg → Option (Unit × zSg)) (y1 : Int32) (y2 : Int32) (y3 : Int32) (y4 : Int32) (s0 : Int32) (s1 : Int32) (s2 : Int32) (g : zSg) : Option (Unit × zSg) := (zB (f_X12_breathe s2 s1 s0 g) (fun v1 g2 => k104 (y1) (y2) (y3) (y4 + 1) g2))
set_option maxRecDepth 100000 in
set_option maxHeartbeats 4000000 in
theorem p_X12_talkAll_131 {sc : zSc} {hp : zHp} {d : Nat} (hD : 3 ≤ d) (k29 : Int32 → zSg → Option (Unit × zSg)) (hk29 : ∀ (y1 : Int32) (g : zSg) (r : Unit × zSg), k29 y1 g = some r → zG d sc hp (zcd zM_X12_talkAll) 29 [some (.ref 526), some (.int y1), none, none, none] [] (gm g) (none, gm r.2)) (k39 : Int32 → Int32 → zSg → Option (Unit × zSg)) (hk39 : ∀ (y1 : Int32) (y2 : Int32) (g : zSg) (r : Unit × zSg), k39 y1 y2 g = some r → zG d sc hp (zcd zM_X12_talkAll) 39 [some (.ref 526), some (.int y1), some (.int y2), none, none] [] (gm g) (none, gm r.2)) (k104 : Int32 → Int32 → Int32 → Int32 → zSg → Option (Unit × zSg)) (hk104 : ∀ (y1 : Int32) (y2 : Int32) (y3 : Int32) (y4 : Int32) (g : zSg) (r : Unit × zSg), k104 y1 y2 y3 y4 g = some r → zG d sc hp (zcd zM_X12_talkAll) 104 [some (.ref 526), some (.int y1), some (.int y2), some (.int y3), some (.int y4)] [] (gm g) (none, gm r.2)) (y1 : Int32) (y2 : Int32) (y3 : Int32) (y4 : Int32) (s0 : Int32) (s1 : Int32) (s2 : Int32) (g : zSg) (r : Unit × zSg) (h : f_X12_talkAll_131 k29 k39 k104 y1 y2 y3 y4 s0 s1 s2 g = some r) : zG d sc hp (zcd zM_X12_talkAll) 131 [some (.ref 526), some (.int y1), some (.int y2), some (.int y3), some (.int y4)] [.int s0, .int s1, .int s2, .ref 526] (gm g) (none, gm r.2) := by
  obtain ⟨d, rfl⟩ : ∃ d', d = d' + 1 := ⟨d - 1, by omega⟩
  unfold f_X12_talkAll_131 at h
  replace h := zB_of h
  obtain ⟨v1, g2, e3, h⟩ := h
  refine g_inv2 (kd := 1) (p_X12_breathe  e3) rfl rfl rfl (by decide) rfl rfl rfl rfl (by omega) (pc' := 134) rfl (S' := []) rfl ?_
  refine g_run 2 (pc' := 104) (L' := [some (.ref 526), some (.int y1), some (.int y2), some (.int y3), some (.int ((y4 + 1)))]) (S' := []) (M' := gm g2) rfl ?_
  exact hk104 (y1) (y2) (y3) (y4 + 1) g2 _ h
def fb_X12_talkAll_104 (k29 : Int32 → zSg → Option (Unit × zSg)) (k39 : Int32 → Int32 → zSg → Option (Unit × zSg)) (kk : Int32 → Int32 → Int32 → Int32 → zSg → Option (Unit × zSg)) (y1 : Int32) (y2 : Int32) (y3 : Int32) (y4 : Int32) (g : zSg) : Option (Unit × zSg) := (if (gI g 526 26) ≤ y4 then f_X12_talkAll_140 k29 k39 (y1) (y2) g else (zB (f_X12_has y3 y4 g) (fun v2 g3 => (if v2 = 0 then f_X12_talkAll_131 k29 k39 kk (y1) (y2) (y3) (y4) (0) (y4) (y1) g3 else f_X12_talkAll_131 k29 k39 kk (y1) (y2) (y3) (y4) (1) (y4) (y1) g3))))
def f_X12_talkAll_104 (k29 : Int32 → zSg → Option (Unit × zSg)) (k39 : Int32 → Int32 → zSg → Option (Unit × zSg)) : Nat → Int32 → Int32 → Int32 → Int32 → zSg → Option (Unit × zSg)
  | 0, _, _, _, _, _ => none
  | n + 1, y1, y2, y3, y4, g => fb_X12_talkAll_104 k29 k39 (f_X12_talkAll_104 k29 k39 n) y1 y2 y3 y4 g
set_option maxRecDepth 100000 in
set_option maxHeartbeats 4000000 in
theorem p_X12_talkAll_104 {sc : zSc} {hp : zHp} {d : Nat} (hD : 3 ≤ d) (k29 : Int32 → zSg → Option (Unit × zSg)) (hk29 : ∀ (y1 : Int32) (g : zSg) (r : Unit × zSg), k29 y1 g = some r → zG d sc hp (zcd zM_X12_talkAll) 29 [some (.ref 526), some (.int y1), none, none, none] [] (gm g) (none, gm r.2)) (k39 : Int32 → Int32 → zSg → Option (Unit × zSg)) (hk39 : ∀ (y1 : Int32) (y2 : Int32) (g : zSg) (r : Unit × zSg), k39 y1 y2 g = some r → zG d sc hp (zcd zM_X12_talkAll) 39 [some (.ref 526), some (.int y1), some (.int y2), none, none] [] (gm g) (none, gm r.2)) : ∀ (n : Nat) (y1 : Int32) (y2 : Int32) (y3 : Int32) (y4 : Int32) (g : zSg) (r : Unit × zSg), f_X12_talkAll_104 k29 k39 n y1 y2 y3 y4 g = some r → zG d sc hp (zcd zM_X12_talkAll) 104 [some (.ref 526), some (.int y1), some (.int y2), some (.int y3), some (.int y4)] [] (gm g) (none, gm r.2) := by
  obtain ⟨d, rfl⟩ : ∃ d', d = d' + 1 := ⟨d - 1, by omega⟩
  intro n
  induction n with
  | zero => intro y1 y2 y3 y4 g r h; cases h
  | succ n ih =>
    intro y1 y2 y3 y4 g r h
    replace h : fb_X12_talkAll_104 k29 k39 (f_X12_talkAll_104 k29 k39 n) y1 y2 y3 y4 g = some r := h
    unfold fb_X12_talkAll_104 at h
    refine g_run 3 (pc' := 110) (L' := [some (.ref 526), some (.int y1), some (.int y2), some (.int y3), some (.int y4)]) (S' := [.int ((gI g 526 26)), .int y4]) (M' := gm g) rfl ?_
    refine g_icmp ((gI g 526 26) ≤ y4) rfl (t := 140) rfl rfl (fun c1 => ?_) (fun c1 => ?_)
    · replace h := (if_pos c1).symm.trans h
      refine g_forget (L' := [some (.ref 526), some (.int y1), some (.int y2), none, none]) (And.intro rfl (And.intro rfl (And.intro rfl True.intro))) ?_
      exact p_X12_talkAll_140 hD k29 hk29 k39 hk39 (y1) (y2) g _ h
    · replace h := (if_neg c1).symm.trans h
      refine g_run 5 (pc' := 120) (L' := [some (.ref 526), some (.int y1), some (.int y2), some (.int y3), some (.int y4)]) (S' := [.int y4, .int y3, .int y4, .int y1, .ref 526]) (M' := gm g) rfl ?_
      replace h := zB_of h
      obtain ⟨v2, g3, e4, h⟩ := h
      refine g_inv2 (kd := 0) (p_X12_has  e4) rfl rfl rfl (by decide) rfl rfl rfl rfl (by omega) (pc' := 123) rfl (S' := [.int v2, .int y4, .int y1, .ref 526]) rfl ?_
      refine g_if (v2 = 0) rfl (t := 130) rfl rfl (fun c5 => ?_) (fun c5 => ?_)
      · replace h := (if_pos c5).symm.trans h
        refine g_run 1 (pc' := 131) (L' := [some (.ref 526), some (.int y1), some (.int y2), some (.int y3), some (.int y4)]) (S' := [.int 0, .int y4, .int y1, .ref 526]) (M' := gm g3) rfl ?_
        exact p_X12_talkAll_131 hD k29 hk29 k39 hk39 (f_X12_talkAll_104 k29 k39 n) ih (y1) (y2) (y3) (y4) (0) (y4) (y1) g3 _ h
      · replace h := (if_neg c5).symm.trans h
        refine g_run 2 (pc' := 131) (L' := [some (.ref 526), some (.int y1), some (.int y2), some (.int y3), some (.int y4)]) (S' := [.int 1, .int y4, .int y1, .ref 526]) (M' := gm g3) rfl ?_
        exact p_X12_talkAll_131 hD k29 hk29 k39 hk39 (f_X12_talkAll_104 k29 k39 n) ih (y1) (y2) (y3) (y4) (1) (y4) (y1) g3 _ h
def f_X12_talkAll_100 (k29 : Int32 → zSg → Option (Unit × zSg)) (k39 : Int32 → Int32 → zSg → Option (Unit × zSg)) (y1 : Int32) (y2 : Int32) (s0 : Int32) (g : zSg) : Option (Unit × zSg) := f_X12_talkAll_104 k29 k39 zFu (y1) (y2) (s0) (0) g
set_option maxRecDepth 100000 in
set_option maxHeartbeats 4000000 in
theorem p_X12_talkAll_100 {sc : zSc} {hp : zHp} {d : Nat} (hD : 3 ≤ d) (k29 : Int32 → zSg → Option (Unit × zSg)) (hk29 : ∀ (y1 : Int32) (g : zSg) (r : Unit × zSg), k29 y1 g = some r → zG d sc hp (zcd zM_X12_talkAll) 29 [some (.ref 526), some (.int y1), none, none, none] [] (gm g) (none, gm r.2)) (k39 : Int32 → Int32 → zSg → Option (Unit × zSg)) (hk39 : ∀ (y1 : Int32) (y2 : Int32) (g : zSg) (r : Unit × zSg), k39 y1 y2 g = some r → zG d sc hp (zcd zM_X12_talkAll) 39 [some (.ref 526), some (.int y1), some (.int y2), none, none] [] (gm g) (none, gm r.2)) (y1 : Int32) (y2 : Int32) (s0 : Int32) (g : zSg) (r : Unit × zSg) (h : f_X12_talkAll_100 k29 k39 y1 y2 s0 g = some r) : zG d sc hp (zcd zM_X12_talkAll) 100 [some (.ref 526), some (.int y1), some (.int y2), none, none] [.int s0] (gm g) (none, gm r.2) := by
  obtain ⟨d, rfl⟩ : ∃ d', d = d' + 1 := ⟨d - 1, by omega⟩
  unfold f_X12_talkAll_100 at h
  refine g_run 3 (pc' := 104) (L' := [some (.ref 526), some (.int y1), some (.int y2), some (.int s0), some (.int 0)]) (S' := []) (M' := gm g) rfl ?_
  exact p_X12_talkAll_104 hD k29 hk29 k39 hk39 zFu (y1) (y2) (s0) (0) g _ h
def f_X12_talkAll_99 (k29 : Int32 → zSg → Option (Unit × zSg)) (k39 : Int32 → Int32 → zSg → Option (Unit × zSg)) (y1 : Int32) (y2 : Int32) (g : zSg) : Option (Unit × zSg) := f_X12_talkAll_100 k29 k39 (y1) (y2) (0) g
set_option maxRecDepth 100000 in
set_option maxHeartbeats 4000000 in
theorem p_X12_talkAll_99 {sc : zSc} {hp : zHp} {d : Nat} (hD : 3 ≤ d) (k29 : Int32 → zSg → Option (Unit × zSg)) (hk29 : ∀ (y1 : Int32) (g : zSg) (r : Unit × zSg), k29 y1 g = some r → zG d sc hp (zcd zM_X12_talkAll) 29 [some (.ref 526), some (.int y1), none, none, none] [] (gm g) (none, gm r.2)) (k39 : Int32 → Int32 → zSg → Option (Unit × zSg)) (hk39 : ∀ (y1 : Int32) (y2 : Int32) (g : zSg) (r : Unit × zSg), k39 y1 y2 g = some r → zG d sc hp (zcd zM_X12_talkAll) 39 [some (.ref 526), some (.int y1), some (.int y2), none, none] [] (gm g) (none, gm r.2)) (y1 : Int32) (y2 : Int32) (g : zSg) (r : Unit × zSg) (h : f_X12_talkAll_99 k29 k39 y1 y2 g = some r) : zG d sc hp (zcd zM_X12_talkAll) 99 [some (.ref 526), some (.int y1), some (.int y2), none, none] [] (gm g) (none, gm r.2) := by
  obtain ⟨d, rfl⟩ : ∃ d', d = d' + 1 := ⟨d - 1, by omega⟩
  unfold f_X12_talkAll_99 at h
  refine g_run 1 (pc' := 100) (L' := [some (.ref 526), some (.int y1), some (.int y2), none, none]) (S' := [.int 0]) (M' := gm g) rfl ?_
  exact p_X12_talkAll_100 hD k29 hk29 k39 hk39 (y1) (y2) (0) g _ h
def fb_X12_talkAll_39 (k29 : Int32 → zSg → Option (Unit × zSg)) (kk : Int32 → Int32 → zSg → Option (Unit × zSg)) (y1 : Int32) (y2 : Int32) (g : zSg) : Option (Unit × zSg) := (if (gI g 526 25) ≤ y2 then f_X12_talkAll_146 k29 (y1) g else (if y2 = y1 then f_X12_talkAll_99 k29 kk (y1) (y2) g else (if zib (0 + y1) 235 = true then (if zib (0 + y2) 235 = true then (if ¬ (gI g 543 (ix (0 + y1))) = (gI g 543 (ix (0 + y2))) then f_X12_talkAll_99 k29 kk (y1) (y2) g else (if zib y2 6 = true then (if zib y1 6 = true then f_X12_talkAll_100 k29 kk (y1) (y2) (((gI g 545 (ix y2)) &&& ((gI g 545 (ix y1)) ^^^ (-1))) &&& ((gI g 543 49) ^^^ (-1))) g else none) else none)) else none) else none)))
def f_X12_talkAll_39 (k29 : Int32 → zSg → Option (Unit × zSg)) : Nat → Int32 → Int32 → zSg → Option (Unit × zSg)
  | 0, _, _, _ => none
  | n + 1, y1, y2, g => fb_X12_talkAll_39 k29 (f_X12_talkAll_39 k29 n) y1 y2 g
set_option maxRecDepth 100000 in
set_option maxHeartbeats 4000000 in
theorem p_X12_talkAll_39 {sc : zSc} {hp : zHp} {d : Nat} (hD : 3 ≤ d) (k29 : Int32 → zSg → Option (Unit × zSg)) (hk29 : ∀ (y1 : Int32) (g : zSg) (r : Unit × zSg), k29 y1 g = some r → zG d sc hp (zcd zM_X12_talkAll) 29 [some (.ref 526), some (.int y1), none, none, none] [] (gm g) (none, gm r.2)) : ∀ (n : Nat) (y1 : Int32) (y2 : Int32) (g : zSg) (r : Unit × zSg), f_X12_talkAll_39 k29 n y1 y2 g = some r → zG d sc hp (zcd zM_X12_talkAll) 39 [some (.ref 526), some (.int y1), some (.int y2), none, none] [] (gm g) (none, gm r.2) := by
  obtain ⟨d, rfl⟩ : ∃ d', d = d' + 1 := ⟨d - 1, by omega⟩
  intro n
  induction n with
  | zero => intro y1 y2 g r h; cases h
  | succ n ih =>
    intro y1 y2 g r h
    replace h : fb_X12_talkAll_39 k29 (f_X12_talkAll_39 k29 n) y1 y2 g = some r := h
    unfold fb_X12_talkAll_39 at h
    refine g_run 3 (pc' := 44) (L' := [some (.ref 526), some (.int y1), some (.int y2), none, none]) (S' := [.int ((gI g 526 25)), .int y2]) (M' := gm g) rfl ?_
    refine g_icmp ((gI g 526 25) ≤ y2) rfl (t := 146) rfl rfl (fun c1 => ?_) (fun c1 => ?_)
    · replace h := (if_pos c1).symm.trans h
      refine g_forget (L' := [some (.ref 526), some (.int y1), none, none, none]) (And.intro rfl (And.intro rfl True.intro)) ?_
      exact p_X12_talkAll_146 hD k29 hk29 (y1) g _ h
    · replace h := (if_neg c1).symm.trans h
      refine g_run 2 (pc' := 49) (L' := [some (.ref 526), some (.int y1), some (.int y2), none, none]) (S' := [.int y1, .int y2]) (M' := gm g) rfl ?_
      refine g_icmp (y2 = y1) rfl (t := 99) rfl rfl (fun c2 => ?_) (fun c2 => ?_)
      · replace h := (if_pos c2).symm.trans h
        exact p_X12_talkAll_99 hD k29 hk29 (f_X12_talkAll_39 k29 n) ih (y1) (y2) g _ h
      · replace h := (if_neg c2).symm.trans h
        refine g_run 5 (pc' := 59) (L' := [some (.ref 526), some (.int y1), some (.int y2), none, none]) (S' := [.int ((0 + y1)), .ref 543]) (M' := gm g) rfl ?_
        by_cases c3 : zib (0 + y1) 235 = true
        case neg => exact nomatch ((if_neg c3).symm.trans h)
        replace h := (if_pos c3).symm.trans h
        refine g_iald rfl (a := 543) rfl c3 ?_
        refine g_run 5 (pc' := 67) (L' := [some (.ref 526), some (.int y1), some (.int y2), none, none]) (S' := [.int ((0 + y2)), .ref 543, .int ((gI g 543 (ix (0 + y1))))]) (M' := gm g) rfl ?_
        by_cases c4 : zib (0 + y2) 235 = true
        case neg => exact nomatch ((if_neg c4).symm.trans h)
        replace h := (if_pos c4).symm.trans h
        refine g_iald rfl (a := 543) rfl c4 ?_
        refine g_icmp (¬ (gI g 543 (ix (0 + y1))) = (gI g 543 (ix (0 + y2)))) rfl (t := 99) rfl rfl (fun c5 => ?_) (fun c5 => ?_)
        · replace h := (if_pos c5).symm.trans h
          exact p_X12_talkAll_99 hD k29 hk29 (f_X12_talkAll_39 k29 n) ih (y1) (y2) g _ h
        · replace h := (if_neg c5).symm.trans h
          refine g_run 3 (pc' := 76) (L' := [some (.ref 526), some (.int y1), some (.int y2), none, none]) (S' := [.int y2, .ref 545]) (M' := gm g) rfl ?_
          by_cases c6 : zib y2 6 = true
          case neg => exact nomatch ((if_neg c6).symm.trans h)
          replace h := (if_pos c6).symm.trans h
          refine g_iald rfl (a := 545) rfl c6 ?_
          refine g_run 3 (pc' := 82) (L' := [some (.ref 526), some (.int y1), some (.int y2), none, none]) (S' := [.int y1, .ref 545, .int ((gI g 545 (ix y2)))]) (M' := gm g) rfl ?_
          by_cases c7 : zib y1 6 = true
          case neg => exact nomatch ((if_neg c7).symm.trans h)
          replace h := (if_pos c7).symm.trans h
          refine g_iald rfl (a := 545) rfl c7 ?_
          refine g_run 11 (pc' := 100) (L' := [some (.ref 526), some (.int y1), some (.int y2), none, none]) (S' := [.int ((((gI g 545 (ix y2)) &&& ((gI g 545 (ix y1)) ^^^ (-1))) &&& ((gI g 543 49) ^^^ (-1))))]) (M' := gm g) rfl ?_
          exact p_X12_talkAll_100 hD k29 hk29 (f_X12_talkAll_39 k29 n) ih (y1) (y2) (((gI g 545 (ix y2)) &&& ((gI g 545 (ix y1)) ^^^ (-1))) &&& ((gI g 543 49) ^^^ (-1))) g _ h
def fb_X12_talkAll_29 (kk : Int32 → zSg → Option (Unit × zSg)) (y1 : Int32) (g : zSg) : Option (Unit × zSg) := (if (gI g 526 25) ≤ y1 then some ((), g) else f_X12_talkAll_39 kk zFu (y1) (0) g)
def f_X12_talkAll_29 : Nat → Int32 → zSg → Option (Unit × zSg)
  | 0, _, _ => none
  | n + 1, y1, g => fb_X12_talkAll_29 (f_X12_talkAll_29 n) y1 g
set_option maxRecDepth 100000 in
set_option maxHeartbeats 4000000 in
theorem p_X12_talkAll_29 {sc : zSc} {hp : zHp} {d : Nat} (hD : 3 ≤ d) : ∀ (n : Nat) (y1 : Int32) (g : zSg) (r : Unit × zSg), f_X12_talkAll_29 n y1 g = some r → zG d sc hp (zcd zM_X12_talkAll) 29 [some (.ref 526), some (.int y1), none, none, none] [] (gm g) (none, gm r.2) := by
  obtain ⟨d, rfl⟩ : ∃ d', d = d' + 1 := ⟨d - 1, by omega⟩
  intro n
  induction n with
  | zero => intro y1 g r h; cases h
  | succ n ih =>
    intro y1 g r h
    replace h : fb_X12_talkAll_29 (f_X12_talkAll_29 n) y1 g = some r := h
    unfold fb_X12_talkAll_29 at h
    refine g_run 3 (pc' := 34) (L' := [some (.ref 526), some (.int y1), none, none, none]) (S' := [.int ((gI g 526 25)), .int y1]) (M' := gm g) rfl ?_
    refine g_icmp ((gI g 526 25) ≤ y1) rfl (t := 152) rfl rfl (fun c1 => ?_) (fun c1 => ?_)
    · replace h := (if_pos c1).symm.trans h
      cases h
      exact g_ret rfl rfl rfl rfl
    · replace h := (if_neg c1).symm.trans h
      refine g_run 2 (pc' := 39) (L' := [some (.ref 526), some (.int y1), some (.int 0), none, none]) (S' := []) (M' := gm g) rfl ?_
      exact p_X12_talkAll_39 hD (f_X12_talkAll_29 n) ih zFu (y1) (0) g _ h
def f_X12_talkAll_27 (g : zSg) : Option (Unit × zSg) := f_X12_talkAll_29 zFu (0) g
set_option maxRecDepth 100000 in
set_option maxHeartbeats 4000000 in
theorem p_X12_talkAll_27 {sc : zSc} {hp : zHp} {d : Nat} (hD : 3 ≤ d) (g : zSg) (r : Unit × zSg) (h : f_X12_talkAll_27 g = some r) : zG d sc hp (zcd zM_X12_talkAll) 27 [some (.ref 526), none, none, none, none] [] (gm g) (none, gm r.2) := by
  obtain ⟨d, rfl⟩ : ∃ d', d = d' + 1 := ⟨d - 1, by omega⟩
  unfold f_X12_talkAll_27 at h
  refine g_run 2 (pc' := 29) (L' := [some (.ref 526), some (.int 0), none, none, none]) (S' := []) (M' := gm g) rfl ?_
  exact p_X12_talkAll_29 hD zFu (0) g _ h
def fb_X12_talkAll_2 (kk : Int32 → zSg → Option (Unit × zSg)) (y1 : Int32) (g : zSg) : Option (Unit × zSg) := (if (gI g 526 25) ≤ y1 then f_X12_talkAll_27 g else (zB (f_X12_knownTo y1 g) (fun v2 g3 => (if zib y1 6 = true then kk (y1 + 1) (gsI g3 (545) (ix y1) v2) else none))))
def f_X12_talkAll_2 : Nat → Int32 → zSg → Option (Unit × zSg)
  | 0, _, _ => none
  | n + 1, y1, g => fb_X12_talkAll_2 (f_X12_talkAll_2 n) y1 g
set_option maxRecDepth 100000 in
set_option maxHeartbeats 4000000 in
theorem p_X12_talkAll_2 {sc : zSc} {hp : zHp} {d : Nat} (hD : 3 ≤ d) : ∀ (n : Nat) (y1 : Int32) (g : zSg) (r : Unit × zSg), f_X12_talkAll_2 n y1 g = some r → zG d sc hp (zcd zM_X12_talkAll) 2 [some (.ref 526), some (.int y1), none, none, none] [] (gm g) (none, gm r.2) := by
  obtain ⟨d, rfl⟩ : ∃ d', d = d' + 1 := ⟨d - 1, by omega⟩
  intro n
  induction n with
  | zero => intro y1 g r h; cases h
  | succ n ih =>
    intro y1 g r h
    replace h : fb_X12_talkAll_2 (f_X12_talkAll_2 n) y1 g = some r := h
    unfold fb_X12_talkAll_2 at h
    refine g_run 3 (pc' := 7) (L' := [some (.ref 526), some (.int y1), none, none, none]) (S' := [.int ((gI g 526 25)), .int y1]) (M' := gm g) rfl ?_
    refine g_icmp ((gI g 526 25) ≤ y1) rfl (t := 27) rfl rfl (fun c1 => ?_) (fun c1 => ?_)
    · replace h := (if_pos c1).symm.trans h
      refine g_forget (L' := [some (.ref 526), none, none, none, none]) (And.intro rfl True.intro) ?_
      exact p_X12_talkAll_27 hD g _ h
    · replace h := (if_neg c1).symm.trans h
      refine g_run 5 (pc' := 17) (L' := [some (.ref 526), some (.int y1), none, none, none]) (S' := [.int y1, .ref 526, .int y1, .ref 545]) (M' := gm g) rfl ?_
      replace h := zB_of h
      obtain ⟨v2, g3, e4, h⟩ := h
      refine g_inv2 (kd := 1) (p_X12_knownTo  e4) rfl rfl rfl (by decide) rfl rfl rfl rfl (by omega) (pc' := 20) rfl (S' := [.int v2, .int y1, .ref 545]) rfl ?_
      by_cases c5 : zib y1 6 = true
      case neg => exact nomatch ((if_neg c5).symm.trans h)
      replace h := (if_pos c5).symm.trans h
      refine g_iast rfl (a := 545) rfl c5 ?_
      refine g_run 2 (pc' := 2) (L' := [some (.ref 526), some (.int ((y1 + 1))), none, none, none]) (S' := []) (M' := gm (gsI g3 (545) (ix y1) v2)) rfl ?_
      exact ih (y1 + 1) (gsI g3 (545) (ix y1) v2) _ h
def f_X12_talkAll (g : zSg) : Option (Unit × zSg) := f_X12_talkAll_2 zFu (0) g
set_option maxRecDepth 100000 in
set_option maxHeartbeats 4000000 in
theorem p_X12_talkAll {sc : zSc} {hp : zHp} {g : zSg} {r : Unit × zSg} (h : f_X12_talkAll g = some r) : zRn sc hp 3 zM_X12_talkAll [.ref 526] (gm g) none (gm r.2) := by
  intro d hD
  obtain ⟨d, rfl⟩ : ∃ d', d = d' + 1 := ⟨d - 1, by omega⟩
  show zG _ sc hp (zcd zM_X12_talkAll) 0 [some (.ref 526), none, none, none, none] [] (gm g) _
  unfold f_X12_talkAll at h
  refine g_run 2 (pc' := 2) (L' := [some (.ref 526), some (.int 0), none, none, none]) (S' := []) (M' := gm g) rfl ?_
  exact p_X12_talkAll_2 hD zFu (0) g _ h
def f_X12_live (g : zSg) : Option (Int32 × zSg) := (zB (f_X12_smokeAll g) (fun v1 g2 => (zB (f_X12_cureAll g2) (fun v4 g5 => (zB (f_X12_talkAll g5) (fun v7 g8 => some (v4, (gsI (gsI g8 543 52 (imin 999 ((gI g8 543 52) + (2 * v4)))) 543 53 ((gI (gsI g8 543 52 (imin 999 ((gI g8 543 52) + (2 * v4)))) 543 53) + 1)))))))))
set_option maxRecDepth 100000 in
set_option maxHeartbeats 4000000 in
theorem p_X12_live {sc : zSc} {hp : zHp} {g : zSg} {r : Int32 × zSg} (h : f_X12_live g = some r) : zRn sc hp 8 zM_X12_live [.ref 526] (gm g) (some (.int r.1)) (gm r.2) := by
  intro d hD
  obtain ⟨d, rfl⟩ : ∃ d', d = d' + 1 := ⟨d - 1, by omega⟩
  show zG _ sc hp (zcd zM_X12_live) 0 [some (.ref 526), none] [] (gm g) _
  unfold f_X12_live at h
  refine g_run 1 (pc' := 1) (L' := [some (.ref 526), none]) (S' := [.ref 526]) (M' := gm g) rfl ?_
  replace h := zB_of h
  obtain ⟨v1, g2, e3, h⟩ := h
  refine g_inv2 (kd := 1) (p_X12_smokeAll  e3) rfl rfl rfl (by decide) rfl rfl rfl rfl (by omega) (pc' := 4) rfl (S' := []) rfl ?_
  refine g_run 1 (pc' := 5) (L' := [some (.ref 526), none]) (S' := [.ref 526]) (M' := gm g2) rfl ?_
  replace h := zB_of h
  obtain ⟨v4, g5, e6, h⟩ := h
  refine g_inv2 (kd := 1) (p_X12_cureAll  e6) rfl rfl rfl (by decide) rfl rfl rfl rfl (by omega) (pc' := 8) rfl (S' := [.int v4]) rfl ?_
  refine g_run 2 (pc' := 10) (L' := [some (.ref 526), some (.int v4)]) (S' := [.ref 526]) (M' := gm g5) rfl ?_
  replace h := zB_of h
  obtain ⟨v7, g8, e9, h⟩ := h
  refine g_inv2 (kd := 1) (p_X12_talkAll  e9) rfl rfl rfl (by decide) rfl rfl rfl rfl (by omega) (pc' := 13) rfl (S' := []) rfl ?_
  refine g_run 12 (pc' := 33) (L' := [some (.ref 526), some (.int v4)]) (S' := [.int (((gI g8 543 52) + (2 * v4))), .int 999, .int 52, .ref 543]) (M' := gm g8) rfl ?_
  refine g_spec2 (kd := 0) rfl rfl rfl (by decide) rfl (jd := 1001) rfl (by decide) rfl (Or.inl (by decide)) (S' := [.int ((imin 999 ((gI g8 543 52) + (2 * v4)))), .int 52, .ref 543]) (M' := gm g8) rfl rfl (pc' := 36) rfl ?_
  refine g_run 10 (pc' := 49) (L' := [some (.ref 526), some (.int v4)]) (S' := [.int v4]) (M' := gm (gsI (gsI g8 543 52 (imin 999 ((gI g8 543 52) + (2 * v4)))) 543 53 ((gI (gsI g8 543 52 (imin 999 ((gI g8 543 52) + (2 * v4)))) 543 53) + 1))) rfl ?_
  cases h
  exact g_ret rfl rfl rfl rfl
def f_X12_passNight_135 (y1 : Int32) (g : zSg) : Option (Unit × zSg) := (if zib (55 + (3 * (gI g 543 54))) 235 = true then (zB (f_J6_bitCount_0f7a4 (gI (gsI g (543) (ix (55 + (3 * (gI g 543 54)))) y1) 543 49) (gsI g (543) (ix (55 + (3 * (gI g 543 54)))) y1)) (fun v2 g3 => (if zib ((55 + (3 * (gI g 543 54))) + 1) 235 = true then (if zib ((55 + (3 * (gI g 543 54))) + 2) 235 = true then some ((), (gsI (gsI (gsI g3 (543) (ix ((55 + (3 * (gI g 543 54))) + 1)) v2) (543) (ix ((55 + (3 * (gI g 543 54))) + 2)) (gI (gsI g3 (543) (ix ((55 + (3 * (gI g 543 54))) + 1)) v2) 543 51)) 543 54 ((gI (gsI (gsI g3 (543) (ix ((55 + (3 * (gI g 543 54))) + 1)) v2) (543) (ix ((55 + (3 * (gI g 543 54))) + 2)) (gI (gsI g3 (543) (ix ((55 + (3 * (gI g 543 54))) + 1)) v2) 543 51)) 543 54) + 1))) else none) else none))) else none)
set_option maxRecDepth 100000 in
set_option maxHeartbeats 4000000 in
theorem p_X12_passNight_135 {sc : zSc} {hp : zHp} {d : Nat} (hD : 9 ≤ d) (y1 : Int32) (g : zSg) (r : Unit × zSg) (h : f_X12_passNight_135 y1 g = some r) : zG d sc hp (zcd zM_X12_passNight) 135 [some (.ref 526), some (.int y1), none] [] (gm g) (none, gm r.2) := by
  obtain ⟨d, rfl⟩ : ∃ d', d = d' + 1 := ⟨d - 1, by omega⟩
  unfold f_X12_passNight_135 at h
  refine g_run 13 (pc' := 154) (L' := [some (.ref 526), some (.int y1), some (.int ((55 + (3 * (gI g 543 54)))))]) (S' := [.int y1, .int ((55 + (3 * (gI g 543 54)))), .ref 543]) (M' := gm g) rfl ?_
  by_cases c1 : zib (55 + (3 * (gI g 543 54))) 235 = true
  case neg => exact nomatch ((if_neg c1).symm.trans h)
  replace h := (if_pos c1).symm.trans h
  refine g_iast rfl (a := 543) rfl c1 ?_
  refine g_run 9 (pc' := 169) (L' := [some (.ref 526), some (.int y1), some (.int ((55 + (3 * (gI g 543 54)))))]) (S' := [.int ((gI (gsI g (543) (ix (55 + (3 * (gI g 543 54)))) y1) 543 49)), .int (((55 + (3 * (gI g 543 54))) + 1)), .ref 543]) (M' := gm (gsI g (543) (ix (55 + (3 * (gI g 543 54)))) y1)) rfl ?_
  replace h := zB_of h
  obtain ⟨v2, g3, e4, h⟩ := h
  refine g_inv2 (kd := 0) (p_J6_bitCount_0f7a4  e4) rfl rfl rfl (by decide) rfl rfl rfl rfl (by omega) (pc' := 172) rfl (S' := [.int v2, .int (((55 + (3 * (gI g 543 54))) + 1)), .ref 543]) rfl ?_
  by_cases c5 : zib ((55 + (3 * (gI g 543 54))) + 1) 235 = true
  case neg => exact nomatch ((if_neg c5).symm.trans h)
  replace h := (if_pos c5).symm.trans h
  refine g_iast rfl (a := 543) rfl c5 ?_
  refine g_run 9 (pc' := 187) (L' := [some (.ref 526), some (.int y1), some (.int ((55 + (3 * (gI g 543 54)))))]) (S' := [.int ((gI (gsI g3 (543) (ix ((55 + (3 * (gI g 543 54))) + 1)) v2) 543 51)), .int (((55 + (3 * (gI g 543 54))) + 2)), .ref 543]) (M' := gm (gsI g3 (543) (ix ((55 + (3 * (gI g 543 54))) + 1)) v2)) rfl ?_
  by_cases c6 : zib ((55 + (3 * (gI g 543 54))) + 2) 235 = true
  case neg => exact nomatch ((if_neg c6).symm.trans h)
  replace h := (if_pos c6).symm.trans h
  refine g_iast rfl (a := 543) rfl c6 ?_
  refine g_run 8 (pc' := 199) (L' := [some (.ref 526), some (.int y1), some (.int ((55 + (3 * (gI g 543 54)))))]) (S' := []) (M' := gm (gsI (gsI (gsI g3 (543) (ix ((55 + (3 * (gI g 543 54))) + 1)) v2) (543) (ix ((55 + (3 * (gI g 543 54))) + 2)) (gI (gsI g3 (543) (ix ((55 + (3 * (gI g 543 54))) + 1)) v2) 543 51)) 543 54 ((gI (gsI (gsI g3 (543) (ix ((55 + (3 * (gI g 543 54))) + 1)) v2) (543) (ix ((55 + (3 * (gI g 543 54))) + 2)) (gI (gsI g3 (543) (ix ((55 + (3 * (gI g 543 54))) + 1)) v2) 543 51)) 543 54) + 1))) rfl ?_
  cases h
  exact g_ret rfl rfl rfl rfl
def f_X12_passNight_124 (y1 : Int32) (g : zSg) : Option (Unit × zSg) := f_X12_passNight_135 (y1) (gsI g 543 54 ((gI g 543 54) - 1))
set_option maxRecDepth 100000 in
set_option maxHeartbeats 4000000 in
theorem p_X12_passNight_124 {sc : zSc} {hp : zHp} {d : Nat} (hD : 9 ≤ d) (y1 : Int32) (g : zSg) (r : Unit × zSg) (h : f_X12_passNight_124 y1 g = some r) : zG d sc hp (zcd zM_X12_passNight) 124 [some (.ref 526), some (.int y1), none] [] (gm g) (none, gm r.2) := by
  obtain ⟨d, rfl⟩ : ∃ d', d = d' + 1 := ⟨d - 1, by omega⟩
  unfold f_X12_passNight_124 at h
  refine g_run 8 (pc' := 135) (L' := [some (.ref 526), some (.int y1), none]) (S' := []) (M' := gm (gsI g 543 54 ((gI g 543 54) - 1))) rfl ?_
  exact p_X12_passNight_135 hD (y1) (gsI g 543 54 ((gI g 543 54) - 1)) _ h
def fb_X12_passNight_91 (kk : Int32 → Int32 → zSg → Option (Unit × zSg)) (y1 : Int32) (y2 : Int32) (g : zSg) : Option (Unit × zSg) := (if 180 ≤ y2 then f_X12_passNight_124 (y1) g else (if zib (55 + y2) 235 = true then (if zib ((55 + y2) - 3) 235 = true then kk (y1) (y2 + 1) (gsI g (543) (ix ((55 + y2) - 3)) (gI g 543 (ix (55 + y2)))) else none) else none))
def f_X12_passNight_91 : Nat → Int32 → Int32 → zSg → Option (Unit × zSg)
  | 0, _, _, _ => none
  | n + 1, y1, y2, g => fb_X12_passNight_91 (f_X12_passNight_91 n) y1 y2 g
set_option maxRecDepth 100000 in
set_option maxHeartbeats 4000000 in
theorem p_X12_passNight_91 {sc : zSc} {hp : zHp} {d : Nat} (hD : 9 ≤ d) : ∀ (n : Nat) (y1 : Int32) (y2 : Int32) (g : zSg) (r : Unit × zSg), f_X12_passNight_91 n y1 y2 g = some r → zG d sc hp (zcd zM_X12_passNight) 91 [some (.ref 526), some (.int y1), some (.int y2)] [] (gm g) (none, gm r.2) := by
  obtain ⟨d, rfl⟩ : ∃ d', d = d' + 1 := ⟨d - 1, by omega⟩
  intro n
  induction n with
  | zero => intro y1 y2 g r h; cases h
  | succ n ih =>
    intro y1 y2 g r h
    replace h : fb_X12_passNight_91 (f_X12_passNight_91 n) y1 y2 g = some r := h
    unfold fb_X12_passNight_91 at h
    refine g_run 2 (pc' := 95) (L' := [some (.ref 526), some (.int y1), some (.int y2)]) (S' := [.int 180, .int y2]) (M' := gm g) rfl ?_
    refine g_icmp (180 ≤ y2) rfl (t := 124) rfl rfl (fun c1 => ?_) (fun c1 => ?_)
    · replace h := (if_pos c1).symm.trans h
      refine g_forget (L' := [some (.ref 526), some (.int y1), none]) (And.intro rfl (And.intro rfl True.intro)) ?_
      exact p_X12_passNight_124 hD (y1) g _ h
    · replace h := (if_neg c1).symm.trans h
      refine g_run 12 (pc' := 116) (L' := [some (.ref 526), some (.int y1), some (.int y2)]) (S' := [.int ((55 + y2)), .ref 543, .int (((55 + y2) - 3)), .ref 543]) (M' := gm g) rfl ?_
      by_cases c2 : zib (55 + y2) 235 = true
      case neg => exact nomatch ((if_neg c2).symm.trans h)
      replace h := (if_pos c2).symm.trans h
      refine g_iald rfl (a := 543) rfl c2 ?_
      by_cases c3 : zib ((55 + y2) - 3) 235 = true
      case neg => exact nomatch ((if_neg c3).symm.trans h)
      replace h := (if_pos c3).symm.trans h
      refine g_iast rfl (a := 543) rfl c3 ?_
      refine g_run 2 (pc' := 91) (L' := [some (.ref 526), some (.int y1), some (.int ((y2 + 1)))]) (S' := []) (M' := gm (gsI g (543) (ix ((55 + y2) - 3)) (gI g 543 (ix (55 + y2))))) rfl ?_
      exact ih (y1) (y2 + 1) (gsI g (543) (ix ((55 + y2) - 3)) (gI g 543 (ix (55 + y2)))) _ h
def f_X12_passNight_77 (y1 : Int32) (g : zSg) : Option (Unit × zSg) := (if ¬ (gI g 543 54) = 60 then f_X12_passNight_135 (y1) g else f_X12_passNight_91 zFu (y1) (3) g)
set_option maxRecDepth 100000 in
set_option maxHeartbeats 4000000 in
theorem p_X12_passNight_77 {sc : zSc} {hp : zHp} {d : Nat} (hD : 9 ≤ d) (y1 : Int32) (g : zSg) (r : Unit × zSg) (h : f_X12_passNight_77 y1 g = some r) : zG d sc hp (zcd zM_X12_passNight) 77 [some (.ref 526), some (.int y1), none] [] (gm g) (none, gm r.2) := by
  obtain ⟨d, rfl⟩ : ∃ d', d = d' + 1 := ⟨d - 1, by omega⟩
  unfold f_X12_passNight_77 at h
  refine g_run 5 (pc' := 86) (L' := [some (.ref 526), some (.int y1), none]) (S' := [.int 60, .int ((gI g 543 54))]) (M' := gm g) rfl ?_
  refine g_icmp (¬ (gI g 543 54) = 60) rfl (t := 135) rfl rfl (fun c1 => ?_) (fun c1 => ?_)
  · replace h := (if_pos c1).symm.trans h
    exact p_X12_passNight_135 hD (y1) g _ h
  · replace h := (if_neg c1).symm.trans h
    refine g_run 2 (pc' := 91) (L' := [some (.ref 526), some (.int y1), some (.int 3)]) (S' := []) (M' := gm g) rfl ?_
    exact p_X12_passNight_91 hD zFu (y1) (3) g _ h
def f_X12_passNight_69 (k36 : Int32 → Int32 → zSg → Option (Unit × zSg)) (y2 : Int32) (s0 : Int32) (s1 : Int32) (g : zSg) : Option (Unit × zSg) := k36 (s1 ||| s0) (y2 + 1) g
set_option maxRecDepth 100000 in
set_option maxHeartbeats 4000000 in
theorem p_X12_passNight_69 {sc : zSc} {hp : zHp} {d : Nat} (hD : 9 ≤ d) (k36 : Int32 → Int32 → zSg → Option (Unit × zSg)) (hk36 : ∀ (y1 : Int32) (y2 : Int32) (g : zSg) (r : Unit × zSg), k36 y1 y2 g = some r → zG d sc hp (zcd zM_X12_passNight) 36 [some (.ref 526), some (.int y1), some (.int y2)] [] (gm g) (none, gm r.2)) (y2 : Int32) (s0 : Int32) (s1 : Int32) (g : zSg) (r : Unit × zSg) (h : f_X12_passNight_69 k36 y2 s0 s1 g = some r) : zG d sc hp (zcd zM_X12_passNight) 69 [some (.ref 526), none, some (.int y2)] [.int s0, .int s1] (gm g) (none, gm r.2) := by
  obtain ⟨d, rfl⟩ : ∃ d', d = d' + 1 := ⟨d - 1, by omega⟩
  unfold f_X12_passNight_69 at h
  refine g_run 4 (pc' := 36) (L' := [some (.ref 526), some (.int ((s1 ||| s0))), some (.int ((y2 + 1)))]) (S' := []) (M' := gm g) rfl ?_
  exact hk36 (s1 ||| s0) (y2 + 1) g _ h
def fb_X12_passNight_36 (kk : Int32 → Int32 → zSg → Option (Unit × zSg)) (y1 : Int32) (y2 : Int32) (g : zSg) : Option (Unit × zSg) := (if (gI g 526 25) ≤ y2 then f_X12_passNight_77 (y1) g else (zB (f_X12_knownTo y2 g) (fun v2 g3 => (if zib y2 6 = true then (if (v2 &&& ((gI g3 546 (ix y2)) ^^^ (-1))) = 0 then f_X12_passNight_69 kk (y2) (0) (y1) g3 else f_X12_passNight_69 kk (y2) (1 <<< (y2 &&& 31)) (y1) g3) else none))))
def f_X12_passNight_36 : Nat → Int32 → Int32 → zSg → Option (Unit × zSg)
  | 0, _, _, _ => none
  | n + 1, y1, y2, g => fb_X12_passNight_36 (f_X12_passNight_36 n) y1 y2 g
set_option maxRecDepth 100000 in
set_option maxHeartbeats 4000000 in
theorem p_X12_passNight_36 {sc : zSc} {hp : zHp} {d : Nat} (hD : 9 ≤ d) : ∀ (n : Nat) (y1 : Int32) (y2 : Int32) (g : zSg) (r : Unit × zSg), f_X12_passNight_36 n y1 y2 g = some r → zG d sc hp (zcd zM_X12_passNight) 36 [some (.ref 526), some (.int y1), some (.int y2)] [] (gm g) (none, gm r.2) := by
  obtain ⟨d, rfl⟩ : ∃ d', d = d' + 1 := ⟨d - 1, by omega⟩
  intro n
  induction n with
  | zero => intro y1 y2 g r h; cases h
  | succ n ih =>
    intro y1 y2 g r h
    replace h : fb_X12_passNight_36 (f_X12_passNight_36 n) y1 y2 g = some r := h
    unfold fb_X12_passNight_36 at h
    refine g_run 3 (pc' := 41) (L' := [some (.ref 526), some (.int y1), some (.int y2)]) (S' := [.int ((gI g 526 25)), .int y2]) (M' := gm g) rfl ?_
    refine g_icmp ((gI g 526 25) ≤ y2) rfl (t := 77) rfl rfl (fun c1 => ?_) (fun c1 => ?_)
    · replace h := (if_pos c1).symm.trans h
      refine g_forget (L' := [some (.ref 526), some (.int y1), none]) (And.intro rfl (And.intro rfl True.intro)) ?_
      exact p_X12_passNight_77 hD (y1) g _ h
    · replace h := (if_neg c1).symm.trans h
      refine g_run 3 (pc' := 47) (L' := [some (.ref 526), some (.int y1), some (.int y2)]) (S' := [.int y2, .ref 526, .int y1]) (M' := gm g) rfl ?_
      replace h := zB_of h
      obtain ⟨v2, g3, e4, h⟩ := h
      refine g_inv2 (kd := 1) (p_X12_knownTo  e4) rfl rfl rfl (by decide) rfl rfl rfl rfl (by omega) (pc' := 50) rfl (S' := [.int v2, .int y1]) rfl ?_
      refine g_run 3 (pc' := 55) (L' := [some (.ref 526), some (.int y1), some (.int y2)]) (S' := [.int y2, .ref 546, .int v2, .int y1]) (M' := gm g3) rfl ?_
      by_cases c5 : zib y2 6 = true
      case neg => exact nomatch ((if_neg c5).symm.trans h)
      replace h := (if_pos c5).symm.trans h
      refine g_iald rfl (a := 546) rfl c5 ?_
      refine g_run 3 (pc' := 59) (L' := [some (.ref 526), some (.int y1), some (.int y2)]) (S' := [.int ((v2 &&& ((gI g3 546 (ix y2)) ^^^ (-1)))), .int y1]) (M' := gm g3) rfl ?_
      refine g_if ((v2 &&& ((gI g3 546 (ix y2)) ^^^ (-1))) = 0) rfl (t := 68) rfl rfl (fun c6 => ?_) (fun c6 => ?_)
      · replace h := (if_pos c6).symm.trans h
        refine g_run 1 (pc' := 69) (L' := [some (.ref 526), some (.int y1), some (.int y2)]) (S' := [.int 0, .int y1]) (M' := gm g3) rfl ?_
        refine g_forget (L' := [some (.ref 526), none, some (.int y2)]) (And.intro rfl (And.intro rfl True.intro)) ?_
        exact p_X12_passNight_69 hD (f_X12_passNight_36 n) ih (y2) (0) (y1) g3 _ h
      · replace h := (if_neg c6).symm.trans h
        refine g_run 4 (pc' := 69) (L' := [some (.ref 526), some (.int y1), some (.int y2)]) (S' := [.int ((1 <<< (y2 &&& 31))), .int y1]) (M' := gm g3) rfl ?_
        refine g_forget (L' := [some (.ref 526), none, some (.int y2)]) (And.intro rfl (And.intro rfl True.intro)) ?_
        exact p_X12_passNight_69 hD (f_X12_passNight_36 n) ih (y2) (1 <<< (y2 &&& 31)) (y1) g3 _ h
def f_X12_passNight_27 (g : zSg) : Option (Unit × zSg) := (zB (f_X12_live g) (fun v1 g2 => f_X12_passNight_36 zFu (0) (0) g2))
set_option maxRecDepth 100000 in
set_option maxHeartbeats 4000000 in
theorem p_X12_passNight_27 {sc : zSc} {hp : zHp} {d : Nat} (hD : 9 ≤ d) (g : zSg) (r : Unit × zSg) (h : f_X12_passNight_27 g = some r) : zG d sc hp (zcd zM_X12_passNight) 27 [some (.ref 526), none, none] [] (gm g) (none, gm r.2) := by
  obtain ⟨d, rfl⟩ : ∃ d', d = d' + 1 := ⟨d - 1, by omega⟩
  unfold f_X12_passNight_27 at h
  refine g_run 1 (pc' := 28) (L' := [some (.ref 526), none, none]) (S' := [.ref 526]) (M' := gm g) rfl ?_
  replace h := zB_of h
  obtain ⟨v1, g2, e3, h⟩ := h
  refine g_inv2 (kd := 1) (p_X12_live  e3) rfl rfl rfl (by decide) rfl rfl rfl rfl (by omega) (pc' := 31) rfl (S' := [.int v1]) rfl ?_
  refine g_run 5 (pc' := 36) (L' := [some (.ref 526), some (.int 0), some (.int 0)]) (S' := []) (M' := gm g2) rfl ?_
  exact p_X12_passNight_36 hD zFu (0) (0) g2 _ h
def fb_X12_passNight_2 (kk : Int32 → zSg → Option (Unit × zSg)) (y1 : Int32) (g : zSg) : Option (Unit × zSg) := (if (gI g 526 25) ≤ y1 then f_X12_passNight_27 g else (zB (f_X12_knownTo y1 g) (fun v2 g3 => (if zib y1 6 = true then kk (y1 + 1) (gsI g3 (546) (ix y1) v2) else none))))
def f_X12_passNight_2 : Nat → Int32 → zSg → Option (Unit × zSg)
  | 0, _, _ => none
  | n + 1, y1, g => fb_X12_passNight_2 (f_X12_passNight_2 n) y1 g
set_option maxRecDepth 100000 in
set_option maxHeartbeats 4000000 in
theorem p_X12_passNight_2 {sc : zSc} {hp : zHp} {d : Nat} (hD : 9 ≤ d) : ∀ (n : Nat) (y1 : Int32) (g : zSg) (r : Unit × zSg), f_X12_passNight_2 n y1 g = some r → zG d sc hp (zcd zM_X12_passNight) 2 [some (.ref 526), some (.int y1), none] [] (gm g) (none, gm r.2) := by
  obtain ⟨d, rfl⟩ : ∃ d', d = d' + 1 := ⟨d - 1, by omega⟩
  intro n
  induction n with
  | zero => intro y1 g r h; cases h
  | succ n ih =>
    intro y1 g r h
    replace h : fb_X12_passNight_2 (f_X12_passNight_2 n) y1 g = some r := h
    unfold fb_X12_passNight_2 at h
    refine g_run 3 (pc' := 7) (L' := [some (.ref 526), some (.int y1), none]) (S' := [.int ((gI g 526 25)), .int y1]) (M' := gm g) rfl ?_
    refine g_icmp ((gI g 526 25) ≤ y1) rfl (t := 27) rfl rfl (fun c1 => ?_) (fun c1 => ?_)
    · replace h := (if_pos c1).symm.trans h
      refine g_forget (L' := [some (.ref 526), none, none]) (And.intro rfl True.intro) ?_
      exact p_X12_passNight_27 hD g _ h
    · replace h := (if_neg c1).symm.trans h
      refine g_run 5 (pc' := 17) (L' := [some (.ref 526), some (.int y1), none]) (S' := [.int y1, .ref 526, .int y1, .ref 546]) (M' := gm g) rfl ?_
      replace h := zB_of h
      obtain ⟨v2, g3, e4, h⟩ := h
      refine g_inv2 (kd := 1) (p_X12_knownTo  e4) rfl rfl rfl (by decide) rfl rfl rfl rfl (by omega) (pc' := 20) rfl (S' := [.int v2, .int y1, .ref 546]) rfl ?_
      by_cases c5 : zib y1 6 = true
      case neg => exact nomatch ((if_neg c5).symm.trans h)
      replace h := (if_pos c5).symm.trans h
      refine g_iast rfl (a := 546) rfl c5 ?_
      refine g_run 2 (pc' := 2) (L' := [some (.ref 526), some (.int ((y1 + 1))), none]) (S' := []) (M' := gm (gsI g3 (546) (ix y1) v2)) rfl ?_
      exact ih (y1 + 1) (gsI g3 (546) (ix y1) v2) _ h
def f_X12_passNight (g : zSg) : Option (Unit × zSg) := f_X12_passNight_2 zFu (0) g
set_option maxRecDepth 100000 in
set_option maxHeartbeats 4000000 in
theorem p_X12_passNight {sc : zSc} {hp : zHp} {g : zSg} {r : Unit × zSg} (h : f_X12_passNight g = some r) : zRn sc hp 9 zM_X12_passNight [.ref 526] (gm g) none (gm r.2) := by
  intro d hD
  obtain ⟨d, rfl⟩ : ∃ d', d = d' + 1 := ⟨d - 1, by omega⟩
  show zG _ sc hp (zcd zM_X12_passNight) 0 [some (.ref 526), none, none] [] (gm g) _
  unfold f_X12_passNight at h
  refine g_run 2 (pc' := 2) (L' := [some (.ref 526), some (.int 0), none]) (S' := []) (M' := gm g) rfl ?_
  exact p_X12_passNight_2 hD zFu (0) g _ h
def f_X12_rule (x1 : Int32) (g : zSg) : Option (Int32 × zSg) := (if (gI g 526 27) = 0 then some ((-1), g) else (zB (f_X12_in x1 0 3 g) (fun v2 g3 => (if ¬ v2 = 0 then (if ¬ x1 = 2 then (if ¬ x1 = 3 then (if zib x1 5 = true then some ((gI g3 540 (ix x1)), g3) else none) else some ((gI g3 543 52), g3)) else some ((gI g3 543 51), g3)) else some ((-1), g3)))))
set_option maxRecDepth 100000 in
set_option maxHeartbeats 4000000 in
theorem p_X12_rule {sc : zSc} {hp : zHp} {x1 : Int32} {g : zSg} {r : Int32 × zSg} (h : f_X12_rule x1 g = some r) : zRn sc hp 1 zM_X12_rule [.ref 526, .int x1] (gm g) (some (.int r.1)) (gm r.2) := by
  intro d hD
  obtain ⟨d, rfl⟩ : ∃ d', d = d' + 1 := ⟨d - 1, by omega⟩
  show zG _ sc hp (zcd zM_X12_rule) 0 [some (.ref 526), some (.int x1)] [] (gm g) _
  unfold f_X12_rule at h
  refine g_run 2 (pc' := 4) (L' := [some (.ref 526), some (.int x1)]) (S' := [.int ((gI g 526 27))]) (M' := gm g) rfl ?_
  refine g_if ((gI g 526 27) = 0) rfl (t := 16) rfl rfl (fun c1 => ?_) (fun c1 => ?_)
  · replace h := (if_pos c1).symm.trans h
    refine g_run 1 (pc' := 17) (L' := [some (.ref 526), some (.int x1)]) (S' := [.int (-1)]) (M' := gm g) rfl ?_
    cases h
    exact g_ret rfl rfl rfl rfl
  · replace h := (if_neg c1).symm.trans h
    refine g_run 3 (pc' := 10) (L' := [some (.ref 526), some (.int x1)]) (S' := [.int 3, .int 0, .int x1]) (M' := gm g) rfl ?_
    replace h := zB_of h
    obtain ⟨v2, g3, e4, h⟩ := h
    refine g_inv2 (kd := 0) (p_X12_in  e4) rfl rfl rfl (by decide) rfl rfl rfl rfl (by omega) (pc' := 13) rfl (S' := [.int v2]) rfl ?_
    refine g_if (¬ v2 = 0) rfl (t := 18) rfl rfl (fun c5 => ?_) (fun c5 => ?_)
    · replace h := (if_pos c5).symm.trans h
      refine g_run 2 (pc' := 20) (L' := [some (.ref 526), some (.int x1)]) (S' := [.int 2, .int x1]) (M' := gm g3) rfl ?_
      refine g_icmp (¬ x1 = 2) rfl (t := 33) rfl rfl (fun c6 => ?_) (fun c6 => ?_)
      · replace h := (if_pos c6).symm.trans h
        refine g_run 2 (pc' := 35) (L' := [some (.ref 526), some (.int x1)]) (S' := [.int 3, .int x1]) (M' := gm g3) rfl ?_
        refine g_icmp (¬ x1 = 3) rfl (t := 48) rfl rfl (fun c7 => ?_) (fun c7 => ?_)
        · replace h := (if_pos c7).symm.trans h
          refine g_run 3 (pc' := 53) (L' := [some (.ref 526), some (.int x1)]) (S' := [.int x1, .ref 540]) (M' := gm g3) rfl ?_
          by_cases c8 : zib x1 5 = true
          case neg => exact nomatch ((if_neg c8).symm.trans h)
          replace h := (if_pos c8).symm.trans h
          refine g_iald rfl (a := 540) rfl c8 ?_
          cases h
          exact g_ret rfl rfl rfl rfl
        · replace h := (if_neg c7).symm.trans h
          refine g_run 5 (pc' := 54) (L' := [some (.ref 526), some (.int x1)]) (S' := [.int ((gI g3 543 52))]) (M' := gm g3) rfl ?_
          cases h
          exact g_ret rfl rfl rfl rfl
      · replace h := (if_neg c6).symm.trans h
        refine g_run 5 (pc' := 54) (L' := [some (.ref 526), some (.int x1)]) (S' := [.int ((gI g3 543 51))]) (M' := gm g3) rfl ?_
        cases h
        exact g_ret rfl rfl rfl rfl
    · replace h := (if_neg c5).symm.trans h
      refine g_run 1 (pc' := 17) (L' := [some (.ref 526), some (.int x1)]) (S' := [.int (-1)]) (M' := gm g3) rfl ?_
      cases h
      exact g_ret rfl rfl rfl rfl
def f_X12_person_23 (y1 : Int32) (y2 : Int32) (s0 : Int32) (g : zSg) : Option (Int32 × zSg) := (if ¬ (gI (gsI g 526 0 s0) 526 0) = 1 then (if ¬ y2 = 0 then (if ¬ y2 = 1 then (zB (f_X12_knownTo y1 (gsI g 526 0 s0)) (fun v4 g5 => some (v4, g5))) else (zB (f_X12_ofPerson y1 2 (gsI g 526 0 s0)) (fun v7 g8 => some (v7, g8)))) else (if zib (0 + y1) 235 = true then some ((gI (gsI g 526 0 s0) 543 (ix (0 + y1))), (gsI g 526 0 s0)) else none)) else some (0, (gsI g 526 0 s0)))
set_option maxRecDepth 100000 in
set_option maxHeartbeats 4000000 in
theorem p_X12_person_23 {sc : zSc} {hp : zHp} {d : Nat} (hD : 3 ≤ d) (y1 : Int32) (y2 : Int32) (s0 : Int32) (g : zSg) (r : Int32 × zSg) (h : f_X12_person_23 y1 y2 s0 g = some r) : zG d sc hp (zcd zM_X12_person) 23 [some (.ref 526), some (.int y1), some (.int y2)] [.int s0, .ref 526] (gm g) ((some (.int r.1)), gm r.2) := by
  obtain ⟨d, rfl⟩ : ∃ d', d = d' + 1 := ⟨d - 1, by omega⟩
  unfold f_X12_person_23 at h
  refine g_run 4 (pc' := 31) (L' := [some (.ref 526), some (.int y1), some (.int y2)]) (S' := [.int 1, .int ((gI (gsI g 526 0 s0) 526 0))]) (M' := gm (gsI g 526 0 s0)) rfl ?_
  refine g_icmp (¬ (gI (gsI g 526 0 s0) 526 0) = 1) rfl (t := 36) rfl rfl (fun c1 => ?_) (fun c1 => ?_)
  · replace h := (if_pos c1).symm.trans h
    refine g_run 1 (pc' := 37) (L' := [some (.ref 526), some (.int y1), some (.int y2)]) (S' := [.int y2]) (M' := gm (gsI g 526 0 s0)) rfl ?_
    refine g_if (¬ y2 = 0) rfl (t := 51) rfl rfl (fun c2 => ?_) (fun c2 => ?_)
    · replace h := (if_pos c2).symm.trans h
      refine g_run 2 (pc' := 53) (L' := [some (.ref 526), some (.int y1), some (.int y2)]) (S' := [.int 1, .int y2]) (M' := gm (gsI g 526 0 s0)) rfl ?_
      refine g_icmp (¬ y2 = 1) rfl (t := 65) rfl rfl (fun c3 => ?_) (fun c3 => ?_)
      · replace h := (if_pos c3).symm.trans h
        refine g_run 2 (pc' := 67) (L' := [some (.ref 526), some (.int y1), some (.int y2)]) (S' := [.int y1, .ref 526]) (M' := gm (gsI g 526 0 s0)) rfl ?_
        replace h := zB_of h
        obtain ⟨v4, g5, e6, h⟩ := h
        refine g_inv2 (kd := 1) (p_X12_knownTo  e6) rfl rfl rfl (by decide) rfl rfl rfl rfl (by omega) (pc' := 70) rfl (S' := [.int v4]) rfl ?_
        cases h
        exact g_ret rfl rfl rfl rfl
      · replace h := (if_neg c3).symm.trans h
        refine g_run 3 (pc' := 59) (L' := [some (.ref 526), some (.int y1), some (.int y2)]) (S' := [.int 2, .int y1, .ref 526]) (M' := gm (gsI g 526 0 s0)) rfl ?_
        replace h := zB_of h
        obtain ⟨v7, g8, e9, h⟩ := h
        refine g_inv2 (kd := 1) (p_X12_ofPerson  e9) rfl rfl rfl (by decide) rfl rfl rfl rfl (by omega) (pc' := 62) rfl (S' := [.int v7]) rfl ?_
        refine g_run 1 (pc' := 70) (L' := [some (.ref 526), some (.int y1), some (.int y2)]) (S' := [.int v7]) (M' := gm g8) rfl ?_
        cases h
        exact g_ret rfl rfl rfl rfl
    · replace h := (if_neg c2).symm.trans h
      refine g_run 5 (pc' := 47) (L' := [some (.ref 526), some (.int y1), some (.int y2)]) (S' := [.int ((0 + y1)), .ref 543]) (M' := gm (gsI g 526 0 s0)) rfl ?_
      by_cases c10 : zib (0 + y1) 235 = true
      case neg => exact nomatch ((if_neg c10).symm.trans h)
      replace h := (if_pos c10).symm.trans h
      refine g_iald rfl (a := 543) rfl c10 ?_
      refine g_run 1 (pc' := 70) (L' := [some (.ref 526), some (.int y1), some (.int y2)]) (S' := [.int ((gI (gsI g 526 0 s0) 543 (ix (0 + y1))))]) (M' := gm (gsI g 526 0 s0)) rfl ?_
      cases h
      exact g_ret rfl rfl rfl rfl
  · replace h := (if_neg c1).symm.trans h
    refine g_run 1 (pc' := 35) (L' := [some (.ref 526), some (.int y1), some (.int y2)]) (S' := [.int 0]) (M' := gm (gsI g 526 0 s0)) rfl ?_
    cases h
    exact g_ret rfl rfl rfl rfl
def f_X12_person_22 (y1 : Int32) (y2 : Int32) (g : zSg) : Option (Int32 × zSg) := f_X12_person_23 (y1) (y2) (1) g
set_option maxRecDepth 100000 in
set_option maxHeartbeats 4000000 in
theorem p_X12_person_22 {sc : zSc} {hp : zHp} {d : Nat} (hD : 3 ≤ d) (y1 : Int32) (y2 : Int32) (g : zSg) (r : Int32 × zSg) (h : f_X12_person_22 y1 y2 g = some r) : zG d sc hp (zcd zM_X12_person) 22 [some (.ref 526), some (.int y1), some (.int y2)] [.ref 526] (gm g) ((some (.int r.1)), gm r.2) := by
  obtain ⟨d, rfl⟩ : ∃ d', d = d' + 1 := ⟨d - 1, by omega⟩
  unfold f_X12_person_22 at h
  refine g_run 1 (pc' := 23) (L' := [some (.ref 526), some (.int y1), some (.int y2)]) (S' := [.int 1, .ref 526]) (M' := gm g) rfl ?_
  exact p_X12_person_23 hD (y1) (y2) (1) g _ h
def f_X12_person (x1 : Int32) (x2 : Int32) (g : zSg) : Option (Int32 × zSg) := (zB (f_X12_isPerson x1 g) (fun v1 g2 => (if v1 = 0 then f_X12_person_22 (x1) (x2) g2 else (zB (f_X12_in x2 0 2 g2) (fun v5 g6 => (if v5 = 0 then f_X12_person_22 (x1) (x2) g6 else f_X12_person_23 (x1) (x2) (0) g6))))))
set_option maxRecDepth 100000 in
set_option maxHeartbeats 4000000 in
theorem p_X12_person {sc : zSc} {hp : zHp} {x1 : Int32} {x2 : Int32} {g : zSg} {r : Int32 × zSg} (h : f_X12_person x1 x2 g = some r) : zRn sc hp 3 zM_X12_person [.ref 526, .int x1, .int x2] (gm g) (some (.int r.1)) (gm r.2) := by
  intro d hD
  obtain ⟨d, rfl⟩ : ∃ d', d = d' + 1 := ⟨d - 1, by omega⟩
  show zG _ sc hp (zcd zM_X12_person) 0 [some (.ref 526), some (.int x1), some (.int x2)] [] (gm g) _
  unfold f_X12_person at h
  refine g_run 3 (pc' := 3) (L' := [some (.ref 526), some (.int x1), some (.int x2)]) (S' := [.int x1, .ref 526, .ref 526]) (M' := gm g) rfl ?_
  replace h := zB_of h
  obtain ⟨v1, g2, e3, h⟩ := h
  refine g_inv2 (kd := 1) (p_X12_isPerson  e3) rfl rfl rfl (by decide) rfl rfl rfl rfl (by omega) (pc' := 6) rfl (S' := [.int v1, .ref 526]) rfl ?_
  refine g_if (v1 = 0) rfl (t := 22) rfl rfl (fun c4 => ?_) (fun c4 => ?_)
  · replace h := (if_pos c4).symm.trans h
    exact p_X12_person_22 hD (x1) (x2) g2 _ h
  · replace h := (if_neg c4).symm.trans h
    refine g_run 3 (pc' := 12) (L' := [some (.ref 526), some (.int x1), some (.int x2)]) (S' := [.int 2, .int 0, .int x2, .ref 526]) (M' := gm g2) rfl ?_
    replace h := zB_of h
    obtain ⟨v5, g6, e7, h⟩ := h
    refine g_inv2 (kd := 0) (p_X12_in  e7) rfl rfl rfl (by decide) rfl rfl rfl rfl (by omega) (pc' := 15) rfl (S' := [.int v5, .ref 526]) rfl ?_
    refine g_if (v5 = 0) rfl (t := 22) rfl rfl (fun c8 => ?_) (fun c8 => ?_)
    · replace h := (if_pos c8).symm.trans h
      exact p_X12_person_22 hD (x1) (x2) g6 _ h
    · replace h := (if_neg c8).symm.trans h
      refine g_run 2 (pc' := 23) (L' := [some (.ref 526), some (.int x1), some (.int x2)]) (S' := [.int 0, .ref 526]) (M' := gm g6) rfl ?_
      exact p_X12_person_23 hD (x1) (x2) (0) g6 _ h
def f_X12_secret (x1 : Int32) (x2 : Int32) (g : zSg) : Option (Int32 × zSg) := (zB (f_X12_isSecret x1 g) (fun v1 g2 => (if v1 = 0 then some ((-1), g2) else (zB (f_X12_in x2 0 6 g2) (fun v5 g6 => (if ¬ v5 = 0 then (if x2 = 2 then (zB (f_X12_shedOf x1 g6) (fun v10 g11 => some (v10, g11))) else (if x2 = 3 then (zB (f_X12_hangs x1 g6) (fun v14 g15 => (if v14 = 0 then some (0, g15) else some (1, g15)))) else (if x2 = 4 then (if zib (42 + x1) 235 = true then some ((gI g6 543 (ix (42 + x1))), g6) else none) else (if x2 = 5 then (zB (f_X12_isRaw x1 g6) (fun v21 g22 => (if v21 = 0 then some (1, g22) else some (0, g22)))) else (if x2 = 6 then (zB (f_X12_knownOf x1 g6) (fun v26 g27 => some (v26, g27))) else (zB (f_X12_of x1 x2 g6) (fun v29 g30 => some (v29, g30)))))))) else some ((-1), g6)))))))
set_option maxRecDepth 100000 in
set_option maxHeartbeats 4000000 in
theorem p_X12_secret {sc : zSc} {hp : zHp} {x1 : Int32} {x2 : Int32} {g : zSg} {r : Int32 × zSg} (h : f_X12_secret x1 x2 g = some r) : zRn sc hp 3 zM_X12_secret [.ref 526, .int x1, .int x2] (gm g) (some (.int r.1)) (gm r.2) := by
  intro d hD
  obtain ⟨d, rfl⟩ : ∃ d', d = d' + 1 := ⟨d - 1, by omega⟩
  show zG _ sc hp (zcd zM_X12_secret) 0 [some (.ref 526), some (.int x1), some (.int x2)] [] (gm g) _
  unfold f_X12_secret at h
  refine g_run 2 (pc' := 2) (L' := [some (.ref 526), some (.int x1), some (.int x2)]) (S' := [.int x1, .ref 526]) (M' := gm g) rfl ?_
  replace h := zB_of h
  obtain ⟨v1, g2, e3, h⟩ := h
  refine g_inv2 (kd := 1) (p_X12_isSecret  e3) rfl rfl rfl (by decide) rfl rfl rfl rfl (by omega) (pc' := 5) rfl (S' := [.int v1]) rfl ?_
  refine g_if (v1 = 0) rfl (t := 18) rfl rfl (fun c4 => ?_) (fun c4 => ?_)
  · replace h := (if_pos c4).symm.trans h
    refine g_run 1 (pc' := 19) (L' := [some (.ref 526), some (.int x1), some (.int x2)]) (S' := [.int (-1)]) (M' := gm g2) rfl ?_
    cases h
    exact g_ret rfl rfl rfl rfl
  · replace h := (if_neg c4).symm.trans h
    refine g_run 3 (pc' := 12) (L' := [some (.ref 526), some (.int x1), some (.int x2)]) (S' := [.int 6, .int 0, .int x2]) (M' := gm g2) rfl ?_
    replace h := zB_of h
    obtain ⟨v5, g6, e7, h⟩ := h
    refine g_inv2 (kd := 0) (p_X12_in  e7) rfl rfl rfl (by decide) rfl rfl rfl rfl (by omega) (pc' := 15) rfl (S' := [.int v5]) rfl ?_
    refine g_if (¬ v5 = 0) rfl (t := 20) rfl rfl (fun c8 => ?_) (fun c8 => ?_)
    · replace h := (if_pos c8).symm.trans h
      refine g_run 1 (pc' := 21) (L' := [some (.ref 526), some (.int x1), some (.int x2)]) (S' := [.int x2]) (M' := gm g6) rfl ?_
      by_cases c9 : x2 = 2
      · replace h := (if_pos c9).symm.trans h
        refine g_swc c9 rfl rfl rfl (pc' := 56) rfl ?_
        refine g_run 2 (pc' := 58) (L' := [some (.ref 526), some (.int x1), some (.int x2)]) (S' := [.int x1, .ref 526]) (M' := gm g6) rfl ?_
        replace h := zB_of h
        obtain ⟨v10, g11, e12, h⟩ := h
        refine g_inv2 (kd := 1) (p_X12_shedOf  e12) rfl rfl rfl (by decide) rfl rfl rfl rfl (by omega) (pc' := 61) rfl (S' := [.int v10]) rfl ?_
        cases h
        exact g_ret rfl rfl rfl rfl
      replace h := (if_neg c9).symm.trans h
      by_cases c13 : x2 = 3
      · replace h := (if_pos c13).symm.trans h
        refine g_swc c13 rfl rfl rfl (pc' := 62) rfl ?_
        refine g_run 2 (pc' := 64) (L' := [some (.ref 526), some (.int x1), some (.int x2)]) (S' := [.int x1, .ref 526]) (M' := gm g6) rfl ?_
        replace h := zB_of h
        obtain ⟨v14, g15, e16, h⟩ := h
        refine g_inv2 (kd := 1) (p_X12_hangs  e16) rfl rfl rfl (by decide) rfl rfl rfl rfl (by omega) (pc' := 67) rfl (S' := [.int v14]) rfl ?_
        refine g_if (v14 = 0) rfl (t := 74) rfl rfl (fun c17 => ?_) (fun c17 => ?_)
        · replace h := (if_pos c17).symm.trans h
          refine g_run 1 (pc' := 75) (L' := [some (.ref 526), some (.int x1), some (.int x2)]) (S' := [.int 0]) (M' := gm g15) rfl ?_
          cases h
          exact g_ret rfl rfl rfl rfl
        · replace h := (if_neg c17).symm.trans h
          refine g_run 2 (pc' := 75) (L' := [some (.ref 526), some (.int x1), some (.int x2)]) (S' := [.int 1]) (M' := gm g15) rfl ?_
          cases h
          exact g_ret rfl rfl rfl rfl
      replace h := (if_neg c13).symm.trans h
      by_cases c18 : x2 = 4
      · replace h := (if_pos c18).symm.trans h
        refine g_swc c18 rfl rfl rfl (pc' := 76) rfl ?_
        refine g_run 5 (pc' := 84) (L' := [some (.ref 526), some (.int x1), some (.int x2)]) (S' := [.int ((42 + x1)), .ref 543]) (M' := gm g6) rfl ?_
        by_cases c19 : zib (42 + x1) 235 = true
        case neg => exact nomatch ((if_neg c19).symm.trans h)
        replace h := (if_pos c19).symm.trans h
        refine g_iald rfl (a := 543) rfl c19 ?_
        cases h
        exact g_ret rfl rfl rfl rfl
      replace h := (if_neg c18).symm.trans h
      by_cases c20 : x2 = 5
      · replace h := (if_pos c20).symm.trans h
        refine g_swc c20 rfl rfl rfl (pc' := 86) rfl ?_
        refine g_run 2 (pc' := 88) (L' := [some (.ref 526), some (.int x1), some (.int x2)]) (S' := [.int x1, .ref 526]) (M' := gm g6) rfl ?_
        replace h := zB_of h
        obtain ⟨v21, g22, e23, h⟩ := h
        refine g_inv2 (kd := 1) (p_X12_isRaw  e23) rfl rfl rfl (by decide) rfl rfl rfl rfl (by omega) (pc' := 91) rfl (S' := [.int v21]) rfl ?_
        refine g_if (v21 = 0) rfl (t := 98) rfl rfl (fun c24 => ?_) (fun c24 => ?_)
        · replace h := (if_pos c24).symm.trans h
          refine g_run 1 (pc' := 99) (L' := [some (.ref 526), some (.int x1), some (.int x2)]) (S' := [.int 1]) (M' := gm g22) rfl ?_
          cases h
          exact g_ret rfl rfl rfl rfl
        · replace h := (if_neg c24).symm.trans h
          refine g_run 2 (pc' := 99) (L' := [some (.ref 526), some (.int x1), some (.int x2)]) (S' := [.int 0]) (M' := gm g22) rfl ?_
          cases h
          exact g_ret rfl rfl rfl rfl
      replace h := (if_neg c20).symm.trans h
      by_cases c25 : x2 = 6
      · replace h := (if_pos c25).symm.trans h
        refine g_swc c25 rfl rfl rfl (pc' := 100) rfl ?_
        refine g_run 2 (pc' := 102) (L' := [some (.ref 526), some (.int x1), some (.int x2)]) (S' := [.int x1, .ref 526]) (M' := gm g6) rfl ?_
        replace h := zB_of h
        obtain ⟨v26, g27, e28, h⟩ := h
        refine g_inv2 (kd := 1) (p_X12_knownOf  e28) rfl rfl rfl (by decide) rfl rfl rfl rfl (by omega) (pc' := 105) rfl (S' := [.int v26]) rfl ?_
        cases h
        exact g_ret rfl rfl rfl rfl
      replace h := (if_neg c25).symm.trans h
      have hsw : (x2).toInt < 2 ∨ 6 < (x2).toInt := by
        have nc9 := lv_neT c9 (a := 2) rfl
        have nc13 := lv_neT c13 (a := 3) rfl
        have nc18 := lv_neT c18 (a := 4) rfl
        have nc20 := lv_neT c20 (a := 5) rfl
        have nc25 := lv_neT c25 (a := 6) rfl
        omega
      refine g_tsd rfl hsw (t := 106) rfl ?_
      refine g_run 3 (pc' := 109) (L' := [some (.ref 526), some (.int x1), some (.int x2)]) (S' := [.int x2, .int x1, .ref 526]) (M' := gm g6) rfl ?_
      replace h := zB_of h
      obtain ⟨v29, g30, e31, h⟩ := h
      refine g_inv2 (kd := 1) (p_X12_of  e31) rfl rfl rfl (by decide) rfl rfl rfl rfl (by omega) (pc' := 112) rfl (S' := [.int v29]) rfl ?_
      cases h
      exact g_ret rfl rfl rfl rfl
    · replace h := (if_neg c8).symm.trans h
      refine g_run 1 (pc' := 19) (L' := [some (.ref 526), some (.int x1), some (.int x2)]) (S' := [.int (-1)]) (M' := gm g6) rfl ?_
      cases h
      exact g_ret rfl rfl rfl rfl
def f_X12_breath (x1 : Int32) (x2 : Int32) (g : zSg) : Option (Int32 × zSg) := (zB (f_X12_isPerson x1 g) (fun v1 g2 => (if v1 = 0 then some ((-1), g2) else (zB (f_X12_isSecret x2 g2) (fun v5 g6 => (if v5 = 0 then some ((-1), g6) else (zB (f_X12_breathOf x1 x2 g6) (fun v9 g10 => some (v9, g10)))))))))
set_option maxRecDepth 100000 in
set_option maxHeartbeats 4000000 in
theorem p_X12_breath {sc : zSc} {hp : zHp} {x1 : Int32} {x2 : Int32} {g : zSg} {r : Int32 × zSg} (h : f_X12_breath x1 x2 g = some r) : zRn sc hp 2 zM_X12_breath [.ref 526, .int x1, .int x2] (gm g) (some (.int r.1)) (gm r.2) := by
  intro d hD
  obtain ⟨d, rfl⟩ : ∃ d', d = d' + 1 := ⟨d - 1, by omega⟩
  show zG _ sc hp (zcd zM_X12_breath) 0 [some (.ref 526), some (.int x1), some (.int x2)] [] (gm g) _
  unfold f_X12_breath at h
  refine g_run 2 (pc' := 2) (L' := [some (.ref 526), some (.int x1), some (.int x2)]) (S' := [.int x1, .ref 526]) (M' := gm g) rfl ?_
  replace h := zB_of h
  obtain ⟨v1, g2, e3, h⟩ := h
  refine g_inv2 (kd := 1) (p_X12_isPerson  e3) rfl rfl rfl (by decide) rfl rfl rfl rfl (by omega) (pc' := 5) rfl (S' := [.int v1]) rfl ?_
  refine g_if (v1 = 0) rfl (t := 25) rfl rfl (fun c4 => ?_) (fun c4 => ?_)
  · replace h := (if_pos c4).symm.trans h
    refine g_run 1 (pc' := 26) (L' := [some (.ref 526), some (.int x1), some (.int x2)]) (S' := [.int (-1)]) (M' := gm g2) rfl ?_
    cases h
    exact g_ret rfl rfl rfl rfl
  · replace h := (if_neg c4).symm.trans h
    refine g_run 2 (pc' := 10) (L' := [some (.ref 526), some (.int x1), some (.int x2)]) (S' := [.int x2, .ref 526]) (M' := gm g2) rfl ?_
    replace h := zB_of h
    obtain ⟨v5, g6, e7, h⟩ := h
    refine g_inv2 (kd := 1) (p_X12_isSecret  e7) rfl rfl rfl (by decide) rfl rfl rfl rfl (by omega) (pc' := 13) rfl (S' := [.int v5]) rfl ?_
    refine g_if (v5 = 0) rfl (t := 25) rfl rfl (fun c8 => ?_) (fun c8 => ?_)
    · replace h := (if_pos c8).symm.trans h
      refine g_run 1 (pc' := 26) (L' := [some (.ref 526), some (.int x1), some (.int x2)]) (S' := [.int (-1)]) (M' := gm g6) rfl ?_
      cases h
      exact g_ret rfl rfl rfl rfl
    · replace h := (if_neg c8).symm.trans h
      refine g_run 3 (pc' := 19) (L' := [some (.ref 526), some (.int x1), some (.int x2)]) (S' := [.int x2, .int x1, .ref 526]) (M' := gm g6) rfl ?_
      replace h := zB_of h
      obtain ⟨v9, g10, e11, h⟩ := h
      refine g_inv2 (kd := 1) (p_X12_breathOf  e11) rfl rfl rfl (by decide) rfl rfl rfl rfl (by omega) (pc' := 22) rfl (S' := [.int v9]) rfl ?_
      refine g_run 1 (pc' := 26) (L' := [some (.ref 526), some (.int x1), some (.int x2)]) (S' := [.int v9]) (M' := gm g10) rfl ?_
      cases h
      exact g_ret rfl rfl rfl rfl
def f_X12_law (x1 : Int32) (g : zSg) : Option (Int32 × zSg) := (zB (f_X12_in x1 (-1) ((gI g 526 13) - 1) g) (fun v1 g2 => (if ¬ v1 = 0 then some (1, (gsI g2 526 30 x1)) else some (0, g2))))
set_option maxRecDepth 100000 in
set_option maxHeartbeats 4000000 in
theorem p_X12_law {sc : zSc} {hp : zHp} {x1 : Int32} {g : zSg} {r : Int32 × zSg} (h : f_X12_law x1 g = some r) : zRn sc hp 1 zM_X12_law [.ref 526, .int x1] (gm g) (some (.int r.1)) (gm r.2) := by
  intro d hD
  obtain ⟨d, rfl⟩ : ∃ d', d = d' + 1 := ⟨d - 1, by omega⟩
  show zG _ sc hp (zcd zM_X12_law) 0 [some (.ref 526), some (.int x1)] [] (gm g) _
  unfold f_X12_law at h
  refine g_run 6 (pc' := 8) (L' := [some (.ref 526), some (.int x1)]) (S' := [.int (((gI g 526 13) - 1)), .int (-1), .int x1]) (M' := gm g) rfl ?_
  replace h := zB_of h
  obtain ⟨v1, g2, e3, h⟩ := h
  refine g_inv2 (kd := 0) (p_X12_in  e3) rfl rfl rfl (by decide) rfl rfl rfl rfl (by omega) (pc' := 11) rfl (S' := [.int v1]) rfl ?_
  refine g_if (¬ v1 = 0) rfl (t := 16) rfl rfl (fun c4 => ?_) (fun c4 => ?_)
  · replace h := (if_pos c4).symm.trans h
    refine g_run 4 (pc' := 22) (L' := [some (.ref 526), some (.int x1)]) (S' := [.int 1]) (M' := gm (gsI g2 526 30 x1)) rfl ?_
    cases h
    exact g_ret rfl rfl rfl rfl
  · replace h := (if_neg c4).symm.trans h
    refine g_run 1 (pc' := 15) (L' := [some (.ref 526), some (.int x1)]) (S' := [.int 0]) (M' := gm g2) rfl ?_
    cases h
    exact g_ret rfl rfl rfl rfl
def f_X12_keep_88 (g : zSg) : Option (Unit × zSg) := some ((), (gsI g 526 35 ((gI g 526 35) + 1)))
set_option maxRecDepth 100000 in
set_option maxHeartbeats 4000000 in
theorem p_X12_keep_88 {sc : zSc} {hp : zHp} {d : Nat} (hD : 0 ≤ d) (g : zSg) (r : Unit × zSg) (h : f_X12_keep_88 g = some r) : zG d sc hp (zcd zM_X12_keep) 88 [some (.ref 526), none] [] (gm g) (none, gm r.2) := by
  unfold f_X12_keep_88 at h
  refine g_run 6 (pc' := 98) (L' := [some (.ref 526), none]) (S' := []) (M' := gm (gsI g 526 35 ((gI g 526 35) + 1))) rfl ?_
  cases h
  exact g_ret rfl rfl rfl rfl
def fb_X12_keep_54 (kk : Int32 → zSg → Option (Unit × zSg)) (y1 : Int32) (g : zSg) : Option (Unit × zSg) := (if 235 ≤ y1 then f_X12_keep_88 g else (if zib y1 235 = true then (if zib ((235 * (gI g 526 35)) + y1) 9400 = true then kk (y1 + 1) (gsI g (547) (ix ((235 * (gI g 526 35)) + y1)) (gI g 543 (ix y1))) else none) else none))
def f_X12_keep_54 : Nat → Int32 → zSg → Option (Unit × zSg)
  | 0, _, _ => none
  | n + 1, y1, g => fb_X12_keep_54 (f_X12_keep_54 n) y1 g
set_option maxRecDepth 100000 in
set_option maxHeartbeats 4000000 in
theorem p_X12_keep_54 {sc : zSc} {hp : zHp} {d : Nat} (hD : 0 ≤ d) : ∀ (n : Nat) (y1 : Int32) (g : zSg) (r : Unit × zSg), f_X12_keep_54 n y1 g = some r → zG d sc hp (zcd zM_X12_keep) 54 [some (.ref 526), some (.int y1)] [] (gm g) (none, gm r.2) := by
  intro n
  induction n with
  | zero => intro y1 g r h; cases h
  | succ n ih =>
    intro y1 g r h
    replace h : fb_X12_keep_54 (f_X12_keep_54 n) y1 g = some r := h
    unfold fb_X12_keep_54 at h
    refine g_run 2 (pc' := 58) (L' := [some (.ref 526), some (.int y1)]) (S' := [.int 235, .int y1]) (M' := gm g) rfl ?_
    refine g_icmp (235 ≤ y1) rfl (t := 88) rfl rfl (fun c1 => ?_) (fun c1 => ?_)
    · replace h := (if_pos c1).symm.trans h
      refine g_forget (L' := [some (.ref 526), none]) (And.intro rfl True.intro) ?_
      exact p_X12_keep_88 hD g _ h
    · replace h := (if_neg c1).symm.trans h
      refine g_run 11 (pc' := 80) (L' := [some (.ref 526), some (.int y1)]) (S' := [.int y1, .ref 543, .int (((235 * (gI g 526 35)) + y1)), .ref 547]) (M' := gm g) rfl ?_
      by_cases c2 : zib y1 235 = true
      case neg => exact nomatch ((if_neg c2).symm.trans h)
      replace h := (if_pos c2).symm.trans h
      refine g_iald rfl (a := 543) rfl c2 ?_
      by_cases c3 : zib ((235 * (gI g 526 35)) + y1) 9400 = true
      case neg => exact nomatch ((if_neg c3).symm.trans h)
      replace h := (if_pos c3).symm.trans h
      refine g_iast rfl (a := 547) rfl c3 ?_
      refine g_run 2 (pc' := 54) (L' := [some (.ref 526), some (.int ((y1 + 1)))]) (S' := []) (M' := gm (gsI g (547) (ix ((235 * (gI g 526 35)) + y1)) (gI g 543 (ix y1)))) rfl ?_
      exact ih (y1 + 1) (gsI g (547) (ix ((235 * (gI g 526 35)) + y1)) (gI g 543 (ix y1))) _ h
def f_X12_keep_52 (g : zSg) : Option (Unit × zSg) := f_X12_keep_54 zFu (0) g
set_option maxRecDepth 100000 in
set_option maxHeartbeats 4000000 in
theorem p_X12_keep_52 {sc : zSc} {hp : zHp} {d : Nat} (hD : 0 ≤ d) (g : zSg) (r : Unit × zSg) (h : f_X12_keep_52 g = some r) : zG d sc hp (zcd zM_X12_keep) 52 [some (.ref 526), none] [] (gm g) (none, gm r.2) := by
  unfold f_X12_keep_52 at h
  refine g_run 2 (pc' := 54) (L' := [some (.ref 526), some (.int 0)]) (S' := []) (M' := gm g) rfl ?_
  exact p_X12_keep_54 hD zFu (0) g _ h
def f_X12_keep_42 (g : zSg) : Option (Unit × zSg) := f_X12_keep_52 (gsI g 526 35 ((gI g 526 35) - 1))
set_option maxRecDepth 100000 in
set_option maxHeartbeats 4000000 in
theorem p_X12_keep_42 {sc : zSc} {hp : zHp} {d : Nat} (hD : 0 ≤ d) (g : zSg) (r : Unit × zSg) (h : f_X12_keep_42 g = some r) : zG d sc hp (zcd zM_X12_keep) 42 [some (.ref 526), none] [] (gm g) (none, gm r.2) := by
  unfold f_X12_keep_42 at h
  refine g_run 6 (pc' := 52) (L' := [some (.ref 526), none]) (S' := []) (M' := gm (gsI g 526 35 ((gI g 526 35) - 1))) rfl ?_
  exact p_X12_keep_52 hD (gsI g 526 35 ((gI g 526 35) - 1)) _ h
def fb_X12_keep_13 (kk : Int32 → zSg → Option (Unit × zSg)) (y1 : Int32) (g : zSg) : Option (Unit × zSg) := (if 9400 ≤ y1 then f_X12_keep_42 g else (if zib y1 9400 = true then (if zib (y1 - 235) 9400 = true then kk (y1 + 1) (gsI g (547) (ix (y1 - 235)) (gI g 547 (ix y1))) else none) else none))
def f_X12_keep_13 : Nat → Int32 → zSg → Option (Unit × zSg)
  | 0, _, _ => none
  | n + 1, y1, g => fb_X12_keep_13 (f_X12_keep_13 n) y1 g
set_option maxRecDepth 100000 in
set_option maxHeartbeats 4000000 in
theorem p_X12_keep_13 {sc : zSc} {hp : zHp} {d : Nat} (hD : 0 ≤ d) : ∀ (n : Nat) (y1 : Int32) (g : zSg) (r : Unit × zSg), f_X12_keep_13 n y1 g = some r → zG d sc hp (zcd zM_X12_keep) 13 [some (.ref 526), some (.int y1)] [] (gm g) (none, gm r.2) := by
  intro n
  induction n with
  | zero => intro y1 g r h; cases h
  | succ n ih =>
    intro y1 g r h
    replace h : fb_X12_keep_13 (f_X12_keep_13 n) y1 g = some r := h
    unfold fb_X12_keep_13 at h
    refine g_run 2 (pc' := 17) (L' := [some (.ref 526), some (.int y1)]) (S' := [.int 9400, .int y1]) (M' := gm g) rfl ?_
    refine g_icmp (9400 ≤ y1) rfl (t := 42) rfl rfl (fun c1 => ?_) (fun c1 => ?_)
    · replace h := (if_pos c1).symm.trans h
      refine g_forget (L' := [some (.ref 526), none]) (And.intro rfl True.intro) ?_
      exact p_X12_keep_42 hD g _ h
    · replace h := (if_neg c1).symm.trans h
      refine g_run 8 (pc' := 34) (L' := [some (.ref 526), some (.int y1)]) (S' := [.int y1, .ref 547, .int ((y1 - 235)), .ref 547]) (M' := gm g) rfl ?_
      by_cases c2 : zib y1 9400 = true
      case neg => exact nomatch ((if_neg c2).symm.trans h)
      replace h := (if_pos c2).symm.trans h
      refine g_iald rfl (a := 547) rfl c2 ?_
      by_cases c3 : zib (y1 - 235) 9400 = true
      case neg => exact nomatch ((if_neg c3).symm.trans h)
      replace h := (if_pos c3).symm.trans h
      refine g_iast rfl (a := 547) rfl c3 ?_
      refine g_run 2 (pc' := 13) (L' := [some (.ref 526), some (.int ((y1 + 1)))]) (S' := []) (M' := gm (gsI g (547) (ix (y1 - 235)) (gI g 547 (ix y1)))) rfl ?_
      exact ih (y1 + 1) (gsI g (547) (ix (y1 - 235)) (gI g 547 (ix y1))) _ h
def f_X12_keep (g : zSg) : Option (Unit × zSg) := (if ¬ (gI g 526 35) = 40 then f_X12_keep_52 g else f_X12_keep_13 zFu (235) g)
set_option maxRecDepth 100000 in
set_option maxHeartbeats 4000000 in
theorem p_X12_keep {sc : zSc} {hp : zHp} {g : zSg} {r : Unit × zSg} (h : f_X12_keep g = some r) : zRn sc hp 0 zM_X12_keep [.ref 526] (gm g) none (gm r.2) := by
  intro d hD
  show zG _ sc hp (zcd zM_X12_keep) 0 [some (.ref 526), none] [] (gm g) _
  unfold f_X12_keep at h
  refine g_run 3 (pc' := 6) (L' := [some (.ref 526), none]) (S' := [.int 40, .int ((gI g 526 35))]) (M' := gm g) rfl ?_
  refine g_icmp (¬ (gI g 526 35) = 40) rfl (t := 52) rfl rfl (fun c1 => ?_) (fun c1 => ?_)
  · replace h := (if_pos c1).symm.trans h
    exact p_X12_keep_52 hD g _ h
  · replace h := (if_neg c1).symm.trans h
    refine g_run 2 (pc' := 13) (L' := [some (.ref 526), some (.int 235)]) (S' := []) (M' := gm g) rfl ?_
    exact p_X12_keep_13 hD zFu (235) g _ h
def f_X12_isRefused_15 (y1 : Int32) (g : zSg) : Option (Int32 × zSg) := (if y1 = (-1) then some (0, g) else some (1, g))
set_option maxRecDepth 100000 in
set_option maxHeartbeats 4000000 in
theorem p_X12_isRefused_15 {sc : zSc} {hp : zHp} {d : Nat} (hD : 0 ≤ d) (y1 : Int32) (g : zSg) (r : Int32 × zSg) (h : f_X12_isRefused_15 y1 g = some r) : zG d sc hp (zcd zM_X12_isRefused) 15 [none, some (.int y1)] [] (gm g) ((some (.int r.1)), gm r.2) := by
  unfold f_X12_isRefused_15 at h
  refine g_run 2 (pc' := 17) (L' := [none, some (.int y1)]) (S' := [.int (-1), .int y1]) (M' := gm g) rfl ?_
  refine g_icmp (y1 = (-1)) rfl (t := 24) rfl rfl (fun c1 => ?_) (fun c1 => ?_)
  · replace h := (if_pos c1).symm.trans h
    refine g_run 1 (pc' := 25) (L' := [none, some (.int y1)]) (S' := [.int 0]) (M' := gm g) rfl ?_
    cases h
    exact g_ret rfl rfl rfl rfl
  · replace h := (if_neg c1).symm.trans h
    refine g_run 2 (pc' := 25) (L' := [none, some (.int y1)]) (S' := [.int 1]) (M' := gm g) rfl ?_
    cases h
    exact g_ret rfl rfl rfl rfl
def f_X12_isRefused (x1 : Int32) (g : zSg) : Option (Int32 × zSg) := (if x1 = (-1) then f_X12_isRefused_15 (x1) g else (if zib x1 5 = true then (if zib x1 5 = true then f_X12_isRefused_15 (x1) (gsI g (544) (ix x1) ((gI g 544 (ix x1)) + 1)) else none) else none))
set_option maxRecDepth 100000 in
set_option maxHeartbeats 4000000 in
theorem p_X12_isRefused {sc : zSc} {hp : zHp} {x1 : Int32} {g : zSg} {r : Int32 × zSg} (h : f_X12_isRefused x1 g = some r) : zRn sc hp 0 zM_X12_isRefused [.ref 526, .int x1] (gm g) (some (.int r.1)) (gm r.2) := by
  intro d hD
  show zG _ sc hp (zcd zM_X12_isRefused) 0 [some (.ref 526), some (.int x1)] [] (gm g) _
  unfold f_X12_isRefused at h
  refine g_run 2 (pc' := 2) (L' := [some (.ref 526), some (.int x1)]) (S' := [.int (-1), .int x1]) (M' := gm g) rfl ?_
  refine g_icmp (x1 = (-1)) rfl (t := 15) rfl rfl (fun c1 => ?_) (fun c1 => ?_)
  · replace h := (if_pos c1).symm.trans h
    refine g_forget (L' := [none, some (.int x1)]) (And.intro rfl True.intro) ?_
    exact p_X12_isRefused_15 hD (x1) g _ h
  · replace h := (if_neg c1).symm.trans h
    refine g_run 4 (pc' := 11) (L' := [some (.ref 526), some (.int x1)]) (S' := [.int x1, .ref 544, .int x1, .ref 544]) (M' := gm g) rfl ?_
    by_cases c2 : zib x1 5 = true
    case neg => exact nomatch ((if_neg c2).symm.trans h)
    replace h := (if_pos c2).symm.trans h
    refine g_iald rfl (a := 544) rfl c2 ?_
    refine g_run 2 (pc' := 14) (L' := [some (.ref 526), some (.int x1)]) (S' := [.int (((gI g 544 (ix x1)) + 1)), .int x1, .ref 544]) (M' := gm g) rfl ?_
    by_cases c3 : zib x1 5 = true
    case neg => exact nomatch ((if_neg c3).symm.trans h)
    replace h := (if_pos c3).symm.trans h
    refine g_iast rfl (a := 544) rfl c3 ?_
    refine g_forget (L' := [none, some (.int x1)]) (And.intro rfl True.intro) ?_
    exact p_X12_isRefused_15 hD (x1) (gsI g (544) (ix x1) ((gI g 544 (ix x1)) + 1)) _ h
def f_X12_areNights (x1 : Int32) (g : zSg) : Option (Int32 × zSg) := (zB (f_X12_in x1 1 60 g) (fun v1 g2 => (if v1 = 0 then some (0, g2) else (if 999 < ((gI g2 543 53) + x1) then some (0, g2) else some (1, g2)))))
set_option maxRecDepth 100000 in
set_option maxHeartbeats 4000000 in
theorem p_X12_areNights {sc : zSc} {hp : zHp} {x1 : Int32} {g : zSg} {r : Int32 × zSg} (h : f_X12_areNights x1 g = some r) : zRn sc hp 1 zM_X12_areNights [.ref 526, .int x1] (gm g) (some (.int r.1)) (gm r.2) := by
  intro d hD
  obtain ⟨d, rfl⟩ : ∃ d', d = d' + 1 := ⟨d - 1, by omega⟩
  show zG _ sc hp (zcd zM_X12_areNights) 0 [some (.ref 526), some (.int x1)] [] (gm g) _
  unfold f_X12_areNights at h
  refine g_run 3 (pc' := 4) (L' := [some (.ref 526), some (.int x1)]) (S' := [.int 60, .int 1, .int x1]) (M' := gm g) rfl ?_
  replace h := zB_of h
  obtain ⟨v1, g2, e3, h⟩ := h
  refine g_inv2 (kd := 0) (p_X12_in  e3) rfl rfl rfl (by decide) rfl rfl rfl rfl (by omega) (pc' := 7) rfl (S' := [.int v1]) rfl ?_
  refine g_if (v1 = 0) rfl (t := 29) rfl rfl (fun c4 => ?_) (fun c4 => ?_)
  · replace h := (if_pos c4).symm.trans h
    refine g_run 1 (pc' := 30) (L' := [some (.ref 526), some (.int x1)]) (S' := [.int 0]) (M' := gm g2) rfl ?_
    cases h
    exact g_ret rfl rfl rfl rfl
  · replace h := (if_neg c4).symm.trans h
    refine g_run 7 (pc' := 22) (L' := [some (.ref 526), some (.int x1)]) (S' := [.int 999, .int (((gI g2 543 53) + x1))]) (M' := gm g2) rfl ?_
    refine g_icmp (999 < ((gI g2 543 53) + x1)) rfl (t := 29) rfl rfl (fun c5 => ?_) (fun c5 => ?_)
    · replace h := (if_pos c5).symm.trans h
      refine g_run 1 (pc' := 30) (L' := [some (.ref 526), some (.int x1)]) (S' := [.int 0]) (M' := gm g2) rfl ?_
      cases h
      exact g_ret rfl rfl rfl rfl
    · replace h := (if_neg c5).symm.trans h
      refine g_run 2 (pc' := 30) (L' := [some (.ref 526), some (.int x1)]) (S' := [.int 1]) (M' := gm g2) rfl ?_
      cases h
      exact g_ret rfl rfl rfl rfl
def f_X12_nights_68 (g : zSg) : Option (Int32 × zSg) := some ((gI g 543 53), g)
set_option maxRecDepth 100000 in
set_option maxHeartbeats 4000000 in
theorem p_X12_nights_68 {sc : zSc} {hp : zHp} {d : Nat} (hD : 10 ≤ d) (g : zSg) (r : Int32 × zSg) (h : f_X12_nights_68 g = some r) : zG d sc hp (zcd zM_X12_nights) 68 [some (.ref 526), none, none] [] (gm g) ((some (.int r.1)), gm r.2) := by
  obtain ⟨d, rfl⟩ : ∃ d', d = d' + 1 := ⟨d - 1, by omega⟩
  unfold f_X12_nights_68 at h
  refine g_run 4 (pc' := 75) (L' := [some (.ref 526), none, none]) (S' := [.int ((gI g 543 53))]) (M' := gm g) rfl ?_
  cases h
  exact g_ret rfl rfl rfl rfl
def fb_X12_nights_49 (kk : Int32 → Int32 → zSg → Option (Int32 × zSg)) (y1 : Int32) (y2 : Int32) (g : zSg) : Option (Int32 × zSg) := (if y1 ≤ y2 then f_X12_nights_68 g else (zB (f_X12_keep g) (fun v2 g3 => (zB (f_X12_passNight g3) (fun v5 g6 => kk (y1) (y2 + 1) g6)))))
def f_X12_nights_49 : Nat → Int32 → Int32 → zSg → Option (Int32 × zSg)
  | 0, _, _, _ => none
  | n + 1, y1, y2, g => fb_X12_nights_49 (f_X12_nights_49 n) y1 y2 g
set_option maxRecDepth 100000 in
set_option maxHeartbeats 4000000 in
theorem p_X12_nights_49 {sc : zSc} {hp : zHp} {d : Nat} (hD : 10 ≤ d) : ∀ (n : Nat) (y1 : Int32) (y2 : Int32) (g : zSg) (r : Int32 × zSg), f_X12_nights_49 n y1 y2 g = some r → zG d sc hp (zcd zM_X12_nights) 49 [some (.ref 526), some (.int y1), some (.int y2)] [] (gm g) ((some (.int r.1)), gm r.2) := by
  obtain ⟨d, rfl⟩ : ∃ d', d = d' + 1 := ⟨d - 1, by omega⟩
  intro n
  induction n with
  | zero => intro y1 y2 g r h; cases h
  | succ n ih =>
    intro y1 y2 g r h
    replace h : fb_X12_nights_49 (f_X12_nights_49 n) y1 y2 g = some r := h
    unfold fb_X12_nights_49 at h
    refine g_run 2 (pc' := 51) (L' := [some (.ref 526), some (.int y1), some (.int y2)]) (S' := [.int y1, .int y2]) (M' := gm g) rfl ?_
    refine g_icmp (y1 ≤ y2) rfl (t := 68) rfl rfl (fun c1 => ?_) (fun c1 => ?_)
    · replace h := (if_pos c1).symm.trans h
      refine g_forget (L' := [some (.ref 526), none, none]) (And.intro rfl True.intro) ?_
      exact p_X12_nights_68 hD g _ h
    · replace h := (if_neg c1).symm.trans h
      refine g_run 1 (pc' := 55) (L' := [some (.ref 526), some (.int y1), some (.int y2)]) (S' := [.ref 526]) (M' := gm g) rfl ?_
      replace h := zB_of h
      obtain ⟨v2, g3, e4, h⟩ := h
      refine g_inv2 (kd := 1) (p_X12_keep  e4) rfl rfl rfl (by decide) rfl rfl rfl rfl (by omega) (pc' := 58) rfl (S' := []) rfl ?_
      refine g_run 1 (pc' := 59) (L' := [some (.ref 526), some (.int y1), some (.int y2)]) (S' := [.ref 526]) (M' := gm g3) rfl ?_
      replace h := zB_of h
      obtain ⟨v5, g6, e7, h⟩ := h
      refine g_inv2 (kd := 1) (p_X12_passNight  e7) rfl rfl rfl (by decide) rfl rfl rfl rfl (by omega) (pc' := 62) rfl (S' := []) rfl ?_
      refine g_run 2 (pc' := 49) (L' := [some (.ref 526), some (.int y1), some (.int ((y2 + 1)))]) (S' := []) (M' := gm g6) rfl ?_
      exact ih (y1) (y2 + 1) g6 _ h
def f_X12_nights_39 (y1 : Int32) (s0 : Int32) (g : zSg) : Option (Int32 × zSg) := (zB (f_X12_isRefused s0 g) (fun v1 g2 => (if v1 = 0 then f_X12_nights_49 zFu (y1) (0) g2 else some ((-1), g2))))
set_option maxRecDepth 100000 in
set_option maxHeartbeats 4000000 in
theorem p_X12_nights_39 {sc : zSc} {hp : zHp} {d : Nat} (hD : 10 ≤ d) (y1 : Int32) (s0 : Int32) (g : zSg) (r : Int32 × zSg) (h : f_X12_nights_39 y1 s0 g = some r) : zG d sc hp (zcd zM_X12_nights) 39 [some (.ref 526), some (.int y1), none] [.int s0, .ref 526] (gm g) ((some (.int r.1)), gm r.2) := by
  obtain ⟨d, rfl⟩ : ∃ d', d = d' + 1 := ⟨d - 1, by omega⟩
  unfold f_X12_nights_39 at h
  replace h := zB_of h
  obtain ⟨v1, g2, e3, h⟩ := h
  refine g_inv2 (kd := 1) (p_X12_isRefused  e3) rfl rfl rfl (by decide) rfl rfl rfl rfl (by omega) (pc' := 42) rfl (S' := [.int v1]) rfl ?_
  refine g_if (v1 = 0) rfl (t := 47) rfl rfl (fun c4 => ?_) (fun c4 => ?_)
  · replace h := (if_pos c4).symm.trans h
    refine g_run 2 (pc' := 49) (L' := [some (.ref 526), some (.int y1), some (.int 0)]) (S' := []) (M' := gm g2) rfl ?_
    exact p_X12_nights_49 hD zFu (y1) (0) g2 _ h
  · replace h := (if_neg c4).symm.trans h
    refine g_run 1 (pc' := 46) (L' := [some (.ref 526), some (.int y1), none]) (S' := [.int (-1)]) (M' := gm g2) rfl ?_
    cases h
    exact g_ret rfl rfl rfl rfl
def f_X12_nights (x1 : Int32) (g : zSg) : Option (Int32 × zSg) := (if ¬ (gI g 526 27) = 0 then (zB (f_X12_in x1 1 60 g) (fun v2 g3 => (if ¬ v2 = 0 then (zB (f_X12_areNights x1 g3) (fun v6 g7 => (if ¬ v6 = 0 then f_X12_nights_39 (x1) (-1) g7 else f_X12_nights_39 (x1) (4) g7))) else f_X12_nights_39 (x1) (1) g3))) else f_X12_nights_39 (x1) (0) g)
set_option maxRecDepth 100000 in
set_option maxHeartbeats 4000000 in
theorem p_X12_nights {sc : zSc} {hp : zHp} {x1 : Int32} {g : zSg} {r : Int32 × zSg} (h : f_X12_nights x1 g = some r) : zRn sc hp 10 zM_X12_nights [.ref 526, .int x1] (gm g) (some (.int r.1)) (gm r.2) := by
  intro d hD
  obtain ⟨d, rfl⟩ : ∃ d', d = d' + 1 := ⟨d - 1, by omega⟩
  show zG _ sc hp (zcd zM_X12_nights) 0 [some (.ref 526), some (.int x1), none] [] (gm g) _
  unfold f_X12_nights at h
  refine g_run 3 (pc' := 5) (L' := [some (.ref 526), some (.int x1), none]) (S' := [.int ((gI g 526 27)), .ref 526]) (M' := gm g) rfl ?_
  refine g_if (¬ (gI g 526 27) = 0) rfl (t := 12) rfl rfl (fun c1 => ?_) (fun c1 => ?_)
  · replace h := (if_pos c1).symm.trans h
    refine g_run 3 (pc' := 16) (L' := [some (.ref 526), some (.int x1), none]) (S' := [.int 60, .int 1, .int x1, .ref 526]) (M' := gm g) rfl ?_
    replace h := zB_of h
    obtain ⟨v2, g3, e4, h⟩ := h
    refine g_inv2 (kd := 0) (p_X12_in  e4) rfl rfl rfl (by decide) rfl rfl rfl rfl (by omega) (pc' := 19) rfl (S' := [.int v2, .ref 526]) rfl ?_
    refine g_if (¬ v2 = 0) rfl (t := 26) rfl rfl (fun c5 => ?_) (fun c5 => ?_)
    · replace h := (if_pos c5).symm.trans h
      refine g_run 2 (pc' := 28) (L' := [some (.ref 526), some (.int x1), none]) (S' := [.int x1, .ref 526, .ref 526]) (M' := gm g3) rfl ?_
      replace h := zB_of h
      obtain ⟨v6, g7, e8, h⟩ := h
      refine g_inv2 (kd := 1) (p_X12_areNights  e8) rfl rfl rfl (by decide) rfl rfl rfl rfl (by omega) (pc' := 31) rfl (S' := [.int v6, .ref 526]) rfl ?_
      refine g_if (¬ v6 = 0) rfl (t := 38) rfl rfl (fun c9 => ?_) (fun c9 => ?_)
      · replace h := (if_pos c9).symm.trans h
        refine g_run 1 (pc' := 39) (L' := [some (.ref 526), some (.int x1), none]) (S' := [.int (-1), .ref 526]) (M' := gm g7) rfl ?_
        exact p_X12_nights_39 hD (x1) (-1) g7 _ h
      · replace h := (if_neg c9).symm.trans h
        refine g_run 2 (pc' := 39) (L' := [some (.ref 526), some (.int x1), none]) (S' := [.int 4, .ref 526]) (M' := gm g7) rfl ?_
        exact p_X12_nights_39 hD (x1) (4) g7 _ h
    · replace h := (if_neg c5).symm.trans h
      refine g_run 2 (pc' := 39) (L' := [some (.ref 526), some (.int x1), none]) (S' := [.int 1, .ref 526]) (M' := gm g3) rfl ?_
      exact p_X12_nights_39 hD (x1) (1) g3 _ h
  · replace h := (if_neg c1).symm.trans h
    refine g_run 2 (pc' := 39) (L' := [some (.ref 526), some (.int x1), none]) (S' := [.int 0, .ref 526]) (M' := gm g) rfl ?_
    exact p_X12_nights_39 hD (x1) (0) g _ h
def f_X12_hang_41 (y1 : Int32) (s0 : Int32) (g : zSg) : Option (Int32 × zSg) := (zB (f_X12_isRefused s0 g) (fun v1 g2 => (if v1 = 0 then (zB (f_X12_keep g2) (fun v5 g6 => (zB (f_X12_hangs y1 (gsI (gsI g6 543 52 ((gI g6 543 52) - 1)) 543 48 ((gI (gsI g6 543 52 ((gI g6 543 52) - 1)) 543 48) ^^^ (1 <<< (y1 &&& 31))))) (fun v8 g9 => (if v8 = 0 then some (0, g9) else some (1, g9)))))) else some ((-1), g2))))
set_option maxRecDepth 100000 in
set_option maxHeartbeats 4000000 in
theorem p_X12_hang_41 {sc : zSc} {hp : zHp} {d : Nat} (hD : 2 ≤ d) (y1 : Int32) (s0 : Int32) (g : zSg) (r : Int32 × zSg) (h : f_X12_hang_41 y1 s0 g = some r) : zG d sc hp (zcd zM_X12_hang) 41 [some (.ref 526), some (.int y1)] [.int s0, .ref 526] (gm g) ((some (.int r.1)), gm r.2) := by
  obtain ⟨d, rfl⟩ : ∃ d', d = d' + 1 := ⟨d - 1, by omega⟩
  unfold f_X12_hang_41 at h
  replace h := zB_of h
  obtain ⟨v1, g2, e3, h⟩ := h
  refine g_inv2 (kd := 1) (p_X12_isRefused  e3) rfl rfl rfl (by decide) rfl rfl rfl rfl (by omega) (pc' := 44) rfl (S' := [.int v1]) rfl ?_
  refine g_if (v1 = 0) rfl (t := 49) rfl rfl (fun c4 => ?_) (fun c4 => ?_)
  · replace h := (if_pos c4).symm.trans h
    refine g_run 1 (pc' := 50) (L' := [some (.ref 526), some (.int y1)]) (S' := [.ref 526]) (M' := gm g2) rfl ?_
    replace h := zB_of h
    obtain ⟨v5, g6, e7, h⟩ := h
    refine g_inv2 (kd := 1) (p_X12_keep  e7) rfl rfl rfl (by decide) rfl rfl rfl rfl (by omega) (pc' := 53) rfl (S' := []) rfl ?_
    refine g_run 20 (pc' := 79) (L' := [some (.ref 526), some (.int y1)]) (S' := [.int y1, .ref 526]) (M' := gm (gsI (gsI g6 543 52 ((gI g6 543 52) - 1)) 543 48 ((gI (gsI g6 543 52 ((gI g6 543 52) - 1)) 543 48) ^^^ (1 <<< (y1 &&& 31))))) rfl ?_
    replace h := zB_of h
    obtain ⟨v8, g9, e10, h⟩ := h
    refine g_inv2 (kd := 1) (p_X12_hangs  e10) rfl rfl rfl (by decide) rfl rfl rfl rfl (by omega) (pc' := 82) rfl (S' := [.int v8]) rfl ?_
    refine g_if (v8 = 0) rfl (t := 89) rfl rfl (fun c11 => ?_) (fun c11 => ?_)
    · replace h := (if_pos c11).symm.trans h
      refine g_run 1 (pc' := 90) (L' := [some (.ref 526), some (.int y1)]) (S' := [.int 0]) (M' := gm g9) rfl ?_
      cases h
      exact g_ret rfl rfl rfl rfl
    · replace h := (if_neg c11).symm.trans h
      refine g_run 2 (pc' := 90) (L' := [some (.ref 526), some (.int y1)]) (S' := [.int 1]) (M' := gm g9) rfl ?_
      cases h
      exact g_ret rfl rfl rfl rfl
  · replace h := (if_neg c4).symm.trans h
    refine g_run 1 (pc' := 48) (L' := [some (.ref 526), some (.int y1)]) (S' := [.int (-1)]) (M' := gm g2) rfl ?_
    cases h
    exact g_ret rfl rfl rfl rfl
def f_X12_hang (x1 : Int32) (g : zSg) : Option (Int32 × zSg) := (zB (f_X12_isSecret x1 g) (fun v1 g2 => (if ¬ v1 = 0 then (zB (f_X12_isRaw x1 g2) (fun v5 g6 => (if ¬ v5 = 0 then (if 1 ≤ (gI g6 543 52) then f_X12_hang_41 (x1) (-1) g6 else f_X12_hang_41 (x1) (3) g6) else f_X12_hang_41 (x1) (2) g6))) else f_X12_hang_41 (x1) (0) g2)))
set_option maxRecDepth 100000 in
set_option maxHeartbeats 4000000 in
theorem p_X12_hang {sc : zSc} {hp : zHp} {x1 : Int32} {g : zSg} {r : Int32 × zSg} (h : f_X12_hang x1 g = some r) : zRn sc hp 2 zM_X12_hang [.ref 526, .int x1] (gm g) (some (.int r.1)) (gm r.2) := by
  intro d hD
  obtain ⟨d, rfl⟩ : ∃ d', d = d' + 1 := ⟨d - 1, by omega⟩
  show zG _ sc hp (zcd zM_X12_hang) 0 [some (.ref 526), some (.int x1)] [] (gm g) _
  unfold f_X12_hang at h
  refine g_run 3 (pc' := 3) (L' := [some (.ref 526), some (.int x1)]) (S' := [.int x1, .ref 526, .ref 526]) (M' := gm g) rfl ?_
  replace h := zB_of h
  obtain ⟨v1, g2, e3, h⟩ := h
  refine g_inv2 (kd := 1) (p_X12_isSecret  e3) rfl rfl rfl (by decide) rfl rfl rfl rfl (by omega) (pc' := 6) rfl (S' := [.int v1, .ref 526]) rfl ?_
  refine g_if (¬ v1 = 0) rfl (t := 13) rfl rfl (fun c4 => ?_) (fun c4 => ?_)
  · replace h := (if_pos c4).symm.trans h
    refine g_run 2 (pc' := 15) (L' := [some (.ref 526), some (.int x1)]) (S' := [.int x1, .ref 526, .ref 526]) (M' := gm g2) rfl ?_
    replace h := zB_of h
    obtain ⟨v5, g6, e7, h⟩ := h
    refine g_inv2 (kd := 1) (p_X12_isRaw  e7) rfl rfl rfl (by decide) rfl rfl rfl rfl (by omega) (pc' := 18) rfl (S' := [.int v5, .ref 526]) rfl ?_
    refine g_if (¬ v5 = 0) rfl (t := 25) rfl rfl (fun c8 => ?_) (fun c8 => ?_)
    · replace h := (if_pos c8).symm.trans h
      refine g_run 5 (pc' := 33) (L' := [some (.ref 526), some (.int x1)]) (S' := [.int 1, .int ((gI g6 543 52)), .ref 526]) (M' := gm g6) rfl ?_
      refine g_icmp (1 ≤ (gI g6 543 52)) rfl (t := 40) rfl rfl (fun c9 => ?_) (fun c9 => ?_)
      · replace h := (if_pos c9).symm.trans h
        refine g_run 1 (pc' := 41) (L' := [some (.ref 526), some (.int x1)]) (S' := [.int (-1), .ref 526]) (M' := gm g6) rfl ?_
        exact p_X12_hang_41 hD (x1) (-1) g6 _ h
      · replace h := (if_neg c9).symm.trans h
        refine g_run 2 (pc' := 41) (L' := [some (.ref 526), some (.int x1)]) (S' := [.int 3, .ref 526]) (M' := gm g6) rfl ?_
        exact p_X12_hang_41 hD (x1) (3) g6 _ h
    · replace h := (if_neg c8).symm.trans h
      refine g_run 2 (pc' := 41) (L' := [some (.ref 526), some (.int x1)]) (S' := [.int 2, .ref 526]) (M' := gm g6) rfl ?_
      exact p_X12_hang_41 hD (x1) (2) g6 _ h
  · replace h := (if_neg c4).symm.trans h
    refine g_run 2 (pc' := 41) (L' := [some (.ref 526), some (.int x1)]) (S' := [.int 0, .ref 526]) (M' := gm g2) rfl ?_
    exact p_X12_hang_41 hD (x1) (0) g2 _ h
def f_X12_veers_41 (y1 : Int32) (s0 : Int32) (g : zSg) : Option (Int32 × zSg) := (zB (f_X12_isRefused s0 g) (fun v1 g2 => (if v1 = 0 then (zB (f_X12_keep g2) (fun v5 g6 => some ((gI g6 543 50), (gsI g6 543 50 y1)))) else some ((-1), g2))))
set_option maxRecDepth 100000 in
set_option maxHeartbeats 4000000 in
theorem p_X12_veers_41 {sc : zSc} {hp : zHp} {d : Nat} (hD : 1 ≤ d) (y1 : Int32) (s0 : Int32) (g : zSg) (r : Int32 × zSg) (h : f_X12_veers_41 y1 s0 g = some r) : zG d sc hp (zcd zM_X12_veers) 41 [some (.ref 526), some (.int y1), none] [.int s0, .ref 526] (gm g) ((some (.int r.1)), gm r.2) := by
  obtain ⟨d, rfl⟩ : ∃ d', d = d' + 1 := ⟨d - 1, by omega⟩
  unfold f_X12_veers_41 at h
  replace h := zB_of h
  obtain ⟨v1, g2, e3, h⟩ := h
  refine g_inv2 (kd := 1) (p_X12_isRefused  e3) rfl rfl rfl (by decide) rfl rfl rfl rfl (by omega) (pc' := 44) rfl (S' := [.int v1]) rfl ?_
  refine g_if (v1 = 0) rfl (t := 49) rfl rfl (fun c4 => ?_) (fun c4 => ?_)
  · replace h := (if_pos c4).symm.trans h
    refine g_run 1 (pc' := 50) (L' := [some (.ref 526), some (.int y1), none]) (S' := [.ref 526]) (M' := gm g2) rfl ?_
    replace h := zB_of h
    obtain ⟨v5, g6, e7, h⟩ := h
    refine g_inv2 (kd := 1) (p_X12_keep  e7) rfl rfl rfl (by decide) rfl rfl rfl rfl (by omega) (pc' := 53) rfl (S' := []) rfl ?_
    refine g_run 11 (pc' := 70) (L' := [some (.ref 526), some (.int y1), some (.int ((gI g6 543 50)))]) (S' := [.int ((gI g6 543 50))]) (M' := gm (gsI g6 543 50 y1)) rfl ?_
    cases h
    exact g_ret rfl rfl rfl rfl
  · replace h := (if_neg c4).symm.trans h
    refine g_run 1 (pc' := 48) (L' := [some (.ref 526), some (.int y1), none]) (S' := [.int (-1)]) (M' := gm g2) rfl ?_
    cases h
    exact g_ret rfl rfl rfl rfl
def f_X12_veers (x1 : Int32) (g : zSg) : Option (Int32 × zSg) := (if ¬ (gI g 526 27) = 0 then (zB (f_X12_in x1 0 3 g) (fun v2 g3 => (if ¬ v2 = 0 then (if ¬ x1 = (gI g3 543 50) then f_X12_veers_41 (x1) (-1) g3 else f_X12_veers_41 (x1) (2) g3) else f_X12_veers_41 (x1) (1) g3))) else f_X12_veers_41 (x1) (0) g)
set_option maxRecDepth 100000 in
set_option maxHeartbeats 4000000 in
theorem p_X12_veers {sc : zSc} {hp : zHp} {x1 : Int32} {g : zSg} {r : Int32 × zSg} (h : f_X12_veers x1 g = some r) : zRn sc hp 1 zM_X12_veers [.ref 526, .int x1] (gm g) (some (.int r.1)) (gm r.2) := by
  intro d hD
  obtain ⟨d, rfl⟩ : ∃ d', d = d' + 1 := ⟨d - 1, by omega⟩
  show zG _ sc hp (zcd zM_X12_veers) 0 [some (.ref 526), some (.int x1), none] [] (gm g) _
  unfold f_X12_veers at h
  refine g_run 3 (pc' := 5) (L' := [some (.ref 526), some (.int x1), none]) (S' := [.int ((gI g 526 27)), .ref 526]) (M' := gm g) rfl ?_
  refine g_if (¬ (gI g 526 27) = 0) rfl (t := 12) rfl rfl (fun c1 => ?_) (fun c1 => ?_)
  · replace h := (if_pos c1).symm.trans h
    refine g_run 3 (pc' := 15) (L' := [some (.ref 526), some (.int x1), none]) (S' := [.int 3, .int 0, .int x1, .ref 526]) (M' := gm g) rfl ?_
    replace h := zB_of h
    obtain ⟨v2, g3, e4, h⟩ := h
    refine g_inv2 (kd := 0) (p_X12_in  e4) rfl rfl rfl (by decide) rfl rfl rfl rfl (by omega) (pc' := 18) rfl (S' := [.int v2, .ref 526]) rfl ?_
    refine g_if (¬ v2 = 0) rfl (t := 25) rfl rfl (fun c5 => ?_) (fun c5 => ?_)
    · replace h := (if_pos c5).symm.trans h
      refine g_run 5 (pc' := 33) (L' := [some (.ref 526), some (.int x1), none]) (S' := [.int ((gI g3 543 50)), .int x1, .ref 526]) (M' := gm g3) rfl ?_
      refine g_icmp (¬ x1 = (gI g3 543 50)) rfl (t := 40) rfl rfl (fun c6 => ?_) (fun c6 => ?_)
      · replace h := (if_pos c6).symm.trans h
        refine g_run 1 (pc' := 41) (L' := [some (.ref 526), some (.int x1), none]) (S' := [.int (-1), .ref 526]) (M' := gm g3) rfl ?_
        exact p_X12_veers_41 hD (x1) (-1) g3 _ h
      · replace h := (if_neg c6).symm.trans h
        refine g_run 2 (pc' := 41) (L' := [some (.ref 526), some (.int x1), none]) (S' := [.int 2, .ref 526]) (M' := gm g3) rfl ?_
        exact p_X12_veers_41 hD (x1) (2) g3 _ h
    · replace h := (if_neg c5).symm.trans h
      refine g_run 2 (pc' := 41) (L' := [some (.ref 526), some (.int x1), none]) (S' := [.int 1, .ref 526]) (M' := gm g3) rfl ?_
      exact p_X12_veers_41 hD (x1) (1) g3 _ h
  · replace h := (if_neg c1).symm.trans h
    refine g_run 2 (pc' := 41) (L' := [some (.ref 526), some (.int x1), none]) (S' := [.int 0, .ref 526]) (M' := gm g) rfl ?_
    exact p_X12_veers_41 hD (x1) (0) g _ h
def f_X12_moves_59 (y1 : Int32) (y2 : Int32) (s0 : Int32) (g : zSg) : Option (Int32 × zSg) := (zB (f_X12_isRefused s0 g) (fun v1 g2 => (if v1 = 0 then (zB (f_X12_keep g2) (fun v5 g6 => (if zib (0 + y1) 235 = true then (zB (f_X12_beside (gI (gsI g6 543 52 ((gI g6 543 52) - 2)) 543 (ix (0 + y1))) y2 (gsI g6 543 52 ((gI g6 543 52) - 2))) (fun v9 g10 => (if zib (0 + y1) 235 = true then (if zib (0 + y1) 235 = true then some ((gI (gsI g10 (543) (ix (0 + y1)) v9) 543 (ix (0 + y1))), (gsI g10 (543) (ix (0 + y1)) v9)) else none) else none))) else none))) else some ((-1), g2))))
set_option maxRecDepth 100000 in
set_option maxHeartbeats 4000000 in
theorem p_X12_moves_59 {sc : zSc} {hp : zHp} {d : Nat} (hD : 2 ≤ d) (y1 : Int32) (y2 : Int32) (s0 : Int32) (g : zSg) (r : Int32 × zSg) (h : f_X12_moves_59 y1 y2 s0 g = some r) : zG d sc hp (zcd zM_X12_moves) 59 [some (.ref 526), some (.int y1), some (.int y2)] [.int s0, .ref 526] (gm g) ((some (.int r.1)), gm r.2) := by
  obtain ⟨d, rfl⟩ : ∃ d', d = d' + 1 := ⟨d - 1, by omega⟩
  unfold f_X12_moves_59 at h
  replace h := zB_of h
  obtain ⟨v1, g2, e3, h⟩ := h
  refine g_inv2 (kd := 1) (p_X12_isRefused  e3) rfl rfl rfl (by decide) rfl rfl rfl rfl (by omega) (pc' := 62) rfl (S' := [.int v1]) rfl ?_
  refine g_if (v1 = 0) rfl (t := 67) rfl rfl (fun c4 => ?_) (fun c4 => ?_)
  · replace h := (if_pos c4).symm.trans h
    refine g_run 1 (pc' := 68) (L' := [some (.ref 526), some (.int y1), some (.int y2)]) (S' := [.ref 526]) (M' := gm g2) rfl ?_
    replace h := zB_of h
    obtain ⟨v5, g6, e7, h⟩ := h
    refine g_inv2 (kd := 1) (p_X12_keep  e7) rfl rfl rfl (by decide) rfl rfl rfl rfl (by omega) (pc' := 71) rfl (S' := []) rfl ?_
    refine g_run 19 (pc' := 97) (L' := [some (.ref 526), some (.int y1), some (.int y2)]) (S' := [.int ((0 + y1)), .ref 543, .ref 526, .int ((0 + y1)), .ref 543]) (M' := gm (gsI g6 543 52 ((gI g6 543 52) - 2))) rfl ?_
    by_cases c8 : zib (0 + y1) 235 = true
    case neg => exact nomatch ((if_neg c8).symm.trans h)
    replace h := (if_pos c8).symm.trans h
    refine g_iald rfl (a := 543) rfl c8 ?_
    refine g_run 1 (pc' := 99) (L' := [some (.ref 526), some (.int y1), some (.int y2)]) (S' := [.int y2, .int ((gI (gsI g6 543 52 ((gI g6 543 52) - 2)) 543 (ix (0 + y1)))), .ref 526, .int ((0 + y1)), .ref 543]) (M' := gm (gsI g6 543 52 ((gI g6 543 52) - 2))) rfl ?_
    replace h := zB_of h
    obtain ⟨v9, g10, e11, h⟩ := h
    refine g_inv2 (kd := 1) (p_X12_beside  e11) rfl rfl rfl (by decide) rfl rfl rfl rfl (by omega) (pc' := 102) rfl (S' := [.int v9, .int ((0 + y1)), .ref 543]) rfl ?_
    by_cases c12 : zib (0 + y1) 235 = true
    case neg => exact nomatch ((if_neg c12).symm.trans h)
    replace h := (if_pos c12).symm.trans h
    refine g_iast rfl (a := 543) rfl c12 ?_
    refine g_run 5 (pc' := 110) (L' := [some (.ref 526), some (.int y1), some (.int y2)]) (S' := [.int ((0 + y1)), .ref 543]) (M' := gm (gsI g10 (543) (ix (0 + y1)) v9)) rfl ?_
    by_cases c13 : zib (0 + y1) 235 = true
    case neg => exact nomatch ((if_neg c13).symm.trans h)
    replace h := (if_pos c13).symm.trans h
    refine g_iald rfl (a := 543) rfl c13 ?_
    cases h
    exact g_ret rfl rfl rfl rfl
  · replace h := (if_neg c4).symm.trans h
    refine g_run 1 (pc' := 66) (L' := [some (.ref 526), some (.int y1), some (.int y2)]) (S' := [.int (-1)]) (M' := gm g2) rfl ?_
    cases h
    exact g_ret rfl rfl rfl rfl
def f_X12_moves_39 (y1 : Int32) (y2 : Int32) (g : zSg) : Option (Int32 × zSg) := f_X12_moves_59 (y1) (y2) (1) g
set_option maxRecDepth 100000 in
set_option maxHeartbeats 4000000 in
theorem p_X12_moves_39 {sc : zSc} {hp : zHp} {d : Nat} (hD : 2 ≤ d) (y1 : Int32) (y2 : Int32) (g : zSg) (r : Int32 × zSg) (h : f_X12_moves_39 y1 y2 g = some r) : zG d sc hp (zcd zM_X12_moves) 39 [some (.ref 526), some (.int y1), some (.int y2)] [.ref 526] (gm g) ((some (.int r.1)), gm r.2) := by
  obtain ⟨d, rfl⟩ : ∃ d', d = d' + 1 := ⟨d - 1, by omega⟩
  unfold f_X12_moves_39 at h
  refine g_run 2 (pc' := 59) (L' := [some (.ref 526), some (.int y1), some (.int y2)]) (S' := [.int 1, .ref 526]) (M' := gm g) rfl ?_
  exact p_X12_moves_59 hD (y1) (y2) (1) g _ h
def f_X12_moves (x1 : Int32) (x2 : Int32) (g : zSg) : Option (Int32 × zSg) := (zB (f_X12_isPerson x1 g) (fun v1 g2 => (if ¬ v1 = 0 then (zB (f_X12_in x2 0 3 g2) (fun v5 g6 => (if v5 = 0 then f_X12_moves_39 (x1) (x2) g6 else (if zib (0 + x1) 235 = true then (zB (f_X12_beside (gI g6 543 (ix (0 + x1))) x2 g6) (fun v10 g11 => (if ¬ v10 = (-1) then (if 2 ≤ (gI g11 543 52) then f_X12_moves_59 (x1) (x2) (-1) g11 else f_X12_moves_59 (x1) (x2) (3) g11) else f_X12_moves_39 (x1) (x2) g11))) else none)))) else f_X12_moves_59 (x1) (x2) (0) g2)))
set_option maxRecDepth 100000 in
set_option maxHeartbeats 4000000 in
theorem p_X12_moves {sc : zSc} {hp : zHp} {x1 : Int32} {x2 : Int32} {g : zSg} {r : Int32 × zSg} (h : f_X12_moves x1 x2 g = some r) : zRn sc hp 2 zM_X12_moves [.ref 526, .int x1, .int x2] (gm g) (some (.int r.1)) (gm r.2) := by
  intro d hD
  obtain ⟨d, rfl⟩ : ∃ d', d = d' + 1 := ⟨d - 1, by omega⟩
  show zG _ sc hp (zcd zM_X12_moves) 0 [some (.ref 526), some (.int x1), some (.int x2)] [] (gm g) _
  unfold f_X12_moves at h
  refine g_run 3 (pc' := 3) (L' := [some (.ref 526), some (.int x1), some (.int x2)]) (S' := [.int x1, .ref 526, .ref 526]) (M' := gm g) rfl ?_
  replace h := zB_of h
  obtain ⟨v1, g2, e3, h⟩ := h
  refine g_inv2 (kd := 1) (p_X12_isPerson  e3) rfl rfl rfl (by decide) rfl rfl rfl rfl (by omega) (pc' := 6) rfl (S' := [.int v1, .ref 526]) rfl ?_
  refine g_if (¬ v1 = 0) rfl (t := 13) rfl rfl (fun c4 => ?_) (fun c4 => ?_)
  · replace h := (if_pos c4).symm.trans h
    refine g_run 3 (pc' := 16) (L' := [some (.ref 526), some (.int x1), some (.int x2)]) (S' := [.int 3, .int 0, .int x2, .ref 526]) (M' := gm g2) rfl ?_
    replace h := zB_of h
    obtain ⟨v5, g6, e7, h⟩ := h
    refine g_inv2 (kd := 0) (p_X12_in  e7) rfl rfl rfl (by decide) rfl rfl rfl rfl (by omega) (pc' := 19) rfl (S' := [.int v5, .ref 526]) rfl ?_
    refine g_if (v5 = 0) rfl (t := 39) rfl rfl (fun c8 => ?_) (fun c8 => ?_)
    · replace h := (if_pos c8).symm.trans h
      exact p_X12_moves_39 hD (x1) (x2) g6 _ h
    · replace h := (if_neg c8).symm.trans h
      refine g_run 6 (pc' := 30) (L' := [some (.ref 526), some (.int x1), some (.int x2)]) (S' := [.int ((0 + x1)), .ref 543, .ref 526, .ref 526]) (M' := gm g6) rfl ?_
      by_cases c9 : zib (0 + x1) 235 = true
      case neg => exact nomatch ((if_neg c9).symm.trans h)
      replace h := (if_pos c9).symm.trans h
      refine g_iald rfl (a := 543) rfl c9 ?_
      refine g_run 1 (pc' := 32) (L' := [some (.ref 526), some (.int x1), some (.int x2)]) (S' := [.int x2, .int ((gI g6 543 (ix (0 + x1)))), .ref 526, .ref 526]) (M' := gm g6) rfl ?_
      replace h := zB_of h
      obtain ⟨v10, g11, e12, h⟩ := h
      refine g_inv2 (kd := 1) (p_X12_beside  e12) rfl rfl rfl (by decide) rfl rfl rfl rfl (by omega) (pc' := 35) rfl (S' := [.int v10, .ref 526]) rfl ?_
      refine g_run 1 (pc' := 36) (L' := [some (.ref 526), some (.int x1), some (.int x2)]) (S' := [.int (-1), .int v10, .ref 526]) (M' := gm g11) rfl ?_
      refine g_icmp (¬ v10 = (-1)) rfl (t := 43) rfl rfl (fun c13 => ?_) (fun c13 => ?_)
      · replace h := (if_pos c13).symm.trans h
        refine g_run 5 (pc' := 51) (L' := [some (.ref 526), some (.int x1), some (.int x2)]) (S' := [.int 2, .int ((gI g11 543 52)), .ref 526]) (M' := gm g11) rfl ?_
        refine g_icmp (2 ≤ (gI g11 543 52)) rfl (t := 58) rfl rfl (fun c14 => ?_) (fun c14 => ?_)
        · replace h := (if_pos c14).symm.trans h
          refine g_run 1 (pc' := 59) (L' := [some (.ref 526), some (.int x1), some (.int x2)]) (S' := [.int (-1), .ref 526]) (M' := gm g11) rfl ?_
          exact p_X12_moves_59 hD (x1) (x2) (-1) g11 _ h
        · replace h := (if_neg c14).symm.trans h
          refine g_run 2 (pc' := 59) (L' := [some (.ref 526), some (.int x1), some (.int x2)]) (S' := [.int 3, .ref 526]) (M' := gm g11) rfl ?_
          exact p_X12_moves_59 hD (x1) (x2) (3) g11 _ h
      · replace h := (if_neg c13).symm.trans h
        exact p_X12_moves_39 hD (x1) (x2) g11 _ h
  · replace h := (if_neg c4).symm.trans h
    refine g_run 2 (pc' := 59) (L' := [some (.ref 526), some (.int x1), some (.int x2)]) (S' := [.int 0, .ref 526]) (M' := gm g2) rfl ?_
    exact p_X12_moves_59 hD (x1) (x2) (0) g2 _ h
