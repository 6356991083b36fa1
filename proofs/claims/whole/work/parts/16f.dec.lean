/-! ===== decompiled functions (by program), 5 ===== -/
def f_X12_knows (x1 : Int32) (x2 : Int32) (g : zSg) : Option (Int32 × zSg) := (zB (f_X12_of x2 0 g) (fun v1 g2 => (if v1 = x1 then some (1, g2) else (zB (f_X12_breathOf x1 x2 g2) (fun v5 g6 => (zB (f_X12_ofPerson x1 2 g6) (fun v8 g9 => (if v5 < v8 then some (0, g9) else some (1, g9)))))))))
set_option maxRecDepth 100000 in
set_option maxHeartbeats 4000000 in
theorem p_X12_knows {sc : zSc} {hp : zHp} {x1 : Int32} {x2 : Int32} {g : zSg} {r : Int32 × zSg} (h : f_X12_knows x1 x2 g = some r) : zRn sc hp 1 zM_X12_knows [.ref 526, .int x1, .int x2] (gm g) (some (.int r.1)) (gm r.2) := by
  intro d hD
  obtain ⟨d, rfl⟩ : ∃ d', d = d' + 1 := ⟨d - 1, by omega⟩
  show zG _ sc hp (zcd zM_X12_knows) 0 [some (.ref 526), some (.int x1), some (.int x2)] [] (gm g) _
  unfold f_X12_knows at h
  refine g_run 3 (pc' := 3) (L' := [some (.ref 526), some (.int x1), some (.int x2)]) (S' := [.int 0, .int x2, .ref 526]) (M' := gm g) rfl ?_
  replace h := zB_of h
  obtain ⟨v1, g2, e3, h⟩ := h
  refine g_inv2 (kd := 1) (p_X12_of  e3) rfl rfl rfl (by decide) rfl rfl rfl rfl (by omega) (pc' := 6) rfl (S' := [.int v1]) rfl ?_
  refine g_run 1 (pc' := 7) (L' := [some (.ref 526), some (.int x1), some (.int x2)]) (S' := [.int x1, .int v1]) (M' := gm g2) rfl ?_
  refine g_icmp (v1 = x1) rfl (t := 25) rfl rfl (fun c4 => ?_) (fun c4 => ?_)
  · replace h := (if_pos c4).symm.trans h
    refine g_run 2 (pc' := 30) (L' := [some (.ref 526), some (.int x1), some (.int x2)]) (S' := [.int 1]) (M' := gm g2) rfl ?_
    cases h
    exact g_ret rfl rfl rfl rfl
  · replace h := (if_neg c4).symm.trans h
    refine g_run 3 (pc' := 13) (L' := [some (.ref 526), some (.int x1), some (.int x2)]) (S' := [.int x2, .int x1, .ref 526]) (M' := gm g2) rfl ?_
    replace h := zB_of h
    obtain ⟨v5, g6, e7, h⟩ := h
    refine g_inv2 (kd := 1) (p_X12_breathOf  e7) rfl rfl rfl (by decide) rfl rfl rfl rfl (by omega) (pc' := 16) rfl (S' := [.int v5]) rfl ?_
    refine g_run 3 (pc' := 19) (L' := [some (.ref 526), some (.int x1), some (.int x2)]) (S' := [.int 2, .int x1, .ref 526, .int v5]) (M' := gm g6) rfl ?_
    replace h := zB_of h
    obtain ⟨v8, g9, e10, h⟩ := h
    refine g_inv2 (kd := 1) (p_X12_ofPerson  e10) rfl rfl rfl (by decide) rfl rfl rfl rfl (by omega) (pc' := 22) rfl (S' := [.int v8, .int v5]) rfl ?_
    refine g_icmp (v5 < v8) rfl (t := 29) rfl rfl (fun c11 => ?_) (fun c11 => ?_)
    · replace h := (if_pos c11).symm.trans h
      refine g_run 1 (pc' := 30) (L' := [some (.ref 526), some (.int x1), some (.int x2)]) (S' := [.int 0]) (M' := gm g9) rfl ?_
      cases h
      exact g_ret rfl rfl rfl rfl
    · replace h := (if_neg c11).symm.trans h
      refine g_run 2 (pc' := 30) (L' := [some (.ref 526), some (.int x1), some (.int x2)]) (S' := [.int 1]) (M' := gm g9) rfl ?_
      cases h
      exact g_ret rfl rfl rfl rfl
def f_X12_knownTo_29 (k4 : Int32 → Int32 → Int32 → zSg → Option (Int32 × zSg)) (y1 : Int32) (y3 : Int32) (s0 : Int32) (s1 : Int32) (g : zSg) : Option (Int32 × zSg) := k4 (y1) (s1 ||| s0) (y3 + 1) g
set_option maxRecDepth 100000 in
set_option maxHeartbeats 4000000 in
theorem p_X12_knownTo_29 {sc : zSc} {hp : zHp} {d : Nat} (hD : 2 ≤ d) (k4 : Int32 → Int32 → Int32 → zSg → Option (Int32 × zSg)) (hk4 : ∀ (y1 : Int32) (y2 : Int32) (y3 : Int32) (g : zSg) (r : Int32 × zSg), k4 y1 y2 y3 g = some r → zG d sc hp (zcd zM_X12_knownTo) 4 [some (.ref 526), some (.int y1), some (.int y2), some (.int y3)] [] (gm g) ((some (.int r.1)), gm r.2)) (y1 : Int32) (y3 : Int32) (s0 : Int32) (s1 : Int32) (g : zSg) (r : Int32 × zSg) (h : f_X12_knownTo_29 k4 y1 y3 s0 s1 g = some r) : zG d sc hp (zcd zM_X12_knownTo) 29 [some (.ref 526), some (.int y1), none, some (.int y3)] [.int s0, .int s1] (gm g) ((some (.int r.1)), gm r.2) := by
  obtain ⟨d, rfl⟩ : ∃ d', d = d' + 1 := ⟨d - 1, by omega⟩
  unfold f_X12_knownTo_29 at h
  refine g_run 4 (pc' := 4) (L' := [some (.ref 526), some (.int y1), some (.int ((s1 ||| s0))), some (.int ((y3 + 1)))]) (S' := []) (M' := gm g) rfl ?_
  exact hk4 (y1) (s1 ||| s0) (y3 + 1) g _ h
def fb_X12_knownTo_4 (kk : Int32 → Int32 → Int32 → zSg → Option (Int32 × zSg)) (y1 : Int32) (y2 : Int32) (y3 : Int32) (g : zSg) : Option (Int32 × zSg) := (if (gI g 526 26) ≤ y3 then some (y2, g) else (zB (f_X12_knows y1 y3 g) (fun v2 g3 => (if v2 = 0 then f_X12_knownTo_29 kk (y1) (y3) (0) (y2) g3 else f_X12_knownTo_29 kk (y1) (y3) (1 <<< (y3 &&& 31)) (y2) g3))))
def f_X12_knownTo_4 : Nat → Int32 → Int32 → Int32 → zSg → Option (Int32 × zSg)
  | 0, _, _, _, _ => none
  | n + 1, y1, y2, y3, g => fb_X12_knownTo_4 (f_X12_knownTo_4 n) y1 y2 y3 g
set_option maxRecDepth 100000 in
set_option maxHeartbeats 4000000 in
theorem p_X12_knownTo_4 {sc : zSc} {hp : zHp} {d : Nat} (hD : 2 ≤ d) : ∀ (n : Nat) (y1 : Int32) (y2 : Int32) (y3 : Int32) (g : zSg) (r : Int32 × zSg), f_X12_knownTo_4 n y1 y2 y3 g = some r → zG d sc hp (zcd zM_X12_knownTo) 4 [some (.ref 526), some (.int y1), some (.int y2), some (.int y3)] [] (gm g) ((some (.int r.1)), gm r.2) := by
  obtain ⟨d, rfl⟩ : ∃ d', d = d' + 1 := ⟨d - 1, by omega⟩
  intro n
  induction n with
  | zero => intro y1 y2 y3 g r h; cases h
  | succ n ih =>
    intro y1 y2 y3 g r h
    replace h : fb_X12_knownTo_4 (f_X12_knownTo_4 n) y1 y2 y3 g = some r := h
    unfold fb_X12_knownTo_4 at h
    refine g_run 3 (pc' := 9) (L' := [some (.ref 526), some (.int y1), some (.int y2), some (.int y3)]) (S' := [.int ((gI g 526 26)), .int y3]) (M' := gm g) rfl ?_
    refine g_icmp ((gI g 526 26) ≤ y3) rfl (t := 37) rfl rfl (fun c1 => ?_) (fun c1 => ?_)
    · replace h := (if_pos c1).symm.trans h
      refine g_run 1 (pc' := 38) (L' := [some (.ref 526), some (.int y1), some (.int y2), some (.int y3)]) (S' := [.int y2]) (M' := gm g) rfl ?_
      cases h
      exact g_ret rfl rfl rfl rfl
    · replace h := (if_neg c1).symm.trans h
      refine g_run 4 (pc' := 16) (L' := [some (.ref 526), some (.int y1), some (.int y2), some (.int y3)]) (S' := [.int y3, .int y1, .ref 526, .int y2]) (M' := gm g) rfl ?_
      replace h := zB_of h
      obtain ⟨v2, g3, e4, h⟩ := h
      refine g_inv2 (kd := 1) (p_X12_knows  e4) rfl rfl rfl (by decide) rfl rfl rfl rfl (by omega) (pc' := 19) rfl (S' := [.int v2, .int y2]) rfl ?_
      refine g_if (v2 = 0) rfl (t := 28) rfl rfl (fun c5 => ?_) (fun c5 => ?_)
      · replace h := (if_pos c5).symm.trans h
        refine g_run 1 (pc' := 29) (L' := [some (.ref 526), some (.int y1), some (.int y2), some (.int y3)]) (S' := [.int 0, .int y2]) (M' := gm g3) rfl ?_
        refine g_forget (L' := [some (.ref 526), some (.int y1), none, some (.int y3)]) (And.intro rfl (And.intro rfl (And.intro rfl True.intro))) ?_
        exact p_X12_knownTo_29 hD (f_X12_knownTo_4 n) ih (y1) (y3) (0) (y2) g3 _ h
      · replace h := (if_neg c5).symm.trans h
        refine g_run 4 (pc' := 29) (L' := [some (.ref 526), some (.int y1), some (.int y2), some (.int y3)]) (S' := [.int ((1 <<< (y3 &&& 31))), .int y2]) (M' := gm g3) rfl ?_
        refine g_forget (L' := [some (.ref 526), some (.int y1), none, some (.int y3)]) (And.intro rfl (And.intro rfl (And.intro rfl True.intro))) ?_
        exact p_X12_knownTo_29 hD (f_X12_knownTo_4 n) ih (y1) (y3) (1 <<< (y3 &&& 31)) (y2) g3 _ h
def f_X12_knownTo (x1 : Int32) (g : zSg) : Option (Int32 × zSg) := f_X12_knownTo_4 zFu (x1) (0) (0) g
set_option maxRecDepth 100000 in
set_option maxHeartbeats 4000000 in
theorem p_X12_knownTo {sc : zSc} {hp : zHp} {x1 : Int32} {g : zSg} {r : Int32 × zSg} (h : f_X12_knownTo x1 g = some r) : zRn sc hp 2 zM_X12_knownTo [.ref 526, .int x1] (gm g) (some (.int r.1)) (gm r.2) := by
  intro d hD
  obtain ⟨d, rfl⟩ : ∃ d', d = d' + 1 := ⟨d - 1, by omega⟩
  show zG _ sc hp (zcd zM_X12_knownTo) 0 [some (.ref 526), some (.int x1), none, none] [] (gm g) _
  unfold f_X12_knownTo at h
  refine g_run 4 (pc' := 4) (L' := [some (.ref 526), some (.int x1), some (.int 0), some (.int 0)]) (S' := []) (M' := gm g) rfl ?_
  exact p_X12_knownTo_4 hD zFu (x1) (0) (0) g _ h
def f_X12_knownOf_29 (k4 : Int32 → Int32 → Int32 → zSg → Option (Int32 × zSg)) (y1 : Int32) (y3 : Int32) (s0 : Int32) (s1 : Int32) (g : zSg) : Option (Int32 × zSg) := k4 (y1) (s1 ||| s0) (y3 + 1) g
set_option maxRecDepth 100000 in
set_option maxHeartbeats 4000000 in
theorem p_X12_knownOf_29 {sc : zSc} {hp : zHp} {d : Nat} (hD : 2 ≤ d) (k4 : Int32 → Int32 → Int32 → zSg → Option (Int32 × zSg)) (hk4 : ∀ (y1 : Int32) (y2 : Int32) (y3 : Int32) (g : zSg) (r : Int32 × zSg), k4 y1 y2 y3 g = some r → zG d sc hp (zcd zM_X12_knownOf) 4 [some (.ref 526), some (.int y1), some (.int y2), some (.int y3)] [] (gm g) ((some (.int r.1)), gm r.2)) (y1 : Int32) (y3 : Int32) (s0 : Int32) (s1 : Int32) (g : zSg) (r : Int32 × zSg) (h : f_X12_knownOf_29 k4 y1 y3 s0 s1 g = some r) : zG d sc hp (zcd zM_X12_knownOf) 29 [some (.ref 526), some (.int y1), none, some (.int y3)] [.int s0, .int s1] (gm g) ((some (.int r.1)), gm r.2) := by
  obtain ⟨d, rfl⟩ : ∃ d', d = d' + 1 := ⟨d - 1, by omega⟩
  unfold f_X12_knownOf_29 at h
  refine g_run 4 (pc' := 4) (L' := [some (.ref 526), some (.int y1), some (.int ((s1 ||| s0))), some (.int ((y3 + 1)))]) (S' := []) (M' := gm g) rfl ?_
  exact hk4 (y1) (s1 ||| s0) (y3 + 1) g _ h
def fb_X12_knownOf_4 (kk : Int32 → Int32 → Int32 → zSg → Option (Int32 × zSg)) (y1 : Int32) (y2 : Int32) (y3 : Int32) (g : zSg) : Option (Int32 × zSg) := (if (gI g 526 25) ≤ y3 then some (y2, g) else (zB (f_X12_knows y3 y1 g) (fun v2 g3 => (if v2 = 0 then f_X12_knownOf_29 kk (y1) (y3) (0) (y2) g3 else f_X12_knownOf_29 kk (y1) (y3) (1 <<< (y3 &&& 31)) (y2) g3))))
def f_X12_knownOf_4 : Nat → Int32 → Int32 → Int32 → zSg → Option (Int32 × zSg)
  | 0, _, _, _, _ => none
  | n + 1, y1, y2, y3, g => fb_X12_knownOf_4 (f_X12_knownOf_4 n) y1 y2 y3 g
set_option maxRecDepth 100000 in
set_option maxHeartbeats 4000000 in
theorem p_X12_knownOf_4 {sc : zSc} {hp : zHp} {d : Nat} (hD : 2 ≤ d) : ∀ (n : Nat) (y1 : Int32) (y2 : Int32) (y3 : Int32) (g : zSg) (r : Int32 × zSg), f_X12_knownOf_4 n y1 y2 y3 g = some r → zG d sc hp (zcd zM_X12_knownOf) 4 [some (.ref 526), some (.int y1), some (.int y2), some (.int y3)] [] (gm g) ((some (.int r.1)), gm r.2) := by
  obtain ⟨d, rfl⟩ : ∃ d', d = d' + 1 := ⟨d - 1, by omega⟩
  intro n
  induction n with
  | zero => intro y1 y2 y3 g r h; cases h
  | succ n ih =>
    intro y1 y2 y3 g r h
    replace h : fb_X12_knownOf_4 (f_X12_knownOf_4 n) y1 y2 y3 g = some r := h
    unfold fb_X12_knownOf_4 at h
    refine g_run 3 (pc' := 9) (L' := [some (.ref 526), some (.int y1), some (.int y2), some (.int y3)]) (S' := [.int ((gI g 526 25)), .int y3]) (M' := gm g) rfl ?_
    refine g_icmp ((gI g 526 25) ≤ y3) rfl (t := 37) rfl rfl (fun c1 => ?_) (fun c1 => ?_)
    · replace h := (if_pos c1).symm.trans h
      refine g_run 1 (pc' := 38) (L' := [some (.ref 526), some (.int y1), some (.int y2), some (.int y3)]) (S' := [.int y2]) (M' := gm g) rfl ?_
      cases h
      exact g_ret rfl rfl rfl rfl
    · replace h := (if_neg c1).symm.trans h
      refine g_run 4 (pc' := 16) (L' := [some (.ref 526), some (.int y1), some (.int y2), some (.int y3)]) (S' := [.int y1, .int y3, .ref 526, .int y2]) (M' := gm g) rfl ?_
      replace h := zB_of h
      obtain ⟨v2, g3, e4, h⟩ := h
      refine g_inv2 (kd := 1) (p_X12_knows  e4) rfl rfl rfl (by decide) rfl rfl rfl rfl (by omega) (pc' := 19) rfl (S' := [.int v2, .int y2]) rfl ?_
      refine g_if (v2 = 0) rfl (t := 28) rfl rfl (fun c5 => ?_) (fun c5 => ?_)
      · replace h := (if_pos c5).symm.trans h
        refine g_run 1 (pc' := 29) (L' := [some (.ref 526), some (.int y1), some (.int y2), some (.int y3)]) (S' := [.int 0, .int y2]) (M' := gm g3) rfl ?_
        refine g_forget (L' := [some (.ref 526), some (.int y1), none, some (.int y3)]) (And.intro rfl (And.intro rfl (And.intro rfl True.intro))) ?_
        exact p_X12_knownOf_29 hD (f_X12_knownOf_4 n) ih (y1) (y3) (0) (y2) g3 _ h
      · replace h := (if_neg c5).symm.trans h
        refine g_run 4 (pc' := 29) (L' := [some (.ref 526), some (.int y1), some (.int y2), some (.int y3)]) (S' := [.int ((1 <<< (y3 &&& 31))), .int y2]) (M' := gm g3) rfl ?_
        refine g_forget (L' := [some (.ref 526), some (.int y1), none, some (.int y3)]) (And.intro rfl (And.intro rfl (And.intro rfl True.intro))) ?_
        exact p_X12_knownOf_29 hD (f_X12_knownOf_4 n) ih (y1) (y3) (1 <<< (y3 &&& 31)) (y2) g3 _ h
def f_X12_knownOf (x1 : Int32) (g : zSg) : Option (Int32 × zSg) := f_X12_knownOf_4 zFu (x1) (0) (0) g
set_option maxRecDepth 100000 in
set_option maxHeartbeats 4000000 in
theorem p_X12_knownOf {sc : zSc} {hp : zHp} {x1 : Int32} {g : zSg} {r : Int32 × zSg} (h : f_X12_knownOf x1 g = some r) : zRn sc hp 2 zM_X12_knownOf [.ref 526, .int x1] (gm g) (some (.int r.1)) (gm r.2) := by
  intro d hD
  obtain ⟨d, rfl⟩ : ∃ d', d = d' + 1 := ⟨d - 1, by omega⟩
  show zG _ sc hp (zcd zM_X12_knownOf) 0 [some (.ref 526), some (.int x1), none, none] [] (gm g) _
  unfold f_X12_knownOf at h
  refine g_run 4 (pc' := 4) (L' := [some (.ref 526), some (.int x1), some (.int 0), some (.int 0)]) (S' := []) (M' := gm g) rfl ?_
  exact p_X12_knownOf_4 hD zFu (x1) (0) (0) g _ h
def f_X12_beside_55 (y3 : Int32) (s0 : Int32) (s1 : Int32) (g : zSg) : Option (Int32 × zSg) := (zB (f_X12_in y3 0 ((gI g 540 0) - 1) g) (fun v1 g2 => (if v1 = 0 then some ((-1), g2) else (zB (f_X12_in (s1 + s0) 0 ((gI g2 540 1) - 1) g2) (fun v5 g6 => (if v5 = 0 then some ((-1), g6) else some ((((gI g6 540 0) * (s1 + s0)) + y3), g6)))))))
set_option maxRecDepth 100000 in
set_option maxHeartbeats 4000000 in
theorem p_X12_beside_55 {sc : zSc} {hp : zHp} {d : Nat} (hD : 1 ≤ d) (y3 : Int32) (s0 : Int32) (s1 : Int32) (g : zSg) (r : Int32 × zSg) (h : f_X12_beside_55 y3 s0 s1 g = some r) : zG d sc hp (zcd zM_X12_beside) 55 [some (.ref 526), none, none, some (.int y3), none] [.int s0, .int s1] (gm g) ((some (.int r.1)), gm r.2) := by
  obtain ⟨d, rfl⟩ : ∃ d', d = d' + 1 := ⟨d - 1, by omega⟩
  unfold f_X12_beside_55 at h
  refine g_run 10 (pc' := 68) (L' := [some (.ref 526), none, none, some (.int y3), some (.int ((s1 + s0)))]) (S' := [.int (((gI g 540 0) - 1)), .int 0, .int y3]) (M' := gm g) rfl ?_
  replace h := zB_of h
  obtain ⟨v1, g2, e3, h⟩ := h
  refine g_inv2 (kd := 0) (p_X12_in  e3) rfl rfl rfl (by decide) rfl rfl rfl rfl (by omega) (pc' := 71) rfl (S' := [.int v1]) rfl ?_
  refine g_if (v1 = 0) rfl (t := 105) rfl rfl (fun c4 => ?_) (fun c4 => ?_)
  · replace h := (if_pos c4).symm.trans h
    refine g_run 1 (pc' := 106) (L' := [some (.ref 526), none, none, some (.int y3), some (.int ((s1 + s0)))]) (S' := [.int (-1)]) (M' := gm g2) rfl ?_
    cases h
    exact g_ret rfl rfl rfl rfl
  · replace h := (if_neg c4).symm.trans h
    refine g_run 8 (pc' := 85) (L' := [some (.ref 526), none, none, some (.int y3), some (.int ((s1 + s0)))]) (S' := [.int (((gI g2 540 1) - 1)), .int 0, .int ((s1 + s0))]) (M' := gm g2) rfl ?_
    replace h := zB_of h
    obtain ⟨v5, g6, e7, h⟩ := h
    refine g_inv2 (kd := 0) (p_X12_in  e7) rfl rfl rfl (by decide) rfl rfl rfl rfl (by omega) (pc' := 88) rfl (S' := [.int v5]) rfl ?_
    refine g_if (v5 = 0) rfl (t := 105) rfl rfl (fun c8 => ?_) (fun c8 => ?_)
    · replace h := (if_pos c8).symm.trans h
      refine g_run 1 (pc' := 106) (L' := [some (.ref 526), none, none, some (.int y3), some (.int ((s1 + s0)))]) (S' := [.int (-1)]) (M' := gm g6) rfl ?_
      cases h
      exact g_ret rfl rfl rfl rfl
    · replace h := (if_neg c8).symm.trans h
      refine g_run 9 (pc' := 106) (L' := [some (.ref 526), none, none, some (.int y3), some (.int ((s1 + s0)))]) (S' := [.int ((((gI g6 540 0) * (s1 + s0)) + y3))]) (M' := gm g6) rfl ?_
      cases h
      exact g_ret rfl rfl rfl rfl
def f_X12_beside_27 (y1 : Int32) (y2 : Int32) (s0 : Int32) (s1 : Int32) (g : zSg) : Option (Int32 × zSg) := (if (gI g 540 0) = 0 then none else (if ¬ y2 = 2 then (if ¬ y2 = 0 then f_X12_beside_55 (s1 + s0) (0) (y1 / (gI g 540 0)) g else f_X12_beside_55 (s1 + s0) (-1) (y1 / (gI g 540 0)) g) else f_X12_beside_55 (s1 + s0) (1) (y1 / (gI g 540 0)) g))
set_option maxRecDepth 100000 in
set_option maxHeartbeats 4000000 in
theorem p_X12_beside_27 {sc : zSc} {hp : zHp} {d : Nat} (hD : 1 ≤ d) (y1 : Int32) (y2 : Int32) (s0 : Int32) (s1 : Int32) (g : zSg) (r : Int32 × zSg) (h : f_X12_beside_27 y1 y2 s0 s1 g = some r) : zG d sc hp (zcd zM_X12_beside) 27 [some (.ref 526), some (.int y1), some (.int y2), none, none] [.int s0, .int s1] (gm g) ((some (.int r.1)), gm r.2) := by
  obtain ⟨d, rfl⟩ : ∃ d', d = d' + 1 := ⟨d - 1, by omega⟩
  unfold f_X12_beside_27 at h
  refine g_run 7 (pc' := 36) (L' := [some (.ref 526), some (.int y1), some (.int y2), some (.int ((s1 + s0))), none]) (S' := [.int ((gI g 540 0)), .int y1]) (M' := gm g) rfl ?_
  by_cases c1 : (gI g 540 0) = 0
  case pos => exact nomatch ((if_pos c1).symm.trans h)
  replace h := (if_neg c1).symm.trans h
  refine g_div rfl c1 ?_
  refine g_run 2 (pc' := 39) (L' := [some (.ref 526), some (.int y1), some (.int y2), some (.int ((s1 + s0))), none]) (S' := [.int 2, .int y2, .int ((y1 / (gI g 540 0)))]) (M' := gm g) rfl ?_
  refine g_icmp (¬ y2 = 2) rfl (t := 46) rfl rfl (fun c2 => ?_) (fun c2 => ?_)
  · replace h := (if_pos c2).symm.trans h
    refine g_run 1 (pc' := 47) (L' := [some (.ref 526), some (.int y1), some (.int y2), some (.int ((s1 + s0))), none]) (S' := [.int y2, .int ((y1 / (gI g 540 0)))]) (M' := gm g) rfl ?_
    refine g_if (¬ y2 = 0) rfl (t := 54) rfl rfl (fun c3 => ?_) (fun c3 => ?_)
    · replace h := (if_pos c3).symm.trans h
      refine g_run 1 (pc' := 55) (L' := [some (.ref 526), some (.int y1), some (.int y2), some (.int ((s1 + s0))), none]) (S' := [.int 0, .int ((y1 / (gI g 540 0)))]) (M' := gm g) rfl ?_
      refine g_forget (L' := [some (.ref 526), none, none, some (.int ((s1 + s0))), none]) (And.intro rfl (And.intro rfl True.intro)) ?_
      exact p_X12_beside_55 hD (s1 + s0) (0) (y1 / (gI g 540 0)) g _ h
    · replace h := (if_neg c3).symm.trans h
      refine g_run 2 (pc' := 55) (L' := [some (.ref 526), some (.int y1), some (.int y2), some (.int ((s1 + s0))), none]) (S' := [.int (-1), .int ((y1 / (gI g 540 0)))]) (M' := gm g) rfl ?_
      refine g_forget (L' := [some (.ref 526), none, none, some (.int ((s1 + s0))), none]) (And.intro rfl (And.intro rfl True.intro)) ?_
      exact p_X12_beside_55 hD (s1 + s0) (-1) (y1 / (gI g 540 0)) g _ h
  · replace h := (if_neg c2).symm.trans h
    refine g_run 2 (pc' := 55) (L' := [some (.ref 526), some (.int y1), some (.int y2), some (.int ((s1 + s0))), none]) (S' := [.int 1, .int ((y1 / (gI g 540 0)))]) (M' := gm g) rfl ?_
    refine g_forget (L' := [some (.ref 526), none, none, some (.int ((s1 + s0))), none]) (And.intro rfl (And.intro rfl True.intro)) ?_
    exact p_X12_beside_55 hD (s1 + s0) (1) (y1 / (gI g 540 0)) g _ h
def f_X12_beside (x1 : Int32) (x2 : Int32) (g : zSg) : Option (Int32 × zSg) := (if (gI g 540 0) = 0 then none else (if ¬ x2 = 1 then (if ¬ x2 = 3 then f_X12_beside_27 (x1) (x2) (0) (imod x1 (gI g 540 0)) g else f_X12_beside_27 (x1) (x2) (-1) (imod x1 (gI g 540 0)) g) else f_X12_beside_27 (x1) (x2) (1) (imod x1 (gI g 540 0)) g))
set_option maxRecDepth 100000 in
set_option maxHeartbeats 4000000 in
theorem p_X12_beside {sc : zSc} {hp : zHp} {x1 : Int32} {x2 : Int32} {g : zSg} {r : Int32 × zSg} (h : f_X12_beside x1 x2 g = some r) : zRn sc hp 1 zM_X12_beside [.ref 526, .int x1, .int x2] (gm g) (some (.int r.1)) (gm r.2) := by
  intro d hD
  obtain ⟨d, rfl⟩ : ∃ d', d = d' + 1 := ⟨d - 1, by omega⟩
  show zG _ sc hp (zcd zM_X12_beside) 0 [some (.ref 526), some (.int x1), some (.int x2), none, none] [] (gm g) _
  unfold f_X12_beside at h
  refine g_run 5 (pc' := 7) (L' := [some (.ref 526), some (.int x1), some (.int x2), none, none]) (S' := [.int ((gI g 540 0)), .int x1]) (M' := gm g) rfl ?_
  by_cases c1 : (gI g 540 0) = 0
  case pos => exact nomatch ((if_pos c1).symm.trans h)
  replace h := (if_neg c1).symm.trans h
  refine g_rem rfl c1 ?_
  refine g_run 2 (pc' := 10) (L' := [some (.ref 526), some (.int x1), some (.int x2), none, none]) (S' := [.int 1, .int x2, .int ((imod x1 (gI g 540 0)))]) (M' := gm g) rfl ?_
  refine g_icmp (¬ x2 = 1) rfl (t := 17) rfl rfl (fun c2 => ?_) (fun c2 => ?_)
  · replace h := (if_pos c2).symm.trans h
    refine g_run 2 (pc' := 19) (L' := [some (.ref 526), some (.int x1), some (.int x2), none, none]) (S' := [.int 3, .int x2, .int ((imod x1 (gI g 540 0)))]) (M' := gm g) rfl ?_
    refine g_icmp (¬ x2 = 3) rfl (t := 26) rfl rfl (fun c3 => ?_) (fun c3 => ?_)
    · replace h := (if_pos c3).symm.trans h
      refine g_run 1 (pc' := 27) (L' := [some (.ref 526), some (.int x1), some (.int x2), none, none]) (S' := [.int 0, .int ((imod x1 (gI g 540 0)))]) (M' := gm g) rfl ?_
      exact p_X12_beside_27 hD (x1) (x2) (0) (imod x1 (gI g 540 0)) g _ h
    · replace h := (if_neg c3).symm.trans h
      refine g_run 2 (pc' := 27) (L' := [some (.ref 526), some (.int x1), some (.int x2), none, none]) (S' := [.int (-1), .int ((imod x1 (gI g 540 0)))]) (M' := gm g) rfl ?_
      exact p_X12_beside_27 hD (x1) (x2) (-1) (imod x1 (gI g 540 0)) g _ h
  · replace h := (if_neg c2).symm.trans h
    refine g_run 2 (pc' := 27) (L' := [some (.ref 526), some (.int x1), some (.int x2), none, none]) (S' := [.int 1, .int ((imod x1 (gI g 540 0)))]) (M' := gm g) rfl ?_
    exact p_X12_beside_27 hD (x1) (x2) (1) (imod x1 (gI g 540 0)) g _ h
def f_X12_offShed_37 (y4 : Int32) (y5 : Int32) (g : zSg) : Option (Int32 × zSg) := (if ¬ y4 = (-1) then some (y5, g) else some ((-1), g))
set_option maxRecDepth 100000 in
set_option maxHeartbeats 4000000 in
theorem p_X12_offShed_37 {sc : zSc} {hp : zHp} {d : Nat} (hD : 2 ≤ d) (y4 : Int32) (y5 : Int32) (g : zSg) (r : Int32 × zSg) (h : f_X12_offShed_37 y4 y5 g = some r) : zG d sc hp (zcd zM_X12_offShed) 37 [none, none, none, none, some (.int y4), some (.int y5)] [] (gm g) ((some (.int r.1)), gm r.2) := by
  obtain ⟨d, rfl⟩ : ∃ d', d = d' + 1 := ⟨d - 1, by omega⟩
  unfold f_X12_offShed_37 at h
  refine g_run 2 (pc' := 40) (L' := [none, none, none, none, some (.int y4), some (.int y5)]) (S' := [.int (-1), .int y4]) (M' := gm g) rfl ?_
  refine g_icmp (¬ y4 = (-1)) rfl (t := 47) rfl rfl (fun c1 => ?_) (fun c1 => ?_)
  · replace h := (if_pos c1).symm.trans h
    refine g_run 1 (pc' := 49) (L' := [none, none, none, none, some (.int y4), some (.int y5)]) (S' := [.int y5]) (M' := gm g) rfl ?_
    cases h
    exact g_ret rfl rfl rfl rfl
  · replace h := (if_neg c1).symm.trans h
    refine g_run 2 (pc' := 49) (L' := [none, none, none, none, some (.int y4), some (.int y5)]) (S' := [.int (-1)]) (M' := gm g) rfl ?_
    cases h
    exact g_ret rfl rfl rfl rfl
def fb_X12_offShed_10 (kk : Int32 → Int32 → Int32 → Int32 → zSg → Option (Int32 × zSg)) (y2 : Int32) (y3 : Int32) (y4 : Int32) (y5 : Int32) (g : zSg) : Option (Int32 × zSg) := (if y4 = (-1) then f_X12_offShed_37 (y4) (y5) g else (if y4 = y2 then f_X12_offShed_37 (y4) (y5) g else (zB (f_X12_beside y4 y3 g) (fun v3 g4 => kk (y2) (y3) (v3) (y5 + 1) g4))))
def f_X12_offShed_10 : Nat → Int32 → Int32 → Int32 → Int32 → zSg → Option (Int32 × zSg)
  | 0, _, _, _, _, _ => none
  | n + 1, y2, y3, y4, y5, g => fb_X12_offShed_10 (f_X12_offShed_10 n) y2 y3 y4 y5 g
set_option maxRecDepth 100000 in
set_option maxHeartbeats 4000000 in
theorem p_X12_offShed_10 {sc : zSc} {hp : zHp} {d : Nat} (hD : 2 ≤ d) : ∀ (n : Nat) (y2 : Int32) (y3 : Int32) (y4 : Int32) (y5 : Int32) (g : zSg) (r : Int32 × zSg), f_X12_offShed_10 n y2 y3 y4 y5 g = some r → zG d sc hp (zcd zM_X12_offShed) 10 [some (.ref 526), none, some (.int y2), some (.int y3), some (.int y4), some (.int y5)] [] (gm g) ((some (.int r.1)), gm r.2) := by
  obtain ⟨d, rfl⟩ : ∃ d', d = d' + 1 := ⟨d - 1, by omega⟩
  intro n
  induction n with
  | zero => intro y2 y3 y4 y5 g r h; cases h
  | succ n ih =>
    intro y2 y3 y4 y5 g r h
    replace h : fb_X12_offShed_10 (f_X12_offShed_10 n) y2 y3 y4 y5 g = some r := h
    unfold fb_X12_offShed_10 at h
    refine g_run 2 (pc' := 13) (L' := [some (.ref 526), none, some (.int y2), some (.int y3), some (.int y4), some (.int y5)]) (S' := [.int (-1), .int y4]) (M' := gm g) rfl ?_
    refine g_icmp (y4 = (-1)) rfl (t := 37) rfl rfl (fun c1 => ?_) (fun c1 => ?_)
    · replace h := (if_pos c1).symm.trans h
      refine g_forget (L' := [none, none, none, none, some (.int y4), some (.int y5)]) (And.intro rfl (And.intro rfl True.intro)) ?_
      exact p_X12_offShed_37 hD (y4) (y5) g _ h
    · replace h := (if_neg c1).symm.trans h
      refine g_run 2 (pc' := 19) (L' := [some (.ref 526), none, some (.int y2), some (.int y3), some (.int y4), some (.int y5)]) (S' := [.int y2, .int y4]) (M' := gm g) rfl ?_
      refine g_icmp (y4 = y2) rfl (t := 37) rfl rfl (fun c2 => ?_) (fun c2 => ?_)
      · replace h := (if_pos c2).symm.trans h
        refine g_forget (L' := [none, none, none, none, some (.int y4), some (.int y5)]) (And.intro rfl (And.intro rfl True.intro)) ?_
        exact p_X12_offShed_37 hD (y4) (y5) g _ h
      · replace h := (if_neg c2).symm.trans h
        refine g_run 3 (pc' := 26) (L' := [some (.ref 526), none, some (.int y2), some (.int y3), some (.int y4), some (.int y5)]) (S' := [.int y3, .int y4, .ref 526]) (M' := gm g) rfl ?_
        replace h := zB_of h
        obtain ⟨v3, g4, e5, h⟩ := h
        refine g_inv2 (kd := 1) (p_X12_beside  e5) rfl rfl rfl (by decide) rfl rfl rfl rfl (by omega) (pc' := 29) rfl (S' := [.int v3]) rfl ?_
        refine g_run 3 (pc' := 10) (L' := [some (.ref 526), none, some (.int y2), some (.int y3), some (.int v3), some (.int ((y5 + 1)))]) (S' := []) (M' := gm g4) rfl ?_
        exact ih (y2) (y3) (v3) (y5 + 1) g4 _ h
def f_X12_offShed (x1 : Int32) (x2 : Int32) (x3 : Int32) (g : zSg) : Option (Int32 × zSg) := (zB (f_X12_shedOf x1 g) (fun v1 g2 => f_X12_offShed_10 zFu (x2) (x3) (v1) (0) g2))
set_option maxRecDepth 100000 in
set_option maxHeartbeats 4000000 in
theorem p_X12_offShed {sc : zSc} {hp : zHp} {x1 : Int32} {x2 : Int32} {x3 : Int32} {g : zSg} {r : Int32 × zSg} (h : f_X12_offShed x1 x2 x3 g = some r) : zRn sc hp 2 zM_X12_offShed [.ref 526, .int x1, .int x2, .int x3] (gm g) (some (.int r.1)) (gm r.2) := by
  intro d hD
  obtain ⟨d, rfl⟩ : ∃ d', d = d' + 1 := ⟨d - 1, by omega⟩
  show zG _ sc hp (zcd zM_X12_offShed) 0 [some (.ref 526), some (.int x1), some (.int x2), some (.int x3), none, none] [] (gm g) _
  unfold f_X12_offShed at h
  refine g_run 2 (pc' := 2) (L' := [some (.ref 526), some (.int x1), some (.int x2), some (.int x3), none, none]) (S' := [.int x1, .ref 526]) (M' := gm g) rfl ?_
  replace h := zB_of h
  obtain ⟨v1, g2, e3, h⟩ := h
  refine g_inv2 (kd := 1) (p_X12_shedOf  e3) rfl rfl rfl (by decide) rfl rfl rfl rfl (by omega) (pc' := 5) rfl (S' := [.int v1]) rfl ?_
  refine g_run 3 (pc' := 10) (L' := [some (.ref 526), some (.int x1), some (.int x2), some (.int x3), some (.int v1), some (.int 0)]) (S' := []) (M' := gm g2) rfl ?_
  refine g_forget (L' := [some (.ref 526), none, some (.int x2), some (.int x3), some (.int v1), some (.int 0)]) (And.intro rfl (And.intro rfl (And.intro rfl (And.intro rfl (And.intro rfl True.intro))))) ?_
  exact p_X12_offShed_10 hD zFu (x2) (x3) (v1) (0) g2 _ h
def f_X12_strengthBy_92 (y9 : Int32) (g : zSg) : Option (Int32 × zSg) := some ((imax 0 (imin 9 y9)), g)
set_option maxRecDepth 100000 in
set_option maxHeartbeats 4000000 in
theorem p_X12_strengthBy_92 {sc : zSc} {hp : zHp} {d : Nat} (hD : 5 ≤ d) (y9 : Int32) (g : zSg) (r : Int32 × zSg) (h : f_X12_strengthBy_92 y9 g = some r) : zG d sc hp (zcd zM_X12_strengthBy) 92 [none, none, none, none, none, none, none, none, none, some (.int y9)] [] (gm g) ((some (.int r.1)), gm r.2) := by
  obtain ⟨d, rfl⟩ : ∃ d', d = d' + 1 := ⟨d - 1, by omega⟩
  unfold f_X12_strengthBy_92 at h
  refine g_run 3 (pc' := 97) (L' := [none, none, none, none, none, none, none, none, none, some (.int y9)]) (S' := [.int y9, .int 9, .int 0]) (M' := gm g) rfl ?_
  refine g_spec2 (kd := 0) rfl rfl rfl (by decide) rfl (jd := 1001) rfl (by decide) rfl (Or.inl (by decide)) (S' := [.int ((imin 9 y9)), .int 0]) (M' := gm g) rfl rfl (pc' := 100) rfl ?_
  refine g_spec2 (kd := 0) rfl rfl rfl (by decide) rfl (jd := 1002) rfl (by decide) rfl (Or.inl (by decide)) (S' := [.int ((imax 0 (imin 9 y9)))]) (M' := gm g) rfl rfl (pc' := 103) rfl ?_
  cases h
  exact g_ret rfl rfl rfl rfl
def f_X12_strengthBy (x1 : Int32) (x2 : Int32) (x3 : Int32) (x4 : Int32) (x5 : Int32) (x6 : Int32) (x7 : Int32) (g : zSg) : Option (Int32 × zSg) := (zB (f_X12_offShed x1 x2 x4 g) (fun v1 g2 => (if ¬ v1 = (-1) then (if (gI g2 526 30) = (-1) then f_X12_strengthBy_92 (x3 - v1) g2 else (zB (f_X12_worthOf (gI (gsI (gsI (gsI (gsI (gsI (gsI g2 535 0 x3) 535 1 v1) 535 2 x5) 535 3 x4) 535 4 (imod x6 100)) 535 5 x7) 526 30) (gsI (gsI (gsI (gsI (gsI (gsI g2 535 0 x3) 535 1 v1) 535 2 x5) 535 3 x4) 535 4 (imod x6 100)) 535 5 x7)) (fun v6 g7 => f_X12_strengthBy_92 (v6) g7))) else some (0, g2))))
set_option maxRecDepth 100000 in
set_option maxHeartbeats 4000000 in
theorem p_X12_strengthBy {sc : zSc} {hp : zHp} {x1 : Int32} {x2 : Int32} {x3 : Int32} {x4 : Int32} {x5 : Int32} {x6 : Int32} {x7 : Int32} {g : zSg} {r : Int32 × zSg} (h : f_X12_strengthBy x1 x2 x3 x4 x5 x6 x7 g = some r) : zRn sc hp 5 zM_X12_strengthBy [.ref 526, .int x1, .int x2, .int x3, .int x4, .int x5, .int x6, .int x7] (gm g) (some (.int r.1)) (gm r.2) := by
  intro d hD
  obtain ⟨d, rfl⟩ : ∃ d', d = d' + 1 := ⟨d - 1, by omega⟩
  show zG _ sc hp (zcd zM_X12_strengthBy) 0 [some (.ref 526), some (.int x1), some (.int x2), some (.int x3), some (.int x4), some (.int x5), some (.int x6), some (.int x7), none, none] [] (gm g) _
  unfold f_X12_strengthBy at h
  refine g_run 4 (pc' := 5) (L' := [some (.ref 526), some (.int x1), some (.int x2), some (.int x3), some (.int x4), some (.int x5), some (.int x6), some (.int x7), none, none]) (S' := [.int x4, .int x2, .int x1, .ref 526]) (M' := gm g) rfl ?_
  replace h := zB_of h
  obtain ⟨v1, g2, e3, h⟩ := h
  refine g_inv2 (kd := 1) (p_X12_offShed  e3) rfl rfl rfl (by decide) rfl rfl rfl rfl (by omega) (pc' := 8) rfl (S' := [.int v1]) rfl ?_
  refine g_run 3 (pc' := 13) (L' := [some (.ref 526), some (.int x1), some (.int x2), some (.int x3), some (.int x4), some (.int x5), some (.int x6), some (.int x7), some (.int v1), none]) (S' := [.int (-1), .int v1]) (M' := gm g2) rfl ?_
  refine g_icmp (¬ v1 = (-1)) rfl (t := 18) rfl rfl (fun c4 => ?_) (fun c4 => ?_)
  · replace h := (if_pos c4).symm.trans h
    refine g_run 7 (pc' := 29) (L' := [some (.ref 526), some (.int x1), some (.int x2), some (.int x3), some (.int x4), some (.int x5), some (.int x6), some (.int x7), some (.int v1), some (.int ((x3 - v1)))]) (S' := [.int (-1), .int ((gI g2 526 30))]) (M' := gm g2) rfl ?_
    refine g_icmp ((gI g2 526 30) = (-1)) rfl (t := 92) rfl rfl (fun c5 => ?_) (fun c5 => ?_)
    · replace h := (if_pos c5).symm.trans h
      refine g_forget (L' := [none, none, none, none, none, none, none, none, none, some (.int ((x3 - v1)))]) (And.intro rfl True.intro) ?_
      exact p_X12_strengthBy_92 hD (x3 - v1) g2 _ h
    · replace h := (if_neg c5).symm.trans h
      refine g_run 35 (pc' := 87) (L' := [some (.ref 526), some (.int x1), some (.int x2), some (.int x3), some (.int x4), some (.int x5), some (.int x6), some (.int x7), some (.int v1), some (.int ((x3 - v1)))]) (S' := [.int ((gI (gsI (gsI (gsI (gsI (gsI (gsI g2 535 0 x3) 535 1 v1) 535 2 x5) 535 3 x4) 535 4 (imod x6 100)) 535 5 x7) 526 30)), .ref 526]) (M' := gm (gsI (gsI (gsI (gsI (gsI (gsI g2 535 0 x3) 535 1 v1) 535 2 x5) 535 3 x4) 535 4 (imod x6 100)) 535 5 x7)) rfl ?_
      replace h := zB_of h
      obtain ⟨v6, g7, e8, h⟩ := h
      refine g_inv2 (kd := 1) (p_X12_worthOf  e8) rfl rfl rfl (by decide) rfl rfl rfl rfl (by omega) (pc' := 90) rfl (S' := [.int v6]) rfl ?_
      refine g_run 1 (pc' := 92) (L' := [some (.ref 526), some (.int x1), some (.int x2), some (.int x3), some (.int x4), some (.int x5), some (.int x6), some (.int x7), some (.int v1), some (.int v6)]) (S' := []) (M' := gm g7) rfl ?_
      refine g_forget (L' := [none, none, none, none, none, none, none, none, none, some (.int v6)]) (And.intro rfl True.intro) ?_
      exact p_X12_strengthBy_92 hD (v6) g7 _ h
  · replace h := (if_neg c4).symm.trans h
    refine g_run 1 (pc' := 17) (L' := [some (.ref 526), some (.int x1), some (.int x2), some (.int x3), some (.int x4), some (.int x5), some (.int x6), some (.int x7), some (.int v1), none]) (S' := [.int 0]) (M' := gm g2) rfl ?_
    cases h
    exact g_ret rfl rfl rfl rfl
def f_X12_strengthNow (x1 : Int32) (x2 : Int32) (x3 : Int32) (g : zSg) : Option (Int32 × zSg) := (zB (f_X12_of x1 1 g) (fun v1 g2 => (if zib (42 + x1) 235 = true then (zB (f_X12_strengthBy x1 x2 v1 (gI g2 543 50) (gI g2 543 (ix (42 + x1))) (gI g2 543 53) x3 g2) (fun v5 g6 => some (v5, g6))) else none)))
set_option maxRecDepth 100000 in
set_option maxHeartbeats 4000000 in
theorem p_X12_strengthNow {sc : zSc} {hp : zHp} {x1 : Int32} {x2 : Int32} {x3 : Int32} {g : zSg} {r : Int32 × zSg} (h : f_X12_strengthNow x1 x2 x3 g = some r) : zRn sc hp 6 zM_X12_strengthNow [.ref 526, .int x1, .int x2, .int x3] (gm g) (some (.int r.1)) (gm r.2) := by
  intro d hD
  obtain ⟨d, rfl⟩ : ∃ d', d = d' + 1 := ⟨d - 1, by omega⟩
  show zG _ sc hp (zcd zM_X12_strengthNow) 0 [some (.ref 526), some (.int x1), some (.int x2), some (.int x3)] [] (gm g) _
  unfold f_X12_strengthNow at h
  refine g_run 6 (pc' := 6) (L' := [some (.ref 526), some (.int x1), some (.int x2), some (.int x3)]) (S' := [.int 1, .int x1, .ref 526, .int x2, .int x1, .ref 526]) (M' := gm g) rfl ?_
  replace h := zB_of h
  obtain ⟨v1, g2, e3, h⟩ := h
  refine g_inv2 (kd := 1) (p_X12_of  e3) rfl rfl rfl (by decide) rfl rfl rfl rfl (by omega) (pc' := 9) rfl (S' := [.int v1, .int x2, .int x1, .ref 526]) rfl ?_
  refine g_run 9 (pc' := 24) (L' := [some (.ref 526), some (.int x1), some (.int x2), some (.int x3)]) (S' := [.int ((42 + x1)), .ref 543, .int ((gI g2 543 50)), .int v1, .int x2, .int x1, .ref 526]) (M' := gm g2) rfl ?_
  by_cases c4 : zib (42 + x1) 235 = true
  case neg => exact nomatch ((if_neg c4).symm.trans h)
  replace h := (if_pos c4).symm.trans h
  refine g_iald rfl (a := 543) rfl c4 ?_
  refine g_run 5 (pc' := 33) (L' := [some (.ref 526), some (.int x1), some (.int x2), some (.int x3)]) (S' := [.int x3, .int ((gI g2 543 53)), .int ((gI g2 543 (ix (42 + x1)))), .int ((gI g2 543 50)), .int v1, .int x2, .int x1, .ref 526]) (M' := gm g2) rfl ?_
  replace h := zB_of h
  obtain ⟨v5, g6, e7, h⟩ := h
  refine g_inv2 (kd := 1) (p_X12_strengthBy  e7) rfl rfl rfl (by decide) rfl rfl rfl rfl (by omega) (pc' := 36) rfl (S' := [.int v5]) rfl ?_
  cases h
  exact g_ret rfl rfl rfl rfl
def f_X12_airOf_38 (k4 : Int32 → Int32 → Int32 → zSg → Option (Int32 × zSg)) (y1 : Int32) (y3 : Int32) (s0 : Int32) (s1 : Int32) (g : zSg) : Option (Int32 × zSg) := k4 (y1) (s1 + s0) (y3 + 1) g
set_option maxRecDepth 100000 in
set_option maxHeartbeats 4000000 in
theorem p_X12_airOf_38 {sc : zSc} {hp : zHp} {d : Nat} (hD : 7 ≤ d) (k4 : Int32 → Int32 → Int32 → zSg → Option (Int32 × zSg)) (hk4 : ∀ (y1 : Int32) (y2 : Int32) (y3 : Int32) (g : zSg) (r : Int32 × zSg), k4 y1 y2 y3 g = some r → zG d sc hp (zcd zM_X12_airOf) 4 [some (.ref 526), some (.int y1), some (.int y2), some (.int y3)] [] (gm g) ((some (.int r.1)), gm r.2)) (y1 : Int32) (y3 : Int32) (s0 : Int32) (s1 : Int32) (g : zSg) (r : Int32 × zSg) (h : f_X12_airOf_38 k4 y1 y3 s0 s1 g = some r) : zG d sc hp (zcd zM_X12_airOf) 38 [some (.ref 526), some (.int y1), none, some (.int y3)] [.int s0, .int s1] (gm g) ((some (.int r.1)), gm r.2) := by
  obtain ⟨d, rfl⟩ : ∃ d', d = d' + 1 := ⟨d - 1, by omega⟩
  unfold f_X12_airOf_38 at h
  refine g_run 4 (pc' := 4) (L' := [some (.ref 526), some (.int y1), some (.int ((s1 + s0))), some (.int ((y3 + 1)))]) (S' := []) (M' := gm g) rfl ?_
  exact hk4 (y1) (s1 + s0) (y3 + 1) g _ h
def fb_X12_airOf_4 (kk : Int32 → Int32 → Int32 → zSg → Option (Int32 × zSg)) (y1 : Int32) (y2 : Int32) (y3 : Int32) (g : zSg) : Option (Int32 × zSg) := (if (gI g 526 26) ≤ y3 then some (y2, g) else (zB (f_X12_hangs y3 g) (fun v2 g3 => (if v2 = 0 then f_X12_airOf_38 kk (y1) (y3) (0) (y2) g3 else (zB (f_X12_strengthNow y3 y1 (gI g3 543 51) g3) (fun v6 g7 => f_X12_airOf_38 kk (y1) (y3) (v6) (y2) g7))))))
def f_X12_airOf_4 : Nat → Int32 → Int32 → Int32 → zSg → Option (Int32 × zSg)
  | 0, _, _, _, _ => none
  | n + 1, y1, y2, y3, g => fb_X12_airOf_4 (f_X12_airOf_4 n) y1 y2 y3 g
set_option maxRecDepth 100000 in
set_option maxHeartbeats 4000000 in
theorem p_X12_airOf_4 {sc : zSc} {hp : zHp} {d : Nat} (hD : 7 ≤ d) : ∀ (n : Nat) (y1 : Int32) (y2 : Int32) (y3 : Int32) (g : zSg) (r : Int32 × zSg), f_X12_airOf_4 n y1 y2 y3 g = some r → zG d sc hp (zcd zM_X12_airOf) 4 [some (.ref 526), some (.int y1), some (.int y2), some (.int y3)] [] (gm g) ((some (.int r.1)), gm r.2) := by
  obtain ⟨d, rfl⟩ : ∃ d', d = d' + 1 := ⟨d - 1, by omega⟩
  intro n
  induction n with
  | zero => intro y1 y2 y3 g r h; cases h
  | succ n ih =>
    intro y1 y2 y3 g r h
    replace h : fb_X12_airOf_4 (f_X12_airOf_4 n) y1 y2 y3 g = some r := h
    unfold fb_X12_airOf_4 at h
    refine g_run 3 (pc' := 9) (L' := [some (.ref 526), some (.int y1), some (.int y2), some (.int y3)]) (S' := [.int ((gI g 526 26)), .int y3]) (M' := gm g) rfl ?_
    refine g_icmp ((gI g 526 26) ≤ y3) rfl (t := 46) rfl rfl (fun c1 => ?_) (fun c1 => ?_)
    · replace h := (if_pos c1).symm.trans h
      refine g_run 1 (pc' := 47) (L' := [some (.ref 526), some (.int y1), some (.int y2), some (.int y3)]) (S' := [.int y2]) (M' := gm g) rfl ?_
      cases h
      exact g_ret rfl rfl rfl rfl
    · replace h := (if_neg c1).symm.trans h
      refine g_run 3 (pc' := 15) (L' := [some (.ref 526), some (.int y1), some (.int y2), some (.int y3)]) (S' := [.int y3, .ref 526, .int y2]) (M' := gm g) rfl ?_
      replace h := zB_of h
      obtain ⟨v2, g3, e4, h⟩ := h
      refine g_inv2 (kd := 1) (p_X12_hangs  e4) rfl rfl rfl (by decide) rfl rfl rfl rfl (by omega) (pc' := 18) rfl (S' := [.int v2, .int y2]) rfl ?_
      refine g_if (v2 = 0) rfl (t := 37) rfl rfl (fun c5 => ?_) (fun c5 => ?_)
      · replace h := (if_pos c5).symm.trans h
        refine g_run 1 (pc' := 38) (L' := [some (.ref 526), some (.int y1), some (.int y2), some (.int y3)]) (S' := [.int 0, .int y2]) (M' := gm g3) rfl ?_
        refine g_forget (L' := [some (.ref 526), some (.int y1), none, some (.int y3)]) (And.intro rfl (And.intro rfl (And.intro rfl True.intro))) ?_
        exact p_X12_airOf_38 hD (f_X12_airOf_4 n) ih (y1) (y3) (0) (y2) g3 _ h
      · replace h := (if_neg c5).symm.trans h
        refine g_run 7 (pc' := 31) (L' := [some (.ref 526), some (.int y1), some (.int y2), some (.int y3)]) (S' := [.int ((gI g3 543 51)), .int y1, .int y3, .ref 526, .int y2]) (M' := gm g3) rfl ?_
        replace h := zB_of h
        obtain ⟨v6, g7, e8, h⟩ := h
        refine g_inv2 (kd := 1) (p_X12_strengthNow  e8) rfl rfl rfl (by decide) rfl rfl rfl rfl (by omega) (pc' := 34) rfl (S' := [.int v6, .int y2]) rfl ?_
        refine g_run 1 (pc' := 38) (L' := [some (.ref 526), some (.int y1), some (.int y2), some (.int y3)]) (S' := [.int v6, .int y2]) (M' := gm g7) rfl ?_
        refine g_forget (L' := [some (.ref 526), some (.int y1), none, some (.int y3)]) (And.intro rfl (And.intro rfl (And.intro rfl True.intro))) ?_
        exact p_X12_airOf_38 hD (f_X12_airOf_4 n) ih (y1) (y3) (v6) (y2) g7 _ h
def f_X12_airOf (x1 : Int32) (g : zSg) : Option (Int32 × zSg) := f_X12_airOf_4 zFu (x1) (0) (0) g
set_option maxRecDepth 100000 in
set_option maxHeartbeats 4000000 in
theorem p_X12_airOf {sc : zSc} {hp : zHp} {x1 : Int32} {g : zSg} {r : Int32 × zSg} (h : f_X12_airOf x1 g = some r) : zRn sc hp 7 zM_X12_airOf [.ref 526, .int x1] (gm g) (some (.int r.1)) (gm r.2) := by
  intro d hD
  obtain ⟨d, rfl⟩ : ∃ d', d = d' + 1 := ⟨d - 1, by omega⟩
  show zG _ sc hp (zcd zM_X12_airOf) 0 [some (.ref 526), some (.int x1), none, none] [] (gm g) _
  unfold f_X12_airOf at h
  refine g_run 4 (pc' := 4) (L' := [some (.ref 526), some (.int x1), some (.int 0), some (.int 0)]) (S' := []) (M' := gm g) rfl ?_
  exact p_X12_airOf_4 hD zFu (x1) (0) (0) g _ h
def f_X12_smokeAll_96 (k10 : Int32 → Int32 → zSg → Option (Unit × zSg)) (y1 : Int32) (y2 : Int32) (g : zSg) : Option (Unit × zSg) := k10 (y1) (y2 + 1) g
set_option maxRecDepth 100000 in
set_option maxHeartbeats 4000000 in
theorem p_X12_smokeAll_96 {sc : zSc} {hp : zHp} {d : Nat} (hD : 7 ≤ d) (k10 : Int32 → Int32 → zSg → Option (Unit × zSg)) (hk10 : ∀ (y1 : Int32) (y2 : Int32) (g : zSg) (r : Unit × zSg), k10 y1 y2 g = some r → zG d sc hp (zcd zM_X12_smokeAll) 10 [some (.ref 526), some (.int y1), some (.int y2), none] [] (gm g) (none, gm r.2)) (y1 : Int32) (y2 : Int32) (g : zSg) (r : Unit × zSg) (h : f_X12_smokeAll_96 k10 y1 y2 g = some r) : zG d sc hp (zcd zM_X12_smokeAll) 96 [some (.ref 526), some (.int y1), some (.int y2), none] [] (gm g) (none, gm r.2) := by
  obtain ⟨d, rfl⟩ : ∃ d', d = d' + 1 := ⟨d - 1, by omega⟩
  unfold f_X12_smokeAll_96 at h
  refine g_run 2 (pc' := 10) (L' := [some (.ref 526), some (.int y1), some (.int ((y2 + 1))), none]) (S' := []) (M' := gm g) rfl ?_
  exact hk10 (y1) (y2 + 1) g _ h
def f_X12_smokeAll_83 (k10 : Int32 → Int32 → zSg → Option (Unit × zSg)) (y1 : Int32) (y2 : Int32) (g : zSg) : Option (Unit × zSg) := (if zib (42 + y2) 235 = true then (if zib (42 + y2) 235 = true then f_X12_smokeAll_96 k10 (y1) (y2) (gsI g (543) (ix (42 + y2)) ((gI g 543 (ix (42 + y2))) + 1)) else none) else none)
set_option maxRecDepth 100000 in
set_option maxHeartbeats 4000000 in
theorem p_X12_smokeAll_83 {sc : zSc} {hp : zHp} {d : Nat} (hD : 7 ≤ d) (k10 : Int32 → Int32 → zSg → Option (Unit × zSg)) (hk10 : ∀ (y1 : Int32) (y2 : Int32) (g : zSg) (r : Unit × zSg), k10 y1 y2 g = some r → zG d sc hp (zcd zM_X12_smokeAll) 10 [some (.ref 526), some (.int y1), some (.int y2), none] [] (gm g) (none, gm r.2)) (y1 : Int32) (y2 : Int32) (g : zSg) (r : Unit × zSg) (h : f_X12_smokeAll_83 k10 y1 y2 g = some r) : zG d sc hp (zcd zM_X12_smokeAll) 83 [some (.ref 526), some (.int y1), some (.int y2), none] [] (gm g) (none, gm r.2) := by
  obtain ⟨d, rfl⟩ : ∃ d', d = d' + 1 := ⟨d - 1, by omega⟩
  unfold f_X12_smokeAll_83 at h
  refine g_run 6 (pc' := 92) (L' := [some (.ref 526), some (.int y1), some (.int y2), none]) (S' := [.int ((42 + y2)), .ref 543, .int ((42 + y2)), .ref 543]) (M' := gm g) rfl ?_
  by_cases c1 : zib (42 + y2) 235 = true
  case neg => exact nomatch ((if_neg c1).symm.trans h)
  replace h := (if_pos c1).symm.trans h
  refine g_iald rfl (a := 543) rfl c1 ?_
  refine g_run 2 (pc' := 95) (L' := [some (.ref 526), some (.int y1), some (.int y2), none]) (S' := [.int (((gI g 543 (ix (42 + y2))) + 1)), .int ((42 + y2)), .ref 543]) (M' := gm g) rfl ?_
  by_cases c2 : zib (42 + y2) 235 = true
  case neg => exact nomatch ((if_neg c2).symm.trans h)
  replace h := (if_pos c2).symm.trans h
  refine g_iast rfl (a := 543) rfl c2 ?_
  exact p_X12_smokeAll_96 hD k10 hk10 (y1) (y2) (gsI g (543) (ix (42 + y2)) ((gI g 543 (ix (42 + y2))) + 1)) _ h
def fb_X12_smokeAll_49 (k10 : Int32 → Int32 → zSg → Option (Unit × zSg)) (kk : Int32 → Int32 → Int32 → zSg → Option (Unit × zSg)) (y1 : Int32) (y2 : Int32) (y3 : Int32) (g : zSg) : Option (Unit × zSg) := (if (gI g 526 25) ≤ y3 then f_X12_smokeAll_83 k10 (y1) (y2) g else (if zib (0 + y3) 235 = true then (zB (f_X12_strengthNow y2 (gI g 543 (ix (0 + y3))) y1 g) (fun v3 g4 => (zB (f_X12_breathe y3 y2 v3 g4) (fun v6 g7 => kk (y1) (y2) (y3 + 1) g7)))) else none))
def f_X12_smokeAll_49 (k10 : Int32 → Int32 → zSg → Option (Unit × zSg)) : Nat → Int32 → Int32 → Int32 → zSg → Option (Unit × zSg)
  | 0, _, _, _, _ => none
  | n + 1, y1, y2, y3, g => fb_X12_smokeAll_49 k10 (f_X12_smokeAll_49 k10 n) y1 y2 y3 g
set_option maxRecDepth 100000 in
set_option maxHeartbeats 4000000 in
theorem p_X12_smokeAll_49 {sc : zSc} {hp : zHp} {d : Nat} (hD : 7 ≤ d) (k10 : Int32 → Int32 → zSg → Option (Unit × zSg)) (hk10 : ∀ (y1 : Int32) (y2 : Int32) (g : zSg) (r : Unit × zSg), k10 y1 y2 g = some r → zG d sc hp (zcd zM_X12_smokeAll) 10 [some (.ref 526), some (.int y1), some (.int y2), none] [] (gm g) (none, gm r.2)) : ∀ (n : Nat) (y1 : Int32) (y2 : Int32) (y3 : Int32) (g : zSg) (r : Unit × zSg), f_X12_smokeAll_49 k10 n y1 y2 y3 g = some r → zG d sc hp (zcd zM_X12_smokeAll) 49 [some (.ref 526), some (.int y1), some (.int y2), some (.int y3)] [] (gm g) (none, gm r.2) := by
  obtain ⟨d, rfl⟩ : ∃ d', d = d' + 1 := ⟨d - 1, by omega⟩
  intro n
  induction n with
  | zero => intro y1 y2 y3 g r h; cases h
  | succ n ih =>
    intro y1 y2 y3 g r h
    replace h : fb_X12_smokeAll_49 k10 (f_X12_smokeAll_49 k10 n) y1 y2 y3 g = some r := h
    unfold fb_X12_smokeAll_49 at h
    refine g_run 3 (pc' := 54) (L' := [some (.ref 526), some (.int y1), some (.int y2), some (.int y3)]) (S' := [.int ((gI g 526 25)), .int y3]) (M' := gm g) rfl ?_
    refine g_icmp ((gI g 526 25) ≤ y3) rfl (t := 83) rfl rfl (fun c1 => ?_) (fun c1 => ?_)
    · replace h := (if_pos c1).symm.trans h
      refine g_forget (L' := [some (.ref 526), some (.int y1), some (.int y2), none]) (And.intro rfl (And.intro rfl (And.intro rfl True.intro))) ?_
      exact p_X12_smokeAll_83 hD k10 hk10 (y1) (y2) g _ h
    · replace h := (if_neg c1).symm.trans h
      refine g_run 10 (pc' := 69) (L' := [some (.ref 526), some (.int y1), some (.int y2), some (.int y3)]) (S' := [.int ((0 + y3)), .ref 543, .int y2, .ref 526, .int y2, .int y3, .ref 526]) (M' := gm g) rfl ?_
      by_cases c2 : zib (0 + y3) 235 = true
      case neg => exact nomatch ((if_neg c2).symm.trans h)
      replace h := (if_pos c2).symm.trans h
      refine g_iald rfl (a := 543) rfl c2 ?_
      refine g_run 1 (pc' := 71) (L' := [some (.ref 526), some (.int y1), some (.int y2), some (.int y3)]) (S' := [.int y1, .int ((gI g 543 (ix (0 + y3)))), .int y2, .ref 526, .int y2, .int y3, .ref 526]) (M' := gm g) rfl ?_
      replace h := zB_of h
      obtain ⟨v3, g4, e5, h⟩ := h
      refine g_inv2 (kd := 1) (p_X12_strengthNow  e5) rfl rfl rfl (by decide) rfl rfl rfl rfl (by omega) (pc' := 74) rfl (S' := [.int v3, .int y2, .int y3, .ref 526]) rfl ?_
      replace h := zB_of h
      obtain ⟨v6, g7, e8, h⟩ := h
      refine g_inv2 (kd := 1) (p_X12_breathe  e8) rfl rfl rfl (by decide) rfl rfl rfl rfl (by omega) (pc' := 77) rfl (S' := []) rfl ?_
      refine g_run 2 (pc' := 49) (L' := [some (.ref 526), some (.int y1), some (.int y2), some (.int ((y3 + 1)))]) (S' := []) (M' := gm g7) rfl ?_
      exact ih (y1) (y2) (y3 + 1) g7 _ h
def fb_X12_smokeAll_10 (kk : Int32 → Int32 → zSg → Option (Unit × zSg)) (y1 : Int32) (y2 : Int32) (g : zSg) : Option (Unit × zSg) := (if (gI g 526 26) ≤ y2 then some ((), g) else (zB (f_X12_hangs y2 g) (fun v2 g3 => (if v2 = 0 then f_X12_smokeAll_96 kk (y1) (y2) g3 else (if (gI g3 543 51) ≤ 0 then f_X12_smokeAll_96 kk (y1) (y2) g3 else f_X12_smokeAll_49 kk zFu (y1) (y2) (0) (gsI g3 543 51 ((gI g3 543 51) - 1)))))))
def f_X12_smokeAll_10 : Nat → Int32 → Int32 → zSg → Option (Unit × zSg)
  | 0, _, _, _ => none
  | n + 1, y1, y2, g => fb_X12_smokeAll_10 (f_X12_smokeAll_10 n) y1 y2 g
set_option maxRecDepth 100000 in
set_option maxHeartbeats 4000000 in
theorem p_X12_smokeAll_10 {sc : zSc} {hp : zHp} {d : Nat} (hD : 7 ≤ d) : ∀ (n : Nat) (y1 : Int32) (y2 : Int32) (g : zSg) (r : Unit × zSg), f_X12_smokeAll_10 n y1 y2 g = some r → zG d sc hp (zcd zM_X12_smokeAll) 10 [some (.ref 526), some (.int y1), some (.int y2), none] [] (gm g) (none, gm r.2) := by
  obtain ⟨d, rfl⟩ : ∃ d', d = d' + 1 := ⟨d - 1, by omega⟩
  intro n
  induction n with
  | zero => intro y1 y2 g r h; cases h
  | succ n ih =>
    intro y1 y2 g r h
    replace h : fb_X12_smokeAll_10 (f_X12_smokeAll_10 n) y1 y2 g = some r := h
    unfold fb_X12_smokeAll_10 at h
    refine g_run 3 (pc' := 15) (L' := [some (.ref 526), some (.int y1), some (.int y2), none]) (S' := [.int ((gI g 526 26)), .int y2]) (M' := gm g) rfl ?_
    refine g_icmp ((gI g 526 26) ≤ y2) rfl (t := 102) rfl rfl (fun c1 => ?_) (fun c1 => ?_)
    · replace h := (if_pos c1).symm.trans h
      cases h
      exact g_ret rfl rfl rfl rfl
    · replace h := (if_neg c1).symm.trans h
      refine g_run 2 (pc' := 20) (L' := [some (.ref 526), some (.int y1), some (.int y2), none]) (S' := [.int y2, .ref 526]) (M' := gm g) rfl ?_
      replace h := zB_of h
      obtain ⟨v2, g3, e4, h⟩ := h
      refine g_inv2 (kd := 1) (p_X12_hangs  e4) rfl rfl rfl (by decide) rfl rfl rfl rfl (by omega) (pc' := 23) rfl (S' := [.int v2]) rfl ?_
      refine g_if (v2 = 0) rfl (t := 96) rfl rfl (fun c5 => ?_) (fun c5 => ?_)
      · replace h := (if_pos c5).symm.trans h
        exact p_X12_smokeAll_96 hD (f_X12_smokeAll_10 n) ih (y1) (y2) g3 _ h
      · replace h := (if_neg c5).symm.trans h
        refine g_run 4 (pc' := 33) (L' := [some (.ref 526), some (.int y1), some (.int y2), none]) (S' := [.int ((gI g3 543 51))]) (M' := gm g3) rfl ?_
        refine g_if ((gI g3 543 51) ≤ 0) rfl (t := 96) rfl rfl (fun c6 => ?_) (fun c6 => ?_)
        · replace h := (if_pos c6).symm.trans h
          exact p_X12_smokeAll_96 hD (f_X12_smokeAll_10 n) ih (y1) (y2) g3 _ h
        · replace h := (if_neg c6).symm.trans h
          refine g_run 10 (pc' := 49) (L' := [some (.ref 526), some (.int y1), some (.int y2), some (.int 0)]) (S' := []) (M' := gm (gsI g3 543 51 ((gI g3 543 51) - 1))) rfl ?_
          exact p_X12_smokeAll_49 hD (f_X12_smokeAll_10 n) ih zFu (y1) (y2) (0) (gsI g3 543 51 ((gI g3 543 51) - 1)) _ h
def f_X12_smokeAll (g : zSg) : Option (Unit × zSg) := f_X12_smokeAll_10 zFu (gI g 543 51) (0) g
set_option maxRecDepth 100000 in
set_option maxHeartbeats 4000000 in
theorem p_X12_smokeAll {sc : zSc} {hp : zHp} {g : zSg} {r : Unit × zSg} (h : f_X12_smokeAll g = some r) : zRn sc hp 7 zM_X12_smokeAll [.ref 526] (gm g) none (gm r.2) := by
  intro d hD
  obtain ⟨d, rfl⟩ : ∃ d', d = d' + 1 := ⟨d - 1, by omega⟩
  show zG _ sc hp (zcd zM_X12_smokeAll) 0 [some (.ref 526), none, none, none] [] (gm g) _
  unfold f_X12_smokeAll at h
  refine g_run 7 (pc' := 10) (L' := [some (.ref 526), some (.int ((gI g 543 51))), some (.int 0), none]) (S' := []) (M' := gm g) rfl ?_
  exact p_X12_smokeAll_10 hD zFu (gI g 543 51) (0) g _ h
def f_X12_cureAll_69 (k4 : Int32 → Int32 → zSg → Option (Int32 × zSg)) (y1 : Int32) (y2 : Int32) (g : zSg) : Option (Int32 × zSg) := k4 (y1) (y2 + 1) g
set_option maxRecDepth 100000 in
set_option maxHeartbeats 4000000 in
theorem p_X12_cureAll_69 {sc : zSc} {hp : zHp} {d : Nat} (hD : 2 ≤ d) (k4 : Int32 → Int32 → zSg → Option (Int32 × zSg)) (hk4 : ∀ (y1 : Int32) (y2 : Int32) (g : zSg) (r : Int32 × zSg), k4 y1 y2 g = some r → zG d sc hp (zcd zM_X12_cureAll) 4 [some (.ref 526), some (.int y1), some (.int y2)] [] (gm g) ((some (.int r.1)), gm r.2)) (y1 : Int32) (y2 : Int32) (g : zSg) (r : Int32 × zSg) (h : f_X12_cureAll_69 k4 y1 y2 g = some r) : zG d sc hp (zcd zM_X12_cureAll) 69 [some (.ref 526), some (.int y1), some (.int y2)] [] (gm g) ((some (.int r.1)), gm r.2) := by
  obtain ⟨d, rfl⟩ : ∃ d', d = d' + 1 := ⟨d - 1, by omega⟩
  unfold f_X12_cureAll_69 at h
  refine g_run 2 (pc' := 4) (L' := [some (.ref 526), some (.int y1), some (.int ((y2 + 1)))]) (S' := []) (M' := gm g) rfl ?_
  exact hk4 (y1) (y2 + 1) g _ h
def fb_X12_cureAll_4 (kk : Int32 → Int32 → zSg → Option (Int32 × zSg)) (y1 : Int32) (y2 : Int32) (g : zSg) : Option (Int32 × zSg) := (if (gI g 526 26) ≤ y2 then some (y1, g) else (zB (f_X12_hangs y2 g) (fun v2 g3 => (if v2 = 0 then f_X12_cureAll_69 kk (y1) (y2) g3 else (if zib (42 + y2) 235 = true then (zB (f_X12_of y2 1 g3) (fun v7 g8 => (if (gI g3 543 (ix (42 + y2))) < v7 then f_X12_cureAll_69 kk (y1) (y2) g8 else f_X12_cureAll_69 kk (y1 + 1) (y2) (gsI (gsI g8 543 49 ((gI g8 543 49) ||| (1 <<< (y2 &&& 31)))) 543 48 ((gI (gsI g8 543 49 ((gI g8 543 49) ||| (1 <<< (y2 &&& 31)))) 543 48) &&& ((1 <<< (y2 &&& 31)) ^^^ (-1))))))) else none)))))
def f_X12_cureAll_4 : Nat → Int32 → Int32 → zSg → Option (Int32 × zSg)
  | 0, _, _, _ => none
  | n + 1, y1, y2, g => fb_X12_cureAll_4 (f_X12_cureAll_4 n) y1 y2 g
set_option maxRecDepth 100000 in
set_option maxHeartbeats 4000000 in
theorem p_X12_cureAll_4 {sc : zSc} {hp : zHp} {d : Nat} (hD : 2 ≤ d) : ∀ (n : Nat) (y1 : Int32) (y2 : Int32) (g : zSg) (r : Int32 × zSg), f_X12_cureAll_4 n y1 y2 g = some r → zG d sc hp (zcd zM_X12_cureAll) 4 [some (.ref 526), some (.int y1), some (.int y2)] [] (gm g) ((some (.int r.1)), gm r.2) := by
  obtain ⟨d, rfl⟩ : ∃ d', d = d' + 1 := ⟨d - 1, by omega⟩
  intro n
  induction n with
  | zero => intro y1 y2 g r h; cases h
  | succ n ih =>
    intro y1 y2 g r h
    replace h : fb_X12_cureAll_4 (f_X12_cureAll_4 n) y1 y2 g = some r := h
    unfold fb_X12_cureAll_4 at h
    refine g_run 3 (pc' := 9) (L' := [some (.ref 526), some (.int y1), some (.int y2)]) (S' := [.int ((gI g 526 26)), .int y2]) (M' := gm g) rfl ?_
    refine g_icmp ((gI g 526 26) ≤ y2) rfl (t := 75) rfl rfl (fun c1 => ?_) (fun c1 => ?_)
    · replace h := (if_pos c1).symm.trans h
      refine g_run 1 (pc' := 76) (L' := [some (.ref 526), some (.int y1), some (.int y2)]) (S' := [.int y1]) (M' := gm g) rfl ?_
      cases h
      exact g_ret rfl rfl rfl rfl
    · replace h := (if_neg c1).symm.trans h
      refine g_run 2 (pc' := 14) (L' := [some (.ref 526), some (.int y1), some (.int y2)]) (S' := [.int y2, .ref 526]) (M' := gm g) rfl ?_
      replace h := zB_of h
      obtain ⟨v2, g3, e4, h⟩ := h
      refine g_inv2 (kd := 1) (p_X12_hangs  e4) rfl rfl rfl (by decide) rfl rfl rfl rfl (by omega) (pc' := 17) rfl (S' := [.int v2]) rfl ?_
      refine g_if (v2 = 0) rfl (t := 69) rfl rfl (fun c5 => ?_) (fun c5 => ?_)
      · replace h := (if_pos c5).symm.trans h
        exact p_X12_cureAll_69 hD (f_X12_cureAll_4 n) ih (y1) (y2) g3 _ h
      · replace h := (if_neg c5).symm.trans h
        refine g_run 5 (pc' := 28) (L' := [some (.ref 526), some (.int y1), some (.int y2)]) (S' := [.int ((42 + y2)), .ref 543]) (M' := gm g3) rfl ?_
        by_cases c6 : zib (42 + y2) 235 = true
        case neg => exact nomatch ((if_neg c6).symm.trans h)
        replace h := (if_pos c6).symm.trans h
        refine g_iald rfl (a := 543) rfl c6 ?_
        refine g_run 3 (pc' := 32) (L' := [some (.ref 526), some (.int y1), some (.int y2)]) (S' := [.int 1, .int y2, .ref 526, .int ((gI g3 543 (ix (42 + y2))))]) (M' := gm g3) rfl ?_
        replace h := zB_of h
        obtain ⟨v7, g8, e9, h⟩ := h
        refine g_inv2 (kd := 1) (p_X12_of  e9) rfl rfl rfl (by decide) rfl rfl rfl rfl (by omega) (pc' := 35) rfl (S' := [.int v7, .int ((gI g3 543 (ix (42 + y2))))]) rfl ?_
        refine g_icmp ((gI g3 543 (ix (42 + y2))) < v7) rfl (t := 69) rfl rfl (fun c10 => ?_) (fun c10 => ?_)
        · replace h := (if_pos c10).symm.trans h
          exact p_X12_cureAll_69 hD (f_X12_cureAll_4 n) ih (y1) (y2) g8 _ h
        · replace h := (if_neg c10).symm.trans h
          refine g_run 23 (pc' := 69) (L' := [some (.ref 526), some (.int ((y1 + 1))), some (.int y2)]) (S' := []) (M' := gm (gsI (gsI g8 543 49 ((gI g8 543 49) ||| (1 <<< (y2 &&& 31)))) 543 48 ((gI (gsI g8 543 49 ((gI g8 543 49) ||| (1 <<< (y2 &&& 31)))) 543 48) &&& ((1 <<< (y2 &&& 31)) ^^^ (-1))))) rfl ?_
          exact p_X12_cureAll_69 hD (f_X12_cureAll_4 n) ih (y1 + 1) (y2) (gsI (gsI g8 543 49 ((gI g8 543 49) ||| (1 <<< (y2 &&& 31)))) 543 48 ((gI (gsI g8 543 49 ((gI g8 543 49) ||| (1 <<< (y2 &&& 31)))) 543 48) &&& ((1 <<< (y2 &&& 31)) ^^^ (-1)))) _ h
def f_X12_cureAll (g : zSg) : Option (Int32 × zSg) := f_X12_cureAll_4 zFu (0) (0) g
set_option maxRecDepth 100000 in
set_option maxHeartbeats 4000000 in
theorem p_X12_cureAll {sc : zSc} {hp : zHp} {g : zSg} {r : Int32 × zSg} (h : f_X12_cureAll g = some r) : zRn sc hp 2 zM_X12_cureAll [.ref 526] (gm g) (some (.int r.1)) (gm r.2) := by
  intro d hD
  obtain ⟨d, rfl⟩ : ∃ d', d = d' + 1 := ⟨d - 1, by omega⟩
  show zG _ sc hp (zcd zM_X12_cureAll) 0 [some (.ref 526), none, none] [] (gm g) _
  unfold f_X12_cureAll at h
  refine g_run 4 (pc' := 4) (L' := [some (.ref 526), some (.int 0), some (.int 0)]) (S' := []) (M' := gm g) rfl ?_
  exact p_X12_cureAll_4 hD zFu (0) (0) g _ h
def f_X12_talkAll_146 (k29 : Int32 → zSg → Option (Unit × zSg)) (y1 : Int32) (g : zSg) : Option (Unit × zSg) := k29 (y1 + 1) g
set_option maxRecDepth 100000 in
set_option maxHeartbeats 4000000 in
theorem p_X12_talkAll_146 {sc : zSc} {hp : zHp} {d : Nat} (hD : 3 ≤ d) (k29 : Int32 → zSg → Option (Unit × zSg)) (hk29 : ∀ (y1 : Int32) (g : zSg) (r : Unit × zSg), k29 y1 g = some r → zG d sc hp (zcd zM_X12_talkAll) 29 [some (.ref 526), some (.int y1), none, none, none] [] (gm g) (none, gm r.2)) (y1 : Int32) (g : zSg) (r : Unit × zSg) (h : f_X12_talkAll_146 k29 y1 g = some r) : zG d sc hp (zcd zM_X12_talkAll) 146 [some (.ref 526), some (.int y1), none, none, none] [] (gm g) (none, gm r.2) := by
  obtain ⟨d, rfl⟩ : ∃ d', d = d' + 1 := ⟨d - 1, by omega⟩
  unfold f_X12_talkAll_146 at h
  refine g_run 2 (pc' := 29) (L' := [some (.ref 526), some (.int ((y1 + 1))), none, none, none]) (S' := []) (M' := gm g) rfl ?_
  exact hk29 (y1 + 1) g _ h
def f_X12_talkAll_140 (k29 : Int32 → zSg → Option (Unit × zSg)) (k39 : Int32 → Int32 → zSg → Option (Unit × zSg)) (y1 : Int32) (y2 : Int32) (g : zSg) : Option (Unit × zSg) := k39 (y1) (y2 + 1) g
set_option maxRecDepth 100000 in
set_option maxHeartbeats 4000000 in
theorem p_X12_talkAll_140 {sc : zSc} {hp : zHp} {d : Nat} (hD : 3 ≤ d) (k29 : Int32 → zSg → Option (Unit × zSg)) (hk29 : ∀ (y1 : Int32) (g : zSg) (r : Unit × zSg), k29 y1 g = some r → zG d sc hp (zcd zM_X12_talkAll) 29 [some (.ref 526), some (.int y1), none, none, none] [] (gm g) (none, gm r.2)) (k39 : Int32 → Int32 → zSg → Option (Unit × zSg)) (hk39 : ∀ (y1 : Int32) (y2 : Int32) (g : zSg) (r : Unit × zSg), k39 y1 y2 g = some r → zG d sc hp (zcd zM_X12_talkAll) 39 [some (.ref 526), some (.int y1), some (.int y2), none, none] [] (gm g) (none, gm r.2)) (y1 : Int32) (y2 : Int32) (g : zSg) (r : Unit × zSg) (h : f_X12_talkAll_140 k29 k39 y1 y2 g = some r) : zG d sc hp (zcd zM_X12_talkAll) 140 [some (.ref 526), some (.int y1), some (.int y2), none, none] [] (gm g) (none, gm r.2) := by
  obtain ⟨d, rfl⟩ : ∃ d', d = d' + 1 := ⟨d - 1, by omega⟩
  unfold f_X12_talkAll_140 at h
  refine g_run 2 (pc' := 39) (L' := [some (.ref 526), some (.int y1), some (.int ((y2 + 1))), none, none]) (S' := []) (M' := gm g) rfl ?_
  exact hk39 (y1) (y2 + 1) g _ h
def f_X12_talkAll_131 (k29 : Int32 → zSg → Option (Unit × zSg)) (k39 : Int32 → Int32 → zSg → Option (Unit × zSg)) (k104 : Int32 → Int32 → Int32 → Int32 → zSg → Option (Unit × zSg)) (y1 : Int32) (y2 : Int32) (y3 : Int32) (y4 : Int32) (s0 : Int32) (s1 : Int32) (s2 : Int32) (g : zSg) : Option (Unit × zSg) := (zB (f_X12_breathe s2 s1 s0 g) (fun v1 g2 => k104 (y1) (y2) (y3) (y4 + 1) g2))
set_option maxRecDepth 100000 in
set_option maxHeartbeats 4000000 in
theorem p_X12_talkAll_131 {sc : zSc} {hp : zHp} {d : Nat} (hD : 3 ≤ d) (k29 : Int32 → zSg → Option (Unit × zSg)) (hk29 : ∀ (y1 : Int32) (g : zSg) (r : Unit × zSg), k29 y1 g = some r → zG d sc hp (zcd zM_X12_talkAll) 29 [some (.ref 526), some (.int y1), none, none, none] [] (gm g) (none, gm r.2)) (k39 : Int32 → Int32 → zSg → Option (Unit × zSg)) (hk39 : ∀ (y1 : Int32) (y2 : Int32) (g : zSg) (r : Unit × zSg), k39 y1 y2 g = some r → zG d sc hp (zcd zM_X12_talkAll) 39 [some (.ref 526), some (.int y1), some (.int y2), none, none] [] (gm g) (none, gm r.2)) (k104 : Int32 → Int32 → Int32 → Int32 → zSg → Option (Unit × zSg)) (hk104 : ∀ (y1 : Int32) (y2 : Int32) (y3 : Int32) (y4 : Int32) (g : zSg) (r : Unit × zSg), k104 y1 y2 y3 y4 g = some r → zG d sc hp (zcd zM_X12_talkAll) 104 [some (.ref 526), some (.int y1), some (.int y2), some (.int y3), some (.int y4)] [] (gm g) (none, gm r.2)) (y1 : Int32) (y2 : Int32) (y3 : Int32) (y4 : Int32) (s0 : Int32) (s1 : Int32) (s2 : Int32) (g : zSg) (r : Unit × zSg) (h : f_X12_talkAll_131 k29 k39 k104 y1 y2 y3 y4 s0 s1 s2 g = some r) : zG d sc hp (zcd zM_X12_talkAll) 131 [some (.ref 526), some (.int y1), some (.int y2), some (.int y3), some (.int y4)] [.int s0, .int s1, .int s2, .ref 526] (gm g) (none, gm r.2) := by
  obtain ⟨d, rfl⟩ : ∃ d', d = d' + 1 := ⟨d - 1, by omega⟩
  unfold f_X12_talkAll_131 at h
  replace h := zB_of h
  obtain ⟨v1, g2, e3, h⟩ := h
  refine g_inv2 (kd := 1) (p_X12_breathe  e3) rfl rfl rfl (by decide) rfl rfl rfl rfl (by omega) (pc' := 134) rfl (S' := []) rfl ?_
  refine g_run 2 (pc' := 104) (L' := [some (.ref 526), some (.int y1), some (.int y2), some (.int y3), some (.int ((y4 + 1)))]) (S' := []) (M' := gm g2) rfl ?_
  exact hk104 (y1) (y2) (y3) (y4 + 1) g2 _ h
def fb_X12_talkAll_104 (k29 : Int32 → zSg → Option (Unit × zSg)) (k39 : Int32 → Int32 → zSg → Option (Unit × zSg)) (kk : Int32 → Int32 → Int32 → Int32 → zSg → Option (Unit × zSg)) (y1 : Int32) (y2 : Int32) (y3 : Int32) (y4 : Int32) (g : zSg) : Option (Unit × zSg) := (if (gI g 526 26) ≤ y4 then f_X12_talkAll_140 k29 k39 (y1) (y2) g else (zB (f_X12_has y3 y4 g) (fun v2 g3 => (if v2 = 0 then f_X12_talkAll_131 k29 k39 kk (y1) (y2) (y3) (y4) (0) (y4) (y1) g3 else f_X12_talkAll_131 k29 k39 kk (y1) (y2) (y3) (y4) (1) (y4) (y1) g3))))
def f_X12_talkAll_104 (k29 : Int32 → zSg → Option (Unit × zSg)) (k39 : Int32 → Int32 → zSg → Option (Unit × zSg)) : Nat → Int32 → Int32 → Int32 → Int32 → zSg → Option (Unit × zSg)
  | 0, _, _, _, _, _ => none
  | n + 1, y1, y2, y3, y4, g => fb_X12_talkAll_104 k29 k39 (f_X12_talkAll_104 k29 k39 n) y1 y2 y3 y4 g
set_option maxRecDepth 100000 in
set_option maxHeartbeats 4000000 in
theorem p_X12_talkAll_104 {sc : zSc} {hp : zHp} {d : Nat} (hD : 3 ≤ d) (k29 : Int32 → zSg → Option (Unit × zSg)) (hk29 : ∀ (y1 : Int32) (g : zSg) (r : Unit × zSg), k29 y1 g = some r → zG d sc hp (zcd zM_X12_talkAll) 29 [some (.ref 526), some (.int y1), none, none, none] [] (gm g) (none, gm r.2)) (k39 : Int32 → Int32 → zSg → Option (Unit × zSg)) (hk39 : ∀ (y1 : Int32) (y2 : Int32) (g : zSg) (r : Unit × zSg), k39 y1 y2 g = some r → zG d sc hp (zcd zM_X12_talkAll) 39 [some (.ref 526), some (.int y1), some (.int y2), none, none] [] (gm g) (none, gm r.2)) : ∀ (n : Nat) (y1 : Int32) (y2 : Int32) (y3 : Int32) (y4 : Int32) (g : zSg) (r : Unit × zSg), f_X12_talkAll_104 k29 k39 n y1 y2 y3 y4 g = some r → zG d sc hp (zcd zM_X12_talkAll) 104 [some (.ref 526), some (.int y1), some (.int y2), some (.int y3), some (.int y4)] [] (gm g) (none, gm r.2) := by
  obtain ⟨d, rfl⟩ : ∃ d', d = d' + 1 := ⟨d - 1, by omega⟩
  intro n
  induction n with
  | zero => intro y1 y2 y3 y4 g r h; cases h
  | succ n ih =>
    intro y1 y2 y3 y4 g r h
    replace h : fb_X12_talkAll_104 k29 k39 (f_X12_talkAll_104 k29 k39 n) y1 y2 y3 y4 g = some r := h
    unfold fb_X12_talkAll_104 at h
    refine g_run 3 (pc' := 110) (L' := [some (.ref 526), some (.int y1), some (.int y2), some (.int y3), some (.int y4)]) (S' := [.int ((gI g 526 26)), .int y4]) (M' := gm g) rfl ?_
    refine g_icmp ((gI g 526 26) ≤ y4) rfl (t := 140) rfl rfl (fun c1 => ?_) (fun c1 => ?_)
    · replace h := (if_pos c1).symm.trans h
      refine g_forget (L' := [some (.ref 526), some (.int y1), some (.int y2), none, none]) (And.intro rfl (And.intro rfl (And.intro rfl True.intro))) ?_
      exact p_X12_talkAll_140 hD k29 hk29 k39 hk39 (y1) (y2) g _ h
    · replace h := (if_neg c1).symm.trans h
      refine g_run 5 (pc' := 120) (L' := [some (.ref 526), some (.int y1), some (.int y2), some (.int y3), some (.int y4)]) (S' := [.int y4, .int y3, .int y4, .int y1, .ref 526]) (M' := gm g) rfl ?_
      replace h := zB_of h
      obtain ⟨v2, g3, e4, h⟩ := h
      refine g_inv2 (kd := 0) (p_X12_has  e4) rfl rfl rfl (by decide) rfl rfl rfl rfl (by omega) (pc' := 123) rfl (S' := [.int v2, .int y4, .int y1, .ref 526]) rfl ?_
      refine g_if (v2 = 0) rfl (t := 130) rfl rfl (fun c5 => ?_) (fun c5 => ?_)
      · replace h := (if_pos c5).symm.trans h
        refine g_run 1 (pc' := 131) (L' := [some (.ref 526), some (.int y1), some (.int y2), some (.int y3), some (.int y4)]) (S' := [.int 0, .int y4, .int y1, .ref 526]) (M' := gm g3) rfl ?_
        exact p_X12_talkAll_131 hD k29 hk29 k39 hk39 (f_X12_talkAll_104 k29 k39 n) ih (y1) (y2) (y3) (y4) (0) (y4) (y1) g3 _ h
      · replace h := (if_neg c5).symm.trans h
        refine g_run 2 (pc' := 131) (L' := [some (.ref 526), some (.int y1), some (.int y2), some (.int y3), some (.int y4)]) (S' := [.int 1, .int y4, .int y1, .ref 526]) (M' := gm g3) rfl ?_
        exact p_X12_talkAll_131 hD k29 hk29 k39 hk39 (f_X12_talkAll_104 k29 k39 n) ih (y1) (y2) (y3) (y4) (1) (y4) (y1) g3 _ h
def f_X12_talkAll_100 (k29 : Int32 → zSg → Option (Unit × zSg)) (k39 : Int32 → Int32 → zSg → Option (Unit × zSg)) (y1 : Int32) (y2 : Int32) (s0 : Int32) (g : zSg) : Option (Unit × zSg) := f_X12_talkAll_104 k29 k39 zFu (y1) (y2) (s0) (0) g
set_option maxRecDepth 100000 in
set_option maxHeartbeats 4000000 in
theorem p_X12_talkAll_100 {sc : zSc} {hp : zHp} {d : Nat} (hD : 3 ≤ d) (k29 : Int32 → zSg → Option (Unit × zSg)) (hk29 : ∀ (y1 : Int32) (g : zSg) (r : Unit × zSg), k29 y1 g = some r → zG d sc hp (zcd zM_X12_talkAll) 29 [some (.ref 526), some (.int y1), none, none, none] [] (gm g) (none, gm r.2)) (k39 : Int32 → Int32 → zSg → Option (Unit × zSg)) (hk39 : ∀ (y1 : Int32) (y2 : Int32) (g : zSg) (r : Unit × zSg), k39 y1 y2 g = some r → zG d sc hp (zcd zM_X12_talkAll) 39 [some (.ref 526), some (.int y1), some (.int y2), none, none] [] (gm g) (none, gm r.2)) (y1 : Int32) (y2 : Int32) (s0 : Int32) (g : zSg) (r : Unit × zSg) (h : f_X12_talkAll_100 k29 k39 y1 y2 s0 g = some r) : zG d sc hp (zcd zM_X12_talkAll) 100 [some (.ref 526), some (.int y1), some (.int y2), none, none] [.int s0] (gm g) (none, gm r.2) := by
  obtain ⟨d, rfl⟩ : ∃ d', d = d' + 1 := ⟨d - 1, by omega⟩
  unfold f_X12_talkAll_100 at h
  refine g_run 3 (pc' := 104) (L' := [some (.ref 526), some (.int y1), some (.int y2), some (.int s0), some (.int 0)]) (S' := []) (M' := gm g) rfl ?_
  exact p_X12_talkAll_104 hD k29 hk29 k39 hk39 zFu (y1) (y2) (s0) (0) g _ h
def f_X12_talkAll_99 (k29 : Int32 → zSg → Option (Unit × zSg)) (k39 : Int32 → Int32 → zSg → Option (Unit × zSg)) (y1 : Int32) (y2 : Int32) (g : zSg) : Option (Unit × zSg) := f_X12_talkAll_100 k29 k39 (y1) (y2) (0) g
set_option maxRecDepth 100000 in
set_option maxHeartbeats 4000000 in
theorem p_X12_talkAll_99 {sc : zSc} {hp : zHp} {d : Nat} (hD : 3 ≤ d) (k29 : Int32 → zSg → Option (Unit × zSg)) (hk29 : ∀ (y1 : Int32) (g : zSg) (r : Unit × zSg), k29 y1 g = some r → zG d sc hp (zcd zM_X12_talkAll) 29 [some (.ref 526), some (.int y1), none, none, none] [] (gm g) (none, gm r.2)) (k39 : Int32 → Int32 → zSg → Option (Unit × zSg)) (hk39 : ∀ (y1 : Int32) (y2 : Int32) (g : zSg) (r : Unit × zSg), k39 y1 y2 g = some r → zG d sc hp (zcd zM_X12_talkAll) 39 [some (.ref 526), some (.int y1), some (.int y2), none, none] [] (gm g) (none, gm r.2)) (y1 : Int32) (y2 : Int32) (g : zSg) (r : Unit × zSg) (h : f_X12_talkAll_99 k29 k39 y1 y2 g = some r) : zG d sc hp (zcd zM_X12_talkAll) 99 [some (.ref 526), some (.int y1), some (.int y2), none, none] [] (gm g) (none, gm r.2) := by
  obtain ⟨d, rfl⟩ : ∃ d', d = d' + 1 := ⟨d - 1, by omega⟩
  unfold f_X12_talkAll_99 at h
  refine g_run 1 (pc' := 100) (L' := [some (.ref 526), some (.int y1), some (.int y2), none, none]) (S' := [.int 0]) (M' := gm g) rfl ?_
  exact p_X12_talkAll_100 hD k29 hk29 k39 hk39 (y1) (y2) (0) g _ h
def fb_X12_talkAll_39 (k29 : Int32 → zSg → Option (Unit × zSg)) (kk : Int32 → Int32 → zSg → Option (Unit × zSg)) (y1 : Int32) (y2 : Int32) (g : zSg) : Option (Unit × zSg) := (if (gI g 526 25) ≤ y2 then f_X12_talkAll_146 k29 (y1) g else (if y2 = y1 then f_X12_talkAll_99 k29 kk (y1) (y2) g else (if zib (0 + y1) 235 = true then (if zib (0 + y2) 235 = true then (if ¬ (gI g 543 (ix (0 + y1))) = (gI g 543 (ix (0 + y2))) then f_X12_talkAll_99 k29 kk (y1) (y2) g else (if zib y2 6 = true then (if zib y1 6 = true then f_X12_talkAll_100 k29 kk (y1) (y2) (((gI g 545 (ix y2)) &&& ((gI g 545 (ix y1)) ^^^ (-1))) &&& ((gI g 543 49) ^^^ (-1))) g else none) else none)) else none) else none)))
def f_X12_talkAll_39 (k29 : Int32 → zSg → Option (Unit × zSg)) : Nat → Int32 → Int32 → zSg → Option (Unit × zSg)
  | 0, _, _, _ => none
  | n + 1, y1, y2, g => fb_X12_talkAll_39 k29 (f_X12_talkAll_39 k29 n) y1 y2 g
set_option maxRecDepth 100000 in
set_option maxHeartbeats 4000000 in
theorem p_X12_talkAll_39 {sc : zSc} {hp : zHp} {d : Nat} (hD : 3 ≤ d) (k29 : Int32 → zSg → Option (Unit × zSg)) (hk29 : ∀ (y1 : Int32) (g : zSg) (r : Unit × zSg), k29 y1 g = some r → zG d sc hp (zcd zM_X12_talkAll) 29 [some (.ref 526), some (.int y1), none, none, none] [] (gm g) (none, gm r.2)) : ∀ (n : Nat) (y1 : Int32) (y2 : Int32) (g : zSg) (r : Unit × zSg), f_X12_talkAll_39 k29 n y1 y2 g = some r → zG d sc hp (zcd zM_X12_talkAll) 39 [some (.ref 526), some (.int y1), some (.int y2), none, none] [] (gm g) (none, gm r.2) := by
  obtain ⟨d, rfl⟩ : ∃ d', d = d' + 1 := ⟨d - 1, by omega⟩
  intro n
  induction n with
  | zero => intro y1 y2 g r h; cases h
  | succ n ih =>
    intro y1 y2 g r h
    replace h : fb_X12_talkAll_39 k29 (f_X12_talkAll_39 k29 n) y1 y2 g = some r := h
    unfold fb_X12_talkAll_39 at h
    refine g_run 3 (pc' := 44) (L' := [some (.ref 526), some (.int y1), some (.int y2), none, none]) (S' := [.int ((gI g 526 25)), .int y2]) (M' := gm g) rfl ?_
    refine g_icmp ((gI g 526 25) ≤ y2) rfl (t := 146) rfl rfl (fun c1 => ?_) (fun c1 => ?_)
    · replace h := (if_pos c1).symm.trans h
      refine g_forget (L' := [some (.ref 526), some (.int y1), none, none, none]) (And.intro rfl (And.intro rfl True.intro)) ?_
      exact p_X12_talkAll_146 hD k29 hk29 (y1) g _ h
    · replace h := (if_neg c1).symm.trans h
      refine g_run 2 (pc' := 49) (L' := [some (.ref 526), some (.int y1), some (.int y2), none, none]) (S' := [.int y1, .int y2]) (M' := gm g) rfl ?_
      refine g_icmp (y2 = y1) rfl (t := 99) rfl rfl (fun c2 => ?_) (fun c2 => ?_)
      · replace h := (if_pos c2).symm.trans h
        exact p_X12_talkAll_99 hD k29 hk29 (f_X12_talkAll_39 k29 n) ih (y1) (y2) g _ h
      · replace h := (if_neg c2).symm.trans h
        refine g_run 5 (pc' := 59) (L' := [some (.ref 526), some (.int y1), some (.int y2), none, none]) (S' := [.int ((0 + y1)), .ref 543]) (M' := gm g) rfl ?_
        by_cases c3 : zib (0 + y1) 235 = true
        case neg => exact nomatch ((if_neg c3).symm.trans h)
        replace h := (if_pos c3).symm.trans h
        refine g_iald rfl (a := 543) rfl c3 ?_
        refine g_run 5 (pc' := 67) (L' := [some (.ref 526), some (.int y1), some (.int y2), none, none]) (S' := [.int ((0 + y2)), .ref 543, .int ((gI g 543 (ix (0 + y1))))]) (M' := gm g) rfl ?_
        by_cases c4 : zib (0 + y2) 235 = true
        case neg => exact nomatch ((if_neg c4).symm.trans h)
        replace h := (if_pos c4).symm.trans h
        refine g_iald rfl (a := 543) rfl c4 ?_
        refine g_icmp (¬ (gI g 543 (ix (0 + y1))) = (gI g 543 (ix (0 + y2)))) rfl (t := 99) rfl rfl (fun c5 => ?_) (fun c5 => ?_)
        · replace h := (if_pos c5).symm.trans h
          exact p_X12_talkAll_99 hD k29 hk29 (f_X12_talkAll_39 k29 n) ih (y1) (y2) g _ h
        · replace h := (if_neg c5).symm.trans h
          refine g_run 3 (pc' := 76) (L' := [some (.ref 526), some (.int y1), some (.int y2), none, none]) (S' := [.int y2, .ref 545]) (M' := gm g) rfl ?_
          by_cases c6 : zib y2 6 = true
          case neg => exact nomatch ((if_neg c6).symm.trans h)
          replace h := (if_pos c6).symm.trans h
          refine g_iald rfl (a := 545) rfl c6 ?_
          refine g_run 3 (pc' := 82) (L' := [some (.ref 526), some (.int y1), some (.int y2), none, none]) (S' := [.int y1, .ref 545, .int ((gI g 545 (ix y2)))]) (M' := gm g) rfl ?_
          by_cases c7 : zib y1 6 = true
          case neg => exact nomatch ((if_neg c7).symm.trans h)
          replace h := (if_pos c7).symm.trans h
          refine g_iald rfl (a := 545) rfl c7 ?_
          refine g_run 11 (pc' := 100) (L' := [some (.ref 526), some (.int y1), some (.int y2), none, none]) (S' := [.int ((((gI g 545 (ix y2)) &&& ((gI g 545 (ix y1)) ^^^ (-1))) &&& ((gI g 543 49) ^^^ (-1))))]) (M' := gm g) rfl ?_
          exact p_X12_talkAll_100 hD k29 hk29 (f_X12_talkAll_39 k29 n) ih (y1) (y2) (((gI g 545 (ix y2)) &&& ((gI g 545 (ix y1)) ^^^ (-1))) &&& ((gI g 543 49) ^^^ (-1))) g _ h
def fb_X12_talkAll_29 (kk : Int32 → zSg → Option (Unit × zSg)) (y1 : Int32) (g : zSg) : Option (Unit × zSg) := (if (gI g 526 25) ≤ y1 then some ((), g) else f_X12_talkAll_39 kk zFu (y1) (0) g)
def f_X12_talkAll_29 : Nat → Int32 → zSg → Option (Unit × zSg)
  | 0, _, _ => none
  | n + 1, y1, g => fb_X12_talkAll_29 (f_X12_talkAll_29 n) y1 g
set_option maxRecDepth 100000 in
set_option maxHeartbeats 4000000 in
theorem p_X12_talkAll_29 {sc : zSc} {hp : zHp} {d : Nat} (hD : 3 ≤ d) : ∀ (n : Nat) (y1 : Int32) (g : zSg) (r : Unit × zSg), f_X12_talkAll_29 n y1 g = some r → zG d sc hp (zcd zM_X12_talkAll) 29 [some (.ref 526), some (.int y1), none, none, none] [] (gm g) (none, gm r.2) := by
  obtain ⟨d, rfl⟩ : ∃ d', d = d' + 1 := ⟨d - 1, by omega⟩
  intro n
  induction n with
  | zero => intro y1 g r h; cases h
  | succ n ih =>
    intro y1 g r h
    replace h : fb_X12_talkAll_29 (f_X12_talkAll_29 n) y1 g = some r := h
    unfold fb_X12_talkAll_29 at h
    refine g_run 3 (pc' := 34) (L' := [some (.ref 526), some (.int y1), none, none, none]) (S' := [.int ((gI g 526 25)), .int y1]) (M' := gm g) rfl ?_
    refine g_icmp ((gI g 526 25) ≤ y1) rfl (t := 152) rfl rfl (fun c1 => ?_) (fun c1 => ?_)
    · replace h := (if_pos c1).symm.trans h
      cases h
      exact g_ret rfl rfl rfl rfl
    · replace h := (if_neg c1).symm.trans h
      refine g_run 2 (pc' := 39) (L' := [some (.ref 526), some (.int y1), some (.int 0), none, none]) (S' := []) (M' := gm g) rfl ?_
      exact p_X12_talkAll_39 hD (f_X12_talkAll_29 n) ih zFu (y1) (0) g _ h
def f_X12_talkAll_27 (g : zSg) : Option (Unit × zSg) := f_X12_talkAll_29 zFu (0) g
set_option maxRecDepth 100000 in
set_option maxHeartbeats 4000000 in
theorem p_X12_talkAll_27 {sc : zSc} {hp : zHp} {d : Nat} (hD : 3 ≤ d) (g : zSg) (r : Unit × zSg) (h : f_X12_talkAll_27 g = some r) : zG d sc hp (zcd zM_X12_talkAll) 27 [some (.ref 526), none, none, none, none] [] (gm g) (none, gm r.2) := by
  obtain ⟨d, rfl⟩ : ∃ d', d = d' + 1 := ⟨d - 1, by omega⟩
  unfold f_X12_talkAll_27 at h
  refine g_run 2 (pc' := 29) (L' := [some (.ref 526), some (.int 0), none, none, none]) (S' := []) (M' := gm g) rfl ?_
  exact p_X12_talkAll_29 hD zFu (0) g _ h
def fb_X12_talkAll_2 (kk : Int32 → zSg → Option (Unit × zSg)) (y1 : Int32) (g : zSg) : Option (Unit × zSg) := (if (gI g 526 25) ≤ y1 then f_X12_talkAll_27 g else (zB (f_X12_knownTo y1 g) (fun v2 g3 => (if zib y1 6 = true then kk (y1 + 1) (gsI g3 (545) (ix y1) v2) else none))))
def f_X12_talkAll_2 : Nat → Int32 → zSg → Option (Unit × zSg)
  | 0, _, _ => none
  | n + 1, y1, g => fb_X12_talkAll_2 (f_X12_talkAll_2 n) y1 g
set_option maxRecDepth 100000 in
set_option maxHeartbeats 4000000 in
theorem p_X12_talkAll_2 {sc : zSc} {hp : zHp} {d : Nat} (hD : 3 ≤ d) : ∀ (n : Nat) (y1 : Int32) (g : zSg) (r : Unit × zSg), f_X12_talkAll_2 n y1 g = some r → zG d sc hp (zcd zM_X12_talkAll) 2 [some (.ref 526), some (.int y1), none, none, none] [] (gm g) (none, gm r.2) := by
  obtain ⟨d, rfl⟩ : ∃ d', d = d' + 1 := ⟨d - 1, by omega⟩
  intro n
  induction n with
  | zero => intro y1 g r h; cases h
  | succ n ih =>
    intro y1 g r h
    replace h : fb_X12_talkAll_2 (f_X12_talkAll_2 n) y1 g = some r := h
    unfold fb_X12_talkAll_2 at h
    refine g_run 3 (pc' := 7) (L' := [some (.ref 526), some (.int y1), none, none, none]) (S' := [.int ((gI g 526 25)), .int y1]) (M' := gm g) rfl ?_
    refine g_icmp ((gI g 526 25) ≤ y1) rfl (t := 27) rfl rfl (fun c1 => ?_) (fun c1 => ?_)
    · replace h := (if_pos c1).symm.trans h
      refine g_forget (L' := [some (.ref 526), none, none, none, none]) (And.intro rfl True.intro) ?_
      exact p_X12_talkAll_27 hD g _ h
    · replace h := (if_neg c1).symm.trans h
      refine g_run 5 (pc' := 17) (L' := [some (.ref 526), some (.int y1), none, none, none]) (S' := [.int y1, .ref 526, .int y1, .ref 545]) (M' := gm g) rfl ?_
      replace h := zB_of h
      obtain ⟨v2, g3, e4, h⟩ := h
      refine g_inv2 (kd := 1) (p_X12_knownTo  e4) rfl rfl rfl (by decide) rfl rfl rfl rfl (by omega) (pc' := 20) rfl (S' := [.int v2, .int y1, .ref 545]) rfl ?_
      by_cases c5 : zib y1 6 = true
      case neg => exact nomatch ((if_neg c5).symm.trans h)
      replace h := (if_pos c5).symm.trans h
      refine g_iast rfl (a := 545) rfl c5 ?_
      refine g_run 2 (pc' := 2) (L' := [some (.ref 526), some (.int ((y1 + 1))), none, none, none]) (S' := []) (M' := gm (gsI g3 (545) (ix y1) v2)) rfl ?_
      exact ih (y1 + 1) (gsI g3 (545) (ix y1) v2) _ h
def f_X12_talkAll (g : zSg) : Option (Unit × zSg) := f_X12_talkAll_2 zFu (0) g
set_option maxRecDepth 100000 in
set_option maxHeartbeats 4000000 in
theorem p_X12_talkAll {sc : zSc} {hp : zHp} {g : zSg} {r : Unit × zSg} (h : f_X12_talkAll g = some r) : zRn sc hp 3 zM_X12_talkAll [.ref 526] (gm g) none (gm r.2) := by
  intro d hD
  obtain ⟨d, rfl⟩ : ∃ d', d = d' + 1 := ⟨d - 1, by omega⟩
  show zG _ sc hp (zcd zM_X12_talkAll) 0 [some (.ref 526), none, none, none, none] [] (gm g) _
  unfold f_X12_talkAll at h
  refine g_run 2 (pc' := 2) (L' := [some (.ref 526), some (.int 0), none, none, none]) (S' := []) (M' := gm g) rfl ?_
  exact p_X12_talkAll_2 hD zFu (0) g _ h
def f_X12_live (g : zSg) : Option (Int32 × zSg) := (zB (f_X12_smokeAll g) (fun v1 g2 => (zB (f_X12_cureAll g2) (fun v4 g5 => (zB (f_X12_talkAll g5) (fun v7 g8 => some (v4, (gsI (gsI g8 543 52 (imin 999 ((gI g8 543 52) + (2 * v4)))) 543 53 ((gI (gsI g8 543 52 (imin 999 ((gI g8 543 52) + (2 * v4)))) 543 53) + 1)))))))))
set_option maxRecDepth 100000 in
set_option maxHeartbeats 4000000 in
theorem p_X12_live {sc : zSc} {hp : zHp} {g : zSg} {r : Int32 × zSg} (h : f_X12_live g = some r) : zRn sc hp 8 zM_X12_live [.ref 526] (gm g) (some (.int r.1)) (gm r.2) := by
  intro d hD
  obtain ⟨d, rfl⟩ : ∃ d', d = d' + 1 := ⟨d - 1, by omega⟩
  show zG _ sc hp (zcd zM_X12_live) 0 [some (.ref 526), none] [] (gm g) _
  unfold f_X12_live at h
  refine g_run 1 (pc' := 1) (L' := [some (.ref 526), none]) (S' := [.ref 526]) (M' := gm g) rfl ?_
  replace h := zB_of h
  obtain ⟨v1, g2, e3, h⟩ := h
  refine g_inv2 (kd := 1) (p_X12_smokeAll  e3) rfl rfl rfl (by decide) rfl rfl rfl rfl (by omega) (pc' := 4) rfl (S' := []) rfl ?_
  refine g_run 1 (pc' := 5) (L' := [some (.ref 526), none]) (S' := [.ref 526]) (M' := gm g2) rfl ?_
  replace h := zB_of h
  obtain ⟨v4, g5, e6, h⟩ := h
  refine g_inv2 (kd := 1) (p_X12_cureAll  e6) rfl rfl rfl (by decide) rfl rfl rfl rfl (by omega) (pc' := 8) rfl (S' := [.int v4]) rfl ?_
  refine g_run 2 (pc' := 10) (L' := [some (.ref 526), some (.int v4)]) (S' := [.ref 526]) (M' := gm g5) rfl ?_
  replace h := zB_of h
  obtain ⟨v7, g8, e9, h⟩ := h
  refine g_inv2 (kd := 1) (p_X12_talkAll  e9) rfl rfl rfl (by decide) rfl rfl rfl rfl (by omega) (pc' := 13) rfl (S' := []) rfl ?_
  refine g_run 12 (pc' := 33) (L' := [some (.ref 526), some (.int v4)]) (S' := [.int (((gI g8 543 52) + (2 * v4))), .int 999, .int 52, .ref 543]) (M' := gm g8) rfl ?_
  refine g_spec2 (kd := 0) rfl rfl rfl (by decide) rfl (jd := 1001) rfl (by decide) rfl (Or.inl (by decide)) (S' := [.int ((imin 999 ((gI g8 543 52) + (2 * v4)))), .int 52, .ref 543]) (M' := gm g8) rfl rfl (pc' := 36) rfl ?_
  refine g_run 10 (pc' := 49) (L' := [some (.ref 526), some (.int v4)]) (S' := [.int v4]) (M' := gm (gsI (gsI g8 543 52 (imin 999 ((gI g8 543 52) + (2 * v4)))) 543 53 ((gI (gsI g8 543 52 (imin 999 ((gI g8 543 52) + (2 * v4)))) 543 53) + 1))) rfl ?_
  cases h
  exact g_ret rfl rfl rfl rfl
def f_X12_passNight_135 (y1 : Int32) (g : zSg) : Option (Unit × zSg) := (if zib (55 + (3 * (gI g 543 54))) 235 = true then (zB (f_J6_bitCount_0f7a4 (gI (gsI g (543) (ix (55 + (3 * (gI g 543 54)))) y1) 543 49) (gsI g (543) (ix (55 + (3 * (gI g 543 54)))) y1)) (fun v2 g3 => (if zib ((55 + (3 * (gI g 543 54))) + 1) 235 = true then (if zib ((55 + (3 * (gI g 543 54))) + 2) 235 = true then some ((), (gsI (gsI (gsI g3 (543) (ix ((55 + (3 * (gI g 543 54))) + 1)) v2) (543) (ix ((55 + (3 * (gI g 543 54))) + 2)) (gI (gsI g3 (543) (ix ((55 + (3 * (gI g 543 54))) + 1)) v2) 543 51)) 543 54 ((gI (gsI (gsI g3 (543) (ix ((55 + (3 * (gI g 543 54))) + 1)) v2) (543) (ix ((55 + (3 * (gI g 543 54))) + 2)) (gI (gsI g3 (543) (ix ((55 + (3 * (gI g 543 54))) + 1)) v2) 543 51)) 543 54) + 1))) else none) else none))) else none)
set_option maxRecDepth 100000 in
set_option maxHeartbeats 4000000 in
theorem p_X12_passNight_135 {sc : zSc} {hp : zHp} {d : Nat} (hD : 9 ≤ d) (y1 : Int32) (g : zSg) (r : Unit × zSg) (h : f_X12_passNight_135 y1 g = some r) : zG d sc hp (zcd zM_X12_passNight) 135 [some (.ref 526), some (.int y1), none] [] (gm g) (none, gm r.2) := by
  obtain ⟨d, rfl⟩ : ∃ d', d = d' + 1 := ⟨d - 1, by omega⟩
  unfold f_X12_passNight_135 at h
  refine g_run 13 (pc' := 154) (L' := [some (.ref 526), some (.int y1), some (.int ((55 + (3 * (gI g 543 54)))))]) (S' := [.int y1, .int ((55 + (3 * (gI g 543 54)))), .ref 543]) (M' := gm g) rfl ?_
  by_cases c1 : zib (55 + (3 * (gI g 543 54))) 235 = true
  case neg => exact nomatch ((if_neg c1).symm.trans h)
  replace h := (if_pos c1).symm.trans h
  refine g_iast rfl (a := 543) rfl c1 ?_
  refine g_run 9 (pc' := 169) (L' := [some (.ref 526), some (.int y1), some (.int ((55 + (3 * (gI g 543 54)))))]) (S' := [.int ((gI (gsI g (543) (ix (55 + (3 * (gI g 543 54)))) y1) 543 49)), .int (((55 + (3 * (gI g 543 54))) + 1)), .ref 543]) (M' := gm (gsI g (543) (ix (55 + (3 * (gI g 543 54)))) y1)) rfl ?_
  replace h := zB_of h
  obtain ⟨v2, g3, e4, h⟩ := h
  refine g_inv2 (kd := 0) (p_J6_bitCount_0f7a4  e4) rfl rfl rfl (by decide) rfl rfl rfl rfl (by omega) (pc' := 172) rfl (S' := [.int v2, .int (((55 + (3 * (gI g 543 54))) + 1)), .ref 543]) rfl ?_
  by_cases c5 : zib ((55 + (3 * (gI g 543 54))) + 1) 235 = true
  case neg => exact nomatch ((if_neg c5).symm.trans h)
  replace h := (if_pos c5).symm.trans h
  refine g_iast rfl (a := 543) rfl c5 ?_
  refine g_run 9 (pc' := 187) (L' := [some (.ref 526), some (.int y1), some (.int ((55 + (3 * (gI g 543 54)))))]) (S' := [.int ((gI (gsI g3 (543) (ix ((55 + (3 * (gI g 543 54))) + 1)) v2) 543 51)), .int (((55 + (3 * (gI g 543 54))) + 2)), .ref 543]) (M' := gm (gsI g3 (543) (ix ((55 + (3 * (gI g 543 54))) + 1)) v2)) rfl ?_
  by_cases c6 : zib ((55 + (3 * (gI g 543 54))) + 2) 235 = true
  case neg => exact nomatch ((if_neg c6).symm.trans h)
  replace h := (if_pos c6).symm.trans h
  refine g_iast rfl (a := 543) rfl c6 ?_
  refine g_run 8 (pc' := 199) (L' := [some (.ref 526), some (.int y1), some (.int ((55 + (3 * (gI g 543 54)))))]) (S' := []) (M' := gm (gsI (gsI (gsI g3 (543) (ix ((55 + (3 * (gI g 543 54))) + 1)) v2) (543) (ix ((55 + (3 * (gI g 543 54))) + 2)) (gI (gsI g3 (543) (ix ((55 + (3 * (gI g 543 54))) + 1)) v2) 543 51)) 543 54 ((gI (gsI (gsI g3 (543) (ix ((55 + (3 * (gI g 543 54))) + 1)) v2) (543) (ix ((55 + (3 * (gI g 543 54))) + 2)) (gI (gsI g3 (543) (ix ((55 + (3 * (gI g 543 54))) + 1)) v2) 543 51)) 543 54) + 1))) rfl ?_
  cases h
  exact g_ret rfl rfl rfl rfl
def f_X12_passNight_124 (y1 : Int32) (g : zSg) : Option (Unit × zSg) := f_X12_passNight_135 (y1) (gsI g 543 54 ((gI g 543 54) - 1))
set_option maxRecDepth 100000 in
set_option maxHeartbeats 4000000 in
theorem p_X12_passNight_124 {sc : zSc} {hp : zHp} {d : Nat} (hD : 9 ≤ d) (y1 : Int32) (g : zSg) (r : Unit × zSg) (h : f_X12_passNight_124 y1 g = some r) : zG d sc hp (zcd zM_X12_passNight) 124 [some (.ref 526), some (.int y1), none] [] (gm g) (none, gm r.2) := by
  obtain ⟨d, rfl⟩ : ∃ d', d = d' + 1 := ⟨d - 1, by omega⟩
  unfold f_X12_passNight_124 at h
  refine g_run 8 (pc' := 135) (L' := [some (.ref 526), some (.int y1), none]) (S' := []) (M' := gm (gsI g 543 54 ((gI g 543 54) - 1))) rfl ?_
  exact p_X12_passNight_135 hD (y1) (gsI g 543 54 ((gI g 543 54) - 1)) _ h
def fb_X12_passNight_91 (kk : Int32 → Int32 → zSg → Option (Unit × zSg)) (y1 : Int32) (y2 : Int32) (g : zSg) : Option (Unit × zSg) := (if 180 ≤ y2 then f_X12_passNight_124 (y1) g else (if zib (55 + y2) 235 = true then (if zib ((55 + y2) - 3) 235 = true then kk (y1) (y2 + 1) (gsI g (543) (ix ((55 + y2) - 3)) (gI g 543 (ix (55 + y2)))) else none) else none))
def f_X12_passNight_91 : Nat → Int32 → Int32 → zSg → Option (Unit × zSg)
  | 0, _, _, _ => none
  | n + 1, y1, y2, g => fb_X12_passNight_91 (f_X12_passNight_91 n) y1 y2 g
set_option maxRecDepth 100000 in
set_option maxHeartbeats 4000000 in
theorem p_X12_passNight_91 {sc : zSc} {hp : zHp} {d : Nat} (hD : 9 ≤ d) : ∀ (n : Nat) (y1 : Int32) (y2 : Int32) (g : zSg) (r : Unit × zSg), f_X12_passNight_91 n y1 y2 g = some r → zG d sc hp (zcd zM_X12_passNight) 91 [some (.ref 526), some (.int y1), some (.int y2)] [] (gm g) (none, gm r.2) := by
  obtain ⟨d, rfl⟩ : ∃ d', d = d' + 1 := ⟨d - 1, by omega⟩
  intro n
  induction n with
  | zero => intro y1 y2 g r h; cases h
  | succ n ih =>
    intro y1 y2 g r h
    replace h : fb_X12_passNight_91 (f_X12_passNight_91 n) y1 y2 g = some r := h
    unfold fb_X12_passNight_91 at h
    refine g_run 2 (pc' := 95) (L' := [some (.ref 526), some (.int y1), some (.int y2)]) (S' := [.int 180, .int y2]) (M' := gm g) rfl ?_
    refine g_icmp (180 ≤ y2) rfl (t := 124) rfl rfl (fun c1 => ?_) (fun c1 => ?_)
    · replace h := (if_pos c1).symm.trans h
      refine g_forget (L' := [some (.ref 526), some (.int y1), none]) (And.intro rfl (And.intro rfl True.intro)) ?_
      exact p_X12_passNight_124 hD (y1) g _ h
    · replace h := (if_neg c1).symm.trans h
      refine g_run 12 (pc' := 116) (L' := [some (.ref 526), some (.int y1), some (.int y2)]) (S' := [.int ((55 + y2)), .ref 543, .int (((55 + y2) - 3)), .ref 543]) (M' := gm g) rfl ?_
      by_cases c2 : zib (55 + y2) 235 = true
      case neg => exact nomatch ((if_neg c2).symm.trans h)
      replace h := (if_pos c2).symm.trans h
      refine g_iald rfl (a := 543) rfl c2 ?_
      by_cases c3 : zib ((55 + y2) - 3) 235 = true
      case neg => exact nomatch ((if_neg c3).symm.trans h)
      replace h := (if_pos c3).symm.trans h
      refine g_iast rfl (a := 543) rfl c3 ?_
      refine g_run 2 (pc' := 91) (L' := [some (.ref 526), some (.int y1), some (.int ((y2 + 1)))]) (S' := []) (M' := gm (gsI g (543) (ix ((55 + y2) - 3)) (gI g 543 (ix (55 + y2))))) rfl ?_
      exact ih (y1) (y2 + 1) (gsI g (543) (ix ((55 + y2) - 3)) (gI g 543 (ix (55 + y2)))) _ h
def f_X12_passNight_77 (y1 : Int32) (g : zSg) : Option (Unit × zSg) := (if ¬ (gI g 543 54) = 60 then f_X12_passNight_135 (y1) g else f_X12_passNight_91 zFu (y1) (3) g)
set_option maxRecDepth 100000 in
set_option maxHeartbeats 4000000 in
theorem p_X12_passNight_77 {sc : zSc} {hp : zHp} {d : Nat} (hD : 9 ≤ d) (y1 : Int32) (g : zSg) (r : Unit × zSg) (h : f_X12_passNight_77 y1 g = some r) : zG d sc hp (zcd zM_X12_passNight) 77 [some (.ref 526), some (.int y1), none] [] (gm g) (none, gm r.2) := by
  obtain ⟨d, rfl⟩ : ∃ d', d = d' + 1 := ⟨d - 1, by omega⟩
  unfold f_X12_passNight_77 at h
  refine g_run 5 (pc' := 86) (L' := [some (.ref 526), some (.int y1), none]) (S' := [.int 60, .int ((gI g 543 54))]) (M' := gm g) rfl ?_
  refine g_icmp (¬ (gI g 543 54) = 60) rfl (t := 135) rfl rfl (fun c1 => ?_) (fun c1 => ?_)
  · replace h := (if_pos c1).symm.trans h
    exact p_X12_passNight_135 hD (y1) g _ h
  · replace h := (if_neg c1).symm.trans h
    refine g_run 2 (pc' := 91) (L' := [some (.ref 526), some (.int y1), some (.int 3)]) (S' := []) (M' := gm g) rfl ?_
    exact p_X12_passNight_91 hD zFu (y1) (3) g _ h
def f_X12_passNight_69 (k36 : Int32 → Int32 → zSg → Option (Unit × zSg)) (y2 : Int32) (s0 : Int32) (s1 : Int32) (g : zSg) : Option (Unit × zSg) := k36 (s1 ||| s0) (y2 + 1) g
set_option maxRecDepth 100000 in
set_option maxHeartbeats 4000000 in
theorem p_X12_passNight_69 {sc : zSc} {hp : zHp} {d : Nat} (hD : 9 ≤ d) (k36 : Int32 → Int32 → zSg → Option (Unit × zSg)) (hk36 : ∀ (y1 : Int32) (y2 : Int32) (g : zSg) (r : Unit × zSg), k36 y1 y2 g = some r → zG d sc hp (zcd zM_X12_passNight) 36 [some (.ref 526), some (.int y1), some (.int y2)] [] (gm g) (none, gm r.2)) (y2 : Int32) (s0 : Int32) (s1 : Int32) (g : zSg) (r : Unit × zSg) (h : f_X12_passNight_69 k36 y2 s0 s1 g = some r) : zG d sc hp (zcd zM_X12_passNight) 69 [some (.ref 526), none, some (.int y2)] [.int s0, .int s1] (gm g) (none, gm r.2) := by
  obtain ⟨d, rfl⟩ : ∃ d', d = d' + 1 := ⟨d - 1, by omega⟩
  unfold f_X12_passNight_69 at h
  refine g_run 4 (pc' := 36) (L' := [some (.ref 526), some (.int ((s1 ||| s0))), some (.int ((y2 + 1)))]) (S' := []) (M' := gm g) rfl ?_
  exact hk36 (s1 ||| s0) (y2 + 1) g _ h
def fb_X12_passNight_36 (kk : Int32 → Int32 → zSg → Option (Unit × zSg)) (y1 : Int32) (y2 : Int32) (g : zSg) : Option (Unit × zSg) := (if (gI g 526 25) ≤ y2 then f_X12_passNight_77 (y1) g else (zB (f_X12_knownTo y2 g) (fun v2 g3 => (if zib y2 6 = true then (if (v2 &&& ((gI g3 546 (ix y2)) ^^^ (-1))) = 0 then f_X12_passNight_69 kk (y2) (0) (y1) g3 else f_X12_passNight_69 kk (y2) (1 <<< (y2 &&& 31)) (y1) g3) else none))))
def f_X12_passNight_36 : Nat → Int32 → Int32 → zSg → Option (Unit × zSg)
  | 0, _, _, _ => none
  | n + 1, y1, y2, g => fb_X12_passNight_36 (f_X12_passNight_36 n) y1 y2 g
set_option maxRecDepth 100000 in
set_option maxHeartbeats 4000000 in
theorem p_X12_passNight_36 {sc : zSc} {hp : zHp} {d : Nat} (hD : 9 ≤ d) : ∀ (n : Nat) (y1 : Int32) (y2 : Int32) (g : zSg) (r : Unit × zSg), f_X12_passNight_36 n y1 y2 g = some r → zG d sc hp (zcd zM_X12_passNight) 36 [some (.ref 526), some (.int y1), some (.int y2)] [] (gm g) (none, gm r.2) := by
  obtain ⟨d, rfl⟩ : ∃ d', d = d' + 1 := ⟨d - 1, by omega⟩
  intro n
  induction n with
  | zero => intro y1 y2 g r h; cases h
  | succ n ih =>
    intro y1 y2 g r h
    replace h : fb_X12_passNight_36 (f_X12_passNight_36 n) y1 y2 g = some r := h
    unfold fb_X12_passNight_36 at h
    refine g_run 3 (pc' := 41) (L' := [some (.ref 526), some (.int y1), some (.int y2)]) (S' := [.int ((gI g 526 25)), .int y2]) (M' := gm g) rfl ?_
    refine g_icmp ((gI g 526 25) ≤ y2) rfl (t := 77) rfl rfl (fun c1 => ?_) (fun c1 => ?_)
    · replace h := (if_pos c1).symm.trans h
      refine g_forget (L' := [some (.ref 526), some (.int y1), none]) (And.intro rfl (And.intro rfl True.intro)) ?_
      exact p_X12_passNight_77 hD (y1) g _ h
    · replace h := (if_neg c1).symm.trans h
      refine g_run 3 (pc' := 47) (L' := [some (.ref 526), some (.int y1), some (.int y2)]) (S' := [.int y2, .ref 526, .int y1]) (M' := gm g) rfl ?_
      replace h := zB_of h
      obtain ⟨v2, g3, e4, h⟩ := h
      refine g_inv2 (kd := 1) (p_X12_knownTo  e4) rfl rfl rfl (by decide) rfl rfl rfl rfl (by omega) (pc' := 50) rfl (S' := [.int v2, .int y1]) rfl ?_
      refine g_run 3 (pc' := 55) (L' := [some (.ref 526), some (.int y1), some (.int y2)]) (S' := [.int y2, .ref 546, .int v2, .int y1]) (M' := gm g3) rfl ?_
      by_cases c5 : zib y2 6 = true
      case neg => exact nomatch ((if_neg c5).symm.trans h)
      replace h := (if_pos c5).symm.trans h
      refine g_iald rfl (a := 546) rfl c5 ?_
      refine g_run 3 (pc' := 59) (L' := [some (.ref 526), some (.int y1), some (.int y2)]) (S' := [.int ((v2 &&& ((gI g3 546 (ix y2)) ^^^ (-1)))), .int y1]) (M' := gm g3) rfl ?_
      refine g_if ((v2 &&& ((gI g3 546 (ix y2)) ^^^ (-1))) = 0) rfl (t := 68) rfl rfl (fun c6 => ?_) (fun c6 => ?_)
      · replace h := (if_pos c6).symm.trans h
        refine g_run 1 (pc' := 69) (L' := [some (.ref 526), some (.int y1), some (.int y2)]) (S' := [.int 0, .int y1]) (M' := gm g3) rfl ?_
        refine g_forget (L' := [some (.ref 526), none, some (.int y2)]) (And.intro rfl (And.intro rfl True.intro)) ?_
        exact p_X12_passNight_69 hD (f_X12_passNight_36 n) ih (y2) (0) (y1) g3 _ h
      · replace h := (if_neg c6).symm.trans h
        refine g_run 4 (pc' := 69) (L' := [some (.ref 526), some (.int y1), some (.int y2)]) (S' := [.int ((1 <<< (y2 &&& 31))), .int y1]) (M' := gm g3) rfl ?_
        refine g_forget (L' := [some (.ref 526), none, some (.int y2)]) (And.intro rfl (And.intro rfl True.intro)) ?_
        exact p_X12_passNight_69 hD (f_X12_passNight_36 n) ih (y2) (1 <<< (y2 &&& 31)) (y1) g3 _ h
def f_X12_passNight_27 (g : zSg) : Option (Unit × zSg) := (zB (f_X12_live g) (fun v1 g2 => f_X12_passNight_36 zFu (0) (0) g2))
set_option maxRecDepth 100000 in
set_option maxHeartbeats 4000000 in
theorem p_X12_passNight_27 {sc : zSc} {hp : zHp} {d : Nat} (hD : 9 ≤ d) (g : zSg) (r : Unit × zSg) (h : f_X12_passNight_27 g = some r) : zG d sc hp (zcd zM_X12_passNight) 27 [some (.ref 526), none, none] [] (gm g) (none, gm r.2) := by
  obtain ⟨d, rfl⟩ : ∃ d', d = d' + 1 := ⟨d - 1, by omega⟩
  unfold f_X12_passNight_27 at h
  refine g_run 1 (pc' := 28) (L' := [some (.ref 526), none, none]) (S' := [.ref 526]) (M' := gm g) rfl ?_
  replace h := zB_of h
  obtain ⟨v1, g2, e3, h⟩ := h
  refine g_inv2 (kd := 1) (p_X12_live  e3) rfl rfl rfl (by decide) rfl rfl rfl rfl (by omega) (pc' := 31) rfl (S' := [.int v1]) rfl ?_
  refine g_run 5 (pc' := 36) (L' := [some (.ref 526), some (.int 0), some (.int 0)]) (S' := []) (M' := gm g2) rfl ?_
  exact p_X12_passNight_36 hD zFu (0) (0) g2 _ h
def fb_X12_passNight_2 (kk : Int32 → zSg → Option (Unit × zSg)) (y1 : Int32) (g : zSg) : Option (Unit × zSg) := (if (gI g 526 25) ≤ y1 then f_X12_passNight_27 g else (zB (f_X12_knownTo y1 g) (fun v2 g3 => (if zib y1 6 = true then kk (y1 + 1) (gsI g3 (546) (ix y1) v2) else none))))
def f_X12_passNight_2 : Nat → Int32 → zSg → Option (Unit × zSg)
  | 0, _, _ => none
  | n + 1, y1, g => fb_X12_passNight_2 (f_X12_passNight_2 n) y1 g
set_option maxRecDepth 100000 in
set_option maxHeartbeats 4000000 in
theorem p_X12_passNight_2 {sc : zSc} {hp : zHp} {d : Nat} (hD : 9 ≤ d) : ∀ (n : Nat) (y1 : Int32) (g : zSg) (r : Unit × zSg), f_X12_passNight_2 n y1 g = some r → zG d sc hp (zcd zM_X12_passNight) 2 [some (.ref 526), some (.int y1), none] [] (gm g) (none, gm r.2) := by
  obtain ⟨d, rfl⟩ : ∃ d', d = d' + 1 := ⟨d - 1, by omega⟩
  intro n
  induction n with
  | zero => intro y1 g r h; cases h
  | succ n ih =>
    intro y1 g r h
    replace h : fb_X12_passNight_2 (f_X12_passNight_2 n) y1 g = some r := h
    unfold fb_X12_passNight_2 at h
    refine g_run 3 (pc' := 7) (L' := [some (.ref 526), some (.int y1), none]) (S' := [.int ((gI g 526 25)), .int y1]) (M' := gm g) rfl ?_
    refine g_icmp ((gI g 526 25) ≤ y1) rfl (t := 27) rfl rfl (fun c1 => ?_) (fun c1 => ?_)
    · replace h := (if_pos c1).symm.trans h
      refine g_forget (L' := [some (.ref 526), none, none]) (And.intro rfl True.intro) ?_
      exact p_X12_passNight_27 hD g _ h
    · replace h := (if_neg c1).symm.trans h
      refine g_run 5 (pc' := 17) (L' := [some (.ref 526), some (.int y1), none]) (S' := [.int y1, .ref 526, .int y1, .ref 546]) (M' := gm g) rfl ?_
      replace h := zB_of h
      obtain ⟨v2, g3, e4, h⟩ := h
      refine g_inv2 (kd := 1) (p_X12_knownTo  e4) rfl rfl rfl (by decide) rfl rfl rfl rfl (by omega) (pc' := 20) rfl (S' := [.int v2, .int y1, .ref 546]) rfl ?_
      by_cases c5 : zib y1 6 = true
      case neg => exact nomatch ((if_neg c5).symm.trans h)
      replace h := (if_pos c5).symm.trans h
      refine g_iast rfl (a := 546) rfl c5 ?_
      refine g_run 2 (pc' := 2) (L' := [some (.ref 526), some (.int ((y1 + 1))), none]) (S' := []) (M' := gm (gsI g3 (546) (ix y1) v2)) rfl ?_
      exact ih (y1 + 1) (gsI g3 (546) (ix y1) v2) _ h
def f_X12_passNight (g : zSg) : Option (Unit × zSg) := f_X12_passNight_2 zFu (0) g
set_option maxRecDepth 100000 in
set_option maxHeartbeats 4000000 in
theorem p_X12_passNight {sc : zSc} {hp : zHp} {g : zSg} {r : Unit × zSg} (h : f_X12_passNight g = some r) : zRn sc hp 9 zM_X12_passNight [.ref 526] (gm g) none (gm r.2) := by
  intro d hD
  obtain ⟨d, rfl⟩ : ∃ d', d = d' + 1 := ⟨d - 1, by omega⟩
  show zG _ sc hp (zcd zM_X12_passNight) 0 [some (.ref 526), none, none] [] (gm g) _
  unfold f_X12_passNight at h
  refine g_run 2 (pc' := 2) (L' := [some (.ref 526), some (.int 0), none]) (S' := []) (M' := gm g) rfl ?_
  exact p_X12_passNight_2 hD zFu (0) g _ h
def f_X12_rule (x1 : Int32) (g : zSg) : Option (Int32 × zSg) := (if (gI g 526 27) = 0 then some ((-1), g) else (zB (f_X12_in x1 0 3 g) (fun v2 g3 => (if ¬ v2 = 0 then (if ¬ x1 = 2 then (if ¬ x1 = 3 then (if zib x1 5 = true then some ((gI g3 540 (ix x1)), g3) else none) else some ((gI g3 543 52), g3)) else some ((gI g3 543 51), g3)) else some ((-1), g3)))))
set_option maxRecDepth 100000 in
set_option maxHeartbeats 4000000 in
theorem p_X12_rule {sc : zSc} {hp : zHp} {x1 : Int32} {g : zSg} {r : Int32 × zSg} (h : f_X12_rule x1 g = some r) : zRn sc hp 1 zM_X12_rule [.ref 526, .int x1] (gm g) (some (.int r.1)) (gm r.2) := by
  intro d hD
  obtain ⟨d, rfl⟩ : ∃ d', d = d' + 1 := ⟨d - 1, by omega⟩
  show zG _ sc hp (zcd zM_X12_rule) 0 [some (.ref 526), some (.int x1)] [] (gm g) _
  unfold f_X12_rule at h
  refine g_run 2 (pc' := 4) (L' := [some (.ref 526), some (.int x1)]) (S' := [.int ((gI g 526 27))]) (M' := gm g) rfl ?_
  refine g_if ((gI g 526 27) = 0) rfl (t := 16) rfl rfl (fun c1 => ?_) (fun c1 => ?_)
  · replace h := (if_pos c1).symm.trans h
    refine g_run 1 (pc' := 17) (L' := [some (.ref 526), some (.int x1)]) (S' := [.int (-1)]) (M' := gm g) rfl ?_
    cases h
    exact g_ret rfl rfl rfl rfl
  · replace h := (if_neg c1).symm.trans h
    refine g_run 3 (pc' := 10) (L' := [some (.ref 526), some (.int x1)]) (S' := [.int 3, .int 0, .int x1]) (M' := gm g) rfl ?_
    replace h := zB_of h
    obtain ⟨v2, g3, e4, h⟩ := h
    refine g_inv2 (kd := 0) (p_X12_in  e4) rfl rfl rfl (by decide) rfl rfl rfl rfl (by omega) (pc' := 13) rfl (S' := [.int v2]) rfl ?_
    refine g_if (¬ v2 = 0) rfl (t := 18) rfl rfl (fun c5 => ?_) (fun c5 => ?_)
    · replace h := (if_pos c5).symm.trans h
      refine g_run 2 (pc' := 20) (L' := [some (.ref 526), some (.int x1)]) (S' := [.int 2, .int x1]) (M' := gm g3) rfl ?_
      refine g_icmp (¬ x1 = 2) rfl (t := 33) rfl rfl (fun c6 => ?_) (fun c6 => ?_)
      · replace h := (if_pos c6).symm.trans h
        refine g_run 2 (pc' := 35) (L' := [some (.ref 526), some (.int x1)]) (S' := [.int 3, .int x1]) (M' := gm g3) rfl ?_
        refine g_icmp (¬ x1 = 3) rfl (t := 48) rfl rfl (fun c7 => ?_) (fun c7 => ?_)
        · replace h := (if_pos c7).symm.trans h
          refine g_run 3 (pc' := 53) (L' := [some (.ref 526), some (.int x1)]) (S' := [.int x1, .ref 540]) (M' := gm g3) rfl ?_
          by_cases c8 : zib x1 5 = true
          case neg => exact nomatch ((if_neg c8).symm.trans h)
          replace h := (if_pos c8).symm.trans h
          refine g_iald rfl (a := 540) rfl c8 ?_
          cases h
          exact g_ret rfl rfl rfl rfl
        · replace h := (if_neg c7).symm.trans h
          refine g_run 5 (pc' := 54) (L' := [some (.ref 526), some (.int x1)]) (S' := [.int ((gI g3 543 52))]) (M' := gm g3) rfl ?_
          cases h
          exact g_ret rfl rfl rfl rfl
      · replace h := (if_neg c6).symm.trans h
        refine g_run 5 (pc' := 54) (L' := [some (.ref 526), some (.int x1)]) (S' := [.int ((gI g3 543 51))]) (M' := gm g3) rfl ?_
        cases h
        exact g_ret rfl rfl rfl rfl
    · replace h := (if_neg c5).symm.trans h
      refine g_run 1 (pc' := 17) (L' := [some (.ref 526), some (.int x1)]) (S' := [.int (-1)]) (M' := gm g3) rfl ?_
      cases h
      exact g_ret rfl rfl rfl rfl
def f_X12_person_23 (y1 : Int32) (y2 : Int32) (s0 : Int32) (g : zSg) : Option (Int32 × zSg) := (if ¬ (gI (gsI g 526 0 s0) 526 0) = 1 then (if ¬ y2 = 0 then (if ¬ y2 = 1 then (zB (f_X12_knownTo y1 (gsI g 526 0 s0)) (fun v4 g5 => some (v4, g5))) else (zB (f_X12_ofPerson y1 2 (gsI g 526 0 s0)) (fun v7 g8 => some (v7, g8)))) else (if zib (0 + y1) 235 = true then some ((gI (gsI g 526 0 s0) 543 (ix (0 + y1))), (gsI g 526 0 s0)) else none)) else some (0, (gsI g 526 0 s0)))
set_option maxRecDepth 100000 in
set_option maxHeartbeats 4000000 in
theorem p_X12_person_23 {sc : zSc} {hp : zHp} {d : Nat} (hD : 3 ≤ d) (y1 : Int32) (y2 : Int32) (s0 : Int32) (g : zSg) (r : Int32 × zSg) (h : f_X12_person_23 y1 y2 s0 g = some r) : zG d sc hp (zcd zM_X12_person) 23 [some (.ref 526), some (.int y1), some (.int y2)] [.int s0, .ref 526] (gm g) ((some (.int r.1)), gm r.2) := by
  obtain ⟨d, rfl⟩ : ∃ d', d = d' + 1 := ⟨d - 1, by omega⟩
  unfold f_X12_person_23 at h
  refine g_run 4 (pc' := 31) (L' := [some (.ref 526), some (.int y1), some (.int y2)]) (S' := [.int 1, .int ((gI (gsI g 526 0 s0) 526 0))]) (M' := gm (gsI g 526 0 s0)) rfl ?_
  refine g_icmp (¬ (gI (gsI g 526 0 s0) 526 0) = 1) rfl (t := 36) rfl rfl (fun c1 => ?_) (fun c1 => ?_)
  · replace h := (if_pos c1).symm.trans h
    refine g_run 1 (pc' := 37) (L' := [some (.ref 526), some (.int y1), some (.int y2)]) (S' := [.int y2]) (M' := gm (gsI g 526 0 s0)) rfl ?_
    refine g_if (¬ y2 = 0) rfl (t := 51) rfl rfl (fun c2 => ?_) (fun c2 => ?_)
    · replace h := (if_pos c2).symm.trans h
      refine g_run 2 (pc' := 53) (L' := [some (.ref 526), some (.int y1), some (.int y2)]) (S' := [.int 1, .int y2]) (M' := gm (gsI g 526 0 s0)) rfl ?_
      refine g_icmp (¬ y2 = 1) rfl (t := 65) rfl rfl (fun c3 => ?_) (fun c3 => ?_)
      · replace h := (if_pos c3).symm.trans h
        refine g_run 2 (pc' := 67) (L' := [some (.ref 526), some (.int y1), some (.int y2)]) (S' := [.int y1, .ref 526]) (M' := gm (gsI g 526 0 s0)) rfl ?_
        replace h := zB_of h
        obtain ⟨v4, g5, e6, h⟩ := h
        refine g_inv2 (kd := 1) (p_X12_knownTo  e6) rfl rfl rfl (by decide) rfl rfl rfl rfl (by omega) (pc' := 70) rfl (S' := [.int v4]) rfl ?_
        cases h
        exact g_ret rfl rfl rfl rfl
      · replace h := (if_neg c3).symm.trans h
        refine g_run 3 (pc' := 59) (L' := [some (.ref 526), some (.int y1), some (.int y2)]) (S' := [.int 2, .int y1, .ref 526]) (M' := gm (gsI g 526 0 s0)) rfl ?_
        replace h := zB_of h
        obtain ⟨v7, g8, e9, h⟩ := h
        refine g_inv2 (kd := 1) (p_X12_ofPerson  e9) rfl rfl rfl (by decide) rfl rfl rfl rfl (by omega) (pc' := 62) rfl (S' := [.int v7]) rfl ?_
        refine g_run 1 (pc' := 70) (L' := [some (.ref 526), some (.int y1), some (.int y2)]) (S' := [.int v7]) (M' := gm g8) rfl ?_
        cases h
        exact g_ret rfl rfl rfl rfl
    · replace h := (if_neg c2).symm.trans h
      refine g_run 5 (pc' := 47) (L' := [some (.ref 526), some (.int y1), some (.int y2)]) (S' := [.int ((0 + y1)), .ref 543]) (M' := gm (gsI g 526 0 s0)) rfl ?_
      by_cases c10 : zib (0 + y1) 235 = true
      case neg => exact nomatch ((if_neg c10).symm.trans h)
      replace h := (if_pos c10).symm.trans h
      refine g_iald rfl (a := 543) rfl c10 ?_
      refine g_run 1 (pc' := 70) (L' := [some (.ref 526), some (.int y1), some (.int y2)]) (S' := [.int ((gI (gsI g 526 0 s0) 543 (ix (0 + y1))))]) (M' := gm (gsI g 526 0 s0)) rfl ?_
      cases h
      exact g_ret rfl rfl rfl rfl
  · replace h := (if_neg c1).symm.trans h
    refine g_run 1 (pc' := 35) (L' := [some (.ref 526), some (.int y1), some (.int y2)]) (S' := [.int 0]) (M' := gm (gsI g 526 0 s0)) rfl ?_
    cases h
    exact g_ret rfl rfl rfl rfl
def f_X12_person_22 (y1 : Int32) (y2 : Int32) (g : zSg) : Option (Int32 × zSg) := f_X12_person_23 (y1) (y2) (1) g
set_option maxRecDepth 100000 in
set_option maxHeartbeats 4000000 in
theorem p_X12_person_22 {sc : zSc} {hp : zHp} {d : Nat} (hD : 3 ≤ d) (y1 : Int32) (y2 : Int32) (g : zSg) (r : Int32 × zSg) (h : f_X12_person_22 y1 y2 g = some r) : zG d sc hp (zcd zM_X12_person) 22 [some (.ref 526), some (.int y1), some (.int y2)] [.ref 526] (gm g) ((some (.int r.1)), gm r.2) := by
  obtain ⟨d, rfl⟩ : ∃ d', d = d' + 1 := ⟨d - 1, by omega⟩
  unfold f_X12_person_22 at h
  refine g_run 1 (pc' := 23) (L' := [some (.ref 526), some (.int y1), some (.int y2)]) (S' := [.int 1, .ref 526]) (M' := gm g) rfl ?_
  exact p_X12_person_23 hD (y1) (y2) (1) g _ h
def f_X12_person (x1 : Int32) (x2 : Int32) (g : zSg) : Option (Int32 × zSg) := (zB (f_X12_isPerson x1 g) (fun v1 g2 => (if v1 = 0 then f_X12_person_22 (x1) (x2) g2 else (zB (f_X12_in x2 0 2 g2) (fun v5 g6 => (if v5 = 0 then f_X12_person_22 (x1) (x2) g6 else f_X12_person_23 (x1) (x2) (0) g6))))))
set_option maxRecDepth 100000 in
set_option maxHeartbeats 4000000 in
theorem p_X12_person {sc : zSc} {hp : zHp} {x1 : Int32} {x2 : Int32} {g : zSg} {r : Int32 × zSg} (h : f_X12_person x1 x2 g = some r) : zRn sc hp 3 zM_X12_person [.ref 526, .int x1, .int x2] (gm g) (some (.int r.1)) (gm r.2) := by
  intro d hD
  obtain ⟨d, rfl⟩ : ∃ d', d = d' + 1 := ⟨d - 1, by omega⟩
  show zG _ sc hp (zcd zM_X12_person) 0 [some (.ref 526), some (.int x1), some (.int x2)] [] (gm g) _
  unfold f_X12_person at h
  refine g_run 3 (pc' := 3) (L' := [some (.ref 526), some (.int x1), some (.int x2)]) (S' := [.int x1, .ref 526, .ref 526]) (M' := gm g) rfl ?_
  replace h := zB_of h
  obtain ⟨v1, g2, e3, h⟩ := h
  refine g_inv2 (kd := 1) (p_X12_isPerson  e3) rfl rfl rfl (by decide) rfl rfl rfl rfl (by omega) (pc' := 6) rfl (S' := [.int v1, .ref 526]) rfl ?_
  refine g_if (v1 = 0) rfl (t := 22) rfl rfl (fun c4 => ?_) (fun c4 => ?_)
  · replace h := (if_pos c4).symm.trans h
    exact p_X12_person_22 hD (x1) (x2) g2 _ h
  · replace h := (if_neg c4).symm.trans h
    refine g_run 3 (pc' := 12) (L' := [some (.ref 526), some (.int x1), some (.int x2)]) (S' := [.int 2, .int 0, .int x2, .ref 526]) (M' := gm g2) rfl ?_
    replace h := zB_of h
    obtain ⟨v5, g6, e7, h⟩ := h
    refine g_inv2 (kd := 0) (p_X12_in  e7) rfl rfl rfl (by decide) rfl rfl rfl rfl (by omega) (pc' := 15) rfl (S' := [.int v5, .ref 526]) rfl ?_
    refine g_if (v5 = 0) rfl (t := 22) rfl rfl (fun c8 => ?_) (fun c8 => ?_)
    · replace h := (if_pos c8).symm.trans h
      exact p_X12_person_22 hD (x1) (x2) g6 _ h
    · replace h := (if_neg c8).symm.trans h
      refine g_run 2 (pc' := 23) (L' := [some (.ref 526), some (.int x1), some (.int x2)]) (S' := [.int 0, .ref 526]) (M' := gm g6) rfl ?_
      exact p_X12_person_23 hD (x1) (x2) (0) g6 _ h
def f_X12_secret (x1 : Int32) (x2 : Int32) (g : zSg) : Option (Int32 × zSg) := (zB (f_X12_isSecret x1 g) (fun v1 g2 => (if v1 = 0 then some ((-1), g2) else (zB (f_X12_in x2 0 6 g2) (fun v5 g6 => (if ¬ v5 = 0 then (if x2 = 2 then (zB (f_X12_shedOf x1 g6) (fun v10 g11 => some (v10, g11))) else (if x2 = 3 then (zB (f_X12_hangs x1 g6) (fun v14 g15 => (if v14 = 0 then some (0, g15) else some (1, g15)))) else (if x2 = 4 then (if zib (42 + x1) 235 = true then some ((gI g6 543 (ix (42 + x1))), g6) else none) else (if x2 = 5 then (zB (f_X12_isRaw x1 g6) (fun v21 g22 => (if v21 = 0 then some (1, g22) else some (0, g22)))) else (if x2 = 6 then (zB (f_X12_knownOf x1 g6) (fun v26 g27 => some (v26, g27))) else (zB (f_X12_of x1 x2 g6) (fun v29 g30 => some (v29, g30)))))))) else some ((-1), g6)))))))
set_option maxRecDepth 100000 in
set_option maxHeartbeats 4000000 in
theorem p_X12_secret {sc : zSc} {hp : zHp} {x1 : Int32} {x2 : Int32} {g : zSg} {r : Int32 × zSg} (h : f_X12_secret x1 x2 g = some r) : zRn sc hp 3 zM_X12_secret [.ref 526, .int x1, .int x2] (gm g) (some (.int r.1)) (gm r.2) := by
  intro d hD
  obtain ⟨d, rfl⟩ : ∃ d', d = d' + 1 := ⟨d - 1, by omega⟩
  show zG _ sc hp (zcd zM_X12_secret) 0 [some (.ref 526), some (.int x1), some (.int x2)] [] (gm g) _
  unfold f_X12_secret at h
  refine g_run 2 (pc' := 2) (L' := [some (.ref 526), some (.int x1), some (.int x2)]) (S' := [.int x1, .ref 526]) (M' := gm g) rfl ?_
  replace h := zB_of h
  obtain ⟨v1, g2, e3, h⟩ := h
  refine g_inv2 (kd := 1) (p_X12_isSecret  e3) rfl rfl rfl (by decide) rfl rfl rfl rfl (by omega) (pc' := 5) rfl (S' := [.int v1]) rfl ?_
  refine g_if (v1 = 0) rfl (t := 18) rfl rfl (fun c4 => ?_) (fun c4 => ?_)
  · replace h := (if_pos c4).symm.trans h
    refine g_run 1 (pc' := 19) (L' := [some (.ref 526), some (.int x1), some (.int x2)]) (S' := [.int (-1)]) (M' := gm g2) rfl ?_
    cases h
    exact g_ret rfl rfl rfl rfl
  · replace h := (if_neg c4).symm.trans h
    refine g_run 3 (pc' := 12) (L' := [some (.ref 526), some (.int x1), some (.int x2)]) (S' := [.int 6, .int 0, .int x2]) (M' := gm g2) rfl ?_
    replace h := zB_of h
    obtain ⟨v5, g6, e7, h⟩ := h
    refine g_inv2 (kd := 0) (p_X12_in  e7) rfl rfl rfl (by decide) rfl rfl rfl rfl (by omega) (pc' := 15) rfl (S' := [.int v5]) rfl ?_
    refine g_if (¬ v5 = 0) rfl (t := 20) rfl rfl (fun c8 => ?_) (fun c8 => ?_)
    · replace h := (if_pos c8).symm.trans h
      refine g_run 1 (pc' := 21) (L' := [some (.ref 526), some (.int x1), some (.int x2)]) (S' := [.int x2]) (M' := gm g6) rfl ?_
      by_cases c9 : x2 = 2
      · replace h := (if_pos c9).symm.trans h
        refine g_swc c9 rfl rfl rfl (pc' := 56) rfl ?_
        refine g_run 2 (pc' := 58) (L' := [some (.ref 526), some (.int x1), some (.int x2)]) (S' := [.int x1, .ref 526]) (M' := gm g6) rfl ?_
        replace h := zB_of h
        obtain ⟨v10, g11, e12, h⟩ := h
        refine g_inv2 (kd := 1) (p_X12_shedOf  e12) rfl rfl rfl (by decide) rfl rfl rfl rfl (by omega) (pc' := 61) rfl (S' := [.int v10]) rfl ?_
        cases h
        exact g_ret rfl rfl rfl rfl
      replace h := (if_neg c9).symm.trans h
      by_cases c13 : x2 = 3
      · replace h := (if_pos c13).symm.trans h
        refine g_swc c13 rfl rfl rfl (pc' := 62) rfl ?_
        refine g_run 2 (pc' := 64) (L' := [some (.ref 526), some (.int x1), some (.int x2)]) (S' := [.int x1, .ref 526]) (M' := gm g6) rfl ?_
        replace h := zB_of h
        obtain ⟨v14, g15, e16, h⟩ := h
        refine g_inv2 (kd := 1) (p_X12_hangs  e16) rfl rfl rfl (by decide) rfl rfl rfl rfl (by omega) (pc' := 67) rfl (S' := [.int v14]) rfl ?_
        refine g_if (v14 = 0) rfl (t := 74) rfl rfl (fun c17 => ?_) (fun c17 => ?_)
        · replace h := (if_pos c17).symm.trans h
          refine g_run 1 (pc' := 75) (L' := [some (.ref 526), some (.int x1), some (.int x2)]) (S' := [.int 0]) (M' := gm g15) rfl ?_
          cases h
          exact g_ret rfl rfl rfl rfl
        · replace h := (if_neg c17).symm.trans h
          refine g_run 2 (pc' := 75) (L' := [some (.ref 526), some (.int x1), some (.int x2)]) (S' := [.int 1]) (M' := gm g15) rfl ?_
          cases h
          exact g_ret rfl rfl rfl rfl
      replace h := (if_neg c13).symm.trans h
      by_cases c18 : x2 = 4
      · replace h := (if_pos c18).symm.trans h
        refine g_swc c18 rfl rfl rfl (pc' := 76) rfl ?_
        refine g_run 5 (pc' := 84) (L' := [some (.ref 526), some (.int x1), some (.int x2)]) (S' := [.int ((42 + x1)), .ref 543]) (M' := gm g6) rfl ?_
        by_cases c19 : zib (42 + x1) 235 = true
        case neg => exact nomatch ((if_neg c19).symm.trans h)
        replace h := (if_pos c19).symm.trans h
        refine g_iald rfl (a := 543) rfl c19 ?_
        cases h
        exact g_ret rfl rfl rfl rfl
      replace h := (if_neg c18).symm.trans h
      by_cases c20 : x2 = 5
      · replace h := (if_pos c20).symm.trans h
        refine g_swc c20 rfl rfl rfl (pc' := 86) rfl ?_
        refine g_run 2 (pc' := 88) (L' := [some (.ref 526), some (.int x1), some (.int x2)]) (S' := [.int x1, .ref 526]) (M' := gm g6) rfl ?_
        replace h := zB_of h
        obtain ⟨v21, g22, e23, h⟩ := h
        refine g_inv2 (kd := 1) (p_X12_isRaw  e23) rfl rfl rfl (by decide) rfl rfl rfl rfl (by omega) (pc' := 91) rfl (S' := [.int v21]) rfl ?_
        refine g_if (v21 = 0) rfl (t := 98) rfl rfl (fun c24 => ?_) (fun c24 => ?_)
        · replace h := (if_pos c24).symm.trans h
          refine g_run 1 (pc' := 99) (L' := [some (.ref 526), some (.int x1), some (.int x2)]) (S' := [.int 1]) (M' := gm g22) rfl ?_
          cases h
          exact g_ret rfl rfl rfl rfl
        · replace h := (if_neg c24).symm.trans h
          refine g_run 2 (pc' := 99) (L' := [some (.ref 526), some (.int x1), some (.int x2)]) (S' := [.int 0]) (M' := gm g22) rfl ?_
          cases h
          exact g_ret rfl rfl rfl rfl
      replace h := (if_neg c20).symm.trans h
      by_cases c25 : x2 = 6
      · replace h := (if_pos c25).symm.trans h
        refine g_swc c25 rfl rfl rfl (pc' := 100) rfl ?_
        refine g_run 2 (pc' := 102) (L' := [some (.ref 526), some (.int x1), some (.int x2)]) (S' := [.int x1, .ref 526]) (M' := gm g6) rfl ?_
        replace h := zB_of h
        obtain ⟨v26, g27, e28, h⟩ := h
        refine g_inv2 (kd := 1) (p_X12_knownOf  e28) rfl rfl rfl (by decide) rfl rfl rfl rfl (by omega) (pc' := 105) rfl (S' := [.int v26]) rfl ?_
        cases h
        exact g_ret rfl rfl rfl rfl
      replace h := (if_neg c25).symm.trans h
      have hsw : (x2).toInt < 2 ∨ 6 < (x2).toInt := by
        have nc9 := lv_neT c9 (a := 2) rfl
        have nc13 := lv_neT c13 (a := 3) rfl
        have nc18 := lv_neT c18 (a := 4) rfl
        have nc20 := lv_neT c20 (a := 5) rfl
        have nc25 := lv_neT c25 (a := 6) rfl
        omega
      refine g_tsd rfl hsw (t := 106) rfl ?_
      refine g_run 3 (pc' := 109) (L' := [some (.ref 526), some (.int x1), some (.int x2)]) (S' := [.int x2, .int x1, .ref 526]) (M' := gm g6) rfl ?_
      replace h := zB_of h
      obtain ⟨v29, g30, e31, h⟩ := h
      refine g_inv2 (kd := 1) (p_X12_of  e31) rfl rfl rfl (by decide) rfl rfl rfl rfl (by omega) (pc' := 112) rfl (S' := [.int v29]) rfl ?_
      cases h
      exact g_ret rfl rfl rfl rfl
    · replace h := (if_neg c8).symm.trans h
      refine g_run 1 (pc' := 19) (L' := [some (.ref 526), some (.int x1), some (.int x2)]) (S' := [.int (-1)]) (M' := gm g6) rfl ?_
      cases h
      exact g_ret rfl rfl rfl rfl
def f_X12_breath (x1 : Int32) (x2 : Int32) (g : zSg) : Option (Int32 × zSg) := (zB (f_X12_isPerson x1 g) (fun v1 g2 => (if v1 = 0 then some ((-1), g2) else (zB (f_X12_isSecret x2 g2) (fun v5 g6 => (if v5 = 0 then some ((-1), g6) else (zB (f_X12_breathOf x1 x2 g6) (fun v9 g10 => some (v9, g10)))))))))
set_option maxRecDepth 100000 in
set_option maxHeartbeats 4000000 in
theorem p_X12_breath {sc : zSc} {hp : zHp} {x1 : Int32} {x2 : Int32} {g : zSg} {r : Int32 × zSg} (h : f_X12_breath x1 x2 g = some r) : zRn sc hp 2 zM_X12_breath [.ref 526, .int x1, .int x2] (gm g) (some (.int r.1)) (gm r.2) := by
  intro d hD
  obtain ⟨d, rfl⟩ : ∃ d', d = d' + 1 := ⟨d - 1, by omega⟩
  show zG _ sc hp (zcd zM_X12_breath) 0 [some (.ref 526), some (.int x1), some (.int x2)] [] (gm g) _
  unfold f_X12_breath at h
  refine g_run 2 (pc' := 2) (L' := [some (.ref 526), some (.int x1), some (.int x2)]) (S' := [.int x1, .ref 526]) (M' := gm g) rfl ?_
  replace h := zB_of h
  obtain ⟨v1, g2, e3, h⟩ := h
  refine g_inv2 (kd := 1) (p_X12_isPerson  e3) rfl rfl rfl (by decide) rfl rfl rfl rfl (by omega) (pc' := 5) rfl (S' := [.int v1]) rfl ?_
  refine g_if (v1 = 0) rfl (t := 25) rfl rfl (fun c4 => ?_) (fun c4 => ?_)
  · replace h := (if_pos c4).symm.trans h
    refine g_run 1 (pc' := 26) (L' := [some (.ref 526), some (.int x1), some (.int x2)]) (S' := [.int (-1)]) (M' := gm g2) rfl ?_
    cases h
    exact g_ret rfl rfl rfl rfl
  · replace h := (if_neg c4).symm.trans h
    refine g_run 2 (pc' := 10) (L' := [some (.ref 526), some (.int x1), some (.int x2)]) (S' := [.int x2, .ref 526]) (M' := gm g2) rfl ?_
    replace h := zB_of h
    obtain ⟨v5, g6, e7, h⟩ := h
    refine g_inv2 (kd := 1) (p_X12_isSecret  e7) rfl rfl rfl (by decide) rfl rfl rfl rfl (by omega) (pc' := 13) rfl (S' := [.int v5]) rfl ?_
    refine g_if (v5 = 0) rfl (t := 25) rfl rfl (fun c8 => ?_) (fun c8 => ?_)
    · replace h := (if_pos c8).symm.trans h
      refine g_run 1 (pc' := 26) (L' := [some (.ref 526), some (.int x1), some (.int x2)]) (S' := [.int (-1)]) (M' := gm g6) rfl ?_
      cases h
      exact g_ret rfl rfl rfl rfl
    · replace h := (if_neg c8).symm.trans h
      refine g_run 3 (pc' := 19) (L' := [some (.ref 526), some (.int x1), some (.int x2)]) (S' := [.int x2, .int x1, .ref 526]) (M' := gm g6) rfl ?_
      replace h := zB_of h
      obtain ⟨v9, g10, e11, h⟩ := h
      refine g_inv2 (kd := 1) (p_X12_breathOf  e11) rfl rfl rfl (by decide) rfl rfl rfl rfl (by omega) (pc' := 22) rfl (S' := [.int v9]) rfl ?_
      refine g_run 1 (pc' := 26) (L' := [some (.ref 526), some (.int x1), some (.int x2)]) (S' := [.int v9]) (M' := gm g10) rfl ?_
      cases h
      exact g_ret rfl rfl rfl rfl
def f_X12_law (x1 : Int32) (g : zSg) : Option (Int32 × zSg) := (zB (f_X12_in x1 (-1) ((gI g 526 13) - 1) g) (fun v1 g2 => (if ¬ v1 = 0 then some (1, (gsI g2 526 30 x1)) else some (0, g2))))
set_option maxRecDepth 100000 in
set_option maxHeartbeats 4000000 in
theorem p_X12_law {sc : zSc} {hp : zHp} {x1 : Int32} {g : zSg} {r : Int32 × zSg} (h : f_X12_law x1 g = some r) : zRn sc hp 1 zM_X12_law [.ref 526, .int x1] (gm g) (some (.int r.1)) (gm r.2) := by
  intro d hD
  obtain ⟨d, rfl⟩ : ∃ d', d = d' + 1 := ⟨d - 1, by omega⟩
  show zG _ sc hp (zcd zM_X12_law) 0 [some (.ref 526), some (.int x1)] [] (gm g) _
  unfold f_X12_law at h
  refine g_run 6 (pc' := 8) (L' := [some (.ref 526), some (.int x1)]) (S' := [.int (((gI g 526 13) - 1)), .int (-1), .int x1]) (M' := gm g) rfl ?_
  replace h := zB_of h
  obtain ⟨v1, g2, e3, h⟩ := h
  refine g_inv2 (kd := 0) (p_X12_in  e3) rfl rfl rfl (by decide) rfl rfl rfl rfl (by omega) (pc' := 11) rfl (S' := [.int v1]) rfl ?_
  refine g_if (¬ v1 = 0) rfl (t := 16) rfl rfl (fun c4 => ?_) (fun c4 => ?_)
  · replace h := (if_pos c4).symm.trans h
    refine g_run 4 (pc' := 22) (L' := [some (.ref 526), some (.int x1)]) (S' := [.int 1]) (M' := gm (gsI g2 526 30 x1)) rfl ?_
    cases h
    exact g_ret rfl rfl rfl rfl
  · replace h := (if_neg c4).symm.trans h
    refine g_run 1 (pc' := 15) (L' := [some (.ref 526), some (.int x1)]) (S' := [.int 0]) (M' := gm g2) rfl ?_
    cases h
    exact g_ret rfl rfl rfl rfl
def f_X12_keep_88 (g : zSg) : Option (Unit × zSg) := some ((), (gsI g 526 35 ((gI g 526 35) + 1)))
set_option maxRecDepth 100000 in
set_option maxHeartbeats 4000000 in
theorem p_X12_keep_88 {sc : zSc} {hp : zHp} {d : Nat} (hD : 0 ≤ d) (g : zSg) (r : Unit × zSg) (h : f_X12_keep_88 g = some r) : zG d sc hp (zcd zM_X12_keep) 88 [some (.ref 526), none] [] (gm g) (none, gm r.2) := by
  unfold f_X12_keep_88 at h
  refine g_run 6 (pc' := 98) (L' := [some (.ref 526), none]) (S' := []) (M' := gm (gsI g 526 35 ((gI g 526 35) + 1))) rfl ?_
  cases h
  exact g_ret rfl rfl rfl rfl
def fb_X12_keep_54 (kk : Int32 → zSg → Option (Unit × zSg)) (y1 : Int32) (g : zSg) : Option (Unit × zSg) := (if 235 ≤ y1 then f_X12_keep_88 g else (if zib y1 235 = true then (if zib ((235 * (gI g 526 35)) + y1) 9400 = true then kk (y1 + 1) (gsI g (547) (ix ((235 * (gI g 526 35)) + y1)) (gI g 543 (ix y1))) else none) else none))
def f_X12_keep_54 : Nat → Int32 → zSg → Option (Unit × zSg)
  | 0, _, _ => none
  | n + 1, y1, g => fb_X12_keep_54 (f_X12_keep_54 n) y1 g
set_option maxRecDepth 100000 in
set_option maxHeartbeats 4000000 in
theorem p_X12_keep_54 {sc : zSc} {hp : zHp} {d : Nat} (hD : 0 ≤ d) : ∀ (n : Nat) (y1 : Int32) (g : zSg) (r : Unit × zSg), f_X12_keep_54 n y1 g = some r → zG d sc hp (zcd zM_X12_keep) 54 [some (.ref 526), some (.int y1)] [] (gm g) (none, gm r.2) := by
  intro n
  induction n with
  | zero => intro y1 g r h; cases h
  | succ n ih =>
    intro y1 g r h
    replace h : fb_X12_keep_54 (f_X12_keep_54 n) y1 g = some r := h
    unfold fb_X12_keep_54 at h
    refine g_run 2 (pc' := 58) (L' := [some (.ref 526), some (.int y1)]) (S' := [.int 235, .int y1]) (M' := gm g) rfl ?_
    refine g_icmp (235 ≤ y1) rfl (t := 88) rfl rfl (fun c1 => ?_) (fun c1 => ?_)
    · replace h := (if_pos c1).symm.trans h
      refine g_forget (L' := [some (.ref 526), none]) (And.intro rfl True.intro) ?_
      exact p_X12_keep_88 hD g _ h
    · replace h := (if_neg c1).symm.trans h
      refine g_run 11 (pc' := 80) (L' := [some (.ref 526), some (.int y1)]) (S' := [.int y1, .ref 543, .int (((235 * (gI g 526 35)) + y1)), .ref 547]) (M' := gm g) rfl ?_
      by_cases c2 : zib y1 235 = true
      case neg => exact nomatch ((if_neg c2).symm.trans h)
      replace h := (if_pos c2).symm.trans h
      refine g_iald rfl (a := 543) rfl c2 ?_
      by_cases c3 : zib ((235 * (gI g 526 35)) + y1) 9400 = true
      case neg => exact nomatch ((if_neg c3).symm.trans h)
      replace h := (if_pos c3).symm.trans h
      refine g_iast rfl (a := 547) rfl c3 ?_
      refine g_run 2 (pc' := 54) (L' := [some (.ref 526), some (.int ((y1 + 1)))]) (S' := []) (M' := gm (gsI g (547) (ix ((235 * (gI g 526 35)) + y1)) (gI g 543 (ix y1)))) rfl ?_
      exact ih (y1 + 1) (gsI g (547) (ix ((235 * (gI g 526 35)) + y1)) (gI g 543 (ix y1))) _ h
def f_X12_keep_52 (g : zSg) : Option (Unit × zSg) := f_X12_keep_54 zFu (0) g
set_option maxRecDepth 100000 in
set_option maxHeartbeats 4000000 in
theorem p_X12_keep_52 {sc : zSc} {hp : zHp} {d : Nat} (hD : 0 ≤ d) (g : zSg) (r : Unit × zSg) (h : f_X12_keep_52 g = some r) : zG d sc hp (zcd zM_X12_keep) 52 [some (.ref 526), none] [] (gm g) (none, gm r.2) := by
  unfold f_X12_keep_52 at h
  refine g_run 2 (pc' := 54) (L' := [some (.ref 526), some (.int 0)]) (S' := []) (M' := gm g) rfl ?_
  exact p_X12_keep_54 hD zFu (0) g _ h
def f_X12_keep_42 (g : zSg) : Option (Unit × zSg) := f_X12_keep_52 (gsI g 526 35 ((gI g 526 35) - 1))
set_option maxRecDepth 100000 in
set_option maxHeartbeats 4000000 in
theorem p_X12_keep_42 {sc : zSc} {hp : zHp} {d : Nat} (hD : 0 ≤ d) (g : zSg) (r : Unit × zSg) (h : f_X12_keep_42 g = some r) : zG d sc hp (zcd zM_X12_keep) 42 [some (.ref 526), none] [] (gm g) (none, gm r.2) := by
  unfold f_X12_keep_42 at h
  refine g_run 6 (pc' := 52) (L' := [some (.ref 526), none]) (S' := []) (M' := gm (gsI g 526 35 ((gI g 526 35) - 1))) rfl ?_
  exact p_X12_keep_52 hD (gsI g 526 35 ((gI g 526 35) - 1)) _ h
def fb_X12_keep_13 (kk : Int32 → zSg → Option (Unit × zSg)) (y1 : Int32) (g : zSg) : Option (Unit × zSg) := (if 9400 ≤ y1 then f_X12_keep_42 g else (if zib y1 9400 = true then (if zib (y1 - 235) 9400 = true then kk (y1 + 1) (gsI g (547) (ix (y1 - 235)) (gI g 547 (ix y1))) else none) else none))
def f_X12_keep_13 : Nat → Int32 → zSg → Option (Unit × zSg)
  | 0, _, _ => none
  | n + 1, y1, g => fb_X12_keep_13 (f_X12_keep_13 n) y1 g
set_option maxRecDepth 100000 in
set_option maxHeartbeats 4000000 in
theorem p_X12_keep_13 {sc : zSc} {hp : zHp} {d : Nat} (hD : 0 ≤ d) : ∀ (n : Nat) (y1 : Int32) (g : zSg) (r : Unit × zSg), f_X12_keep_13 n y1 g = some r → zG d sc hp (zcd zM_X12_keep) 13 [some (.ref 526), some (.int y1)] [] (gm g) (none, gm r.2) := by
  intro n
  induction n with
  | zero => intro y1 g r h; cases h
  | succ n ih =>
    intro y1 g r h
    replace h : fb_X12_keep_13 (f_X12_keep_13 n) y1 g = some r := h
    unfold fb_X12_keep_13 at h
    refine g_run 2 (pc' := 17) (L' := [some (.ref 526), some (.int y1)]) (S' := [.int 9400, .int y1]) (M' := gm g) rfl ?_
    refine g_icmp (9400 ≤ y1) rfl (t := 42) rfl rfl (fun c1 => ?_) (fun c1 => ?_)
    · replace h := (if_pos c1).symm.trans h
      refine g_forget (L' := [some (.ref 526), none]) (And.intro rfl True.intro) ?_
      exact p_X12_keep_42 hD g _ h
    · replace h := (if_neg c1).symm.trans h
      refine g_run 8 (pc' := 34) (L' := [some (.ref 526), some (.int y1)]) (S' := [.int y1, .ref 547, .int ((y1 - 235)), .ref 547]) (M' := gm g) rfl ?_
      by_cases c2 : zib y1 9400 = true
      case neg => exact nomatch ((if_neg c2).symm.trans h)
      replace h := (if_pos c2).symm.trans h
      refine g_iald rfl (a := 547) rfl c2 ?_
      by_cases c3 : zib (y1 - 235) 9400 = true
      case neg => exact nomatch ((if_neg c3).symm.trans h)
      replace h := (if_pos c3).symm.trans h
      refine g_iast rfl (a := 547) rfl c3 ?_
      refine g_run 2 (pc' := 13) (L' := [some (.ref 526), some (.int ((y1 + 1)))]) (S' := []) (M' := gm (gsI g (547) (ix (y1 - 235)) (gI g 547 (ix y1)))) rfl ?_
      exact ih (y1 + 1) (gsI g (547) (ix (y1 - 235)) (gI g 547 (ix y1))) _ h
def f_X12_keep (g : zSg) : Option (Unit × zSg) := (if ¬ (gI g 526 35) = 40 then f_X12_keep_52 g else f_X12_keep_13 zFu (235) g)
set_option maxRecDepth 100000 in
set_option maxHeartbeats 4000000 in
theorem p_X12_keep {sc : zSc} {hp : zHp} {g : zSg} {r : Unit × zSg} (h : f_X12_keep g = some r) : zRn sc hp 0 zM_X12_keep [.ref 526] (gm g) none (gm r.2) := by
  intro d hD
  show zG _ sc hp (zcd zM_X12_keep) 0 [some (.ref 526), none] [] (gm g) _
  unfold f_X12_keep at h
  refine g_run 3 (pc' := 6) (L' := [some (.ref 526), none]) (S' := [.int 40, .int ((gI g 526 35))]) (M' := gm g) rfl ?_
  refine g_icmp (¬ (gI g 526 35) = 40) rfl (t := 52) rfl rfl (fun c1 => ?_) (fun c1 => ?_)
  · replace h := (if_pos c1).symm.trans h
    exact p_X12_keep_52 hD g _ h
  · replace h := (if_neg c1).symm.trans h
    refine g_run 2 (pc' := 13) (L' := [some (.ref 526), some (.int 235)]) (S' := []) (M' := gm g) rfl ?_
    exact p_X12_keep_13 hD zFu (235) g _ h
def f_X12_isRefused_15 (y1 : Int32) (g : zSg) : Option (Int32 × zSg) := (if y1 = (-1) then some (0, g) else some (1, g))
set_option maxRecDepth 100000 in
set_option maxHeartbeats 4000000 in
theorem p_X12_isRefused_15 {sc : zSc} {hp : zHp} {d : Nat} (hD : 0 ≤ d) (y1 : Int32) (g : zSg) (r : Int32 × zSg) (h : f_X12_isRefused_15 y1 g = some r) : zG d sc hp (zcd zM_X12_isRefused) 15 [none, some (.int y1)] [] (gm g) ((some (.int r.1)), gm r.2) := by
  unfold f_X12_isRefused_15 at h
  refine g_run 2 (pc' := 17) (L' := [none, some (.int y1)]) (S' := [.int (-1), .int y1]) (M' := gm g) rfl ?_
  refine g_icmp (y1 = (-1)) rfl (t := 24) rfl rfl (fun c1 => ?_) (fun c1 => ?_)
  · replace h := (if_pos c1).symm.trans h
    refine g_run 1 (pc' := 25) (L' := [none, some (.int y1)]) (S' := [.int 0]) (M' := gm g) rfl ?_
    cases h
    exact g_ret rfl rfl rfl rfl
  · replace h := (if_neg c1).symm.trans h
    refine g_run 2 (pc' := 25) (L' := [none, some (.int y1)]) (S' := [.int 1]) (M' := gm g) rfl ?_
    cases h
    exact g_ret rfl rfl rfl rfl
def f_X12_isRefused (x1 : Int32) (g : zSg) : Option (Int32 × zSg) := (if x1 = (-1) then f_X12_isRefused_15 (x1) g else (if zib x1 5 = true then (if zib x1 5 = true then f_X12_isRefused_15 (x1) (gsI g (544) (ix x1) ((gI g 544 (ix x1)) + 1)) else none) else none))
set_option maxRecDepth 100000 in
set_option maxHeartbeats 4000000 in
theorem p_X12_isRefused {sc : zSc} {hp : zHp} {x1 : Int32} {g : zSg} {r : Int32 × zSg} (h : f_X12_isRefused x1 g = some r) : zRn sc hp 0 zM_X12_isRefused [.ref 526, .int x1] (gm g) (some (.int r.1)) (gm r.2) := by
  intro d hD
  show zG _ sc hp (zcd zM_X12_isRefused) 0 [some (.ref 526), some (.int x1)] [] (gm g) _
  unfold f_X12_isRefused at h
  refine g_run 2 (pc' := 2) (L' := [some (.ref 526), some (.int x1)]) (S' := [.int (-1), .int x1]) (M' := gm g) rfl ?_
  refine g_icmp (x1 = (-1)) rfl (t := 15) rfl rfl (fun c1 => ?_) (fun c1 => ?_)
  · replace h := (if_pos c1).symm.trans h
    refine g_forget (L' := [none, some (.int x1)]) (And.intro rfl True.intro) ?_
    exact p_X12_isRefused_15 hD (x1) g _ h
  · replace h := (if_neg c1).symm.trans h
    refine g_run 4 (pc' := 11) (L' := [some (.ref 526), some (.int x1)]) (S' := [.int x1, .ref 544, .int x1, .ref 544]) (M' := gm g) rfl ?_
    by_cases c2 : zib x1 5 = true
    case neg => exact nomatch ((if_neg c2).symm.trans h)
    replace h := (if_pos c2).symm.trans h
    refine g_iald rfl (a := 544) rfl c2 ?_
    refine g_run 2 (pc' := 14) (L' := [some (.ref 526), some (.int x1)]) (S' := [.int (((gI g 544 (ix x1)) + 1)), .int x1, .ref 544]) (M' := gm g) rfl ?_
    by_cases c3 : zib x1 5 = true
    case neg => exact nomatch ((if_neg c3).symm.trans h)
    replace h := (if_pos c3).symm.trans h
    refine g_iast rfl (a := 544) rfl c3 ?_
    refine g_forget (L' := [none, some (.int x1)]) (And.intro rfl True.intro) ?_
    exact p_X12_isRefused_15 hD (x1) (gsI g (544) (ix x1) ((gI g 544 (ix x1)) + 1)) _ h
def f_X12_areNights (x1 : Int32) (g : zSg) : Option (Int32 × zSg) := (zB (f_X12_in x1 1 60 g) (fun v1 g2 => (if v1 = 0 then some (0, g2) else (if 999 < ((gI g2 543 53) + x1) then some (0, g2) else some (1, g2)))))
set_option maxRecDepth 100000 in
set_option maxHeartbeats 4000000 in
theorem p_X12_areNights {sc : zSc} {hp : zHp} {x1 : Int32} {g : zSg} {r : Int32 × zSg} (h : f_X12_areNights x1 g = some r) : zRn sc hp 1 zM_X12_areNights [.ref 526, .int x1] (gm g) (some (.int r.1)) (gm r.2) := by
  intro d hD
  obtain ⟨d, rfl⟩ : ∃ d', d = d' + 1 := ⟨d - 1, by omega⟩
  show zG _ sc hp (zcd zM_X12_areNights) 0 [some (.ref 526), some (.int x1)] [] (gm g) _
  unfold f_X12_areNights at h
  refine g_run 3 (pc' := 4) (L' := [some (.ref 526), some (.int x1)]) (S' := [.int 60, .int 1, .int x1]) (M' := gm g) rfl ?_
  replace h := zB_of h
  obtain ⟨v1, g2, e3, h⟩ := h
  refine g_inv2 (kd := 0) (p_X12_in  e3) rfl rfl rfl (by decide) rfl rfl rfl rfl (by omega) (pc' := 7) rfl (S' := [.int v1]) rfl ?_
  refine g_if (v1 = 0) rfl (t := 29) rfl rfl (fun c4 => ?_) (fun c4 => ?_)
  · replace h := (if_pos c4).symm.trans h
    refine g_run 1 (pc' := 30) (L' := [some (.ref 526), some (.int x1)]) (S' := [.int 0]) (M' := gm g2) rfl ?_
    cases h
    exact g_ret rfl rfl rfl rfl
  · replace h := (if_neg c4).symm.trans h
    refine g_run 7 (pc' := 22) (L' := [some (.ref 526), some (.int x1)]) (S' := [.int 999, .int (((gI g2 543 53) + x1))]) (M' := gm g2) rfl ?_
    refine g_icmp (999 < ((gI g2 543 53) + x1)) rfl (t := 29) rfl rfl (fun c5 => ?_) (fun c5 => ?_)
    · replace h := (if_pos c5).symm.trans h
      refine g_run 1 (pc' := 30) (L' := [some (.ref 526), some (.int x1)]) (S' := [.int 0]) (M' := gm g2) rfl ?_
      cases h
      exact g_ret rfl rfl rfl rfl
    · replace h := (if_neg c5).symm.trans h
      refine g_run 2 (pc' := 30) (L' := [some (.ref 526), some (.int x1)]) (S' := [.int 1]) (M' := gm g2) rfl ?_
      cases h
      exact g_ret rfl rfl rfl rfl
def f_X12_nights_68 (g : zSg) : Option (Int32 × zSg) := some ((gI g 543 53), g)
set_option maxRecDepth 100000 in
set_option maxHeartbeats 4000000 in
theorem p_X12_nights_68 {sc : zSc} {hp : zHp} {d : Nat} (hD : 10 ≤ d) (g : zSg) (r : Int32 × zSg) (h : f_X12_nights_68 g = some r) : zG d sc hp (zcd zM_X12_nights) 68 [some (.ref 526), none, none] [] (gm g) ((some (.int r.1)), gm r.2) := by
  obtain ⟨d, rfl⟩ : ∃ d', d = d' + 1 := ⟨d - 1, by omega⟩
  unfold f_X12_nights_68 at h
  refine g_run 4 (pc' := 75) (L' := [some (.ref 526), none, none]) (S' := [.int ((gI g 543 53))]) (M' := gm g) rfl ?_
  cases h
  exact g_ret rfl rfl rfl rfl
def fb_X12_nights_49 (kk : Int32 → Int32 → zSg → Option (Int32 × zSg)) (y1 : Int32) (y2 : Int32) (g : zSg) : Option (Int32 × zSg) := (if y1 ≤ y2 then f_X12_nights_68 g else (zB (f_X12_keep g) (fun v2 g3 => (zB (f_X12_passNight g3) (fun v5 g6 => kk (y1) (y2 + 1) g6)))))
def f_X12_nights_49 : Nat → Int32 → Int32 → zSg → Option (Int32 × zSg)
  | 0, _, _, _ => none
  | n + 1, y1, y2, g => fb_X12_nights_49 (f_X12_nights_49 n) y1 y2 g
set_option maxRecDepth 100000 in
set_option maxHeartbeats 4000000 in
theorem p_X12_nights_49 {sc : zSc} {hp : zHp} {d : Nat} (hD : 10 ≤ d) : ∀ (n : Nat) (y1 : Int32) (y2 : Int32) (g : zSg) (r : Int32 × zSg), f_X12_nights_49 n y1 y2 g = some r → zG d sc hp (zcd zM_X12_nights) 49 [some (.ref 526), some (.int y1), some (.int y2)] [] (gm g) ((some (.int r.1)), gm r.2) := by
  obtain ⟨d, rfl⟩ : ∃ d', d = d' + 1 := ⟨d - 1, by omega⟩
  intro n
  induction n with
  | zero => intro y1 y2 g r h; cases h
  | succ n ih =>
    intro y1 y2 g r h
    replace h : fb_X12_nights_49 (f_X12_nights_49 n) y1 y2 g = some r := h
    unfold fb_X12_nights_49 at h
    refine g_run 2 (pc' := 51) (L' := [some (.ref 526), some (.int y1), some (.int y2)]) (S' := [.int y1, .int y2]) (M' := gm g) rfl ?_
    refine g_icmp (y1 ≤ y2) rfl (t := 68) rfl rfl (fun c1 => ?_) (fun c1 => ?_)
    · replace h := (if_pos c1).symm.trans h
      refine g_forget (L' := [some (.ref 526), none, none]) (And.intro rfl True.intro) ?_
      exact p_X12_nights_68 hD g _ h
    · replace h := (if_neg c1).symm.trans h
      refine g_run 1 (pc' := 55) (L' := [some (.ref 526), some (.int y1), some (.int y2)]) (S' := [.ref 526]) (M' := gm g) rfl ?_
      replace h := zB_of h
      obtain ⟨v2, g3, e4, h⟩ := h
      refine g_inv2 (kd := 1) (p_X12_keep  e4) rfl rfl rfl (by decide) rfl rfl rfl rfl (by omega) (pc' := 58) rfl (S' := []) rfl ?_
      refine g_run 1 (pc' := 59) (L' := [some (.ref 526), some (.int y1), some (.int y2)]) (S' := [.ref 526]) (M' := gm g3) rfl ?_
      replace h := zB_of h
      obtain ⟨v5, g6, e7, h⟩ := h
      refine g_inv2 (kd := 1) (p_X12_passNight  e7) rfl rfl rfl (by decide) rfl rfl rfl rfl (by omega) (pc' := 62) rfl (S' := []) rfl ?_
      refine g_run 2 (pc' := 49) (L' := [some (.ref 526), some (.int y1), some (.int ((y2 + 1)))]) (S' := []) (M' := gm g6) rfl ?_
      exact ih (y1) (y2 + 1) g6 _ h
def f_X12_nights_39 (y1 : Int32) (s0 : Int32) (g : zSg) : Option (Int32 × zSg) := (zB (f_X12_isRefused s0 g) (fun v1 g2 => (if v1 = 0 then f_X12_nights_49 zFu (y1) (0) g2 else some ((-1), g2))))
set_option maxRecDepth 100000 in
set_option maxHeartbeats 4000000 in
theorem p_X12_nights_39 {sc : zSc} {hp : zHp} {d : Nat} (hD : 10 ≤ d) (y1 : Int32) (s0 : Int32) (g : zSg) (r : Int32 × zSg) (h : f_X12_nights_39 y1 s0 g = some r) : zG d sc hp (zcd zM_X12_nights) 39 [some (.ref 526), some (.int y1), none] [.int s0, .ref 526] (gm g) ((some (.int r.1)), gm r.2) := by
  obtain ⟨d, rfl⟩ : ∃ d', d = d' + 1 := ⟨d - 1, by omega⟩
  unfold f_X12_nights_39 at h
  replace h := zB_of h
  obtain ⟨v1, g2, e3, h⟩ := h
  refine g_inv2 (kd := 1) (p_X12_isRefused  e3) rfl rfl rfl (by decide) rfl rfl rfl rfl (by omega) (pc' := 42) rfl (S' := [.int v1]) rfl ?_
  refine g_if (v1 = 0) rfl (t := 47) rfl rfl (fun c4 => ?_) (fun c4 => ?_)
  · replace h := (if_pos c4).symm.trans h
    refine g_run 2 (pc' := 49) (L' := [some (.ref 526), some (.int y1), some (.int 0)]) (S' := []) (M' := gm g2) rfl ?_
    exact p_X12_nights_49 hD zFu (y1) (0) g2 _ h
  · replace h := (if_neg c4).symm.trans h
    refine g_run 1 (pc' := 46) (L' := [some (.ref 526), some (.int y1), none]) (S' := [.int (-1)]) (M' := gm g2) rfl ?_
    cases h
    exact g_ret rfl rfl rfl rfl
def f_X12_nights (x1 : Int32) (g : zSg) : Option (Int32 × zSg) := (if ¬ (gI g 526 27) = 0 then (zB (f_X12_in x1 1 60 g) (fun v2 g3 => (if ¬ v2 = 0 then (zB (f_X12_areNights x1 g3) (fun v6 g7 => (if ¬ v6 = 0 then f_X12_nights_39 (x1) (-1) g7 else f_X12_nights_39 (x1) (4) g7))) else f_X12_nights_39 (x1) (1) g3))) else f_X12_nights_39 (x1) (0) g)
set_option maxRecDepth 100000 in
set_option maxHeartbeats 4000000 in
theorem p_X12_nights {sc : zSc} {hp : zHp} {x1 : Int32} {g : zSg} {r : Int32 × zSg} (h : f_X12_nights x1 g = some r) : zRn sc hp 10 zM_X12_nights [.ref 526, .int x1] (gm g) (some (.int r.1)) (gm r.2) := by
  intro d hD
  obtain ⟨d, rfl⟩ : ∃ d', d = d' + 1 := ⟨d - 1, by omega⟩
  show zG _ sc hp (zcd zM_X12_nights) 0 [some (.ref 526), some (.int x1), none] [] (gm g) _
  unfold f_X12_nights at h
  refine g_run 3 (pc' := 5) (L' := [some (.ref 526), some (.int x1), none]) (S' := [.int ((gI g 526 27)), .ref 526]) (M' := gm g) rfl ?_
  refine g_if (¬ (gI g 526 27) = 0) rfl (t := 12) rfl rfl (fun c1 => ?_) (fun c1 => ?_)
  · replace h := (if_pos c1).symm.trans h
    refine g_run 3 (pc' := 16) (L' := [some (.ref 526), some (.int x1), none]) (S' := [.int 60, .int 1, .int x1, .ref 526]) (M' := gm g) rfl ?_
    replace h := zB_of h
    obtain ⟨v2, g3, e4, h⟩ := h
    refine g_inv2 (kd := 0) (p_X12_in  e4) rfl rfl rfl (by decide) rfl rfl rfl rfl (by omega) (pc' := 19) rfl (S' := [.int v2, .ref 526]) rfl ?_
    refine g_if (¬ v2 = 0) rfl (t := 26) rfl rfl (fun c5 => ?_) (fun c5 => ?_)
    · replace h := (if_pos c5).symm.trans h
      refine g_run 2 (pc' := 28) (L' := [some (.ref 526), some (.int x1), none]) (S' := [.int x1, .ref 526, .ref 526]) (M' := gm g3) rfl ?_
      replace h := zB_of h
      obtain ⟨v6, g7, e8, h⟩ := h
      refine g_inv2 (kd := 1) (p_X12_areNights  e8) rfl rfl rfl (by decide) rfl rfl rfl rfl (by omega) (pc' := 31) rfl (S' := [.int v6, .ref 526]) rfl ?_
      refine g_if (¬ v6 = 0) rfl (t := 38) rfl rfl (fun c9 => ?_) (fun c9 => ?_)
      · replace h := (if_pos c9).symm.trans h
        refine g_run 1 (pc' := 39) (L' := [some (.ref 526), some (.int x1), none]) (S' := [.int (-1), .ref 526]) (M' := gm g7) rfl ?_
        exact p_X12_nights_39 hD (x1) (-1) g7 _ h
      · replace h := (if_neg c9).symm.trans h
        refine g_run 2 (pc' := 39) (L' := [some (.ref 526), some (.int x1), none]) (S' := [.int 4, .ref 526]) (M' := gm g7) rfl ?_
        exact p_X12_nights_39 hD (x1) (4) g7 _ h
    · replace h := (if_neg c5).symm.trans h
      refine g_run 2 (pc' := 39) (L' := [some (.ref 526), some (.int x1), none]) (S' := [.int 1, .ref 526]) (M' := gm g3) rfl ?_
      exact p_X12_nights_39 hD (x1) (1) g3 _ h
  · replace h := (if_neg c1).symm.trans h
    refine g_run 2 (pc' := 39) (L' := [some (.ref 526), some (.int x1), none]) (S' := [.int 0, .ref 526]) (M' := gm g) rfl ?_
    exact p_X12_nights_39 hD (x1) (0) g _ h
def f_X12_hang_41 (y1 : Int32) (s0 : Int32) (g : zSg) : Option (Int32 × zSg) := (zB (f_X12_isRefused s0 g) (fun v1 g2 => (if v1 = 0 then (zB (f_X12_keep g2) (fun v5 g6 => (zB (f_X12_hangs y1 (gsI (gsI g6 543 52 ((gI g6 543 52) - 1)) 543 48 ((gI (gsI g6 543 52 ((gI g6 543 52) - 1)) 543 48) ^^^ (1 <<< (y1 &&& 31))))) (fun v8 g9 => (if v8 = 0 then some (0, g9) else some (1, g9)))))) else some ((-1), g2))))
set_option maxRecDepth 100000 in
set_option maxHeartbeats 4000000 in
theorem p_X12_hang_41 {sc : zSc} {hp : zHp} {d : Nat} (hD : 2 ≤ d) (y1 : Int32) (s0 : Int32) (g : zSg) (r : Int32 × zSg) (h : f_X12_hang_41 y1 s0 g = some r) : zG d sc hp (zcd zM_X12_hang) 41 [some (.ref 526), some (.int y1)] [.int s0, .ref 526] (gm g) ((some (.int r.1)), gm r.2) := by
  obtain ⟨d, rfl⟩ : ∃ d', d = d' + 1 := ⟨d - 1, by omega⟩
  unfold f_X12_hang_41 at h
  replace h := zB_of h
  obtain ⟨v1, g2, e3, h⟩ := h
  refine g_inv2 (kd := 1) (p_X12_isRefused  e3) rfl rfl rfl (by decide) rfl rfl rfl rfl (by omega) (pc' := 44) rfl (S' := [.int v1]) rfl ?_
  refine g_if (v1 = 0) rfl (t := 49) rfl rfl (fun c4 => ?_) (fun c4 => ?_)
  · replace h := (if_pos c4).symm.trans h
    refine g_run 1 (pc' := 50) (L' := [some (.ref 526), some (.int y1)]) (S' := [.ref 526]) (M' := gm g2) rfl ?_
    replace h := zB_of h
    obtain ⟨v5, g6, e7, h⟩ := h
    refine g_inv2 (kd := 1) (p_X12_keep  e7) rfl rfl rfl (by decide) rfl rfl rfl rfl (by omega) (pc' := 53) rfl (S' := []) rfl ?_
    refine g_run 20 (pc' := 79) (L' := [some (.ref 526), some (.int y1)]) (S' := [.int y1, .ref 526]) (M' := gm (gsI (gsI g6 543 52 ((gI g6 543 52) - 1)) 543 48 ((gI (gsI g6 543 52 ((gI g6 543 52) - 1)) 543 48) ^^^ (1 <<< (y1 &&& 31))))) rfl ?_
    replace h := zB_of h
    obtain ⟨v8, g9, e10, h⟩ := h
    refine g_inv2 (kd := 1) (p_X12_hangs  e10) rfl rfl rfl (by decide) rfl rfl rfl rfl (by omega) (pc' := 82) rfl (S' := [.int v8]) rfl ?_
    refine g_if (v8 = 0) rfl (t := 89) rfl rfl (fun c11 => ?_) (fun c11 => ?_)
    · replace h := (if_pos c11).symm.trans h
      refine g_run 1 (pc' := 90) (L' := [some (.ref 526), some (.int y1)]) (S' := [.int 0]) (M' := gm g9) rfl ?_
      cases h
      exact g_ret rfl rfl rfl rfl
    · replace h := (if_neg c11).symm.trans h
      refine g_run 2 (pc' := 90) (L' := [some (.ref 526), some (.int y1)]) (S' := [.int 1]) (M' := gm g9) rfl ?_
      cases h
      exact g_ret rfl rfl rfl rfl
  · replace h := (if_neg c4).symm.trans h
    refine g_run 1 (pc' := 48) (L' := [some (.ref 526), some (.int y1)]) (S' := [.int (-1)]) (M' := gm g2) rfl ?_
    cases h
    exact g_ret rfl rfl rfl rfl
def f_X12_hang (x1 : Int32) (g : zSg) : Option (Int32 × zSg) := (zB (f_X12_isSecret x1 g) (fun v1 g2 => (if ¬ v1 = 0 then (zB (f_X12_isRaw x1 g2) (fun v5 g6 => (if ¬ v5 = 0 then (if 1 ≤ (gI g6 543 52) then f_X12_hang_41 (x1) (-1) g6 else f_X12_hang_41 (x1) (3) g6) else f_X12_hang_41 (x1) (2) g6))) else f_X12_hang_41 (x1) (0) g2)))
set_option maxRecDepth 100000 in
set_option maxHeartbeats 4000000 in
theorem p_X12_hang {sc : zSc} {hp : zHp} {x1 : Int32} {g : zSg} {r : Int32 × zSg} (h : f_X12_hang x1 g = some r) : zRn sc hp 2 zM_X12_hang [.ref 526, .int x1] (gm g) (some (.int r.1)) (gm r.2) := by
  intro d hD
  obtain ⟨d, rfl⟩ : ∃ d', d = d' + 1 := ⟨d - 1, by omega⟩
  show zG _ sc hp (zcd zM_X12_hang) 0 [some (.ref 526), some (.int x1)] [] (gm g) _
  unfold f_X12_hang at h
  refine g_run 3 (pc' := 3) (L' := [some (.ref 526), some (.int x1)]) (S' := [.int x1, .ref 526, .ref 526]) (M' := gm g) rfl ?_
  replace h := zB_of h
  obtain ⟨v1, g2, e3, h⟩ := h
  refine g_inv2 (kd := 1) (p_X12_isSecret  e3) rfl rfl rfl (by decide) rfl rfl rfl rfl (by omega) (pc' := 6) rfl (S' := [.int v1, .ref 526]) rfl ?_
  refine g_if (¬ v1 = 0) rfl (t := 13) rfl rfl (fun c4 => ?_) (fun c4 => ?_)
  · replace h := (if_pos c4).symm.trans h
    refine g_run 2 (pc' := 15) (L' := [some (.ref 526), some (.int x1)]) (S' := [.int x1, .ref 526, .ref 526]) (M' := gm g2) rfl ?_
    replace h := zB_of h
    obtain ⟨v5, g6, e7, h⟩ := h
    refine g_inv2 (kd := 1) (p_X12_isRaw  e7) rfl rfl rfl (by decide) rfl rfl rfl rfl (by omega) (pc' := 18) rfl (S' := [.int v5, .ref 526]) rfl ?_
    refine g_if (¬ v5 = 0) rfl (t := 25) rfl rfl (fun c8 => ?_) (fun c8 => ?_)
    · replace h := (if_pos c8).symm.trans h
      refine g_run 5 (pc' := 33) (L' := [some (.ref 526), some (.int x1)]) (S' := [.int 1, .int ((gI g6 543 52)), .ref 526]) (M' := gm g6) rfl ?_
      refine g_icmp (1 ≤ (gI g6 543 52)) rfl (t := 40) rfl rfl (fun c9 => ?_) (fun c9 => ?_)
      · replace h := (if_pos c9).symm.trans h
        refine g_run 1 (pc' := 41) (L' := [some (.ref 526), some (.int x1)]) (S' := [.int (-1), .ref 526]) (M' := gm g6) rfl ?_
        exact p_X12_hang_41 hD (x1) (-1) g6 _ h
      · replace h := (if_neg c9).symm.trans h
        refine g_run 2 (pc' := 41) (L' := [some (.ref 526), some (.int x1)]) (S' := [.int 3, .ref 526]) (M' := gm g6) rfl ?_
        exact p_X12_hang_41 hD (x1) (3) g6 _ h
    · replace h := (if_neg c8).symm.trans h
      refine g_run 2 (pc' := 41) (L' := [some (.ref 526), some (.int x1)]) (S' := [.int 2, .ref 526]) (M' := gm g6) rfl ?_
      exact p_X12_hang_41 hD (x1) (2) g6 _ h
  · replace h := (if_neg c4).symm.trans h
    refine g_run 2 (pc' := 41) (L' := [some (.ref 526), some (.int x1)]) (S' := [.int 0, .ref 526]) (M' := gm g2) rfl ?_
    exact p_X12_hang_41 hD (x1) (0) g2 _ h
def f_X12_veers_41 (y1 : Int32) (s0 : Int32) (g : zSg) : Option (Int32 × zSg) := (zB (f_X12_isRefused s0 g) (fun v1 g2 => (if v1 = 0 then (zB (f_X12_keep g2) (fun v5 g6 => some ((gI g6 543 50), (gsI g6 543 50 y1)))) else some ((-1), g2))))
set_option maxRecDepth 100000 in
set_option maxHeartbeats 4000000 in
theorem p_X12_veers_41 {sc : zSc} {hp : zHp} {d : Nat} (hD : 1 ≤ d) (y1 : Int32) (s0 : Int32) (g : zSg) (r : Int32 × zSg) (h : f_X12_veers_41 y1 s0 g = some r) : zG d sc hp (zcd zM_X12_veers) 41 [some (.ref 526), some (.int y1), none] [.int s0, .ref 526] (gm g) ((some (.int r.1)), gm r.2) := by
  obtain ⟨d, rfl⟩ : ∃ d', d = d' + 1 := ⟨d - 1, by omega⟩
  unfold f_X12_veers_41 at h
  replace h := zB_of h
  obtain ⟨v1, g2, e3, h⟩ := h
  refine g_inv2 (kd := 1) (p_X12_isRefused  e3) rfl rfl rfl (by decide) rfl rfl rfl rfl (by omega) (pc' := 44) rfl (S' := [.int v1]) rfl ?_
  refine g_if (v1 = 0) rfl (t := 49) rfl rfl (fun c4 => ?_) (fun c4 => ?_)
  · replace h := (if_pos c4).symm.trans h
    refine g_run 1 (pc' := 50) (L' := [some (.ref 526), some (.int y1), none]) (S' := [.ref 526]) (M' := gm g2) rfl ?_
    replace h := zB_of h
    obtain ⟨v5, g6, e7, h⟩ := h
    refine g_inv2 (kd := 1) (p_X12_keep  e7) rfl rfl rfl (by decide) rfl rfl rfl rfl (by omega) (pc' := 53) rfl (S' := []) rfl ?_
    refine g_run 11 (pc' := 70) (L' := [some (.ref 526), some (.int y1), some (.int ((gI g6 543 50)))]) (S' := [.int ((gI g6 543 50))]) (M' := gm (gsI g6 543 50 y1)) rfl ?_
    cases h
    exact g_ret rfl rfl rfl rfl
  · replace h := (if_neg c4).symm.trans h
    refine g_run 1 (pc' := 48) (L' := [some (.ref 526), some (.int y1), none]) (S' := [.int (-1)]) (M' := gm g2) rfl ?_
    cases h
    exact g_ret rfl rfl rfl rfl
def f_X12_veers (x1 : Int32) (g : zSg) : Option (Int32 × zSg) := (if ¬ (gI g 526 27) = 0 then (zB (f_X12_in x1 0 3 g) (fun v2 g3 => (if ¬ v2 = 0 then (if ¬ x1 = (gI g3 543 50) then f_X12_veers_41 (x1) (-1) g3 else f_X12_veers_41 (x1) (2) g3) else f_X12_veers_41 (x1) (1) g3))) else f_X12_veers_41 (x1) (0) g)
set_option maxRecDepth 100000 in
set_option maxHeartbeats 4000000 in
theorem p_X12_veers {sc : zSc} {hp : zHp} {x1 : Int32} {g : zSg} {r : Int32 × zSg} (h : f_X12_veers x1 g = some r) : zRn sc hp 1 zM_X12_veers [.ref 526, .int x1] (gm g) (some (.int r.1)) (gm r.2) := by
  intro d hD
  obtain ⟨d, rfl⟩ : ∃ d', d = d' + 1 := ⟨d - 1, by omega⟩
  show zG _ sc hp (zcd zM_X12_veers) 0 [some (.ref 526), some (.int x1), none] [] (gm g) _
  unfold f_X12_veers at h
  refine g_run 3 (pc' := 5) (L' := [some (.ref 526), some (.int x1), none]) (S' := [.int ((gI g 526 27)), .ref 526]) (M' := gm g) rfl ?_
  refine g_if (¬ (gI g 526 27) = 0) rfl (t := 12) rfl rfl (fun c1 => ?_) (fun c1 => ?_)
  · replace h := (if_pos c1).symm.trans h
    refine g_run 3 (pc' := 15) (L' := [some (.ref 526), some (.int x1), none]) (S' := [.int 3, .int 0, .int x1, .ref 526]) (M' := gm g) rfl ?_
    replace h := zB_of h
    obtain ⟨v2, g3, e4, h⟩ := h
    refine g_inv2 (kd := 0) (p_X12_in  e4) rfl rfl rfl (by decide) rfl rfl rfl rfl (by omega) (pc' := 18) rfl (S' := [.int v2, .ref 526]) rfl ?_
    refine g_if (¬ v2 = 0) rfl (t := 25) rfl rfl (fun c5 => ?_) (fun c5 => ?_)
    · replace h := (if_pos c5).symm.trans h
      refine g_run 5 (pc' := 33) (L' := [some (.ref 526), some (.int x1), none]) (S' := [.int ((gI g3 543 50)), .int x1, .ref 526]) (M' := gm g3) rfl ?_
      refine g_icmp (¬ x1 = (gI g3 543 50)) rfl (t := 40) rfl rfl (fun c6 => ?_) (fun c6 => ?_)
      · replace h := (if_pos c6).symm.trans h
        refine g_run 1 (pc' := 41) (L' := [some (.ref 526), some (.int x1), none]) (S' := [.int (-1), .ref 526]) (M' := gm g3) rfl ?_
        exact p_X12_veers_41 hD (x1) (-1) g3 _ h
      · replace h := (if_neg c6).symm.trans h
        refine g_run 2 (pc' := 41) (L' := [some (.ref 526), some (.int x1), none]) (S' := [.int 2, .ref 526]) (M' := gm g3) rfl ?_
        exact p_X12_veers_41 hD (x1) (2) g3 _ h
    · replace h := (if_neg c5).symm.trans h
      refine g_run 2 (pc' := 41) (L' := [some (.ref 526), some (.int x1), none]) (S' := [.int 1, .ref 526]) (M' := gm g3) rfl ?_
      exact p_X12_veers_41 hD (x1) (1) g3 _ h
  · replace h := (if_neg c1).symm.trans h
    refine g_run 2 (pc' := 41) (L' := [some (.ref 526), some (.int x1), none]) (S' := [.int 0, .ref 526]) (M' := gm g) rfl ?_
    exact p_X12_veers_41 hD (x1) (0) g _ h
def f_X12_moves_59 (y1 : Int32) (y2 : Int32) (s0 : Int32) (g : zSg) : Option (Int32 × zSg) := (zB (f_X12_isRefused s0 g) (fun v1 g2 => (if v1 = 0 then (zB (f_X12_keep g2) (fun v5 g6 => (if zib (0 + y1) 235 = true then (zB (f_X12_beside (gI (gsI g6 543 52 ((gI g6 543 52) - 2)) 543 (ix (0 + y1))) y2 (gsI g6 543 52 ((gI g6 543 52) - 2))) (fun v9 g10 => (if zib (0 + y1) 235 = true then (if zib (0 + y1) 235 = true then some ((gI (gsI g10 (543) (ix (0 + y1)) v9) 543 (ix (0 + y1))), (gsI g10 (543) (ix (0 + y1)) v9)) else none) else none))) else none))) else some ((-1), g2))))
set_option maxRecDepth 100000 in
set_option maxHeartbeats 4000000 in
theorem p_X12_moves_59 {sc : zSc} {hp : zHp} {d : Nat} (hD : 2 ≤ d) (y1 : Int32) (y2 : Int32) (s0 : Int32) (g : zSg) (r : Int32 × zSg) (h : f_X12_moves_59 y1 y2 s0 g = some r) : zG d sc hp (zcd zM_X12_moves) 59 [some (.ref 526), some (.int y1), some (.int y2)] [.int s0, .ref 526] (gm g) ((some (.int r.1)), gm r.2) := by
  obtain ⟨d, rfl⟩ : ∃ d', d = d' + 1 := ⟨d - 1, by omega⟩
  unfold f_X12_moves_59 at h
  replace h := zB_of h
  obtain ⟨v1, g2, e3, h⟩ := h
  refine g_inv2 (kd := 1) (p_X12_isRefused  e3) rfl rfl rfl (by decide) rfl rfl rfl rfl (by omega) (pc' := 62) rfl (S' := [.int v1]) rfl ?_
  refine g_if (v1 = 0) rfl (t := 67) rfl rfl (fun c4 => ?_) (fun c4 => ?_)
  · replace h := (if_pos c4).symm.trans h
    refine g_run 1 (pc' := 68) (L' := [some (.ref 526), some (.int y1), some (.int y2)]) (S' := [.ref 526]) (M' := gm g2) rfl ?_
    replace h := zB_of h
    obtain ⟨v5, g6, e7, h⟩ := h
    refine g_inv2 (kd := 1) (p_X12_keep  e7) rfl rfl rfl (by decide) rfl rfl rfl rfl (by omega) (pc' := 71) rfl (S' := []) rfl ?_
    refine g_run 19 (pc' := 97) (L' := [some (.ref 526), some (.int y1), some (.int y2)]) (S' := [.int ((0 + y1)), .ref 543, .ref 526, .int ((0 + y1)), .ref 543]) (M' := gm (gsI g6 543 52 ((gI g6 543 52) - 2))) rfl ?_
    by_cases c8 : zib (0 + y1) 235 = true
    case neg => exact nomatch ((if_neg c8).symm.trans h)
    replace h := (if_pos c8).symm.trans h
    refine g_iald rfl (a := 543) rfl c8 ?_
    refine g_run 1 (pc' := 99) (L' := [some (.ref 526), some (.int y1), some (.int y2)]) (S' := [.int y2, .int ((gI (gsI g6 543 52 ((gI g6 543 52) - 2)) 543 (ix (0 + y1)))), .ref 526, .int ((0 + y1)), .ref 543]) (M' := gm (gsI g6 543 52 ((gI g6 543 52) - 2))) rfl ?_
    replace h := zB_of h
    obtain ⟨v9, g10, e11, h⟩ := h
    refine g_inv2 (kd := 1) (p_X12_beside  e11) rfl rfl rfl (by decide) rfl rfl rfl rfl (by omega) (pc' := 102) rfl (S' := [.int v9, .int ((0 + y1)), .ref 543]) rfl ?_
    by_cases c12 : zib (0 + y1) 235 = true
    case neg => exact nomatch ((if_neg c12).symm.trans h)
    replace h := (if_pos c12).symm.trans h
    refine g_iast rfl (a := 543) rfl c12 ?_
    refine g_run 5 (pc' := 110) (L' := [some (.ref 526), some (.int y1), some (.int y2)]) (S' := [.int ((0 + y1)), .ref 543]) (M' := gm (gsI g10 (543) (ix (0 + y1)) v9)) rfl ?_
    by_cases c13 : zib (0 + y1) 235 = true
    case neg => exact nomatch ((if_neg c13).symm.trans h)
    replace h := (if_pos c13).symm.trans h
    refine g_iald rfl (a := 543) rfl c13 ?_
    cases h
    exact g_ret rfl rfl rfl rfl
  · replace h := (if_neg c4).symm.trans h
    refine g_run 1 (pc' := 66) (L' := [some (.ref 526), some (.int y1), some (.int y2)]) (S' := [.int (-1)]) (M' := gm g2) rfl ?_
    cases h
    exact g_ret rfl rfl rfl rfl
def f_X12_moves_39 (y1 : Int32) (y2 : Int32) (g : zSg) : Option (Int32 × zSg) := f_X12_moves_59 (y1) (y2) (1) g
set_option maxRecDepth 100000 in
set_option maxHeartbeats 4000000 in
theorem p_X12_moves_39 {sc : zSc} {hp : zHp} {d : Nat} (hD : 2 ≤ d) (y1 : Int32) (y2 : Int32) (g : zSg) (r : Int32 × zSg) (h : f_X12_moves_39 y1 y2 g = some r) : zG d sc hp (zcd zM_X12_moves) 39 [some (.ref 526), some (.int y1), some (.int y2)] [.ref 526] (gm g) ((some (.int r.1)), gm r.2) := by
  obtain ⟨d, rfl⟩ : ∃ d', d = d' + 1 := ⟨d - 1, by omega⟩
  unfold f_X12_moves_39 at h
  refine g_run 2 (pc' := 59) (L' := [some (.ref 526), some (.int y1), some (.int y2)]) (S' := [.int 1, .ref 526]) (M' := gm g) rfl ?_
  exact p_X12_moves_59 hD (y1) (y2) (1) g _ h
def f_X12_moves (x1 : Int32) (x2 : Int32) (g : zSg) : Option (Int32 × zSg) := (zB (f_X12_isPerson x1 g) (fun v1 g2 => (if ¬ v1 = 0 then (zB (f_X12_in x2 0 3 g2) (fun v5 g6 => (if v5 = 0 then f_X12_moves_39 (x1) (x2) g6 else (if zib (0 + x1) 235 = true then (zB (f_X12_beside (gI g6 543 (ix (0 + x1))) x2 g6) (fun v10 g11 => (if ¬ v10 = (-1) then (if 2 ≤ (gI g11 543 52) then f_X12_moves_59 (x1) (x2) (-1) g11 else f_X12_moves_59 (x1) (x2) (3) g11) else f_X12_moves_39 (x1) (x2) g11))) else none)))) else f_X12_moves_59 (x1) (x2) (0) g2)))
set_option maxRecDepth 100000 in
set_option maxHeartbeats 4000000 in
theorem p_X12_moves {sc : zSc} {hp : zHp} {x1 : Int32} {x2 : Int32} {g : zSg} {r : Int32 × zSg} (h : f_X12_moves x1 x2 g = some r) : zRn sc hp 2 zM_X12_moves [.ref 526, .int x1, .int x2] (gm g) (some (.int r.1)) (gm r.2) := by
  intro d hD
  obtain ⟨d, rfl⟩ : ∃ d', d = d' + 1 := ⟨d - 1, by omega⟩
  show zG _ sc hp (zcd zM_X12_moves) 0 [some (.ref 526), some (.int x1), some (.int x2)] [] (gm g) _
  unfold f_X12_moves at h
  refine g_run 3 (pc' := 3) (L' := [some (.ref 526), some (.int x1), some (.int x2)]) (S' := [.int x1, .ref 526, .ref 526]) (M' := gm g) rfl ?_
  replace h := zB_of h
  obtain ⟨v1, g2, e3, h⟩ := h
  refine g_inv2 (kd := 1) (p_X12_isPerson  e3) rfl rfl rfl (by decide) rfl rfl rfl rfl (by omega) (pc' := 6) rfl (S' := [.int v1, .ref 526]) rfl ?_
  refine g_if (¬ v1 = 0) rfl (t := 13) rfl rfl (fun c4 => ?_) (fun c4 => ?_)
  · replace h := (if_pos c4).symm.trans h
    refine g_run 3 (pc' := 16) (L' := [some (.ref 526), some (.int x1), some (.int x2)]) (S' := [.int 3, .int 0, .int x2, .ref 526]) (M' := gm g2) rfl ?_
    replace h := zB_of h
    obtain ⟨v5, g6, e7, h⟩ := h
    refine g_inv2 (kd := 0) (p_X12_in  e7) rfl rfl rfl (by decide) rfl rfl rfl rfl (by omega) (pc' := 19) rfl (S' := [.int v5, .ref 526]) rfl ?_
    refine g_if (v5 = 0) rfl (t := 39) rfl rfl (fun c8 => ?_) (fun c8 => ?_)
    · replace h := (if_pos c8).symm.trans h
      exact p_X12_moves_39 hD (x1) (x2) g6 _ h
    · replace h := (if_neg c8).symm.trans h
      refine g_run 6 (pc' := 30) (L' := [some (.ref 526), some (.int x1), some (.int x2)]) (S' := [.int ((0 + x1)), .ref 543, .ref 526, .ref 526]) (M' := gm g6) rfl ?_
      by_cases c9 : zib (0 + x1) 235 = true
      case neg => exact nomatch ((if_neg c9).symm.trans h)
      replace h := (if_pos c9).symm.trans h
      refine g_iald rfl (a := 543) rfl c9 ?_
      refine g_run 1 (pc' := 32) (L' := [some (.ref 526), some (.int x1), some (.int x2)]) (S' := [.int x2, .int ((gI g6 543 (ix (0 + x1)))), .ref 526, .ref 526]) (M' := gm g6) rfl ?_
      replace h := zB_of h
      obtain ⟨v10, g11, e12, h⟩ := h
      refine g_inv2 (kd := 1) (p_X12_beside  e12) rfl rfl rfl (by decide) rfl rfl rfl rfl (by omega) (pc' := 35) rfl (S' := [.int v10, .ref 526]) rfl ?_
      refine g_run 1 (pc' := 36) (L' := [some (.ref 526), some (.int x1), some (.int x2)]) (S' := [.int (-1), .int v10, .ref 526]) (M' := gm g11) rfl ?_
      refine g_icmp (¬ v10 = (-1)) rfl (t := 43) rfl rfl (fun c13 => ?_) (fun c13 => ?_)
      · replace h := (if_pos c13).symm.trans h
        refine g_run 5 (pc' := 51) (L' := [some (.ref 526), some (.int x1), some (.int x2)]) (S' := [.int 2, .int ((gI g11 543 52)), .ref 526]) (M' := gm g11) rfl ?_
        refine g_icmp (2 ≤ (gI g11 543 52)) rfl (t := 58) rfl rfl (fun c14 => ?_) (fun c14 => ?_)
        · replace h := (if_pos c14).symm.trans h
          refine g_run 1 (pc' := 59) (L' := [some (.ref 526), some (.int x1), some (.int x2)]) (S' := [.int (-1), .ref 526]) (M' := gm g11) rfl ?_
          exact p_X12_moves_59 hD (x1) (x2) (-1) g11 _ h
        · replace h := (if_neg c14).symm.trans h
          refine g_run 2 (pc' := 59) (L' := [some (.ref 526), some (.int x1), some (.int x2)]) (S' := [.int 3, .ref 526]) (M' := gm g11) rfl ?_
          exact p_X12_moves_59 hD (x1) (x2) (3) g11 _ h
      · replace h := (if_neg c13).symm.trans h
        exact p_X12_moves_39 hD (x1) (x2) g11 _ h
  · replace h := (if_neg c4).symm.trans h
    refine g_run 2 (pc' := 59) (L' := [some (.ref 526), some (.int x1), some (.int x2)]) (S' := [.int 0, .ref 526]) (M' := gm g2) rfl ?_
    exact p_X12_moves_59 hD (x1) (x2) (0) g2 _ h
def f_X12_oak_61 (y1 : Int32) (s0 : Int32) (g : zSg) : Option (Int32 × zSg) := (zB (f_X12_isRefused s0 g) (fun v1 g2 => (if v1 = 0 then (zB (f_X12_keep g2) (fun v5 g6 => some ((gI (gsI (gsI g6 543 52 ((gI g6 543 52) - ((y1 + 1) / 2))) 543 51 ((gI (gsI g6 543 52 ((gI g6 543 52) - ((y1 + 1) / 2))) 543 51) + y1)) 543 51), (gsI (gsI g6 543 52 ((gI g6 543 52) - ((y1 + 1) / 2))) 543 51 ((gI (gsI g6 543 52 ((gI g6 543 52) - ((y1 + 1) / 2))) 543 51) + y1))))) else some ((-1), g2))))
set_option maxRecDepth 100000 in
set_option maxHeartbeats 4000000 in
theorem p_X12_oak_61 {sc : zSc} {hp : zHp} {d : Nat} (hD : 1 ≤ d) (y1 : Int32) (s0 : Int32) (g : zSg) (r : Int32 × zSg) (h : f_X12_oak_61 y1 s0 g = some r) : zG d sc hp (zcd zM_X12_oak) 61 [some (.ref 526), some (.int y1)] [.int s0, .ref 526] (gm g) ((some (.int r.1)), gm r.2) := by
  obtain ⟨d, rfl⟩ : ∃ d', d = d' + 1 := ⟨d - 1, by omega⟩
  unfold f_X12_oak_61 at h
  replace h := zB_of h
  obtain ⟨v1, g2, e3, h⟩ := h
  refine g_inv2 (kd := 1) (p_X12_isRefused  e3) rfl rfl rfl (by decide) rfl rfl rfl rfl (by omega) (pc' := 64) rfl (S' := [.int v1]) rfl ?_
  refine g_if (v1 = 0) rfl (t := 69) rfl rfl (fun c4 => ?_) (fun c4 => ?_)
  · replace h := (if_pos c4).symm.trans h
    refine g_run 1 (pc' := 70) (L' := [some (.ref 526), some (.int y1)]) (S' := [.ref 526]) (M' := gm g2) rfl ?_
    replace h := zB_of h
    obtain ⟨v5, g6, e7, h⟩ := h
    refine g_inv2 (kd := 1) (p_X12_keep  e7) rfl rfl rfl (by decide) rfl rfl rfl rfl (by omega) (pc' := 73) rfl (S' := []) rfl ?_
    refine g_run 24 (pc' := 106) (L' := [some (.ref 526), some (.int y1)]) (S' := [.int ((gI (gsI (gsI g6 543 52 ((gI g6 543 52) - ((y1 + 1) / 2))) 543 51 ((gI (gsI g6 543 52 ((gI g6 543 52) - ((y1 + 1) / 2))) 543 51) + y1)) 543 51))]) (M' := gm (gsI (gsI g6 543 52 ((gI g6 543 52) - ((y1 + 1) / 2))) 543 51 ((gI (gsI g6 543 52 ((gI g6 543 52) - ((y1 + 1) / 2))) 543 51) + y1))) rfl ?_
    cases h
    exact g_ret rfl rfl rfl rfl
  · replace h := (if_neg c4).symm.trans h
    refine g_run 1 (pc' := 68) (L' := [some (.ref 526), some (.int y1)]) (S' := [.int (-1)]) (M' := gm g2) rfl ?_
    cases h
    exact g_ret rfl rfl rfl rfl
def f_X12_oak_56 (y1 : Int32) (g : zSg) : Option (Int32 × zSg) := f_X12_oak_61 (y1) (3) g
set_option maxRecDepth 100000 in
set_option maxHeartbeats 4000000 in
theorem p_X12_oak_56 {sc : zSc} {hp : zHp} {d : Nat} (hD : 1 ≤ d) (y1 : Int32) (g : zSg) (r : Int32 × zSg) (h : f_X12_oak_56 y1 g = some r) : zG d sc hp (zcd zM_X12_oak) 56 [some (.ref 526), some (.int y1)] [.ref 526] (gm g) ((some (.int r.1)), gm r.2) := by
  obtain ⟨d, rfl⟩ : ∃ d', d = d' + 1 := ⟨d - 1, by omega⟩
  unfold f_X12_oak_56 at h
  refine g_run 2 (pc' := 61) (L' := [some (.ref 526), some (.int y1)]) (S' := [.int 3, .ref 526]) (M' := gm g) rfl ?_
  exact p_X12_oak_61 hD (y1) (3) g _ h
def f_X12_oak (x1 : Int32) (g : zSg) : Option (Int32 × zSg) := (if ¬ (gI g 526 27) = 0 then (zB (f_X12_in x1 1 30 g) (fun v2 g3 => (if ¬ v2 = 0 then (if (gI g3 543 52) < ((x1 + 1) / 2) then f_X12_oak_56 (x1) g3 else (if ((gI g3 543 51) + x1) ≤ 999 then f_X12_oak_61 (x1) (-1) g3 else f_X12_oak_56 (x1) g3)) else f_X12_oak_61 (x1) (1) g3))) else f_X12_oak_61 (x1) (0) g)
set_option maxRecDepth 100000 in
set_option maxHeartbeats 4000000 in
theorem p_X12_oak {sc : zSc} {hp : zHp} {x1 : Int32} {g : zSg} {r : Int32 × zSg} (h : f_X12_oak x1 g = some r) : zRn sc hp 1 zM_X12_oak [.ref 526, .int x1] (gm g) (some (.int r.1)) (gm r.2) := by
  intro d hD
  obtain ⟨d, rfl⟩ : ∃ d', d = d' + 1 := ⟨d - 1, by omega⟩
  show zG _ sc hp (zcd zM_X12_oak) 0 [some (.ref 526), some (.int x1)] [] (gm g) _
  unfold f_X12_oak at h
  refine g_run 3 (pc' := 5) (L' := [some (.ref 526), some (.int x1)]) (S' := [.int ((gI g 526 27)), .ref 526]) (M' := gm g) rfl ?_
  refine g_if (¬ (gI g 526 27) = 0) rfl (t := 12) rfl rfl (fun c1 => ?_) (fun c1 => ?_)
  · replace h := (if_pos c1).symm.trans h
    refine g_run 3 (pc' := 16) (L' := [some (.ref 526), some (.int x1)]) (S' := [.int 30, .int 1, .int x1, .ref 526]) (M' := gm g) rfl ?_
    replace h := zB_of h
    obtain ⟨v2, g3, e4, h⟩ := h
    refine g_inv2 (kd := 0) (p_X12_in  e4) rfl rfl rfl (by decide) rfl rfl rfl rfl (by omega) (pc' := 19) rfl (S' := [.int v2, .ref 526]) rfl ?_
    refine g_if (¬ v2 = 0) rfl (t := 26) rfl rfl (fun c5 => ?_) (fun c5 => ?_)
    · replace h := (if_pos c5).symm.trans h
      refine g_run 9 (pc' := 38) (L' := [some (.ref 526), some (.int x1)]) (S' := [.int (((x1 + 1) / 2)), .int ((gI g3 543 52)), .ref 526]) (M' := gm g3) rfl ?_
      refine g_icmp ((gI g3 543 52) < ((x1 + 1) / 2)) rfl (t := 56) rfl rfl (fun c6 => ?_) (fun c6 => ?_)
      · replace h := (if_pos c6).symm.trans h
        exact p_X12_oak_56 hD (x1) g3 _ h
      · replace h := (if_neg c6).symm.trans h
        refine g_run 7 (pc' := 53) (L' := [some (.ref 526), some (.int x1)]) (S' := [.int 999, .int (((gI g3 543 51) + x1)), .ref 526]) (M' := gm g3) rfl ?_
        refine g_icmp (((gI g3 543 51) + x1) ≤ 999) rfl (t := 60) rfl rfl (fun c7 => ?_) (fun c7 => ?_)
        · replace h := (if_pos c7).symm.trans h
          refine g_run 1 (pc' := 61) (L' := [some (.ref 526), some (.int x1)]) (S' := [.int (-1), .ref 526]) (M' := gm g3) rfl ?_
          exact p_X12_oak_61 hD (x1) (-1) g3 _ h
        · replace h := (if_neg c7).symm.trans h
          exact p_X12_oak_56 hD (x1) g3 _ h
    · replace h := (if_neg c5).symm.trans h
      refine g_run 2 (pc' := 61) (L' := [some (.ref 526), some (.int x1)]) (S' := [.int 1, .ref 526]) (M' := gm g3) rfl ?_
      exact p_X12_oak_61 hD (x1) (1) g3 _ h
  · replace h := (if_neg c1).symm.trans h
    refine g_run 2 (pc' := 61) (L' := [some (.ref 526), some (.int x1)]) (S' := [.int 0, .ref 526]) (M' := gm g) rfl ?_
    exact p_X12_oak_61 hD (x1) (0) g _ h
def f_X12_give_42 (y1 : Int32) (s0 : Int32) (g : zSg) : Option (Int32 × zSg) := (zB (f_X12_isRefused s0 g) (fun v1 g2 => (if v1 = 0 then (zB (f_X12_keep g2) (fun v5 g6 => some ((gI (gsI g6 543 52 ((gI g6 543 52) + y1)) 543 52), (gsI g6 543 52 ((gI g6 543 52) + y1))))) else some ((-1), g2))))
set_option maxRecDepth 100000 in
set_option maxHeartbeats 4000000 in
theorem p_X12_give_42 {sc : zSc} {hp : zHp} {d : Nat} (hD : 1 ≤ d) (y1 : Int32) (s0 : Int32) (g : zSg) (r : Int32 × zSg) (h : f_X12_give_42 y1 s0 g = some r) : zG d sc hp (zcd zM_X12_give) 42 [some (.ref 526), some (.int y1)] [.int s0, .ref 526] (gm g) ((some (.int r.1)), gm r.2) := by
  obtain ⟨d, rfl⟩ : ∃ d', d = d' + 1 := ⟨d - 1, by omega⟩
  unfold f_X12_give_42 at h
  replace h := zB_of h
  obtain ⟨v1, g2, e3, h⟩ := h
  refine g_inv2 (kd := 1) (p_X12_isRefused  e3) rfl rfl rfl (by decide) rfl rfl rfl rfl (by omega) (pc' := 45) rfl (S' := [.int v1]) rfl ?_
  refine g_if (v1 = 0) rfl (t := 50) rfl rfl (fun c4 => ?_) (fun c4 => ?_)
  · replace h := (if_pos c4).symm.trans h
    refine g_run 1 (pc' := 51) (L' := [some (.ref 526), some (.int y1)]) (S' := [.ref 526]) (M' := gm g2) rfl ?_
    replace h := zB_of h
    obtain ⟨v5, g6, e7, h⟩ := h
    refine g_inv2 (kd := 1) (p_X12_keep  e7) rfl rfl rfl (by decide) rfl rfl rfl rfl (by omega) (pc' := 54) rfl (S' := []) rfl ?_
    refine g_run 12 (pc' := 72) (L' := [some (.ref 526), some (.int y1)]) (S' := [.int ((gI (gsI g6 543 52 ((gI g6 543 52) + y1)) 543 52))]) (M' := gm (gsI g6 543 52 ((gI g6 543 52) + y1))) rfl ?_
    cases h
    exact g_ret rfl rfl rfl rfl
  · replace h := (if_neg c4).symm.trans h
    refine g_run 1 (pc' := 49) (L' := [some (.ref 526), some (.int y1)]) (S' := [.int (-1)]) (M' := gm g2) rfl ?_
    cases h
    exact g_ret rfl rfl rfl rfl
def f_X12_give_37 (y1 : Int32) (g : zSg) : Option (Int32 × zSg) := f_X12_give_42 (y1) (1) g
set_option maxRecDepth 100000 in
set_option maxHeartbeats 4000000 in
theorem p_X12_give_37 {sc : zSc} {hp : zHp} {d : Nat} (hD : 1 ≤ d) (y1 : Int32) (g : zSg) (r : Int32 × zSg) (h : f_X12_give_37 y1 g = some r) : zG d sc hp (zcd zM_X12_give) 37 [some (.ref 526), some (.int y1)] [.ref 526] (gm g) ((some (.int r.1)), gm r.2) := by
  obtain ⟨d, rfl⟩ : ∃ d', d = d' + 1 := ⟨d - 1, by omega⟩
  unfold f_X12_give_37 at h
  refine g_run 2 (pc' := 42) (L' := [some (.ref 526), some (.int y1)]) (S' := [.int 1, .ref 526]) (M' := gm g) rfl ?_
  exact p_X12_give_42 hD (y1) (1) g _ h
def f_X12_give (x1 : Int32) (g : zSg) : Option (Int32 × zSg) := (if ¬ (gI g 526 27) = 0 then (zB (f_X12_in x1 1 50 g) (fun v2 g3 => (if v2 = 0 then f_X12_give_37 (x1) g3 else (if ((gI g3 543 52) + x1) ≤ 999 then f_X12_give_42 (x1) (-1) g3 else f_X12_give_37 (x1) g3)))) else f_X12_give_42 (x1) (0) g)
set_option maxRecDepth 100000 in
set_option maxHeartbeats 4000000 in
theorem p_X12_give {sc : zSc} {hp : zHp} {x1 : Int32} {g : zSg} {r : Int32 × zSg} (h : f_X12_give x1 g = some r) : zRn sc hp 1 zM_X12_give [.ref 526, .int x1] (gm g) (some (.int r.1)) (gm r.2) := by
  intro d hD
  obtain ⟨d, rfl⟩ : ∃ d', d = d' + 1 := ⟨d - 1, by omega⟩
  show zG _ sc hp (zcd zM_X12_give) 0 [some (.ref 526), some (.int x1)] [] (gm g) _
  unfold f_X12_give at h
  refine g_run 3 (pc' := 5) (L' := [some (.ref 526), some (.int x1)]) (S' := [.int ((gI g 526 27)), .ref 526]) (M' := gm g) rfl ?_
  refine g_if (¬ (gI g 526 27) = 0) rfl (t := 12) rfl rfl (fun c1 => ?_) (fun c1 => ?_)
  · replace h := (if_pos c1).symm.trans h
    refine g_run 3 (pc' := 16) (L' := [some (.ref 526), some (.int x1)]) (S' := [.int 50, .int 1, .int x1, .ref 526]) (M' := gm g) rfl ?_
    replace h := zB_of h
    obtain ⟨v2, g3, e4, h⟩ := h
    refine g_inv2 (kd := 0) (p_X12_in  e4) rfl rfl rfl (by decide) rfl rfl rfl rfl (by omega) (pc' := 19) rfl (S' := [.int v2, .ref 526]) rfl ?_
    refine g_if (v2 = 0) rfl (t := 37) rfl rfl (fun c5 => ?_) (fun c5 => ?_)
    · replace h := (if_pos c5).symm.trans h
      exact p_X12_give_37 hD (x1) g3 _ h
    · replace h := (if_neg c5).symm.trans h
      refine g_run 7 (pc' := 34) (L' := [some (.ref 526), some (.int x1)]) (S' := [.int 999, .int (((gI g3 543 52) + x1)), .ref 526]) (M' := gm g3) rfl ?_
      refine g_icmp (((gI g3 543 52) + x1) ≤ 999) rfl (t := 41) rfl rfl (fun c6 => ?_) (fun c6 => ?_)
      · replace h := (if_pos c6).symm.trans h
        refine g_run 1 (pc' := 42) (L' := [some (.ref 526), some (.int x1)]) (S' := [.int (-1), .ref 526]) (M' := gm g3) rfl ?_
        exact p_X12_give_42 hD (x1) (-1) g3 _ h
      · replace h := (if_neg c6).symm.trans h
        exact p_X12_give_37 hD (x1) g3 _ h
  · replace h := (if_neg c1).symm.trans h
    refine g_run 2 (pc' := 42) (L' := [some (.ref 526), some (.int x1)]) (S' := [.int 0, .ref 526]) (M' := gm g) rfl ?_
    exact p_X12_give_42 hD (x1) (0) g _ h
def f_X12_gusts (x1 : Int32) (g : zSg) : Option (Int32 × zSg) := (zB (f_X12_in x1 0 9 g) (fun v1 g2 => (if v1 = 0 then some (0, g2) else (if ¬ x1 = (gI g2 526 31) then some (1, (gsI g2 526 31 x1)) else some (0, g2)))))
set_option maxRecDepth 100000 in
set_option maxHeartbeats 4000000 in
theorem p_X12_gusts {sc : zSc} {hp : zHp} {x1 : Int32} {g : zSg} {r : Int32 × zSg} (h : f_X12_gusts x1 g = some r) : zRn sc hp 1 zM_X12_gusts [.ref 526, .int x1] (gm g) (some (.int r.1)) (gm r.2) := by
  intro d hD
  obtain ⟨d, rfl⟩ : ∃ d', d = d' + 1 := ⟨d - 1, by omega⟩
  show zG _ sc hp (zcd zM_X12_gusts) 0 [some (.ref 526), some (.int x1)] [] (gm g) _
  unfold f_X12_gusts at h
  refine g_run 3 (pc' := 4) (L' := [some (.ref 526), some (.int x1)]) (S' := [.int 9, .int 0, .int x1]) (M' := gm g) rfl ?_
  replace h := zB_of h
  obtain ⟨v1, g2, e3, h⟩ := h
  refine g_inv2 (kd := 0) (p_X12_in  e3) rfl rfl rfl (by decide) rfl rfl rfl rfl (by omega) (pc' := 7) rfl (S' := [.int v1]) rfl ?_
  refine g_if (v1 = 0) rfl (t := 18) rfl rfl (fun c4 => ?_) (fun c4 => ?_)
  · replace h := (if_pos c4).symm.trans h
    refine g_run 1 (pc' := 19) (L' := [some (.ref 526), some (.int x1)]) (S' := [.int 0]) (M' := gm g2) rfl ?_
    cases h
    exact g_ret rfl rfl rfl rfl
  · replace h := (if_neg c4).symm.trans h
    refine g_run 3 (pc' := 15) (L' := [some (.ref 526), some (.int x1)]) (S' := [.int ((gI g2 526 31)), .int x1]) (M' := gm g2) rfl ?_
    refine g_icmp (¬ x1 = (gI g2 526 31)) rfl (t := 20) rfl rfl (fun c5 => ?_) (fun c5 => ?_)
    · replace h := (if_pos c5).symm.trans h
      refine g_run 4 (pc' := 26) (L' := [some (.ref 526), some (.int x1)]) (S' := [.int 1]) (M' := gm (gsI g2 526 31 x1)) rfl ?_
      cases h
      exact g_ret rfl rfl rfl rfl
    · replace h := (if_neg c5).symm.trans h
      refine g_run 1 (pc' := 19) (L' := [some (.ref 526), some (.int x1)]) (S' := [.int 0]) (M' := gm g2) rfl ?_
      cases h
      exact g_ret rfl rfl rfl rfl
def f_X12_draw (x1 : Int32) (g : zSg) : Option (Int32 × zSg) := (if (x1).toInt64 = 0 then none else some (((lmod (lushr (gJ (gsJ g 526 36 (((gJ g 526 36) * 6364136223846793005) + 1442695040888963407)) 526 36) 33) (x1).toInt64)).toInt32, (gsJ g 526 36 (((gJ g 526 36) * 6364136223846793005) + 1442695040888963407))))
set_option maxRecDepth 100000 in
set_option maxHeartbeats 4000000 in
theorem p_X12_draw {sc : zSc} {hp : zHp} {x1 : Int32} {g : zSg} {r : Int32 × zSg} (h : f_X12_draw x1 g = some r) : zRn sc hp 0 zM_X12_draw [.ref 526, .int x1] (gm g) (some (.int r.1)) (gm r.2) := by
  intro d hD
  show zG _ sc hp (zcd zM_X12_draw) 0 [some (.ref 526), some (.int x1)] [] (gm g) _
  unfold f_X12_draw at h
  refine g_run 14 (pc' := 25) (L' := [some (.ref 526), some (.int x1)]) (S' := [.long ((x1).toInt64), .long ((lushr (gJ (gsJ g 526 36 (((gJ g 526 36) * 6364136223846793005) + 1442695040888963407)) 526 36) 33))]) (M' := gm (gsJ g 526 36 (((gJ g 526 36) * 6364136223846793005) + 1442695040888963407))) rfl ?_
  by_cases c1 : (x1).toInt64 = 0
  case pos => exact nomatch ((if_pos c1).symm.trans h)
  replace h := (if_neg c1).symm.trans h
  refine g_lrem rfl c1 ?_
  refine g_run 1 (pc' := 27) (L' := [some (.ref 526), some (.int x1)]) (S' := [.int (((lmod (lushr (gJ (gsJ g 526 36 (((gJ g 526 36) * 6364136223846793005) + 1442695040888963407)) 526 36) 33) (x1).toInt64)).toInt32)]) (M' := gm (gsJ g 526 36 (((gJ g 526 36) * 6364136223846793005) + 1442695040888963407))) rfl ?_
  cases h
  exact g_ret rfl rfl rfl rfl
def f_X12_drawNight_110 (s0 : Int32) (s1 : Int32) (g : zSg) : Option (Unit × zSg) := (if zib s1 235 = true then some ((), (gsI (gsI g (543) (ix s1) s0) 543 51 (imin 999 ((gI (gsI g (543) (ix s1) s0) 543 51) + 1)))) else none)
set_option maxRecDepth 100000 in
set_option maxHeartbeats 4000000 in
theorem p_X12_drawNight_110 {sc : zSc} {hp : zHp} {d : Nat} (hD : 2 ≤ d) (s0 : Int32) (s1 : Int32) (g : zSg) (r : Unit × zSg) (h : f_X12_drawNight_110 s0 s1 g = some r) : zG d sc hp (zcd zM_X12_drawNight) 110 [some (.ref 526), none, none, none] [.int s0, .int s1, .ref 543] (gm g) (none, gm r.2) := by
  obtain ⟨d, rfl⟩ : ∃ d', d = d' + 1 := ⟨d - 1, by omega⟩
  unfold f_X12_drawNight_110 at h
  by_cases c1 : zib s1 235 = true
  case neg => exact nomatch ((if_neg c1).symm.trans h)
  replace h := (if_pos c1).symm.trans h
  refine g_iast rfl (a := 543) rfl c1 ?_
  refine g_run 10 (pc' := 129) (L' := [some (.ref 526), none, none, none]) (S' := [.int (((gI (gsI g (543) (ix s1) s0) 543 51) + 1)), .int 999, .int 51, .ref 543]) (M' := gm (gsI g (543) (ix s1) s0)) rfl ?_
  refine g_spec2 (kd := 0) rfl rfl rfl (by decide) rfl (jd := 1001) rfl (by decide) rfl (Or.inl (by decide)) (S' := [.int ((imin 999 ((gI (gsI g (543) (ix s1) s0) 543 51) + 1))), .int 51, .ref 543]) (M' := gm (gsI g (543) (ix s1) s0)) rfl rfl (pc' := 132) rfl ?_
  refine g_run 1 (pc' := 133) (L' := [some (.ref 526), none, none, none]) (S' := []) (M' := gm (gsI (gsI g (543) (ix s1) s0) 543 51 (imin 999 ((gI (gsI g (543) (ix s1) s0) 543 51) + 1)))) rfl ?_
  cases h
  exact g_ret rfl rfl rfl rfl
def f_X12_drawNight_57 (s0 : Int32) (s1 : Int32) (s2 : Int32) (g : zSg) : Option (Unit × zSg) := (if zib s2 235 = true then (zB (f_X12_draw (gI (gsI g (543) (ix s2) (s1 ^^^ s0)) 526 25) (gsI g (543) (ix s2) (s1 ^^^ s0))) (fun v2 g3 => (if zib (0 + v2) 235 = true then (zB (f_X12_draw 4 g3) (fun v6 g7 => (zB (f_X12_beside (gI g3 543 (ix (0 + v2))) v6 g7) (fun v9 g10 => (if ¬ v9 = (-1) then f_X12_drawNight_110 (v9) (0 + v2) g10 else (if zib (0 + v2) 235 = true then f_X12_drawNight_110 (gI g10 543 (ix (0 + v2))) (0 + v2) g10 else none)))))) else none))) else none)
set_option maxRecDepth 100000 in
set_option maxHeartbeats 4000000 in
theorem p_X12_drawNight_57 {sc : zSc} {hp : zHp} {d : Nat} (hD : 2 ≤ d) (s0 : Int32) (s1 : Int32) (s2 : Int32) (g : zSg) (r : Unit × zSg) (h : f_X12_drawNight_57 s0 s1 s2 g = some r) : zG d sc hp (zcd zM_X12_drawNight) 57 [some (.ref 526), none, none, none] [.int s0, .int s1, .int s2, .ref 543] (gm g) (none, gm r.2) := by
  obtain ⟨d, rfl⟩ : ∃ d', d = d' + 1 := ⟨d - 1, by omega⟩
  unfold f_X12_drawNight_57 at h
  refine g_run 1 (pc' := 58) (L' := [some (.ref 526), none, none, none]) (S' := [.int ((s1 ^^^ s0)), .int s2, .ref 543]) (M' := gm g) rfl ?_
  by_cases c1 : zib s2 235 = true
  case neg => exact nomatch ((if_neg c1).symm.trans h)
  replace h := (if_pos c1).symm.trans h
  refine g_iast rfl (a := 543) rfl c1 ?_
  refine g_run 3 (pc' := 64) (L' := [some (.ref 526), none, none, none]) (S' := [.int ((gI (gsI g (543) (ix s2) (s1 ^^^ s0)) 526 25)), .ref 526]) (M' := gm (gsI g (543) (ix s2) (s1 ^^^ s0))) rfl ?_
  replace h := zB_of h
  obtain ⟨v2, g3, e4, h⟩ := h
  refine g_inv2 (kd := 1) (p_X12_draw  e4) rfl rfl rfl (by decide) rfl rfl rfl rfl (by omega) (pc' := 67) rfl (S' := [.int v2]) rfl ?_
  refine g_run 7 (pc' := 76) (L' := [some (.ref 526), none, some (.int v2), none]) (S' := [.int ((0 + v2)), .ref 543, .ref 526]) (M' := gm g3) rfl ?_
  by_cases c5 : zib (0 + v2) 235 = true
  case neg => exact nomatch ((if_neg c5).symm.trans h)
  replace h := (if_pos c5).symm.trans h
  refine g_iald rfl (a := 543) rfl c5 ?_
  refine g_run 2 (pc' := 79) (L' := [some (.ref 526), none, some (.int v2), none]) (S' := [.int 4, .ref 526, .int ((gI g3 543 (ix (0 + v2)))), .ref 526]) (M' := gm g3) rfl ?_
  replace h := zB_of h
  obtain ⟨v6, g7, e8, h⟩ := h
  refine g_inv2 (kd := 1) (p_X12_draw  e8) rfl rfl rfl (by decide) rfl rfl rfl rfl (by omega) (pc' := 82) rfl (S' := [.int v6, .int ((gI g3 543 (ix (0 + v2)))), .ref 526]) rfl ?_
  replace h := zB_of h
  obtain ⟨v9, g10, e11, h⟩ := h
  refine g_inv2 (kd := 1) (p_X12_beside  e11) rfl rfl rfl (by decide) rfl rfl rfl rfl (by omega) (pc' := 85) rfl (S' := [.int v9]) rfl ?_
  refine g_run 8 (pc' := 95) (L' := [some (.ref 526), none, some (.int v2), some (.int v9)]) (S' := [.int (-1), .int v9, .int ((0 + v2)), .ref 543]) (M' := gm g10) rfl ?_
  refine g_icmp (¬ v9 = (-1)) rfl (t := 109) rfl rfl (fun c12 => ?_) (fun c12 => ?_)
  · replace h := (if_pos c12).symm.trans h
    refine g_run 1 (pc' := 110) (L' := [some (.ref 526), none, some (.int v2), some (.int v9)]) (S' := [.int v9, .int ((0 + v2)), .ref 543]) (M' := gm g10) rfl ?_
    refine g_forget (L' := [some (.ref 526), none, none, none]) (And.intro rfl True.intro) ?_
    exact p_X12_drawNight_110 hD (v9) (0 + v2) g10 _ h
  · replace h := (if_neg c12).symm.trans h
    refine g_run 5 (pc' := 105) (L' := [some (.ref 526), none, some (.int v2), some (.int v9)]) (S' := [.int ((0 + v2)), .ref 543, .int ((0 + v2)), .ref 543]) (M' := gm g10) rfl ?_
    by_cases c13 : zib (0 + v2) 235 = true
    case neg => exact nomatch ((if_neg c13).symm.trans h)
    replace h := (if_pos c13).symm.trans h
    refine g_iald rfl (a := 543) rfl c13 ?_
    refine g_run 1 (pc' := 110) (L' := [some (.ref 526), none, some (.int v2), some (.int v9)]) (S' := [.int ((gI g10 543 (ix (0 + v2)))), .int ((0 + v2)), .ref 543]) (M' := gm g10) rfl ?_
    refine g_forget (L' := [some (.ref 526), none, none, none]) (And.intro rfl True.intro) ?_
    exact p_X12_drawNight_110 hD (gI g10 543 (ix (0 + v2))) (0 + v2) g10 _ h
def f_X12_drawNight_25 (g : zSg) : Option (Unit × zSg) := (zB (f_X12_draw (gI g 526 26) g) (fun v1 g2 => (zB (f_X12_isRaw v1 g2) (fun v4 g5 => (if v4 = 0 then f_X12_drawNight_57 (0) (gI g2 543 48) (48) g5 else f_X12_drawNight_57 (1 <<< (v1 &&& 31)) (gI g2 543 48) (48) g5)))))
set_option maxRecDepth 100000 in
set_option maxHeartbeats 4000000 in
theorem p_X12_drawNight_25 {sc : zSc} {hp : zHp} {d : Nat} (hD : 2 ≤ d) (g : zSg) (r : Unit × zSg) (h : f_X12_drawNight_25 g = some r) : zG d sc hp (zcd zM_X12_drawNight) 25 [some (.ref 526), none, none, none] [] (gm g) (none, gm r.2) := by
  obtain ⟨d, rfl⟩ : ∃ d', d = d' + 1 := ⟨d - 1, by omega⟩
  unfold f_X12_drawNight_25 at h
  refine g_run 3 (pc' := 30) (L' := [some (.ref 526), none, none, none]) (S' := [.int ((gI g 526 26)), .ref 526]) (M' := gm g) rfl ?_
  replace h := zB_of h
  obtain ⟨v1, g2, e3, h⟩ := h
  refine g_inv2 (kd := 1) (p_X12_draw  e3) rfl rfl rfl (by decide) rfl rfl rfl rfl (by omega) (pc' := 33) rfl (S' := [.int v1]) rfl ?_
  refine g_run 8 (pc' := 44) (L' := [some (.ref 526), some (.int v1), none, none]) (S' := [.int v1, .ref 526, .int ((gI g2 543 48)), .int 48, .ref 543]) (M' := gm g2) rfl ?_
  replace h := zB_of h
  obtain ⟨v4, g5, e6, h⟩ := h
  refine g_inv2 (kd := 1) (p_X12_isRaw  e6) rfl rfl rfl (by decide) rfl rfl rfl rfl (by omega) (pc' := 47) rfl (S' := [.int v4, .int ((gI g2 543 48)), .int 48, .ref 543]) rfl ?_
  refine g_if (v4 = 0) rfl (t := 56) rfl rfl (fun c7 => ?_) (fun c7 => ?_)
  · replace h := (if_pos c7).symm.trans h
    refine g_run 1 (pc' := 57) (L' := [some (.ref 526), some (.int v1), none, none]) (S' := [.int 0, .int ((gI g2 543 48)), .int 48, .ref 543]) (M' := gm g5) rfl ?_
    refine g_forget (L' := [some (.ref 526), none, none, none]) (And.intro rfl True.intro) ?_
    exact p_X12_drawNight_57 hD (0) (gI g2 543 48) (48) g5 _ h
  · replace h := (if_neg c7).symm.trans h
    refine g_run 4 (pc' := 57) (L' := [some (.ref 526), some (.int v1), none, none]) (S' := [.int ((1 <<< (v1 &&& 31))), .int ((gI g2 543 48)), .int 48, .ref 543]) (M' := gm g5) rfl ?_
    refine g_forget (L' := [some (.ref 526), none, none, none]) (And.intro rfl True.intro) ?_
    exact p_X12_drawNight_57 hD (1 <<< (v1 &&& 31)) (gI g2 543 48) (48) g5 _ h
def f_X12_drawNight (g : zSg) : Option (Unit × zSg) := (zB (f_X12_draw 10 g) (fun v1 g2 => (if (gI g2 526 31) ≤ v1 then f_X12_drawNight_25 g2 else (zB (f_X12_draw 4 g2) (fun v5 g6 => f_X12_drawNight_25 (gsI g6 543 50 v5))))))
set_option maxRecDepth 100000 in
set_option maxHeartbeats 4000000 in
theorem p_X12_drawNight {sc : zSc} {hp : zHp} {g : zSg} {r : Unit × zSg} (h : f_X12_drawNight g = some r) : zRn sc hp 2 zM_X12_drawNight [.ref 526] (gm g) none (gm r.2) := by
  intro d hD
  obtain ⟨d, rfl⟩ : ∃ d', d = d' + 1 := ⟨d - 1, by omega⟩
  show zG _ sc hp (zcd zM_X12_drawNight) 0 [some (.ref 526), none, none, none] [] (gm g) _
  unfold f_X12_drawNight at h
  refine g_run 2 (pc' := 3) (L' := [some (.ref 526), none, none, none]) (S' := [.int 10, .ref 526]) (M' := gm g) rfl ?_
  replace h := zB_of h
  obtain ⟨v1, g2, e3, h⟩ := h
  refine g_inv2 (kd := 1) (p_X12_draw  e3) rfl rfl rfl (by decide) rfl rfl rfl rfl (by omega) (pc' := 6) rfl (S' := [.int v1]) rfl ?_
  refine g_run 2 (pc' := 10) (L' := [some (.ref 526), none, none, none]) (S' := [.int ((gI g2 526 31)), .int v1]) (M' := gm g2) rfl ?_
  refine g_icmp ((gI g2 526 31) ≤ v1) rfl (t := 25) rfl rfl (fun c4 => ?_) (fun c4 => ?_)
  · replace h := (if_pos c4).symm.trans h
    exact p_X12_drawNight_25 hD g2 _ h
  · replace h := (if_neg c4).symm.trans h
    refine g_run 5 (pc' := 21) (L' := [some (.ref 526), none, none, none]) (S' := [.int 4, .ref 526, .int 50, .ref 543]) (M' := gm g2) rfl ?_
    replace h := zB_of h
    obtain ⟨v5, g6, e7, h⟩ := h
    refine g_inv2 (kd := 1) (p_X12_draw  e7) rfl rfl rfl (by decide) rfl rfl rfl rfl (by omega) (pc' := 24) rfl (S' := [.int v5, .int 50, .ref 543]) rfl ?_
    refine g_run 1 (pc' := 25) (L' := [some (.ref 526), none, none, none]) (S' := []) (M' := gm (gsI g6 543 50 v5)) rfl ?_
    exact p_X12_drawNight_25 hD (gsI g6 543 50 v5) _ h
def f_X12_years_49 (g : zSg) : Option (Int32 × zSg) := some ((gI g 543 53), g)
set_option maxRecDepth 100000 in
set_option maxHeartbeats 4000000 in
theorem p_X12_years_49 {sc : zSc} {hp : zHp} {d : Nat} (hD : 10 ≤ d) (g : zSg) (r : Int32 × zSg) (h : f_X12_years_49 g = some r) : zG d sc hp (zcd zM_X12_years) 49 [some (.ref 526), none, none, none, none] [] (gm g) ((some (.int r.1)), gm r.2) := by
  obtain ⟨d, rfl⟩ : ∃ d', d = d' + 1 := ⟨d - 1, by omega⟩
  unfold f_X12_years_49 at h
  refine g_run 4 (pc' := 56) (L' := [some (.ref 526), none, none, none, none]) (S' := [.int ((gI g 543 53))]) (M' := gm g) rfl ?_
  cases h
  exact g_ret rfl rfl rfl rfl
def fb_X12_years_25 (kk : Int32 → Int32 → zSg → Option (Int32 × zSg)) (y1 : Int32) (y4 : Int32) (g : zSg) : Option (Int32 × zSg) := (if y1 ≤ y4 then f_X12_years_49 g else (zB (f_X12_keep g) (fun v2 g3 => (zB (f_X12_drawNight g3) (fun v5 g6 => (zB (f_X12_passNight g6) (fun v8 g9 => kk (y1) (y4 + 1) g9)))))))
def f_X12_years_25 : Nat → Int32 → Int32 → zSg → Option (Int32 × zSg)
  | 0, _, _, _ => none
  | n + 1, y1, y4, g => fb_X12_years_25 (f_X12_years_25 n) y1 y4 g
set_option maxRecDepth 100000 in
set_option maxHeartbeats 4000000 in
theorem p_X12_years_25 {sc : zSc} {hp : zHp} {d : Nat} (hD : 10 ≤ d) : ∀ (n : Nat) (y1 : Int32) (y4 : Int32) (g : zSg) (r : Int32 × zSg), f_X12_years_25 n y1 y4 g = some r → zG d sc hp (zcd zM_X12_years) 25 [some (.ref 526), some (.int y1), none, none, some (.int y4)] [] (gm g) ((some (.int r.1)), gm r.2) := by
  obtain ⟨d, rfl⟩ : ∃ d', d = d' + 1 := ⟨d - 1, by omega⟩
  intro n
  induction n with
  | zero => intro y1 y4 g r h; cases h
  | succ n ih =>
    intro y1 y4 g r h
    replace h : fb_X12_years_25 (f_X12_years_25 n) y1 y4 g = some r := h
    unfold fb_X12_years_25 at h
    refine g_run 2 (pc' := 28) (L' := [some (.ref 526), some (.int y1), none, none, some (.int y4)]) (S' := [.int y1, .int y4]) (M' := gm g) rfl ?_
    refine g_icmp (y1 ≤ y4) rfl (t := 49) rfl rfl (fun c1 => ?_) (fun c1 => ?_)
    · replace h := (if_pos c1).symm.trans h
      refine g_forget (L' := [some (.ref 526), none, none, none, none]) (And.intro rfl True.intro) ?_
      exact p_X12_years_49 hD g _ h
    · replace h := (if_neg c1).symm.trans h
      refine g_run 1 (pc' := 32) (L' := [some (.ref 526), some (.int y1), none, none, some (.int y4)]) (S' := [.ref 526]) (M' := gm g) rfl ?_
      replace h := zB_of h
      obtain ⟨v2, g3, e4, h⟩ := h
      refine g_inv2 (kd := 1) (p_X12_keep  e4) rfl rfl rfl (by decide) rfl rfl rfl rfl (by omega) (pc' := 35) rfl (S' := []) rfl ?_
      refine g_run 1 (pc' := 36) (L' := [some (.ref 526), some (.int y1), none, none, some (.int y4)]) (S' := [.ref 526]) (M' := gm g3) rfl ?_
      replace h := zB_of h
      obtain ⟨v5, g6, e7, h⟩ := h
      refine g_inv2 (kd := 1) (p_X12_drawNight  e7) rfl rfl rfl (by decide) rfl rfl rfl rfl (by omega) (pc' := 39) rfl (S' := []) rfl ?_
      refine g_run 1 (pc' := 40) (L' := [some (.ref 526), some (.int y1), none, none, some (.int y4)]) (S' := [.ref 526]) (M' := gm g6) rfl ?_
      replace h := zB_of h
      obtain ⟨v8, g9, e10, h⟩ := h
      refine g_inv2 (kd := 1) (p_X12_passNight  e10) rfl rfl rfl (by decide) rfl rfl rfl rfl (by omega) (pc' := 43) rfl (S' := []) rfl ?_
      refine g_run 2 (pc' := 25) (L' := [some (.ref 526), some (.int y1), none, none, some (.int ((y4 + 1)))]) (S' := []) (M' := gm g9) rfl ?_
      exact ih (y1) (y4 + 1) g9 _ h
def f_X12_years (x1 : Int32) (x2 : Int64) (g : zSg) : Option (Int32 × zSg) := (if (gI g 526 27) = 0 then some ((-1), g) else (zB (f_X12_areNights x1 g) (fun v2 g3 => (if ¬ v2 = 0 then f_X12_years_25 zFu (x1) (0) (gsJ g3 526 36 x2) else some ((-1), g3)))))
set_option maxRecDepth 100000 in
set_option maxHeartbeats 4000000 in
theorem p_X12_years {sc : zSc} {hp : zHp} {x1 : Int32} {x2 : Int64} {g : zSg} {r : Int32 × zSg} (h : f_X12_years x1 x2 g = some r) : zRn sc hp 10 zM_X12_years [.ref 526, .int x1, .long (x2)] (gm g) (some (.int r.1)) (gm r.2) := by
  intro d hD
  obtain ⟨d, rfl⟩ : ∃ d', d = d' + 1 := ⟨d - 1, by omega⟩
  show zG _ sc hp (zcd zM_X12_years) 0 [some (.ref 526), some (.int x1), some (.long (x2)), none, none] [] (gm g) _
  unfold f_X12_years at h
  refine g_run 2 (pc' := 4) (L' := [some (.ref 526), some (.int x1), some (.long (x2)), none, none]) (S' := [.int ((gI g 526 27))]) (M' := gm g) rfl ?_
  refine g_if ((gI g 526 27) = 0) rfl (t := 15) rfl rfl (fun c1 => ?_) (fun c1 => ?_)
  · replace h := (if_pos c1).symm.trans h
    refine g_run 1 (pc' := 16) (L' := [some (.ref 526), some (.int x1), some (.long (x2)), none, none]) (S' := [.int (-1)]) (M' := gm g) rfl ?_
    cases h
    exact g_ret rfl rfl rfl rfl
  · replace h := (if_neg c1).symm.trans h
    refine g_run 2 (pc' := 9) (L' := [some (.ref 526), some (.int x1), some (.long (x2)), none, none]) (S' := [.int x1, .ref 526]) (M' := gm g) rfl ?_
    replace h := zB_of h
    obtain ⟨v2, g3, e4, h⟩ := h
    refine g_inv2 (kd := 1) (p_X12_areNights  e4) rfl rfl rfl (by decide) rfl rfl rfl rfl (by omega) (pc' := 12) rfl (S' := [.int v2]) rfl ?_
    refine g_if (¬ v2 = 0) rfl (t := 17) rfl rfl (fun c5 => ?_) (fun c5 => ?_)
    · replace h := (if_pos c5).symm.trans h
      refine g_run 5 (pc' := 25) (L' := [some (.ref 526), some (.int x1), some (.long (x2)), none, some (.int 0)]) (S' := []) (M' := gm (gsJ g3 526 36 x2)) rfl ?_
      refine g_forget (L' := [some (.ref 526), some (.int x1), none, none, some (.int 0)]) (And.intro rfl (And.intro rfl (And.intro rfl True.intro))) ?_
      exact p_X12_years_25 hD zFu (x1) (0) (gsJ g3 526 36 x2) _ h
    · replace h := (if_neg c5).symm.trans h
      refine g_run 1 (pc' := 16) (L' := [some (.ref 526), some (.int x1), some (.long (x2)), none, none]) (S' := [.int (-1)]) (M' := gm g3) rfl ?_
      cases h
      exact g_ret rfl rfl rfl rfl
def f_X12_status (x1 : Int32) (g : zSg) : Option (Int32 × zSg) := (zB (f_X12_in x1 0 4 g) (fun v1 g2 => (if v1 = 0 then some ((-1), g2) else (if zib x1 5 = true then some ((gI g2 544 (ix x1)), g2) else none))))
set_option maxRecDepth 100000 in
set_option maxHeartbeats 4000000 in
theorem p_X12_status {sc : zSc} {hp : zHp} {x1 : Int32} {g : zSg} {r : Int32 × zSg} (h : f_X12_status x1 g = some r) : zRn sc hp 1 zM_X12_status [.ref 526, .int x1] (gm g) (some (.int r.1)) (gm r.2) := by
  intro d hD
  obtain ⟨d, rfl⟩ : ∃ d', d = d' + 1 := ⟨d - 1, by omega⟩
  show zG _ sc hp (zcd zM_X12_status) 0 [some (.ref 526), some (.int x1)] [] (gm g) _
  unfold f_X12_status at h
  refine g_run 3 (pc' := 3) (L' := [some (.ref 526), some (.int x1)]) (S' := [.int 4, .int 0, .int x1]) (M' := gm g) rfl ?_
  replace h := zB_of h
  obtain ⟨v1, g2, e3, h⟩ := h
  refine g_inv2 (kd := 0) (p_X12_in  e3) rfl rfl rfl (by decide) rfl rfl rfl rfl (by omega) (pc' := 6) rfl (S' := [.int v1]) rfl ?_
  refine g_if (v1 = 0) rfl (t := 18) rfl rfl (fun c4 => ?_) (fun c4 => ?_)
  · replace h := (if_pos c4).symm.trans h
    refine g_run 1 (pc' := 19) (L' := [some (.ref 526), some (.int x1)]) (S' := [.int (-1)]) (M' := gm g2) rfl ?_
    cases h
    exact g_ret rfl rfl rfl rfl
  · replace h := (if_neg c4).symm.trans h
    refine g_run 3 (pc' := 14) (L' := [some (.ref 526), some (.int x1)]) (S' := [.int x1, .ref 544]) (M' := gm g2) rfl ?_
    by_cases c5 : zib x1 5 = true
    case neg => exact nomatch ((if_neg c5).symm.trans h)
    replace h := (if_pos c5).symm.trans h
    refine g_iald rfl (a := 544) rfl c5 ?_
    refine g_run 1 (pc' := 19) (L' := [some (.ref 526), some (.int x1)]) (S' := [.int ((gI g2 544 (ix x1)))]) (M' := gm g2) rfl ?_
    cases h
    exact g_ret rfl rfl rfl rfl
def f_X12_undo_55 (g : zSg) : Option (Int32 × zSg) := some ((gI g 526 35), g)
set_option maxRecDepth 100000 in
set_option maxHeartbeats 4000000 in
theorem p_X12_undo_55 {sc : zSc} {hp : zHp} {d : Nat} (hD : 0 ≤ d) (g : zSg) (r : Int32 × zSg) (h : f_X12_undo_55 g = some r) : zG d sc hp (zcd zM_X12_undo) 55 [some (.ref 526), none] [] (gm g) ((some (.int r.1)), gm r.2) := by
  unfold f_X12_undo_55 at h
  refine g_run 2 (pc' := 59) (L' := [some (.ref 526), none]) (S' := [.int ((gI g 526 35))]) (M' := gm g) rfl ?_
  cases h
  exact g_ret rfl rfl rfl rfl
def fb_X12_undo_21 (kk : Int32 → zSg → Option (Int32 × zSg)) (y1 : Int32) (g : zSg) : Option (Int32 × zSg) := (if 235 ≤ y1 then f_X12_undo_55 g else (if zib ((235 * (gI g 526 35)) + y1) 9400 = true then (if zib y1 235 = true then kk (y1 + 1) (gsI g (543) (ix y1) (gI g 547 (ix ((235 * (gI g 526 35)) + y1)))) else none) else none))
def f_X12_undo_21 : Nat → Int32 → zSg → Option (Int32 × zSg)
  | 0, _, _ => none
  | n + 1, y1, g => fb_X12_undo_21 (f_X12_undo_21 n) y1 g
set_option maxRecDepth 100000 in
set_option maxHeartbeats 4000000 in
theorem p_X12_undo_21 {sc : zSc} {hp : zHp} {d : Nat} (hD : 0 ≤ d) : ∀ (n : Nat) (y1 : Int32) (g : zSg) (r : Int32 × zSg), f_X12_undo_21 n y1 g = some r → zG d sc hp (zcd zM_X12_undo) 21 [some (.ref 526), some (.int y1)] [] (gm g) ((some (.int r.1)), gm r.2) := by
  intro n
  induction n with
  | zero => intro y1 g r h; cases h
  | succ n ih =>
    intro y1 g r h
    replace h : fb_X12_undo_21 (f_X12_undo_21 n) y1 g = some r := h
    unfold fb_X12_undo_21 at h
    refine g_run 2 (pc' := 25) (L' := [some (.ref 526), some (.int y1)]) (S' := [.int 235, .int y1]) (M' := gm g) rfl ?_
    refine g_icmp (235 ≤ y1) rfl (t := 55) rfl rfl (fun c1 => ?_) (fun c1 => ?_)
    · replace h := (if_pos c1).symm.trans h
      refine g_forget (L' := [some (.ref 526), none]) (And.intro rfl True.intro) ?_
      exact p_X12_undo_55 hD g _ h
    · replace h := (if_neg c1).symm.trans h
      refine g_run 11 (pc' := 47) (L' := [some (.ref 526), some (.int y1)]) (S' := [.int (((235 * (gI g 526 35)) + y1)), .ref 547, .int y1, .ref 543]) (M' := gm g) rfl ?_
      by_cases c2 : zib ((235 * (gI g 526 35)) + y1) 9400 = true
      case neg => exact nomatch ((if_neg c2).symm.trans h)
      replace h := (if_pos c2).symm.trans h
      refine g_iald rfl (a := 547) rfl c2 ?_
      by_cases c3 : zib y1 235 = true
      case neg => exact nomatch ((if_neg c3).symm.trans h)
      replace h := (if_pos c3).symm.trans h
      refine g_iast rfl (a := 543) rfl c3 ?_
      refine g_run 2 (pc' := 21) (L' := [some (.ref 526), some (.int ((y1 + 1)))]) (S' := []) (M' := gm (gsI g (543) (ix y1) (gI g 547 (ix ((235 * (gI g 526 35)) + y1))))) rfl ?_
      exact ih (y1 + 1) (gsI g (543) (ix y1) (gI g 547 (ix ((235 * (gI g 526 35)) + y1)))) _ h
def f_X12_undo (g : zSg) : Option (Int32 × zSg) := (if ¬ (gI g 526 35) = 0 then f_X12_undo_21 zFu (0) (gsI g 526 35 ((gI g 526 35) - 1)) else some ((-1), g))
set_option maxRecDepth 100000 in
set_option maxHeartbeats 4000000 in
theorem p_X12_undo {sc : zSc} {hp : zHp} {g : zSg} {r : Int32 × zSg} (h : f_X12_undo g = some r) : zRn sc hp 0 zM_X12_undo [.ref 526] (gm g) (some (.int r.1)) (gm r.2) := by
  intro d hD
  show zG _ sc hp (zcd zM_X12_undo) 0 [some (.ref 526), none] [] (gm g) _
  unfold f_X12_undo at h
  refine g_run 2 (pc' := 4) (L' := [some (.ref 526), none]) (S' := [.int ((gI g 526 35))]) (M' := gm g) rfl ?_
  refine g_if (¬ (gI g 526 35) = 0) rfl (t := 9) rfl rfl (fun c1 => ?_) (fun c1 => ?_)
  · replace h := (if_pos c1).symm.trans h
    refine g_run 8 (pc' := 21) (L' := [some (.ref 526), some (.int 0)]) (S' := []) (M' := gm (gsI g 526 35 ((gI g 526 35) - 1))) rfl ?_
    exact p_X12_undo_21 hD zFu (0) (gsI g 526 35 ((gI g 526 35) - 1)) _ h
  · replace h := (if_neg c1).symm.trans h
    refine g_run 1 (pc' := 8) (L' := [some (.ref 526), none]) (S' := [.int (-1)]) (M' := gm g) rfl ?_
    cases h
    exact g_ret rfl rfl rfl rfl
def f_X12_log (x1 : Int32) (x2 : Int32) (g : zSg) : Option (Int32 × zSg) := (zB (f_X12_in x1 0 ((gI g 543 54) - 1) g) (fun v1 g2 => (if v1 = 0 then some ((-1), g2) else (zB (f_X12_in x2 0 2 g2) (fun v5 g6 => (if v5 = 0 then some ((-1), g6) else (if zib ((55 + (3 * (((gI g6 543 54) - 1) - x1))) + x2) 235 = true then some ((gI g6 543 (ix ((55 + (3 * (((gI g6 543 54) - 1) - x1))) + x2))), g6) else none)))))))
set_option maxRecDepth 100000 in
set_option maxHeartbeats 4000000 in
theorem p_X12_log {sc : zSc} {hp : zHp} {x1 : Int32} {x2 : Int32} {g : zSg} {r : Int32 × zSg} (h : f_X12_log x1 x2 g = some r) : zRn sc hp 1 zM_X12_log [.ref 526, .int x1, .int x2] (gm g) (some (.int r.1)) (gm r.2) := by
  intro d hD
  obtain ⟨d, rfl⟩ : ∃ d', d = d' + 1 := ⟨d - 1, by omega⟩
  show zG _ sc hp (zcd zM_X12_log) 0 [some (.ref 526), some (.int x1), some (.int x2)] [] (gm g) _
  unfold f_X12_log at h
  refine g_run 8 (pc' := 11) (L' := [some (.ref 526), some (.int x1), some (.int x2)]) (S' := [.int (((gI g 543 54) - 1)), .int 0, .int x1]) (M' := gm g) rfl ?_
  replace h := zB_of h
  obtain ⟨v1, g2, e3, h⟩ := h
  refine g_inv2 (kd := 0) (p_X12_in  e3) rfl rfl rfl (by decide) rfl rfl rfl rfl (by omega) (pc' := 14) rfl (S' := [.int v1]) rfl ?_
  refine g_if (v1 = 0) rfl (t := 52) rfl rfl (fun c4 => ?_) (fun c4 => ?_)
  · replace h := (if_pos c4).symm.trans h
    refine g_run 1 (pc' := 53) (L' := [some (.ref 526), some (.int x1), some (.int x2)]) (S' := [.int (-1)]) (M' := gm g2) rfl ?_
    cases h
    exact g_ret rfl rfl rfl rfl
  · replace h := (if_neg c4).symm.trans h
    refine g_run 3 (pc' := 20) (L' := [some (.ref 526), some (.int x1), some (.int x2)]) (S' := [.int 2, .int 0, .int x2]) (M' := gm g2) rfl ?_
    replace h := zB_of h
    obtain ⟨v5, g6, e7, h⟩ := h
    refine g_inv2 (kd := 0) (p_X12_in  e7) rfl rfl rfl (by decide) rfl rfl rfl rfl (by omega) (pc' := 23) rfl (S' := [.int v5]) rfl ?_
    refine g_if (v5 = 0) rfl (t := 52) rfl rfl (fun c8 => ?_) (fun c8 => ?_)
    · replace h := (if_pos c8).symm.trans h
      refine g_run 1 (pc' := 53) (L' := [some (.ref 526), some (.int x1), some (.int x2)]) (S' := [.int (-1)]) (M' := gm g6) rfl ?_
      cases h
      exact g_ret rfl rfl rfl rfl
    · replace h := (if_neg c8).symm.trans h
      refine g_run 16 (pc' := 48) (L' := [some (.ref 526), some (.int x1), some (.int x2)]) (S' := [.int (((55 + (3 * (((gI g6 543 54) - 1) - x1))) + x2)), .ref 543]) (M' := gm g6) rfl ?_
      by_cases c9 : zib ((55 + (3 * (((gI g6 543 54) - 1) - x1))) + x2) 235 = true
      case neg => exact nomatch ((if_neg c9).symm.trans h)
      replace h := (if_pos c9).symm.trans h
      refine g_iald rfl (a := 543) rfl c9 ?_
      refine g_run 1 (pc' := 53) (L' := [some (.ref 526), some (.int x1), some (.int x2)]) (S' := [.int ((gI g6 543 (ix ((55 + (3 * (((gI g6 543 54) - 1) - x1))) + x2))))]) (M' := gm g6) rfl ?_
      cases h
      exact g_ret rfl rfl rfl rfl
def f_X12_strength (x1 : Int32) (x2 : Int32) (g : zSg) : Option (Int32 × zSg) := (zB (f_X12_isSecret x1 g) (fun v1 g2 => (if v1 = 0 then some ((-1), g2) else (zB (f_X12_isCell x2 g2) (fun v5 g6 => (if v5 = 0 then some ((-1), g6) else (zB (f_X12_strengthNow x1 x2 (gI g6 543 51) g6) (fun v9 g10 => some (v9, g10)))))))))
set_option maxRecDepth 100000 in
set_option maxHeartbeats 4000000 in
theorem p_X12_strength {sc : zSc} {hp : zHp} {x1 : Int32} {x2 : Int32} {g : zSg} {r : Int32 × zSg} (h : f_X12_strength x1 x2 g = some r) : zRn sc hp 7 zM_X12_strength [.ref 526, .int x1, .int x2] (gm g) (some (.int r.1)) (gm r.2) := by
  intro d hD
  obtain ⟨d, rfl⟩ : ∃ d', d = d' + 1 := ⟨d - 1, by omega⟩
  show zG _ sc hp (zcd zM_X12_strength) 0 [some (.ref 526), some (.int x1), some (.int x2)] [] (gm g) _
  unfold f_X12_strength at h
  refine g_run 2 (pc' := 2) (L' := [some (.ref 526), some (.int x1), some (.int x2)]) (S' := [.int x1, .ref 526]) (M' := gm g) rfl ?_
  replace h := zB_of h
  obtain ⟨v1, g2, e3, h⟩ := h
  refine g_inv2 (kd := 1) (p_X12_isSecret  e3) rfl rfl rfl (by decide) rfl rfl rfl rfl (by omega) (pc' := 5) rfl (S' := [.int v1]) rfl ?_
  refine g_if (v1 = 0) rfl (t := 32) rfl rfl (fun c4 => ?_) (fun c4 => ?_)
  · replace h := (if_pos c4).symm.trans h
    refine g_run 1 (pc' := 33) (L' := [some (.ref 526), some (.int x1), some (.int x2)]) (S' := [.int (-1)]) (M' := gm g2) rfl ?_
    cases h
    exact g_ret rfl rfl rfl rfl
  · replace h := (if_neg c4).symm.trans h
    refine g_run 2 (pc' := 10) (L' := [some (.ref 526), some (.int x1), some (.int x2)]) (S' := [.int x2, .ref 526]) (M' := gm g2) rfl ?_
    replace h := zB_of h
    obtain ⟨v5, g6, e7, h⟩ := h
    refine g_inv2 (kd := 1) (p_X12_isCell  e7) rfl rfl rfl (by decide) rfl rfl rfl rfl (by omega) (pc' := 13) rfl (S' := [.int v5]) rfl ?_
    refine g_if (v5 = 0) rfl (t := 32) rfl rfl (fun c8 => ?_) (fun c8 => ?_)
    · replace h := (if_pos c8).symm.trans h
      refine g_run 1 (pc' := 33) (L' := [some (.ref 526), some (.int x1), some (.int x2)]) (S' := [.int (-1)]) (M' := gm g6) rfl ?_
      cases h
      exact g_ret rfl rfl rfl rfl
    · replace h := (if_neg c8).symm.trans h
      refine g_run 7 (pc' := 26) (L' := [some (.ref 526), some (.int x1), some (.int x2)]) (S' := [.int ((gI g6 543 51)), .int x2, .int x1, .ref 526]) (M' := gm g6) rfl ?_
      replace h := zB_of h
      obtain ⟨v9, g10, e11, h⟩ := h
      refine g_inv2 (kd := 1) (p_X12_strengthNow  e11) rfl rfl rfl (by decide) rfl rfl rfl rfl (by omega) (pc' := 29) rfl (S' := [.int v9]) rfl ?_
      refine g_run 1 (pc' := 33) (L' := [some (.ref 526), some (.int x1), some (.int x2)]) (S' := [.int v9]) (M' := gm g10) rfl ?_
      cases h
      exact g_ret rfl rfl rfl rfl
def f_X12_smells_46 (k14 : Int32 → Int32 → Int32 → zSg → Option (Int32 × zSg)) (y1 : Int32) (y3 : Int32) (s0 : Int32) (s1 : Int32) (g : zSg) : Option (Int32 × zSg) := k14 (y1) (s1 ||| s0) (y3 + 1) g
set_option maxRecDepth 100000 in
set_option maxHeartbeats 4000000 in
theorem p_X12_smells_46 {sc : zSc} {hp : zHp} {d : Nat} (hD : 7 ≤ d) (k14 : Int32 → Int32 → Int32 → zSg → Option (Int32 × zSg)) (hk14 : ∀ (y1 : Int32) (y2 : Int32) (y3 : Int32) (g : zSg) (r : Int32 × zSg), k14 y1 y2 y3 g = some r → zG d sc hp (zcd zM_X12_smells) 14 [some (.ref 526), some (.int y1), some (.int y2), some (.int y3)] [] (gm g) ((some (.int r.1)), gm r.2)) (y1 : Int32) (y3 : Int32) (s0 : Int32) (s1 : Int32) (g : zSg) (r : Int32 × zSg) (h : f_X12_smells_46 k14 y1 y3 s0 s1 g = some r) : zG d sc hp (zcd zM_X12_smells) 46 [some (.ref 526), some (.int y1), none, some (.int y3)] [.int s0, .int s1] (gm g) ((some (.int r.1)), gm r.2) := by
  obtain ⟨d, rfl⟩ : ∃ d', d = d' + 1 := ⟨d - 1, by omega⟩
  unfold f_X12_smells_46 at h
  refine g_run 4 (pc' := 14) (L' := [some (.ref 526), some (.int y1), some (.int ((s1 ||| s0))), some (.int ((y3 + 1)))]) (S' := []) (M' := gm g) rfl ?_
  exact hk14 (y1) (s1 ||| s0) (y3 + 1) g _ h
def fb_X12_smells_14 (kk : Int32 → Int32 → Int32 → zSg → Option (Int32 × zSg)) (y1 : Int32) (y2 : Int32) (y3 : Int32) (g : zSg) : Option (Int32 × zSg) := (if (gI g 526 27) ≤ y3 then some (y2, g) else (zB (f_X12_strengthNow y1 y3 (gI g 543 51) g) (fun v2 g3 => (if v2 ≤ 0 then f_X12_smells_46 kk (y1) (y3) (0) (y2) g3 else f_X12_smells_46 kk (y1) (y3) (1 <<< (y3 &&& 31)) (y2) g3))))
def f_X12_smells_14 : Nat → Int32 → Int32 → Int32 → zSg → Option (Int32 × zSg)
  | 0, _, _, _, _ => none
  | n + 1, y1, y2, y3, g => fb_X12_smells_14 (f_X12_smells_14 n) y1 y2 y3 g
set_option maxRecDepth 100000 in
set_option maxHeartbeats 4000000 in
theorem p_X12_smells_14 {sc : zSc} {hp : zHp} {d : Nat} (hD : 7 ≤ d) : ∀ (n : Nat) (y1 : Int32) (y2 : Int32) (y3 : Int32) (g : zSg) (r : Int32 × zSg), f_X12_smells_14 n y1 y2 y3 g = some r → zG d sc hp (zcd zM_X12_smells) 14 [some (.ref 526), some (.int y1), some (.int y2), some (.int y3)] [] (gm g) ((some (.int r.1)), gm r.2) := by
  obtain ⟨d, rfl⟩ : ∃ d', d = d' + 1 := ⟨d - 1, by omega⟩
  intro n
  induction n with
  | zero => intro y1 y2 y3 g r h; cases h
  | succ n ih =>
    intro y1 y2 y3 g r h
    replace h : fb_X12_smells_14 (f_X12_smells_14 n) y1 y2 y3 g = some r := h
    unfold fb_X12_smells_14 at h
    refine g_run 3 (pc' := 19) (L' := [some (.ref 526), some (.int y1), some (.int y2), some (.int y3)]) (S' := [.int ((gI g 526 27)), .int y3]) (M' := gm g) rfl ?_
    refine g_icmp ((gI g 526 27) ≤ y3) rfl (t := 54) rfl rfl (fun c1 => ?_) (fun c1 => ?_)
    · replace h := (if_pos c1).symm.trans h
      refine g_run 1 (pc' := 55) (L' := [some (.ref 526), some (.int y1), some (.int y2), some (.int y3)]) (S' := [.int y2]) (M' := gm g) rfl ?_
      cases h
      exact g_ret rfl rfl rfl rfl
    · replace h := (if_neg c1).symm.trans h
      refine g_run 8 (pc' := 33) (L' := [some (.ref 526), some (.int y1), some (.int y2), some (.int y3)]) (S' := [.int ((gI g 543 51)), .int y3, .int y1, .ref 526, .int y2]) (M' := gm g) rfl ?_
      replace h := zB_of h
      obtain ⟨v2, g3, e4, h⟩ := h
      refine g_inv2 (kd := 1) (p_X12_strengthNow  e4) rfl rfl rfl (by decide) rfl rfl rfl rfl (by omega) (pc' := 36) rfl (S' := [.int v2, .int y2]) rfl ?_
      refine g_if (v2 ≤ 0) rfl (t := 45) rfl rfl (fun c5 => ?_) (fun c5 => ?_)
      · replace h := (if_pos c5).symm.trans h
        refine g_run 1 (pc' := 46) (L' := [some (.ref 526), some (.int y1), some (.int y2), some (.int y3)]) (S' := [.int 0, .int y2]) (M' := gm g3) rfl ?_
        refine g_forget (L' := [some (.ref 526), some (.int y1), none, some (.int y3)]) (And.intro rfl (And.intro rfl (And.intro rfl True.intro))) ?_
        exact p_X12_smells_46 hD (f_X12_smells_14 n) ih (y1) (y3) (0) (y2) g3 _ h
      · replace h := (if_neg c5).symm.trans h
        refine g_run 4 (pc' := 46) (L' := [some (.ref 526), some (.int y1), some (.int y2), some (.int y3)]) (S' := [.int ((1 <<< (y3 &&& 31))), .int y2]) (M' := gm g3) rfl ?_
        refine g_forget (L' := [some (.ref 526), some (.int y1), none, some (.int y3)]) (And.intro rfl (And.intro rfl (And.intro rfl True.intro))) ?_
        exact p_X12_smells_46 hD (f_X12_smells_14 n) ih (y1) (y3) (1 <<< (y3 &&& 31)) (y2) g3 _ h
def f_X12_smells (x1 : Int32) (g : zSg) : Option (Int32 × zSg) := (zB (f_X12_isSecret x1 g) (fun v1 g2 => (if ¬ v1 = 0 then f_X12_smells_14 zFu (x1) (0) (0) g2 else some ((-1), g2))))
set_option maxRecDepth 100000 in
set_option maxHeartbeats 4000000 in
theorem p_X12_smells {sc : zSc} {hp : zHp} {x1 : Int32} {g : zSg} {r : Int32 × zSg} (h : f_X12_smells x1 g = some r) : zRn sc hp 7 zM_X12_smells [.ref 526, .int x1] (gm g) (some (.int r.1)) (gm r.2) := by
  intro d hD
  obtain ⟨d, rfl⟩ : ∃ d', d = d' + 1 := ⟨d - 1, by omega⟩
  show zG _ sc hp (zcd zM_X12_smells) 0 [some (.ref 526), some (.int x1), none, none] [] (gm g) _
  unfold f_X12_smells at h
  refine g_run 2 (pc' := 2) (L' := [some (.ref 526), some (.int x1), none, none]) (S' := [.int x1, .ref 526]) (M' := gm g) rfl ?_
  replace h := zB_of h
  obtain ⟨v1, g2, e3, h⟩ := h
  refine g_inv2 (kd := 1) (p_X12_isSecret  e3) rfl rfl rfl (by decide) rfl rfl rfl rfl (by omega) (pc' := 5) rfl (S' := [.int v1]) rfl ?_
  refine g_if (¬ v1 = 0) rfl (t := 10) rfl rfl (fun c4 => ?_) (fun c4 => ?_)
  · replace h := (if_pos c4).symm.trans h
    refine g_run 4 (pc' := 14) (L' := [some (.ref 526), some (.int x1), some (.int 0), some (.int 0)]) (S' := []) (M' := gm g2) rfl ?_
    exact p_X12_smells_14 hD zFu (x1) (0) (0) g2 _ h
  · replace h := (if_neg c4).symm.trans h
    refine g_run 1 (pc' := 9) (L' := [some (.ref 526), some (.int x1), none, none]) (S' := [.int (-1)]) (M' := gm g2) rfl ?_
    cases h
    exact g_ret rfl rfl rfl rfl
def f_X12_air (x1 : Int32) (g : zSg) : Option (Int32 × zSg) := (zB (f_X12_isCell x1 g) (fun v1 g2 => (if v1 = 0 then some ((-1), g2) else (zB (f_X12_airOf x1 g2) (fun v5 g6 => some (v5, g6))))))
set_option maxRecDepth 100000 in
set_option maxHeartbeats 4000000 in
theorem p_X12_air {sc : zSc} {hp : zHp} {x1 : Int32} {g : zSg} {r : Int32 × zSg} (h : f_X12_air x1 g = some r) : zRn sc hp 8 zM_X12_air [.ref 526, .int x1] (gm g) (some (.int r.1)) (gm r.2) := by
  intro d hD
  obtain ⟨d, rfl⟩ : ∃ d', d = d' + 1 := ⟨d - 1, by omega⟩
  show zG _ sc hp (zcd zM_X12_air) 0 [some (.ref 526), some (.int x1)] [] (gm g) _
  unfold f_X12_air at h
  refine g_run 2 (pc' := 2) (L' := [some (.ref 526), some (.int x1)]) (S' := [.int x1, .ref 526]) (M' := gm g) rfl ?_
  replace h := zB_of h
  obtain ⟨v1, g2, e3, h⟩ := h
  refine g_inv2 (kd := 1) (p_X12_isCell  e3) rfl rfl rfl (by decide) rfl rfl rfl rfl (by omega) (pc' := 5) rfl (S' := [.int v1]) rfl ?_
  refine g_if (v1 = 0) rfl (t := 16) rfl rfl (fun c4 => ?_) (fun c4 => ?_)
  · replace h := (if_pos c4).symm.trans h
    refine g_run 1 (pc' := 17) (L' := [some (.ref 526), some (.int x1)]) (S' := [.int (-1)]) (M' := gm g2) rfl ?_
    cases h
    exact g_ret rfl rfl rfl rfl
  · replace h := (if_neg c4).symm.trans h
    refine g_run 2 (pc' := 10) (L' := [some (.ref 526), some (.int x1)]) (S' := [.int x1, .ref 526]) (M' := gm g2) rfl ?_
    replace h := zB_of h
    obtain ⟨v5, g6, e7, h⟩ := h
    refine g_inv2 (kd := 1) (p_X12_airOf  e7) rfl rfl rfl (by decide) rfl rfl rfl rfl (by omega) (pc' := 13) rfl (S' := [.int v5]) rfl ?_
    refine g_run 1 (pc' := 17) (L' := [some (.ref 526), some (.int x1)]) (S' := [.int v5]) (M' := gm g6) rfl ?_
    cases h
    exact g_ret rfl rfl rfl rfl
def fb_X12_putAside_2 (kk : Int32 → Int32 → zSg → Option (Unit × zSg)) (y1 : Int32) (y2 : Int32) (g : zSg) : Option (Unit × zSg) := (if 54 ≤ y2 then some ((), g) else (if zib y2 235 = true then (if zib ((54 * y1) + y2) 432 = true then kk (y1) (y2 + 1) (gsI g (548) (ix ((54 * y1) + y2)) (gI g 543 (ix y2))) else none) else none))
def f_X12_putAside_2 : Nat → Int32 → Int32 → zSg → Option (Unit × zSg)
  | 0, _, _, _ => none
  | n + 1, y1, y2, g => fb_X12_putAside_2 (f_X12_putAside_2 n) y1 y2 g
set_option maxRecDepth 100000 in
set_option maxHeartbeats 4000000 in
theorem p_X12_putAside_2 {sc : zSc} {hp : zHp} {d : Nat} (hD : 0 ≤ d) : ∀ (n : Nat) (y1 : Int32) (y2 : Int32) (g : zSg) (r : Unit × zSg), f_X12_putAside_2 n y1 y2 g = some r → zG d sc hp (zcd zM_X12_putAside) 2 [some (.ref 526), some (.int y1), some (.int y2)] [] (gm g) (none, gm r.2) := by
  intro n
  induction n with
  | zero => intro y1 y2 g r h; cases h
  | succ n ih =>
    intro y1 y2 g r h
    replace h : fb_X12_putAside_2 (f_X12_putAside_2 n) y1 y2 g = some r := h
    unfold fb_X12_putAside_2 at h
    refine g_run 2 (pc' := 5) (L' := [some (.ref 526), some (.int y1), some (.int y2)]) (S' := [.int 54, .int y2]) (M' := gm g) rfl ?_
    refine g_icmp (54 ≤ y2) rfl (t := 31) rfl rfl (fun c1 => ?_) (fun c1 => ?_)
    · replace h := (if_pos c1).symm.trans h
      cases h
      exact g_ret rfl rfl rfl rfl
    · replace h := (if_neg c1).symm.trans h
      refine g_run 10 (pc' := 23) (L' := [some (.ref 526), some (.int y1), some (.int y2)]) (S' := [.int y2, .ref 543, .int (((54 * y1) + y2)), .ref 548]) (M' := gm g) rfl ?_
      by_cases c2 : zib y2 235 = true
      case neg => exact nomatch ((if_neg c2).symm.trans h)
      replace h := (if_pos c2).symm.trans h
      refine g_iald rfl (a := 543) rfl c2 ?_
      by_cases c3 : zib ((54 * y1) + y2) 432 = true
      case neg => exact nomatch ((if_neg c3).symm.trans h)
      replace h := (if_pos c3).symm.trans h
      refine g_iast rfl (a := 548) rfl c3 ?_
      refine g_run 2 (pc' := 2) (L' := [some (.ref 526), some (.int y1), some (.int ((y2 + 1)))]) (S' := []) (M' := gm (gsI g (548) (ix ((54 * y1) + y2)) (gI g 543 (ix y2)))) rfl ?_
      exact ih (y1) (y2 + 1) (gsI g (548) (ix ((54 * y1) + y2)) (gI g 543 (ix y2))) _ h
def f_X12_putAside (x1 : Int32) (g : zSg) : Option (Unit × zSg) := f_X12_putAside_2 zFu (x1) (0) g
set_option maxRecDepth 100000 in
set_option maxHeartbeats 4000000 in
theorem p_X12_putAside {sc : zSc} {hp : zHp} {x1 : Int32} {g : zSg} {r : Unit × zSg} (h : f_X12_putAside x1 g = some r) : zRn sc hp 0 zM_X12_putAside [.ref 526, .int x1] (gm g) none (gm r.2) := by
  intro d hD
  show zG _ sc hp (zcd zM_X12_putAside) 0 [some (.ref 526), some (.int x1), none] [] (gm g) _
  unfold f_X12_putAside at h
  refine g_run 2 (pc' := 2) (L' := [some (.ref 526), some (.int x1), some (.int 0)]) (S' := []) (M' := gm g) rfl ?_
  exact p_X12_putAside_2 hD zFu (x1) (0) g _ h
def fb_X12_takeBack_2 (kk : Int32 → Int32 → zSg → Option (Unit × zSg)) (y1 : Int32) (y2 : Int32) (g : zSg) : Option (Unit × zSg) := (if 54 ≤ y2 then some ((), g) else (if zib ((54 * y1) + y2) 432 = true then (if zib y2 235 = true then kk (y1) (y2 + 1) (gsI g (543) (ix y2) (gI g 548 (ix ((54 * y1) + y2)))) else none) else none))
def f_X12_takeBack_2 : Nat → Int32 → Int32 → zSg → Option (Unit × zSg)
  | 0, _, _, _ => none
  | n + 1, y1, y2, g => fb_X12_takeBack_2 (f_X12_takeBack_2 n) y1 y2 g
set_option maxRecDepth 100000 in
set_option maxHeartbeats 4000000 in
theorem p_X12_takeBack_2 {sc : zSc} {hp : zHp} {d : Nat} (hD : 0 ≤ d) : ∀ (n : Nat) (y1 : Int32) (y2 : Int32) (g : zSg) (r : Unit × zSg), f_X12_takeBack_2 n y1 y2 g = some r → zG d sc hp (zcd zM_X12_takeBack) 2 [some (.ref 526), some (.int y1), some (.int y2)] [] (gm g) (none, gm r.2) := by
  intro n
  induction n with
  | zero => intro y1 y2 g r h; cases h
  | succ n ih =>
    intro y1 y2 g r h
    replace h : fb_X12_takeBack_2 (f_X12_takeBack_2 n) y1 y2 g = some r := h
    unfold fb_X12_takeBack_2 at h
    refine g_run 2 (pc' := 5) (L' := [some (.ref 526), some (.int y1), some (.int y2)]) (S' := [.int 54, .int y2]) (M' := gm g) rfl ?_
    refine g_icmp (54 ≤ y2) rfl (t := 31) rfl rfl (fun c1 => ?_) (fun c1 => ?_)
    · replace h := (if_pos c1).symm.trans h
      cases h
      exact g_ret rfl rfl rfl rfl
    · replace h := (if_neg c1).symm.trans h
      refine g_run 10 (pc' := 23) (L' := [some (.ref 526), some (.int y1), some (.int y2)]) (S' := [.int (((54 * y1) + y2)), .ref 548, .int y2, .ref 543]) (M' := gm g) rfl ?_
      by_cases c2 : zib ((54 * y1) + y2) 432 = true
      case neg => exact nomatch ((if_neg c2).symm.trans h)
      replace h := (if_pos c2).symm.trans h
      refine g_iald rfl (a := 548) rfl c2 ?_
      by_cases c3 : zib y2 235 = true
      case neg => exact nomatch ((if_neg c3).symm.trans h)
      replace h := (if_pos c3).symm.trans h
      refine g_iast rfl (a := 543) rfl c3 ?_
      refine g_run 2 (pc' := 2) (L' := [some (.ref 526), some (.int y1), some (.int ((y2 + 1)))]) (S' := []) (M' := gm (gsI g (543) (ix y2) (gI g 548 (ix ((54 * y1) + y2))))) rfl ?_
      exact ih (y1) (y2 + 1) (gsI g (543) (ix y2) (gI g 548 (ix ((54 * y1) + y2)))) _ h
def f_X12_takeBack (x1 : Int32) (g : zSg) : Option (Unit × zSg) := f_X12_takeBack_2 zFu (x1) (0) g
set_option maxRecDepth 100000 in
set_option maxHeartbeats 4000000 in
theorem p_X12_takeBack {sc : zSc} {hp : zHp} {x1 : Int32} {g : zSg} {r : Unit × zSg} (h : f_X12_takeBack x1 g = some r) : zRn sc hp 0 zM_X12_takeBack [.ref 526, .int x1] (gm g) none (gm r.2) := by
  intro d hD
  show zG _ sc hp (zcd zM_X12_takeBack) 0 [some (.ref 526), some (.int x1), none] [] (gm g) _
  unfold f_X12_takeBack at h
  refine g_run 2 (pc' := 2) (L' := [some (.ref 526), some (.int x1), some (.int 0)]) (S' := []) (M' := gm g) rfl ?_
  exact p_X12_takeBack_2 hD zFu (x1) (0) g _ h
def f_X12_soon_51 (y1 : Int32) (y2 : Int32) (y3 : Int32) (g : zSg) : Option (Int32 × zSg) := (zB (f_X12_knows y1 y2 g) (fun v1 g2 => (zB (f_X12_takeBack 0 g2) (fun v4 g5 => (if v1 = 0 then some ((-1), g5) else some (y3, g5))))))
set_option maxRecDepth 100000 in
set_option maxHeartbeats 4000000 in
theorem p_X12_soon_51 {sc : zSc} {hp : zHp} {d : Nat} (hD : 9 ≤ d) (y1 : Int32) (y2 : Int32) (y3 : Int32) (g : zSg) (r : Int32 × zSg) (h : f_X12_soon_51 y1 y2 y3 g = some r) : zG d sc hp (zcd zM_X12_soon) 51 [some (.ref 526), some (.int y1), some (.int y2), some (.int y3), none] [] (gm g) ((some (.int r.1)), gm r.2) := by
  obtain ⟨d, rfl⟩ : ∃ d', d = d' + 1 := ⟨d - 1, by omega⟩
  unfold f_X12_soon_51 at h
  refine g_run 3 (pc' := 54) (L' := [some (.ref 526), some (.int y1), some (.int y2), some (.int y3), none]) (S' := [.int y2, .int y1, .ref 526]) (M' := gm g) rfl ?_
  replace h := zB_of h
  obtain ⟨v1, g2, e3, h⟩ := h
  refine g_inv2 (kd := 1) (p_X12_knows  e3) rfl rfl rfl (by decide) rfl rfl rfl rfl (by omega) (pc' := 57) rfl (S' := [.int v1]) rfl ?_
  refine g_run 3 (pc' := 61) (L' := [some (.ref 526), some (.int y1), some (.int y2), some (.int y3), some (.int v1)]) (S' := [.int 0, .ref 526]) (M' := gm g2) rfl ?_
  replace h := zB_of h
  obtain ⟨v4, g5, e6, h⟩ := h
  refine g_inv2 (kd := 1) (p_X12_takeBack  e6) rfl rfl rfl (by decide) rfl rfl rfl rfl (by omega) (pc' := 64) rfl (S' := []) rfl ?_
  refine g_run 1 (pc' := 66) (L' := [some (.ref 526), some (.int y1), some (.int y2), some (.int y3), some (.int v1)]) (S' := [.int v1]) (M' := gm g5) rfl ?_
  refine g_if (v1 = 0) rfl (t := 73) rfl rfl (fun c7 => ?_) (fun c7 => ?_)
  · replace h := (if_pos c7).symm.trans h
    refine g_run 1 (pc' := 74) (L' := [some (.ref 526), some (.int y1), some (.int y2), some (.int y3), some (.int v1)]) (S' := [.int (-1)]) (M' := gm g5) rfl ?_
    cases h
    exact g_ret rfl rfl rfl rfl
  · replace h := (if_neg c7).symm.trans h
    refine g_run 2 (pc' := 74) (L' := [some (.ref 526), some (.int y1), some (.int y2), some (.int y3), some (.int v1)]) (S' := [.int y3]) (M' := gm g5) rfl ?_
    cases h
    exact g_ret rfl rfl rfl rfl
def fb_X12_soon_25 (kk : Int32 → Int32 → Int32 → zSg → Option (Int32 × zSg)) (y1 : Int32) (y2 : Int32) (y3 : Int32) (g : zSg) : Option (Int32 × zSg) := (if 99 ≤ y3 then f_X12_soon_51 (y1) (y2) (y3) g else (zB (f_X12_knows y1 y2 g) (fun v2 g3 => (if ¬ v2 = 0 then f_X12_soon_51 (y1) (y2) (y3) g3 else (zB (f_X12_live g3) (fun v6 g7 => kk (y1) (y2) (y3 + 1) g7))))))
def f_X12_soon_25 : Nat → Int32 → Int32 → Int32 → zSg → Option (Int32 × zSg)
  | 0, _, _, _, _ => none
  | n + 1, y1, y2, y3, g => fb_X12_soon_25 (f_X12_soon_25 n) y1 y2 y3 g
set_option maxRecDepth 100000 in
set_option maxHeartbeats 4000000 in
theorem p_X12_soon_25 {sc : zSc} {hp : zHp} {d : Nat} (hD : 9 ≤ d) : ∀ (n : Nat) (y1 : Int32) (y2 : Int32) (y3 : Int32) (g : zSg) (r : Int32 × zSg), f_X12_soon_25 n y1 y2 y3 g = some r → zG d sc hp (zcd zM_X12_soon) 25 [some (.ref 526), some (.int y1), some (.int y2), some (.int y3), none] [] (gm g) ((some (.int r.1)), gm r.2) := by
  obtain ⟨d, rfl⟩ : ∃ d', d = d' + 1 := ⟨d - 1, by omega⟩
  intro n
  induction n with
  | zero => intro y1 y2 y3 g r h; cases h
  | succ n ih =>
    intro y1 y2 y3 g r h
    replace h : fb_X12_soon_25 (f_X12_soon_25 n) y1 y2 y3 g = some r := h
    unfold fb_X12_soon_25 at h
    refine g_run 2 (pc' := 28) (L' := [some (.ref 526), some (.int y1), some (.int y2), some (.int y3), none]) (S' := [.int 99, .int y3]) (M' := gm g) rfl ?_
    refine g_icmp (99 ≤ y3) rfl (t := 51) rfl rfl (fun c1 => ?_) (fun c1 => ?_)
    · replace h := (if_pos c1).symm.trans h
      exact p_X12_soon_51 hD (y1) (y2) (y3) g _ h
    · replace h := (if_neg c1).symm.trans h
      refine g_run 3 (pc' := 34) (L' := [some (.ref 526), some (.int y1), some (.int y2), some (.int y3), none]) (S' := [.int y2, .int y1, .ref 526]) (M' := gm g) rfl ?_
      replace h := zB_of h
      obtain ⟨v2, g3, e4, h⟩ := h
      refine g_inv2 (kd := 1) (p_X12_knows  e4) rfl rfl rfl (by decide) rfl rfl rfl rfl (by omega) (pc' := 37) rfl (S' := [.int v2]) rfl ?_
      refine g_if (¬ v2 = 0) rfl (t := 51) rfl rfl (fun c5 => ?_) (fun c5 => ?_)
      · replace h := (if_pos c5).symm.trans h
        exact p_X12_soon_51 hD (y1) (y2) (y3) g3 _ h
      · replace h := (if_neg c5).symm.trans h
        refine g_run 1 (pc' := 41) (L' := [some (.ref 526), some (.int y1), some (.int y2), some (.int y3), none]) (S' := [.ref 526]) (M' := gm g3) rfl ?_
        replace h := zB_of h
        obtain ⟨v6, g7, e8, h⟩ := h
        refine g_inv2 (kd := 1) (p_X12_live  e8) rfl rfl rfl (by decide) rfl rfl rfl rfl (by omega) (pc' := 44) rfl (S' := [.int v6]) rfl ?_
        refine g_run 3 (pc' := 25) (L' := [some (.ref 526), some (.int y1), some (.int y2), some (.int ((y3 + 1))), none]) (S' := []) (M' := gm g7) rfl ?_
        exact ih (y1) (y2) (y3 + 1) g7 _ h
def f_X12_soon (x1 : Int32) (x2 : Int32) (g : zSg) : Option (Int32 × zSg) := (zB (f_X12_isPerson x1 g) (fun v1 g2 => (if v1 = 0 then some ((-1), g2) else (zB (f_X12_isSecret x2 g2) (fun v5 g6 => (if ¬ v5 = 0 then (zB (f_X12_putAside 0 g6) (fun v9 g10 => f_X12_soon_25 zFu (x1) (x2) (0) g10)) else some ((-1), g6)))))))
set_option maxRecDepth 100000 in
set_option maxHeartbeats 4000000 in
theorem p_X12_soon {sc : zSc} {hp : zHp} {x1 : Int32} {x2 : Int32} {g : zSg} {r : Int32 × zSg} (h : f_X12_soon x1 x2 g = some r) : zRn sc hp 9 zM_X12_soon [.ref 526, .int x1, .int x2] (gm g) (some (.int r.1)) (gm r.2) := by
  intro d hD
  obtain ⟨d, rfl⟩ : ∃ d', d = d' + 1 := ⟨d - 1, by omega⟩
  show zG _ sc hp (zcd zM_X12_soon) 0 [some (.ref 526), some (.int x1), some (.int x2), none, none] [] (gm g) _
  unfold f_X12_soon at h
  refine g_run 2 (pc' := 2) (L' := [some (.ref 526), some (.int x1), some (.int x2), none, none]) (S' := [.int x1, .ref 526]) (M' := gm g) rfl ?_
  replace h := zB_of h
  obtain ⟨v1, g2, e3, h⟩ := h
  refine g_inv2 (kd := 1) (p_X12_isPerson  e3) rfl rfl rfl (by decide) rfl rfl rfl rfl (by omega) (pc' := 5) rfl (S' := [.int v1]) rfl ?_
  refine g_if (v1 = 0) rfl (t := 16) rfl rfl (fun c4 => ?_) (fun c4 => ?_)
  · replace h := (if_pos c4).symm.trans h
    refine g_run 1 (pc' := 17) (L' := [some (.ref 526), some (.int x1), some (.int x2), none, none]) (S' := [.int (-1)]) (M' := gm g2) rfl ?_
    cases h
    exact g_ret rfl rfl rfl rfl
  · replace h := (if_neg c4).symm.trans h
    refine g_run 2 (pc' := 10) (L' := [some (.ref 526), some (.int x1), some (.int x2), none, none]) (S' := [.int x2, .ref 526]) (M' := gm g2) rfl ?_
    replace h := zB_of h
    obtain ⟨v5, g6, e7, h⟩ := h
    refine g_inv2 (kd := 1) (p_X12_isSecret  e7) rfl rfl rfl (by decide) rfl rfl rfl rfl (by omega) (pc' := 13) rfl (S' := [.int v5]) rfl ?_
    refine g_if (¬ v5 = 0) rfl (t := 18) rfl rfl (fun c8 => ?_) (fun c8 => ?_)
    · replace h := (if_pos c8).symm.trans h
      refine g_run 2 (pc' := 20) (L' := [some (.ref 526), some (.int x1), some (.int x2), none, none]) (S' := [.int 0, .ref 526]) (M' := gm g6) rfl ?_
      replace h := zB_of h
      obtain ⟨v9, g10, e11, h⟩ := h
      refine g_inv2 (kd := 1) (p_X12_putAside  e11) rfl rfl rfl (by decide) rfl rfl rfl rfl (by omega) (pc' := 23) rfl (S' := []) rfl ?_
      refine g_run 2 (pc' := 25) (L' := [some (.ref 526), some (.int x1), some (.int x2), some (.int 0), none]) (S' := []) (M' := gm g10) rfl ?_
      exact p_X12_soon_25 hD zFu (x1) (x2) (0) g10 _ h
    · replace h := (if_neg c8).symm.trans h
      refine g_run 1 (pc' := 17) (L' := [some (.ref 526), some (.int x1), some (.int x2), none, none]) (S' := [.int (-1)]) (M' := gm g6) rfl ?_
      cases h
      exact g_ret rfl rfl rfl rfl
def f_X12_ready_55 (y2 : Int32) (s0 : Int32) (g : zSg) : Option (Int32 × zSg) := (zB (f_X12_takeBack 0 g) (fun v1 g2 => (if s0 = 0 then some ((-1), g2) else some (y2, g2))))
set_option maxRecDepth 100000 in
set_option maxHeartbeats 4000000 in
theorem p_X12_ready_55 {sc : zSc} {hp : zHp} {d : Nat} (hD : 9 ≤ d) (y2 : Int32) (s0 : Int32) (g : zSg) (r : Int32 × zSg) (h : f_X12_ready_55 y2 s0 g = some r) : zG d sc hp (zcd zM_X12_ready) 55 [some (.ref 526), none, some (.int y2), none] [.int s0] (gm g) ((some (.int r.1)), gm r.2) := by
  obtain ⟨d, rfl⟩ : ∃ d', d = d' + 1 := ⟨d - 1, by omega⟩
  unfold f_X12_ready_55 at h
  refine g_run 3 (pc' := 58) (L' := [some (.ref 526), none, some (.int y2), some (.int s0)]) (S' := [.int 0, .ref 526]) (M' := gm g) rfl ?_
  replace h := zB_of h
  obtain ⟨v1, g2, e3, h⟩ := h
  refine g_inv2 (kd := 1) (p_X12_takeBack  e3) rfl rfl rfl (by decide) rfl rfl rfl rfl (by omega) (pc' := 61) rfl (S' := []) rfl ?_
  refine g_run 1 (pc' := 62) (L' := [some (.ref 526), none, some (.int y2), some (.int s0)]) (S' := [.int s0]) (M' := gm g2) rfl ?_
  refine g_if (s0 = 0) rfl (t := 69) rfl rfl (fun c4 => ?_) (fun c4 => ?_)
  · replace h := (if_pos c4).symm.trans h
    refine g_run 1 (pc' := 70) (L' := [some (.ref 526), none, some (.int y2), some (.int s0)]) (S' := [.int (-1)]) (M' := gm g2) rfl ?_
    cases h
    exact g_ret rfl rfl rfl rfl
  · replace h := (if_neg c4).symm.trans h
    refine g_run 2 (pc' := 70) (L' := [some (.ref 526), none, some (.int y2), some (.int s0)]) (S' := [.int y2]) (M' := gm g2) rfl ?_
    cases h
    exact g_ret rfl rfl rfl rfl
def f_X12_ready_42 (y1 : Int32) (y2 : Int32) (g : zSg) : Option (Int32 × zSg) := (zB (f_X12_isRaw y1 g) (fun v1 g2 => (if ¬ v1 = 0 then f_X12_ready_55 (y2) (0) g2 else f_X12_ready_55 (y2) (1) g2)))
set_option maxRecDepth 100000 in
set_option maxHeartbeats 4000000 in
theorem p_X12_ready_42 {sc : zSc} {hp : zHp} {d : Nat} (hD : 9 ≤ d) (y1 : Int32) (y2 : Int32) (g : zSg) (r : Int32 × zSg) (h : f_X12_ready_42 y1 y2 g = some r) : zG d sc hp (zcd zM_X12_ready) 42 [some (.ref 526), some (.int y1), some (.int y2), none] [] (gm g) ((some (.int r.1)), gm r.2) := by
  obtain ⟨d, rfl⟩ : ∃ d', d = d' + 1 := ⟨d - 1, by omega⟩
  unfold f_X12_ready_42 at h
  refine g_run 2 (pc' := 44) (L' := [some (.ref 526), some (.int y1), some (.int y2), none]) (S' := [.int y1, .ref 526]) (M' := gm g) rfl ?_
  replace h := zB_of h
  obtain ⟨v1, g2, e3, h⟩ := h
  refine g_inv2 (kd := 1) (p_X12_isRaw  e3) rfl rfl rfl (by decide) rfl rfl rfl rfl (by omega) (pc' := 47) rfl (S' := [.int v1]) rfl ?_
  refine g_if (¬ v1 = 0) rfl (t := 54) rfl rfl (fun c4 => ?_) (fun c4 => ?_)
  · replace h := (if_pos c4).symm.trans h
    refine g_run 1 (pc' := 55) (L' := [some (.ref 526), some (.int y1), some (.int y2), none]) (S' := [.int 0]) (M' := gm g2) rfl ?_
    refine g_forget (L' := [some (.ref 526), none, some (.int y2), none]) (And.intro rfl (And.intro rfl True.intro)) ?_
    exact p_X12_ready_55 hD (y2) (0) g2 _ h
  · replace h := (if_neg c4).symm.trans h
    refine g_run 2 (pc' := 55) (L' := [some (.ref 526), some (.int y1), some (.int y2), none]) (S' := [.int 1]) (M' := gm g2) rfl ?_
    refine g_forget (L' := [some (.ref 526), none, some (.int y2), none]) (And.intro rfl (And.intro rfl True.intro)) ?_
    exact p_X12_ready_55 hD (y2) (1) g2 _ h
def fb_X12_ready_17 (kk : Int32 → Int32 → zSg → Option (Int32 × zSg)) (y1 : Int32) (y2 : Int32) (g : zSg) : Option (Int32 × zSg) := (if 99 ≤ y2 then f_X12_ready_42 (y1) (y2) g else (zB (f_X12_isRaw y1 g) (fun v2 g3 => (if v2 = 0 then f_X12_ready_42 (y1) (y2) g3 else (zB (f_X12_live g3) (fun v6 g7 => kk (y1) (y2 + 1) g7))))))
def f_X12_ready_17 : Nat → Int32 → Int32 → zSg → Option (Int32 × zSg)
  | 0, _, _, _ => none
  | n + 1, y1, y2, g => fb_X12_ready_17 (f_X12_ready_17 n) y1 y2 g
set_option maxRecDepth 100000 in
set_option maxHeartbeats 4000000 in
theorem p_X12_ready_17 {sc : zSc} {hp : zHp} {d : Nat} (hD : 9 ≤ d) : ∀ (n : Nat) (y1 : Int32) (y2 : Int32) (g : zSg) (r : Int32 × zSg), f_X12_ready_17 n y1 y2 g = some r → zG d sc hp (zcd zM_X12_ready) 17 [some (.ref 526), some (.int y1), some (.int y2), none] [] (gm g) ((some (.int r.1)), gm r.2) := by
  obtain ⟨d, rfl⟩ : ∃ d', d = d' + 1 := ⟨d - 1, by omega⟩
  intro n
  induction n with
  | zero => intro y1 y2 g r h; cases h
  | succ n ih =>
    intro y1 y2 g r h
    replace h : fb_X12_ready_17 (f_X12_ready_17 n) y1 y2 g = some r := h
    unfold fb_X12_ready_17 at h
    refine g_run 2 (pc' := 20) (L' := [some (.ref 526), some (.int y1), some (.int y2), none]) (S' := [.int 99, .int y2]) (M' := gm g) rfl ?_
    refine g_icmp (99 ≤ y2) rfl (t := 42) rfl rfl (fun c1 => ?_) (fun c1 => ?_)
    · replace h := (if_pos c1).symm.trans h
      exact p_X12_ready_42 hD (y1) (y2) g _ h
    · replace h := (if_neg c1).symm.trans h
      refine g_run 2 (pc' := 25) (L' := [some (.ref 526), some (.int y1), some (.int y2), none]) (S' := [.int y1, .ref 526]) (M' := gm g) rfl ?_
      replace h := zB_of h
      obtain ⟨v2, g3, e4, h⟩ := h
      refine g_inv2 (kd := 1) (p_X12_isRaw  e4) rfl rfl rfl (by decide) rfl rfl rfl rfl (by omega) (pc' := 28) rfl (S' := [.int v2]) rfl ?_
      refine g_if (v2 = 0) rfl (t := 42) rfl rfl (fun c5 => ?_) (fun c5 => ?_)
      · replace h := (if_pos c5).symm.trans h
        exact p_X12_ready_42 hD (y1) (y2) g3 _ h
      · replace h := (if_neg c5).symm.trans h
        refine g_run 1 (pc' := 32) (L' := [some (.ref 526), some (.int y1), some (.int y2), none]) (S' := [.ref 526]) (M' := gm g3) rfl ?_
        replace h := zB_of h
        obtain ⟨v6, g7, e8, h⟩ := h
        refine g_inv2 (kd := 1) (p_X12_live  e8) rfl rfl rfl (by decide) rfl rfl rfl rfl (by omega) (pc' := 35) rfl (S' := [.int v6]) rfl ?_
        refine g_run 3 (pc' := 17) (L' := [some (.ref 526), some (.int y1), some (.int ((y2 + 1))), none]) (S' := []) (M' := gm g7) rfl ?_
        exact ih (y1) (y2 + 1) g7 _ h
def f_X12_ready (x1 : Int32) (g : zSg) : Option (Int32 × zSg) := (zB (f_X12_isSecret x1 g) (fun v1 g2 => (if ¬ v1 = 0 then (zB (f_X12_putAside 0 g2) (fun v5 g6 => f_X12_ready_17 zFu (x1) (0) g6)) else some ((-1), g2))))
set_option maxRecDepth 100000 in
set_option maxHeartbeats 4000000 in
theorem p_X12_ready {sc : zSc} {hp : zHp} {x1 : Int32} {g : zSg} {r : Int32 × zSg} (h : f_X12_ready x1 g = some r) : zRn sc hp 9 zM_X12_ready [.ref 526, .int x1] (gm g) (some (.int r.1)) (gm r.2) := by
  intro d hD
  obtain ⟨d, rfl⟩ : ∃ d', d = d' + 1 := ⟨d - 1, by omega⟩
  show zG _ sc hp (zcd zM_X12_ready) 0 [some (.ref 526), some (.int x1), none, none] [] (gm g) _
  unfold f_X12_ready at h
  refine g_run 2 (pc' := 2) (L' := [some (.ref 526), some (.int x1), none, none]) (S' := [.int x1, .ref 526]) (M' := gm g) rfl ?_
  replace h := zB_of h
  obtain ⟨v1, g2, e3, h⟩ := h
  refine g_inv2 (kd := 1) (p_X12_isSecret  e3) rfl rfl rfl (by decide) rfl rfl rfl rfl (by omega) (pc' := 5) rfl (S' := [.int v1]) rfl ?_
  refine g_if (¬ v1 = 0) rfl (t := 10) rfl rfl (fun c4 => ?_) (fun c4 => ?_)
  · replace h := (if_pos c4).symm.trans h
    refine g_run 2 (pc' := 12) (L' := [some (.ref 526), some (.int x1), none, none]) (S' := [.int 0, .ref 526]) (M' := gm g2) rfl ?_
    replace h := zB_of h
    obtain ⟨v5, g6, e7, h⟩ := h
    refine g_inv2 (kd := 1) (p_X12_putAside  e7) rfl rfl rfl (by decide) rfl rfl rfl rfl (by omega) (pc' := 15) rfl (S' := []) rfl ?_
    refine g_run 2 (pc' := 17) (L' := [some (.ref 526), some (.int x1), some (.int 0), none]) (S' := []) (M' := gm g6) rfl ?_
    exact p_X12_ready_17 hD zFu (x1) (0) g6 _ h
  · replace h := (if_neg c4).symm.trans h
    refine g_run 1 (pc' := 9) (L' := [some (.ref 526), some (.int x1), none, none]) (S' := [.int (-1)]) (M' := gm g2) rfl ?_
    cases h
    exact g_ret rfl rfl rfl rfl
def f_X12_lacksOf (x1 : Int32) (g : zSg) : Option (Int32 × zSg) := (zB (f_X12_isRaw x1 g) (fun v1 g2 => (if v1 = 0 then some (0, g2) else (zB (f_X12_of x1 1 g2) (fun v5 g6 => (if zib (42 + x1) 235 = true then some ((v5 - (gI g6 543 (ix (42 + x1)))), g6) else none))))))
set_option maxRecDepth 100000 in
set_option maxHeartbeats 4000000 in
theorem p_X12_lacksOf {sc : zSc} {hp : zHp} {x1 : Int32} {g : zSg} {r : Int32 × zSg} (h : f_X12_lacksOf x1 g = some r) : zRn sc hp 2 zM_X12_lacksOf [.ref 526, .int x1] (gm g) (some (.int r.1)) (gm r.2) := by
  intro d hD
  obtain ⟨d, rfl⟩ : ∃ d', d = d' + 1 := ⟨d - 1, by omega⟩
  show zG _ sc hp (zcd zM_X12_lacksOf) 0 [some (.ref 526), some (.int x1)] [] (gm g) _
  unfold f_X12_lacksOf at h
  refine g_run 2 (pc' := 2) (L' := [some (.ref 526), some (.int x1)]) (S' := [.int x1, .ref 526]) (M' := gm g) rfl ?_
  replace h := zB_of h
  obtain ⟨v1, g2, e3, h⟩ := h
  refine g_inv2 (kd := 1) (p_X12_isRaw  e3) rfl rfl rfl (by decide) rfl rfl rfl rfl (by omega) (pc' := 5) rfl (S' := [.int v1]) rfl ?_
  refine g_if (v1 = 0) rfl (t := 27) rfl rfl (fun c4 => ?_) (fun c4 => ?_)
  · replace h := (if_pos c4).symm.trans h
    refine g_run 1 (pc' := 28) (L' := [some (.ref 526), some (.int x1)]) (S' := [.int 0]) (M' := gm g2) rfl ?_
    cases h
    exact g_ret rfl rfl rfl rfl
  · replace h := (if_neg c4).symm.trans h
    refine g_run 3 (pc' := 11) (L' := [some (.ref 526), some (.int x1)]) (S' := [.int 1, .int x1, .ref 526]) (M' := gm g2) rfl ?_
    replace h := zB_of h
    obtain ⟨v5, g6, e7, h⟩ := h
    refine g_inv2 (kd := 1) (p_X12_of  e7) rfl rfl rfl (by decide) rfl rfl rfl rfl (by omega) (pc' := 14) rfl (S' := [.int v5]) rfl ?_
    refine g_run 5 (pc' := 22) (L' := [some (.ref 526), some (.int x1)]) (S' := [.int ((42 + x1)), .ref 543, .int v5]) (M' := gm g6) rfl ?_
    by_cases c8 : zib (42 + x1) 235 = true
    case neg => exact nomatch ((if_neg c8).symm.trans h)
    replace h := (if_pos c8).symm.trans h
    refine g_iald rfl (a := 543) rfl c8 ?_
    refine g_run 2 (pc' := 28) (L' := [some (.ref 526), some (.int x1)]) (S' := [.int ((v5 - (gI g6 543 (ix (42 + x1)))))]) (M' := gm g6) rfl ?_
    cases h
    exact g_ret rfl rfl rfl rfl
def f_X12_tryWinds_41 (rs : Int32 → Int32 → Int32 → Int32 → Int32 → zSg → Option (Unit × zSg)) (s0 : Int32) (g : zSg) : Option (Unit × zSg) := some ((), (gsI (gsI g 526 38 s0) 526 39 ((gI (gsI g 526 38 s0) 526 39) + 1)))
set_option maxRecDepth 100000 in
set_option maxHeartbeats 4000000 in
theorem p_X12_tryWinds_41 {sc : zSc} {hp : zHp} {d : Nat} (hD : 9 ≤ d) {Ds : Nat} (hD1 : Ds + 1 ≤ d) (rs : Int32 → Int32 → Int32 → Int32 → Int32 → zSg → Option (Unit × zSg)) (hrs : ∀ (x1 : Int32) (x2 : Int32) (x3 : Int32) (x4 : Int32) (x5 : Int32) (g : zSg) (r : Unit × zSg), rs x1 x2 x3 x4 x5 g = some r → zRn sc hp Ds zM_X12_tryWinds [.ref 526, .int x1, .int x2, .int x3, .int x4, .int x5] (gm g) none (gm r.2)) (s0 : Int32) (g : zSg) (r : Unit × zSg) (h : f_X12_tryWinds_41 rs s0 g = some r) : zG d sc hp (zcd zM_X12_tryWinds) 41 [some (.ref 526), none, none, none, none, none, none] [.int s0, .ref 526] (gm g) (none, gm r.2) := by
  obtain ⟨d, rfl⟩ : ∃ d', d = d' + 1 := ⟨d - 1, by omega⟩
  unfold f_X12_tryWinds_41 at h
  refine g_run 7 (pc' := 54) (L' := [some (.ref 526), none, none, none, none, none, none]) (S' := []) (M' := gm (gsI (gsI g 526 38 s0) 526 39 ((gI (gsI g 526 38 s0) 526 39) + 1))) rfl ?_
  cases h
  exact g_ret rfl rfl rfl rfl
def fb_X12_tryWinds_63 (rs : Int32 → Int32 → Int32 → Int32 → Int32 → zSg → Option (Unit × zSg)) (kk : Int32 → Int32 → Int32 → Int32 → Int32 → Int32 → zSg → Option (Unit × zSg)) (y1 : Int32) (y2 : Int32) (y3 : Int32) (y4 : Int32) (y5 : Int32) (y6 : Int32) (g : zSg) : Option (Unit × zSg) := (if 4 ≤ y6 then some ((), g) else (zB (f_X12_live (gsI g 543 50 y6)) (fun v2 g3 => (zB (rs (y1 + 1) (y2 - 1) y3 y4 ((10 * y5) + y6) g3) (fun v5 g6 => (zB (f_X12_takeBack y1 g6) (fun v8 g9 => kk (y1) (y2) (y3) (y4) (y5) (y6 + 1) g9)))))))
def f_X12_tryWinds_63 (rs : Int32 → Int32 → Int32 → Int32 → Int32 → zSg → Option (Unit × zSg)) : Nat → Int32 → Int32 → Int32 → Int32 → Int32 → Int32 → zSg → Option (Unit × zSg)
  | 0, _, _, _, _, _, _, _ => none
  | n + 1, y1, y2, y3, y4, y5, y6, g => fb_X12_tryWinds_63 rs (f_X12_tryWinds_63 rs n) y1 y2 y3 y4 y5 y6 g
set_option maxRecDepth 100000 in
set_option maxHeartbeats 4000000 in
theorem p_X12_tryWinds_63 {sc : zSc} {hp : zHp} {d : Nat} (hD : 9 ≤ d) {Ds : Nat} (hD1 : Ds + 1 ≤ d) (rs : Int32 → Int32 → Int32 → Int32 → Int32 → zSg → Option (Unit × zSg)) (hrs : ∀ (x1 : Int32) (x2 : Int32) (x3 : Int32) (x4 : Int32) (x5 : Int32) (g : zSg) (r : Unit × zSg), rs x1 x2 x3 x4 x5 g = some r → zRn sc hp Ds zM_X12_tryWinds [.ref 526, .int x1, .int x2, .int x3, .int x4, .int x5] (gm g) none (gm r.2)) : ∀ (n : Nat) (y1 : Int32) (y2 : Int32) (y3 : Int32) (y4 : Int32) (y5 : Int32) (y6 : Int32) (g : zSg) (r : Unit × zSg), f_X12_tryWinds_63 rs n y1 y2 y3 y4 y5 y6 g = some r → zG d sc hp (zcd zM_X12_tryWinds) 63 [some (.ref 526), some (.int y1), some (.int y2), some (.int y3), some (.int y4), some (.int y5), some (.int y6)] [] (gm g) (none, gm r.2) := by
  obtain ⟨d, rfl⟩ : ∃ d', d = d' + 1 := ⟨d - 1, by omega⟩
  intro n
  induction n with
  | zero => intro y1 y2 y3 y4 y5 y6 g r h; cases h
  | succ n ih =>
    intro y1 y2 y3 y4 y5 y6 g r h
    replace h : fb_X12_tryWinds_63 rs (f_X12_tryWinds_63 rs n) y1 y2 y3 y4 y5 y6 g = some r := h
    unfold fb_X12_tryWinds_63 at h
    refine g_run 2 (pc' := 66) (L' := [some (.ref 526), some (.int y1), some (.int y2), some (.int y3), some (.int y4), some (.int y5), some (.int y6)]) (S' := [.int 4, .int y6]) (M' := gm g) rfl ?_
    refine g_icmp (4 ≤ y6) rfl (t := 115) rfl rfl (fun c1 => ?_) (fun c1 => ?_)
    · replace h := (if_pos c1).symm.trans h
      cases h
      exact g_ret rfl rfl rfl rfl
    · replace h := (if_neg c1).symm.trans h
      refine g_run 6 (pc' := 79) (L' := [some (.ref 526), some (.int y1), some (.int y2), some (.int y3), some (.int y4), some (.int y5), some (.int y6)]) (S' := [.ref 526]) (M' := gm (gsI g 543 50 y6)) rfl ?_
      replace h := zB_of h
      obtain ⟨v2, g3, e4, h⟩ := h
      refine g_inv2 (kd := 1) (p_X12_live  e4) rfl rfl rfl (by decide) rfl rfl rfl rfl (by omega) (pc' := 82) rfl (S' := [.int v2]) rfl ?_
      refine g_run 15 (pc' := 101) (L' := [some (.ref 526), some (.int y1), some (.int y2), some (.int y3), some (.int y4), some (.int y5), some (.int y6)]) (S' := [.int (((10 * y5) + y6)), .int y4, .int y3, .int ((y2 - 1)), .int ((y1 + 1)), .ref 526]) (M' := gm g3) rfl ?_
      replace h := zB_of h
      obtain ⟨v5, g6, e7, h⟩ := h
      refine g_inv2 (kd := 1) (hrs (y1 + 1) (y2 - 1) y3 y4 ((10 * y5) + y6) g3 _ e7) rfl rfl rfl (by decide) rfl rfl rfl rfl (by omega) (pc' := 104) rfl (S' := []) rfl ?_
      refine g_run 2 (pc' := 106) (L' := [some (.ref 526), some (.int y1), some (.int y2), some (.int y3), some (.int y4), some (.int y5), some (.int y6)]) (S' := [.int y1, .ref 526]) (M' := gm g6) rfl ?_
      replace h := zB_of h
      obtain ⟨v8, g9, e10, h⟩ := h
      refine g_inv2 (kd := 1) (p_X12_takeBack  e10) rfl rfl rfl (by decide) rfl rfl rfl rfl (by omega) (pc' := 109) rfl (S' := []) rfl ?_
      refine g_run 2 (pc' := 63) (L' := [some (.ref 526), some (.int y1), some (.int y2), some (.int y3), some (.int y4), some (.int y5), some (.int ((y6 + 1)))]) (S' := []) (M' := gm g9) rfl ?_
      exact ih (y1) (y2) (y3) (y4) (y5) (y6 + 1) g9 _ h
def f_X12_tryWinds_b (rs : Int32 → Int32 → Int32 → Int32 → Int32 → zSg → Option (Unit × zSg)) (x1 : Int32) (x2 : Int32) (x3 : Int32) (x4 : Int32) (x5 : Int32) (g : zSg) : Option (Unit × zSg) := (if ¬ x2 = 0 then (zB (f_X12_putAside x1 g) (fun v2 g3 => f_X12_tryWinds_63 rs zFu (x1) (x2) (x3) (x4) (x5) (0) g3)) else (zB (f_X12_isRaw x3 g) (fun v5 g6 => (if ¬ v5 = 0 then some ((), g6) else (zB (f_X12_knownOf x3 g6) (fun v9 g10 => (if ¬ (v9 &&& x4) = 0 then some ((), g10) else (if ¬ (gI g10 526 38) = (-1) then f_X12_tryWinds_41 rs (gI g10 526 38) g10 else f_X12_tryWinds_41 rs (x5) g10))))))))
set_option maxRecDepth 100000 in
set_option maxHeartbeats 4000000 in
theorem p_X12_tryWinds_b {sc : zSc} {hp : zHp} {Ds : Nat} (rs : Int32 → Int32 → Int32 → Int32 → Int32 → zSg → Option (Unit × zSg)) (hrs : ∀ (x1 : Int32) (x2 : Int32) (x3 : Int32) (x4 : Int32) (x5 : Int32) (g : zSg) (r : Unit × zSg), rs x1 x2 x3 x4 x5 g = some r → zRn sc hp Ds zM_X12_tryWinds [.ref 526, .int x1, .int x2, .int x3, .int x4, .int x5] (gm g) none (gm r.2)) {x1 : Int32} {x2 : Int32} {x3 : Int32} {x4 : Int32} {x5 : Int32} {g : zSg} {r : Unit × zSg} (h : f_X12_tryWinds_b rs x1 x2 x3 x4 x5 g = some r) : zRn sc hp (max (Ds + 1) 9) zM_X12_tryWinds [.ref 526, .int x1, .int x2, .int x3, .int x4, .int x5] (gm g) none (gm r.2) := by
  intro d hD
  obtain ⟨hD1, hD⟩ := Nat.max_le.mp hD
  obtain ⟨d, rfl⟩ : ∃ d', d = d' + 1 := ⟨d - 1, by omega⟩
  show zG _ sc hp (zcd zM_X12_tryWinds) 0 [some (.ref 526), some (.int x1), some (.int x2), some (.int x3), some (.int x4), some (.int x5), none] [] (gm g) _
  unfold f_X12_tryWinds_b at h
  refine g_run 1 (pc' := 1) (L' := [some (.ref 526), some (.int x1), some (.int x2), some (.int x3), some (.int x4), some (.int x5), none]) (S' := [.int x2]) (M' := gm g) rfl ?_
  refine g_if (¬ x2 = 0) rfl (t := 55) rfl rfl (fun c1 => ?_) (fun c1 => ?_)
  · replace h := (if_pos c1).symm.trans h
    refine g_run 2 (pc' := 57) (L' := [some (.ref 526), some (.int x1), some (.int x2), some (.int x3), some (.int x4), some (.int x5), none]) (S' := [.int x1, .ref 526]) (M' := gm g) rfl ?_
    replace h := zB_of h
    obtain ⟨v2, g3, e4, h⟩ := h
    refine g_inv2 (kd := 1) (p_X12_putAside  e4) rfl rfl rfl (by decide) rfl rfl rfl rfl (by omega) (pc' := 60) rfl (S' := []) rfl ?_
    refine g_run 2 (pc' := 63) (L' := [some (.ref 526), some (.int x1), some (.int x2), some (.int x3), some (.int x4), some (.int x5), some (.int 0)]) (S' := []) (M' := gm g3) rfl ?_
    exact p_X12_tryWinds_63 hD hD1 rs hrs zFu (x1) (x2) (x3) (x4) (x5) (0) g3 _ h
  · replace h := (if_neg c1).symm.trans h
    refine g_run 2 (pc' := 6) (L' := [some (.ref 526), some (.int x1), some (.int x2), some (.int x3), some (.int x4), some (.int x5), none]) (S' := [.int x3, .ref 526]) (M' := gm g) rfl ?_
    replace h := zB_of h
    obtain ⟨v5, g6, e7, h⟩ := h
    refine g_inv2 (kd := 1) (p_X12_isRaw  e7) rfl rfl rfl (by decide) rfl rfl rfl rfl (by omega) (pc' := 9) rfl (S' := [.int v5]) rfl ?_
    refine g_if (¬ v5 = 0) rfl (t := 54) rfl rfl (fun c8 => ?_) (fun c8 => ?_)
    · replace h := (if_pos c8).symm.trans h
      cases h
      exact g_ret rfl rfl rfl rfl
    · replace h := (if_neg c8).symm.trans h
      refine g_run 2 (pc' := 14) (L' := [some (.ref 526), some (.int x1), some (.int x2), some (.int x3), some (.int x4), some (.int x5), none]) (S' := [.int x3, .ref 526]) (M' := gm g6) rfl ?_
      replace h := zB_of h
      obtain ⟨v9, g10, e11, h⟩ := h
      refine g_inv2 (kd := 1) (p_X12_knownOf  e11) rfl rfl rfl (by decide) rfl rfl rfl rfl (by omega) (pc' := 17) rfl (S' := [.int v9]) rfl ?_
      refine g_run 2 (pc' := 20) (L' := [some (.ref 526), some (.int x1), some (.int x2), some (.int x3), some (.int x4), some (.int x5), none]) (S' := [.int ((v9 &&& x4))]) (M' := gm g10) rfl ?_
      refine g_if (¬ (v9 &&& x4) = 0) rfl (t := 54) rfl rfl (fun c12 => ?_) (fun c12 => ?_)
      · replace h := (if_pos c12).symm.trans h
        cases h
        exact g_ret rfl rfl rfl rfl
      · replace h := (if_neg c12).symm.trans h
        refine g_run 4 (pc' := 29) (L' := [some (.ref 526), some (.int x1), some (.int x2), some (.int x3), some (.int x4), some (.int x5), none]) (S' := [.int (-1), .int ((gI g10 526 38)), .ref 526]) (M' := gm g10) rfl ?_
        refine g_icmp (¬ (gI g10 526 38) = (-1)) rfl (t := 37) rfl rfl (fun c13 => ?_) (fun c13 => ?_)
        · replace h := (if_pos c13).symm.trans h
          refine g_run 2 (pc' := 41) (L' := [some (.ref 526), some (.int x1), some (.int x2), some (.int x3), some (.int x4), some (.int x5), none]) (S' := [.int ((gI g10 526 38)), .ref 526]) (M' := gm g10) rfl ?_
          refine g_forget (L' := [some (.ref 526), none, none, none, none, none, none]) (And.intro rfl True.intro) ?_
          exact p_X12_tryWinds_41 hD hD1 rs hrs (gI g10 526 38) g10 _ h
        · replace h := (if_neg c13).symm.trans h
          refine g_run 2 (pc' := 41) (L' := [some (.ref 526), some (.int x1), some (.int x2), some (.int x3), some (.int x4), some (.int x5), none]) (S' := [.int x5, .ref 526]) (M' := gm g10) rfl ?_
          refine g_forget (L' := [some (.ref 526), none, none, none, none, none, none]) (And.intro rfl True.intro) ?_
          exact p_X12_tryWinds_41 hD hD1 rs hrs (x5) g10 _ h
def f_X12_tryWinds : Nat → Int32 → Int32 → Int32 → Int32 → Int32 → zSg → Option (Unit × zSg)
  | 0, _, _, _, _, _, _ => none
  | n + 1, x1, x2, x3, x4, x5, g => f_X12_tryWinds_b (f_X12_tryWinds n) x1 x2 x3 x4 x5 g
theorem p_X12_tryWinds {sc : zSc} {hp : zHp} : ∀ (n : Nat) (x1 : Int32) (x2 : Int32) (x3 : Int32) (x4 : Int32) (x5 : Int32) (g : zSg) (r : Unit × zSg), f_X12_tryWinds n x1 x2 x3 x4 x5 g = some r → zRn sc hp (9 + 1 * n) zM_X12_tryWinds [.ref 526, .int x1, .int x2, .int x3, .int x4, .int x5] (gm g) none (gm r.2) := by
  intro n
  induction n with
  | zero => intro x1 x2 x3 x4 x5 g r h; cases h
  | succ n ih =>
    intro x1 x2 x3 x4 x5 g r h d hd
    exact p_X12_tryWinds_b (f_X12_tryWinds n) ih h d (Nat.max_le.mpr ⟨by omega, by omega⟩)
def f_X12_kept (x1 : Int32) (x2 : Int32) (x3 : Int32) (g : zSg) : Option (Int32 × zSg) := (zB (f_X12_isSecret x1 g) (fun v1 g2 => (if v1 = 0 then some ((-1), g2) else (zB (f_X12_isRaw x1 g2) (fun v5 g6 => (if v5 = 0 then some ((-1), g6) else (zB (f_X12_in x2 0 ((1 <<< ((gI g6 526 25) &&& 31)) - 1) g6) (fun v9 g10 => (if v9 = 0 then some ((-1), g10) else (zB (f_X12_of x1 0 g10) (fun v13 g14 => (zB (f_X12_has x2 v13 g14) (fun v16 g17 => (if ¬ v16 = 0 then some ((-1), g17) else (zB (f_X12_lacksOf x1 g17) (fun v20 g21 => (if 6 < v20 then some ((-1), g21) else (zB (f_X12_in x3 0 1 g21) (fun v24 g25 => (if ¬ v24 = 0 then (zB (f_X12_lacksOf x1 (gsI (gsI (gsI g25 543 48 ((gI g25 543 48) ||| (1 <<< (x1 &&& 31)))) 526 38 (-1)) 526 39 0)) (fun v28 g29 => (zB (f_X12_tryWinds zDp 0 v28 x1 x2 0 g29) (fun v31 g32 => (if ¬ x3 = 0 then some ((gI (gsI g32 543 48 (gI g25 543 48)) 526 39), (gsI g32 543 48 (gI g25 543 48))) else some ((gI (gsI g32 543 48 (gI g25 543 48)) 526 38), (gsI g32 543 48 (gI g25 543 48)))))))) else some ((-1), g25)))))))))))))))))))))
set_option maxRecDepth 100000 in
set_option maxHeartbeats 4000000 in
theorem p_X12_kept {sc : zSc} {hp : zHp} {x1 : Int32} {x2 : Int32} {x3 : Int32} {g : zSg} {r : Int32 × zSg} (h : f_X12_kept x1 x2 x3 g = some r) : zRn sc hp 34 zM_X12_kept [.ref 526, .int x1, .int x2, .int x3] (gm g) (some (.int r.1)) (gm r.2) := by
  intro d hD
  obtain ⟨d, rfl⟩ : ∃ d', d = d' + 1 := ⟨d - 1, by omega⟩
  show zG _ sc hp (zcd zM_X12_kept) 0 [some (.ref 526), some (.int x1), some (.int x2), some (.int x3), none] [] (gm g) _
  unfold f_X12_kept at h
  refine g_run 2 (pc' := 2) (L' := [some (.ref 526), some (.int x1), some (.int x2), some (.int x3), none]) (S' := [.int x1, .ref 526]) (M' := gm g) rfl ?_
  replace h := zB_of h
  obtain ⟨v1, g2, e3, h⟩ := h
  refine g_inv2 (kd := 1) (p_X12_isSecret  e3) rfl rfl rfl (by decide) rfl rfl rfl rfl (by omega) (pc' := 5) rfl (S' := [.int v1]) rfl ?_
  refine g_if (v1 = 0) rfl (t := 64) rfl rfl (fun c4 => ?_) (fun c4 => ?_)
  · replace h := (if_pos c4).symm.trans h
    refine g_run 1 (pc' := 65) (L' := [some (.ref 526), some (.int x1), some (.int x2), some (.int x3), none]) (S' := [.int (-1)]) (M' := gm g2) rfl ?_
    cases h
    exact g_ret rfl rfl rfl rfl
  · replace h := (if_neg c4).symm.trans h
    refine g_run 2 (pc' := 10) (L' := [some (.ref 526), some (.int x1), some (.int x2), some (.int x3), none]) (S' := [.int x1, .ref 526]) (M' := gm g2) rfl ?_
    replace h := zB_of h
    obtain ⟨v5, g6, e7, h⟩ := h
    refine g_inv2 (kd := 1) (p_X12_isRaw  e7) rfl rfl rfl (by decide) rfl rfl rfl rfl (by omega) (pc' := 13) rfl (S' := [.int v5]) rfl ?_
    refine g_if (v5 = 0) rfl (t := 64) rfl rfl (fun c8 => ?_) (fun c8 => ?_)
    · replace h := (if_pos c8).symm.trans h
      refine g_run 1 (pc' := 65) (L' := [some (.ref 526), some (.int x1), some (.int x2), some (.int x3), none]) (S' := [.int (-1)]) (M' := gm g6) rfl ?_
      cases h
      exact g_ret rfl rfl rfl rfl
    · replace h := (if_neg c8).symm.trans h
      refine g_run 8 (pc' := 26) (L' := [some (.ref 526), some (.int x1), some (.int x2), some (.int x3), none]) (S' := [.int (((1 <<< ((gI g6 526 25) &&& 31)) - 1)), .int 0, .int x2]) (M' := gm g6) rfl ?_
      replace h := zB_of h
      obtain ⟨v9, g10, e11, h⟩ := h
      refine g_inv2 (kd := 0) (p_X12_in  e11) rfl rfl rfl (by decide) rfl rfl rfl rfl (by omega) (pc' := 29) rfl (S' := [.int v9]) rfl ?_
      refine g_if (v9 = 0) rfl (t := 64) rfl rfl (fun c12 => ?_) (fun c12 => ?_)
      · replace h := (if_pos c12).symm.trans h
        refine g_run 1 (pc' := 65) (L' := [some (.ref 526), some (.int x1), some (.int x2), some (.int x3), none]) (S' := [.int (-1)]) (M' := gm g10) rfl ?_
        cases h
        exact g_ret rfl rfl rfl rfl
      · replace h := (if_neg c12).symm.trans h
        refine g_run 4 (pc' := 36) (L' := [some (.ref 526), some (.int x1), some (.int x2), some (.int x3), none]) (S' := [.int 0, .int x1, .ref 526, .int x2]) (M' := gm g10) rfl ?_
        replace h := zB_of h
        obtain ⟨v13, g14, e15, h⟩ := h
        refine g_inv2 (kd := 1) (p_X12_of  e15) rfl rfl rfl (by decide) rfl rfl rfl rfl (by omega) (pc' := 39) rfl (S' := [.int v13, .int x2]) rfl ?_
        replace h := zB_of h
        obtain ⟨v16, g17, e18, h⟩ := h
        refine g_inv2 (kd := 0) (p_X12_has  e18) rfl rfl rfl (by decide) rfl rfl rfl rfl (by omega) (pc' := 42) rfl (S' := [.int v16]) rfl ?_
        refine g_if (¬ v16 = 0) rfl (t := 64) rfl rfl (fun c19 => ?_) (fun c19 => ?_)
        · replace h := (if_pos c19).symm.trans h
          refine g_run 1 (pc' := 65) (L' := [some (.ref 526), some (.int x1), some (.int x2), some (.int x3), none]) (S' := [.int (-1)]) (M' := gm g17) rfl ?_
          cases h
          exact g_ret rfl rfl rfl rfl
        · replace h := (if_neg c19).symm.trans h
          refine g_run 2 (pc' := 47) (L' := [some (.ref 526), some (.int x1), some (.int x2), some (.int x3), none]) (S' := [.int x1, .ref 526]) (M' := gm g17) rfl ?_
          replace h := zB_of h
          obtain ⟨v20, g21, e22, h⟩ := h
          refine g_inv2 (kd := 1) (p_X12_lacksOf  e22) rfl rfl rfl (by decide) rfl rfl rfl rfl (by omega) (pc' := 50) rfl (S' := [.int v20]) rfl ?_
          refine g_run 1 (pc' := 52) (L' := [some (.ref 526), some (.int x1), some (.int x2), some (.int x3), none]) (S' := [.int 6, .int v20]) (M' := gm g21) rfl ?_
          refine g_icmp (6 < v20) rfl (t := 64) rfl rfl (fun c23 => ?_) (fun c23 => ?_)
          · replace h := (if_pos c23).symm.trans h
            refine g_run 1 (pc' := 65) (L' := [some (.ref 526), some (.int x1), some (.int x2), some (.int x3), none]) (S' := [.int (-1)]) (M' := gm g21) rfl ?_
            cases h
            exact g_ret rfl rfl rfl rfl
          · replace h := (if_neg c23).symm.trans h
            refine g_run 3 (pc' := 58) (L' := [some (.ref 526), some (.int x1), some (.int x2), some (.int x3), none]) (S' := [.int 1, .int 0, .int x3]) (M' := gm g21) rfl ?_
            replace h := zB_of h
            obtain ⟨v24, g25, e26, h⟩ := h
            refine g_inv2 (kd := 0) (p_X12_in  e26) rfl rfl rfl (by decide) rfl rfl rfl rfl (by omega) (pc' := 61) rfl (S' := [.int v24]) rfl ?_
            refine g_if (¬ v24 = 0) rfl (t := 66) rfl rfl (fun c27 => ?_) (fun c27 => ?_)
            · replace h := (if_pos c27).symm.trans h
              refine g_run 25 (pc' := 102) (L' := [some (.ref 526), some (.int x1), some (.int x2), some (.int x3), some (.int ((gI g25 543 48)))]) (S' := [.int x1, .ref 526, .int 0, .ref 526]) (M' := gm (gsI (gsI (gsI g25 543 48 ((gI g25 543 48) ||| (1 <<< (x1 &&& 31)))) 526 38 (-1)) 526 39 0)) rfl ?_
              replace h := zB_of h
              obtain ⟨v28, g29, e30, h⟩ := h
              refine g_inv2 (kd := 1) (p_X12_lacksOf  e30) rfl rfl rfl (by decide) rfl rfl rfl rfl (by omega) (pc' := 105) rfl (S' := [.int v28, .int 0, .ref 526]) rfl ?_
              refine g_run 3 (pc' := 108) (L' := [some (.ref 526), some (.int x1), some (.int x2), some (.int x3), some (.int ((gI g25 543 48)))]) (S' := [.int 0, .int x2, .int x1, .int v28, .int 0, .ref 526]) (M' := gm g29) rfl ?_
              replace h := zB_of h
              obtain ⟨v31, g32, e33, h⟩ := h
              refine g_inv2 (kd := 1) (p_X12_tryWinds zDp 0 v28 x1 x2 0 g29 _ e33) rfl rfl rfl (by decide) rfl rfl rfl rfl (by show _ ≤ _; unfold zDp; omega) (pc' := 111) rfl (S' := []) rfl ?_
              refine g_run 6 (pc' := 121) (L' := [some (.ref 526), some (.int x1), some (.int x2), some (.int x3), some (.int ((gI g25 543 48)))]) (S' := [.int x3]) (M' := gm (gsI g32 543 48 (gI g25 543 48))) rfl ?_
              refine g_if (¬ x3 = 0) rfl (t := 131) rfl rfl (fun c34 => ?_) (fun c34 => ?_)
              · replace h := (if_pos c34).symm.trans h
                refine g_run 2 (pc' := 135) (L' := [some (.ref 526), some (.int x1), some (.int x2), some (.int x3), some (.int ((gI g25 543 48)))]) (S' := [.int ((gI (gsI g32 543 48 (gI g25 543 48)) 526 39))]) (M' := gm (gsI g32 543 48 (gI g25 543 48))) rfl ?_
                cases h
                exact g_ret rfl rfl rfl rfl
              · replace h := (if_neg c34).symm.trans h
                refine g_run 3 (pc' := 135) (L' := [some (.ref 526), some (.int x1), some (.int x2), some (.int x3), some (.int ((gI g25 543 48)))]) (S' := [.int ((gI (gsI g32 543 48 (gI g25 543 48)) 526 38))]) (M' := gm (gsI g32 543 48 (gI g25 543 48))) rfl ?_
                cases h
                exact g_ret rfl rfl rfl rfl
            · replace h := (if_neg c27).symm.trans h
              refine g_run 1 (pc' := 65) (L' := [some (.ref 526), some (.int x1), some (.int x2), some (.int x3), none]) (S' := [.int (-1)]) (M' := gm g25) rfl ?_
              cases h
              exact g_ret rfl rfl rfl rfl
def f_X12_noted (x1 : Int32) (x2 : Int32) (x3 : Int32) (g : zSg) : Option (Int32 × zSg) := (zB (f_X12_isSecret x1 g) (fun v1 g2 => (if v1 = 0 then some ((-1), g2) else (zB (f_X12_isCell x2 g2) (fun v5 g6 => (if v5 = 0 then some ((-1), g6) else (if ¬ (gI g6 526 43) = 10 then (if zib (gI g6 526 43) 10 = true then (if zib (gI (gsI g6 (549) (ix (gI g6 526 43)) x1) 526 43) 10 = true then (if zib (gI (gsI (gsI g6 (549) (ix (gI g6 526 43)) x1) (550) (ix (gI (gsI g6 (549) (ix (gI g6 526 43)) x1) 526 43)) x2) 526 43) 10 = true ∧ (x3 = 0 ∨ x3 = 1) then some ((gI (gsI (gsI (gsI (gsI g6 (549) (ix (gI g6 526 43)) x1) (550) (ix (gI (gsI g6 (549) (ix (gI g6 526 43)) x1) 526 43)) x2) (551) (ix (gI (gsI (gsI g6 (549) (ix (gI g6 526 43)) x1) (550) (ix (gI (gsI g6 (549) (ix (gI g6 526 43)) x1) 526 43)) x2) 526 43)) x3) 526 43 ((gI (gsI (gsI (gsI g6 (549) (ix (gI g6 526 43)) x1) (550) (ix (gI (gsI g6 (549) (ix (gI g6 526 43)) x1) 526 43)) x2) (551) (ix (gI (gsI (gsI g6 (549) (ix (gI g6 526 43)) x1) (550) (ix (gI (gsI g6 (549) (ix (gI g6 526 43)) x1) 526 43)) x2) 526 43)) x3) 526 43) + 1)) 526 43), (gsI (gsI (gsI (gsI g6 (549) (ix (gI g6 526 43)) x1) (550) (ix (gI (gsI g6 (549) (ix (gI g6 526 43)) x1) 526 43)) x2) (551) (ix (gI (gsI (gsI g6 (549) (ix (gI g6 526 43)) x1) (550) (ix (gI (gsI g6 (549) (ix (gI g6 526 43)) x1) 526 43)) x2) 526 43)) x3) 526 43 ((gI (gsI (gsI (gsI g6 (549) (ix (gI g6 526 43)) x1) (550) (ix (gI (gsI g6 (549) (ix (gI g6 526 43)) x1) 526 43)) x2) (551) (ix (gI (gsI (gsI g6 (549) (ix (gI g6 526 43)) x1) (550) (ix (gI (gsI g6 (549) (ix (gI g6 526 43)) x1) 526 43)) x2) 526 43)) x3) 526 43) + 1))) else none) else none) else none) else some ((-1), g6))))))))
set_option maxRecDepth 100000 in
set_option maxHeartbeats 4000000 in
theorem p_X12_noted {sc : zSc} {hp : zHp} {x1 : Int32} {x2 : Int32} {x3 : Int32} {g : zSg} {r : Int32 × zSg} (h : f_X12_noted x1 x2 x3 g = some r) : zRn sc hp 2 zM_X12_noted [.ref 526, .int x1, .int x2, .int x3] (gm g) (some (.int r.1)) (gm r.2) := by
  intro d hD
  obtain ⟨d, rfl⟩ : ∃ d', d = d' + 1 := ⟨d - 1, by omega⟩
  show zG _ sc hp (zcd zM_X12_noted) 0 [some (.ref 526), some (.int x1), some (.int x2), some (.int x3)] [] (gm g) _
  unfold f_X12_noted at h
  refine g_run 2 (pc' := 2) (L' := [some (.ref 526), some (.int x1), some (.int x2), some (.int x3)]) (S' := [.int x1, .ref 526]) (M' := gm g) rfl ?_
  replace h := zB_of h
  obtain ⟨v1, g2, e3, h⟩ := h
  refine g_inv2 (kd := 1) (p_X12_isSecret  e3) rfl rfl rfl (by decide) rfl rfl rfl rfl (by omega) (pc' := 5) rfl (S' := [.int v1]) rfl ?_
  refine g_if (v1 = 0) rfl (t := 25) rfl rfl (fun c4 => ?_) (fun c4 => ?_)
  · replace h := (if_pos c4).symm.trans h
    refine g_run 1 (pc' := 26) (L' := [some (.ref 526), some (.int x1), some (.int x2), some (.int x3)]) (S' := [.int (-1)]) (M' := gm g2) rfl ?_
    cases h
    exact g_ret rfl rfl rfl rfl
  · replace h := (if_neg c4).symm.trans h
    refine g_run 2 (pc' := 10) (L' := [some (.ref 526), some (.int x1), some (.int x2), some (.int x3)]) (S' := [.int x2, .ref 526]) (M' := gm g2) rfl ?_
    replace h := zB_of h
    obtain ⟨v5, g6, e7, h⟩ := h
    refine g_inv2 (kd := 1) (p_X12_isCell  e7) rfl rfl rfl (by decide) rfl rfl rfl rfl (by omega) (pc' := 13) rfl (S' := [.int v5]) rfl ?_
    refine g_if (v5 = 0) rfl (t := 25) rfl rfl (fun c8 => ?_) (fun c8 => ?_)
    · replace h := (if_pos c8).symm.trans h
      refine g_run 1 (pc' := 26) (L' := [some (.ref 526), some (.int x1), some (.int x2), some (.int x3)]) (S' := [.int (-1)]) (M' := gm g6) rfl ?_
      cases h
      exact g_ret rfl rfl rfl rfl
    · replace h := (if_neg c8).symm.trans h
      refine g_run 3 (pc' := 22) (L' := [some (.ref 526), some (.int x1), some (.int x2), some (.int x3)]) (S' := [.int 10, .int ((gI g6 526 43))]) (M' := gm g6) rfl ?_
      refine g_icmp (¬ (gI g6 526 43) = 10) rfl (t := 27) rfl rfl (fun c9 => ?_) (fun c9 => ?_)
      · replace h := (if_pos c9).symm.trans h
        refine g_run 5 (pc' := 36) (L' := [some (.ref 526), some (.int x1), some (.int x2), some (.int x3)]) (S' := [.int x1, .int ((gI g6 526 43)), .ref 549]) (M' := gm g6) rfl ?_
        by_cases c10 : zib (gI g6 526 43) 10 = true
        case neg => exact nomatch ((if_neg c10).symm.trans h)
        replace h := (if_pos c10).symm.trans h
        refine g_iast rfl (a := 549) rfl c10 ?_
        refine g_run 5 (pc' := 46) (L' := [some (.ref 526), some (.int x1), some (.int x2), some (.int x3)]) (S' := [.int x2, .int ((gI (gsI g6 (549) (ix (gI g6 526 43)) x1) 526 43)), .ref 550]) (M' := gm (gsI g6 (549) (ix (gI g6 526 43)) x1)) rfl ?_
        by_cases c11 : zib (gI (gsI g6 (549) (ix (gI g6 526 43)) x1) 526 43) 10 = true
        case neg => exact nomatch ((if_neg c11).symm.trans h)
        replace h := (if_pos c11).symm.trans h
        refine g_iast rfl (a := 550) rfl c11 ?_
        refine g_run 5 (pc' := 56) (L' := [some (.ref 526), some (.int x1), some (.int x2), some (.int x3)]) (S' := [.int x3, .int ((gI (gsI (gsI g6 (549) (ix (gI g6 526 43)) x1) (550) (ix (gI (gsI g6 (549) (ix (gI g6 526 43)) x1) 526 43)) x2) 526 43)), .ref 551]) (M' := gm (gsI (gsI g6 (549) (ix (gI g6 526 43)) x1) (550) (ix (gI (gsI g6 (549) (ix (gI g6 526 43)) x1) 526 43)) x2)) rfl ?_
        by_cases c12 : zib (gI (gsI (gsI g6 (549) (ix (gI g6 526 43)) x1) (550) (ix (gI (gsI g6 (549) (ix (gI g6 526 43)) x1) 526 43)) x2) 526 43) 10 = true ∧ (x3 = 0 ∨ x3 = 1)
        case neg => exact nomatch ((if_neg c12).symm.trans h)
        replace h := (if_pos c12).symm.trans h
        refine g_bast rfl (a := 551) rfl (And.left c12) (And.right c12) ?_
        refine g_run 8 (pc' := 71) (L' := [some (.ref 526), some (.int x1), some (.int x2), some (.int x3)]) (S' := [.int ((gI (gsI (gsI (gsI (gsI g6 (549) (ix (gI g6 526 43)) x1) (550) (ix (gI (gsI g6 (549) (ix (gI g6 526 43)) x1) 526 43)) x2) (551) (ix (gI (gsI (gsI g6 (549) (ix (gI g6 526 43)) x1) (550) (ix (gI (gsI g6 (549) (ix (gI g6 526 43)) x1) 526 43)) x2) 526 43)) x3) 526 43 ((gI (gsI (gsI (gsI g6 (549) (ix (gI g6 526 43)) x1) (550) (ix (gI (gsI g6 (549) (ix (gI g6 526 43)) x1) 526 43)) x2) (551) (ix (gI (gsI (gsI g6 (549) (ix (gI g6 526 43)) x1) (550) (ix (gI (gsI g6 (549) (ix (gI g6 526 43)) x1) 526 43)) x2) 526 43)) x3) 526 43) + 1)) 526 43))]) (M' := gm (gsI (gsI (gsI (gsI g6 (549) (ix (gI g6 526 43)) x1) (550) (ix (gI (gsI g6 (549) (ix (gI g6 526 43)) x1) 526 43)) x2) (551) (ix (gI (gsI (gsI g6 (549) (ix (gI g6 526 43)) x1) (550) (ix (gI (gsI g6 (549) (ix (gI g6 526 43)) x1) 526 43)) x2) 526 43)) x3) 526 43 ((gI (gsI (gsI (gsI g6 (549) (ix (gI g6 526 43)) x1) (550) (ix (gI (gsI g6 (549) (ix (gI g6 526 43)) x1) 526 43)) x2) (551) (ix (gI (gsI (gsI g6 (549) (ix (gI g6 526 43)) x1) (550) (ix (gI (gsI g6 (549) (ix (gI g6 526 43)) x1) 526 43)) x2) 526 43)) x3) 526 43) + 1))) rfl ?_
        cases h
        exact g_ret rfl rfl rfl rfl
      · replace h := (if_neg c9).symm.trans h
        refine g_run 1 (pc' := 26) (L' := [some (.ref 526), some (.int x1), some (.int x2), some (.int x3)]) (S' := [.int (-1)]) (M' := gm g6) rfl ?_
        cases h
        exact g_ret rfl rfl rfl rfl
def f_X12_smeltTold (x1 : Int32) (x2 : Int32) (x3 : Int32) (g : zSg) : Option (Int32 × zSg) := (zB (f_X12_strengthBy x1 x2 x3 (gI g 540 4) 0 0 (gI g 540 2) g) (fun v1 g2 => (if v1 ≤ 0 then some (0, g2) else some (1, g2))))
set_option maxRecDepth 100000 in
set_option maxHeartbeats 4000000 in
theorem p_X12_smeltTold {sc : zSc} {hp : zHp} {x1 : Int32} {x2 : Int32} {x3 : Int32} {g : zSg} {r : Int32 × zSg} (h : f_X12_smeltTold x1 x2 x3 g = some r) : zRn sc hp 6 zM_X12_smeltTold [.ref 526, .int x1, .int x2, .int x3] (gm g) (some (.int r.1)) (gm r.2) := by
  intro d hD
  obtain ⟨d, rfl⟩ : ∃ d', d = d' + 1 := ⟨d - 1, by omega⟩
  show zG _ sc hp (zcd zM_X12_smeltTold) 0 [some (.ref 526), some (.int x1), some (.int x2), some (.int x3)] [] (gm g) _
  unfold f_X12_smeltTold at h
  refine g_run 14 (pc' := 18) (L' := [some (.ref 526), some (.int x1), some (.int x2), some (.int x3)]) (S' := [.int ((gI g 540 2)), .int 0, .int 0, .int ((gI g 540 4)), .int x3, .int x2, .int x1, .ref 526]) (M' := gm g) rfl ?_
  replace h := zB_of h
  obtain ⟨v1, g2, e3, h⟩ := h
  refine g_inv2 (kd := 1) (p_X12_strengthBy  e3) rfl rfl rfl (by decide) rfl rfl rfl rfl (by omega) (pc' := 21) rfl (S' := [.int v1]) rfl ?_
  refine g_if (v1 ≤ 0) rfl (t := 28) rfl rfl (fun c4 => ?_) (fun c4 => ?_)
  · replace h := (if_pos c4).symm.trans h
    refine g_run 1 (pc' := 29) (L' := [some (.ref 526), some (.int x1), some (.int x2), some (.int x3)]) (S' := [.int 0]) (M' := gm g2) rfl ?_
    cases h
    exact g_ret rfl rfl rfl rfl
  · replace h := (if_neg c4).symm.trans h
    refine g_run 2 (pc' := 29) (L' := [some (.ref 526), some (.int x1), some (.int x2), some (.int x3)]) (S' := [.int 1]) (M' := gm g2) rfl ?_
    cases h
    exact g_ret rfl rfl rfl rfl
def f_X12_isHeavy_43 (k2 : Int32 → Int32 → Int32 → zSg → Option (Int32 × zSg)) (y1 : Int32) (y2 : Int32) (y3 : Int32) (g : zSg) : Option (Int32 × zSg) := k2 (y1) (y2) (y3 + 1) g
set_option maxRecDepth 100000 in
set_option maxHeartbeats 4000000 in
theorem p_X12_isHeavy_43 {sc : zSc} {hp : zHp} {d : Nat} (hD : 7 ≤ d) (k2 : Int32 → Int32 → Int32 → zSg → Option (Int32 × zSg)) (hk2 : ∀ (y1 : Int32) (y2 : Int32) (y3 : Int32) (g : zSg) (r : Int32 × zSg), k2 y1 y2 y3 g = some r → zG d sc hp (zcd zM_X12_isHeavy) 2 [some (.ref 526), some (.int y1), some (.int y2), some (.int y3)] [] (gm g) ((some (.int r.1)), gm r.2)) (y1 : Int32) (y2 : Int32) (y3 : Int32) (g : zSg) (r : Int32 × zSg) (h : f_X12_isHeavy_43 k2 y1 y2 y3 g = some r) : zG d sc hp (zcd zM_X12_isHeavy) 43 [some (.ref 526), some (.int y1), some (.int y2), some (.int y3)] [] (gm g) ((some (.int r.1)), gm r.2) := by
  obtain ⟨d, rfl⟩ : ∃ d', d = d' + 1 := ⟨d - 1, by omega⟩
  unfold f_X12_isHeavy_43 at h
  refine g_run 2 (pc' := 2) (L' := [some (.ref 526), some (.int y1), some (.int y2), some (.int ((y3 + 1)))]) (S' := []) (M' := gm g) rfl ?_
  exact hk2 (y1) (y2) (y3 + 1) g _ h
def fb_X12_isHeavy_2 (kk : Int32 → Int32 → Int32 → zSg → Option (Int32 × zSg)) (y1 : Int32) (y2 : Int32) (y3 : Int32) (g : zSg) : Option (Int32 × zSg) := (if (gI g 526 43) ≤ y3 then some (1, g) else (if zib y3 10 = true then (if ¬ (gI g 549 (ix y3)) = y1 then f_X12_isHeavy_43 kk (y1) (y2) (y3) g else (if zib y3 10 = true then (zB (f_X12_smeltTold y1 (gI g 550 (ix y3)) y2 g) (fun v5 g6 => (if zib y3 10 = true then (if v5 = (gI g6 551 (ix y3)) then f_X12_isHeavy_43 kk (y1) (y2) (y3) g6 else some (0, g6)) else none))) else none)) else none))
def f_X12_isHeavy_2 : Nat → Int32 → Int32 → Int32 → zSg → Option (Int32 × zSg)
  | 0, _, _, _, _ => none
  | n + 1, y1, y2, y3, g => fb_X12_isHeavy_2 (f_X12_isHeavy_2 n) y1 y2 y3 g
set_option maxRecDepth 100000 in
set_option maxHeartbeats 4000000 in
theorem p_X12_isHeavy_2 {sc : zSc} {hp : zHp} {d : Nat} (hD : 7 ≤ d) : ∀ (n : Nat) (y1 : Int32) (y2 : Int32) (y3 : Int32) (g : zSg) (r : Int32 × zSg), f_X12_isHeavy_2 n y1 y2 y3 g = some r → zG d sc hp (zcd zM_X12_isHeavy) 2 [some (.ref 526), some (.int y1), some (.int y2), some (.int y3)] [] (gm g) ((some (.int r.1)), gm r.2) := by
  obtain ⟨d, rfl⟩ : ∃ d', d = d' + 1 := ⟨d - 1, by omega⟩
  intro n
  induction n with
  | zero => intro y1 y2 y3 g r h; cases h
  | succ n ih =>
    intro y1 y2 y3 g r h
    replace h : fb_X12_isHeavy_2 (f_X12_isHeavy_2 n) y1 y2 y3 g = some r := h
    unfold fb_X12_isHeavy_2 at h
    refine g_run 3 (pc' := 7) (L' := [some (.ref 526), some (.int y1), some (.int y2), some (.int y3)]) (S' := [.int ((gI g 526 43)), .int y3]) (M' := gm g) rfl ?_
    refine g_icmp ((gI g 526 43) ≤ y3) rfl (t := 49) rfl rfl (fun c1 => ?_) (fun c1 => ?_)
    · replace h := (if_pos c1).symm.trans h
      refine g_run 1 (pc' := 50) (L' := [some (.ref 526), some (.int y1), some (.int y2), some (.int y3)]) (S' := [.int 1]) (M' := gm g) rfl ?_
      cases h
      exact g_ret rfl rfl rfl rfl
    · replace h := (if_neg c1).symm.trans h
      refine g_run 3 (pc' := 15) (L' := [some (.ref 526), some (.int y1), some (.int y2), some (.int y3)]) (S' := [.int y3, .ref 549]) (M' := gm g) rfl ?_
      by_cases c2 : zib y3 10 = true
      case neg => exact nomatch ((if_neg c2).symm.trans h)
      replace h := (if_pos c2).symm.trans h
      refine g_iald rfl (a := 549) rfl c2 ?_
      refine g_run 1 (pc' := 17) (L' := [some (.ref 526), some (.int y1), some (.int y2), some (.int y3)]) (S' := [.int y1, .int ((gI g 549 (ix y3)))]) (M' := gm g) rfl ?_
      refine g_icmp (¬ (gI g 549 (ix y3)) = y1) rfl (t := 43) rfl rfl (fun c3 => ?_) (fun c3 => ?_)
      · replace h := (if_pos c3).symm.trans h
        exact p_X12_isHeavy_43 hD (f_X12_isHeavy_2 n) ih (y1) (y2) (y3) g _ h
      · replace h := (if_neg c3).symm.trans h
        refine g_run 5 (pc' := 27) (L' := [some (.ref 526), some (.int y1), some (.int y2), some (.int y3)]) (S' := [.int y3, .ref 550, .int y1, .ref 526]) (M' := gm g) rfl ?_
        by_cases c4 : zib y3 10 = true
        case neg => exact nomatch ((if_neg c4).symm.trans h)
        replace h := (if_pos c4).symm.trans h
        refine g_iald rfl (a := 550) rfl c4 ?_
        refine g_run 1 (pc' := 29) (L' := [some (.ref 526), some (.int y1), some (.int y2), some (.int y3)]) (S' := [.int y2, .int ((gI g 550 (ix y3))), .int y1, .ref 526]) (M' := gm g) rfl ?_
        replace h := zB_of h
        obtain ⟨v5, g6, e7, h⟩ := h
        refine g_inv2 (kd := 1) (p_X12_smeltTold  e7) rfl rfl rfl (by decide) rfl rfl rfl rfl (by omega) (pc' := 32) rfl (S' := [.int v5]) rfl ?_
        refine g_run 3 (pc' := 37) (L' := [some (.ref 526), some (.int y1), some (.int y2), some (.int y3)]) (S' := [.int y3, .ref 551, .int v5]) (M' := gm g6) rfl ?_
        by_cases c8 : zib y3 10 = true
        case neg => exact nomatch ((if_neg c8).symm.trans h)
        replace h := (if_pos c8).symm.trans h
        refine g_bald rfl (a := 551) rfl c8 ?_
        refine g_icmp (v5 = (gI g6 551 (ix y3))) rfl (t := 43) rfl rfl (fun c9 => ?_) (fun c9 => ?_)
        · replace h := (if_pos c9).symm.trans h
          exact p_X12_isHeavy_43 hD (f_X12_isHeavy_2 n) ih (y1) (y2) (y3) g6 _ h
        · replace h := (if_neg c9).symm.trans h
          refine g_run 1 (pc' := 42) (L' := [some (.ref 526), some (.int y1), some (.int y2), some (.int y3)]) (S' := [.int 0]) (M' := gm g6) rfl ?_
          cases h
          exact g_ret rfl rfl rfl rfl
def f_X12_isHeavy (x1 : Int32) (x2 : Int32) (g : zSg) : Option (Int32 × zSg) := f_X12_isHeavy_2 zFu (x1) (x2) (0) g
set_option maxRecDepth 100000 in
set_option maxHeartbeats 4000000 in
theorem p_X12_isHeavy {sc : zSc} {hp : zHp} {x1 : Int32} {x2 : Int32} {g : zSg} {r : Int32 × zSg} (h : f_X12_isHeavy x1 x2 g = some r) : zRn sc hp 7 zM_X12_isHeavy [.ref 526, .int x1, .int x2] (gm g) (some (.int r.1)) (gm r.2) := by
  intro d hD
  obtain ⟨d, rfl⟩ : ∃ d', d = d' + 1 := ⟨d - 1, by omega⟩
  show zG _ sc hp (zcd zM_X12_isHeavy) 0 [some (.ref 526), some (.int x1), some (.int x2), none] [] (gm g) _
  unfold f_X12_isHeavy at h
  refine g_run 2 (pc' := 2) (L' := [some (.ref 526), some (.int x1), some (.int x2), some (.int 0)]) (S' := []) (M' := gm g) rfl ?_
  exact p_X12_isHeavy_2 hD zFu (x1) (x2) (0) g _ h
def f_X12_heavies_54 (y2 : Int32) (y3 : Int32) (g : zSg) : Option (Int32 × zSg) := (if ¬ y2 = (-1) then some ((-1), g) else some (y3, g))
set_option maxRecDepth 100000 in
set_option maxHeartbeats 4000000 in
theorem p_X12_heavies_54 {sc : zSc} {hp : zHp} {d : Nat} (hD : 8 ≤ d) (y2 : Int32) (y3 : Int32) (g : zSg) (r : Int32 × zSg) (h : f_X12_heavies_54 y2 y3 g = some r) : zG d sc hp (zcd zM_X12_heavies) 54 [none, none, some (.int y2), some (.int y3), none] [] (gm g) ((some (.int r.1)), gm r.2) := by
  obtain ⟨d, rfl⟩ : ∃ d', d = d' + 1 := ⟨d - 1, by omega⟩
  unfold f_X12_heavies_54 at h
  refine g_run 2 (pc' := 56) (L' := [none, none, some (.int y2), some (.int y3), none]) (S' := [.int (-1), .int y2]) (M' := gm g) rfl ?_
  refine g_icmp (¬ y2 = (-1)) rfl (t := 63) rfl rfl (fun c1 => ?_) (fun c1 => ?_)
  · replace h := (if_pos c1).symm.trans h
    refine g_run 1 (pc' := 64) (L' := [none, none, some (.int y2), some (.int y3), none]) (S' := [.int (-1)]) (M' := gm g) rfl ?_
    cases h
    exact g_ret rfl rfl rfl rfl
  · replace h := (if_neg c1).symm.trans h
    refine g_run 2 (pc' := 64) (L' := [none, none, some (.int y2), some (.int y3), none]) (S' := [.int y3]) (M' := gm g) rfl ?_
    cases h
    exact g_ret rfl rfl rfl rfl
def f_X12_heavies_48 (k20 : Int32 → Int32 → Int32 → Int32 → zSg → Option (Int32 × zSg)) (y1 : Int32) (y2 : Int32) (y3 : Int32) (y4 : Int32) (g : zSg) : Option (Int32 × zSg) := k20 (y1) (y2) (y3) (y4 + 1) g
set_option maxRecDepth 100000 in
set_option maxHeartbeats 4000000 in
theorem p_X12_heavies_48 {sc : zSc} {hp : zHp} {d : Nat} (hD : 8 ≤ d) (k20 : Int32 → Int32 → Int32 → Int32 → zSg → Option (Int32 × zSg)) (hk20 : ∀ (y1 : Int32) (y2 : Int32) (y3 : Int32) (y4 : Int32) (g : zSg) (r : Int32 × zSg), k20 y1 y2 y3 y4 g = some r → zG d sc hp (zcd zM_X12_heavies) 20 [some (.ref 526), some (.int y1), some (.int y2), some (.int y3), some (.int y4)] [] (gm g) ((some (.int r.1)), gm r.2)) (y1 : Int32) (y2 : Int32) (y3 : Int32) (y4 : Int32) (g : zSg) (r : Int32 × zSg) (h : f_X12_heavies_48 k20 y1 y2 y3 y4 g = some r) : zG d sc hp (zcd zM_X12_heavies) 48 [some (.ref 526), some (.int y1), some (.int y2), some (.int y3), some (.int y4)] [] (gm g) ((some (.int r.1)), gm r.2) := by
  obtain ⟨d, rfl⟩ : ∃ d', d = d' + 1 := ⟨d - 1, by omega⟩
  unfold f_X12_heavies_48 at h
  refine g_run 2 (pc' := 20) (L' := [some (.ref 526), some (.int y1), some (.int y2), some (.int y3), some (.int ((y4 + 1)))]) (S' := []) (M' := gm g) rfl ?_
  exact hk20 (y1) (y2) (y3) (y4 + 1) g _ h
def fb_X12_heavies_20 (kk : Int32 → Int32 → Int32 → Int32 → zSg → Option (Int32 × zSg)) (y1 : Int32) (y2 : Int32) (y3 : Int32) (y4 : Int32) (g : zSg) : Option (Int32 × zSg) := (if 9 < y4 then f_X12_heavies_54 (y2) (y3) g else (zB (f_X12_isHeavy y1 y4 g) (fun v2 g3 => (if v2 = 0 then f_X12_heavies_48 kk (y1) (y2) (y3) (y4) g3 else (if ¬ y3 = y2 then f_X12_heavies_48 kk (y1) (y2) (y3 + 1) (y4) g3 else some (y4, g3))))))
def f_X12_heavies_20 : Nat → Int32 → Int32 → Int32 → Int32 → zSg → Option (Int32 × zSg)
  | 0, _, _, _, _, _ => none
  | n + 1, y1, y2, y3, y4, g => fb_X12_heavies_20 (f_X12_heavies_20 n) y1 y2 y3 y4 g
set_option maxRecDepth 100000 in
set_option maxHeartbeats 4000000 in
theorem p_X12_heavies_20 {sc : zSc} {hp : zHp} {d : Nat} (hD : 8 ≤ d) : ∀ (n : Nat) (y1 : Int32) (y2 : Int32) (y3 : Int32) (y4 : Int32) (g : zSg) (r : Int32 × zSg), f_X12_heavies_20 n y1 y2 y3 y4 g = some r → zG d sc hp (zcd zM_X12_heavies) 20 [some (.ref 526), some (.int y1), some (.int y2), some (.int y3), some (.int y4)] [] (gm g) ((some (.int r.1)), gm r.2) := by
  obtain ⟨d, rfl⟩ : ∃ d', d = d' + 1 := ⟨d - 1, by omega⟩
  intro n
  induction n with
  | zero => intro y1 y2 y3 y4 g r h; cases h
  | succ n ih =>
    intro y1 y2 y3 y4 g r h
    replace h : fb_X12_heavies_20 (f_X12_heavies_20 n) y1 y2 y3 y4 g = some r := h
    unfold fb_X12_heavies_20 at h
    refine g_run 2 (pc' := 24) (L' := [some (.ref 526), some (.int y1), some (.int y2), some (.int y3), some (.int y4)]) (S' := [.int 9, .int y4]) (M' := gm g) rfl ?_
    refine g_icmp (9 < y4) rfl (t := 54) rfl rfl (fun c1 => ?_) (fun c1 => ?_)
    · replace h := (if_pos c1).symm.trans h
      refine g_forget (L' := [none, none, some (.int y2), some (.int y3), none]) (And.intro rfl (And.intro rfl True.intro)) ?_
      exact p_X12_heavies_54 hD (y2) (y3) g _ h
    · replace h := (if_neg c1).symm.trans h
      refine g_run 3 (pc' := 31) (L' := [some (.ref 526), some (.int y1), some (.int y2), some (.int y3), some (.int y4)]) (S' := [.int y4, .int y1, .ref 526]) (M' := gm g) rfl ?_
      replace h := zB_of h
      obtain ⟨v2, g3, e4, h⟩ := h
      refine g_inv2 (kd := 1) (p_X12_isHeavy  e4) rfl rfl rfl (by decide) rfl rfl rfl rfl (by omega) (pc' := 34) rfl (S' := [.int v2]) rfl ?_
      refine g_if (v2 = 0) rfl (t := 48) rfl rfl (fun c5 => ?_) (fun c5 => ?_)
      · replace h := (if_pos c5).symm.trans h
        exact p_X12_heavies_48 hD (f_X12_heavies_20 n) ih (y1) (y2) (y3) (y4) g3 _ h
      · replace h := (if_neg c5).symm.trans h
        refine g_run 2 (pc' := 39) (L' := [some (.ref 526), some (.int y1), some (.int y2), some (.int y3), some (.int y4)]) (S' := [.int y2, .int y3]) (M' := gm g3) rfl ?_
        refine g_icmp (¬ y3 = y2) rfl (t := 45) rfl rfl (fun c6 => ?_) (fun c6 => ?_)
        · replace h := (if_pos c6).symm.trans h
          refine g_run 1 (pc' := 48) (L' := [some (.ref 526), some (.int y1), some (.int y2), some (.int ((y3 + 1))), some (.int y4)]) (S' := []) (M' := gm g3) rfl ?_
          exact p_X12_heavies_48 hD (f_X12_heavies_20 n) ih (y1) (y2) (y3 + 1) (y4) g3 _ h
        · replace h := (if_neg c6).symm.trans h
          refine g_run 1 (pc' := 44) (L' := [some (.ref 526), some (.int y1), some (.int y2), some (.int y3), some (.int y4)]) (S' := [.int y4]) (M' := gm g3) rfl ?_
          cases h
          exact g_ret rfl rfl rfl rfl
def f_X12_heavies (x1 : Int32) (x2 : Int32) (g : zSg) : Option (Int32 × zSg) := (zB (f_X12_isSecret x1 g) (fun v1 g2 => (if v1 = 0 then some ((-1), g2) else (if (-1) ≤ x2 then f_X12_heavies_20 zFu (x1) (x2) (0) (1) g2 else some ((-1), g2)))))
set_option maxRecDepth 100000 in
set_option maxHeartbeats 4000000 in
theorem p_X12_heavies {sc : zSc} {hp : zHp} {x1 : Int32} {x2 : Int32} {g : zSg} {r : Int32 × zSg} (h : f_X12_heavies x1 x2 g = some r) : zRn sc hp 8 zM_X12_heavies [.ref 526, .int x1, .int x2] (gm g) (some (.int r.1)) (gm r.2) := by
  intro d hD
  obtain ⟨d, rfl⟩ : ∃ d', d = d' + 1 := ⟨d - 1, by omega⟩
  show zG _ sc hp (zcd zM_X12_heavies) 0 [some (.ref 526), some (.int x1), some (.int x2), none, none] [] (gm g) _
  unfold f_X12_heavies at h
  refine g_run 2 (pc' := 2) (L' := [some (.ref 526), some (.int x1), some (.int x2), none, none]) (S' := [.int x1, .ref 526]) (M' := gm g) rfl ?_
  replace h := zB_of h
  obtain ⟨v1, g2, e3, h⟩ := h
  refine g_inv2 (kd := 1) (p_X12_isSecret  e3) rfl rfl rfl (by decide) rfl rfl rfl rfl (by omega) (pc' := 5) rfl (S' := [.int v1]) rfl ?_
  refine g_if (v1 = 0) rfl (t := 13) rfl rfl (fun c4 => ?_) (fun c4 => ?_)
  · replace h := (if_pos c4).symm.trans h
    refine g_run 1 (pc' := 14) (L' := [some (.ref 526), some (.int x1), some (.int x2), none, none]) (S' := [.int (-1)]) (M' := gm g2) rfl ?_
    cases h
    exact g_ret rfl rfl rfl rfl
  · replace h := (if_neg c4).symm.trans h
    refine g_run 2 (pc' := 10) (L' := [some (.ref 526), some (.int x1), some (.int x2), none, none]) (S' := [.int (-1), .int x2]) (M' := gm g2) rfl ?_
    refine g_icmp ((-1) ≤ x2) rfl (t := 15) rfl rfl (fun c5 => ?_) (fun c5 => ?_)
    · replace h := (if_pos c5).symm.trans h
      refine g_run 4 (pc' := 20) (L' := [some (.ref 526), some (.int x1), some (.int x2), some (.int 0), some (.int 1)]) (S' := []) (M' := gm g2) rfl ?_
      exact p_X12_heavies_20 hD zFu (x1) (x2) (0) (1) g2 _ h
    · replace h := (if_neg c5).symm.trans h
      refine g_run 1 (pc' := 14) (L' := [some (.ref 526), some (.int x1), some (.int x2), none, none]) (S' := [.int (-1)]) (M' := gm g2) rfl ?_
      cases h
      exact g_ret rfl rfl rfl rfl
