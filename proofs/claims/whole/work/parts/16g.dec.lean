/-! ===== decompiled functions (by program), 6 ===== -/
def f_X12_ask_114 (k27 : Int32 → Int32 → Int32 → Int32 → zSg → Option (Int32 × zSg)) (y1 : Int32) (y2 : Int32) (y3 : Int32) (y4 : Int32) (g : zSg) : Option (Int32 × zSg) := k27 (y1) (y2) (y3) (y4 + 1) g
set_option maxRecDepth 100000 in
set_option maxHeartbeats 4000000 in
theorem p_X12_ask_114 {sc : zSc} {hp : zHp} {d : Nat} (hD : 9 ≤ d) (k27 : Int32 → Int32 → Int32 → Int32 → zSg → Option (Int32 × zSg)) (hk27 : ∀ (y1 : Int32) (y2 : Int32) (y3 : Int32) (y4 : Int32) (g : zSg) (r : Int32 × zSg), k27 y1 y2 y3 y4 g = some r → zG d sc hp (zcd zM_X12_ask) 27 [some (.ref 526), some (.int y1), some (.int y2), some (.int y3), some (.int y4), none, none] [] (gm g) ((some (.int r.1)), gm r.2)) (y1 : Int32) (y2 : Int32) (y3 : Int32) (y4 : Int32) (g : zSg) (r : Int32 × zSg) (h : f_X12_ask_114 k27 y1 y2 y3 y4 g = some r) : zG d sc hp (zcd zM_X12_ask) 114 [some (.ref 526), some (.int y1), some (.int y2), some (.int y3), some (.int y4), none, none] [] (gm g) ((some (.int r.1)), gm r.2) := by
  obtain ⟨d, rfl⟩ : ∃ d', d = d' + 1 := ⟨d - 1, by omega⟩
  unfold f_X12_ask_114 at h
  refine g_run 2 (pc' := 27) (L' := [some (.ref 526), some (.int y1), some (.int y2), some (.int y3), some (.int ((y4 + 1))), none, none]) (S' := []) (M' := gm g) rfl ?_
  exact hk27 (y1) (y2) (y3) (y4 + 1) g _ h
def f_X12_ask_105 (k27 : Int32 → Int32 → Int32 → Int32 → zSg → Option (Int32 × zSg)) (y1 : Int32) (y4 : Int32) (y5 : Int32) (g : zSg) : Option (Int32 × zSg) := f_X12_ask_114 k27 (y1) (y4) (iabs y5) (y4) g
set_option maxRecDepth 100000 in
set_option maxHeartbeats 4000000 in
theorem p_X12_ask_105 {sc : zSc} {hp : zHp} {d : Nat} (hD : 9 ≤ d) (k27 : Int32 → Int32 → Int32 → Int32 → zSg → Option (Int32 × zSg)) (hk27 : ∀ (y1 : Int32) (y2 : Int32) (y3 : Int32) (y4 : Int32) (g : zSg) (r : Int32 × zSg), k27 y1 y2 y3 y4 g = some r → zG d sc hp (zcd zM_X12_ask) 27 [some (.ref 526), some (.int y1), some (.int y2), some (.int y3), some (.int y4), none, none] [] (gm g) ((some (.int r.1)), gm r.2)) (y1 : Int32) (y4 : Int32) (y5 : Int32) (g : zSg) (r : Int32 × zSg) (h : f_X12_ask_105 k27 y1 y4 y5 g = some r) : zG d sc hp (zcd zM_X12_ask) 105 [some (.ref 526), some (.int y1), none, none, some (.int y4), some (.int y5), none] [] (gm g) ((some (.int r.1)), gm r.2) := by
  obtain ⟨d, rfl⟩ : ∃ d', d = d' + 1 := ⟨d - 1, by omega⟩
  unfold f_X12_ask_105 at h
  refine g_run 3 (pc' := 110) (L' := [some (.ref 526), some (.int y1), some (.int y4), none, some (.int y4), some (.int y5), none]) (S' := [.int y5]) (M' := gm g) rfl ?_
  refine g_spec2 (kd := 0) rfl rfl rfl (by decide) rfl (jd := 1003) rfl (by decide) rfl (Or.inl (by decide)) (S' := [.int ((iabs y5))]) (M' := gm g) rfl rfl (pc' := 113) rfl ?_
  refine g_run 1 (pc' := 114) (L' := [some (.ref 526), some (.int y1), some (.int y4), some (.int ((iabs y5))), some (.int y4), some (.int y5), none]) (S' := []) (M' := gm g) rfl ?_
  refine g_forget (L' := [some (.ref 526), some (.int y1), some (.int y4), some (.int ((iabs y5))), some (.int y4), none, none]) (And.intro rfl (And.intro rfl (And.intro rfl (And.intro rfl (And.intro rfl True.intro))))) ?_
  exact p_X12_ask_114 hD k27 hk27 (y1) (y4) (iabs y5) (y4) g _ h
def f_X12_ask_91 (k27 : Int32 → Int32 → Int32 → Int32 → zSg → Option (Int32 × zSg)) (y1 : Int32) (y2 : Int32) (y3 : Int32) (y4 : Int32) (y5 : Int32) (g : zSg) : Option (Int32 × zSg) := (if y2 = (-1) then f_X12_ask_105 k27 (y1) (y4) (y5) g else (if y3 ≤ (iabs y5) then f_X12_ask_114 k27 (y1) (y2) (y3) (y4) g else f_X12_ask_105 k27 (y1) (y4) (y5) g))
set_option maxRecDepth 100000 in
set_option maxHeartbeats 4000000 in
theorem p_X12_ask_91 {sc : zSc} {hp : zHp} {d : Nat} (hD : 9 ≤ d) (k27 : Int32 → Int32 → Int32 → Int32 → zSg → Option (Int32 × zSg)) (hk27 : ∀ (y1 : Int32) (y2 : Int32) (y3 : Int32) (y4 : Int32) (g : zSg) (r : Int32 × zSg), k27 y1 y2 y3 y4 g = some r → zG d sc hp (zcd zM_X12_ask) 27 [some (.ref 526), some (.int y1), some (.int y2), some (.int y3), some (.int y4), none, none] [] (gm g) ((some (.int r.1)), gm r.2)) (y1 : Int32) (y2 : Int32) (y3 : Int32) (y4 : Int32) (y5 : Int32) (g : zSg) (r : Int32 × zSg) (h : f_X12_ask_91 k27 y1 y2 y3 y4 y5 g = some r) : zG d sc hp (zcd zM_X12_ask) 91 [some (.ref 526), some (.int y1), some (.int y2), some (.int y3), some (.int y4), some (.int y5), none] [] (gm g) ((some (.int r.1)), gm r.2) := by
  obtain ⟨d, rfl⟩ : ∃ d', d = d' + 1 := ⟨d - 1, by omega⟩
  unfold f_X12_ask_91 at h
  refine g_run 2 (pc' := 93) (L' := [some (.ref 526), some (.int y1), some (.int y2), some (.int y3), some (.int y4), some (.int y5), none]) (S' := [.int (-1), .int y2]) (M' := gm g) rfl ?_
  refine g_icmp (y2 = (-1)) rfl (t := 105) rfl rfl (fun c1 => ?_) (fun c1 => ?_)
  · replace h := (if_pos c1).symm.trans h
    refine g_forget (L' := [some (.ref 526), some (.int y1), none, none, some (.int y4), some (.int y5), none]) (And.intro rfl (And.intro rfl (And.intro rfl (And.intro rfl True.intro)))) ?_
    exact p_X12_ask_105 hD k27 hk27 (y1) (y4) (y5) g _ h
  · replace h := (if_neg c1).symm.trans h
    refine g_run 1 (pc' := 98) (L' := [some (.ref 526), some (.int y1), some (.int y2), some (.int y3), some (.int y4), some (.int y5), none]) (S' := [.int y5]) (M' := gm g) rfl ?_
    refine g_spec2 (kd := 0) rfl rfl rfl (by decide) rfl (jd := 1003) rfl (by decide) rfl (Or.inl (by decide)) (S' := [.int ((iabs y5))]) (M' := gm g) rfl rfl (pc' := 101) rfl ?_
    refine g_run 1 (pc' := 102) (L' := [some (.ref 526), some (.int y1), some (.int y2), some (.int y3), some (.int y4), some (.int y5), none]) (S' := [.int y3, .int ((iabs y5))]) (M' := gm g) rfl ?_
    refine g_icmp (y3 ≤ (iabs y5)) rfl (t := 114) rfl rfl (fun c2 => ?_) (fun c2 => ?_)
    · replace h := (if_pos c2).symm.trans h
      refine g_forget (L' := [some (.ref 526), some (.int y1), some (.int y2), some (.int y3), some (.int y4), none, none]) (And.intro rfl (And.intro rfl (And.intro rfl (And.intro rfl (And.intro rfl True.intro))))) ?_
      exact p_X12_ask_114 hD k27 hk27 (y1) (y2) (y3) (y4) g _ h
    · replace h := (if_neg c2).symm.trans h
      refine g_forget (L' := [some (.ref 526), some (.int y1), none, none, some (.int y4), some (.int y5), none]) (And.intro rfl (And.intro rfl (And.intro rfl (And.intro rfl True.intro)))) ?_
      exact p_X12_ask_105 hD k27 hk27 (y1) (y4) (y5) g _ h
def f_X12_ask_82 (k27 : Int32 → Int32 → Int32 → Int32 → zSg → Option (Int32 × zSg)) (k42 : Int32 → Int32 → Int32 → Int32 → Int32 → Int32 → zSg → Option (Int32 × zSg)) (y1 : Int32) (y2 : Int32) (y3 : Int32) (y4 : Int32) (y6 : Int32) (s0 : Int32) (s1 : Int32) (g : zSg) : Option (Int32 × zSg) := k42 (y1) (y2) (y3) (y4) (s1 + s0) (y6 + 1) g
set_option maxRecDepth 100000 in
set_option maxHeartbeats 4000000 in
theorem p_X12_ask_82 {sc : zSc} {hp : zHp} {d : Nat} (hD : 9 ≤ d) (k27 : Int32 → Int32 → Int32 → Int32 → zSg → Option (Int32 × zSg)) (hk27 : ∀ (y1 : Int32) (y2 : Int32) (y3 : Int32) (y4 : Int32) (g : zSg) (r : Int32 × zSg), k27 y1 y2 y3 y4 g = some r → zG d sc hp (zcd zM_X12_ask) 27 [some (.ref 526), some (.int y1), some (.int y2), some (.int y3), some (.int y4), none, none] [] (gm g) ((some (.int r.1)), gm r.2)) (k42 : Int32 → Int32 → Int32 → Int32 → Int32 → Int32 → zSg → Option (Int32 × zSg)) (hk42 : ∀ (y1 : Int32) (y2 : Int32) (y3 : Int32) (y4 : Int32) (y5 : Int32) (y6 : Int32) (g : zSg) (r : Int32 × zSg), k42 y1 y2 y3 y4 y5 y6 g = some r → zG d sc hp (zcd zM_X12_ask) 42 [some (.ref 526), some (.int y1), some (.int y2), some (.int y3), some (.int y4), some (.int y5), some (.int y6)] [] (gm g) ((some (.int r.1)), gm r.2)) (y1 : Int32) (y2 : Int32) (y3 : Int32) (y4 : Int32) (y6 : Int32) (s0 : Int32) (s1 : Int32) (g : zSg) (r : Int32 × zSg) (h : f_X12_ask_82 k27 k42 y1 y2 y3 y4 y6 s0 s1 g = some r) : zG d sc hp (zcd zM_X12_ask) 82 [some (.ref 526), some (.int y1), some (.int y2), some (.int y3), some (.int y4), none, some (.int y6)] [.int s0, .int s1] (gm g) ((some (.int r.1)), gm r.2) := by
  obtain ⟨d, rfl⟩ : ∃ d', d = d' + 1 := ⟨d - 1, by omega⟩
  unfold f_X12_ask_82 at h
  refine g_run 4 (pc' := 42) (L' := [some (.ref 526), some (.int y1), some (.int y2), some (.int y3), some (.int y4), some (.int ((s1 + s0))), some (.int ((y6 + 1)))]) (S' := []) (M' := gm g) rfl ?_
  exact hk42 (y1) (y2) (y3) (y4) (s1 + s0) (y6 + 1) g _ h
def fb_X12_ask_42 (k27 : Int32 → Int32 → Int32 → Int32 → zSg → Option (Int32 × zSg)) (kk : Int32 → Int32 → Int32 → Int32 → Int32 → Int32 → zSg → Option (Int32 × zSg)) (y1 : Int32) (y2 : Int32) (y3 : Int32) (y4 : Int32) (y5 : Int32) (y6 : Int32) (g : zSg) : Option (Int32 × zSg) := (if 9 < y6 then f_X12_ask_91 k27 (y1) (y2) (y3) (y4) (y5) g else (zB (f_X12_isHeavy y1 y6 g) (fun v2 g3 => (if ¬ v2 = 0 then (zB (f_X12_smeltTold y1 y4 y6 g3) (fun v6 g7 => (if v6 = 0 then f_X12_ask_82 k27 kk (y1) (y2) (y3) (y4) (y6) (-1) (y5) g7 else f_X12_ask_82 k27 kk (y1) (y2) (y3) (y4) (y6) (1) (y5) g7))) else f_X12_ask_82 k27 kk (y1) (y2) (y3) (y4) (y6) (0) (y5) g3))))
def f_X12_ask_42 (k27 : Int32 → Int32 → Int32 → Int32 → zSg → Option (Int32 × zSg)) : Nat → Int32 → Int32 → Int32 → Int32 → Int32 → Int32 → zSg → Option (Int32 × zSg)
  | 0, _, _, _, _, _, _, _ => none
  | n + 1, y1, y2, y3, y4, y5, y6, g => fb_X12_ask_42 k27 (f_X12_ask_42 k27 n) y1 y2 y3 y4 y5 y6 g
set_option maxRecDepth 100000 in
set_option maxHeartbeats 4000000 in
theorem p_X12_ask_42 {sc : zSc} {hp : zHp} {d : Nat} (hD : 9 ≤ d) (k27 : Int32 → Int32 → Int32 → Int32 → zSg → Option (Int32 × zSg)) (hk27 : ∀ (y1 : Int32) (y2 : Int32) (y3 : Int32) (y4 : Int32) (g : zSg) (r : Int32 × zSg), k27 y1 y2 y3 y4 g = some r → zG d sc hp (zcd zM_X12_ask) 27 [some (.ref 526), some (.int y1), some (.int y2), some (.int y3), some (.int y4), none, none] [] (gm g) ((some (.int r.1)), gm r.2)) : ∀ (n : Nat) (y1 : Int32) (y2 : Int32) (y3 : Int32) (y4 : Int32) (y5 : Int32) (y6 : Int32) (g : zSg) (r : Int32 × zSg), f_X12_ask_42 k27 n y1 y2 y3 y4 y5 y6 g = some r → zG d sc hp (zcd zM_X12_ask) 42 [some (.ref 526), some (.int y1), some (.int y2), some (.int y3), some (.int y4), some (.int y5), some (.int y6)] [] (gm g) ((some (.int r.1)), gm r.2) := by
  obtain ⟨d, rfl⟩ : ∃ d', d = d' + 1 := ⟨d - 1, by omega⟩
  intro n
  induction n with
  | zero => intro y1 y2 y3 y4 y5 y6 g r h; cases h
  | succ n ih =>
    intro y1 y2 y3 y4 y5 y6 g r h
    replace h : fb_X12_ask_42 k27 (f_X12_ask_42 k27 n) y1 y2 y3 y4 y5 y6 g = some r := h
    unfold fb_X12_ask_42 at h
    refine g_run 2 (pc' := 46) (L' := [some (.ref 526), some (.int y1), some (.int y2), some (.int y3), some (.int y4), some (.int y5), some (.int y6)]) (S' := [.int 9, .int y6]) (M' := gm g) rfl ?_
    refine g_icmp (9 < y6) rfl (t := 91) rfl rfl (fun c1 => ?_) (fun c1 => ?_)
    · replace h := (if_pos c1).symm.trans h
      refine g_forget (L' := [some (.ref 526), some (.int y1), some (.int y2), some (.int y3), some (.int y4), some (.int y5), none]) (And.intro rfl (And.intro rfl (And.intro rfl (And.intro rfl (And.intro rfl (And.intro rfl True.intro)))))) ?_
      exact p_X12_ask_91 hD k27 hk27 (y1) (y2) (y3) (y4) (y5) g _ h
    · replace h := (if_neg c1).symm.trans h
      refine g_run 4 (pc' := 55) (L' := [some (.ref 526), some (.int y1), some (.int y2), some (.int y3), some (.int y4), some (.int y5), some (.int y6)]) (S' := [.int y6, .int y1, .ref 526, .int y5]) (M' := gm g) rfl ?_
      replace h := zB_of h
      obtain ⟨v2, g3, e4, h⟩ := h
      refine g_inv2 (kd := 1) (p_X12_isHeavy  e4) rfl rfl rfl (by decide) rfl rfl rfl rfl (by omega) (pc' := 58) rfl (S' := [.int v2, .int y5]) rfl ?_
      refine g_if (¬ v2 = 0) rfl (t := 65) rfl rfl (fun c5 => ?_) (fun c5 => ?_)
      · replace h := (if_pos c5).symm.trans h
        refine g_run 4 (pc' := 71) (L' := [some (.ref 526), some (.int y1), some (.int y2), some (.int y3), some (.int y4), some (.int y5), some (.int y6)]) (S' := [.int y6, .int y4, .int y1, .ref 526, .int y5]) (M' := gm g3) rfl ?_
        replace h := zB_of h
        obtain ⟨v6, g7, e8, h⟩ := h
        refine g_inv2 (kd := 1) (p_X12_smeltTold  e8) rfl rfl rfl (by decide) rfl rfl rfl rfl (by omega) (pc' := 74) rfl (S' := [.int v6, .int y5]) rfl ?_
        refine g_if (v6 = 0) rfl (t := 81) rfl rfl (fun c9 => ?_) (fun c9 => ?_)
        · replace h := (if_pos c9).symm.trans h
          refine g_run 1 (pc' := 82) (L' := [some (.ref 526), some (.int y1), some (.int y2), some (.int y3), some (.int y4), some (.int y5), some (.int y6)]) (S' := [.int (-1), .int y5]) (M' := gm g7) rfl ?_
          refine g_forget (L' := [some (.ref 526), some (.int y1), some (.int y2), some (.int y3), some (.int y4), none, some (.int y6)]) (And.intro rfl (And.intro rfl (And.intro rfl (And.intro rfl (And.intro rfl (And.intro rfl True.intro)))))) ?_
          exact p_X12_ask_82 hD k27 hk27 (f_X12_ask_42 k27 n) ih (y1) (y2) (y3) (y4) (y6) (-1) (y5) g7 _ h
        · replace h := (if_neg c9).symm.trans h
          refine g_run 2 (pc' := 82) (L' := [some (.ref 526), some (.int y1), some (.int y2), some (.int y3), some (.int y4), some (.int y5), some (.int y6)]) (S' := [.int 1, .int y5]) (M' := gm g7) rfl ?_
          refine g_forget (L' := [some (.ref 526), some (.int y1), some (.int y2), some (.int y3), some (.int y4), none, some (.int y6)]) (And.intro rfl (And.intro rfl (And.intro rfl (And.intro rfl (And.intro rfl (And.intro rfl True.intro)))))) ?_
          exact p_X12_ask_82 hD k27 hk27 (f_X12_ask_42 k27 n) ih (y1) (y2) (y3) (y4) (y6) (1) (y5) g7 _ h
      · replace h := (if_neg c5).symm.trans h
        refine g_run 2 (pc' := 82) (L' := [some (.ref 526), some (.int y1), some (.int y2), some (.int y3), some (.int y4), some (.int y5), some (.int y6)]) (S' := [.int 0, .int y5]) (M' := gm g3) rfl ?_
        refine g_forget (L' := [some (.ref 526), some (.int y1), some (.int y2), some (.int y3), some (.int y4), none, some (.int y6)]) (And.intro rfl (And.intro rfl (And.intro rfl (And.intro rfl (And.intro rfl (And.intro rfl True.intro)))))) ?_
        exact p_X12_ask_82 hD k27 hk27 (f_X12_ask_42 k27 n) ih (y1) (y2) (y3) (y4) (y6) (0) (y5) g3 _ h
def fb_X12_ask_27 (kk : Int32 → Int32 → Int32 → Int32 → zSg → Option (Int32 × zSg)) (y1 : Int32) (y2 : Int32) (y3 : Int32) (y4 : Int32) (g : zSg) : Option (Int32 × zSg) := (if (gI g 526 27) ≤ y4 then some (y2, g) else f_X12_ask_42 kk zFu (y1) (y2) (y3) (y4) (0) (1) g)
def f_X12_ask_27 : Nat → Int32 → Int32 → Int32 → Int32 → zSg → Option (Int32 × zSg)
  | 0, _, _, _, _, _ => none
  | n + 1, y1, y2, y3, y4, g => fb_X12_ask_27 (f_X12_ask_27 n) y1 y2 y3 y4 g
set_option maxRecDepth 100000 in
set_option maxHeartbeats 4000000 in
theorem p_X12_ask_27 {sc : zSc} {hp : zHp} {d : Nat} (hD : 9 ≤ d) : ∀ (n : Nat) (y1 : Int32) (y2 : Int32) (y3 : Int32) (y4 : Int32) (g : zSg) (r : Int32 × zSg), f_X12_ask_27 n y1 y2 y3 y4 g = some r → zG d sc hp (zcd zM_X12_ask) 27 [some (.ref 526), some (.int y1), some (.int y2), some (.int y3), some (.int y4), none, none] [] (gm g) ((some (.int r.1)), gm r.2) := by
  obtain ⟨d, rfl⟩ : ∃ d', d = d' + 1 := ⟨d - 1, by omega⟩
  intro n
  induction n with
  | zero => intro y1 y2 y3 y4 g r h; cases h
  | succ n ih =>
    intro y1 y2 y3 y4 g r h
    replace h : fb_X12_ask_27 (f_X12_ask_27 n) y1 y2 y3 y4 g = some r := h
    unfold fb_X12_ask_27 at h
    refine g_run 3 (pc' := 33) (L' := [some (.ref 526), some (.int y1), some (.int y2), some (.int y3), some (.int y4), none, none]) (S' := [.int ((gI g 526 27)), .int y4]) (M' := gm g) rfl ?_
    refine g_icmp ((gI g 526 27) ≤ y4) rfl (t := 120) rfl rfl (fun c1 => ?_) (fun c1 => ?_)
    · replace h := (if_pos c1).symm.trans h
      refine g_run 1 (pc' := 121) (L' := [some (.ref 526), some (.int y1), some (.int y2), some (.int y3), some (.int y4), none, none]) (S' := [.int y2]) (M' := gm g) rfl ?_
      cases h
      exact g_ret rfl rfl rfl rfl
    · replace h := (if_neg c1).symm.trans h
      refine g_run 4 (pc' := 42) (L' := [some (.ref 526), some (.int y1), some (.int y2), some (.int y3), some (.int y4), some (.int 0), some (.int 1)]) (S' := []) (M' := gm g) rfl ?_
      exact p_X12_ask_42 hD (f_X12_ask_27 n) ih zFu (y1) (y2) (y3) (y4) (0) (1) g _ h
def f_X12_ask (x1 : Int32) (g : zSg) : Option (Int32 × zSg) := (zB (f_X12_isSecret x1 g) (fun v1 g2 => (if v1 = 0 then some ((-1), g2) else (zB (f_X12_heavies x1 0 g2) (fun v5 g6 => (if ¬ v5 = (-1) then f_X12_ask_27 zFu (x1) (-1) (0) (0) g6 else some ((-1), g6)))))))
set_option maxRecDepth 100000 in
set_option maxHeartbeats 4000000 in
theorem p_X12_ask {sc : zSc} {hp : zHp} {x1 : Int32} {g : zSg} {r : Int32 × zSg} (h : f_X12_ask x1 g = some r) : zRn sc hp 9 zM_X12_ask [.ref 526, .int x1] (gm g) (some (.int r.1)) (gm r.2) := by
  intro d hD
  obtain ⟨d, rfl⟩ : ∃ d', d = d' + 1 := ⟨d - 1, by omega⟩
  show zG _ sc hp (zcd zM_X12_ask) 0 [some (.ref 526), some (.int x1), none, none, none, none, none] [] (gm g) _
  unfold f_X12_ask at h
  refine g_run 2 (pc' := 2) (L' := [some (.ref 526), some (.int x1), none, none, none, none, none]) (S' := [.int x1, .ref 526]) (M' := gm g) rfl ?_
  replace h := zB_of h
  obtain ⟨v1, g2, e3, h⟩ := h
  refine g_inv2 (kd := 1) (p_X12_isSecret  e3) rfl rfl rfl (by decide) rfl rfl rfl rfl (by omega) (pc' := 5) rfl (S' := [.int v1]) rfl ?_
  refine g_if (v1 = 0) rfl (t := 18) rfl rfl (fun c4 => ?_) (fun c4 => ?_)
  · replace h := (if_pos c4).symm.trans h
    refine g_run 1 (pc' := 19) (L' := [some (.ref 526), some (.int x1), none, none, none, none, none]) (S' := [.int (-1)]) (M' := gm g2) rfl ?_
    cases h
    exact g_ret rfl rfl rfl rfl
  · replace h := (if_neg c4).symm.trans h
    refine g_run 3 (pc' := 11) (L' := [some (.ref 526), some (.int x1), none, none, none, none, none]) (S' := [.int 0, .int x1, .ref 526]) (M' := gm g2) rfl ?_
    replace h := zB_of h
    obtain ⟨v5, g6, e7, h⟩ := h
    refine g_inv2 (kd := 1) (p_X12_heavies  e7) rfl rfl rfl (by decide) rfl rfl rfl rfl (by omega) (pc' := 14) rfl (S' := [.int v5]) rfl ?_
    refine g_run 1 (pc' := 15) (L' := [some (.ref 526), some (.int x1), none, none, none, none, none]) (S' := [.int (-1), .int v5]) (M' := gm g6) rfl ?_
    refine g_icmp (¬ v5 = (-1)) rfl (t := 20) rfl rfl (fun c8 => ?_) (fun c8 => ?_)
    · replace h := (if_pos c8).symm.trans h
      refine g_run 6 (pc' := 27) (L' := [some (.ref 526), some (.int x1), some (.int (-1)), some (.int 0), some (.int 0), none, none]) (S' := []) (M' := gm g6) rfl ?_
      exact p_X12_ask_27 hD zFu (x1) (-1) (0) (0) g6 _ h
    · replace h := (if_neg c8).symm.trans h
      refine g_run 1 (pc' := 19) (L' := [some (.ref 526), some (.int x1), none, none, none, none, none]) (S' := [.int (-1)]) (M' := gm g6) rfl ?_
      cases h
      exact g_ret rfl rfl rfl rfl
def f_X12_layWorthwhile_164 (k12 : Int32 → zSg → Option (Unit × zSg)) (y1 : Int32) (g : zSg) : Option (Unit × zSg) := k12 (y1 + 1) g
set_option maxRecDepth 100000 in
set_option maxHeartbeats 4000000 in
theorem p_X12_layWorthwhile_164 {sc : zSc} {hp : zHp} {d : Nat} (hD : 3 ≤ d) (k12 : Int32 → zSg → Option (Unit × zSg)) (hk12 : ∀ (y1 : Int32) (g : zSg) (r : Unit × zSg), k12 y1 g = some r → zG d sc hp (zcd zM_X12_layWorthwhile) 12 [some (.ref 526), some (.int y1), none, none, none] [] (gm g) (none, gm r.2)) (y1 : Int32) (g : zSg) (r : Unit × zSg) (h : f_X12_layWorthwhile_164 k12 y1 g = some r) : zG d sc hp (zcd zM_X12_layWorthwhile) 164 [some (.ref 526), some (.int y1), none, none, none] [] (gm g) (none, gm r.2) := by
  obtain ⟨d, rfl⟩ : ∃ d', d = d' + 1 := ⟨d - 1, by omega⟩
  unfold f_X12_layWorthwhile_164 at h
  refine g_run 2 (pc' := 12) (L' := [some (.ref 526), some (.int ((y1 + 1))), none, none, none]) (S' := []) (M' := gm g) rfl ?_
  exact hk12 (y1 + 1) g _ h
def f_X12_layWorthwhile_154 (k12 : Int32 → zSg → Option (Unit × zSg)) (y1 : Int32) (y3 : Int32) (g : zSg) : Option (Unit × zSg) := f_X12_layWorthwhile_164 k12 (y1) (gsI (gsI g 526 44 y1) 526 45 y3)
set_option maxRecDepth 100000 in
set_option maxHeartbeats 4000000 in
theorem p_X12_layWorthwhile_154 {sc : zSc} {hp : zHp} {d : Nat} (hD : 3 ≤ d) (k12 : Int32 → zSg → Option (Unit × zSg)) (hk12 : ∀ (y1 : Int32) (g : zSg) (r : Unit × zSg), k12 y1 g = some r → zG d sc hp (zcd zM_X12_layWorthwhile) 12 [some (.ref 526), some (.int y1), none, none, none] [] (gm g) (none, gm r.2)) (y1 : Int32) (y3 : Int32) (g : zSg) (r : Unit × zSg) (h : f_X12_layWorthwhile_154 k12 y1 y3 g = some r) : zG d sc hp (zcd zM_X12_layWorthwhile) 154 [some (.ref 526), some (.int y1), none, some (.int y3), none] [] (gm g) (none, gm r.2) := by
  obtain ⟨d, rfl⟩ : ∃ d', d = d' + 1 := ⟨d - 1, by omega⟩
  unfold f_X12_layWorthwhile_154 at h
  refine g_run 6 (pc' := 164) (L' := [some (.ref 526), some (.int y1), none, some (.int y3), none]) (S' := []) (M' := gm (gsI (gsI g 526 44 y1) 526 45 y3)) rfl ?_
  refine g_forget (L' := [some (.ref 526), some (.int y1), none, none, none]) (And.intro rfl (And.intro rfl True.intro)) ?_
  exact p_X12_layWorthwhile_164 hD k12 hk12 (y1) (gsI (gsI g 526 44 y1) 526 45 y3) _ h
def f_X12_layWorthwhile_117 (k12 : Int32 → zSg → Option (Unit × zSg)) (y1 : Int32) (y3 : Int32) (s0 : Int32) (g : zSg) : Option (Unit × zSg) := (if s0 = 0 then f_X12_layWorthwhile_164 k12 (y1) g else (if (gI g 526 45) < y3 then f_X12_layWorthwhile_154 k12 (y1) (y3) g else (if ¬ y3 = (gI g 526 45) then f_X12_layWorthwhile_164 k12 (y1) g else (zB (f_J6_bitCount_0f7a4 y1 g) (fun v4 g5 => (zB (f_J6_bitCount_0f7a4 (gI g5 526 44) g5) (fun v7 g8 => (if v7 ≤ v4 then f_X12_layWorthwhile_164 k12 (y1) g8 else f_X12_layWorthwhile_154 k12 (y1) (y3) g8))))))))
set_option maxRecDepth 100000 in
set_option maxHeartbeats 4000000 in
theorem p_X12_layWorthwhile_117 {sc : zSc} {hp : zHp} {d : Nat} (hD : 3 ≤ d) (k12 : Int32 → zSg → Option (Unit × zSg)) (hk12 : ∀ (y1 : Int32) (g : zSg) (r : Unit × zSg), k12 y1 g = some r → zG d sc hp (zcd zM_X12_layWorthwhile) 12 [some (.ref 526), some (.int y1), none, none, none] [] (gm g) (none, gm r.2)) (y1 : Int32) (y3 : Int32) (s0 : Int32) (g : zSg) (r : Unit × zSg) (h : f_X12_layWorthwhile_117 k12 y1 y3 s0 g = some r) : zG d sc hp (zcd zM_X12_layWorthwhile) 117 [some (.ref 526), some (.int y1), none, some (.int y3), none] [.int s0] (gm g) (none, gm r.2) := by
  obtain ⟨d, rfl⟩ : ∃ d', d = d' + 1 := ⟨d - 1, by omega⟩
  unfold f_X12_layWorthwhile_117 at h
  refine g_run 2 (pc' := 121) (L' := [some (.ref 526), some (.int y1), none, some (.int y3), some (.int s0)]) (S' := [.int s0]) (M' := gm g) rfl ?_
  refine g_if (s0 = 0) rfl (t := 164) rfl rfl (fun c1 => ?_) (fun c1 => ?_)
  · replace h := (if_pos c1).symm.trans h
    refine g_forget (L' := [some (.ref 526), some (.int y1), none, none, none]) (And.intro rfl (And.intro rfl True.intro)) ?_
    exact p_X12_layWorthwhile_164 hD k12 hk12 (y1) g _ h
  · replace h := (if_neg c1).symm.trans h
    refine g_run 3 (pc' := 129) (L' := [some (.ref 526), some (.int y1), none, some (.int y3), some (.int s0)]) (S' := [.int ((gI g 526 45)), .int y3]) (M' := gm g) rfl ?_
    refine g_icmp ((gI g 526 45) < y3) rfl (t := 154) rfl rfl (fun c2 => ?_) (fun c2 => ?_)
    · replace h := (if_pos c2).symm.trans h
      refine g_forget (L' := [some (.ref 526), some (.int y1), none, some (.int y3), none]) (And.intro rfl (And.intro rfl (And.intro rfl True.intro))) ?_
      exact p_X12_layWorthwhile_154 hD k12 hk12 (y1) (y3) g _ h
    · replace h := (if_neg c2).symm.trans h
      refine g_run 3 (pc' := 137) (L' := [some (.ref 526), some (.int y1), none, some (.int y3), some (.int s0)]) (S' := [.int ((gI g 526 45)), .int y3]) (M' := gm g) rfl ?_
      refine g_icmp (¬ y3 = (gI g 526 45)) rfl (t := 164) rfl rfl (fun c3 => ?_) (fun c3 => ?_)
      · replace h := (if_pos c3).symm.trans h
        refine g_forget (L' := [some (.ref 526), some (.int y1), none, none, none]) (And.intro rfl (And.intro rfl True.intro)) ?_
        exact p_X12_layWorthwhile_164 hD k12 hk12 (y1) g _ h
      · replace h := (if_neg c3).symm.trans h
        refine g_run 1 (pc' := 141) (L' := [some (.ref 526), some (.int y1), none, some (.int y3), some (.int s0)]) (S' := [.int y1]) (M' := gm g) rfl ?_
        replace h := zB_of h
        obtain ⟨v4, g5, e6, h⟩ := h
        refine g_inv2 (kd := 0) (p_J6_bitCount_0f7a4  e6) rfl rfl rfl (by decide) rfl rfl rfl rfl (by omega) (pc' := 144) rfl (S' := [.int v4]) rfl ?_
        refine g_run 2 (pc' := 148) (L' := [some (.ref 526), some (.int y1), none, some (.int y3), some (.int s0)]) (S' := [.int ((gI g5 526 44)), .int v4]) (M' := gm g5) rfl ?_
        replace h := zB_of h
        obtain ⟨v7, g8, e9, h⟩ := h
        refine g_inv2 (kd := 0) (p_J6_bitCount_0f7a4  e9) rfl rfl rfl (by decide) rfl rfl rfl rfl (by omega) (pc' := 151) rfl (S' := [.int v7, .int v4]) rfl ?_
        refine g_icmp (v7 ≤ v4) rfl (t := 164) rfl rfl (fun c10 => ?_) (fun c10 => ?_)
        · replace h := (if_pos c10).symm.trans h
          refine g_forget (L' := [some (.ref 526), some (.int y1), none, none, none]) (And.intro rfl (And.intro rfl True.intro)) ?_
          exact p_X12_layWorthwhile_164 hD k12 hk12 (y1) g8 _ h
        · replace h := (if_neg c10).symm.trans h
          refine g_forget (L' := [some (.ref 526), some (.int y1), none, some (.int y3), none]) (And.intro rfl (And.intro rfl (And.intro rfl True.intro))) ?_
          exact p_X12_layWorthwhile_154 hD k12 hk12 (y1) (y3) g8 _ h
def f_X12_layWorthwhile_116 (k12 : Int32 → zSg → Option (Unit × zSg)) (y1 : Int32) (y3 : Int32) (g : zSg) : Option (Unit × zSg) := f_X12_layWorthwhile_117 k12 (y1) (y3) (0) g
set_option maxRecDepth 100000 in
set_option maxHeartbeats 4000000 in
theorem p_X12_layWorthwhile_116 {sc : zSc} {hp : zHp} {d : Nat} (hD : 3 ≤ d) (k12 : Int32 → zSg → Option (Unit × zSg)) (hk12 : ∀ (y1 : Int32) (g : zSg) (r : Unit × zSg), k12 y1 g = some r → zG d sc hp (zcd zM_X12_layWorthwhile) 12 [some (.ref 526), some (.int y1), none, none, none] [] (gm g) (none, gm r.2)) (y1 : Int32) (y3 : Int32) (g : zSg) (r : Unit × zSg) (h : f_X12_layWorthwhile_116 k12 y1 y3 g = some r) : zG d sc hp (zcd zM_X12_layWorthwhile) 116 [some (.ref 526), some (.int y1), none, some (.int y3), none] [] (gm g) (none, gm r.2) := by
  obtain ⟨d, rfl⟩ : ∃ d', d = d' + 1 := ⟨d - 1, by omega⟩
  unfold f_X12_layWorthwhile_116 at h
  refine g_run 1 (pc' := 117) (L' := [some (.ref 526), some (.int y1), none, some (.int y3), none]) (S' := [.int 0]) (M' := gm g) rfl ?_
  exact p_X12_layWorthwhile_117 hD k12 hk12 (y1) (y3) (0) g _ h
def f_X12_layWorthwhile_89 (k12 : Int32 → zSg → Option (Unit × zSg)) (y1 : Int32) (y2 : Int32) (y3 : Int32) (g : zSg) : Option (Unit × zSg) := (if ¬ (y1 &&& (gI g 543 49)) = 0 then f_X12_layWorthwhile_116 k12 (y1) (y3) g else (if (gI g 543 51) < y2 then f_X12_layWorthwhile_116 k12 (y1) (y3) g else f_X12_layWorthwhile_117 k12 (y1) (y3) (1) g))
set_option maxRecDepth 100000 in
set_option maxHeartbeats 4000000 in
theorem p_X12_layWorthwhile_89 {sc : zSc} {hp : zHp} {d : Nat} (hD : 3 ≤ d) (k12 : Int32 → zSg → Option (Unit × zSg)) (hk12 : ∀ (y1 : Int32) (g : zSg) (r : Unit × zSg), k12 y1 g = some r → zG d sc hp (zcd zM_X12_layWorthwhile) 12 [some (.ref 526), some (.int y1), none, none, none] [] (gm g) (none, gm r.2)) (y1 : Int32) (y2 : Int32) (y3 : Int32) (g : zSg) (r : Unit × zSg) (h : f_X12_layWorthwhile_89 k12 y1 y2 y3 g = some r) : zG d sc hp (zcd zM_X12_layWorthwhile) 89 [some (.ref 526), some (.int y1), some (.int y2), some (.int y3), none] [] (gm g) (none, gm r.2) := by
  obtain ⟨d, rfl⟩ : ∃ d', d = d' + 1 := ⟨d - 1, by omega⟩
  unfold f_X12_layWorthwhile_89 at h
  refine g_run 6 (pc' := 98) (L' := [some (.ref 526), some (.int y1), some (.int y2), some (.int y3), none]) (S' := [.int ((y1 &&& (gI g 543 49)))]) (M' := gm g) rfl ?_
  refine g_if (¬ (y1 &&& (gI g 543 49)) = 0) rfl (t := 116) rfl rfl (fun c1 => ?_) (fun c1 => ?_)
  · replace h := (if_pos c1).symm.trans h
    refine g_forget (L' := [some (.ref 526), some (.int y1), none, some (.int y3), none]) (And.intro rfl (And.intro rfl (And.intro rfl True.intro))) ?_
    exact p_X12_layWorthwhile_116 hD k12 hk12 (y1) (y3) g _ h
  · replace h := (if_neg c1).symm.trans h
    refine g_run 5 (pc' := 109) (L' := [some (.ref 526), some (.int y1), some (.int y2), some (.int y3), none]) (S' := [.int ((gI g 543 51)), .int y2]) (M' := gm g) rfl ?_
    refine g_icmp ((gI g 543 51) < y2) rfl (t := 116) rfl rfl (fun c2 => ?_) (fun c2 => ?_)
    · replace h := (if_pos c2).symm.trans h
      refine g_forget (L' := [some (.ref 526), some (.int y1), none, some (.int y3), none]) (And.intro rfl (And.intro rfl (And.intro rfl True.intro))) ?_
      exact p_X12_layWorthwhile_116 hD k12 hk12 (y1) (y3) g _ h
    · replace h := (if_neg c2).symm.trans h
      refine g_run 2 (pc' := 117) (L' := [some (.ref 526), some (.int y1), some (.int y2), some (.int y3), none]) (S' := [.int 1]) (M' := gm g) rfl ?_
      refine g_forget (L' := [some (.ref 526), some (.int y1), none, some (.int y3), none]) (And.intro rfl (And.intro rfl (And.intro rfl True.intro))) ?_
      exact p_X12_layWorthwhile_117 hD k12 hk12 (y1) (y3) (1) g _ h
def f_X12_layWorthwhile_81 (k12 : Int32 → zSg → Option (Unit × zSg)) (k29 : Int32 → Int32 → Int32 → Int32 → zSg → Option (Unit × zSg)) (y1 : Int32) (y2 : Int32) (y4 : Int32) (s0 : Int32) (s1 : Int32) (g : zSg) : Option (Unit × zSg) := k29 (y1) (y2) (s1 + s0) (y4 + 1) g
set_option maxRecDepth 100000 in
set_option maxHeartbeats 4000000 in
theorem p_X12_layWorthwhile_81 {sc : zSc} {hp : zHp} {d : Nat} (hD : 3 ≤ d) (k12 : Int32 → zSg → Option (Unit × zSg)) (hk12 : ∀ (y1 : Int32) (g : zSg) (r : Unit × zSg), k12 y1 g = some r → zG d sc hp (zcd zM_X12_layWorthwhile) 12 [some (.ref 526), some (.int y1), none, none, none] [] (gm g) (none, gm r.2)) (k29 : Int32 → Int32 → Int32 → Int32 → zSg → Option (Unit × zSg)) (hk29 : ∀ (y1 : Int32) (y2 : Int32) (y3 : Int32) (y4 : Int32) (g : zSg) (r : Unit × zSg), k29 y1 y2 y3 y4 g = some r → zG d sc hp (zcd zM_X12_layWorthwhile) 29 [some (.ref 526), some (.int y1), some (.int y2), some (.int y3), some (.int y4)] [] (gm g) (none, gm r.2)) (y1 : Int32) (y2 : Int32) (y4 : Int32) (s0 : Int32) (s1 : Int32) (g : zSg) (r : Unit × zSg) (h : f_X12_layWorthwhile_81 k12 k29 y1 y2 y4 s0 s1 g = some r) : zG d sc hp (zcd zM_X12_layWorthwhile) 81 [some (.ref 526), some (.int y1), some (.int y2), none, some (.int y4)] [.int s0, .int s1] (gm g) (none, gm r.2) := by
  obtain ⟨d, rfl⟩ : ∃ d', d = d' + 1 := ⟨d - 1, by omega⟩
  unfold f_X12_layWorthwhile_81 at h
  refine g_run 4 (pc' := 29) (L' := [some (.ref 526), some (.int y1), some (.int y2), some (.int ((s1 + s0))), some (.int ((y4 + 1)))]) (S' := []) (M' := gm g) rfl ?_
  exact hk29 (y1) (y2) (s1 + s0) (y4 + 1) g _ h
def f_X12_layWorthwhile_58 (k12 : Int32 → zSg → Option (Unit × zSg)) (k29 : Int32 → Int32 → Int32 → Int32 → zSg → Option (Unit × zSg)) (y1 : Int32) (y3 : Int32) (y4 : Int32) (s0 : Int32) (s1 : Int32) (g : zSg) : Option (Unit × zSg) := (zB (f_X12_has y1 y4 g) (fun v1 g2 => (if v1 = 0 then f_X12_layWorthwhile_81 k12 k29 (y1) (s1 + s0) (y4) (0) (y3) g2 else (zB (f_X12_of y4 1 g2) (fun v5 g6 => f_X12_layWorthwhile_81 k12 k29 (y1) (s1 + s0) (y4) (v5) (y3) g6)))))
set_option maxRecDepth 100000 in
set_option maxHeartbeats 4000000 in
theorem p_X12_layWorthwhile_58 {sc : zSc} {hp : zHp} {d : Nat} (hD : 3 ≤ d) (k12 : Int32 → zSg → Option (Unit × zSg)) (hk12 : ∀ (y1 : Int32) (g : zSg) (r : Unit × zSg), k12 y1 g = some r → zG d sc hp (zcd zM_X12_layWorthwhile) 12 [some (.ref 526), some (.int y1), none, none, none] [] (gm g) (none, gm r.2)) (k29 : Int32 → Int32 → Int32 → Int32 → zSg → Option (Unit × zSg)) (hk29 : ∀ (y1 : Int32) (y2 : Int32) (y3 : Int32) (y4 : Int32) (g : zSg) (r : Unit × zSg), k29 y1 y2 y3 y4 g = some r → zG d sc hp (zcd zM_X12_layWorthwhile) 29 [some (.ref 526), some (.int y1), some (.int y2), some (.int y3), some (.int y4)] [] (gm g) (none, gm r.2)) (y1 : Int32) (y3 : Int32) (y4 : Int32) (s0 : Int32) (s1 : Int32) (g : zSg) (r : Unit × zSg) (h : f_X12_layWorthwhile_58 k12 k29 y1 y3 y4 s0 s1 g = some r) : zG d sc hp (zcd zM_X12_layWorthwhile) 58 [some (.ref 526), some (.int y1), none, some (.int y3), some (.int y4)] [.int s0, .int s1] (gm g) (none, gm r.2) := by
  obtain ⟨d, rfl⟩ : ∃ d', d = d' + 1 := ⟨d - 1, by omega⟩
  unfold f_X12_layWorthwhile_58 at h
  refine g_run 5 (pc' := 64) (L' := [some (.ref 526), some (.int y1), some (.int ((s1 + s0))), some (.int y3), some (.int y4)]) (S' := [.int y4, .int y1, .int y3]) (M' := gm g) rfl ?_
  replace h := zB_of h
  obtain ⟨v1, g2, e3, h⟩ := h
  refine g_inv2 (kd := 0) (p_X12_has  e3) rfl rfl rfl (by decide) rfl rfl rfl rfl (by omega) (pc' := 67) rfl (S' := [.int v1, .int y3]) rfl ?_
  refine g_if (v1 = 0) rfl (t := 80) rfl rfl (fun c4 => ?_) (fun c4 => ?_)
  · replace h := (if_pos c4).symm.trans h
    refine g_run 1 (pc' := 81) (L' := [some (.ref 526), some (.int y1), some (.int ((s1 + s0))), some (.int y3), some (.int y4)]) (S' := [.int 0, .int y3]) (M' := gm g2) rfl ?_
    refine g_forget (L' := [some (.ref 526), some (.int y1), some (.int ((s1 + s0))), none, some (.int y4)]) (And.intro rfl (And.intro rfl (And.intro rfl (And.intro rfl True.intro)))) ?_
    exact p_X12_layWorthwhile_81 hD k12 hk12 k29 hk29 (y1) (s1 + s0) (y4) (0) (y3) g2 _ h
  · replace h := (if_neg c4).symm.trans h
    refine g_run 3 (pc' := 74) (L' := [some (.ref 526), some (.int y1), some (.int ((s1 + s0))), some (.int y3), some (.int y4)]) (S' := [.int 1, .int y4, .ref 526, .int y3]) (M' := gm g2) rfl ?_
    replace h := zB_of h
    obtain ⟨v5, g6, e7, h⟩ := h
    refine g_inv2 (kd := 1) (p_X12_of  e7) rfl rfl rfl (by decide) rfl rfl rfl rfl (by omega) (pc' := 77) rfl (S' := [.int v5, .int y3]) rfl ?_
    refine g_run 1 (pc' := 81) (L' := [some (.ref 526), some (.int y1), some (.int ((s1 + s0))), some (.int y3), some (.int y4)]) (S' := [.int v5, .int y3]) (M' := gm g6) rfl ?_
    refine g_forget (L' := [some (.ref 526), some (.int y1), some (.int ((s1 + s0))), none, some (.int y4)]) (And.intro rfl (And.intro rfl (And.intro rfl (And.intro rfl True.intro)))) ?_
    exact p_X12_layWorthwhile_81 hD k12 hk12 k29 hk29 (y1) (s1 + s0) (y4) (v5) (y3) g6 _ h
def fb_X12_layWorthwhile_29 (k12 : Int32 → zSg → Option (Unit × zSg)) (kk : Int32 → Int32 → Int32 → Int32 → zSg → Option (Unit × zSg)) (y1 : Int32) (y2 : Int32) (y3 : Int32) (y4 : Int32) (g : zSg) : Option (Unit × zSg) := (if (gI g 526 26) ≤ y4 then f_X12_layWorthwhile_89 k12 (y1) (y2) (y3) g else (zB (f_X12_has y1 y4 g) (fun v2 g3 => (if v2 = 0 then f_X12_layWorthwhile_58 k12 kk (y1) (y3) (y4) (0) (y2) g3 else (zB (f_X12_lacksOf y4 g3) (fun v6 g7 => f_X12_layWorthwhile_58 k12 kk (y1) (y3) (y4) (v6) (y2) g7))))))
def f_X12_layWorthwhile_29 (k12 : Int32 → zSg → Option (Unit × zSg)) : Nat → Int32 → Int32 → Int32 → Int32 → zSg → Option (Unit × zSg)
  | 0, _, _, _, _, _ => none
  | n + 1, y1, y2, y3, y4, g => fb_X12_layWorthwhile_29 k12 (f_X12_layWorthwhile_29 k12 n) y1 y2 y3 y4 g
set_option maxRecDepth 100000 in
set_option maxHeartbeats 4000000 in
theorem p_X12_layWorthwhile_29 {sc : zSc} {hp : zHp} {d : Nat} (hD : 3 ≤ d) (k12 : Int32 → zSg → Option (Unit × zSg)) (hk12 : ∀ (y1 : Int32) (g : zSg) (r : Unit × zSg), k12 y1 g = some r → zG d sc hp (zcd zM_X12_layWorthwhile) 12 [some (.ref 526), some (.int y1), none, none, none] [] (gm g) (none, gm r.2)) : ∀ (n : Nat) (y1 : Int32) (y2 : Int32) (y3 : Int32) (y4 : Int32) (g : zSg) (r : Unit × zSg), f_X12_layWorthwhile_29 k12 n y1 y2 y3 y4 g = some r → zG d sc hp (zcd zM_X12_layWorthwhile) 29 [some (.ref 526), some (.int y1), some (.int y2), some (.int y3), some (.int y4)] [] (gm g) (none, gm r.2) := by
  obtain ⟨d, rfl⟩ : ∃ d', d = d' + 1 := ⟨d - 1, by omega⟩
  intro n
  induction n with
  | zero => intro y1 y2 y3 y4 g r h; cases h
  | succ n ih =>
    intro y1 y2 y3 y4 g r h
    replace h : fb_X12_layWorthwhile_29 k12 (f_X12_layWorthwhile_29 k12 n) y1 y2 y3 y4 g = some r := h
    unfold fb_X12_layWorthwhile_29 at h
    refine g_run 3 (pc' := 35) (L' := [some (.ref 526), some (.int y1), some (.int y2), some (.int y3), some (.int y4)]) (S' := [.int ((gI g 526 26)), .int y4]) (M' := gm g) rfl ?_
    refine g_icmp ((gI g 526 26) ≤ y4) rfl (t := 89) rfl rfl (fun c1 => ?_) (fun c1 => ?_)
    · replace h := (if_pos c1).symm.trans h
      refine g_forget (L' := [some (.ref 526), some (.int y1), some (.int y2), some (.int y3), none]) (And.intro rfl (And.intro rfl (And.intro rfl (And.intro rfl True.intro)))) ?_
      exact p_X12_layWorthwhile_89 hD k12 hk12 (y1) (y2) (y3) g _ h
    · replace h := (if_neg c1).symm.trans h
      refine g_run 3 (pc' := 42) (L' := [some (.ref 526), some (.int y1), some (.int y2), some (.int y3), some (.int y4)]) (S' := [.int y4, .int y1, .int y2]) (M' := gm g) rfl ?_
      replace h := zB_of h
      obtain ⟨v2, g3, e4, h⟩ := h
      refine g_inv2 (kd := 0) (p_X12_has  e4) rfl rfl rfl (by decide) rfl rfl rfl rfl (by omega) (pc' := 45) rfl (S' := [.int v2, .int y2]) rfl ?_
      refine g_if (v2 = 0) rfl (t := 57) rfl rfl (fun c5 => ?_) (fun c5 => ?_)
      · replace h := (if_pos c5).symm.trans h
        refine g_run 1 (pc' := 58) (L' := [some (.ref 526), some (.int y1), some (.int y2), some (.int y3), some (.int y4)]) (S' := [.int 0, .int y2]) (M' := gm g3) rfl ?_
        refine g_forget (L' := [some (.ref 526), some (.int y1), none, some (.int y3), some (.int y4)]) (And.intro rfl (And.intro rfl (And.intro rfl (And.intro rfl True.intro)))) ?_
        exact p_X12_layWorthwhile_58 hD k12 hk12 (f_X12_layWorthwhile_29 k12 n) ih (y1) (y3) (y4) (0) (y2) g3 _ h
      · replace h := (if_neg c5).symm.trans h
        refine g_run 2 (pc' := 51) (L' := [some (.ref 526), some (.int y1), some (.int y2), some (.int y3), some (.int y4)]) (S' := [.int y4, .ref 526, .int y2]) (M' := gm g3) rfl ?_
        replace h := zB_of h
        obtain ⟨v6, g7, e8, h⟩ := h
        refine g_inv2 (kd := 1) (p_X12_lacksOf  e8) rfl rfl rfl (by decide) rfl rfl rfl rfl (by omega) (pc' := 54) rfl (S' := [.int v6, .int y2]) rfl ?_
        refine g_run 1 (pc' := 58) (L' := [some (.ref 526), some (.int y1), some (.int y2), some (.int y3), some (.int y4)]) (S' := [.int v6, .int y2]) (M' := gm g7) rfl ?_
        refine g_forget (L' := [some (.ref 526), some (.int y1), none, some (.int y3), some (.int y4)]) (And.intro rfl (And.intro rfl (And.intro rfl (And.intro rfl True.intro)))) ?_
        exact p_X12_layWorthwhile_58 hD k12 hk12 (f_X12_layWorthwhile_29 k12 n) ih (y1) (y3) (y4) (v6) (y2) g7 _ h
def fb_X12_layWorthwhile_12 (kk : Int32 → zSg → Option (Unit × zSg)) (y1 : Int32) (g : zSg) : Option (Unit × zSg) := (if (1 <<< ((gI g 526 26) &&& 31)) ≤ y1 then some ((), g) else f_X12_layWorthwhile_29 kk zFu (y1) (0) (0) (0) g)
def f_X12_layWorthwhile_12 : Nat → Int32 → zSg → Option (Unit × zSg)
  | 0, _, _ => none
  | n + 1, y1, g => fb_X12_layWorthwhile_12 (f_X12_layWorthwhile_12 n) y1 g
set_option maxRecDepth 100000 in
set_option maxHeartbeats 4000000 in
theorem p_X12_layWorthwhile_12 {sc : zSc} {hp : zHp} {d : Nat} (hD : 3 ≤ d) : ∀ (n : Nat) (y1 : Int32) (g : zSg) (r : Unit × zSg), f_X12_layWorthwhile_12 n y1 g = some r → zG d sc hp (zcd zM_X12_layWorthwhile) 12 [some (.ref 526), some (.int y1), none, none, none] [] (gm g) (none, gm r.2) := by
  obtain ⟨d, rfl⟩ : ∃ d', d = d' + 1 := ⟨d - 1, by omega⟩
  intro n
  induction n with
  | zero => intro y1 g r h; cases h
  | succ n ih =>
    intro y1 g r h
    replace h : fb_X12_layWorthwhile_12 (f_X12_layWorthwhile_12 n) y1 g = some r := h
    unfold fb_X12_layWorthwhile_12 at h
    refine g_run 5 (pc' := 19) (L' := [some (.ref 526), some (.int y1), none, none, none]) (S' := [.int ((1 <<< ((gI g 526 26) &&& 31))), .int y1]) (M' := gm g) rfl ?_
    refine g_icmp ((1 <<< ((gI g 526 26) &&& 31)) ≤ y1) rfl (t := 170) rfl rfl (fun c1 => ?_) (fun c1 => ?_)
    · replace h := (if_pos c1).symm.trans h
      cases h
      exact g_ret rfl rfl rfl rfl
    · replace h := (if_neg c1).symm.trans h
      refine g_run 6 (pc' := 29) (L' := [some (.ref 526), some (.int y1), some (.int 0), some (.int 0), some (.int 0)]) (S' := []) (M' := gm g) rfl ?_
      exact p_X12_layWorthwhile_29 hD (f_X12_layWorthwhile_12 n) ih zFu (y1) (0) (0) (0) g _ h
def f_X12_layWorthwhile (g : zSg) : Option (Unit × zSg) := f_X12_layWorthwhile_12 zFu (1) (gsI (gsI g 526 44 0) 526 45 0)
set_option maxRecDepth 100000 in
set_option maxHeartbeats 4000000 in
theorem p_X12_layWorthwhile {sc : zSc} {hp : zHp} {g : zSg} {r : Unit × zSg} (h : f_X12_layWorthwhile g = some r) : zRn sc hp 3 zM_X12_layWorthwhile [.ref 526] (gm g) none (gm r.2) := by
  intro d hD
  obtain ⟨d, rfl⟩ : ∃ d', d = d' + 1 := ⟨d - 1, by omega⟩
  show zG _ sc hp (zcd zM_X12_layWorthwhile) 0 [some (.ref 526), none, none, none, none] [] (gm g) _
  unfold f_X12_layWorthwhile at h
  refine g_run 8 (pc' := 12) (L' := [some (.ref 526), some (.int 1), none, none, none]) (S' := []) (M' := gm (gsI (gsI g 526 44 0) 526 45 0)) rfl ?_
  exact p_X12_layWorthwhile_12 hD zFu (1) (gsI (gsI g 526 44 0) 526 45 0) _ h
def f_X12_worthwhile (x1 : Int32) (g : zSg) : Option (Int32 × zSg) := (if (gI g 526 27) = 0 then some ((-1), g) else (zB (f_X12_in x1 0 1 g) (fun v2 g3 => (if ¬ v2 = 0 then (zB (f_X12_layWorthwhile g3) (fun v6 g7 => (if ¬ x1 = 0 then some ((gI g7 526 45), g7) else some ((gI g7 526 44), g7)))) else some ((-1), g3)))))
set_option maxRecDepth 100000 in
set_option maxHeartbeats 4000000 in
theorem p_X12_worthwhile {sc : zSc} {hp : zHp} {x1 : Int32} {g : zSg} {r : Int32 × zSg} (h : f_X12_worthwhile x1 g = some r) : zRn sc hp 4 zM_X12_worthwhile [.ref 526, .int x1] (gm g) (some (.int r.1)) (gm r.2) := by
  intro d hD
  obtain ⟨d, rfl⟩ : ∃ d', d = d' + 1 := ⟨d - 1, by omega⟩
  show zG _ sc hp (zcd zM_X12_worthwhile) 0 [some (.ref 526), some (.int x1)] [] (gm g) _
  unfold f_X12_worthwhile at h
  refine g_run 2 (pc' := 4) (L' := [some (.ref 526), some (.int x1)]) (S' := [.int ((gI g 526 27))]) (M' := gm g) rfl ?_
  refine g_if ((gI g 526 27) = 0) rfl (t := 16) rfl rfl (fun c1 => ?_) (fun c1 => ?_)
  · replace h := (if_pos c1).symm.trans h
    refine g_run 1 (pc' := 17) (L' := [some (.ref 526), some (.int x1)]) (S' := [.int (-1)]) (M' := gm g) rfl ?_
    cases h
    exact g_ret rfl rfl rfl rfl
  · replace h := (if_neg c1).symm.trans h
    refine g_run 3 (pc' := 10) (L' := [some (.ref 526), some (.int x1)]) (S' := [.int 1, .int 0, .int x1]) (M' := gm g) rfl ?_
    replace h := zB_of h
    obtain ⟨v2, g3, e4, h⟩ := h
    refine g_inv2 (kd := 0) (p_X12_in  e4) rfl rfl rfl (by decide) rfl rfl rfl rfl (by omega) (pc' := 13) rfl (S' := [.int v2]) rfl ?_
    refine g_if (¬ v2 = 0) rfl (t := 18) rfl rfl (fun c5 => ?_) (fun c5 => ?_)
    · replace h := (if_pos c5).symm.trans h
      refine g_run 1 (pc' := 19) (L' := [some (.ref 526), some (.int x1)]) (S' := [.ref 526]) (M' := gm g3) rfl ?_
      replace h := zB_of h
      obtain ⟨v6, g7, e8, h⟩ := h
      refine g_inv2 (kd := 1) (p_X12_layWorthwhile  e8) rfl rfl rfl (by decide) rfl rfl rfl rfl (by omega) (pc' := 22) rfl (S' := []) rfl ?_
      refine g_run 1 (pc' := 23) (L' := [some (.ref 526), some (.int x1)]) (S' := [.int x1]) (M' := gm g7) rfl ?_
      refine g_if (¬ x1 = 0) rfl (t := 33) rfl rfl (fun c9 => ?_) (fun c9 => ?_)
      · replace h := (if_pos c9).symm.trans h
        refine g_run 2 (pc' := 37) (L' := [some (.ref 526), some (.int x1)]) (S' := [.int ((gI g7 526 45))]) (M' := gm g7) rfl ?_
        cases h
        exact g_ret rfl rfl rfl rfl
      · replace h := (if_neg c9).symm.trans h
        refine g_run 3 (pc' := 37) (L' := [some (.ref 526), some (.int x1)]) (S' := [.int ((gI g7 526 44))]) (M' := gm g7) rfl ?_
        cases h
        exact g_ret rfl rfl rfl rfl
    · replace h := (if_neg c5).symm.trans h
      refine g_run 1 (pc' := 17) (L' := [some (.ref 526), some (.int x1)]) (S' := [.int (-1)]) (M' := gm g3) rfl ?_
      cases h
      exact g_ret rfl rfl rfl rfl
def f_X12_out_127 (y2 : Int32) (y4 : Int32) (y5 : Int32) (g : zSg) : Option (Int32 × zSg) := (if y4 = (-1) then some (y4, g) else (if ¬ y2 = 1 then some (y5, g) else some (y4, g)))
set_option maxRecDepth 100000 in
set_option maxHeartbeats 4000000 in
theorem p_X12_out_127 {sc : zSc} {hp : zHp} {d : Nat} (hD : 8 ≤ d) (y2 : Int32) (y4 : Int32) (y5 : Int32) (g : zSg) (r : Int32 × zSg) (h : f_X12_out_127 y2 y4 y5 g = some r) : zG d sc hp (zcd zM_X12_out) 127 [none, none, some (.int y2), none, some (.int y4), some (.int y5), none, none] [] (gm g) ((some (.int r.1)), gm r.2) := by
  obtain ⟨d, rfl⟩ : ∃ d', d = d' + 1 := ⟨d - 1, by omega⟩
  unfold f_X12_out_127 at h
  refine g_run 2 (pc' := 130) (L' := [none, none, some (.int y2), none, some (.int y4), some (.int y5), none, none]) (S' := [.int (-1), .int y4]) (M' := gm g) rfl ?_
  refine g_icmp (y4 = (-1)) rfl (t := 138) rfl rfl (fun c1 => ?_) (fun c1 => ?_)
  · replace h := (if_pos c1).symm.trans h
    refine g_run 2 (pc' := 145) (L' := [none, none, some (.int y2), none, some (.int y4), some (.int y5), none, none]) (S' := [.int y4]) (M' := gm g) rfl ?_
    cases h
    exact g_ret rfl rfl rfl rfl
  · replace h := (if_neg c1).symm.trans h
    refine g_run 2 (pc' := 135) (L' := [none, none, some (.int y2), none, some (.int y4), some (.int y5), none, none]) (S' := [.int 1, .int y2]) (M' := gm g) rfl ?_
    refine g_icmp (¬ y2 = 1) rfl (t := 143) rfl rfl (fun c2 => ?_) (fun c2 => ?_)
    · replace h := (if_pos c2).symm.trans h
      refine g_run 1 (pc' := 145) (L' := [none, none, some (.int y2), none, some (.int y4), some (.int y5), none, none]) (S' := [.int y5]) (M' := gm g) rfl ?_
      cases h
      exact g_ret rfl rfl rfl rfl
    · replace h := (if_neg c2).symm.trans h
      refine g_run 2 (pc' := 145) (L' := [none, none, some (.int y2), none, some (.int y4), some (.int y5), none, none]) (S' := [.int y4]) (M' := gm g) rfl ?_
      cases h
      exact g_ret rfl rfl rfl rfl
def f_X12_out_121 (k37 : Int32 → Int32 → Int32 → Int32 → Int32 → zSg → Option (Int32 × zSg)) (y2 : Int32) (y3 : Int32) (y4 : Int32) (y5 : Int32) (y6 : Int32) (g : zSg) : Option (Int32 × zSg) := k37 (y2) (y3) (y4) (y5) (y6 + 1) g
set_option maxRecDepth 100000 in
set_option maxHeartbeats 4000000 in
theorem p_X12_out_121 {sc : zSc} {hp : zHp} {d : Nat} (hD : 8 ≤ d) (k37 : Int32 → Int32 → Int32 → Int32 → Int32 → zSg → Option (Int32 × zSg)) (hk37 : ∀ (y2 : Int32) (y3 : Int32) (y4 : Int32) (y5 : Int32) (y6 : Int32) (g : zSg) (r : Int32 × zSg), k37 y2 y3 y4 y5 y6 g = some r → zG d sc hp (zcd zM_X12_out) 37 [some (.ref 526), none, some (.int y2), some (.int y3), some (.int y4), some (.int y5), some (.int y6), none] [] (gm g) ((some (.int r.1)), gm r.2)) (y2 : Int32) (y3 : Int32) (y4 : Int32) (y5 : Int32) (y6 : Int32) (g : zSg) (r : Int32 × zSg) (h : f_X12_out_121 k37 y2 y3 y4 y5 y6 g = some r) : zG d sc hp (zcd zM_X12_out) 121 [some (.ref 526), none, some (.int y2), some (.int y3), some (.int y4), some (.int y5), some (.int y6), none] [] (gm g) ((some (.int r.1)), gm r.2) := by
  obtain ⟨d, rfl⟩ : ∃ d', d = d' + 1 := ⟨d - 1, by omega⟩
  unfold f_X12_out_121 at h
  refine g_run 2 (pc' := 37) (L' := [some (.ref 526), none, some (.int y2), some (.int y3), some (.int y4), some (.int y5), some (.int ((y6 + 1))), none]) (S' := []) (M' := gm g) rfl ?_
  exact hk37 (y2) (y3) (y4) (y5) (y6 + 1) g _ h
def f_X12_out_113 (k37 : Int32 → Int32 → Int32 → Int32 → Int32 → zSg → Option (Int32 × zSg)) (y2 : Int32) (y3 : Int32) (y6 : Int32) (y7 : Int32) (g : zSg) : Option (Int32 × zSg) := f_X12_out_121 k37 (y2) (y3) (y6) (y7) (y6) g
set_option maxRecDepth 100000 in
set_option maxHeartbeats 4000000 in
theorem p_X12_out_113 {sc : zSc} {hp : zHp} {d : Nat} (hD : 8 ≤ d) (k37 : Int32 → Int32 → Int32 → Int32 → Int32 → zSg → Option (Int32 × zSg)) (hk37 : ∀ (y2 : Int32) (y3 : Int32) (y4 : Int32) (y5 : Int32) (y6 : Int32) (g : zSg) (r : Int32 × zSg), k37 y2 y3 y4 y5 y6 g = some r → zG d sc hp (zcd zM_X12_out) 37 [some (.ref 526), none, some (.int y2), some (.int y3), some (.int y4), some (.int y5), some (.int y6), none] [] (gm g) ((some (.int r.1)), gm r.2)) (y2 : Int32) (y3 : Int32) (y6 : Int32) (y7 : Int32) (g : zSg) (r : Int32 × zSg) (h : f_X12_out_113 k37 y2 y3 y6 y7 g = some r) : zG d sc hp (zcd zM_X12_out) 113 [some (.ref 526), none, some (.int y2), some (.int y3), none, none, some (.int y6), some (.int y7)] [] (gm g) ((some (.int r.1)), gm r.2) := by
  obtain ⟨d, rfl⟩ : ∃ d', d = d' + 1 := ⟨d - 1, by omega⟩
  unfold f_X12_out_113 at h
  refine g_run 4 (pc' := 121) (L' := [some (.ref 526), none, some (.int y2), some (.int y3), some (.int y6), some (.int y7), some (.int y6), some (.int y7)]) (S' := []) (M' := gm g) rfl ?_
  refine g_forget (L' := [some (.ref 526), none, some (.int y2), some (.int y3), some (.int y6), some (.int y7), some (.int y6), none]) (And.intro rfl (And.intro rfl (And.intro rfl (And.intro rfl (And.intro rfl (And.intro rfl True.intro)))))) ?_
  exact p_X12_out_121 hD k37 hk37 (y2) (y3) (y6) (y7) (y6) g _ h
def fb_X12_out_37 (kk : Int32 → Int32 → Int32 → Int32 → Int32 → zSg → Option (Int32 × zSg)) (y2 : Int32) (y3 : Int32) (y4 : Int32) (y5 : Int32) (y6 : Int32) (g : zSg) : Option (Int32 × zSg) := (if (gI g 526 27) ≤ y6 then f_X12_out_127 (y2) (y4) (y5) g else (if (gI g 540 0) = 0 then none else (if (gI g 540 0) = 0 then none else (if (gI g 540 0) = 0 then none else (if (gI g 540 0) = 0 then none else (zB (f_X12_airOf y6 g) (fun v6 g7 => (if ¬ v6 = 0 then f_X12_out_121 kk (y2) (y3) (y4) (y5) (y6) g7 else (if y4 = (-1) then f_X12_out_113 kk (y2) (y3) (y6) ((iabs ((imod y6 (gI g 540 0)) - (imod y3 (gI g 540 0)))) + (iabs ((y6 / (gI g 540 0)) - (y3 / (gI g 540 0))))) g7 else (if y5 ≤ ((iabs ((imod y6 (gI g 540 0)) - (imod y3 (gI g 540 0)))) + (iabs ((y6 / (gI g 540 0)) - (y3 / (gI g 540 0))))) then f_X12_out_121 kk (y2) (y3) (y4) (y5) (y6) g7 else f_X12_out_113 kk (y2) (y3) (y6) ((iabs ((imod y6 (gI g 540 0)) - (imod y3 (gI g 540 0)))) + (iabs ((y6 / (gI g 540 0)) - (y3 / (gI g 540 0))))) g7))))))))))
def f_X12_out_37 : Nat → Int32 → Int32 → Int32 → Int32 → Int32 → zSg → Option (Int32 × zSg)
  | 0, _, _, _, _, _, _ => none
  | n + 1, y2, y3, y4, y5, y6, g => fb_X12_out_37 (f_X12_out_37 n) y2 y3 y4 y5 y6 g
set_option maxRecDepth 100000 in
set_option maxHeartbeats 4000000 in
theorem p_X12_out_37 {sc : zSc} {hp : zHp} {d : Nat} (hD : 8 ≤ d) : ∀ (n : Nat) (y2 : Int32) (y3 : Int32) (y4 : Int32) (y5 : Int32) (y6 : Int32) (g : zSg) (r : Int32 × zSg), f_X12_out_37 n y2 y3 y4 y5 y6 g = some r → zG d sc hp (zcd zM_X12_out) 37 [some (.ref 526), none, some (.int y2), some (.int y3), some (.int y4), some (.int y5), some (.int y6), none] [] (gm g) ((some (.int r.1)), gm r.2) := by
  obtain ⟨d, rfl⟩ : ∃ d', d = d' + 1 := ⟨d - 1, by omega⟩
  intro n
  induction n with
  | zero => intro y2 y3 y4 y5 y6 g r h; cases h
  | succ n ih =>
    intro y2 y3 y4 y5 y6 g r h
    replace h : fb_X12_out_37 (f_X12_out_37 n) y2 y3 y4 y5 y6 g = some r := h
    unfold fb_X12_out_37 at h
    refine g_run 3 (pc' := 43) (L' := [some (.ref 526), none, some (.int y2), some (.int y3), some (.int y4), some (.int y5), some (.int y6), none]) (S' := [.int ((gI g 526 27)), .int y6]) (M' := gm g) rfl ?_
    refine g_icmp ((gI g 526 27) ≤ y6) rfl (t := 127) rfl rfl (fun c1 => ?_) (fun c1 => ?_)
    · replace h := (if_pos c1).symm.trans h
      refine g_forget (L' := [none, none, some (.int y2), none, some (.int y4), some (.int y5), none, none]) (And.intro rfl (And.intro rfl (And.intro rfl True.intro))) ?_
      exact p_X12_out_127 hD (y2) (y4) (y5) g _ h
    · replace h := (if_neg c1).symm.trans h
      refine g_run 5 (pc' := 54) (L' := [some (.ref 526), none, some (.int y2), some (.int y3), some (.int y4), some (.int y5), some (.int y6), none]) (S' := [.int ((gI g 540 0)), .int y6]) (M' := gm g) rfl ?_
      by_cases c2 : (gI g 540 0) = 0
      case pos => exact nomatch ((if_pos c2).symm.trans h)
      replace h := (if_neg c2).symm.trans h
      refine g_rem rfl c2 ?_
      refine g_run 5 (pc' := 62) (L' := [some (.ref 526), none, some (.int y2), some (.int y3), some (.int y4), some (.int y5), some (.int y6), none]) (S' := [.int ((gI g 540 0)), .int y3, .int ((imod y6 (gI g 540 0)))]) (M' := gm g) rfl ?_
      by_cases c3 : (gI g 540 0) = 0
      case pos => exact nomatch ((if_pos c3).symm.trans h)
      replace h := (if_neg c3).symm.trans h
      refine g_rem rfl c3 ?_
      refine g_run 1 (pc' := 64) (L' := [some (.ref 526), none, some (.int y2), some (.int y3), some (.int y4), some (.int y5), some (.int y6), none]) (S' := [.int (((imod y6 (gI g 540 0)) - (imod y3 (gI g 540 0))))]) (M' := gm g) rfl ?_
      refine g_spec2 (kd := 0) rfl rfl rfl (by decide) rfl (jd := 1003) rfl (by decide) rfl (Or.inl (by decide)) (S' := [.int ((iabs ((imod y6 (gI g 540 0)) - (imod y3 (gI g 540 0)))))]) (M' := gm g) rfl rfl (pc' := 67) rfl ?_
      refine g_run 5 (pc' := 75) (L' := [some (.ref 526), none, some (.int y2), some (.int y3), some (.int y4), some (.int y5), some (.int y6), none]) (S' := [.int ((gI g 540 0)), .int y6, .int ((iabs ((imod y6 (gI g 540 0)) - (imod y3 (gI g 540 0)))))]) (M' := gm g) rfl ?_
      by_cases c4 : (gI g 540 0) = 0
      case pos => exact nomatch ((if_pos c4).symm.trans h)
      replace h := (if_neg c4).symm.trans h
      refine g_div rfl c4 ?_
      refine g_run 5 (pc' := 83) (L' := [some (.ref 526), none, some (.int y2), some (.int y3), some (.int y4), some (.int y5), some (.int y6), none]) (S' := [.int ((gI g 540 0)), .int y3, .int ((y6 / (gI g 540 0))), .int ((iabs ((imod y6 (gI g 540 0)) - (imod y3 (gI g 540 0)))))]) (M' := gm g) rfl ?_
      by_cases c5 : (gI g 540 0) = 0
      case pos => exact nomatch ((if_pos c5).symm.trans h)
      replace h := (if_neg c5).symm.trans h
      refine g_div rfl c5 ?_
      refine g_run 1 (pc' := 85) (L' := [some (.ref 526), none, some (.int y2), some (.int y3), some (.int y4), some (.int y5), some (.int y6), none]) (S' := [.int (((y6 / (gI g 540 0)) - (y3 / (gI g 540 0)))), .int ((iabs ((imod y6 (gI g 540 0)) - (imod y3 (gI g 540 0)))))]) (M' := gm g) rfl ?_
      refine g_spec2 (kd := 0) rfl rfl rfl (by decide) rfl (jd := 1003) rfl (by decide) rfl (Or.inl (by decide)) (S' := [.int ((iabs ((y6 / (gI g 540 0)) - (y3 / (gI g 540 0))))), .int ((iabs ((imod y6 (gI g 540 0)) - (imod y3 (gI g 540 0)))))]) (M' := gm g) rfl rfl (pc' := 88) rfl ?_
      refine g_run 4 (pc' := 94) (L' := [some (.ref 526), none, some (.int y2), some (.int y3), some (.int y4), some (.int y5), some (.int y6), some (.int (((iabs ((imod y6 (gI g 540 0)) - (imod y3 (gI g 540 0)))) + (iabs ((y6 / (gI g 540 0)) - (y3 / (gI g 540 0)))))))]) (S' := [.int y6, .ref 526]) (M' := gm g) rfl ?_
      replace h := zB_of h
      obtain ⟨v6, g7, e8, h⟩ := h
      refine g_inv2 (kd := 1) (p_X12_airOf  e8) rfl rfl rfl (by decide) rfl rfl rfl rfl (by omega) (pc' := 97) rfl (S' := [.int v6]) rfl ?_
      refine g_if (¬ v6 = 0) rfl (t := 121) rfl rfl (fun c9 => ?_) (fun c9 => ?_)
      · replace h := (if_pos c9).symm.trans h
        refine g_forget (L' := [some (.ref 526), none, some (.int y2), some (.int y3), some (.int y4), some (.int y5), some (.int y6), none]) (And.intro rfl (And.intro rfl (And.intro rfl (And.intro rfl (And.intro rfl (And.intro rfl True.intro)))))) ?_
        exact p_X12_out_121 hD (f_X12_out_37 n) ih (y2) (y3) (y4) (y5) (y6) g7 _ h
      · replace h := (if_neg c9).symm.trans h
        refine g_run 2 (pc' := 103) (L' := [some (.ref 526), none, some (.int y2), some (.int y3), some (.int y4), some (.int y5), some (.int y6), some (.int (((iabs ((imod y6 (gI g 540 0)) - (imod y3 (gI g 540 0)))) + (iabs ((y6 / (gI g 540 0)) - (y3 / (gI g 540 0)))))))]) (S' := [.int (-1), .int y4]) (M' := gm g7) rfl ?_
        refine g_icmp (y4 = (-1)) rfl (t := 113) rfl rfl (fun c10 => ?_) (fun c10 => ?_)
        · replace h := (if_pos c10).symm.trans h
          refine g_forget (L' := [some (.ref 526), none, some (.int y2), some (.int y3), none, none, some (.int y6), some (.int (((iabs ((imod y6 (gI g 540 0)) - (imod y3 (gI g 540 0)))) + (iabs ((y6 / (gI g 540 0)) - (y3 / (gI g 540 0)))))))]) (And.intro rfl (And.intro rfl (And.intro rfl (And.intro rfl (And.intro rfl True.intro))))) ?_
          exact p_X12_out_113 hD (f_X12_out_37 n) ih (y2) (y3) (y6) ((iabs ((imod y6 (gI g 540 0)) - (imod y3 (gI g 540 0)))) + (iabs ((y6 / (gI g 540 0)) - (y3 / (gI g 540 0))))) g7 _ h
        · replace h := (if_neg c10).symm.trans h
          refine g_run 2 (pc' := 110) (L' := [some (.ref 526), none, some (.int y2), some (.int y3), some (.int y4), some (.int y5), some (.int y6), some (.int (((iabs ((imod y6 (gI g 540 0)) - (imod y3 (gI g 540 0)))) + (iabs ((y6 / (gI g 540 0)) - (y3 / (gI g 540 0)))))))]) (S' := [.int y5, .int (((iabs ((imod y6 (gI g 540 0)) - (imod y3 (gI g 540 0)))) + (iabs ((y6 / (gI g 540 0)) - (y3 / (gI g 540 0))))))]) (M' := gm g7) rfl ?_
          refine g_icmp (y5 ≤ ((iabs ((imod y6 (gI g 540 0)) - (imod y3 (gI g 540 0)))) + (iabs ((y6 / (gI g 540 0)) - (y3 / (gI g 540 0)))))) rfl (t := 121) rfl rfl (fun c11 => ?_) (fun c11 => ?_)
          · replace h := (if_pos c11).symm.trans h
            refine g_forget (L' := [some (.ref 526), none, some (.int y2), some (.int y3), some (.int y4), some (.int y5), some (.int y6), none]) (And.intro rfl (And.intro rfl (And.intro rfl (And.intro rfl (And.intro rfl (And.intro rfl True.intro)))))) ?_
            exact p_X12_out_121 hD (f_X12_out_37 n) ih (y2) (y3) (y4) (y5) (y6) g7 _ h
          · replace h := (if_neg c11).symm.trans h
            refine g_forget (L' := [some (.ref 526), none, some (.int y2), some (.int y3), none, none, some (.int y6), some (.int (((iabs ((imod y6 (gI g 540 0)) - (imod y3 (gI g 540 0)))) + (iabs ((y6 / (gI g 540 0)) - (y3 / (gI g 540 0)))))))]) (And.intro rfl (And.intro rfl (And.intro rfl (And.intro rfl (And.intro rfl True.intro))))) ?_
            exact p_X12_out_113 hD (f_X12_out_37 n) ih (y2) (y3) (y6) ((iabs ((imod y6 (gI g 540 0)) - (imod y3 (gI g 540 0)))) + (iabs ((y6 / (gI g 540 0)) - (y3 / (gI g 540 0))))) g7 _ h
def f_X12_out (x1 : Int32) (x2 : Int32) (g : zSg) : Option (Int32 × zSg) := (zB (f_X12_isPerson x1 g) (fun v1 g2 => (if v1 = 0 then some ((-1), g2) else (zB (f_X12_in x2 0 1 g2) (fun v5 g6 => (if ¬ v5 = 0 then (if zib (0 + x1) 235 = true then f_X12_out_37 zFu (x2) (gI g6 543 (ix (0 + x1))) (-1) (0) (0) g6 else none) else some ((-1), g6)))))))
set_option maxRecDepth 100000 in
set_option maxHeartbeats 4000000 in
theorem p_X12_out {sc : zSc} {hp : zHp} {x1 : Int32} {x2 : Int32} {g : zSg} {r : Int32 × zSg} (h : f_X12_out x1 x2 g = some r) : zRn sc hp 8 zM_X12_out [.ref 526, .int x1, .int x2] (gm g) (some (.int r.1)) (gm r.2) := by
  intro d hD
  obtain ⟨d, rfl⟩ : ∃ d', d = d' + 1 := ⟨d - 1, by omega⟩
  show zG _ sc hp (zcd zM_X12_out) 0 [some (.ref 526), some (.int x1), some (.int x2), none, none, none, none, none] [] (gm g) _
  unfold f_X12_out at h
  refine g_run 2 (pc' := 2) (L' := [some (.ref 526), some (.int x1), some (.int x2), none, none, none, none, none]) (S' := [.int x1, .ref 526]) (M' := gm g) rfl ?_
  replace h := zB_of h
  obtain ⟨v1, g2, e3, h⟩ := h
  refine g_inv2 (kd := 1) (p_X12_isPerson  e3) rfl rfl rfl (by decide) rfl rfl rfl rfl (by omega) (pc' := 5) rfl (S' := [.int v1]) rfl ?_
  refine g_if (v1 = 0) rfl (t := 17) rfl rfl (fun c4 => ?_) (fun c4 => ?_)
  · replace h := (if_pos c4).symm.trans h
    refine g_run 1 (pc' := 18) (L' := [some (.ref 526), some (.int x1), some (.int x2), none, none, none, none, none]) (S' := [.int (-1)]) (M' := gm g2) rfl ?_
    cases h
    exact g_ret rfl rfl rfl rfl
  · replace h := (if_neg c4).symm.trans h
    refine g_run 3 (pc' := 11) (L' := [some (.ref 526), some (.int x1), some (.int x2), none, none, none, none, none]) (S' := [.int 1, .int 0, .int x2]) (M' := gm g2) rfl ?_
    replace h := zB_of h
    obtain ⟨v5, g6, e7, h⟩ := h
    refine g_inv2 (kd := 0) (p_X12_in  e7) rfl rfl rfl (by decide) rfl rfl rfl rfl (by omega) (pc' := 14) rfl (S' := [.int v5]) rfl ?_
    refine g_if (¬ v5 = 0) rfl (t := 19) rfl rfl (fun c8 => ?_) (fun c8 => ?_)
    · replace h := (if_pos c8).symm.trans h
      refine g_run 5 (pc' := 26) (L' := [some (.ref 526), some (.int x1), some (.int x2), none, none, none, none, none]) (S' := [.int ((0 + x1)), .ref 543]) (M' := gm g6) rfl ?_
      by_cases c9 : zib (0 + x1) 235 = true
      case neg => exact nomatch ((if_neg c9).symm.trans h)
      replace h := (if_pos c9).symm.trans h
      refine g_iald rfl (a := 543) rfl c9 ?_
      refine g_run 7 (pc' := 37) (L' := [some (.ref 526), some (.int x1), some (.int x2), some (.int ((gI g6 543 (ix (0 + x1))))), some (.int (-1)), some (.int 0), some (.int 0), none]) (S' := []) (M' := gm g6) rfl ?_
      refine g_forget (L' := [some (.ref 526), none, some (.int x2), some (.int ((gI g6 543 (ix (0 + x1))))), some (.int (-1)), some (.int 0), some (.int 0), none]) (And.intro rfl (And.intro rfl (And.intro rfl (And.intro rfl (And.intro rfl (And.intro rfl True.intro)))))) ?_
      exact p_X12_out_37 hD zFu (x2) (gI g6 543 (ix (0 + x1))) (-1) (0) (0) g6 _ h
    · replace h := (if_neg c8).symm.trans h
      refine g_run 1 (pc' := 18) (L' := [some (.ref 526), some (.int x1), some (.int x2), none, none, none, none, none]) (S' := [.int (-1)]) (M' := gm g6) rfl ?_
      cases h
      exact g_ret rfl rfl rfl rfl
def f_X12_cellBy_22 (y1 : Int32) (s0 : Int32) (g : zSg) : Option (Int32 × zSg) := (if ¬ s0 = (-1) then some (s0, g) else (if zib (0 + y1) 235 = true then some ((gI g 543 (ix (0 + y1))), g) else none))
set_option maxRecDepth 100000 in
set_option maxHeartbeats 4000000 in
theorem p_X12_cellBy_22 {sc : zSc} {hp : zHp} {d : Nat} (hD : 2 ≤ d) (y1 : Int32) (s0 : Int32) (g : zSg) (r : Int32 × zSg) (h : f_X12_cellBy_22 y1 s0 g = some r) : zG d sc hp (zcd zM_X12_cellBy) 22 [some (.ref 526), some (.int y1), none, none] [.int s0] (gm g) ((some (.int r.1)), gm r.2) := by
  obtain ⟨d, rfl⟩ : ∃ d', d = d' + 1 := ⟨d - 1, by omega⟩
  unfold f_X12_cellBy_22 at h
  refine g_run 3 (pc' := 25) (L' := [some (.ref 526), some (.int y1), none, some (.int s0)]) (S' := [.int (-1), .int s0]) (M' := gm g) rfl ?_
  refine g_icmp (¬ s0 = (-1)) rfl (t := 39) rfl rfl (fun c1 => ?_) (fun c1 => ?_)
  · replace h := (if_pos c1).symm.trans h
    refine g_run 1 (pc' := 40) (L' := [some (.ref 526), some (.int y1), none, some (.int s0)]) (S' := [.int s0]) (M' := gm g) rfl ?_
    cases h
    exact g_ret rfl rfl rfl rfl
  · replace h := (if_neg c1).symm.trans h
    refine g_run 5 (pc' := 35) (L' := [some (.ref 526), some (.int y1), none, some (.int s0)]) (S' := [.int ((0 + y1)), .ref 543]) (M' := gm g) rfl ?_
    by_cases c2 : zib (0 + y1) 235 = true
    case neg => exact nomatch ((if_neg c2).symm.trans h)
    replace h := (if_pos c2).symm.trans h
    refine g_iald rfl (a := 543) rfl c2 ?_
    refine g_run 1 (pc' := 40) (L' := [some (.ref 526), some (.int y1), none, some (.int s0)]) (S' := [.int ((gI g 543 (ix (0 + y1))))]) (M' := gm g) rfl ?_
    cases h
    exact g_ret rfl rfl rfl rfl
def f_X12_cellBy (x1 : Int32) (x2 : Int32) (g : zSg) : Option (Int32 × zSg) := (if ¬ x2 = 4 then (if zib (0 + x1) 235 = true then (zB (f_X12_beside (gI g 543 (ix (0 + x1))) x2 g) (fun v3 g4 => f_X12_cellBy_22 (x1) (v3) g4)) else none) else f_X12_cellBy_22 (x1) (-1) g)
set_option maxRecDepth 100000 in
set_option maxHeartbeats 4000000 in
theorem p_X12_cellBy {sc : zSc} {hp : zHp} {x1 : Int32} {x2 : Int32} {g : zSg} {r : Int32 × zSg} (h : f_X12_cellBy x1 x2 g = some r) : zRn sc hp 2 zM_X12_cellBy [.ref 526, .int x1, .int x2] (gm g) (some (.int r.1)) (gm r.2) := by
  intro d hD
  obtain ⟨d, rfl⟩ : ∃ d', d = d' + 1 := ⟨d - 1, by omega⟩
  show zG _ sc hp (zcd zM_X12_cellBy) 0 [some (.ref 526), some (.int x1), some (.int x2), none] [] (gm g) _
  unfold f_X12_cellBy at h
  refine g_run 2 (pc' := 2) (L' := [some (.ref 526), some (.int x1), some (.int x2), none]) (S' := [.int 4, .int x2]) (M' := gm g) rfl ?_
  refine g_icmp (¬ x2 = 4) rfl (t := 9) rfl rfl (fun c1 => ?_) (fun c1 => ?_)
  · replace h := (if_pos c1).symm.trans h
    refine g_run 6 (pc' := 17) (L' := [some (.ref 526), some (.int x1), some (.int x2), none]) (S' := [.int ((0 + x1)), .ref 543, .ref 526]) (M' := gm g) rfl ?_
    by_cases c2 : zib (0 + x1) 235 = true
    case neg => exact nomatch ((if_neg c2).symm.trans h)
    replace h := (if_pos c2).symm.trans h
    refine g_iald rfl (a := 543) rfl c2 ?_
    refine g_run 1 (pc' := 19) (L' := [some (.ref 526), some (.int x1), some (.int x2), none]) (S' := [.int x2, .int ((gI g 543 (ix (0 + x1)))), .ref 526]) (M' := gm g) rfl ?_
    replace h := zB_of h
    obtain ⟨v3, g4, e5, h⟩ := h
    refine g_inv2 (kd := 1) (p_X12_beside  e5) rfl rfl rfl (by decide) rfl rfl rfl rfl (by omega) (pc' := 22) rfl (S' := [.int v3]) rfl ?_
    refine g_forget (L' := [some (.ref 526), some (.int x1), none, none]) (And.intro rfl (And.intro rfl True.intro)) ?_
    exact p_X12_cellBy_22 hD (x1) (v3) g4 _ h
  · replace h := (if_neg c1).symm.trans h
    refine g_run 2 (pc' := 22) (L' := [some (.ref 526), some (.int x1), some (.int x2), none]) (S' := [.int (-1)]) (M' := gm g) rfl ?_
    refine g_forget (L' := [some (.ref 526), some (.int x1), none, none]) (And.intro rfl (And.intro rfl True.intro)) ?_
    exact p_X12_cellBy_22 hD (x1) (-1) g _ h
def f_X12_gameOf_45 (s0 : Int32) (s1 : Int32) (g : zSg) : Option (Int32 × zSg) := some ((s1 - s0), g)
set_option maxRecDepth 100000 in
set_option maxHeartbeats 4000000 in
theorem p_X12_gameOf_45 {sc : zSc} {hp : zHp} {d : Nat} (hD : 8 ≤ d) (s0 : Int32) (s1 : Int32) (g : zSg) (r : Int32 × zSg) (h : f_X12_gameOf_45 s0 s1 g = some r) : zG d sc hp (zcd zM_X12_gameOf) 45 [none, none, none, none, none, none] [.int s0, .int s1] (gm g) ((some (.int r.1)), gm r.2) := by
  obtain ⟨d, rfl⟩ : ∃ d', d = d' + 1 := ⟨d - 1, by omega⟩
  unfold f_X12_gameOf_45 at h
  refine g_run 1 (pc' := 46) (L' := [none, none, none, none, none, none]) (S' := [.int ((s1 - s0))]) (M' := gm g) rfl ?_
  cases h
  exact g_ret rfl rfl rfl rfl
def f_X12_gameOf_34 (y3 : Int32) (s0 : Int32) (s1 : Int32) (g : zSg) : Option (Int32 × zSg) := (if ¬ y3 = 4 then f_X12_gameOf_45 (1) (s1 + s0) g else f_X12_gameOf_45 (0) (s1 + s0) g)
set_option maxRecDepth 100000 in
set_option maxHeartbeats 4000000 in
theorem p_X12_gameOf_34 {sc : zSc} {hp : zHp} {d : Nat} (hD : 8 ≤ d) (y3 : Int32) (s0 : Int32) (s1 : Int32) (g : zSg) (r : Int32 × zSg) (h : f_X12_gameOf_34 y3 s0 s1 g = some r) : zG d sc hp (zcd zM_X12_gameOf) 34 [none, none, none, some (.int y3), none, none] [.int s0, .int s1] (gm g) ((some (.int r.1)), gm r.2) := by
  obtain ⟨d, rfl⟩ : ∃ d', d = d' + 1 := ⟨d - 1, by omega⟩
  unfold f_X12_gameOf_34 at h
  refine g_run 3 (pc' := 37) (L' := [none, none, none, some (.int y3), none, none]) (S' := [.int 4, .int y3, .int ((s1 + s0))]) (M' := gm g) rfl ?_
  refine g_icmp (¬ y3 = 4) rfl (t := 44) rfl rfl (fun c1 => ?_) (fun c1 => ?_)
  · replace h := (if_pos c1).symm.trans h
    refine g_run 1 (pc' := 45) (L' := [none, none, none, some (.int y3), none, none]) (S' := [.int 1, .int ((s1 + s0))]) (M' := gm g) rfl ?_
    refine g_forget (L' := [none, none, none, none, none, none]) True.intro ?_
    exact p_X12_gameOf_45 hD (1) (s1 + s0) g _ h
  · replace h := (if_neg c1).symm.trans h
    refine g_run 2 (pc' := 45) (L' := [none, none, none, some (.int y3), none, none]) (S' := [.int 0, .int ((s1 + s0))]) (M' := gm g) rfl ?_
    refine g_forget (L' := [none, none, none, none, none, none]) True.intro ?_
    exact p_X12_gameOf_45 hD (0) (s1 + s0) g _ h
def f_X12_gameOf (x1 : Int32) (x2 : Int32) (x3 : Int32) (x4 : Int32) (g : zSg) : Option (Int32 × zSg) := (zB (f_X12_cellBy x1 x3 g) (fun v1 g2 => (zB (f_X12_airOf v1 g2) (fun v4 g5 => (zB (f_X12_cellBy x2 x4 g5) (fun v7 g8 => (if ¬ v1 = v7 then f_X12_gameOf_34 (x3) (0) (9 - v4) g8 else f_X12_gameOf_34 (x3) (5) (9 - v4) g8)))))))
set_option maxRecDepth 100000 in
set_option maxHeartbeats 4000000 in
theorem p_X12_gameOf {sc : zSc} {hp : zHp} {x1 : Int32} {x2 : Int32} {x3 : Int32} {x4 : Int32} {g : zSg} {r : Int32 × zSg} (h : f_X12_gameOf x1 x2 x3 x4 g = some r) : zRn sc hp 8 zM_X12_gameOf [.ref 526, .int x1, .int x2, .int x3, .int x4] (gm g) (some (.int r.1)) (gm r.2) := by
  intro d hD
  obtain ⟨d, rfl⟩ : ∃ d', d = d' + 1 := ⟨d - 1, by omega⟩
  show zG _ sc hp (zcd zM_X12_gameOf) 0 [some (.ref 526), some (.int x1), some (.int x2), some (.int x3), some (.int x4), none] [] (gm g) _
  unfold f_X12_gameOf at h
  refine g_run 3 (pc' := 3) (L' := [some (.ref 526), some (.int x1), some (.int x2), some (.int x3), some (.int x4), none]) (S' := [.int x3, .int x1, .ref 526]) (M' := gm g) rfl ?_
  replace h := zB_of h
  obtain ⟨v1, g2, e3, h⟩ := h
  refine g_inv2 (kd := 1) (p_X12_cellBy  e3) rfl rfl rfl (by decide) rfl rfl rfl rfl (by omega) (pc' := 6) rfl (S' := [.int v1]) rfl ?_
  refine g_run 4 (pc' := 13) (L' := [some (.ref 526), some (.int x1), some (.int x2), some (.int x3), some (.int x4), some (.int v1)]) (S' := [.int v1, .ref 526, .int 9]) (M' := gm g2) rfl ?_
  replace h := zB_of h
  obtain ⟨v4, g5, e6, h⟩ := h
  refine g_inv2 (kd := 1) (p_X12_airOf  e6) rfl rfl rfl (by decide) rfl rfl rfl rfl (by omega) (pc' := 16) rfl (S' := [.int v4, .int 9]) rfl ?_
  refine g_run 5 (pc' := 23) (L' := [some (.ref 526), some (.int x1), some (.int x2), some (.int x3), some (.int x4), some (.int v1)]) (S' := [.int x4, .int x2, .ref 526, .int v1, .int ((9 - v4))]) (M' := gm g5) rfl ?_
  replace h := zB_of h
  obtain ⟨v7, g8, e9, h⟩ := h
  refine g_inv2 (kd := 1) (p_X12_cellBy  e9) rfl rfl rfl (by decide) rfl rfl rfl rfl (by omega) (pc' := 26) rfl (S' := [.int v7, .int v1, .int ((9 - v4))]) rfl ?_
  refine g_icmp (¬ v1 = v7) rfl (t := 33) rfl rfl (fun c10 => ?_) (fun c10 => ?_)
  · replace h := (if_pos c10).symm.trans h
    refine g_run 1 (pc' := 34) (L' := [some (.ref 526), some (.int x1), some (.int x2), some (.int x3), some (.int x4), some (.int v1)]) (S' := [.int 0, .int ((9 - v4))]) (M' := gm g8) rfl ?_
    refine g_forget (L' := [none, none, none, some (.int x3), none, none]) (And.intro rfl True.intro) ?_
    exact p_X12_gameOf_34 hD (x3) (0) (9 - v4) g8 _ h
  · replace h := (if_neg c10).symm.trans h
    refine g_run 2 (pc' := 34) (L' := [some (.ref 526), some (.int x1), some (.int x2), some (.int x3), some (.int x4), some (.int v1)]) (S' := [.int 5, .int ((9 - v4))]) (M' := gm g8) rfl ?_
    refine g_forget (L' := [none, none, none, some (.int x3), none, none]) (And.intro rfl True.intro) ?_
    exact p_X12_gameOf_34 hD (x3) (5) (9 - v4) g8 _ h
def f_X12_areTwo (x1 : Int32) (x2 : Int32) (g : zSg) : Option (Int32 × zSg) := (zB (f_X12_isPerson x1 g) (fun v1 g2 => (if v1 = 0 then some (0, g2) else (zB (f_X12_isPerson x2 g2) (fun v5 g6 => (if v5 = 0 then some (0, g6) else (if x1 = x2 then some (0, g6) else some (1, g6))))))))
set_option maxRecDepth 100000 in
set_option maxHeartbeats 4000000 in
theorem p_X12_areTwo {sc : zSc} {hp : zHp} {x1 : Int32} {x2 : Int32} {g : zSg} {r : Int32 × zSg} (h : f_X12_areTwo x1 x2 g = some r) : zRn sc hp 2 zM_X12_areTwo [.ref 526, .int x1, .int x2] (gm g) (some (.int r.1)) (gm r.2) := by
  intro d hD
  obtain ⟨d, rfl⟩ : ∃ d', d = d' + 1 := ⟨d - 1, by omega⟩
  show zG _ sc hp (zcd zM_X12_areTwo) 0 [some (.ref 526), some (.int x1), some (.int x2)] [] (gm g) _
  unfold f_X12_areTwo at h
  refine g_run 2 (pc' := 2) (L' := [some (.ref 526), some (.int x1), some (.int x2)]) (S' := [.int x1, .ref 526]) (M' := gm g) rfl ?_
  replace h := zB_of h
  obtain ⟨v1, g2, e3, h⟩ := h
  refine g_inv2 (kd := 1) (p_X12_isPerson  e3) rfl rfl rfl (by decide) rfl rfl rfl rfl (by omega) (pc' := 5) rfl (S' := [.int v1]) rfl ?_
  refine g_if (v1 = 0) rfl (t := 25) rfl rfl (fun c4 => ?_) (fun c4 => ?_)
  · replace h := (if_pos c4).symm.trans h
    refine g_run 1 (pc' := 26) (L' := [some (.ref 526), some (.int x1), some (.int x2)]) (S' := [.int 0]) (M' := gm g2) rfl ?_
    cases h
    exact g_ret rfl rfl rfl rfl
  · replace h := (if_neg c4).symm.trans h
    refine g_run 2 (pc' := 10) (L' := [some (.ref 526), some (.int x1), some (.int x2)]) (S' := [.int x2, .ref 526]) (M' := gm g2) rfl ?_
    replace h := zB_of h
    obtain ⟨v5, g6, e7, h⟩ := h
    refine g_inv2 (kd := 1) (p_X12_isPerson  e7) rfl rfl rfl (by decide) rfl rfl rfl rfl (by omega) (pc' := 13) rfl (S' := [.int v5]) rfl ?_
    refine g_if (v5 = 0) rfl (t := 25) rfl rfl (fun c8 => ?_) (fun c8 => ?_)
    · replace h := (if_pos c8).symm.trans h
      refine g_run 1 (pc' := 26) (L' := [some (.ref 526), some (.int x1), some (.int x2)]) (S' := [.int 0]) (M' := gm g6) rfl ?_
      cases h
      exact g_ret rfl rfl rfl rfl
    · replace h := (if_neg c8).symm.trans h
      refine g_run 2 (pc' := 18) (L' := [some (.ref 526), some (.int x1), some (.int x2)]) (S' := [.int x2, .int x1]) (M' := gm g6) rfl ?_
      refine g_icmp (x1 = x2) rfl (t := 25) rfl rfl (fun c9 => ?_) (fun c9 => ?_)
      · replace h := (if_pos c9).symm.trans h
        refine g_run 1 (pc' := 26) (L' := [some (.ref 526), some (.int x1), some (.int x2)]) (S' := [.int 0]) (M' := gm g6) rfl ?_
        cases h
        exact g_ret rfl rfl rfl rfl
      · replace h := (if_neg c9).symm.trans h
        refine g_run 2 (pc' := 26) (L' := [some (.ref 526), some (.int x1), some (.int x2)]) (S' := [.int 1]) (M' := gm g6) rfl ?_
        cases h
        exact g_ret rfl rfl rfl rfl
def f_X12_game_38 (g : zSg) : Option (Int32 × zSg) := some ((-1000000), g)
set_option maxRecDepth 100000 in
set_option maxHeartbeats 4000000 in
theorem p_X12_game_38 {sc : zSc} {hp : zHp} {d : Nat} (hD : 9 ≤ d) (g : zSg) (r : Int32 × zSg) (h : f_X12_game_38 g = some r) : zG d sc hp (zcd zM_X12_game) 38 [none, none, none, none, none, none] [] (gm g) ((some (.int r.1)), gm r.2) := by
  obtain ⟨d, rfl⟩ : ∃ d', d = d' + 1 := ⟨d - 1, by omega⟩
  unfold f_X12_game_38 at h
  refine g_run 1 (pc' := 41) (L' := [none, none, none, none, none, none]) (S' := [.int (-1000000)]) (M' := gm g) rfl ?_
  cases h
  exact g_ret rfl rfl rfl rfl
def f_X12_game (x1 : Int32) (x2 : Int32) (x3 : Int32) (x4 : Int32) (x5 : Int32) (g : zSg) : Option (Int32 × zSg) := (zB (f_X12_areTwo x1 x2 g) (fun v1 g2 => (if v1 = 0 then f_X12_game_38 g2 else (zB (f_X12_in x3 0 4 g2) (fun v5 g6 => (if v5 = 0 then f_X12_game_38 g6 else (zB (f_X12_in x4 0 4 g6) (fun v9 g10 => (if v9 = 0 then f_X12_game_38 g10 else (zB (f_X12_in x5 0 1 g10) (fun v13 g14 => (if ¬ v13 = 0 then (if ¬ x5 = 0 then (zB (f_X12_gameOf x2 x1 x4 x3 g14) (fun v18 g19 => some (v18, g19))) else (zB (f_X12_gameOf x1 x2 x3 x4 g14) (fun v21 g22 => some (v21, g22)))) else f_X12_game_38 g14))))))))))))
set_option maxRecDepth 100000 in
set_option maxHeartbeats 4000000 in
theorem p_X12_game {sc : zSc} {hp : zHp} {x1 : Int32} {x2 : Int32} {x3 : Int32} {x4 : Int32} {x5 : Int32} {g : zSg} {r : Int32 × zSg} (h : f_X12_game x1 x2 x3 x4 x5 g = some r) : zRn sc hp 9 zM_X12_game [.ref 526, .int x1, .int x2, .int x3, .int x4, .int x5] (gm g) (some (.int r.1)) (gm r.2) := by
  intro d hD
  obtain ⟨d, rfl⟩ : ∃ d', d = d' + 1 := ⟨d - 1, by omega⟩
  show zG _ sc hp (zcd zM_X12_game) 0 [some (.ref 526), some (.int x1), some (.int x2), some (.int x3), some (.int x4), some (.int x5)] [] (gm g) _
  unfold f_X12_game at h
  refine g_run 3 (pc' := 3) (L' := [some (.ref 526), some (.int x1), some (.int x2), some (.int x3), some (.int x4), some (.int x5)]) (S' := [.int x2, .int x1, .ref 526]) (M' := gm g) rfl ?_
  replace h := zB_of h
  obtain ⟨v1, g2, e3, h⟩ := h
  refine g_inv2 (kd := 1) (p_X12_areTwo  e3) rfl rfl rfl (by decide) rfl rfl rfl rfl (by omega) (pc' := 6) rfl (S' := [.int v1]) rfl ?_
  refine g_if (v1 = 0) rfl (t := 38) rfl rfl (fun c4 => ?_) (fun c4 => ?_)
  · replace h := (if_pos c4).symm.trans h
    refine g_forget (L' := [none, none, none, none, none, none]) True.intro ?_
    exact p_X12_game_38 hD g2 _ h
  · replace h := (if_neg c4).symm.trans h
    refine g_run 3 (pc' := 12) (L' := [some (.ref 526), some (.int x1), some (.int x2), some (.int x3), some (.int x4), some (.int x5)]) (S' := [.int 4, .int 0, .int x3]) (M' := gm g2) rfl ?_
    replace h := zB_of h
    obtain ⟨v5, g6, e7, h⟩ := h
    refine g_inv2 (kd := 0) (p_X12_in  e7) rfl rfl rfl (by decide) rfl rfl rfl rfl (by omega) (pc' := 15) rfl (S' := [.int v5]) rfl ?_
    refine g_if (v5 = 0) rfl (t := 38) rfl rfl (fun c8 => ?_) (fun c8 => ?_)
    · replace h := (if_pos c8).symm.trans h
      refine g_forget (L' := [none, none, none, none, none, none]) True.intro ?_
      exact p_X12_game_38 hD g6 _ h
    · replace h := (if_neg c8).symm.trans h
      refine g_run 3 (pc' := 22) (L' := [some (.ref 526), some (.int x1), some (.int x2), some (.int x3), some (.int x4), some (.int x5)]) (S' := [.int 4, .int 0, .int x4]) (M' := gm g6) rfl ?_
      replace h := zB_of h
      obtain ⟨v9, g10, e11, h⟩ := h
      refine g_inv2 (kd := 0) (p_X12_in  e11) rfl rfl rfl (by decide) rfl rfl rfl rfl (by omega) (pc' := 25) rfl (S' := [.int v9]) rfl ?_
      refine g_if (v9 = 0) rfl (t := 38) rfl rfl (fun c12 => ?_) (fun c12 => ?_)
      · replace h := (if_pos c12).symm.trans h
        refine g_forget (L' := [none, none, none, none, none, none]) True.intro ?_
        exact p_X12_game_38 hD g10 _ h
      · replace h := (if_neg c12).symm.trans h
        refine g_run 3 (pc' := 32) (L' := [some (.ref 526), some (.int x1), some (.int x2), some (.int x3), some (.int x4), some (.int x5)]) (S' := [.int 1, .int 0, .int x5]) (M' := gm g10) rfl ?_
        replace h := zB_of h
        obtain ⟨v13, g14, e15, h⟩ := h
        refine g_inv2 (kd := 0) (p_X12_in  e15) rfl rfl rfl (by decide) rfl rfl rfl rfl (by omega) (pc' := 35) rfl (S' := [.int v13]) rfl ?_
        refine g_if (¬ v13 = 0) rfl (t := 42) rfl rfl (fun c16 => ?_) (fun c16 => ?_)
        · replace h := (if_pos c16).symm.trans h
          refine g_run 1 (pc' := 44) (L' := [some (.ref 526), some (.int x1), some (.int x2), some (.int x3), some (.int x4), some (.int x5)]) (S' := [.int x5]) (M' := gm g14) rfl ?_
          refine g_if (¬ x5 = 0) rfl (t := 59) rfl rfl (fun c17 => ?_) (fun c17 => ?_)
          · replace h := (if_pos c17).symm.trans h
            refine g_run 5 (pc' := 65) (L' := [some (.ref 526), some (.int x1), some (.int x2), some (.int x3), some (.int x4), some (.int x5)]) (S' := [.int x3, .int x4, .int x1, .int x2, .ref 526]) (M' := gm g14) rfl ?_
            replace h := zB_of h
            obtain ⟨v18, g19, e20, h⟩ := h
            refine g_inv2 (kd := 1) (p_X12_gameOf  e20) rfl rfl rfl (by decide) rfl rfl rfl rfl (by omega) (pc' := 68) rfl (S' := [.int v18]) rfl ?_
            cases h
            exact g_ret rfl rfl rfl rfl
          · replace h := (if_neg c17).symm.trans h
            refine g_run 5 (pc' := 53) (L' := [some (.ref 526), some (.int x1), some (.int x2), some (.int x3), some (.int x4), some (.int x5)]) (S' := [.int x4, .int x3, .int x2, .int x1, .ref 526]) (M' := gm g14) rfl ?_
            replace h := zB_of h
            obtain ⟨v21, g22, e23, h⟩ := h
            refine g_inv2 (kd := 1) (p_X12_gameOf  e23) rfl rfl rfl (by decide) rfl rfl rfl rfl (by omega) (pc' := 56) rfl (S' := [.int v21]) rfl ?_
            refine g_run 1 (pc' := 68) (L' := [some (.ref 526), some (.int x1), some (.int x2), some (.int x3), some (.int x4), some (.int x5)]) (S' := [.int v21]) (M' := gm g22) rfl ?_
            cases h
            exact g_ret rfl rfl rfl rfl
        · replace h := (if_neg c16).symm.trans h
          refine g_forget (L' := [none, none, none, none, none, none]) True.intro ?_
          exact p_X12_game_38 hD g14 _ h
def fb_X12_isRest_3 (kk : Int32 → Int32 → Int32 → Int32 → Int32 → zSg → Option (Int32 × zSg)) (y1 : Int32) (y2 : Int32) (y3 : Int32) (y4 : Int32) (y5 : Int32) (g : zSg) : Option (Int32 × zSg) := (if 4 < y5 then some (1, g) else (zB (f_X12_gameOf y1 y2 y5 y4 g) (fun v2 g3 => (zB (f_X12_gameOf y1 y2 y3 y4 g3) (fun v5 g6 => (if v5 < v2 then some (0, g6) else (zB (f_X12_gameOf y2 y1 y5 y3 g6) (fun v9 g10 => (zB (f_X12_gameOf y2 y1 y4 y3 g10) (fun v12 g13 => (if v9 ≤ v12 then kk (y1) (y2) (y3) (y4) (y5 + 1) g13 else some (0, g13))))))))))))
def f_X12_isRest_3 : Nat → Int32 → Int32 → Int32 → Int32 → Int32 → zSg → Option (Int32 × zSg)
  | 0, _, _, _, _, _, _ => none
  | n + 1, y1, y2, y3, y4, y5, g => fb_X12_isRest_3 (f_X12_isRest_3 n) y1 y2 y3 y4 y5 g
set_option maxRecDepth 100000 in
set_option maxHeartbeats 4000000 in
theorem p_X12_isRest_3 {sc : zSc} {hp : zHp} {d : Nat} (hD : 9 ≤ d) : ∀ (n : Nat) (y1 : Int32) (y2 : Int32) (y3 : Int32) (y4 : Int32) (y5 : Int32) (g : zSg) (r : Int32 × zSg), f_X12_isRest_3 n y1 y2 y3 y4 y5 g = some r → zG d sc hp (zcd zM_X12_isRest) 3 [some (.ref 526), some (.int y1), some (.int y2), some (.int y3), some (.int y4), some (.int y5)] [] (gm g) ((some (.int r.1)), gm r.2) := by
  obtain ⟨d, rfl⟩ : ∃ d', d = d' + 1 := ⟨d - 1, by omega⟩
  intro n
  induction n with
  | zero => intro y1 y2 y3 y4 y5 g r h; cases h
  | succ n ih =>
    intro y1 y2 y3 y4 y5 g r h
    replace h : fb_X12_isRest_3 (f_X12_isRest_3 n) y1 y2 y3 y4 y5 g = some r := h
    unfold fb_X12_isRest_3 at h
    refine g_run 2 (pc' := 6) (L' := [some (.ref 526), some (.int y1), some (.int y2), some (.int y3), some (.int y4), some (.int y5)]) (S' := [.int 4, .int y5]) (M' := gm g) rfl ?_
    refine g_icmp (4 < y5) rfl (t := 60) rfl rfl (fun c1 => ?_) (fun c1 => ?_)
    · replace h := (if_pos c1).symm.trans h
      refine g_run 1 (pc' := 61) (L' := [some (.ref 526), some (.int y1), some (.int y2), some (.int y3), some (.int y4), some (.int y5)]) (S' := [.int 1]) (M' := gm g) rfl ?_
      cases h
      exact g_ret rfl rfl rfl rfl
    · replace h := (if_neg c1).symm.trans h
      refine g_run 5 (pc' := 16) (L' := [some (.ref 526), some (.int y1), some (.int y2), some (.int y3), some (.int y4), some (.int y5)]) (S' := [.int y4, .int y5, .int y2, .int y1, .ref 526]) (M' := gm g) rfl ?_
      replace h := zB_of h
      obtain ⟨v2, g3, e4, h⟩ := h
      refine g_inv2 (kd := 1) (p_X12_gameOf  e4) rfl rfl rfl (by decide) rfl rfl rfl rfl (by omega) (pc' := 19) rfl (S' := [.int v2]) rfl ?_
      refine g_run 5 (pc' := 25) (L' := [some (.ref 526), some (.int y1), some (.int y2), some (.int y3), some (.int y4), some (.int y5)]) (S' := [.int y4, .int y3, .int y2, .int y1, .ref 526, .int v2]) (M' := gm g3) rfl ?_
      replace h := zB_of h
      obtain ⟨v5, g6, e7, h⟩ := h
      refine g_inv2 (kd := 1) (p_X12_gameOf  e7) rfl rfl rfl (by decide) rfl rfl rfl rfl (by omega) (pc' := 28) rfl (S' := [.int v5, .int v2]) rfl ?_
      refine g_icmp (v5 < v2) rfl (t := 52) rfl rfl (fun c8 => ?_) (fun c8 => ?_)
      · replace h := (if_pos c8).symm.trans h
        refine g_run 1 (pc' := 53) (L' := [some (.ref 526), some (.int y1), some (.int y2), some (.int y3), some (.int y4), some (.int y5)]) (S' := [.int 0]) (M' := gm g6) rfl ?_
        cases h
        exact g_ret rfl rfl rfl rfl
      · replace h := (if_neg c8).symm.trans h
        refine g_run 5 (pc' := 37) (L' := [some (.ref 526), some (.int y1), some (.int y2), some (.int y3), some (.int y4), some (.int y5)]) (S' := [.int y3, .int y5, .int y1, .int y2, .ref 526]) (M' := gm g6) rfl ?_
        replace h := zB_of h
        obtain ⟨v9, g10, e11, h⟩ := h
        refine g_inv2 (kd := 1) (p_X12_gameOf  e11) rfl rfl rfl (by decide) rfl rfl rfl rfl (by omega) (pc' := 40) rfl (S' := [.int v9]) rfl ?_
        refine g_run 5 (pc' := 46) (L' := [some (.ref 526), some (.int y1), some (.int y2), some (.int y3), some (.int y4), some (.int y5)]) (S' := [.int y3, .int y4, .int y1, .int y2, .ref 526, .int v9]) (M' := gm g10) rfl ?_
        replace h := zB_of h
        obtain ⟨v12, g13, e14, h⟩ := h
        refine g_inv2 (kd := 1) (p_X12_gameOf  e14) rfl rfl rfl (by decide) rfl rfl rfl rfl (by omega) (pc' := 49) rfl (S' := [.int v12, .int v9]) rfl ?_
        refine g_icmp (v9 ≤ v12) rfl (t := 54) rfl rfl (fun c15 => ?_) (fun c15 => ?_)
        · replace h := (if_pos c15).symm.trans h
          refine g_run 2 (pc' := 3) (L' := [some (.ref 526), some (.int y1), some (.int y2), some (.int y3), some (.int y4), some (.int ((y5 + 1)))]) (S' := []) (M' := gm g13) rfl ?_
          exact ih (y1) (y2) (y3) (y4) (y5 + 1) g13 _ h
        · replace h := (if_neg c15).symm.trans h
          refine g_run 1 (pc' := 53) (L' := [some (.ref 526), some (.int y1), some (.int y2), some (.int y3), some (.int y4), some (.int y5)]) (S' := [.int 0]) (M' := gm g13) rfl ?_
          cases h
          exact g_ret rfl rfl rfl rfl
def f_X12_isRest (x1 : Int32) (x2 : Int32) (x3 : Int32) (x4 : Int32) (g : zSg) : Option (Int32 × zSg) := f_X12_isRest_3 zFu (x1) (x2) (x3) (x4) (0) g
set_option maxRecDepth 100000 in
set_option maxHeartbeats 4000000 in
theorem p_X12_isRest {sc : zSc} {hp : zHp} {x1 : Int32} {x2 : Int32} {x3 : Int32} {x4 : Int32} {g : zSg} {r : Int32 × zSg} (h : f_X12_isRest x1 x2 x3 x4 g = some r) : zRn sc hp 9 zM_X12_isRest [.ref 526, .int x1, .int x2, .int x3, .int x4] (gm g) (some (.int r.1)) (gm r.2) := by
  intro d hD
  obtain ⟨d, rfl⟩ : ∃ d', d = d' + 1 := ⟨d - 1, by omega⟩
  show zG _ sc hp (zcd zM_X12_isRest) 0 [some (.ref 526), some (.int x1), some (.int x2), some (.int x3), some (.int x4), none] [] (gm g) _
  unfold f_X12_isRest at h
  refine g_run 2 (pc' := 3) (L' := [some (.ref 526), some (.int x1), some (.int x2), some (.int x3), some (.int x4), some (.int 0)]) (S' := []) (M' := gm g) rfl ?_
  exact p_X12_isRest_3 hD zFu (x1) (x2) (x3) (x4) (0) g _ h
def f_X12_rests_80 (y3 : Int32) (y4 : Int32) (g : zSg) : Option (Int32 × zSg) := (if ¬ y3 = (-1) then some ((-1), g) else some (y4, g))
set_option maxRecDepth 100000 in
set_option maxHeartbeats 4000000 in
theorem p_X12_rests_80 {sc : zSc} {hp : zHp} {d : Nat} (hD : 10 ≤ d) (y3 : Int32) (y4 : Int32) (g : zSg) (r : Int32 × zSg) (h : f_X12_rests_80 y3 y4 g = some r) : zG d sc hp (zcd zM_X12_rests) 80 [none, none, none, some (.int y3), some (.int y4), none, none] [] (gm g) ((some (.int r.1)), gm r.2) := by
  obtain ⟨d, rfl⟩ : ∃ d', d = d' + 1 := ⟨d - 1, by omega⟩
  unfold f_X12_rests_80 at h
  refine g_run 2 (pc' := 82) (L' := [none, none, none, some (.int y3), some (.int y4), none, none]) (S' := [.int (-1), .int y3]) (M' := gm g) rfl ?_
  refine g_icmp (¬ y3 = (-1)) rfl (t := 90) rfl rfl (fun c1 => ?_) (fun c1 => ?_)
  · replace h := (if_pos c1).symm.trans h
    refine g_run 1 (pc' := 91) (L' := [none, none, none, some (.int y3), some (.int y4), none, none]) (S' := [.int (-1)]) (M' := gm g) rfl ?_
    cases h
    exact g_ret rfl rfl rfl rfl
  · replace h := (if_neg c1).symm.trans h
    refine g_run 2 (pc' := 91) (L' := [none, none, none, some (.int y3), some (.int y4), none, none]) (S' := [.int y4]) (M' := gm g) rfl ?_
    cases h
    exact g_ret rfl rfl rfl rfl
def f_X12_rests_74 (k22 : Int32 → Int32 → Int32 → Int32 → Int32 → zSg → Option (Int32 × zSg)) (y1 : Int32) (y2 : Int32) (y3 : Int32) (y4 : Int32) (y5 : Int32) (g : zSg) : Option (Int32 × zSg) := k22 (y1) (y2) (y3) (y4) (y5 + 1) g
set_option maxRecDepth 100000 in
set_option maxHeartbeats 4000000 in
theorem p_X12_rests_74 {sc : zSc} {hp : zHp} {d : Nat} (hD : 10 ≤ d) (k22 : Int32 → Int32 → Int32 → Int32 → Int32 → zSg → Option (Int32 × zSg)) (hk22 : ∀ (y1 : Int32) (y2 : Int32) (y3 : Int32) (y4 : Int32) (y5 : Int32) (g : zSg) (r : Int32 × zSg), k22 y1 y2 y3 y4 y5 g = some r → zG d sc hp (zcd zM_X12_rests) 22 [some (.ref 526), some (.int y1), some (.int y2), some (.int y3), some (.int y4), some (.int y5), none] [] (gm g) ((some (.int r.1)), gm r.2)) (y1 : Int32) (y2 : Int32) (y3 : Int32) (y4 : Int32) (y5 : Int32) (g : zSg) (r : Int32 × zSg) (h : f_X12_rests_74 k22 y1 y2 y3 y4 y5 g = some r) : zG d sc hp (zcd zM_X12_rests) 74 [some (.ref 526), some (.int y1), some (.int y2), some (.int y3), some (.int y4), some (.int y5), none] [] (gm g) ((some (.int r.1)), gm r.2) := by
  obtain ⟨d, rfl⟩ : ∃ d', d = d' + 1 := ⟨d - 1, by omega⟩
  unfold f_X12_rests_74 at h
  refine g_run 2 (pc' := 22) (L' := [some (.ref 526), some (.int y1), some (.int y2), some (.int y3), some (.int y4), some (.int ((y5 + 1))), none]) (S' := []) (M' := gm g) rfl ?_
  exact hk22 (y1) (y2) (y3) (y4) (y5 + 1) g _ h
def f_X12_rests_68 (k22 : Int32 → Int32 → Int32 → Int32 → Int32 → zSg → Option (Int32 × zSg)) (k31 : Int32 → Int32 → Int32 → Int32 → Int32 → Int32 → zSg → Option (Int32 × zSg)) (y1 : Int32) (y2 : Int32) (y3 : Int32) (y4 : Int32) (y5 : Int32) (y6 : Int32) (g : zSg) : Option (Int32 × zSg) := k31 (y1) (y2) (y3) (y4) (y5) (y6 + 1) g
set_option maxRecDepth 100000 in
set_option maxHeartbeats 4000000 in
theorem p_X12_rests_68 {sc : zSc} {hp : zHp} {d : Nat} (hD : 10 ≤ d) (k22 : Int32 → Int32 → Int32 → Int32 → Int32 → zSg → Option (Int32 × zSg)) (hk22 : ∀ (y1 : Int32) (y2 : Int32) (y3 : Int32) (y4 : Int32) (y5 : Int32) (g : zSg) (r : Int32 × zSg), k22 y1 y2 y3 y4 y5 g = some r → zG d sc hp (zcd zM_X12_rests) 22 [some (.ref 526), some (.int y1), some (.int y2), some (.int y3), some (.int y4), some (.int y5), none] [] (gm g) ((some (.int r.1)), gm r.2)) (k31 : Int32 → Int32 → Int32 → Int32 → Int32 → Int32 → zSg → Option (Int32 × zSg)) (hk31 : ∀ (y1 : Int32) (y2 : Int32) (y3 : Int32) (y4 : Int32) (y5 : Int32) (y6 : Int32) (g : zSg) (r : Int32 × zSg), k31 y1 y2 y3 y4 y5 y6 g = some r → zG d sc hp (zcd zM_X12_rests) 31 [some (.ref 526), some (.int y1), some (.int y2), some (.int y3), some (.int y4), some (.int y5), some (.int y6)] [] (gm g) ((some (.int r.1)), gm r.2)) (y1 : Int32) (y2 : Int32) (y3 : Int32) (y4 : Int32) (y5 : Int32) (y6 : Int32) (g : zSg) (r : Int32 × zSg) (h : f_X12_rests_68 k22 k31 y1 y2 y3 y4 y5 y6 g = some r) : zG d sc hp (zcd zM_X12_rests) 68 [some (.ref 526), some (.int y1), some (.int y2), some (.int y3), some (.int y4), some (.int y5), some (.int y6)] [] (gm g) ((some (.int r.1)), gm r.2) := by
  obtain ⟨d, rfl⟩ : ∃ d', d = d' + 1 := ⟨d - 1, by omega⟩
  unfold f_X12_rests_68 at h
  refine g_run 2 (pc' := 31) (L' := [some (.ref 526), some (.int y1), some (.int y2), some (.int y3), some (.int y4), some (.int y5), some (.int ((y6 + 1)))]) (S' := []) (M' := gm g) rfl ?_
  exact hk31 (y1) (y2) (y3) (y4) (y5) (y6 + 1) g _ h
def f_X12_rests_56 (y5 : Int32) (y6 : Int32) (g : zSg) : Option (Int32 × zSg) := some (((10 * y5) + y6), g)
set_option maxRecDepth 100000 in
set_option maxHeartbeats 4000000 in
theorem p_X12_rests_56 {sc : zSc} {hp : zHp} {d : Nat} (hD : 10 ≤ d) (y5 : Int32) (y6 : Int32) (g : zSg) (r : Int32 × zSg) (h : f_X12_rests_56 y5 y6 g = some r) : zG d sc hp (zcd zM_X12_rests) 56 [none, none, none, none, none, some (.int y5), some (.int y6)] [] (gm g) ((some (.int r.1)), gm r.2) := by
  obtain ⟨d, rfl⟩ : ∃ d', d = d' + 1 := ⟨d - 1, by omega⟩
  unfold f_X12_rests_56 at h
  refine g_run 5 (pc' := 64) (L' := [none, none, none, none, none, some (.int y5), some (.int y6)]) (S' := [.int (((10 * y5) + y6))]) (M' := gm g) rfl ?_
  cases h
  exact g_ret rfl rfl rfl rfl
def fb_X12_rests_31 (k22 : Int32 → Int32 → Int32 → Int32 → Int32 → zSg → Option (Int32 × zSg)) (kk : Int32 → Int32 → Int32 → Int32 → Int32 → Int32 → zSg → Option (Int32 × zSg)) (y1 : Int32) (y2 : Int32) (y3 : Int32) (y4 : Int32) (y5 : Int32) (y6 : Int32) (g : zSg) : Option (Int32 × zSg) := (if 4 < y6 then f_X12_rests_74 k22 (y1) (y2) (y3) (y4) (y5) g else (zB (f_X12_isRest y1 y2 y5 y6 g) (fun v2 g3 => (if v2 = 0 then f_X12_rests_68 k22 kk (y1) (y2) (y3) (y4) (y5) (y6) g3 else (if ¬ y4 = y3 then f_X12_rests_68 k22 kk (y1) (y2) (y3) (y4 + 1) (y5) (y6) g3 else f_X12_rests_56 (y5) (y6) g3)))))
def f_X12_rests_31 (k22 : Int32 → Int32 → Int32 → Int32 → Int32 → zSg → Option (Int32 × zSg)) : Nat → Int32 → Int32 → Int32 → Int32 → Int32 → Int32 → zSg → Option (Int32 × zSg)
  | 0, _, _, _, _, _, _, _ => none
  | n + 1, y1, y2, y3, y4, y5, y6, g => fb_X12_rests_31 k22 (f_X12_rests_31 k22 n) y1 y2 y3 y4 y5 y6 g
set_option maxRecDepth 100000 in
set_option maxHeartbeats 4000000 in
theorem p_X12_rests_31 {sc : zSc} {hp : zHp} {d : Nat} (hD : 10 ≤ d) (k22 : Int32 → Int32 → Int32 → Int32 → Int32 → zSg → Option (Int32 × zSg)) (hk22 : ∀ (y1 : Int32) (y2 : Int32) (y3 : Int32) (y4 : Int32) (y5 : Int32) (g : zSg) (r : Int32 × zSg), k22 y1 y2 y3 y4 y5 g = some r → zG d sc hp (zcd zM_X12_rests) 22 [some (.ref 526), some (.int y1), some (.int y2), some (.int y3), some (.int y4), some (.int y5), none] [] (gm g) ((some (.int r.1)), gm r.2)) : ∀ (n : Nat) (y1 : Int32) (y2 : Int32) (y3 : Int32) (y4 : Int32) (y5 : Int32) (y6 : Int32) (g : zSg) (r : Int32 × zSg), f_X12_rests_31 k22 n y1 y2 y3 y4 y5 y6 g = some r → zG d sc hp (zcd zM_X12_rests) 31 [some (.ref 526), some (.int y1), some (.int y2), some (.int y3), some (.int y4), some (.int y5), some (.int y6)] [] (gm g) ((some (.int r.1)), gm r.2) := by
  obtain ⟨d, rfl⟩ : ∃ d', d = d' + 1 := ⟨d - 1, by omega⟩
  intro n
  induction n with
  | zero => intro y1 y2 y3 y4 y5 y6 g r h; cases h
  | succ n ih =>
    intro y1 y2 y3 y4 y5 y6 g r h
    replace h : fb_X12_rests_31 k22 (f_X12_rests_31 k22 n) y1 y2 y3 y4 y5 y6 g = some r := h
    unfold fb_X12_rests_31 at h
    refine g_run 2 (pc' := 34) (L' := [some (.ref 526), some (.int y1), some (.int y2), some (.int y3), some (.int y4), some (.int y5), some (.int y6)]) (S' := [.int 4, .int y6]) (M' := gm g) rfl ?_
    refine g_icmp (4 < y6) rfl (t := 74) rfl rfl (fun c1 => ?_) (fun c1 => ?_)
    · replace h := (if_pos c1).symm.trans h
      refine g_forget (L' := [some (.ref 526), some (.int y1), some (.int y2), some (.int y3), some (.int y4), some (.int y5), none]) (And.intro rfl (And.intro rfl (And.intro rfl (And.intro rfl (And.intro rfl (And.intro rfl True.intro)))))) ?_
      exact p_X12_rests_74 hD k22 hk22 (y1) (y2) (y3) (y4) (y5) g _ h
    · replace h := (if_neg c1).symm.trans h
      refine g_run 5 (pc' := 44) (L' := [some (.ref 526), some (.int y1), some (.int y2), some (.int y3), some (.int y4), some (.int y5), some (.int y6)]) (S' := [.int y6, .int y5, .int y2, .int y1, .ref 526]) (M' := gm g) rfl ?_
      replace h := zB_of h
      obtain ⟨v2, g3, e4, h⟩ := h
      refine g_inv2 (kd := 1) (p_X12_isRest  e4) rfl rfl rfl (by decide) rfl rfl rfl rfl (by omega) (pc' := 47) rfl (S' := [.int v2]) rfl ?_
      refine g_if (v2 = 0) rfl (t := 68) rfl rfl (fun c5 => ?_) (fun c5 => ?_)
      · replace h := (if_pos c5).symm.trans h
        exact p_X12_rests_68 hD k22 hk22 (f_X12_rests_31 k22 n) ih (y1) (y2) (y3) (y4) (y5) (y6) g3 _ h
      · replace h := (if_neg c5).symm.trans h
        refine g_run 2 (pc' := 53) (L' := [some (.ref 526), some (.int y1), some (.int y2), some (.int y3), some (.int y4), some (.int y5), some (.int y6)]) (S' := [.int y3, .int y4]) (M' := gm g3) rfl ?_
        refine g_icmp (¬ y4 = y3) rfl (t := 65) rfl rfl (fun c6 => ?_) (fun c6 => ?_)
        · replace h := (if_pos c6).symm.trans h
          refine g_run 1 (pc' := 68) (L' := [some (.ref 526), some (.int y1), some (.int y2), some (.int y3), some (.int ((y4 + 1))), some (.int y5), some (.int y6)]) (S' := []) (M' := gm g3) rfl ?_
          exact p_X12_rests_68 hD k22 hk22 (f_X12_rests_31 k22 n) ih (y1) (y2) (y3) (y4 + 1) (y5) (y6) g3 _ h
        · replace h := (if_neg c6).symm.trans h
          refine g_forget (L' := [none, none, none, none, none, some (.int y5), some (.int y6)]) (And.intro rfl (And.intro rfl True.intro)) ?_
          exact p_X12_rests_56 hD (y5) (y6) g3 _ h
def fb_X12_rests_22 (kk : Int32 → Int32 → Int32 → Int32 → Int32 → zSg → Option (Int32 × zSg)) (y1 : Int32) (y2 : Int32) (y3 : Int32) (y4 : Int32) (y5 : Int32) (g : zSg) : Option (Int32 × zSg) := (if 4 < y5 then f_X12_rests_80 (y3) (y4) g else f_X12_rests_31 kk zFu (y1) (y2) (y3) (y4) (y5) (0) g)
def f_X12_rests_22 : Nat → Int32 → Int32 → Int32 → Int32 → Int32 → zSg → Option (Int32 × zSg)
  | 0, _, _, _, _, _, _ => none
  | n + 1, y1, y2, y3, y4, y5, g => fb_X12_rests_22 (f_X12_rests_22 n) y1 y2 y3 y4 y5 g
set_option maxRecDepth 100000 in
set_option maxHeartbeats 4000000 in
theorem p_X12_rests_22 {sc : zSc} {hp : zHp} {d : Nat} (hD : 10 ≤ d) : ∀ (n : Nat) (y1 : Int32) (y2 : Int32) (y3 : Int32) (y4 : Int32) (y5 : Int32) (g : zSg) (r : Int32 × zSg), f_X12_rests_22 n y1 y2 y3 y4 y5 g = some r → zG d sc hp (zcd zM_X12_rests) 22 [some (.ref 526), some (.int y1), some (.int y2), some (.int y3), some (.int y4), some (.int y5), none] [] (gm g) ((some (.int r.1)), gm r.2) := by
  obtain ⟨d, rfl⟩ : ∃ d', d = d' + 1 := ⟨d - 1, by omega⟩
  intro n
  induction n with
  | zero => intro y1 y2 y3 y4 y5 g r h; cases h
  | succ n ih =>
    intro y1 y2 y3 y4 y5 g r h
    replace h : fb_X12_rests_22 (f_X12_rests_22 n) y1 y2 y3 y4 y5 g = some r := h
    unfold fb_X12_rests_22 at h
    refine g_run 2 (pc' := 25) (L' := [some (.ref 526), some (.int y1), some (.int y2), some (.int y3), some (.int y4), some (.int y5), none]) (S' := [.int 4, .int y5]) (M' := gm g) rfl ?_
    refine g_icmp (4 < y5) rfl (t := 80) rfl rfl (fun c1 => ?_) (fun c1 => ?_)
    · replace h := (if_pos c1).symm.trans h
      refine g_forget (L' := [none, none, none, some (.int y3), some (.int y4), none, none]) (And.intro rfl (And.intro rfl True.intro)) ?_
      exact p_X12_rests_80 hD (y3) (y4) g _ h
    · replace h := (if_neg c1).symm.trans h
      refine g_run 2 (pc' := 31) (L' := [some (.ref 526), some (.int y1), some (.int y2), some (.int y3), some (.int y4), some (.int y5), some (.int 0)]) (S' := []) (M' := gm g) rfl ?_
      exact p_X12_rests_31 hD (f_X12_rests_22 n) ih zFu (y1) (y2) (y3) (y4) (y5) (0) g _ h
def f_X12_rests (x1 : Int32) (x2 : Int32) (x3 : Int32) (g : zSg) : Option (Int32 × zSg) := (zB (f_X12_areTwo x1 x2 g) (fun v1 g2 => (if v1 = 0 then some ((-1), g2) else (if (-1) ≤ x3 then f_X12_rests_22 zFu (x1) (x2) (x3) (0) (0) g2 else some ((-1), g2)))))
set_option maxRecDepth 100000 in
set_option maxHeartbeats 4000000 in
theorem p_X12_rests {sc : zSc} {hp : zHp} {x1 : Int32} {x2 : Int32} {x3 : Int32} {g : zSg} {r : Int32 × zSg} (h : f_X12_rests x1 x2 x3 g = some r) : zRn sc hp 10 zM_X12_rests [.ref 526, .int x1, .int x2, .int x3] (gm g) (some (.int r.1)) (gm r.2) := by
  intro d hD
  obtain ⟨d, rfl⟩ : ∃ d', d = d' + 1 := ⟨d - 1, by omega⟩
  show zG _ sc hp (zcd zM_X12_rests) 0 [some (.ref 526), some (.int x1), some (.int x2), some (.int x3), none, none, none] [] (gm g) _
  unfold f_X12_rests at h
  refine g_run 3 (pc' := 3) (L' := [some (.ref 526), some (.int x1), some (.int x2), some (.int x3), none, none, none]) (S' := [.int x2, .int x1, .ref 526]) (M' := gm g) rfl ?_
  replace h := zB_of h
  obtain ⟨v1, g2, e3, h⟩ := h
  refine g_inv2 (kd := 1) (p_X12_areTwo  e3) rfl rfl rfl (by decide) rfl rfl rfl rfl (by omega) (pc' := 6) rfl (S' := [.int v1]) rfl ?_
  refine g_if (v1 = 0) rfl (t := 14) rfl rfl (fun c4 => ?_) (fun c4 => ?_)
  · replace h := (if_pos c4).symm.trans h
    refine g_run 1 (pc' := 15) (L' := [some (.ref 526), some (.int x1), some (.int x2), some (.int x3), none, none, none]) (S' := [.int (-1)]) (M' := gm g2) rfl ?_
    cases h
    exact g_ret rfl rfl rfl rfl
  · replace h := (if_neg c4).symm.trans h
    refine g_run 2 (pc' := 11) (L' := [some (.ref 526), some (.int x1), some (.int x2), some (.int x3), none, none, none]) (S' := [.int (-1), .int x3]) (M' := gm g2) rfl ?_
    refine g_icmp ((-1) ≤ x3) rfl (t := 16) rfl rfl (fun c5 => ?_) (fun c5 => ?_)
    · replace h := (if_pos c5).symm.trans h
      refine g_run 4 (pc' := 22) (L' := [some (.ref 526), some (.int x1), some (.int x2), some (.int x3), some (.int 0), some (.int 0), none]) (S' := []) (M' := gm g2) rfl ?_
      exact p_X12_rests_22 hD zFu (x1) (x2) (x3) (0) (0) g2 _ h
    · replace h := (if_neg c5).symm.trans h
      refine g_run 1 (pc' := 15) (L' := [some (.ref 526), some (.int x1), some (.int x2), some (.int x3), none, none, none]) (S' := [.int (-1)]) (M' := gm g2) rfl ?_
      cases h
      exact g_ret rfl rfl rfl rfl
def f_X12_oddsFrom_106 (rs : Int32 → Int32 → Int32 → Int32 → Int32 → Int32 → zSg → Option (Int32 × zSg)) (k46 : Int32 → Int32 → Int32 → Int32 → Int32 → Int32 → Int32 → Int32 → Int32 → zSg → Option (Int32 × zSg)) (y1 : Int32) (y2 : Int32) (y3 : Int32) (y4 : Int32) (y5 : Int32) (y6 : Int32) (y7 : Int32) (y9 : Int32) (s0 : Int32) (s1 : Int32) (s2 : Int32) (s3 : Int32) (s4 : Int32) (s5 : Int32) (s7 : Int32) (g : zSg) : Option (Int32 × zSg) := (zB (rs s5 s4 s3 s2 s1 s0 g) (fun v1 g2 => (zB (f_X12_takeBack y1 g2) (fun v4 g5 => k46 (y1) (y2) (y3) (y4) (y5) (y6) (y7) (s7 + v1) (y9 + 1) g5))))
set_option maxRecDepth 100000 in
set_option maxHeartbeats 4000000 in
theorem p_X12_oddsFrom_106 {sc : zSc} {hp : zHp} {d : Nat} (hD : 9 ≤ d) {Ds : Nat} (hD1 : Ds + 1 ≤ d) (rs : Int32 → Int32 → Int32 → Int32 → Int32 → Int32 → zSg → Option (Int32 × zSg)) (hrs : ∀ (x1 : Int32) (x2 : Int32) (x3 : Int32) (x4 : Int32) (x5 : Int32) (x6 : Int32) (g : zSg) (r : Int32 × zSg), rs x1 x2 x3 x4 x5 x6 g = some r → zRn sc hp Ds zM_X12_oddsFrom [.ref 526, .int x1, .int x2, .int x3, .int x4, .int x5, .int x6] (gm g) (some (.int r.1)) (gm r.2)) (k46 : Int32 → Int32 → Int32 → Int32 → Int32 → Int32 → Int32 → Int32 → Int32 → zSg → Option (Int32 × zSg)) (hk46 : ∀ (y1 : Int32) (y2 : Int32) (y3 : Int32) (y4 : Int32) (y5 : Int32) (y6 : Int32) (y7 : Int32) (y8 : Int32) (y9 : Int32) (g : zSg) (r : Int32 × zSg), k46 y1 y2 y3 y4 y5 y6 y7 y8 y9 g = some r → zG d sc hp (zcd zM_X12_oddsFrom) 46 [some (.ref 526), some (.int y1), some (.int y2), some (.int y3), some (.int y4), some (.int y5), some (.int y6), some (.int y7), some (.int y8), some (.int y9)] [] (gm g) ((some (.int r.1)), gm r.2)) (y1 : Int32) (y2 : Int32) (y3 : Int32) (y4 : Int32) (y5 : Int32) (y6 : Int32) (y7 : Int32) (y9 : Int32) (s0 : Int32) (s1 : Int32) (s2 : Int32) (s3 : Int32) (s4 : Int32) (s5 : Int32) (s7 : Int32) (g : zSg) (r : Int32 × zSg) (h : f_X12_oddsFrom_106 rs k46 y1 y2 y3 y4 y5 y6 y7 y9 s0 s1 s2 s3 s4 s5 s7 g = some r) : zG d sc hp (zcd zM_X12_oddsFrom) 106 [some (.ref 526), some (.int y1), some (.int y2), some (.int y3), some (.int y4), some (.int y5), some (.int y6), some (.int y7), none, some (.int y9)] [.int s0, .int s1, .int s2, .int s3, .int s4, .int s5, .ref 526, .int s7] (gm g) ((some (.int r.1)), gm r.2) := by
  obtain ⟨d, rfl⟩ : ∃ d', d = d' + 1 := ⟨d - 1, by omega⟩
  unfold f_X12_oddsFrom_106 at h
  replace h := zB_of h
  obtain ⟨v1, g2, e3, h⟩ := h
  refine g_inv2 (kd := 1) (hrs s5 s4 s3 s2 s1 s0 g _ e3) rfl rfl rfl (by decide) rfl rfl rfl rfl (by omega) (pc' := 109) rfl (S' := [.int v1, .int s7]) rfl ?_
  refine g_run 4 (pc' := 114) (L' := [some (.ref 526), some (.int y1), some (.int y2), some (.int y3), some (.int y4), some (.int y5), some (.int y6), some (.int y7), some (.int ((s7 + v1))), some (.int y9)]) (S' := [.int y1, .ref 526]) (M' := gm g2) rfl ?_
  replace h := zB_of h
  obtain ⟨v4, g5, e6, h⟩ := h
  refine g_inv2 (kd := 1) (p_X12_takeBack  e6) rfl rfl rfl (by decide) rfl rfl rfl rfl (by omega) (pc' := 117) rfl (S' := []) rfl ?_
  refine g_run 2 (pc' := 46) (L' := [some (.ref 526), some (.int y1), some (.int y2), some (.int y3), some (.int y4), some (.int y5), some (.int y6), some (.int y7), some (.int ((s7 + v1))), some (.int ((y9 + 1)))]) (S' := []) (M' := gm g5) rfl ?_
  exact hk46 (y1) (y2) (y3) (y4) (y5) (y6) (y7) (s7 + v1) (y9 + 1) g5 _ h
def fb_X12_oddsFrom_46 (rs : Int32 → Int32 → Int32 → Int32 → Int32 → Int32 → zSg → Option (Int32 × zSg)) (kk : Int32 → Int32 → Int32 → Int32 → Int32 → Int32 → Int32 → Int32 → Int32 → zSg → Option (Int32 × zSg)) (y1 : Int32) (y2 : Int32) (y3 : Int32) (y4 : Int32) (y5 : Int32) (y6 : Int32) (y7 : Int32) (y8 : Int32) (y9 : Int32) (g : zSg) : Option (Int32 × zSg) := (if 2 ≤ y9 then some (y8, g) else (zB (f_X12_live (gsI g 543 50 (imod ((gI g 543 50) + y9) 4))) (fun v2 g3 => (if ¬ y9 = 1 then f_X12_oddsFrom_106 rs kk (y1) (y2) (y3) (y4) (y5) (y6) (y7) (y9) (y6 - y7) (y5) (y4 - 1) (y3) (y2) (y1 + 1) (y8) g3 else f_X12_oddsFrom_106 rs kk (y1) (y2) (y3) (y4) (y5) (y6) (y7) (y9) (y7) (y5) (y4 - 1) (y3) (y2) (y1 + 1) (y8) g3))))
def f_X12_oddsFrom_46 (rs : Int32 → Int32 → Int32 → Int32 → Int32 → Int32 → zSg → Option (Int32 × zSg)) : Nat → Int32 → Int32 → Int32 → Int32 → Int32 → Int32 → Int32 → Int32 → Int32 → zSg → Option (Int32 × zSg)
  | 0, _, _, _, _, _, _, _, _, _, _ => none
  | n + 1, y1, y2, y3, y4, y5, y6, y7, y8, y9, g => fb_X12_oddsFrom_46 rs (f_X12_oddsFrom_46 rs n) y1 y2 y3 y4 y5 y6 y7 y8 y9 g
set_option maxRecDepth 100000 in
set_option maxHeartbeats 4000000 in
theorem p_X12_oddsFrom_46 {sc : zSc} {hp : zHp} {d : Nat} (hD : 9 ≤ d) {Ds : Nat} (hD1 : Ds + 1 ≤ d) (rs : Int32 → Int32 → Int32 → Int32 → Int32 → Int32 → zSg → Option (Int32 × zSg)) (hrs : ∀ (x1 : Int32) (x2 : Int32) (x3 : Int32) (x4 : Int32) (x5 : Int32) (x6 : Int32) (g : zSg) (r : Int32 × zSg), rs x1 x2 x3 x4 x5 x6 g = some r → zRn sc hp Ds zM_X12_oddsFrom [.ref 526, .int x1, .int x2, .int x3, .int x4, .int x5, .int x6] (gm g) (some (.int r.1)) (gm r.2)) : ∀ (n : Nat) (y1 : Int32) (y2 : Int32) (y3 : Int32) (y4 : Int32) (y5 : Int32) (y6 : Int32) (y7 : Int32) (y8 : Int32) (y9 : Int32) (g : zSg) (r : Int32 × zSg), f_X12_oddsFrom_46 rs n y1 y2 y3 y4 y5 y6 y7 y8 y9 g = some r → zG d sc hp (zcd zM_X12_oddsFrom) 46 [some (.ref 526), some (.int y1), some (.int y2), some (.int y3), some (.int y4), some (.int y5), some (.int y6), some (.int y7), some (.int y8), some (.int y9)] [] (gm g) ((some (.int r.1)), gm r.2) := by
  obtain ⟨d, rfl⟩ : ∃ d', d = d' + 1 := ⟨d - 1, by omega⟩
  intro n
  induction n with
  | zero => intro y1 y2 y3 y4 y5 y6 y7 y8 y9 g r h; cases h
  | succ n ih =>
    intro y1 y2 y3 y4 y5 y6 y7 y8 y9 g r h
    replace h : fb_X12_oddsFrom_46 rs (f_X12_oddsFrom_46 rs n) y1 y2 y3 y4 y5 y6 y7 y8 y9 g = some r := h
    unfold fb_X12_oddsFrom_46 at h
    refine g_run 2 (pc' := 49) (L' := [some (.ref 526), some (.int y1), some (.int y2), some (.int y3), some (.int y4), some (.int y5), some (.int y6), some (.int y7), some (.int y8), some (.int y9)]) (S' := [.int 2, .int y9]) (M' := gm g) rfl ?_
    refine g_icmp (2 ≤ y9) rfl (t := 123) rfl rfl (fun c1 => ?_) (fun c1 => ?_)
    · replace h := (if_pos c1).symm.trans h
      refine g_run 1 (pc' := 125) (L' := [some (.ref 526), some (.int y1), some (.int y2), some (.int y3), some (.int y4), some (.int y5), some (.int y6), some (.int y7), some (.int y8), some (.int y9)]) (S' := [.int y8]) (M' := gm g) rfl ?_
      cases h
      exact g_ret rfl rfl rfl rfl
    · replace h := (if_neg c1).symm.trans h
      refine g_run 13 (pc' := 72) (L' := [some (.ref 526), some (.int y1), some (.int y2), some (.int y3), some (.int y4), some (.int y5), some (.int y6), some (.int y7), some (.int y8), some (.int y9)]) (S' := [.ref 526]) (M' := gm (gsI g 543 50 (imod ((gI g 543 50) + y9) 4))) rfl ?_
      replace h := zB_of h
      obtain ⟨v2, g3, e4, h⟩ := h
      refine g_inv2 (kd := 1) (p_X12_live  e4) rfl rfl rfl (by decide) rfl rfl rfl rfl (by omega) (pc' := 75) rfl (S' := [.int v2]) rfl ?_
      refine g_run 14 (pc' := 93) (L' := [some (.ref 526), some (.int y1), some (.int y2), some (.int y3), some (.int y4), some (.int y5), some (.int y6), some (.int y7), some (.int y8), some (.int y9)]) (S' := [.int 1, .int y9, .int y5, .int ((y4 - 1)), .int y3, .int y2, .int ((y1 + 1)), .ref 526, .int y8]) (M' := gm g3) rfl ?_
      refine g_icmp (¬ y9 = 1) rfl (t := 101) rfl rfl (fun c5 => ?_) (fun c5 => ?_)
      · replace h := (if_pos c5).symm.trans h
        refine g_run 3 (pc' := 106) (L' := [some (.ref 526), some (.int y1), some (.int y2), some (.int y3), some (.int y4), some (.int y5), some (.int y6), some (.int y7), some (.int y8), some (.int y9)]) (S' := [.int ((y6 - y7)), .int y5, .int ((y4 - 1)), .int y3, .int y2, .int ((y1 + 1)), .ref 526, .int y8]) (M' := gm g3) rfl ?_
        refine g_forget (L' := [some (.ref 526), some (.int y1), some (.int y2), some (.int y3), some (.int y4), some (.int y5), some (.int y6), some (.int y7), none, some (.int y9)]) (And.intro rfl (And.intro rfl (And.intro rfl (And.intro rfl (And.intro rfl (And.intro rfl (And.intro rfl (And.intro rfl (And.intro rfl True.intro))))))))) ?_
        exact p_X12_oddsFrom_106 hD hD1 rs hrs (f_X12_oddsFrom_46 rs n) ih (y1) (y2) (y3) (y4) (y5) (y6) (y7) (y9) (y6 - y7) (y5) (y4 - 1) (y3) (y2) (y1 + 1) (y8) g3 _ h
      · replace h := (if_neg c5).symm.trans h
        refine g_run 2 (pc' := 106) (L' := [some (.ref 526), some (.int y1), some (.int y2), some (.int y3), some (.int y4), some (.int y5), some (.int y6), some (.int y7), some (.int y8), some (.int y9)]) (S' := [.int y7, .int y5, .int ((y4 - 1)), .int y3, .int y2, .int ((y1 + 1)), .ref 526, .int y8]) (M' := gm g3) rfl ?_
        refine g_forget (L' := [some (.ref 526), some (.int y1), some (.int y2), some (.int y3), some (.int y4), some (.int y5), some (.int y6), some (.int y7), none, some (.int y9)]) (And.intro rfl (And.intro rfl (And.intro rfl (And.intro rfl (And.intro rfl (And.intro rfl (And.intro rfl (And.intro rfl (And.intro rfl True.intro))))))))) ?_
        exact p_X12_oddsFrom_106 hD hD1 rs hrs (f_X12_oddsFrom_46 rs n) ih (y1) (y2) (y3) (y4) (y5) (y6) (y7) (y9) (y7) (y5) (y4 - 1) (y3) (y2) (y1 + 1) (y8) g3 _ h
def f_X12_oddsFrom_b (rs : Int32 → Int32 → Int32 → Int32 → Int32 → Int32 → zSg → Option (Int32 × zSg)) (x1 : Int32) (x2 : Int32) (x3 : Int32) (x4 : Int32) (x5 : Int32) (x6 : Int32) (g : zSg) : Option (Int32 × zSg) := (if ¬ x4 = 0 then (zB (f_X12_putAside x1 g) (fun v2 g3 => f_X12_oddsFrom_46 rs zFu (x1) (x2) (x3) (x4) (x5) (x6) (((((x6).toInt64 * (x5).toInt64) / 100)).toInt32) (0) (0) g3)) else (zB (f_X12_knows x2 x3 g) (fun v5 g6 => (if v5 = 0 then some (0, g6) else some (x6, g6)))))
set_option maxRecDepth 100000 in
set_option maxHeartbeats 4000000 in
theorem p_X12_oddsFrom_b {sc : zSc} {hp : zHp} {Ds : Nat} (rs : Int32 → Int32 → Int32 → Int32 → Int32 → Int32 → zSg → Option (Int32 × zSg)) (hrs : ∀ (x1 : Int32) (x2 : Int32) (x3 : Int32) (x4 : Int32) (x5 : Int32) (x6 : Int32) (g : zSg) (r : Int32 × zSg), rs x1 x2 x3 x4 x5 x6 g = some r → zRn sc hp Ds zM_X12_oddsFrom [.ref 526, .int x1, .int x2, .int x3, .int x4, .int x5, .int x6] (gm g) (some (.int r.1)) (gm r.2)) {x1 : Int32} {x2 : Int32} {x3 : Int32} {x4 : Int32} {x5 : Int32} {x6 : Int32} {g : zSg} {r : Int32 × zSg} (h : f_X12_oddsFrom_b rs x1 x2 x3 x4 x5 x6 g = some r) : zRn sc hp (max (Ds + 1) 9) zM_X12_oddsFrom [.ref 526, .int x1, .int x2, .int x3, .int x4, .int x5, .int x6] (gm g) (some (.int r.1)) (gm r.2) := by
  intro d hD
  obtain ⟨hD1, hD⟩ := Nat.max_le.mp hD
  obtain ⟨d, rfl⟩ : ∃ d', d = d' + 1 := ⟨d - 1, by omega⟩
  show zG _ sc hp (zcd zM_X12_oddsFrom) 0 [some (.ref 526), some (.int x1), some (.int x2), some (.int x3), some (.int x4), some (.int x5), some (.int x6), none, none, none] [] (gm g) _
  unfold f_X12_oddsFrom_b at h
  refine g_run 1 (pc' := 2) (L' := [some (.ref 526), some (.int x1), some (.int x2), some (.int x3), some (.int x4), some (.int x5), some (.int x6), none, none, none]) (S' := [.int x4]) (M' := gm g) rfl ?_
  refine g_if (¬ x4 = 0) rfl (t := 21) rfl rfl (fun c1 => ?_) (fun c1 => ?_)
  · replace h := (if_pos c1).symm.trans h
    refine g_run 13 (pc' := 40) (L' := [some (.ref 526), some (.int x1), some (.int x2), some (.int x3), some (.int x4), some (.int x5), some (.int x6), some (.int (((((x6).toInt64 * (x5).toInt64) / 100)).toInt32)), some (.int 0), none]) (S' := [.int x1, .ref 526]) (M' := gm g) rfl ?_
    replace h := zB_of h
    obtain ⟨v2, g3, e4, h⟩ := h
    refine g_inv2 (kd := 1) (p_X12_putAside  e4) rfl rfl rfl (by decide) rfl rfl rfl rfl (by omega) (pc' := 43) rfl (S' := []) rfl ?_
    refine g_run 2 (pc' := 46) (L' := [some (.ref 526), some (.int x1), some (.int x2), some (.int x3), some (.int x4), some (.int x5), some (.int x6), some (.int (((((x6).toInt64 * (x5).toInt64) / 100)).toInt32)), some (.int 0), some (.int 0)]) (S' := []) (M' := gm g3) rfl ?_
    exact p_X12_oddsFrom_46 hD hD1 rs hrs zFu (x1) (x2) (x3) (x4) (x5) (x6) (((((x6).toInt64 * (x5).toInt64) / 100)).toInt32) (0) (0) g3 _ h
  · replace h := (if_neg c1).symm.trans h
    refine g_run 3 (pc' := 8) (L' := [some (.ref 526), some (.int x1), some (.int x2), some (.int x3), some (.int x4), some (.int x5), some (.int x6), none, none, none]) (S' := [.int x3, .int x2, .ref 526]) (M' := gm g) rfl ?_
    replace h := zB_of h
    obtain ⟨v5, g6, e7, h⟩ := h
    refine g_inv2 (kd := 1) (p_X12_knows  e7) rfl rfl rfl (by decide) rfl rfl rfl rfl (by omega) (pc' := 11) rfl (S' := [.int v5]) rfl ?_
    refine g_if (v5 = 0) rfl (t := 19) rfl rfl (fun c8 => ?_) (fun c8 => ?_)
    · replace h := (if_pos c8).symm.trans h
      refine g_run 1 (pc' := 20) (L' := [some (.ref 526), some (.int x1), some (.int x2), some (.int x3), some (.int x4), some (.int x5), some (.int x6), none, none, none]) (S' := [.int 0]) (M' := gm g6) rfl ?_
      cases h
      exact g_ret rfl rfl rfl rfl
    · replace h := (if_neg c8).symm.trans h
      refine g_run 2 (pc' := 20) (L' := [some (.ref 526), some (.int x1), some (.int x2), some (.int x3), some (.int x4), some (.int x5), some (.int x6), none, none, none]) (S' := [.int x6]) (M' := gm g6) rfl ?_
      cases h
      exact g_ret rfl rfl rfl rfl
def f_X12_oddsFrom : Nat → Int32 → Int32 → Int32 → Int32 → Int32 → Int32 → zSg → Option (Int32 × zSg)
  | 0, _, _, _, _, _, _, _ => none
  | n + 1, x1, x2, x3, x4, x5, x6, g => f_X12_oddsFrom_b (f_X12_oddsFrom n) x1 x2 x3 x4 x5 x6 g
theorem p_X12_oddsFrom {sc : zSc} {hp : zHp} : ∀ (n : Nat) (x1 : Int32) (x2 : Int32) (x3 : Int32) (x4 : Int32) (x5 : Int32) (x6 : Int32) (g : zSg) (r : Int32 × zSg), f_X12_oddsFrom n x1 x2 x3 x4 x5 x6 g = some r → zRn sc hp (9 + 1 * n) zM_X12_oddsFrom [.ref 526, .int x1, .int x2, .int x3, .int x4, .int x5, .int x6] (gm g) (some (.int r.1)) (gm r.2) := by
  intro n
  induction n with
  | zero => intro x1 x2 x3 x4 x5 x6 g r h; cases h
  | succ n ih =>
    intro x1 x2 x3 x4 x5 x6 g r h d hd
    exact p_X12_oddsFrom_b (f_X12_oddsFrom n) ih h d (Nat.max_le.mpr ⟨by omega, by omega⟩)
def f_X12_odds (x1 : Int32) (x2 : Int32) (x3 : Int32) (x4 : Int32) (g : zSg) : Option (Int32 × zSg) := (zB (f_X12_isPerson x1 g) (fun v1 g2 => (if v1 = 0 then some ((-1), g2) else (zB (f_X12_isSecret x2 g2) (fun v5 g6 => (if v5 = 0 then some ((-1), g6) else (zB (f_X12_in x3 0 6 g6) (fun v9 g10 => (if v9 = 0 then some ((-1), g10) else (zB (f_X12_in x4 0 100 g10) (fun v13 g14 => (if ¬ v13 = 0 then (zB (f_X12_oddsFrom zDp 0 x1 x2 x3 x4 1000000000 g14) (fun v17 g18 => some (v17, g18))) else some ((-1), g14)))))))))))))
set_option maxRecDepth 100000 in
set_option maxHeartbeats 4000000 in
theorem p_X12_odds {sc : zSc} {hp : zHp} {x1 : Int32} {x2 : Int32} {x3 : Int32} {x4 : Int32} {g : zSg} {r : Int32 × zSg} (h : f_X12_odds x1 x2 x3 x4 g = some r) : zRn sc hp 34 zM_X12_odds [.ref 526, .int x1, .int x2, .int x3, .int x4] (gm g) (some (.int r.1)) (gm r.2) := by
  intro d hD
  obtain ⟨d, rfl⟩ : ∃ d', d = d' + 1 := ⟨d - 1, by omega⟩
  show zG _ sc hp (zcd zM_X12_odds) 0 [some (.ref 526), some (.int x1), some (.int x2), some (.int x3), some (.int x4)] [] (gm g) _
  unfold f_X12_odds at h
  refine g_run 2 (pc' := 2) (L' := [some (.ref 526), some (.int x1), some (.int x2), some (.int x3), some (.int x4)]) (S' := [.int x1, .ref 526]) (M' := gm g) rfl ?_
  replace h := zB_of h
  obtain ⟨v1, g2, e3, h⟩ := h
  refine g_inv2 (kd := 1) (p_X12_isPerson  e3) rfl rfl rfl (by decide) rfl rfl rfl rfl (by omega) (pc' := 5) rfl (S' := [.int v1]) rfl ?_
  refine g_if (v1 = 0) rfl (t := 37) rfl rfl (fun c4 => ?_) (fun c4 => ?_)
  · replace h := (if_pos c4).symm.trans h
    refine g_run 1 (pc' := 38) (L' := [some (.ref 526), some (.int x1), some (.int x2), some (.int x3), some (.int x4)]) (S' := [.int (-1)]) (M' := gm g2) rfl ?_
    cases h
    exact g_ret rfl rfl rfl rfl
  · replace h := (if_neg c4).symm.trans h
    refine g_run 2 (pc' := 10) (L' := [some (.ref 526), some (.int x1), some (.int x2), some (.int x3), some (.int x4)]) (S' := [.int x2, .ref 526]) (M' := gm g2) rfl ?_
    replace h := zB_of h
    obtain ⟨v5, g6, e7, h⟩ := h
    refine g_inv2 (kd := 1) (p_X12_isSecret  e7) rfl rfl rfl (by decide) rfl rfl rfl rfl (by omega) (pc' := 13) rfl (S' := [.int v5]) rfl ?_
    refine g_if (v5 = 0) rfl (t := 37) rfl rfl (fun c8 => ?_) (fun c8 => ?_)
    · replace h := (if_pos c8).symm.trans h
      refine g_run 1 (pc' := 38) (L' := [some (.ref 526), some (.int x1), some (.int x2), some (.int x3), some (.int x4)]) (S' := [.int (-1)]) (M' := gm g6) rfl ?_
      cases h
      exact g_ret rfl rfl rfl rfl
    · replace h := (if_neg c8).symm.trans h
      refine g_run 3 (pc' := 20) (L' := [some (.ref 526), some (.int x1), some (.int x2), some (.int x3), some (.int x4)]) (S' := [.int 6, .int 0, .int x3]) (M' := gm g6) rfl ?_
      replace h := zB_of h
      obtain ⟨v9, g10, e11, h⟩ := h
      refine g_inv2 (kd := 0) (p_X12_in  e11) rfl rfl rfl (by decide) rfl rfl rfl rfl (by omega) (pc' := 23) rfl (S' := [.int v9]) rfl ?_
      refine g_if (v9 = 0) rfl (t := 37) rfl rfl (fun c12 => ?_) (fun c12 => ?_)
      · replace h := (if_pos c12).symm.trans h
        refine g_run 1 (pc' := 38) (L' := [some (.ref 526), some (.int x1), some (.int x2), some (.int x3), some (.int x4)]) (S' := [.int (-1)]) (M' := gm g10) rfl ?_
        cases h
        exact g_ret rfl rfl rfl rfl
      · replace h := (if_neg c12).symm.trans h
        refine g_run 3 (pc' := 31) (L' := [some (.ref 526), some (.int x1), some (.int x2), some (.int x3), some (.int x4)]) (S' := [.int 100, .int 0, .int x4]) (M' := gm g10) rfl ?_
        replace h := zB_of h
        obtain ⟨v13, g14, e15, h⟩ := h
        refine g_inv2 (kd := 0) (p_X12_in  e15) rfl rfl rfl (by decide) rfl rfl rfl rfl (by omega) (pc' := 34) rfl (S' := [.int v13]) rfl ?_
        refine g_if (¬ v13 = 0) rfl (t := 39) rfl rfl (fun c16 => ?_) (fun c16 => ?_)
        · replace h := (if_pos c16).symm.trans h
          refine g_run 7 (pc' := 49) (L' := [some (.ref 526), some (.int x1), some (.int x2), some (.int x3), some (.int x4)]) (S' := [.int 1000000000, .int x4, .int x3, .int x2, .int x1, .int 0, .ref 526]) (M' := gm g14) rfl ?_
          replace h := zB_of h
          obtain ⟨v17, g18, e19, h⟩ := h
          refine g_inv2 (kd := 1) (p_X12_oddsFrom zDp 0 x1 x2 x3 x4 1000000000 g14 _ e19) rfl rfl rfl (by decide) rfl rfl rfl rfl (by show _ ≤ _; unfold zDp; omega) (pc' := 52) rfl (S' := [.int v17]) rfl ?_
          cases h
          exact g_ret rfl rfl rfl rfl
        · replace h := (if_neg c16).symm.trans h
          refine g_run 1 (pc' := 38) (L' := [some (.ref 526), some (.int x1), some (.int x2), some (.int x3), some (.int x4)]) (S' := [.int (-1)]) (M' := gm g14) rfl ?_
          cases h
          exact g_ret rfl rfl rfl rfl
def fb_X12_breathAll_4 (kk : Int32 → Int32 → Int32 → zSg → Option (Int32 × zSg)) (y1 : Int32) (y2 : Int32) (y3 : Int32) (g : zSg) : Option (Int32 × zSg) := (if (gI g 526 26) ≤ y3 then some (y2, g) else (zB (f_X12_breathOf y1 y3 g) (fun v2 g3 => kk (y1) (y2 + v2) (y3 + 1) g3)))
def f_X12_breathAll_4 : Nat → Int32 → Int32 → Int32 → zSg → Option (Int32 × zSg)
  | 0, _, _, _, _ => none
  | n + 1, y1, y2, y3, g => fb_X12_breathAll_4 (f_X12_breathAll_4 n) y1 y2 y3 g
set_option maxRecDepth 100000 in
set_option maxHeartbeats 4000000 in
theorem p_X12_breathAll_4 {sc : zSc} {hp : zHp} {d : Nat} (hD : 1 ≤ d) : ∀ (n : Nat) (y1 : Int32) (y2 : Int32) (y3 : Int32) (g : zSg) (r : Int32 × zSg), f_X12_breathAll_4 n y1 y2 y3 g = some r → zG d sc hp (zcd zM_X12_breathAll) 4 [some (.ref 526), some (.int y1), some (.int y2), some (.int y3)] [] (gm g) ((some (.int r.1)), gm r.2) := by
  obtain ⟨d, rfl⟩ : ∃ d', d = d' + 1 := ⟨d - 1, by omega⟩
  intro n
  induction n with
  | zero => intro y1 y2 y3 g r h; cases h
  | succ n ih =>
    intro y1 y2 y3 g r h
    replace h : fb_X12_breathAll_4 (f_X12_breathAll_4 n) y1 y2 y3 g = some r := h
    unfold fb_X12_breathAll_4 at h
    refine g_run 3 (pc' := 9) (L' := [some (.ref 526), some (.int y1), some (.int y2), some (.int y3)]) (S' := [.int ((gI g 526 26)), .int y3]) (M' := gm g) rfl ?_
    refine g_icmp ((gI g 526 26) ≤ y3) rfl (t := 27) rfl rfl (fun c1 => ?_) (fun c1 => ?_)
    · replace h := (if_pos c1).symm.trans h
      refine g_run 1 (pc' := 28) (L' := [some (.ref 526), some (.int y1), some (.int y2), some (.int y3)]) (S' := [.int y2]) (M' := gm g) rfl ?_
      cases h
      exact g_ret rfl rfl rfl rfl
    · replace h := (if_neg c1).symm.trans h
      refine g_run 4 (pc' := 16) (L' := [some (.ref 526), some (.int y1), some (.int y2), some (.int y3)]) (S' := [.int y3, .int y1, .ref 526, .int y2]) (M' := gm g) rfl ?_
      replace h := zB_of h
      obtain ⟨v2, g3, e4, h⟩ := h
      refine g_inv2 (kd := 1) (p_X12_breathOf  e4) rfl rfl rfl (by decide) rfl rfl rfl rfl (by omega) (pc' := 19) rfl (S' := [.int v2, .int y2]) rfl ?_
      refine g_run 4 (pc' := 4) (L' := [some (.ref 526), some (.int y1), some (.int ((y2 + v2))), some (.int ((y3 + 1)))]) (S' := []) (M' := gm g3) rfl ?_
      exact ih (y1) (y2 + v2) (y3 + 1) g3 _ h
def f_X12_breathAll (x1 : Int32) (g : zSg) : Option (Int32 × zSg) := f_X12_breathAll_4 zFu (x1) (0) (0) g
set_option maxRecDepth 100000 in
set_option maxHeartbeats 4000000 in
theorem p_X12_breathAll {sc : zSc} {hp : zHp} {x1 : Int32} {g : zSg} {r : Int32 × zSg} (h : f_X12_breathAll x1 g = some r) : zRn sc hp 1 zM_X12_breathAll [.ref 526, .int x1] (gm g) (some (.int r.1)) (gm r.2) := by
  intro d hD
  obtain ⟨d, rfl⟩ : ∃ d', d = d' + 1 := ⟨d - 1, by omega⟩
  show zG _ sc hp (zcd zM_X12_breathAll) 0 [some (.ref 526), some (.int x1), none, none] [] (gm g) _
  unfold f_X12_breathAll at h
  refine g_run 4 (pc' := 4) (L' := [some (.ref 526), some (.int x1), some (.int 0), some (.int 0)]) (S' := []) (M' := gm g) rfl ?_
  exact p_X12_breathAll_4 hD zFu (x1) (0) (0) g _ h
def f_X12_shares_50 (y1 : Int32) (y2 : Int32) (y3 : Int32) (g : zSg) : Option (Int32 × zSg) := (if ¬ y3 = 0 then (zB (f_X12_breathAll y1 g) (fun v2 g3 => (if y3 = 0 then none else some (((y2 * v2) / y3), g3)))) else some (0, g))
set_option maxRecDepth 100000 in
set_option maxHeartbeats 4000000 in
theorem p_X12_shares_50 {sc : zSc} {hp : zHp} {d : Nat} (hD : 2 ≤ d) (y1 : Int32) (y2 : Int32) (y3 : Int32) (g : zSg) (r : Int32 × zSg) (h : f_X12_shares_50 y1 y2 y3 g = some r) : zG d sc hp (zcd zM_X12_shares) 50 [some (.ref 526), some (.int y1), some (.int y2), some (.int y3), none] [] (gm g) ((some (.int r.1)), gm r.2) := by
  obtain ⟨d, rfl⟩ : ∃ d', d = d' + 1 := ⟨d - 1, by omega⟩
  unfold f_X12_shares_50 at h
  refine g_run 1 (pc' := 51) (L' := [some (.ref 526), some (.int y1), some (.int y2), some (.int y3), none]) (S' := [.int y3]) (M' := gm g) rfl ?_
  refine g_if (¬ y3 = 0) rfl (t := 58) rfl rfl (fun c1 => ?_) (fun c1 => ?_)
  · replace h := (if_pos c1).symm.trans h
    refine g_run 3 (pc' := 61) (L' := [some (.ref 526), some (.int y1), some (.int y2), some (.int y3), none]) (S' := [.int y1, .ref 526, .int y2]) (M' := gm g) rfl ?_
    replace h := zB_of h
    obtain ⟨v2, g3, e4, h⟩ := h
    refine g_inv2 (kd := 1) (p_X12_breathAll  e4) rfl rfl rfl (by decide) rfl rfl rfl rfl (by omega) (pc' := 64) rfl (S' := [.int v2, .int y2]) rfl ?_
    refine g_run 2 (pc' := 66) (L' := [some (.ref 526), some (.int y1), some (.int y2), some (.int y3), none]) (S' := [.int y3, .int ((y2 * v2))]) (M' := gm g3) rfl ?_
    by_cases c5 : y3 = 0
    case pos => exact nomatch ((if_pos c5).symm.trans h)
    replace h := (if_neg c5).symm.trans h
    refine g_div rfl c5 ?_
    cases h
    exact g_ret rfl rfl rfl rfl
  · replace h := (if_neg c1).symm.trans h
    refine g_run 2 (pc' := 67) (L' := [some (.ref 526), some (.int y1), some (.int y2), some (.int y3), none]) (S' := [.int 0]) (M' := gm g) rfl ?_
    cases h
    exact g_ret rfl rfl rfl rfl
def fb_X12_shares_26 (kk : Int32 → Int32 → Int32 → Int32 → zSg → Option (Int32 × zSg)) (y1 : Int32) (y2 : Int32) (y3 : Int32) (y4 : Int32) (g : zSg) : Option (Int32 × zSg) := (if (gI g 526 25) ≤ y4 then f_X12_shares_50 (y1) (y2) (y3) g else (zB (f_X12_breathAll y4 g) (fun v2 g3 => kk (y1) (y2) (y3 + v2) (y4 + 1) g3)))
def f_X12_shares_26 : Nat → Int32 → Int32 → Int32 → Int32 → zSg → Option (Int32 × zSg)
  | 0, _, _, _, _, _ => none
  | n + 1, y1, y2, y3, y4, g => fb_X12_shares_26 (f_X12_shares_26 n) y1 y2 y3 y4 g
set_option maxRecDepth 100000 in
set_option maxHeartbeats 4000000 in
theorem p_X12_shares_26 {sc : zSc} {hp : zHp} {d : Nat} (hD : 2 ≤ d) : ∀ (n : Nat) (y1 : Int32) (y2 : Int32) (y3 : Int32) (y4 : Int32) (g : zSg) (r : Int32 × zSg), f_X12_shares_26 n y1 y2 y3 y4 g = some r → zG d sc hp (zcd zM_X12_shares) 26 [some (.ref 526), some (.int y1), some (.int y2), some (.int y3), some (.int y4)] [] (gm g) ((some (.int r.1)), gm r.2) := by
  obtain ⟨d, rfl⟩ : ∃ d', d = d' + 1 := ⟨d - 1, by omega⟩
  intro n
  induction n with
  | zero => intro y1 y2 y3 y4 g r h; cases h
  | succ n ih =>
    intro y1 y2 y3 y4 g r h
    replace h : fb_X12_shares_26 (f_X12_shares_26 n) y1 y2 y3 y4 g = some r := h
    unfold fb_X12_shares_26 at h
    refine g_run 3 (pc' := 32) (L' := [some (.ref 526), some (.int y1), some (.int y2), some (.int y3), some (.int y4)]) (S' := [.int ((gI g 526 25)), .int y4]) (M' := gm g) rfl ?_
    refine g_icmp ((gI g 526 25) ≤ y4) rfl (t := 50) rfl rfl (fun c1 => ?_) (fun c1 => ?_)
    · replace h := (if_pos c1).symm.trans h
      refine g_forget (L' := [some (.ref 526), some (.int y1), some (.int y2), some (.int y3), none]) (And.intro rfl (And.intro rfl (And.intro rfl (And.intro rfl True.intro)))) ?_
      exact p_X12_shares_50 hD (y1) (y2) (y3) g _ h
    · replace h := (if_neg c1).symm.trans h
      refine g_run 3 (pc' := 39) (L' := [some (.ref 526), some (.int y1), some (.int y2), some (.int y3), some (.int y4)]) (S' := [.int y4, .ref 526, .int y3]) (M' := gm g) rfl ?_
      replace h := zB_of h
      obtain ⟨v2, g3, e4, h⟩ := h
      refine g_inv2 (kd := 1) (p_X12_breathAll  e4) rfl rfl rfl (by decide) rfl rfl rfl rfl (by omega) (pc' := 42) rfl (S' := [.int v2, .int y3]) rfl ?_
      refine g_run 4 (pc' := 26) (L' := [some (.ref 526), some (.int y1), some (.int y2), some (.int ((y3 + v2))), some (.int ((y4 + 1)))]) (S' := []) (M' := gm g3) rfl ?_
      exact ih (y1) (y2) (y3 + v2) (y4 + 1) g3 _ h
def f_X12_shares (x1 : Int32) (x2 : Int32) (g : zSg) : Option (Int32 × zSg) := (zB (f_X12_isPerson x1 g) (fun v1 g2 => (if v1 = 0 then some ((-1), g2) else (zB (f_X12_in x2 0 999 g2) (fun v5 g6 => (if ¬ v5 = 0 then f_X12_shares_26 zFu (x1) (x2) (0) (0) g6 else some ((-1), g6)))))))
set_option maxRecDepth 100000 in
set_option maxHeartbeats 4000000 in
theorem p_X12_shares {sc : zSc} {hp : zHp} {x1 : Int32} {x2 : Int32} {g : zSg} {r : Int32 × zSg} (h : f_X12_shares x1 x2 g = some r) : zRn sc hp 2 zM_X12_shares [.ref 526, .int x1, .int x2] (gm g) (some (.int r.1)) (gm r.2) := by
  intro d hD
  obtain ⟨d, rfl⟩ : ∃ d', d = d' + 1 := ⟨d - 1, by omega⟩
  show zG _ sc hp (zcd zM_X12_shares) 0 [some (.ref 526), some (.int x1), some (.int x2), none, none] [] (gm g) _
  unfold f_X12_shares at h
  refine g_run 2 (pc' := 2) (L' := [some (.ref 526), some (.int x1), some (.int x2), none, none]) (S' := [.int x1, .ref 526]) (M' := gm g) rfl ?_
  replace h := zB_of h
  obtain ⟨v1, g2, e3, h⟩ := h
  refine g_inv2 (kd := 1) (p_X12_isPerson  e3) rfl rfl rfl (by decide) rfl rfl rfl rfl (by omega) (pc' := 5) rfl (S' := [.int v1]) rfl ?_
  refine g_if (v1 = 0) rfl (t := 19) rfl rfl (fun c4 => ?_) (fun c4 => ?_)
  · replace h := (if_pos c4).symm.trans h
    refine g_run 1 (pc' := 20) (L' := [some (.ref 526), some (.int x1), some (.int x2), none, none]) (S' := [.int (-1)]) (M' := gm g2) rfl ?_
    cases h
    exact g_ret rfl rfl rfl rfl
  · replace h := (if_neg c4).symm.trans h
    refine g_run 3 (pc' := 13) (L' := [some (.ref 526), some (.int x1), some (.int x2), none, none]) (S' := [.int 999, .int 0, .int x2]) (M' := gm g2) rfl ?_
    replace h := zB_of h
    obtain ⟨v5, g6, e7, h⟩ := h
    refine g_inv2 (kd := 0) (p_X12_in  e7) rfl rfl rfl (by decide) rfl rfl rfl rfl (by omega) (pc' := 16) rfl (S' := [.int v5]) rfl ?_
    refine g_if (¬ v5 = 0) rfl (t := 21) rfl rfl (fun c8 => ?_) (fun c8 => ?_)
    · replace h := (if_pos c8).symm.trans h
      refine g_run 4 (pc' := 26) (L' := [some (.ref 526), some (.int x1), some (.int x2), some (.int 0), some (.int 0)]) (S' := []) (M' := gm g6) rfl ?_
      exact p_X12_shares_26 hD zFu (x1) (x2) (0) (0) g6 _ h
    · replace h := (if_neg c8).symm.trans h
      refine g_run 1 (pc' := 20) (L' := [some (.ref 526), some (.int x1), some (.int x2), none, none]) (S' := [.int (-1)]) (M' := gm g6) rfl ?_
      cases h
      exact g_ret rfl rfl rfl rfl
def f_X12_topPerson_80 (k4 : Int32 → Int32 → Int32 → zSg → Option (Int32 × zSg)) (y1 : Int32) (y3 : Int32) (s0 : Int32) (g : zSg) : Option (Int32 × zSg) := k4 (y1) (s0) (y3 + 1) g
set_option maxRecDepth 100000 in
set_option maxHeartbeats 4000000 in
theorem p_X12_topPerson_80 {sc : zSc} {hp : zHp} {d : Nat} (hD : 3 ≤ d) (k4 : Int32 → Int32 → Int32 → zSg → Option (Int32 × zSg)) (hk4 : ∀ (y1 : Int32) (y2 : Int32) (y3 : Int32) (g : zSg) (r : Int32 × zSg), k4 y1 y2 y3 g = some r → zG d sc hp (zcd zM_X12_topPerson) 4 [some (.ref 526), some (.int y1), some (.int y2), some (.int y3), none] [] (gm g) ((some (.int r.1)), gm r.2)) (y1 : Int32) (y3 : Int32) (s0 : Int32) (g : zSg) (r : Int32 × zSg) (h : f_X12_topPerson_80 k4 y1 y3 s0 g = some r) : zG d sc hp (zcd zM_X12_topPerson) 80 [some (.ref 526), some (.int y1), none, some (.int y3), none] [.int s0] (gm g) ((some (.int r.1)), gm r.2) := by
  obtain ⟨d, rfl⟩ : ∃ d', d = d' + 1 := ⟨d - 1, by omega⟩
  unfold f_X12_topPerson_80 at h
  refine g_run 3 (pc' := 4) (L' := [some (.ref 526), some (.int y1), some (.int s0), some (.int ((y3 + 1))), none]) (S' := []) (M' := gm g) rfl ?_
  exact hk4 (y1) (s0) (y3 + 1) g _ h
def f_X12_topPerson_68 (k4 : Int32 → Int32 → Int32 → zSg → Option (Int32 × zSg)) (y1 : Int32) (y2 : Int32) (y3 : Int32) (s0 : Int32) (g : zSg) : Option (Int32 × zSg) := (if s0 ≤ 0 then f_X12_topPerson_80 k4 (y1) (y3) (y2) g else f_X12_topPerson_80 k4 (y1) (y3) (y3) g)
set_option maxRecDepth 100000 in
set_option maxHeartbeats 4000000 in
theorem p_X12_topPerson_68 {sc : zSc} {hp : zHp} {d : Nat} (hD : 3 ≤ d) (k4 : Int32 → Int32 → Int32 → zSg → Option (Int32 × zSg)) (hk4 : ∀ (y1 : Int32) (y2 : Int32) (y3 : Int32) (g : zSg) (r : Int32 × zSg), k4 y1 y2 y3 g = some r → zG d sc hp (zcd zM_X12_topPerson) 4 [some (.ref 526), some (.int y1), some (.int y2), some (.int y3), none] [] (gm g) ((some (.int r.1)), gm r.2)) (y1 : Int32) (y2 : Int32) (y3 : Int32) (s0 : Int32) (g : zSg) (r : Int32 × zSg) (h : f_X12_topPerson_68 k4 y1 y2 y3 s0 g = some r) : zG d sc hp (zcd zM_X12_topPerson) 68 [some (.ref 526), some (.int y1), some (.int y2), some (.int y3), none] [.int s0] (gm g) ((some (.int r.1)), gm r.2) := by
  obtain ⟨d, rfl⟩ : ∃ d', d = d' + 1 := ⟨d - 1, by omega⟩
  unfold f_X12_topPerson_68 at h
  refine g_run 2 (pc' := 72) (L' := [some (.ref 526), some (.int y1), some (.int y2), some (.int y3), some (.int s0)]) (S' := [.int s0]) (M' := gm g) rfl ?_
  refine g_if (s0 ≤ 0) rfl (t := 79) rfl rfl (fun c1 => ?_) (fun c1 => ?_)
  · replace h := (if_pos c1).symm.trans h
    refine g_run 1 (pc' := 80) (L' := [some (.ref 526), some (.int y1), some (.int y2), some (.int y3), some (.int s0)]) (S' := [.int y2]) (M' := gm g) rfl ?_
    refine g_forget (L' := [some (.ref 526), some (.int y1), none, some (.int y3), none]) (And.intro rfl (And.intro rfl (And.intro rfl True.intro))) ?_
    exact p_X12_topPerson_80 hD k4 hk4 (y1) (y3) (y2) g _ h
  · replace h := (if_neg c1).symm.trans h
    refine g_run 2 (pc' := 80) (L' := [some (.ref 526), some (.int y1), some (.int y2), some (.int y3), some (.int s0)]) (S' := [.int y3]) (M' := gm g) rfl ?_
    refine g_forget (L' := [some (.ref 526), some (.int y1), none, some (.int y3), none]) (And.intro rfl (And.intro rfl (And.intro rfl True.intro))) ?_
    exact p_X12_topPerson_80 hD k4 hk4 (y1) (y3) (y3) g _ h
def fb_X12_topPerson_4 (kk : Int32 → Int32 → Int32 → zSg → Option (Int32 × zSg)) (y1 : Int32) (y2 : Int32) (y3 : Int32) (g : zSg) : Option (Int32 × zSg) := (if (gI g 526 25) ≤ y3 then some (y2, g) else (if ¬ y1 = 0 then (if ¬ y1 = 1 then (zB (f_X12_breathAll y3 g) (fun v4 g5 => (zB (f_X12_breathAll y2 g5) (fun v7 g8 => f_X12_topPerson_68 kk (y1) (y2) (y3) (v4 - v7) g8)))) else (zB (f_X12_ofPerson y2 2 g) (fun v10 g11 => (zB (f_X12_ofPerson y3 2 g11) (fun v13 g14 => f_X12_topPerson_68 kk (y1) (y2) (y3) (v10 - v13) g14))))) else (zB (f_X12_knownTo y3 g) (fun v16 g17 => (zB (f_J6_bitCount_0f7a4 v16 g17) (fun v19 g20 => (zB (f_X12_knownTo y2 g20) (fun v22 g23 => (zB (f_J6_bitCount_0f7a4 v22 g23) (fun v25 g26 => f_X12_topPerson_68 kk (y1) (y2) (y3) (v19 - v25) g26))))))))))
def f_X12_topPerson_4 : Nat → Int32 → Int32 → Int32 → zSg → Option (Int32 × zSg)
  | 0, _, _, _, _ => none
  | n + 1, y1, y2, y3, g => fb_X12_topPerson_4 (f_X12_topPerson_4 n) y1 y2 y3 g
set_option maxRecDepth 100000 in
set_option maxHeartbeats 4000000 in
theorem p_X12_topPerson_4 {sc : zSc} {hp : zHp} {d : Nat} (hD : 3 ≤ d) : ∀ (n : Nat) (y1 : Int32) (y2 : Int32) (y3 : Int32) (g : zSg) (r : Int32 × zSg), f_X12_topPerson_4 n y1 y2 y3 g = some r → zG d sc hp (zcd zM_X12_topPerson) 4 [some (.ref 526), some (.int y1), some (.int y2), some (.int y3), none] [] (gm g) ((some (.int r.1)), gm r.2) := by
  obtain ⟨d, rfl⟩ : ∃ d', d = d' + 1 := ⟨d - 1, by omega⟩
  intro n
  induction n with
  | zero => intro y1 y2 y3 g r h; cases h
  | succ n ih =>
    intro y1 y2 y3 g r h
    replace h : fb_X12_topPerson_4 (f_X12_topPerson_4 n) y1 y2 y3 g = some r := h
    unfold fb_X12_topPerson_4 at h
    refine g_run 3 (pc' := 9) (L' := [some (.ref 526), some (.int y1), some (.int y2), some (.int y3), none]) (S' := [.int ((gI g 526 25)), .int y3]) (M' := gm g) rfl ?_
    refine g_icmp ((gI g 526 25) ≤ y3) rfl (t := 87) rfl rfl (fun c1 => ?_) (fun c1 => ?_)
    · replace h := (if_pos c1).symm.trans h
      refine g_run 1 (pc' := 88) (L' := [some (.ref 526), some (.int y1), some (.int y2), some (.int y3), none]) (S' := [.int y2]) (M' := gm g) rfl ?_
      cases h
      exact g_ret rfl rfl rfl rfl
    · replace h := (if_neg c1).symm.trans h
      refine g_run 1 (pc' := 13) (L' := [some (.ref 526), some (.int y1), some (.int y2), some (.int y3), none]) (S' := [.int y1]) (M' := gm g) rfl ?_
      refine g_if (¬ y1 = 0) rfl (t := 36) rfl rfl (fun c2 => ?_) (fun c2 => ?_)
      · replace h := (if_pos c2).symm.trans h
        refine g_run 2 (pc' := 38) (L' := [some (.ref 526), some (.int y1), some (.int y2), some (.int y3), none]) (S' := [.int 1, .int y1]) (M' := gm g) rfl ?_
        refine g_icmp (¬ y1 = 1) rfl (t := 57) rfl rfl (fun c3 => ?_) (fun c3 => ?_)
        · replace h := (if_pos c3).symm.trans h
          refine g_run 2 (pc' := 59) (L' := [some (.ref 526), some (.int y1), some (.int y2), some (.int y3), none]) (S' := [.int y3, .ref 526]) (M' := gm g) rfl ?_
          replace h := zB_of h
          obtain ⟨v4, g5, e6, h⟩ := h
          refine g_inv2 (kd := 1) (p_X12_breathAll  e6) rfl rfl rfl (by decide) rfl rfl rfl rfl (by omega) (pc' := 62) rfl (S' := [.int v4]) rfl ?_
          refine g_run 2 (pc' := 64) (L' := [some (.ref 526), some (.int y1), some (.int y2), some (.int y3), none]) (S' := [.int y2, .ref 526, .int v4]) (M' := gm g5) rfl ?_
          replace h := zB_of h
          obtain ⟨v7, g8, e9, h⟩ := h
          refine g_inv2 (kd := 1) (p_X12_breathAll  e9) rfl rfl rfl (by decide) rfl rfl rfl rfl (by omega) (pc' := 67) rfl (S' := [.int v7, .int v4]) rfl ?_
          refine g_run 1 (pc' := 68) (L' := [some (.ref 526), some (.int y1), some (.int y2), some (.int y3), none]) (S' := [.int ((v4 - v7))]) (M' := gm g8) rfl ?_
          exact p_X12_topPerson_68 hD (f_X12_topPerson_4 n) ih (y1) (y2) (y3) (v4 - v7) g8 _ h
        · replace h := (if_neg c3).symm.trans h
          refine g_run 3 (pc' := 44) (L' := [some (.ref 526), some (.int y1), some (.int y2), some (.int y3), none]) (S' := [.int 2, .int y2, .ref 526]) (M' := gm g) rfl ?_
          replace h := zB_of h
          obtain ⟨v10, g11, e12, h⟩ := h
          refine g_inv2 (kd := 1) (p_X12_ofPerson  e12) rfl rfl rfl (by decide) rfl rfl rfl rfl (by omega) (pc' := 47) rfl (S' := [.int v10]) rfl ?_
          refine g_run 3 (pc' := 50) (L' := [some (.ref 526), some (.int y1), some (.int y2), some (.int y3), none]) (S' := [.int 2, .int y3, .ref 526, .int v10]) (M' := gm g11) rfl ?_
          replace h := zB_of h
          obtain ⟨v13, g14, e15, h⟩ := h
          refine g_inv2 (kd := 1) (p_X12_ofPerson  e15) rfl rfl rfl (by decide) rfl rfl rfl rfl (by omega) (pc' := 53) rfl (S' := [.int v13, .int v10]) rfl ?_
          refine g_run 2 (pc' := 68) (L' := [some (.ref 526), some (.int y1), some (.int y2), some (.int y3), none]) (S' := [.int ((v10 - v13))]) (M' := gm g14) rfl ?_
          exact p_X12_topPerson_68 hD (f_X12_topPerson_4 n) ih (y1) (y2) (y3) (v10 - v13) g14 _ h
      · replace h := (if_neg c2).symm.trans h
        refine g_run 2 (pc' := 18) (L' := [some (.ref 526), some (.int y1), some (.int y2), some (.int y3), none]) (S' := [.int y3, .ref 526]) (M' := gm g) rfl ?_
        replace h := zB_of h
        obtain ⟨v16, g17, e18, h⟩ := h
        refine g_inv2 (kd := 1) (p_X12_knownTo  e18) rfl rfl rfl (by decide) rfl rfl rfl rfl (by omega) (pc' := 21) rfl (S' := [.int v16]) rfl ?_
        replace h := zB_of h
        obtain ⟨v19, g20, e21, h⟩ := h
        refine g_inv2 (kd := 0) (p_J6_bitCount_0f7a4  e21) rfl rfl rfl (by decide) rfl rfl rfl rfl (by omega) (pc' := 24) rfl (S' := [.int v19]) rfl ?_
        refine g_run 2 (pc' := 26) (L' := [some (.ref 526), some (.int y1), some (.int y2), some (.int y3), none]) (S' := [.int y2, .ref 526, .int v19]) (M' := gm g20) rfl ?_
        replace h := zB_of h
        obtain ⟨v22, g23, e24, h⟩ := h
        refine g_inv2 (kd := 1) (p_X12_knownTo  e24) rfl rfl rfl (by decide) rfl rfl rfl rfl (by omega) (pc' := 29) rfl (S' := [.int v22, .int v19]) rfl ?_
        replace h := zB_of h
        obtain ⟨v25, g26, e27, h⟩ := h
        refine g_inv2 (kd := 0) (p_J6_bitCount_0f7a4  e27) rfl rfl rfl (by decide) rfl rfl rfl rfl (by omega) (pc' := 32) rfl (S' := [.int v25, .int v19]) rfl ?_
        refine g_run 2 (pc' := 68) (L' := [some (.ref 526), some (.int y1), some (.int y2), some (.int y3), none]) (S' := [.int ((v19 - v25))]) (M' := gm g26) rfl ?_
        exact p_X12_topPerson_68 hD (f_X12_topPerson_4 n) ih (y1) (y2) (y3) (v19 - v25) g26 _ h
def f_X12_topPerson (x1 : Int32) (g : zSg) : Option (Int32 × zSg) := f_X12_topPerson_4 zFu (x1) (0) (1) g
set_option maxRecDepth 100000 in
set_option maxHeartbeats 4000000 in
theorem p_X12_topPerson {sc : zSc} {hp : zHp} {x1 : Int32} {g : zSg} {r : Int32 × zSg} (h : f_X12_topPerson x1 g = some r) : zRn sc hp 3 zM_X12_topPerson [.ref 526, .int x1] (gm g) (some (.int r.1)) (gm r.2) := by
  intro d hD
  obtain ⟨d, rfl⟩ : ∃ d', d = d' + 1 := ⟨d - 1, by omega⟩
  show zG _ sc hp (zcd zM_X12_topPerson) 0 [some (.ref 526), some (.int x1), none, none, none] [] (gm g) _
  unfold f_X12_topPerson at h
  refine g_run 4 (pc' := 4) (L' := [some (.ref 526), some (.int x1), some (.int 0), some (.int 1), none]) (S' := []) (M' := gm g) rfl ?_
  exact p_X12_topPerson_4 hD zFu (x1) (0) (1) g _ h
def f_X12_topSecret_61 (k4 : Int32 → Int32 → Int32 → zSg → Option (Int32 × zSg)) (y1 : Int32) (y3 : Int32) (s0 : Int32) (g : zSg) : Option (Int32 × zSg) := k4 (y1) (s0) (y3 + 1) g
set_option maxRecDepth 100000 in
set_option maxHeartbeats 4000000 in
theorem p_X12_topSecret_61 {sc : zSc} {hp : zHp} {d : Nat} (hD : 3 ≤ d) (k4 : Int32 → Int32 → Int32 → zSg → Option (Int32 × zSg)) (hk4 : ∀ (y1 : Int32) (y2 : Int32) (y3 : Int32) (g : zSg) (r : Int32 × zSg), k4 y1 y2 y3 g = some r → zG d sc hp (zcd zM_X12_topSecret) 4 [some (.ref 526), some (.int y1), some (.int y2), some (.int y3), none] [] (gm g) ((some (.int r.1)), gm r.2)) (y1 : Int32) (y3 : Int32) (s0 : Int32) (g : zSg) (r : Int32 × zSg) (h : f_X12_topSecret_61 k4 y1 y3 s0 g = some r) : zG d sc hp (zcd zM_X12_topSecret) 61 [some (.ref 526), some (.int y1), none, some (.int y3), none] [.int s0] (gm g) ((some (.int r.1)), gm r.2) := by
  obtain ⟨d, rfl⟩ : ∃ d', d = d' + 1 := ⟨d - 1, by omega⟩
  unfold f_X12_topSecret_61 at h
  refine g_run 3 (pc' := 4) (L' := [some (.ref 526), some (.int y1), some (.int s0), some (.int ((y3 + 1))), none]) (S' := []) (M' := gm g) rfl ?_
  exact hk4 (y1) (s0) (y3 + 1) g _ h
def f_X12_topSecret_49 (k4 : Int32 → Int32 → Int32 → zSg → Option (Int32 × zSg)) (y1 : Int32) (y2 : Int32) (y3 : Int32) (s0 : Int32) (g : zSg) : Option (Int32 × zSg) := (if s0 ≤ 0 then f_X12_topSecret_61 k4 (y1) (y3) (y2) g else f_X12_topSecret_61 k4 (y1) (y3) (y3) g)
set_option maxRecDepth 100000 in
set_option maxHeartbeats 4000000 in
theorem p_X12_topSecret_49 {sc : zSc} {hp : zHp} {d : Nat} (hD : 3 ≤ d) (k4 : Int32 → Int32 → Int32 → zSg → Option (Int32 × zSg)) (hk4 : ∀ (y1 : Int32) (y2 : Int32) (y3 : Int32) (g : zSg) (r : Int32 × zSg), k4 y1 y2 y3 g = some r → zG d sc hp (zcd zM_X12_topSecret) 4 [some (.ref 526), some (.int y1), some (.int y2), some (.int y3), none] [] (gm g) ((some (.int r.1)), gm r.2)) (y1 : Int32) (y2 : Int32) (y3 : Int32) (s0 : Int32) (g : zSg) (r : Int32 × zSg) (h : f_X12_topSecret_49 k4 y1 y2 y3 s0 g = some r) : zG d sc hp (zcd zM_X12_topSecret) 49 [some (.ref 526), some (.int y1), some (.int y2), some (.int y3), none] [.int s0] (gm g) ((some (.int r.1)), gm r.2) := by
  obtain ⟨d, rfl⟩ : ∃ d', d = d' + 1 := ⟨d - 1, by omega⟩
  unfold f_X12_topSecret_49 at h
  refine g_run 2 (pc' := 53) (L' := [some (.ref 526), some (.int y1), some (.int y2), some (.int y3), some (.int s0)]) (S' := [.int s0]) (M' := gm g) rfl ?_
  refine g_if (s0 ≤ 0) rfl (t := 60) rfl rfl (fun c1 => ?_) (fun c1 => ?_)
  · replace h := (if_pos c1).symm.trans h
    refine g_run 1 (pc' := 61) (L' := [some (.ref 526), some (.int y1), some (.int y2), some (.int y3), some (.int s0)]) (S' := [.int y2]) (M' := gm g) rfl ?_
    refine g_forget (L' := [some (.ref 526), some (.int y1), none, some (.int y3), none]) (And.intro rfl (And.intro rfl (And.intro rfl True.intro))) ?_
    exact p_X12_topSecret_61 hD k4 hk4 (y1) (y3) (y2) g _ h
  · replace h := (if_neg c1).symm.trans h
    refine g_run 2 (pc' := 61) (L' := [some (.ref 526), some (.int y1), some (.int y2), some (.int y3), some (.int s0)]) (S' := [.int y3]) (M' := gm g) rfl ?_
    refine g_forget (L' := [some (.ref 526), some (.int y1), none, some (.int y3), none]) (And.intro rfl (And.intro rfl (And.intro rfl True.intro))) ?_
    exact p_X12_topSecret_61 hD k4 hk4 (y1) (y3) (y3) g _ h
def fb_X12_topSecret_4 (kk : Int32 → Int32 → Int32 → zSg → Option (Int32 × zSg)) (y1 : Int32) (y2 : Int32) (y3 : Int32) (g : zSg) : Option (Int32 × zSg) := (if (gI g 526 26) ≤ y3 then some (y2, g) else (if y1 = 0 then (zB (f_X12_knownOf y2 g) (fun v3 g4 => (zB (f_J6_bitCount_0f7a4 v3 g4) (fun v6 g7 => (zB (f_X12_knownOf y3 g7) (fun v9 g10 => (zB (f_J6_bitCount_0f7a4 v9 g10) (fun v12 g13 => f_X12_topSecret_49 kk (y1) (y2) (y3) (v6 - v12) g13)))))))) else (zB (f_X12_of y3 1 g) (fun v15 g16 => (zB (f_X12_of y2 1 g16) (fun v18 g19 => f_X12_topSecret_49 kk (y1) (y2) (y3) (v15 - v18) g19))))))
def f_X12_topSecret_4 : Nat → Int32 → Int32 → Int32 → zSg → Option (Int32 × zSg)
  | 0, _, _, _, _ => none
  | n + 1, y1, y2, y3, g => fb_X12_topSecret_4 (f_X12_topSecret_4 n) y1 y2 y3 g
set_option maxRecDepth 100000 in
set_option maxHeartbeats 4000000 in
theorem p_X12_topSecret_4 {sc : zSc} {hp : zHp} {d : Nat} (hD : 3 ≤ d) : ∀ (n : Nat) (y1 : Int32) (y2 : Int32) (y3 : Int32) (g : zSg) (r : Int32 × zSg), f_X12_topSecret_4 n y1 y2 y3 g = some r → zG d sc hp (zcd zM_X12_topSecret) 4 [some (.ref 526), some (.int y1), some (.int y2), some (.int y3), none] [] (gm g) ((some (.int r.1)), gm r.2) := by
  obtain ⟨d, rfl⟩ : ∃ d', d = d' + 1 := ⟨d - 1, by omega⟩
  intro n
  induction n with
  | zero => intro y1 y2 y3 g r h; cases h
  | succ n ih =>
    intro y1 y2 y3 g r h
    replace h : fb_X12_topSecret_4 (f_X12_topSecret_4 n) y1 y2 y3 g = some r := h
    unfold fb_X12_topSecret_4 at h
    refine g_run 3 (pc' := 9) (L' := [some (.ref 526), some (.int y1), some (.int y2), some (.int y3), none]) (S' := [.int ((gI g 526 26)), .int y3]) (M' := gm g) rfl ?_
    refine g_icmp ((gI g 526 26) ≤ y3) rfl (t := 68) rfl rfl (fun c1 => ?_) (fun c1 => ?_)
    · replace h := (if_pos c1).symm.trans h
      refine g_run 1 (pc' := 69) (L' := [some (.ref 526), some (.int y1), some (.int y2), some (.int y3), none]) (S' := [.int y2]) (M' := gm g) rfl ?_
      cases h
      exact g_ret rfl rfl rfl rfl
    · replace h := (if_neg c1).symm.trans h
      refine g_run 1 (pc' := 13) (L' := [some (.ref 526), some (.int y1), some (.int y2), some (.int y3), none]) (S' := [.int y1]) (M' := gm g) rfl ?_
      refine g_if (y1 = 0) rfl (t := 32) rfl rfl (fun c2 => ?_) (fun c2 => ?_)
      · replace h := (if_pos c2).symm.trans h
        refine g_run 2 (pc' := 34) (L' := [some (.ref 526), some (.int y1), some (.int y2), some (.int y3), none]) (S' := [.int y2, .ref 526]) (M' := gm g) rfl ?_
        replace h := zB_of h
        obtain ⟨v3, g4, e5, h⟩ := h
        refine g_inv2 (kd := 1) (p_X12_knownOf  e5) rfl rfl rfl (by decide) rfl rfl rfl rfl (by omega) (pc' := 37) rfl (S' := [.int v3]) rfl ?_
        replace h := zB_of h
        obtain ⟨v6, g7, e8, h⟩ := h
        refine g_inv2 (kd := 0) (p_J6_bitCount_0f7a4  e8) rfl rfl rfl (by decide) rfl rfl rfl rfl (by omega) (pc' := 40) rfl (S' := [.int v6]) rfl ?_
        refine g_run 2 (pc' := 42) (L' := [some (.ref 526), some (.int y1), some (.int y2), some (.int y3), none]) (S' := [.int y3, .ref 526, .int v6]) (M' := gm g7) rfl ?_
        replace h := zB_of h
        obtain ⟨v9, g10, e11, h⟩ := h
        refine g_inv2 (kd := 1) (p_X12_knownOf  e11) rfl rfl rfl (by decide) rfl rfl rfl rfl (by omega) (pc' := 45) rfl (S' := [.int v9, .int v6]) rfl ?_
        replace h := zB_of h
        obtain ⟨v12, g13, e14, h⟩ := h
        refine g_inv2 (kd := 0) (p_J6_bitCount_0f7a4  e14) rfl rfl rfl (by decide) rfl rfl rfl rfl (by omega) (pc' := 48) rfl (S' := [.int v12, .int v6]) rfl ?_
        refine g_run 1 (pc' := 49) (L' := [some (.ref 526), some (.int y1), some (.int y2), some (.int y3), none]) (S' := [.int ((v6 - v12))]) (M' := gm g13) rfl ?_
        exact p_X12_topSecret_49 hD (f_X12_topSecret_4 n) ih (y1) (y2) (y3) (v6 - v12) g13 _ h
      · replace h := (if_neg c2).symm.trans h
        refine g_run 3 (pc' := 19) (L' := [some (.ref 526), some (.int y1), some (.int y2), some (.int y3), none]) (S' := [.int 1, .int y3, .ref 526]) (M' := gm g) rfl ?_
        replace h := zB_of h
        obtain ⟨v15, g16, e17, h⟩ := h
        refine g_inv2 (kd := 1) (p_X12_of  e17) rfl rfl rfl (by decide) rfl rfl rfl rfl (by omega) (pc' := 22) rfl (S' := [.int v15]) rfl ?_
        refine g_run 3 (pc' := 25) (L' := [some (.ref 526), some (.int y1), some (.int y2), some (.int y3), none]) (S' := [.int 1, .int y2, .ref 526, .int v15]) (M' := gm g16) rfl ?_
        replace h := zB_of h
        obtain ⟨v18, g19, e20, h⟩ := h
        refine g_inv2 (kd := 1) (p_X12_of  e20) rfl rfl rfl (by decide) rfl rfl rfl rfl (by omega) (pc' := 28) rfl (S' := [.int v18, .int v15]) rfl ?_
        refine g_run 2 (pc' := 49) (L' := [some (.ref 526), some (.int y1), some (.int y2), some (.int y3), none]) (S' := [.int ((v15 - v18))]) (M' := gm g19) rfl ?_
        exact p_X12_topSecret_49 hD (f_X12_topSecret_4 n) ih (y1) (y2) (y3) (v15 - v18) g19 _ h
def f_X12_topSecret (x1 : Int32) (g : zSg) : Option (Int32 × zSg) := f_X12_topSecret_4 zFu (x1) (0) (1) g
set_option maxRecDepth 100000 in
set_option maxHeartbeats 4000000 in
theorem p_X12_topSecret {sc : zSc} {hp : zHp} {x1 : Int32} {g : zSg} {r : Int32 × zSg} (h : f_X12_topSecret x1 g = some r) : zRn sc hp 3 zM_X12_topSecret [.ref 526, .int x1] (gm g) (some (.int r.1)) (gm r.2) := by
  intro d hD
  obtain ⟨d, rfl⟩ : ∃ d', d = d' + 1 := ⟨d - 1, by omega⟩
  show zG _ sc hp (zcd zM_X12_topSecret) 0 [some (.ref 526), some (.int x1), none, none, none] [] (gm g) _
  unfold f_X12_topSecret at h
  refine g_run 4 (pc' := 4) (L' := [some (.ref 526), some (.int x1), some (.int 0), some (.int 1), none]) (S' := []) (M' := gm g) rfl ?_
  exact p_X12_topSecret_4 hD zFu (x1) (0) (1) g _ h
def f_X12_foul_26 (k4 : Int32 → Int32 → zSg → Option (Int32 × zSg)) (y2 : Int32) (s0 : Int32) (s1 : Int32) (g : zSg) : Option (Int32 × zSg) := k4 (s1 + s0) (y2 + 1) g
set_option maxRecDepth 100000 in
set_option maxHeartbeats 4000000 in
theorem p_X12_foul_26 {sc : zSc} {hp : zHp} {d : Nat} (hD : 8 ≤ d) (k4 : Int32 → Int32 → zSg → Option (Int32 × zSg)) (hk4 : ∀ (y1 : Int32) (y2 : Int32) (g : zSg) (r : Int32 × zSg), k4 y1 y2 g = some r → zG d sc hp (zcd zM_X12_foul) 4 [some (.ref 526), some (.int y1), some (.int y2)] [] (gm g) ((some (.int r.1)), gm r.2)) (y2 : Int32) (s0 : Int32) (s1 : Int32) (g : zSg) (r : Int32 × zSg) (h : f_X12_foul_26 k4 y2 s0 s1 g = some r) : zG d sc hp (zcd zM_X12_foul) 26 [some (.ref 526), none, some (.int y2)] [.int s0, .int s1] (gm g) ((some (.int r.1)), gm r.2) := by
  obtain ⟨d, rfl⟩ : ∃ d', d = d' + 1 := ⟨d - 1, by omega⟩
  unfold f_X12_foul_26 at h
  refine g_run 4 (pc' := 4) (L' := [some (.ref 526), some (.int ((s1 + s0))), some (.int ((y2 + 1)))]) (S' := []) (M' := gm g) rfl ?_
  exact hk4 (s1 + s0) (y2 + 1) g _ h
def fb_X12_foul_4 (kk : Int32 → Int32 → zSg → Option (Int32 × zSg)) (y1 : Int32) (y2 : Int32) (g : zSg) : Option (Int32 × zSg) := (if (gI g 526 27) ≤ y2 then some (y1, g) else (zB (f_X12_airOf y2 g) (fun v2 g3 => (if v2 ≤ 0 then f_X12_foul_26 kk (y2) (0) (y1) g3 else f_X12_foul_26 kk (y2) (1) (y1) g3))))
def f_X12_foul_4 : Nat → Int32 → Int32 → zSg → Option (Int32 × zSg)
  | 0, _, _, _ => none
  | n + 1, y1, y2, g => fb_X12_foul_4 (f_X12_foul_4 n) y1 y2 g
set_option maxRecDepth 100000 in
set_option maxHeartbeats 4000000 in
theorem p_X12_foul_4 {sc : zSc} {hp : zHp} {d : Nat} (hD : 8 ≤ d) : ∀ (n : Nat) (y1 : Int32) (y2 : Int32) (g : zSg) (r : Int32 × zSg), f_X12_foul_4 n y1 y2 g = some r → zG d sc hp (zcd zM_X12_foul) 4 [some (.ref 526), some (.int y1), some (.int y2)] [] (gm g) ((some (.int r.1)), gm r.2) := by
  obtain ⟨d, rfl⟩ : ∃ d', d = d' + 1 := ⟨d - 1, by omega⟩
  intro n
  induction n with
  | zero => intro y1 y2 g r h; cases h
  | succ n ih =>
    intro y1 y2 g r h
    replace h : fb_X12_foul_4 (f_X12_foul_4 n) y1 y2 g = some r := h
    unfold fb_X12_foul_4 at h
    refine g_run 3 (pc' := 9) (L' := [some (.ref 526), some (.int y1), some (.int y2)]) (S' := [.int ((gI g 526 27)), .int y2]) (M' := gm g) rfl ?_
    refine g_icmp ((gI g 526 27) ≤ y2) rfl (t := 34) rfl rfl (fun c1 => ?_) (fun c1 => ?_)
    · replace h := (if_pos c1).symm.trans h
      refine g_run 1 (pc' := 35) (L' := [some (.ref 526), some (.int y1), some (.int y2)]) (S' := [.int y1]) (M' := gm g) rfl ?_
      cases h
      exact g_ret rfl rfl rfl rfl
    · replace h := (if_neg c1).symm.trans h
      refine g_run 3 (pc' := 15) (L' := [some (.ref 526), some (.int y1), some (.int y2)]) (S' := [.int y2, .ref 526, .int y1]) (M' := gm g) rfl ?_
      replace h := zB_of h
      obtain ⟨v2, g3, e4, h⟩ := h
      refine g_inv2 (kd := 1) (p_X12_airOf  e4) rfl rfl rfl (by decide) rfl rfl rfl rfl (by omega) (pc' := 18) rfl (S' := [.int v2, .int y1]) rfl ?_
      refine g_if (v2 ≤ 0) rfl (t := 25) rfl rfl (fun c5 => ?_) (fun c5 => ?_)
      · replace h := (if_pos c5).symm.trans h
        refine g_run 1 (pc' := 26) (L' := [some (.ref 526), some (.int y1), some (.int y2)]) (S' := [.int 0, .int y1]) (M' := gm g3) rfl ?_
        refine g_forget (L' := [some (.ref 526), none, some (.int y2)]) (And.intro rfl (And.intro rfl True.intro)) ?_
        exact p_X12_foul_26 hD (f_X12_foul_4 n) ih (y2) (0) (y1) g3 _ h
      · replace h := (if_neg c5).symm.trans h
        refine g_run 2 (pc' := 26) (L' := [some (.ref 526), some (.int y1), some (.int y2)]) (S' := [.int 1, .int y1]) (M' := gm g3) rfl ?_
        refine g_forget (L' := [some (.ref 526), none, some (.int y2)]) (And.intro rfl (And.intro rfl True.intro)) ?_
        exact p_X12_foul_26 hD (f_X12_foul_4 n) ih (y2) (1) (y1) g3 _ h
def f_X12_foul (g : zSg) : Option (Int32 × zSg) := f_X12_foul_4 zFu (0) (0) g
set_option maxRecDepth 100000 in
set_option maxHeartbeats 4000000 in
theorem p_X12_foul {sc : zSc} {hp : zHp} {g : zSg} {r : Int32 × zSg} (h : f_X12_foul g = some r) : zRn sc hp 8 zM_X12_foul [.ref 526] (gm g) (some (.int r.1)) (gm r.2) := by
  intro d hD
  obtain ⟨d, rfl⟩ : ∃ d', d = d' + 1 := ⟨d - 1, by omega⟩
  show zG _ sc hp (zcd zM_X12_foul) 0 [some (.ref 526), none, none] [] (gm g) _
  unfold f_X12_foul at h
  refine g_run 4 (pc' := 4) (L' := [some (.ref 526), some (.int 0), some (.int 0)]) (S' := []) (M' := gm g) rfl ?_
  exact p_X12_foul_4 hD zFu (0) (0) g _ h
def f_X12_tables_52 (k4 : Int32 → Int32 → zSg → Option (Int32 × zSg)) (y1 : Int32) (y2 : Int32) (g : zSg) : Option (Int32 × zSg) := k4 (y1) (y2 + 1) g
set_option maxRecDepth 100000 in
set_option maxHeartbeats 4000000 in
theorem p_X12_tables_52 {sc : zSc} {hp : zHp} {d : Nat} (hD : 0 ≤ d) (k4 : Int32 → Int32 → zSg → Option (Int32 × zSg)) (hk4 : ∀ (y1 : Int32) (y2 : Int32) (g : zSg) (r : Int32 × zSg), k4 y1 y2 g = some r → zG d sc hp (zcd zM_X12_tables) 4 [some (.ref 526), some (.int y1), some (.int y2), none] [] (gm g) ((some (.int r.1)), gm r.2)) (y1 : Int32) (y2 : Int32) (g : zSg) (r : Int32 × zSg) (h : f_X12_tables_52 k4 y1 y2 g = some r) : zG d sc hp (zcd zM_X12_tables) 52 [some (.ref 526), some (.int y1), some (.int y2), none] [] (gm g) ((some (.int r.1)), gm r.2) := by
  unfold f_X12_tables_52 at h
  refine g_run 2 (pc' := 4) (L' := [some (.ref 526), some (.int y1), some (.int ((y2 + 1))), none]) (S' := []) (M' := gm g) rfl ?_
  exact hk4 (y1) (y2 + 1) g _ h
def f_X12_tables_44 (k4 : Int32 → Int32 → zSg → Option (Int32 × zSg)) (k14 : Int32 → Int32 → Int32 → zSg → Option (Int32 × zSg)) (y2 : Int32) (y3 : Int32) (s0 : Int32) (s1 : Int32) (g : zSg) : Option (Int32 × zSg) := k14 (s1 + s0) (y2) (y3 + 1) g
set_option maxRecDepth 100000 in
set_option maxHeartbeats 4000000 in
theorem p_X12_tables_44 {sc : zSc} {hp : zHp} {d : Nat} (hD : 0 ≤ d) (k4 : Int32 → Int32 → zSg → Option (Int32 × zSg)) (hk4 : ∀ (y1 : Int32) (y2 : Int32) (g : zSg) (r : Int32 × zSg), k4 y1 y2 g = some r → zG d sc hp (zcd zM_X12_tables) 4 [some (.ref 526), some (.int y1), some (.int y2), none] [] (gm g) ((some (.int r.1)), gm r.2)) (k14 : Int32 → Int32 → Int32 → zSg → Option (Int32 × zSg)) (hk14 : ∀ (y1 : Int32) (y2 : Int32) (y3 : Int32) (g : zSg) (r : Int32 × zSg), k14 y1 y2 y3 g = some r → zG d sc hp (zcd zM_X12_tables) 14 [some (.ref 526), some (.int y1), some (.int y2), some (.int y3)] [] (gm g) ((some (.int r.1)), gm r.2)) (y2 : Int32) (y3 : Int32) (s0 : Int32) (s1 : Int32) (g : zSg) (r : Int32 × zSg) (h : f_X12_tables_44 k4 k14 y2 y3 s0 s1 g = some r) : zG d sc hp (zcd zM_X12_tables) 44 [some (.ref 526), none, some (.int y2), some (.int y3)] [.int s0, .int s1] (gm g) ((some (.int r.1)), gm r.2) := by
  unfold f_X12_tables_44 at h
  refine g_run 4 (pc' := 14) (L' := [some (.ref 526), some (.int ((s1 + s0))), some (.int y2), some (.int ((y3 + 1)))]) (S' := []) (M' := gm g) rfl ?_
  exact hk14 (s1 + s0) (y2) (y3 + 1) g _ h
def fb_X12_tables_14 (k4 : Int32 → Int32 → zSg → Option (Int32 × zSg)) (kk : Int32 → Int32 → Int32 → zSg → Option (Int32 × zSg)) (y1 : Int32) (y2 : Int32) (y3 : Int32) (g : zSg) : Option (Int32 × zSg) := (if y2 ≤ y3 then f_X12_tables_52 k4 (y1) (y2) g else (if zib (0 + y2) 235 = true then (if zib (0 + y3) 235 = true then (if ¬ (gI g 543 (ix (0 + y2))) = (gI g 543 (ix (0 + y3))) then f_X12_tables_44 k4 kk (y2) (y3) (0) (y1) g else f_X12_tables_44 k4 kk (y2) (y3) (1) (y1) g) else none) else none))
def f_X12_tables_14 (k4 : Int32 → Int32 → zSg → Option (Int32 × zSg)) : Nat → Int32 → Int32 → Int32 → zSg → Option (Int32 × zSg)
  | 0, _, _, _, _ => none
  | n + 1, y1, y2, y3, g => fb_X12_tables_14 k4 (f_X12_tables_14 k4 n) y1 y2 y3 g
set_option maxRecDepth 100000 in
set_option maxHeartbeats 4000000 in
theorem p_X12_tables_14 {sc : zSc} {hp : zHp} {d : Nat} (hD : 0 ≤ d) (k4 : Int32 → Int32 → zSg → Option (Int32 × zSg)) (hk4 : ∀ (y1 : Int32) (y2 : Int32) (g : zSg) (r : Int32 × zSg), k4 y1 y2 g = some r → zG d sc hp (zcd zM_X12_tables) 4 [some (.ref 526), some (.int y1), some (.int y2), none] [] (gm g) ((some (.int r.1)), gm r.2)) : ∀ (n : Nat) (y1 : Int32) (y2 : Int32) (y3 : Int32) (g : zSg) (r : Int32 × zSg), f_X12_tables_14 k4 n y1 y2 y3 g = some r → zG d sc hp (zcd zM_X12_tables) 14 [some (.ref 526), some (.int y1), some (.int y2), some (.int y3)] [] (gm g) ((some (.int r.1)), gm r.2) := by
  intro n
  induction n with
  | zero => intro y1 y2 y3 g r h; cases h
  | succ n ih =>
    intro y1 y2 y3 g r h
    replace h : fb_X12_tables_14 k4 (f_X12_tables_14 k4 n) y1 y2 y3 g = some r := h
    unfold fb_X12_tables_14 at h
    refine g_run 2 (pc' := 16) (L' := [some (.ref 526), some (.int y1), some (.int y2), some (.int y3)]) (S' := [.int y2, .int y3]) (M' := gm g) rfl ?_
    refine g_icmp (y2 ≤ y3) rfl (t := 52) rfl rfl (fun c1 => ?_) (fun c1 => ?_)
    · replace h := (if_pos c1).symm.trans h
      refine g_forget (L' := [some (.ref 526), some (.int y1), some (.int y2), none]) (And.intro rfl (And.intro rfl (And.intro rfl True.intro))) ?_
      exact p_X12_tables_52 hD k4 hk4 (y1) (y2) g _ h
    · replace h := (if_neg c1).symm.trans h
      refine g_run 6 (pc' := 27) (L' := [some (.ref 526), some (.int y1), some (.int y2), some (.int y3)]) (S' := [.int ((0 + y2)), .ref 543, .int y1]) (M' := gm g) rfl ?_
      by_cases c2 : zib (0 + y2) 235 = true
      case neg => exact nomatch ((if_neg c2).symm.trans h)
      replace h := (if_pos c2).symm.trans h
      refine g_iald rfl (a := 543) rfl c2 ?_
      refine g_run 5 (pc' := 35) (L' := [some (.ref 526), some (.int y1), some (.int y2), some (.int y3)]) (S' := [.int ((0 + y3)), .ref 543, .int ((gI g 543 (ix (0 + y2)))), .int y1]) (M' := gm g) rfl ?_
      by_cases c3 : zib (0 + y3) 235 = true
      case neg => exact nomatch ((if_neg c3).symm.trans h)
      replace h := (if_pos c3).symm.trans h
      refine g_iald rfl (a := 543) rfl c3 ?_
      refine g_icmp (¬ (gI g 543 (ix (0 + y2))) = (gI g 543 (ix (0 + y3)))) rfl (t := 43) rfl rfl (fun c4 => ?_) (fun c4 => ?_)
      · replace h := (if_pos c4).symm.trans h
        refine g_run 1 (pc' := 44) (L' := [some (.ref 526), some (.int y1), some (.int y2), some (.int y3)]) (S' := [.int 0, .int y1]) (M' := gm g) rfl ?_
        refine g_forget (L' := [some (.ref 526), none, some (.int y2), some (.int y3)]) (And.intro rfl (And.intro rfl (And.intro rfl True.intro))) ?_
        exact p_X12_tables_44 hD k4 hk4 (f_X12_tables_14 k4 n) ih (y2) (y3) (0) (y1) g _ h
      · replace h := (if_neg c4).symm.trans h
        refine g_run 2 (pc' := 44) (L' := [some (.ref 526), some (.int y1), some (.int y2), some (.int y3)]) (S' := [.int 1, .int y1]) (M' := gm g) rfl ?_
        refine g_forget (L' := [some (.ref 526), none, some (.int y2), some (.int y3)]) (And.intro rfl (And.intro rfl (And.intro rfl True.intro))) ?_
        exact p_X12_tables_44 hD k4 hk4 (f_X12_tables_14 k4 n) ih (y2) (y3) (1) (y1) g _ h
def fb_X12_tables_4 (kk : Int32 → Int32 → zSg → Option (Int32 × zSg)) (y1 : Int32) (y2 : Int32) (g : zSg) : Option (Int32 × zSg) := (if (gI g 526 25) ≤ y2 then some (y1, g) else f_X12_tables_14 kk zFu (y1) (y2) (0) g)
def f_X12_tables_4 : Nat → Int32 → Int32 → zSg → Option (Int32 × zSg)
  | 0, _, _, _ => none
  | n + 1, y1, y2, g => fb_X12_tables_4 (f_X12_tables_4 n) y1 y2 g
set_option maxRecDepth 100000 in
set_option maxHeartbeats 4000000 in
theorem p_X12_tables_4 {sc : zSc} {hp : zHp} {d : Nat} (hD : 0 ≤ d) : ∀ (n : Nat) (y1 : Int32) (y2 : Int32) (g : zSg) (r : Int32 × zSg), f_X12_tables_4 n y1 y2 g = some r → zG d sc hp (zcd zM_X12_tables) 4 [some (.ref 526), some (.int y1), some (.int y2), none] [] (gm g) ((some (.int r.1)), gm r.2) := by
  intro n
  induction n with
  | zero => intro y1 y2 g r h; cases h
  | succ n ih =>
    intro y1 y2 g r h
    replace h : fb_X12_tables_4 (f_X12_tables_4 n) y1 y2 g = some r := h
    unfold fb_X12_tables_4 at h
    refine g_run 3 (pc' := 9) (L' := [some (.ref 526), some (.int y1), some (.int y2), none]) (S' := [.int ((gI g 526 25)), .int y2]) (M' := gm g) rfl ?_
    refine g_icmp ((gI g 526 25) ≤ y2) rfl (t := 58) rfl rfl (fun c1 => ?_) (fun c1 => ?_)
    · replace h := (if_pos c1).symm.trans h
      refine g_run 1 (pc' := 59) (L' := [some (.ref 526), some (.int y1), some (.int y2), none]) (S' := [.int y1]) (M' := gm g) rfl ?_
      cases h
      exact g_ret rfl rfl rfl rfl
    · replace h := (if_neg c1).symm.trans h
      refine g_run 2 (pc' := 14) (L' := [some (.ref 526), some (.int y1), some (.int y2), some (.int 0)]) (S' := []) (M' := gm g) rfl ?_
      exact p_X12_tables_14 hD (f_X12_tables_4 n) ih zFu (y1) (y2) (0) g _ h
def f_X12_tables (g : zSg) : Option (Int32 × zSg) := f_X12_tables_4 zFu (0) (0) g
set_option maxRecDepth 100000 in
set_option maxHeartbeats 4000000 in
theorem p_X12_tables {sc : zSc} {hp : zHp} {g : zSg} {r : Int32 × zSg} (h : f_X12_tables g = some r) : zRn sc hp 0 zM_X12_tables [.ref 526] (gm g) (some (.int r.1)) (gm r.2) := by
  intro d hD
  show zG _ sc hp (zcd zM_X12_tables) 0 [some (.ref 526), none, none, none] [] (gm g) _
  unfold f_X12_tables at h
  refine g_run 4 (pc' := 4) (L' := [some (.ref 526), some (.int 0), some (.int 0), none]) (S' := []) (M' := gm g) rfl ?_
  exact p_X12_tables_4 hD zFu (0) (0) g _ h
def fb_X12_lacksAll_4 (kk : Int32 → Int32 → zSg → Option (Int32 × zSg)) (y1 : Int32) (y2 : Int32) (g : zSg) : Option (Int32 × zSg) := (if (gI g 526 26) ≤ y2 then some (y1, g) else (zB (f_X12_lacksOf y2 g) (fun v2 g3 => kk (y1 + v2) (y2 + 1) g3)))
def f_X12_lacksAll_4 : Nat → Int32 → Int32 → zSg → Option (Int32 × zSg)
  | 0, _, _, _ => none
  | n + 1, y1, y2, g => fb_X12_lacksAll_4 (f_X12_lacksAll_4 n) y1 y2 g
set_option maxRecDepth 100000 in
set_option maxHeartbeats 4000000 in
theorem p_X12_lacksAll_4 {sc : zSc} {hp : zHp} {d : Nat} (hD : 3 ≤ d) : ∀ (n : Nat) (y1 : Int32) (y2 : Int32) (g : zSg) (r : Int32 × zSg), f_X12_lacksAll_4 n y1 y2 g = some r → zG d sc hp (zcd zM_X12_lacksAll) 4 [some (.ref 526), some (.int y1), some (.int y2)] [] (gm g) ((some (.int r.1)), gm r.2) := by
  obtain ⟨d, rfl⟩ : ∃ d', d = d' + 1 := ⟨d - 1, by omega⟩
  intro n
  induction n with
  | zero => intro y1 y2 g r h; cases h
  | succ n ih =>
    intro y1 y2 g r h
    replace h : fb_X12_lacksAll_4 (f_X12_lacksAll_4 n) y1 y2 g = some r := h
    unfold fb_X12_lacksAll_4 at h
    refine g_run 3 (pc' := 9) (L' := [some (.ref 526), some (.int y1), some (.int y2)]) (S' := [.int ((gI g 526 26)), .int y2]) (M' := gm g) rfl ?_
    refine g_icmp ((gI g 526 26) ≤ y2) rfl (t := 26) rfl rfl (fun c1 => ?_) (fun c1 => ?_)
    · replace h := (if_pos c1).symm.trans h
      refine g_run 1 (pc' := 27) (L' := [some (.ref 526), some (.int y1), some (.int y2)]) (S' := [.int y1]) (M' := gm g) rfl ?_
      cases h
      exact g_ret rfl rfl rfl rfl
    · replace h := (if_neg c1).symm.trans h
      refine g_run 3 (pc' := 15) (L' := [some (.ref 526), some (.int y1), some (.int y2)]) (S' := [.int y2, .ref 526, .int y1]) (M' := gm g) rfl ?_
      replace h := zB_of h
      obtain ⟨v2, g3, e4, h⟩ := h
      refine g_inv2 (kd := 1) (p_X12_lacksOf  e4) rfl rfl rfl (by decide) rfl rfl rfl rfl (by omega) (pc' := 18) rfl (S' := [.int v2, .int y1]) rfl ?_
      refine g_run 4 (pc' := 4) (L' := [some (.ref 526), some (.int ((y1 + v2))), some (.int ((y2 + 1)))]) (S' := []) (M' := gm g3) rfl ?_
      exact ih (y1 + v2) (y2 + 1) g3 _ h
def f_X12_lacksAll (g : zSg) : Option (Int32 × zSg) := f_X12_lacksAll_4 zFu (0) (0) g
set_option maxRecDepth 100000 in
set_option maxHeartbeats 4000000 in
theorem p_X12_lacksAll {sc : zSc} {hp : zHp} {g : zSg} {r : Int32 × zSg} (h : f_X12_lacksAll g = some r) : zRn sc hp 3 zM_X12_lacksAll [.ref 526] (gm g) (some (.int r.1)) (gm r.2) := by
  intro d hD
  obtain ⟨d, rfl⟩ : ∃ d', d = d' + 1 := ⟨d - 1, by omega⟩
  show zG _ sc hp (zcd zM_X12_lacksAll) 0 [some (.ref 526), none, none] [] (gm g) _
  unfold f_X12_lacksAll at h
  refine g_run 4 (pc' := 4) (L' := [some (.ref 526), some (.int 0), some (.int 0)]) (S' := []) (M' := gm g) rfl ?_
  exact p_X12_lacksAll_4 hD zFu (0) (0) g _ h
def f_X12_safeOnes_35 (k4 : Int32 → Int32 → zSg → Option (Int32 × zSg)) (y2 : Int32) (s0 : Int32) (s1 : Int32) (g : zSg) : Option (Int32 × zSg) := k4 (s1 ||| s0) (y2 + 1) g
set_option maxRecDepth 100000 in
set_option maxHeartbeats 4000000 in
theorem p_X12_safeOnes_35 {sc : zSc} {hp : zHp} {d : Nat} (hD : 8 ≤ d) (k4 : Int32 → Int32 → zSg → Option (Int32 × zSg)) (hk4 : ∀ (y1 : Int32) (y2 : Int32) (g : zSg) (r : Int32 × zSg), k4 y1 y2 g = some r → zG d sc hp (zcd zM_X12_safeOnes) 4 [some (.ref 526), some (.int y1), some (.int y2)] [] (gm g) ((some (.int r.1)), gm r.2)) (y2 : Int32) (s0 : Int32) (s1 : Int32) (g : zSg) (r : Int32 × zSg) (h : f_X12_safeOnes_35 k4 y2 s0 s1 g = some r) : zG d sc hp (zcd zM_X12_safeOnes) 35 [some (.ref 526), none, some (.int y2)] [.int s0, .int s1] (gm g) ((some (.int r.1)), gm r.2) := by
  obtain ⟨d, rfl⟩ : ∃ d', d = d' + 1 := ⟨d - 1, by omega⟩
  unfold f_X12_safeOnes_35 at h
  refine g_run 4 (pc' := 4) (L' := [some (.ref 526), some (.int ((s1 ||| s0))), some (.int ((y2 + 1)))]) (S' := []) (M' := gm g) rfl ?_
  exact hk4 (s1 ||| s0) (y2 + 1) g _ h
def fb_X12_safeOnes_4 (kk : Int32 → Int32 → zSg → Option (Int32 × zSg)) (y1 : Int32) (y2 : Int32) (g : zSg) : Option (Int32 × zSg) := (if (gI g 526 25) ≤ y2 then some (y1, g) else (if zib (0 + y2) 235 = true then (zB (f_X12_airOf (gI g 543 (ix (0 + y2))) g) (fun v3 g4 => (if ¬ v3 = 0 then f_X12_safeOnes_35 kk (y2) (0) (y1) g4 else f_X12_safeOnes_35 kk (y2) (1 <<< (y2 &&& 31)) (y1) g4))) else none))
def f_X12_safeOnes_4 : Nat → Int32 → Int32 → zSg → Option (Int32 × zSg)
  | 0, _, _, _ => none
  | n + 1, y1, y2, g => fb_X12_safeOnes_4 (f_X12_safeOnes_4 n) y1 y2 g
set_option maxRecDepth 100000 in
set_option maxHeartbeats 4000000 in
theorem p_X12_safeOnes_4 {sc : zSc} {hp : zHp} {d : Nat} (hD : 8 ≤ d) : ∀ (n : Nat) (y1 : Int32) (y2 : Int32) (g : zSg) (r : Int32 × zSg), f_X12_safeOnes_4 n y1 y2 g = some r → zG d sc hp (zcd zM_X12_safeOnes) 4 [some (.ref 526), some (.int y1), some (.int y2)] [] (gm g) ((some (.int r.1)), gm r.2) := by
  obtain ⟨d, rfl⟩ : ∃ d', d = d' + 1 := ⟨d - 1, by omega⟩
  intro n
  induction n with
  | zero => intro y1 y2 g r h; cases h
  | succ n ih =>
    intro y1 y2 g r h
    replace h : fb_X12_safeOnes_4 (f_X12_safeOnes_4 n) y1 y2 g = some r := h
    unfold fb_X12_safeOnes_4 at h
    refine g_run 3 (pc' := 9) (L' := [some (.ref 526), some (.int y1), some (.int y2)]) (S' := [.int ((gI g 526 25)), .int y2]) (M' := gm g) rfl ?_
    refine g_icmp ((gI g 526 25) ≤ y2) rfl (t := 43) rfl rfl (fun c1 => ?_) (fun c1 => ?_)
    · replace h := (if_pos c1).symm.trans h
      refine g_run 1 (pc' := 44) (L' := [some (.ref 526), some (.int y1), some (.int y2)]) (S' := [.int y1]) (M' := gm g) rfl ?_
      cases h
      exact g_ret rfl rfl rfl rfl
    · replace h := (if_neg c1).symm.trans h
      refine g_run 7 (pc' := 21) (L' := [some (.ref 526), some (.int y1), some (.int y2)]) (S' := [.int ((0 + y2)), .ref 543, .ref 526, .int y1]) (M' := gm g) rfl ?_
      by_cases c2 : zib (0 + y2) 235 = true
      case neg => exact nomatch ((if_neg c2).symm.trans h)
      replace h := (if_pos c2).symm.trans h
      refine g_iald rfl (a := 543) rfl c2 ?_
      replace h := zB_of h
      obtain ⟨v3, g4, e5, h⟩ := h
      refine g_inv2 (kd := 1) (p_X12_airOf  e5) rfl rfl rfl (by decide) rfl rfl rfl rfl (by omega) (pc' := 25) rfl (S' := [.int v3, .int y1]) rfl ?_
      refine g_if (¬ v3 = 0) rfl (t := 34) rfl rfl (fun c6 => ?_) (fun c6 => ?_)
      · replace h := (if_pos c6).symm.trans h
        refine g_run 1 (pc' := 35) (L' := [some (.ref 526), some (.int y1), some (.int y2)]) (S' := [.int 0, .int y1]) (M' := gm g4) rfl ?_
        refine g_forget (L' := [some (.ref 526), none, some (.int y2)]) (And.intro rfl (And.intro rfl True.intro)) ?_
        exact p_X12_safeOnes_35 hD (f_X12_safeOnes_4 n) ih (y2) (0) (y1) g4 _ h
      · replace h := (if_neg c6).symm.trans h
        refine g_run 4 (pc' := 35) (L' := [some (.ref 526), some (.int y1), some (.int y2)]) (S' := [.int ((1 <<< (y2 &&& 31))), .int y1]) (M' := gm g4) rfl ?_
        refine g_forget (L' := [some (.ref 526), none, some (.int y2)]) (And.intro rfl (And.intro rfl True.intro)) ?_
        exact p_X12_safeOnes_35 hD (f_X12_safeOnes_4 n) ih (y2) (1 <<< (y2 &&& 31)) (y1) g4 _ h
def f_X12_safeOnes (g : zSg) : Option (Int32 × zSg) := f_X12_safeOnes_4 zFu (0) (0) g
set_option maxRecDepth 100000 in
set_option maxHeartbeats 4000000 in
theorem p_X12_safeOnes {sc : zSc} {hp : zHp} {g : zSg} {r : Int32 × zSg} (h : f_X12_safeOnes g = some r) : zRn sc hp 8 zM_X12_safeOnes [.ref 526] (gm g) (some (.int r.1)) (gm r.2) := by
  intro d hD
  obtain ⟨d, rfl⟩ : ∃ d', d = d' + 1 := ⟨d - 1, by omega⟩
  show zG _ sc hp (zcd zM_X12_safeOnes) 0 [some (.ref 526), none, none] [] (gm g) _
  unfold f_X12_safeOnes at h
  refine g_run 4 (pc' := 4) (L' := [some (.ref 526), some (.int 0), some (.int 0)]) (S' := []) (M' := gm g) rfl ?_
  exact p_X12_safeOnes_4 hD zFu (0) (0) g _ h
def f_X12_most (x1 : Int32) (g : zSg) : Option (Int32 × zSg) := (if (gI g 526 27) = 0 then some ((-1), g) else (zB (f_X12_in x1 0 11 g) (fun v2 g3 => (if ¬ v2 = 0 then (if x1 = 3 then (zB (f_X12_topSecret 0 g3) (fun v7 g8 => some (v7, g8))) else (if x1 = 4 then (zB (f_X12_topSecret 1 g3) (fun v11 g12 => some (v11, g12))) else (if x1 = 5 then some ((gI g3 543 48), g3) else (if x1 = 6 then some ((gI g3 543 49), g3) else (if x1 = 7 then (zB (f_X12_foul g3) (fun v17 g18 => some (v17, g18))) else (if x1 = 8 then (zB (f_X12_tables g3) (fun v21 g22 => some (v21, g22))) else (if x1 = 9 then (zB (f_X12_lacksAll g3) (fun v25 g26 => some (v25, g26))) else (if x1 = 10 then (zB (f_X12_safeOnes g3) (fun v29 g30 => some (v29, g30))) else (if x1 = 11 then some ((gI g3 543 50), g3) else (zB (f_X12_topPerson x1 g3) (fun v33 g34 => some (v33, g34)))))))))))) else some ((-1), g3)))))
set_option maxRecDepth 100000 in
set_option maxHeartbeats 4000000 in
theorem p_X12_most {sc : zSc} {hp : zHp} {x1 : Int32} {g : zSg} {r : Int32 × zSg} (h : f_X12_most x1 g = some r) : zRn sc hp 9 zM_X12_most [.ref 526, .int x1] (gm g) (some (.int r.1)) (gm r.2) := by
  intro d hD
  obtain ⟨d, rfl⟩ : ∃ d', d = d' + 1 := ⟨d - 1, by omega⟩
  show zG _ sc hp (zcd zM_X12_most) 0 [some (.ref 526), some (.int x1)] [] (gm g) _
  unfold f_X12_most at h
  refine g_run 2 (pc' := 4) (L' := [some (.ref 526), some (.int x1)]) (S' := [.int ((gI g 526 27))]) (M' := gm g) rfl ?_
  refine g_if ((gI g 526 27) = 0) rfl (t := 17) rfl rfl (fun c1 => ?_) (fun c1 => ?_)
  · replace h := (if_pos c1).symm.trans h
    refine g_run 1 (pc' := 18) (L' := [some (.ref 526), some (.int x1)]) (S' := [.int (-1)]) (M' := gm g) rfl ?_
    cases h
    exact g_ret rfl rfl rfl rfl
  · replace h := (if_neg c1).symm.trans h
    refine g_run 3 (pc' := 11) (L' := [some (.ref 526), some (.int x1)]) (S' := [.int 11, .int 0, .int x1]) (M' := gm g) rfl ?_
    replace h := zB_of h
    obtain ⟨v2, g3, e4, h⟩ := h
    refine g_inv2 (kd := 0) (p_X12_in  e4) rfl rfl rfl (by decide) rfl rfl rfl rfl (by omega) (pc' := 14) rfl (S' := [.int v2]) rfl ?_
    refine g_if (¬ v2 = 0) rfl (t := 19) rfl rfl (fun c5 => ?_) (fun c5 => ?_)
    · replace h := (if_pos c5).symm.trans h
      refine g_run 1 (pc' := 20) (L' := [some (.ref 526), some (.int x1)]) (S' := [.int x1]) (M' := gm g3) rfl ?_
      by_cases c6 : x1 = 3
      · replace h := (if_pos c6).symm.trans h
        refine g_swc c6 rfl rfl rfl (pc' := 72) rfl ?_
        refine g_run 2 (pc' := 74) (L' := [some (.ref 526), some (.int x1)]) (S' := [.int 0, .ref 526]) (M' := gm g3) rfl ?_
        replace h := zB_of h
        obtain ⟨v7, g8, e9, h⟩ := h
        refine g_inv2 (kd := 1) (p_X12_topSecret  e9) rfl rfl rfl (by decide) rfl rfl rfl rfl (by omega) (pc' := 77) rfl (S' := [.int v7]) rfl ?_
        cases h
        exact g_ret rfl rfl rfl rfl
      replace h := (if_neg c6).symm.trans h
      by_cases c10 : x1 = 4
      · replace h := (if_pos c10).symm.trans h
        refine g_swc c10 rfl rfl rfl (pc' := 78) rfl ?_
        refine g_run 2 (pc' := 80) (L' := [some (.ref 526), some (.int x1)]) (S' := [.int 1, .ref 526]) (M' := gm g3) rfl ?_
        replace h := zB_of h
        obtain ⟨v11, g12, e13, h⟩ := h
        refine g_inv2 (kd := 1) (p_X12_topSecret  e13) rfl rfl rfl (by decide) rfl rfl rfl rfl (by omega) (pc' := 83) rfl (S' := [.int v11]) rfl ?_
        cases h
        exact g_ret rfl rfl rfl rfl
      replace h := (if_neg c10).symm.trans h
      by_cases c14 : x1 = 5
      · replace h := (if_pos c14).symm.trans h
        refine g_swc c14 rfl rfl rfl (pc' := 84) rfl ?_
        refine g_run 4 (pc' := 91) (L' := [some (.ref 526), some (.int x1)]) (S' := [.int ((gI g3 543 48))]) (M' := gm g3) rfl ?_
        cases h
        exact g_ret rfl rfl rfl rfl
      replace h := (if_neg c14).symm.trans h
      by_cases c15 : x1 = 6
      · replace h := (if_pos c15).symm.trans h
        refine g_swc c15 rfl rfl rfl (pc' := 92) rfl ?_
        refine g_run 4 (pc' := 99) (L' := [some (.ref 526), some (.int x1)]) (S' := [.int ((gI g3 543 49))]) (M' := gm g3) rfl ?_
        cases h
        exact g_ret rfl rfl rfl rfl
      replace h := (if_neg c15).symm.trans h
      by_cases c16 : x1 = 7
      · replace h := (if_pos c16).symm.trans h
        refine g_swc c16 rfl rfl rfl (pc' := 100) rfl ?_
        refine g_run 1 (pc' := 101) (L' := [some (.ref 526), some (.int x1)]) (S' := [.ref 526]) (M' := gm g3) rfl ?_
        replace h := zB_of h
        obtain ⟨v17, g18, e19, h⟩ := h
        refine g_inv2 (kd := 1) (p_X12_foul  e19) rfl rfl rfl (by decide) rfl rfl rfl rfl (by omega) (pc' := 104) rfl (S' := [.int v17]) rfl ?_
        cases h
        exact g_ret rfl rfl rfl rfl
      replace h := (if_neg c16).symm.trans h
      by_cases c20 : x1 = 8
      · replace h := (if_pos c20).symm.trans h
        refine g_swc c20 rfl rfl rfl (pc' := 105) rfl ?_
        refine g_run 1 (pc' := 106) (L' := [some (.ref 526), some (.int x1)]) (S' := [.ref 526]) (M' := gm g3) rfl ?_
        replace h := zB_of h
        obtain ⟨v21, g22, e23, h⟩ := h
        refine g_inv2 (kd := 1) (p_X12_tables  e23) rfl rfl rfl (by decide) rfl rfl rfl rfl (by omega) (pc' := 109) rfl (S' := [.int v21]) rfl ?_
        cases h
        exact g_ret rfl rfl rfl rfl
      replace h := (if_neg c20).symm.trans h
      by_cases c24 : x1 = 9
      · replace h := (if_pos c24).symm.trans h
        refine g_swc c24 rfl rfl rfl (pc' := 110) rfl ?_
        refine g_run 1 (pc' := 111) (L' := [some (.ref 526), some (.int x1)]) (S' := [.ref 526]) (M' := gm g3) rfl ?_
        replace h := zB_of h
        obtain ⟨v25, g26, e27, h⟩ := h
        refine g_inv2 (kd := 1) (p_X12_lacksAll  e27) rfl rfl rfl (by decide) rfl rfl rfl rfl (by omega) (pc' := 114) rfl (S' := [.int v25]) rfl ?_
        cases h
        exact g_ret rfl rfl rfl rfl
      replace h := (if_neg c24).symm.trans h
      by_cases c28 : x1 = 10
      · replace h := (if_pos c28).symm.trans h
        refine g_swc c28 rfl rfl rfl (pc' := 115) rfl ?_
        refine g_run 1 (pc' := 116) (L' := [some (.ref 526), some (.int x1)]) (S' := [.ref 526]) (M' := gm g3) rfl ?_
        replace h := zB_of h
        obtain ⟨v29, g30, e31, h⟩ := h
        refine g_inv2 (kd := 1) (p_X12_safeOnes  e31) rfl rfl rfl (by decide) rfl rfl rfl rfl (by omega) (pc' := 119) rfl (S' := [.int v29]) rfl ?_
        cases h
        exact g_ret rfl rfl rfl rfl
      replace h := (if_neg c28).symm.trans h
      by_cases c32 : x1 = 11
      · replace h := (if_pos c32).symm.trans h
        refine g_swc c32 rfl rfl rfl (pc' := 120) rfl ?_
        refine g_run 4 (pc' := 127) (L' := [some (.ref 526), some (.int x1)]) (S' := [.int ((gI g3 543 50))]) (M' := gm g3) rfl ?_
        cases h
        exact g_ret rfl rfl rfl rfl
      replace h := (if_neg c32).symm.trans h
      have hsw : (x1).toInt < 3 ∨ 11 < (x1).toInt := by
        have nc6 := lv_neT c6 (a := 3) rfl
        have nc10 := lv_neT c10 (a := 4) rfl
        have nc14 := lv_neT c14 (a := 5) rfl
        have nc15 := lv_neT c15 (a := 6) rfl
        have nc16 := lv_neT c16 (a := 7) rfl
        have nc20 := lv_neT c20 (a := 8) rfl
        have nc24 := lv_neT c24 (a := 9) rfl
        have nc28 := lv_neT c28 (a := 10) rfl
        have nc32 := lv_neT c32 (a := 11) rfl
        omega
      refine g_tsd rfl hsw (t := 128) rfl ?_
      refine g_run 2 (pc' := 130) (L' := [some (.ref 526), some (.int x1)]) (S' := [.int x1, .ref 526]) (M' := gm g3) rfl ?_
      replace h := zB_of h
      obtain ⟨v33, g34, e35, h⟩ := h
      refine g_inv2 (kd := 1) (p_X12_topPerson  e35) rfl rfl rfl (by decide) rfl rfl rfl rfl (by omega) (pc' := 133) rfl (S' := [.int v33]) rfl ?_
      cases h
      exact g_ret rfl rfl rfl rfl
    · replace h := (if_neg c5).symm.trans h
      refine g_run 1 (pc' := 18) (L' := [some (.ref 526), some (.int x1)]) (S' := [.int (-1)]) (M' := gm g3) rfl ?_
      cases h
      exact g_ret rfl rfl rfl rfl
def f_X12_image_36 (g : zSg) : Option (Int32 × zSg) := some ((gI (gsI g 526 47 1) 543 53), (gsI g 526 47 1))
set_option maxRecDepth 100000 in
set_option maxHeartbeats 4000000 in
theorem p_X12_image_36 {sc : zSc} {hp : zHp} {d : Nat} (hD : 0 ≤ d) (g : zSg) (r : Int32 × zSg) (h : f_X12_image_36 g = some r) : zG d sc hp (zcd zM_X12_image) 36 [some (.ref 526), none] [] (gm g) ((some (.int r.1)), gm r.2) := by
  unfold f_X12_image_36 at h
  refine g_run 7 (pc' := 48) (L' := [some (.ref 526), none]) (S' := [.int ((gI (gsI g 526 47 1) 543 53))]) (M' := gm (gsI g 526 47 1)) rfl ?_
  cases h
  exact g_ret rfl rfl rfl rfl
def fb_X12_image_11 (kk : Int32 → zSg → Option (Int32 × zSg)) (y1 : Int32) (g : zSg) : Option (Int32 × zSg) := (if 235 ≤ y1 then f_X12_image_36 g else (if zib y1 235 = true then (if zib y1 235 = true then kk (y1 + 1) (gsI g (552) (ix y1) (gI g 543 (ix y1))) else none) else none))
def f_X12_image_11 : Nat → Int32 → zSg → Option (Int32 × zSg)
  | 0, _, _ => none
  | n + 1, y1, g => fb_X12_image_11 (f_X12_image_11 n) y1 g
set_option maxRecDepth 100000 in
set_option maxHeartbeats 4000000 in
theorem p_X12_image_11 {sc : zSc} {hp : zHp} {d : Nat} (hD : 0 ≤ d) : ∀ (n : Nat) (y1 : Int32) (g : zSg) (r : Int32 × zSg), f_X12_image_11 n y1 g = some r → zG d sc hp (zcd zM_X12_image) 11 [some (.ref 526), some (.int y1)] [] (gm g) ((some (.int r.1)), gm r.2) := by
  intro n
  induction n with
  | zero => intro y1 g r h; cases h
  | succ n ih =>
    intro y1 g r h
    replace h : fb_X12_image_11 (f_X12_image_11 n) y1 g = some r := h
    unfold fb_X12_image_11 at h
    refine g_run 2 (pc' := 15) (L' := [some (.ref 526), some (.int y1)]) (S' := [.int 235, .int y1]) (M' := gm g) rfl ?_
    refine g_icmp (235 ≤ y1) rfl (t := 36) rfl rfl (fun c1 => ?_) (fun c1 => ?_)
    · replace h := (if_pos c1).symm.trans h
      refine g_forget (L' := [some (.ref 526), none]) (And.intro rfl True.intro) ?_
      exact p_X12_image_36 hD g _ h
    · replace h := (if_neg c1).symm.trans h
      refine g_run 6 (pc' := 28) (L' := [some (.ref 526), some (.int y1)]) (S' := [.int y1, .ref 543, .int y1, .ref 552]) (M' := gm g) rfl ?_
      by_cases c2 : zib y1 235 = true
      case neg => exact nomatch ((if_neg c2).symm.trans h)
      replace h := (if_pos c2).symm.trans h
      refine g_iald rfl (a := 543) rfl c2 ?_
      by_cases c3 : zib y1 235 = true
      case neg => exact nomatch ((if_neg c3).symm.trans h)
      replace h := (if_pos c3).symm.trans h
      refine g_iast rfl (a := 552) rfl c3 ?_
      refine g_run 2 (pc' := 11) (L' := [some (.ref 526), some (.int ((y1 + 1)))]) (S' := []) (M' := gm (gsI g (552) (ix y1) (gI g 543 (ix y1)))) rfl ?_
      exact ih (y1 + 1) (gsI g (552) (ix y1) (gI g 543 (ix y1))) _ h
def f_X12_image (g : zSg) : Option (Int32 × zSg) := (if ¬ (gI g 526 27) = 0 then f_X12_image_11 zFu (0) g else some ((-1), g))
set_option maxRecDepth 100000 in
set_option maxHeartbeats 4000000 in
theorem p_X12_image {sc : zSc} {hp : zHp} {g : zSg} {r : Int32 × zSg} (h : f_X12_image g = some r) : zRn sc hp 0 zM_X12_image [.ref 526] (gm g) (some (.int r.1)) (gm r.2) := by
  intro d hD
  show zG _ sc hp (zcd zM_X12_image) 0 [some (.ref 526), none] [] (gm g) _
  unfold f_X12_image at h
  refine g_run 2 (pc' := 4) (L' := [some (.ref 526), none]) (S' := [.int ((gI g 526 27))]) (M' := gm g) rfl ?_
  refine g_if (¬ (gI g 526 27) = 0) rfl (t := 9) rfl rfl (fun c1 => ?_) (fun c1 => ?_)
  · replace h := (if_pos c1).symm.trans h
    refine g_run 2 (pc' := 11) (L' := [some (.ref 526), some (.int 0)]) (S' := []) (M' := gm g) rfl ?_
    exact p_X12_image_11 hD zFu (0) g _ h
  · replace h := (if_neg c1).symm.trans h
    refine g_run 1 (pc' := 8) (L' := [some (.ref 526), none]) (S' := [.int (-1)]) (M' := gm g) rfl ?_
    cases h
    exact g_ret rfl rfl rfl rfl
def f_X12_back_36 (g : zSg) : Option (Int32 × zSg) := some ((gI (gsI g 526 35 0) 543 53), (gsI g 526 35 0))
set_option maxRecDepth 100000 in
set_option maxHeartbeats 4000000 in
theorem p_X12_back_36 {sc : zSc} {hp : zHp} {d : Nat} (hD : 0 ≤ d) (g : zSg) (r : Int32 × zSg) (h : f_X12_back_36 g = some r) : zG d sc hp (zcd zM_X12_back) 36 [some (.ref 526), none] [] (gm g) ((some (.int r.1)), gm r.2) := by
  unfold f_X12_back_36 at h
  refine g_run 7 (pc' := 48) (L' := [some (.ref 526), none]) (S' := [.int ((gI (gsI g 526 35 0) 543 53))]) (M' := gm (gsI g 526 35 0)) rfl ?_
  cases h
  exact g_ret rfl rfl rfl rfl
def fb_X12_back_11 (kk : Int32 → zSg → Option (Int32 × zSg)) (y1 : Int32) (g : zSg) : Option (Int32 × zSg) := (if 235 ≤ y1 then f_X12_back_36 g else (if zib y1 235 = true then (if zib y1 235 = true then kk (y1 + 1) (gsI g (543) (ix y1) (gI g 552 (ix y1))) else none) else none))
def f_X12_back_11 : Nat → Int32 → zSg → Option (Int32 × zSg)
  | 0, _, _ => none
  | n + 1, y1, g => fb_X12_back_11 (f_X12_back_11 n) y1 g
set_option maxRecDepth 100000 in
set_option maxHeartbeats 4000000 in
theorem p_X12_back_11 {sc : zSc} {hp : zHp} {d : Nat} (hD : 0 ≤ d) : ∀ (n : Nat) (y1 : Int32) (g : zSg) (r : Int32 × zSg), f_X12_back_11 n y1 g = some r → zG d sc hp (zcd zM_X12_back) 11 [some (.ref 526), some (.int y1)] [] (gm g) ((some (.int r.1)), gm r.2) := by
  intro n
  induction n with
  | zero => intro y1 g r h; cases h
  | succ n ih =>
    intro y1 g r h
    replace h : fb_X12_back_11 (f_X12_back_11 n) y1 g = some r := h
    unfold fb_X12_back_11 at h
    refine g_run 2 (pc' := 15) (L' := [some (.ref 526), some (.int y1)]) (S' := [.int 235, .int y1]) (M' := gm g) rfl ?_
    refine g_icmp (235 ≤ y1) rfl (t := 36) rfl rfl (fun c1 => ?_) (fun c1 => ?_)
    · replace h := (if_pos c1).symm.trans h
      refine g_forget (L' := [some (.ref 526), none]) (And.intro rfl True.intro) ?_
      exact p_X12_back_36 hD g _ h
    · replace h := (if_neg c1).symm.trans h
      refine g_run 6 (pc' := 28) (L' := [some (.ref 526), some (.int y1)]) (S' := [.int y1, .ref 552, .int y1, .ref 543]) (M' := gm g) rfl ?_
      by_cases c2 : zib y1 235 = true
      case neg => exact nomatch ((if_neg c2).symm.trans h)
      replace h := (if_pos c2).symm.trans h
      refine g_iald rfl (a := 552) rfl c2 ?_
      by_cases c3 : zib y1 235 = true
      case neg => exact nomatch ((if_neg c3).symm.trans h)
      replace h := (if_pos c3).symm.trans h
      refine g_iast rfl (a := 543) rfl c3 ?_
      refine g_run 2 (pc' := 11) (L' := [some (.ref 526), some (.int ((y1 + 1)))]) (S' := []) (M' := gm (gsI g (543) (ix y1) (gI g 552 (ix y1)))) rfl ?_
      exact ih (y1 + 1) (gsI g (543) (ix y1) (gI g 552 (ix y1))) _ h
def f_X12_back (g : zSg) : Option (Int32 × zSg) := (if ¬ (gI g 526 47) = 0 then f_X12_back_11 zFu (0) g else some ((-1), g))
set_option maxRecDepth 100000 in
set_option maxHeartbeats 4000000 in
theorem p_X12_back {sc : zSc} {hp : zHp} {g : zSg} {r : Int32 × zSg} (h : f_X12_back g = some r) : zRn sc hp 0 zM_X12_back [.ref 526] (gm g) (some (.int r.1)) (gm r.2) := by
  intro d hD
  show zG _ sc hp (zcd zM_X12_back) 0 [some (.ref 526), none] [] (gm g) _
  unfold f_X12_back at h
  refine g_run 2 (pc' := 4) (L' := [some (.ref 526), none]) (S' := [.int ((gI g 526 47))]) (M' := gm g) rfl ?_
  refine g_if (¬ (gI g 526 47) = 0) rfl (t := 9) rfl rfl (fun c1 => ?_) (fun c1 => ?_)
  · replace h := (if_pos c1).symm.trans h
    refine g_run 2 (pc' := 11) (L' := [some (.ref 526), some (.int 0)]) (S' := []) (M' := gm g) rfl ?_
    exact p_X12_back_11 hD zFu (0) g _ h
  · replace h := (if_neg c1).symm.trans h
    refine g_run 1 (pc' := 8) (L' := [some (.ref 526), none]) (S' := [.int (-1)]) (M' := gm g) rfl ?_
    cases h
    exact g_ret rfl rfl rfl rfl
def f_X12_count (x1 : Int32) (g : zSg) : Option (Int32 × zSg) := (if x1 = 0 then some ((gI g 526 27), g) else (if x1 = 1 then some ((gI g 526 25), g) else (if x1 = 2 then some ((gI g 526 26), g) else (if x1 = 3 then some ((gI g 526 13), g) else (if x1 = 4 then some ((gI g 526 2), g) else (if x1 = 5 then some ((gI g 526 30), g) else (if x1 = 6 then some ((gI g 543 53), g) else (if x1 = 7 then some ((gI g 526 31), g) else (if x1 = 8 then some ((gI g 526 43), g) else (if x1 = 9 then some ((gI g 543 54), g) else (if x1 = 10 then some ((gI g 526 35), g) else some ((-1000000), g))))))))))))
set_option maxRecDepth 100000 in
set_option maxHeartbeats 4000000 in
theorem p_X12_count {sc : zSc} {hp : zHp} {x1 : Int32} {g : zSg} {r : Int32 × zSg} (h : f_X12_count x1 g = some r) : zRn sc hp 0 zM_X12_count [.ref 526, .int x1] (gm g) (some (.int r.1)) (gm r.2) := by
  intro d hD
  show zG _ sc hp (zcd zM_X12_count) 0 [some (.ref 526), some (.int x1)] [] (gm g) _
  unfold f_X12_count at h
  refine g_run 1 (pc' := 1) (L' := [some (.ref 526), some (.int x1)]) (S' := [.int x1]) (M' := gm g) rfl ?_
  by_cases c1 : x1 = 0
  · replace h := (if_pos c1).symm.trans h
    refine g_swc c1 rfl rfl rfl (pc' := 60) rfl ?_
    refine g_run 2 (pc' := 64) (L' := [some (.ref 526), some (.int x1)]) (S' := [.int ((gI g 526 27))]) (M' := gm g) rfl ?_
    cases h
    exact g_ret rfl rfl rfl rfl
  replace h := (if_neg c1).symm.trans h
  by_cases c2 : x1 = 1
  · replace h := (if_pos c2).symm.trans h
    refine g_swc c2 rfl rfl rfl (pc' := 65) rfl ?_
    refine g_run 2 (pc' := 69) (L' := [some (.ref 526), some (.int x1)]) (S' := [.int ((gI g 526 25))]) (M' := gm g) rfl ?_
    cases h
    exact g_ret rfl rfl rfl rfl
  replace h := (if_neg c2).symm.trans h
  by_cases c3 : x1 = 2
  · replace h := (if_pos c3).symm.trans h
    refine g_swc c3 rfl rfl rfl (pc' := 70) rfl ?_
    refine g_run 2 (pc' := 74) (L' := [some (.ref 526), some (.int x1)]) (S' := [.int ((gI g 526 26))]) (M' := gm g) rfl ?_
    cases h
    exact g_ret rfl rfl rfl rfl
  replace h := (if_neg c3).symm.trans h
  by_cases c4 : x1 = 3
  · replace h := (if_pos c4).symm.trans h
    refine g_swc c4 rfl rfl rfl (pc' := 75) rfl ?_
    refine g_run 2 (pc' := 79) (L' := [some (.ref 526), some (.int x1)]) (S' := [.int ((gI g 526 13))]) (M' := gm g) rfl ?_
    cases h
    exact g_ret rfl rfl rfl rfl
  replace h := (if_neg c4).symm.trans h
  by_cases c5 : x1 = 4
  · replace h := (if_pos c5).symm.trans h
    refine g_swc c5 rfl rfl rfl (pc' := 80) rfl ?_
    refine g_run 2 (pc' := 84) (L' := [some (.ref 526), some (.int x1)]) (S' := [.int ((gI g 526 2))]) (M' := gm g) rfl ?_
    cases h
    exact g_ret rfl rfl rfl rfl
  replace h := (if_neg c5).symm.trans h
  by_cases c6 : x1 = 5
  · replace h := (if_pos c6).symm.trans h
    refine g_swc c6 rfl rfl rfl (pc' := 85) rfl ?_
    refine g_run 2 (pc' := 89) (L' := [some (.ref 526), some (.int x1)]) (S' := [.int ((gI g 526 30))]) (M' := gm g) rfl ?_
    cases h
    exact g_ret rfl rfl rfl rfl
  replace h := (if_neg c6).symm.trans h
  by_cases c7 : x1 = 6
  · replace h := (if_pos c7).symm.trans h
    refine g_swc c7 rfl rfl rfl (pc' := 90) rfl ?_
    refine g_run 4 (pc' := 97) (L' := [some (.ref 526), some (.int x1)]) (S' := [.int ((gI g 543 53))]) (M' := gm g) rfl ?_
    cases h
    exact g_ret rfl rfl rfl rfl
  replace h := (if_neg c7).symm.trans h
  by_cases c8 : x1 = 7
  · replace h := (if_pos c8).symm.trans h
    refine g_swc c8 rfl rfl rfl (pc' := 98) rfl ?_
    refine g_run 2 (pc' := 102) (L' := [some (.ref 526), some (.int x1)]) (S' := [.int ((gI g 526 31))]) (M' := gm g) rfl ?_
    cases h
    exact g_ret rfl rfl rfl rfl
  replace h := (if_neg c8).symm.trans h
  by_cases c9 : x1 = 8
  · replace h := (if_pos c9).symm.trans h
    refine g_swc c9 rfl rfl rfl (pc' := 103) rfl ?_
    refine g_run 2 (pc' := 107) (L' := [some (.ref 526), some (.int x1)]) (S' := [.int ((gI g 526 43))]) (M' := gm g) rfl ?_
    cases h
    exact g_ret rfl rfl rfl rfl
  replace h := (if_neg c9).symm.trans h
  by_cases c10 : x1 = 9
  · replace h := (if_pos c10).symm.trans h
    refine g_swc c10 rfl rfl rfl (pc' := 108) rfl ?_
    refine g_run 4 (pc' := 115) (L' := [some (.ref 526), some (.int x1)]) (S' := [.int ((gI g 543 54))]) (M' := gm g) rfl ?_
    cases h
    exact g_ret rfl rfl rfl rfl
  replace h := (if_neg c10).symm.trans h
  by_cases c11 : x1 = 10
  · replace h := (if_pos c11).symm.trans h
    refine g_swc c11 rfl rfl rfl (pc' := 116) rfl ?_
    refine g_run 2 (pc' := 120) (L' := [some (.ref 526), some (.int x1)]) (S' := [.int ((gI g 526 35))]) (M' := gm g) rfl ?_
    cases h
    exact g_ret rfl rfl rfl rfl
  replace h := (if_neg c11).symm.trans h
  have hsw : (x1).toInt < 0 ∨ 10 < (x1).toInt := by
    have nc1 := lv_neT c1 (a := 0) rfl
    have nc2 := lv_neT c2 (a := 1) rfl
    have nc3 := lv_neT c3 (a := 2) rfl
    have nc4 := lv_neT c4 (a := 3) rfl
    have nc5 := lv_neT c5 (a := 4) rfl
    have nc6 := lv_neT c6 (a := 5) rfl
    have nc7 := lv_neT c7 (a := 6) rfl
    have nc8 := lv_neT c8 (a := 7) rfl
    have nc9 := lv_neT c9 (a := 8) rfl
    have nc10 := lv_neT c10 (a := 9) rfl
    have nc11 := lv_neT c11 (a := 10) rfl
    omega
  refine g_tsd rfl hsw (t := 121) rfl ?_
  refine g_run 1 (pc' := 124) (L' := [some (.ref 526), some (.int x1)]) (S' := [.int (-1000000)]) (M' := gm g) rfl ?_
  cases h
  exact g_ret rfl rfl rfl rfl
