/-! ===== decompiled functions (by program), 4 ===== -/
def f_X12_end (x1 : Int32) (g : zSg) : Option (Int32 × zSg) := (if x1 < 0 then some (0, g) else (if x1 ≤ (gI g 526 2) then some (1, (gsI g 526 2 x1)) else some (0, g)))
set_option maxRecDepth 100000 in
set_option maxHeartbeats 4000000 in
theorem p_X12_end {sc : zSc} {hp : zHp} {x1 : Int32} {g : zSg} {r : Int32 × zSg} (h : f_X12_end x1 g = some r) : zRn sc hp 0 zM_X12_end [.ref 526, .int x1] (gm g) (some (.int r.1)) (gm r.2) := by
  intro d hD
  show zG _ sc hp (zcd zM_X12_end) 0 [some (.ref 526), some (.int x1)] [] (gm g) _
  unfold f_X12_end at h
  refine g_run 1 (pc' := 1) (L' := [some (.ref 526), some (.int x1)]) (S' := [.int x1]) (M' := gm g) rfl ?_
  refine g_if (x1 < 0) rfl (t := 12) rfl rfl (fun c1 => ?_) (fun c1 => ?_)
  · replace h := (if_pos c1).symm.trans h
    refine g_run 1 (pc' := 13) (L' := [some (.ref 526), some (.int x1)]) (S' := [.int 0]) (M' := gm g) rfl ?_
    cases h
    exact g_ret rfl rfl rfl rfl
  · replace h := (if_neg c1).symm.trans h
    refine g_run 3 (pc' := 9) (L' := [some (.ref 526), some (.int x1)]) (S' := [.int ((gI g 526 2)), .int x1]) (M' := gm g) rfl ?_
    refine g_icmp (x1 ≤ (gI g 526 2)) rfl (t := 14) rfl rfl (fun c2 => ?_) (fun c2 => ?_)
    · replace h := (if_pos c2).symm.trans h
      refine g_run 4 (pc' := 20) (L' := [some (.ref 526), some (.int x1)]) (S' := [.int 1]) (M' := gm (gsI g 526 2 x1)) rfl ?_
      cases h
      exact g_ret rfl rfl rfl rfl
    · replace h := (if_neg c2).symm.trans h
      refine g_run 1 (pc' := 13) (L' := [some (.ref 526), some (.int x1)]) (S' := [.int 0]) (M' := gm g) rfl ?_
      cases h
      exact g_ret rfl rfl rfl rfl
def f_X12_here (g : zSg) : Option (Int32 × zSg) := (if (gI g 526 2) ≤ (gI g 526 3) then some ((-1), g) else (if zib (gI g 526 3) 240 = true then some ((gI g 527 (ix (gI g 526 3))), g) else none))
set_option maxRecDepth 100000 in
set_option maxHeartbeats 4000000 in
theorem p_X12_here {sc : zSc} {hp : zHp} {g : zSg} {r : Int32 × zSg} (h : f_X12_here g = some r) : zRn sc hp 0 zM_X12_here [.ref 526] (gm g) (some (.int r.1)) (gm r.2) := by
  intro d hD
  show zG _ sc hp (zcd zM_X12_here) 0 [some (.ref 526)] [] (gm g) _
  unfold f_X12_here at h
  refine g_run 4 (pc' := 8) (L' := [some (.ref 526)]) (S' := [.int ((gI g 526 2)), .int ((gI g 526 3))]) (M' := gm g) rfl ?_
  refine g_icmp ((gI g 526 2) ≤ (gI g 526 3)) rfl (t := 23) rfl rfl (fun c1 => ?_) (fun c1 => ?_)
  · replace h := (if_pos c1).symm.trans h
    refine g_run 1 (pc' := 24) (L' := [some (.ref 526)]) (S' := [.int (-1)]) (M' := gm g) rfl ?_
    cases h
    exact g_ret rfl rfl rfl rfl
  · replace h := (if_neg c1).symm.trans h
    refine g_run 4 (pc' := 19) (L' := [some (.ref 526)]) (S' := [.int ((gI g 526 3)), .ref 527]) (M' := gm g) rfl ?_
    by_cases c2 : zib (gI g 526 3) 240 = true
    case neg => exact nomatch ((if_neg c2).symm.trans h)
    replace h := (if_pos c2).symm.trans h
    refine g_iald rfl (a := 527) rfl c2 ?_
    refine g_run 1 (pc' := 24) (L' := [some (.ref 526)]) (S' := [.int ((gI g 527 (ix (gI g 526 3))))]) (M' := gm g) rfl ?_
    cases h
    exact g_ret rfl rfl rfl rfl
def f_X12_look_22 (g : zSg) : Option (Int32 × zSg) := (zB (f_X12_here g) (fun v1 g2 => some (v1, g2)))
set_option maxRecDepth 100000 in
set_option maxHeartbeats 4000000 in
theorem p_X12_look_22 {sc : zSc} {hp : zHp} {d : Nat} (hD : 1 ≤ d) (g : zSg) (r : Int32 × zSg) (h : f_X12_look_22 g = some r) : zG d sc hp (zcd zM_X12_look) 22 [some (.ref 526)] [] (gm g) ((some (.int r.1)), gm r.2) := by
  obtain ⟨d, rfl⟩ : ∃ d', d = d' + 1 := ⟨d - 1, by omega⟩
  unfold f_X12_look_22 at h
  refine g_run 1 (pc' := 23) (L' := [some (.ref 526)]) (S' := [.ref 526]) (M' := gm g) rfl ?_
  replace h := zB_of h
  obtain ⟨v1, g2, e3, h⟩ := h
  refine g_inv2 (kd := 1) (p_X12_here  e3) rfl rfl rfl (by decide) rfl rfl rfl rfl (by omega) (pc' := 26) rfl (S' := [.int v1]) rfl ?_
  cases h
  exact g_ret rfl rfl rfl rfl
def fb_X12_look_0 (kk : zSg → Option (Int32 × zSg)) (g : zSg) : Option (Int32 × zSg) := (zB (f_X12_here g) (fun v1 g2 => (if ¬ v1 = 32 then f_X12_look_22 g2 else kk (gsI g2 526 3 ((gI g2 526 3) + 1)))))
def f_X12_look_0 : Nat → zSg → Option (Int32 × zSg)
  | 0, _ => none
  | n + 1, g => fb_X12_look_0 (f_X12_look_0 n) g
set_option maxRecDepth 100000 in
set_option maxHeartbeats 4000000 in
theorem p_X12_look_0 {sc : zSc} {hp : zHp} {d : Nat} (hD : 1 ≤ d) : ∀ (n : Nat) (g : zSg) (r : Int32 × zSg), f_X12_look_0 n g = some r → zG d sc hp (zcd zM_X12_look) 0 [some (.ref 526)] [] (gm g) ((some (.int r.1)), gm r.2) := by
  obtain ⟨d, rfl⟩ : ∃ d', d = d' + 1 := ⟨d - 1, by omega⟩
  intro n
  induction n with
  | zero => intro g r h; cases h
  | succ n ih =>
    intro g r h
    replace h : fb_X12_look_0 (f_X12_look_0 n) g = some r := h
    unfold fb_X12_look_0 at h
    refine g_run 1 (pc' := 1) (L' := [some (.ref 526)]) (S' := [.ref 526]) (M' := gm g) rfl ?_
    replace h := zB_of h
    obtain ⟨v1, g2, e3, h⟩ := h
    refine g_inv2 (kd := 1) (p_X12_here  e3) rfl rfl rfl (by decide) rfl rfl rfl rfl (by omega) (pc' := 4) rfl (S' := [.int v1]) rfl ?_
    refine g_run 1 (pc' := 6) (L' := [some (.ref 526)]) (S' := [.int 32, .int v1]) (M' := gm g2) rfl ?_
    refine g_icmp (¬ v1 = 32) rfl (t := 22) rfl rfl (fun c4 => ?_) (fun c4 => ?_)
    · replace h := (if_pos c4).symm.trans h
      exact p_X12_look_22 hD g2 _ h
    · replace h := (if_neg c4).symm.trans h
      refine g_run 7 (pc' := 0) (L' := [some (.ref 526)]) (S' := []) (M' := gm (gsI g2 526 3 ((gI g2 526 3) + 1))) rfl ?_
      exact ih (gsI g2 526 3 ((gI g2 526 3) + 1)) _ h
def f_X12_look (g : zSg) : Option (Int32 × zSg) := f_X12_look_0 zFu g
set_option maxRecDepth 100000 in
set_option maxHeartbeats 4000000 in
theorem p_X12_look {sc : zSc} {hp : zHp} {g : zSg} {r : Int32 × zSg} (h : f_X12_look g = some r) : zRn sc hp 1 zM_X12_look [.ref 526] (gm g) (some (.int r.1)) (gm r.2) := by
  intro d hD
  obtain ⟨d, rfl⟩ : ∃ d', d = d' + 1 := ⟨d - 1, by omega⟩
  show zG _ sc hp (zcd zM_X12_look) 0 [some (.ref 526)] [] (gm g) _
  unfold f_X12_look at h
  exact p_X12_look_0 hD zFu g _ h
def f_X12_bad_20 (s0 : Int32) (g : zSg) : Option (Unit × zSg) := some ((), (gsI g 526 4 s0))
set_option maxRecDepth 100000 in
set_option maxHeartbeats 4000000 in
theorem p_X12_bad_20 {sc : zSc} {hp : zHp} {d : Nat} (hD : 0 ≤ d) (s0 : Int32) (g : zSg) (r : Unit × zSg) (h : f_X12_bad_20 s0 g = some r) : zG d sc hp (zcd zM_X12_bad) 20 [none] [.int s0, .ref 526] (gm g) (none, gm r.2) := by
  unfold f_X12_bad_20 at h
  refine g_run 1 (pc' := 23) (L' := [none]) (S' := []) (M' := gm (gsI g 526 4 s0)) rfl ?_
  cases h
  exact g_ret rfl rfl rfl rfl
def f_X12_bad (g : zSg) : Option (Unit × zSg) := (if ¬ (gI g 526 4) = (-1) then f_X12_bad_20 (gI g 526 4) g else f_X12_bad_20 (gI g 526 3) g)
set_option maxRecDepth 100000 in
set_option maxHeartbeats 4000000 in
theorem p_X12_bad {sc : zSc} {hp : zHp} {g : zSg} {r : Unit × zSg} (h : f_X12_bad g = some r) : zRn sc hp 0 zM_X12_bad [.ref 526] (gm g) none (gm r.2) := by
  intro d hD
  show zG _ sc hp (zcd zM_X12_bad) 0 [some (.ref 526)] [] (gm g) _
  unfold f_X12_bad at h
  refine g_run 4 (pc' := 6) (L' := [some (.ref 526)]) (S' := [.int (-1), .int ((gI g 526 4)), .ref 526]) (M' := gm g) rfl ?_
  refine g_icmp (¬ (gI g 526 4) = (-1)) rfl (t := 16) rfl rfl (fun c1 => ?_) (fun c1 => ?_)
  · replace h := (if_pos c1).symm.trans h
    refine g_run 2 (pc' := 20) (L' := [some (.ref 526)]) (S' := [.int ((gI g 526 4)), .ref 526]) (M' := gm g) rfl ?_
    refine g_forget (L' := [none]) True.intro ?_
    exact p_X12_bad_20 hD (gI g 526 4) g _ h
  · replace h := (if_neg c1).symm.trans h
    refine g_run 3 (pc' := 20) (L' := [some (.ref 526)]) (S' := [.int ((gI g 526 3)), .ref 526]) (M' := gm g) rfl ?_
    refine g_forget (L' := [none]) True.intro ?_
    exact p_X12_bad_20 hD (gI g 526 3) g _ h
def f_X12_isDigit (x1 : Int32) (g : zSg) : Option (Int32 × zSg) := (if x1 < 48 then some (0, g) else (if 57 < x1 then some (0, g) else some (1, g)))
set_option maxRecDepth 100000 in
set_option maxHeartbeats 4000000 in
theorem p_X12_isDigit {sc : zSc} {hp : zHp} {x1 : Int32} {g : zSg} {r : Int32 × zSg} (h : f_X12_isDigit x1 g = some r) : zRn sc hp 0 zM_X12_isDigit [.int x1] (gm g) (some (.int r.1)) (gm r.2) := by
  intro d hD
  show zG _ sc hp (zcd zM_X12_isDigit) 0 [some (.int x1)] [] (gm g) _
  unfold f_X12_isDigit at h
  refine g_run 2 (pc' := 3) (L' := [some (.int x1)]) (S' := [.int 48, .int x1]) (M' := gm g) rfl ?_
  refine g_icmp (x1 < 48) rfl (t := 16) rfl rfl (fun c1 => ?_) (fun c1 => ?_)
  · replace h := (if_pos c1).symm.trans h
    refine g_run 1 (pc' := 17) (L' := [some (.int x1)]) (S' := [.int 0]) (M' := gm g) rfl ?_
    cases h
    exact g_ret rfl rfl rfl rfl
  · replace h := (if_neg c1).symm.trans h
    refine g_run 2 (pc' := 9) (L' := [some (.int x1)]) (S' := [.int 57, .int x1]) (M' := gm g) rfl ?_
    refine g_icmp (57 < x1) rfl (t := 16) rfl rfl (fun c2 => ?_) (fun c2 => ?_)
    · replace h := (if_pos c2).symm.trans h
      refine g_run 1 (pc' := 17) (L' := [some (.int x1)]) (S' := [.int 0]) (M' := gm g) rfl ?_
      cases h
      exact g_ret rfl rfl rfl rfl
    · replace h := (if_neg c2).symm.trans h
      refine g_run 2 (pc' := 17) (L' := [some (.int x1)]) (S' := [.int 1]) (M' := gm g) rfl ?_
      cases h
      exact g_ret rfl rfl rfl rfl
def f_X12_put (x1 : Int32) (x2 : Int32) (g : zSg) : Option (Unit × zSg) := (if zib (gI g 526 14) 5 = true then (if zib ((520 * (gI g 526 14)) + (gI g 530 (ix (gI g 526 14)))) 2600 = true then (if zib (gI (gsI g (528) (ix ((520 * (gI g 526 14)) + (gI g 530 (ix (gI g 526 14))))) x1) 526 14) 5 = true then (if zib ((520 * (gI (gsI g (528) (ix ((520 * (gI g 526 14)) + (gI g 530 (ix (gI g 526 14))))) x1) 526 14)) + (gI (gsI g (528) (ix ((520 * (gI g 526 14)) + (gI g 530 (ix (gI g 526 14))))) x1) 530 (ix (gI (gsI g (528) (ix ((520 * (gI g 526 14)) + (gI g 530 (ix (gI g 526 14))))) x1) 526 14)))) 2600 = true then (if zib (gI (gsI (gsI g (528) (ix ((520 * (gI g 526 14)) + (gI g 530 (ix (gI g 526 14))))) x1) (529) (ix ((520 * (gI (gsI g (528) (ix ((520 * (gI g 526 14)) + (gI g 530 (ix (gI g 526 14))))) x1) 526 14)) + (gI (gsI g (528) (ix ((520 * (gI g 526 14)) + (gI g 530 (ix (gI g 526 14))))) x1) 530 (ix (gI (gsI g (528) (ix ((520 * (gI g 526 14)) + (gI g 530 (ix (gI g 526 14))))) x1) 526 14))))) x2) 526 14) 5 = true then (if zib (gI (gsI (gsI g (528) (ix ((520 * (gI g 526 14)) + (gI g 530 (ix (gI g 526 14))))) x1) (529) (ix ((520 * (gI (gsI g (528) (ix ((520 * (gI g 526 14)) + (gI g 530 (ix (gI g 526 14))))) x1) 526 14)) + (gI (gsI g (528) (ix ((520 * (gI g 526 14)) + (gI g 530 (ix (gI g 526 14))))) x1) 530 (ix (gI (gsI g (528) (ix ((520 * (gI g 526 14)) + (gI g 530 (ix (gI g 526 14))))) x1) 526 14))))) x2) 526 14) 5 = true then some ((), (gsI (gsI (gsI g (528) (ix ((520 * (gI g 526 14)) + (gI g 530 (ix (gI g 526 14))))) x1) (529) (ix ((520 * (gI (gsI g (528) (ix ((520 * (gI g 526 14)) + (gI g 530 (ix (gI g 526 14))))) x1) 526 14)) + (gI (gsI g (528) (ix ((520 * (gI g 526 14)) + (gI g 530 (ix (gI g 526 14))))) x1) 530 (ix (gI (gsI g (528) (ix ((520 * (gI g 526 14)) + (gI g 530 (ix (gI g 526 14))))) x1) 526 14))))) x2) (530) (ix (gI (gsI (gsI g (528) (ix ((520 * (gI g 526 14)) + (gI g 530 (ix (gI g 526 14))))) x1) (529) (ix ((520 * (gI (gsI g (528) (ix ((520 * (gI g 526 14)) + (gI g 530 (ix (gI g 526 14))))) x1) 526 14)) + (gI (gsI g (528) (ix ((520 * (gI g 526 14)) + (gI g 530 (ix (gI g 526 14))))) x1) 530 (ix (gI (gsI g (528) (ix ((520 * (gI g 526 14)) + (gI g 530 (ix (gI g 526 14))))) x1) 526 14))))) x2) 526 14)) ((gI (gsI (gsI g (528) (ix ((520 * (gI g 526 14)) + (gI g 530 (ix (gI g 526 14))))) x1) (529) (ix ((520 * (gI (gsI g (528) (ix ((520 * (gI g 526 14)) + (gI g 530 (ix (gI g 526 14))))) x1) 526 14)) + (gI (gsI g (528) (ix ((520 * (gI g 526 14)) + (gI g 530 (ix (gI g 526 14))))) x1) 530 (ix (gI (gsI g (528) (ix ((520 * (gI g 526 14)) + (gI g 530 (ix (gI g 526 14))))) x1) 526 14))))) x2) 530 (ix (gI (gsI (gsI g (528) (ix ((520 * (gI g 526 14)) + (gI g 530 (ix (gI g 526 14))))) x1) (529) (ix ((520 * (gI (gsI g (528) (ix ((520 * (gI g 526 14)) + (gI g 530 (ix (gI g 526 14))))) x1) 526 14)) + (gI (gsI g (528) (ix ((520 * (gI g 526 14)) + (gI g 530 (ix (gI g 526 14))))) x1) 530 (ix (gI (gsI g (528) (ix ((520 * (gI g 526 14)) + (gI g 530 (ix (gI g 526 14))))) x1) 526 14))))) x2) 526 14))) + 1))) else none) else none) else none) else none) else none) else none)
set_option maxRecDepth 100000 in
set_option maxHeartbeats 4000000 in
theorem p_X12_put {sc : zSc} {hp : zHp} {x1 : Int32} {x2 : Int32} {g : zSg} {r : Unit × zSg} (h : f_X12_put x1 x2 g = some r) : zRn sc hp 0 zM_X12_put [.ref 526, .int x1, .int x2] (gm g) none (gm r.2) := by
  intro d hD
  show zG _ sc hp (zcd zM_X12_put) 0 [some (.ref 526), some (.int x1), some (.int x2)] [] (gm g) _
  unfold f_X12_put at h
  refine g_run 10 (pc' := 20) (L' := [some (.ref 526), some (.int x1), some (.int x2)]) (S' := [.int ((gI g 526 14)), .ref 530, .int ((520 * (gI g 526 14))), .ref 528]) (M' := gm g) rfl ?_
  by_cases c1 : zib (gI g 526 14) 5 = true
  case neg => exact nomatch ((if_neg c1).symm.trans h)
  replace h := (if_pos c1).symm.trans h
  refine g_iald rfl (a := 530) rfl c1 ?_
  refine g_run 2 (pc' := 23) (L' := [some (.ref 526), some (.int x1), some (.int x2)]) (S' := [.int x1, .int (((520 * (gI g 526 14)) + (gI g 530 (ix (gI g 526 14))))), .ref 528]) (M' := gm g) rfl ?_
  by_cases c2 : zib ((520 * (gI g 526 14)) + (gI g 530 (ix (gI g 526 14)))) 2600 = true
  case neg => exact nomatch ((if_neg c2).symm.trans h)
  replace h := (if_pos c2).symm.trans h
  refine g_iast rfl (a := 528) rfl c2 ?_
  refine g_run 10 (pc' := 44) (L' := [some (.ref 526), some (.int x1), some (.int x2)]) (S' := [.int ((gI (gsI g (528) (ix ((520 * (gI g 526 14)) + (gI g 530 (ix (gI g 526 14))))) x1) 526 14)), .ref 530, .int ((520 * (gI (gsI g (528) (ix ((520 * (gI g 526 14)) + (gI g 530 (ix (gI g 526 14))))) x1) 526 14))), .ref 529]) (M' := gm (gsI g (528) (ix ((520 * (gI g 526 14)) + (gI g 530 (ix (gI g 526 14))))) x1)) rfl ?_
  by_cases c3 : zib (gI (gsI g (528) (ix ((520 * (gI g 526 14)) + (gI g 530 (ix (gI g 526 14))))) x1) 526 14) 5 = true
  case neg => exact nomatch ((if_neg c3).symm.trans h)
  replace h := (if_pos c3).symm.trans h
  refine g_iald rfl (a := 530) rfl c3 ?_
  refine g_run 2 (pc' := 47) (L' := [some (.ref 526), some (.int x1), some (.int x2)]) (S' := [.int x2, .int (((520 * (gI (gsI g (528) (ix ((520 * (gI g 526 14)) + (gI g 530 (ix (gI g 526 14))))) x1) 526 14)) + (gI (gsI g (528) (ix ((520 * (gI g 526 14)) + (gI g 530 (ix (gI g 526 14))))) x1) 530 (ix (gI (gsI g (528) (ix ((520 * (gI g 526 14)) + (gI g 530 (ix (gI g 526 14))))) x1) 526 14))))), .ref 529]) (M' := gm (gsI g (528) (ix ((520 * (gI g 526 14)) + (gI g 530 (ix (gI g 526 14))))) x1)) rfl ?_
  by_cases c4 : zib ((520 * (gI (gsI g (528) (ix ((520 * (gI g 526 14)) + (gI g 530 (ix (gI g 526 14))))) x1) 526 14)) + (gI (gsI g (528) (ix ((520 * (gI g 526 14)) + (gI g 530 (ix (gI g 526 14))))) x1) 530 (ix (gI (gsI g (528) (ix ((520 * (gI g 526 14)) + (gI g 530 (ix (gI g 526 14))))) x1) 526 14)))) 2600 = true
  case neg => exact nomatch ((if_neg c4).symm.trans h)
  replace h := (if_pos c4).symm.trans h
  refine g_iast rfl (a := 529) rfl c4 ?_
  refine g_run 5 (pc' := 57) (L' := [some (.ref 526), some (.int x1), some (.int x2)]) (S' := [.int ((gI (gsI (gsI g (528) (ix ((520 * (gI g 526 14)) + (gI g 530 (ix (gI g 526 14))))) x1) (529) (ix ((520 * (gI (gsI g (528) (ix ((520 * (gI g 526 14)) + (gI g 530 (ix (gI g 526 14))))) x1) 526 14)) + (gI (gsI g (528) (ix ((520 * (gI g 526 14)) + (gI g 530 (ix (gI g 526 14))))) x1) 530 (ix (gI (gsI g (528) (ix ((520 * (gI g 526 14)) + (gI g 530 (ix (gI g 526 14))))) x1) 526 14))))) x2) 526 14)), .ref 530, .int ((gI (gsI (gsI g (528) (ix ((520 * (gI g 526 14)) + (gI g 530 (ix (gI g 526 14))))) x1) (529) (ix ((520 * (gI (gsI g (528) (ix ((520 * (gI g 526 14)) + (gI g 530 (ix (gI g 526 14))))) x1) 526 14)) + (gI (gsI g (528) (ix ((520 * (gI g 526 14)) + (gI g 530 (ix (gI g 526 14))))) x1) 530 (ix (gI (gsI g (528) (ix ((520 * (gI g 526 14)) + (gI g 530 (ix (gI g 526 14))))) x1) 526 14))))) x2) 526 14)), .ref 530]) (M' := gm (gsI (gsI g (528) (ix ((520 * (gI g 526 14)) + (gI g 530 (ix (gI g 526 14))))) x1) (529) (ix ((520 * (gI (gsI g (528) (ix ((520 * (gI g 526 14)) + (gI g 530 (ix (gI g 526 14))))) x1) 526 14)) + (gI (gsI g (528) (ix ((520 * (gI g 526 14)) + (gI g 530 (ix (gI g 526 14))))) x1) 530 (ix (gI (gsI g (528) (ix ((520 * (gI g 526 14)) + (gI g 530 (ix (gI g 526 14))))) x1) 526 14))))) x2)) rfl ?_
  by_cases c5 : zib (gI (gsI (gsI g (528) (ix ((520 * (gI g 526 14)) + (gI g 530 (ix (gI g 526 14))))) x1) (529) (ix ((520 * (gI (gsI g (528) (ix ((520 * (gI g 526 14)) + (gI g 530 (ix (gI g 526 14))))) x1) 526 14)) + (gI (gsI g (528) (ix ((520 * (gI g 526 14)) + (gI g 530 (ix (gI g 526 14))))) x1) 530 (ix (gI (gsI g (528) (ix ((520 * (gI g 526 14)) + (gI g 530 (ix (gI g 526 14))))) x1) 526 14))))) x2) 526 14) 5 = true
  case neg => exact nomatch ((if_neg c5).symm.trans h)
  replace h := (if_pos c5).symm.trans h
  refine g_iald rfl (a := 530) rfl c5 ?_
  refine g_run 2 (pc' := 60) (L' := [some (.ref 526), some (.int x1), some (.int x2)]) (S' := [.int (((gI (gsI (gsI g (528) (ix ((520 * (gI g 526 14)) + (gI g 530 (ix (gI g 526 14))))) x1) (529) (ix ((520 * (gI (gsI g (528) (ix ((520 * (gI g 526 14)) + (gI g 530 (ix (gI g 526 14))))) x1) 526 14)) + (gI (gsI g (528) (ix ((520 * (gI g 526 14)) + (gI g 530 (ix (gI g 526 14))))) x1) 530 (ix (gI (gsI g (528) (ix ((520 * (gI g 526 14)) + (gI g 530 (ix (gI g 526 14))))) x1) 526 14))))) x2) 530 (ix (gI (gsI (gsI g (528) (ix ((520 * (gI g 526 14)) + (gI g 530 (ix (gI g 526 14))))) x1) (529) (ix ((520 * (gI (gsI g (528) (ix ((520 * (gI g 526 14)) + (gI g 530 (ix (gI g 526 14))))) x1) 526 14)) + (gI (gsI g (528) (ix ((520 * (gI g 526 14)) + (gI g 530 (ix (gI g 526 14))))) x1) 530 (ix (gI (gsI g (528) (ix ((520 * (gI g 526 14)) + (gI g 530 (ix (gI g 526 14))))) x1) 526 14))))) x2) 526 14))) + 1)), .int ((gI (gsI (gsI g (528) (ix ((520 * (gI g 526 14)) + (gI g 530 (ix (gI g 526 14))))) x1) (529) (ix ((520 * (gI (gsI g (528) (ix ((520 * (gI g 526 14)) + (gI g 530 (ix (gI g 526 14))))) x1) 526 14)) + (gI (gsI g (528) (ix ((520 * (gI g 526 14)) + (gI g 530 (ix (gI g 526 14))))) x1) 530 (ix (gI (gsI g (528) (ix ((520 * (gI g 526 14)) + (gI g 530 (ix (gI g 526 14))))) x1) 526 14))))) x2) 526 14)), .ref 530]) (M' := gm (gsI (gsI g (528) (ix ((520 * (gI g 526 14)) + (gI g 530 (ix (gI g 526 14))))) x1) (529) (ix ((520 * (gI (gsI g (528) (ix ((520 * (gI g 526 14)) + (gI g 530 (ix (gI g 526 14))))) x1) 526 14)) + (gI (gsI g (528) (ix ((520 * (gI g 526 14)) + (gI g 530 (ix (gI g 526 14))))) x1) 530 (ix (gI (gsI g (528) (ix ((520 * (gI g 526 14)) + (gI g 530 (ix (gI g 526 14))))) x1) 526 14))))) x2)) rfl ?_
  by_cases c6 : zib (gI (gsI (gsI g (528) (ix ((520 * (gI g 526 14)) + (gI g 530 (ix (gI g 526 14))))) x1) (529) (ix ((520 * (gI (gsI g (528) (ix ((520 * (gI g 526 14)) + (gI g 530 (ix (gI g 526 14))))) x1) 526 14)) + (gI (gsI g (528) (ix ((520 * (gI g 526 14)) + (gI g 530 (ix (gI g 526 14))))) x1) 530 (ix (gI (gsI g (528) (ix ((520 * (gI g 526 14)) + (gI g 530 (ix (gI g 526 14))))) x1) 526 14))))) x2) 526 14) 5 = true
  case neg => exact nomatch ((if_neg c6).symm.trans h)
  replace h := (if_pos c6).symm.trans h
  refine g_iast rfl (a := 530) rfl c6 ?_
  cases h
  exact g_ret rfl rfl rfl rfl
def f_X12_letterOf (x1 : Int32) (g : zSg) : Option (Int32 × zSg) := (if ¬ x1 = 107 then (if ¬ x1 = 102 then (if ¬ x1 = 110 then (if ¬ x1 = 118 then (if ¬ x1 = 116 then (if ¬ x1 = 111 then some ((-1), g) else some (5, g)) else some (4, g)) else some (3, g)) else some (2, g)) else some (1, g)) else some (0, g))
set_option maxRecDepth 100000 in
set_option maxHeartbeats 4000000 in
theorem p_X12_letterOf {sc : zSc} {hp : zHp} {x1 : Int32} {g : zSg} {r : Int32 × zSg} (h : f_X12_letterOf x1 g = some r) : zRn sc hp 0 zM_X12_letterOf [.int x1] (gm g) (some (.int r.1)) (gm r.2) := by
  intro d hD
  show zG _ sc hp (zcd zM_X12_letterOf) 0 [some (.int x1)] [] (gm g) _
  unfold f_X12_letterOf at h
  refine g_run 2 (pc' := 3) (L' := [some (.int x1)]) (S' := [.int 107, .int x1]) (M' := gm g) rfl ?_
  refine g_icmp (¬ x1 = 107) rfl (t := 10) rfl rfl (fun c1 => ?_) (fun c1 => ?_)
  · replace h := (if_pos c1).symm.trans h
    refine g_run 2 (pc' := 13) (L' := [some (.int x1)]) (S' := [.int 102, .int x1]) (M' := gm g) rfl ?_
    refine g_icmp (¬ x1 = 102) rfl (t := 20) rfl rfl (fun c2 => ?_) (fun c2 => ?_)
    · replace h := (if_pos c2).symm.trans h
      refine g_run 2 (pc' := 23) (L' := [some (.int x1)]) (S' := [.int 110, .int x1]) (M' := gm g) rfl ?_
      refine g_icmp (¬ x1 = 110) rfl (t := 30) rfl rfl (fun c3 => ?_) (fun c3 => ?_)
      · replace h := (if_pos c3).symm.trans h
        refine g_run 2 (pc' := 33) (L' := [some (.int x1)]) (S' := [.int 118, .int x1]) (M' := gm g) rfl ?_
        refine g_icmp (¬ x1 = 118) rfl (t := 40) rfl rfl (fun c4 => ?_) (fun c4 => ?_)
        · replace h := (if_pos c4).symm.trans h
          refine g_run 2 (pc' := 43) (L' := [some (.int x1)]) (S' := [.int 116, .int x1]) (M' := gm g) rfl ?_
          refine g_icmp (¬ x1 = 116) rfl (t := 50) rfl rfl (fun c5 => ?_) (fun c5 => ?_)
          · replace h := (if_pos c5).symm.trans h
            refine g_run 2 (pc' := 53) (L' := [some (.int x1)]) (S' := [.int 111, .int x1]) (M' := gm g) rfl ?_
            refine g_icmp (¬ x1 = 111) rfl (t := 60) rfl rfl (fun c6 => ?_) (fun c6 => ?_)
            · replace h := (if_pos c6).symm.trans h
              refine g_run 1 (pc' := 61) (L' := [some (.int x1)]) (S' := [.int (-1)]) (M' := gm g) rfl ?_
              cases h
              exact g_ret rfl rfl rfl rfl
            · replace h := (if_neg c6).symm.trans h
              refine g_run 2 (pc' := 61) (L' := [some (.int x1)]) (S' := [.int 5]) (M' := gm g) rfl ?_
              cases h
              exact g_ret rfl rfl rfl rfl
          · replace h := (if_neg c5).symm.trans h
            refine g_run 2 (pc' := 61) (L' := [some (.int x1)]) (S' := [.int 4]) (M' := gm g) rfl ?_
            cases h
            exact g_ret rfl rfl rfl rfl
        · replace h := (if_neg c4).symm.trans h
          refine g_run 2 (pc' := 61) (L' := [some (.int x1)]) (S' := [.int 3]) (M' := gm g) rfl ?_
          cases h
          exact g_ret rfl rfl rfl rfl
      · replace h := (if_neg c3).symm.trans h
        refine g_run 2 (pc' := 61) (L' := [some (.int x1)]) (S' := [.int 2]) (M' := gm g) rfl ?_
        cases h
        exact g_ret rfl rfl rfl rfl
    · replace h := (if_neg c2).symm.trans h
      refine g_run 2 (pc' := 61) (L' := [some (.int x1)]) (S' := [.int 1]) (M' := gm g) rfl ?_
      cases h
      exact g_ret rfl rfl rfl rfl
  · replace h := (if_neg c1).symm.trans h
    refine g_run 2 (pc' := 61) (L' := [some (.int x1)]) (S' := [.int 0]) (M' := gm g) rfl ?_
    cases h
    exact g_ret rfl rfl rfl rfl
def f_X12_opens_13 (g : zSg) : Option (Unit × zSg) := some ((), (gsI (gsI g 526 5 ((gI g 526 5) + 1)) 526 3 ((gI (gsI g 526 5 ((gI g 526 5) + 1)) 526 3) + 1)))
set_option maxRecDepth 100000 in
set_option maxHeartbeats 4000000 in
theorem p_X12_opens_13 {sc : zSc} {hp : zHp} {d : Nat} (hD : 1 ≤ d) (g : zSg) (r : Unit × zSg) (h : f_X12_opens_13 g = some r) : zG d sc hp (zcd zM_X12_opens) 13 [some (.ref 526)] [] (gm g) (none, gm r.2) := by
  obtain ⟨d, rfl⟩ : ∃ d', d = d' + 1 := ⟨d - 1, by omega⟩
  unfold f_X12_opens_13 at h
  refine g_run 12 (pc' := 33) (L' := [some (.ref 526)]) (S' := []) (M' := gm (gsI (gsI g 526 5 ((gI g 526 5) + 1)) 526 3 ((gI (gsI g 526 5 ((gI g 526 5) + 1)) 526 3) + 1))) rfl ?_
  cases h
  exact g_ret rfl rfl rfl rfl
def f_X12_opens (g : zSg) : Option (Unit × zSg) := (if ¬ (gI g 526 5) = 6 then f_X12_opens_13 g else (zB (f_X12_bad g) (fun v2 g3 => f_X12_opens_13 g3)))
set_option maxRecDepth 100000 in
set_option maxHeartbeats 4000000 in
theorem p_X12_opens {sc : zSc} {hp : zHp} {g : zSg} {r : Unit × zSg} (h : f_X12_opens g = some r) : zRn sc hp 1 zM_X12_opens [.ref 526] (gm g) none (gm r.2) := by
  intro d hD
  obtain ⟨d, rfl⟩ : ∃ d', d = d' + 1 := ⟨d - 1, by omega⟩
  show zG _ sc hp (zcd zM_X12_opens) 0 [some (.ref 526)] [] (gm g) _
  unfold f_X12_opens at h
  refine g_run 3 (pc' := 6) (L' := [some (.ref 526)]) (S' := [.int 6, .int ((gI g 526 5))]) (M' := gm g) rfl ?_
  refine g_icmp (¬ (gI g 526 5) = 6) rfl (t := 13) rfl rfl (fun c1 => ?_) (fun c1 => ?_)
  · replace h := (if_pos c1).symm.trans h
    exact p_X12_opens_13 hD g _ h
  · replace h := (if_neg c1).symm.trans h
    refine g_run 1 (pc' := 10) (L' := [some (.ref 526)]) (S' := [.ref 526]) (M' := gm g) rfl ?_
    replace h := zB_of h
    obtain ⟨v2, g3, e4, h⟩ := h
    refine g_inv2 (kd := 1) (p_X12_bad  e4) rfl rfl rfl (by decide) rfl rfl rfl rfl (by omega) (pc' := 13) rfl (S' := []) rfl ?_
    exact p_X12_opens_13 hD g3 _ h
def f_X12_closes_20 (g : zSg) : Option (Unit × zSg) := some ((), (gsI (gsI g 526 3 ((gI g 526 3) + 1)) 526 5 ((gI (gsI g 526 3 ((gI g 526 3) + 1)) 526 5) - 1)))
set_option maxRecDepth 100000 in
set_option maxHeartbeats 4000000 in
theorem p_X12_closes_20 {sc : zSc} {hp : zHp} {d : Nat} (hD : 2 ≤ d) (g : zSg) (r : Unit × zSg) (h : f_X12_closes_20 g = some r) : zG d sc hp (zcd zM_X12_closes) 20 [some (.ref 526), none] [] (gm g) (none, gm r.2) := by
  obtain ⟨d, rfl⟩ : ∃ d', d = d' + 1 := ⟨d - 1, by omega⟩
  unfold f_X12_closes_20 at h
  refine g_run 12 (pc' := 40) (L' := [some (.ref 526), none]) (S' := []) (M' := gm (gsI (gsI g 526 3 ((gI g 526 3) + 1)) 526 5 ((gI (gsI g 526 3 ((gI g 526 3) + 1)) 526 5) - 1))) rfl ?_
  cases h
  exact g_ret rfl rfl rfl rfl
def f_X12_closes (x1 : Int32) (g : zSg) : Option (Unit × zSg) := (if ¬ (gI g 526 4) = (-1) then f_X12_closes_20 g else (zB (f_X12_look g) (fun v2 g3 => (if v2 = x1 then f_X12_closes_20 g3 else (zB (f_X12_bad g3) (fun v6 g7 => f_X12_closes_20 g7))))))
set_option maxRecDepth 100000 in
set_option maxHeartbeats 4000000 in
theorem p_X12_closes {sc : zSc} {hp : zHp} {x1 : Int32} {g : zSg} {r : Unit × zSg} (h : f_X12_closes x1 g = some r) : zRn sc hp 2 zM_X12_closes [.ref 526, .int x1] (gm g) none (gm r.2) := by
  intro d hD
  obtain ⟨d, rfl⟩ : ∃ d', d = d' + 1 := ⟨d - 1, by omega⟩
  show zG _ sc hp (zcd zM_X12_closes) 0 [some (.ref 526), some (.int x1)] [] (gm g) _
  unfold f_X12_closes at h
  refine g_run 3 (pc' := 5) (L' := [some (.ref 526), some (.int x1)]) (S' := [.int (-1), .int ((gI g 526 4))]) (M' := gm g) rfl ?_
  refine g_icmp (¬ (gI g 526 4) = (-1)) rfl (t := 20) rfl rfl (fun c1 => ?_) (fun c1 => ?_)
  · replace h := (if_pos c1).symm.trans h
    refine g_forget (L' := [some (.ref 526), none]) (And.intro rfl True.intro) ?_
    exact p_X12_closes_20 hD g _ h
  · replace h := (if_neg c1).symm.trans h
    refine g_run 1 (pc' := 9) (L' := [some (.ref 526), some (.int x1)]) (S' := [.ref 526]) (M' := gm g) rfl ?_
    replace h := zB_of h
    obtain ⟨v2, g3, e4, h⟩ := h
    refine g_inv2 (kd := 1) (p_X12_look  e4) rfl rfl rfl (by decide) rfl rfl rfl rfl (by omega) (pc' := 12) rfl (S' := [.int v2]) rfl ?_
    refine g_run 1 (pc' := 13) (L' := [some (.ref 526), some (.int x1)]) (S' := [.int x1, .int v2]) (M' := gm g3) rfl ?_
    refine g_icmp (v2 = x1) rfl (t := 20) rfl rfl (fun c5 => ?_) (fun c5 => ?_)
    · replace h := (if_pos c5).symm.trans h
      refine g_forget (L' := [some (.ref 526), none]) (And.intro rfl True.intro) ?_
      exact p_X12_closes_20 hD g3 _ h
    · replace h := (if_neg c5).symm.trans h
      refine g_run 1 (pc' := 17) (L' := [some (.ref 526), some (.int x1)]) (S' := [.ref 526]) (M' := gm g3) rfl ?_
      replace h := zB_of h
      obtain ⟨v6, g7, e8, h⟩ := h
      refine g_inv2 (kd := 1) (p_X12_bad  e8) rfl rfl rfl (by decide) rfl rfl rfl rfl (by omega) (pc' := 20) rfl (S' := []) rfl ?_
      refine g_forget (L' := [some (.ref 526), none]) (And.intro rfl True.intro) ?_
      exact p_X12_closes_20 hD g7 _ h
def f_X12_plainNumber_48 (y1 : Int32) (g : zSg) : Option (Int32 × zSg) := (zB (f_X12_here g) (fun v1 g2 => (zB (f_X12_isDigit v1 g2) (fun v4 g5 => (if v4 = 0 then some (y1, g5) else (zB (f_X12_bad g5) (fun v8 g9 => some (y1, g9))))))))
set_option maxRecDepth 100000 in
set_option maxHeartbeats 4000000 in
theorem p_X12_plainNumber_48 {sc : zSc} {hp : zHp} {d : Nat} (hD : 1 ≤ d) (y1 : Int32) (g : zSg) (r : Int32 × zSg) (h : f_X12_plainNumber_48 y1 g = some r) : zG d sc hp (zcd zM_X12_plainNumber) 48 [some (.ref 526), some (.int y1), none] [] (gm g) ((some (.int r.1)), gm r.2) := by
  obtain ⟨d, rfl⟩ : ∃ d', d = d' + 1 := ⟨d - 1, by omega⟩
  unfold f_X12_plainNumber_48 at h
  refine g_run 1 (pc' := 49) (L' := [some (.ref 526), some (.int y1), none]) (S' := [.ref 526]) (M' := gm g) rfl ?_
  replace h := zB_of h
  obtain ⟨v1, g2, e3, h⟩ := h
  refine g_inv2 (kd := 1) (p_X12_here  e3) rfl rfl rfl (by decide) rfl rfl rfl rfl (by omega) (pc' := 52) rfl (S' := [.int v1]) rfl ?_
  replace h := zB_of h
  obtain ⟨v4, g5, e6, h⟩ := h
  refine g_inv2 (kd := 0) (p_X12_isDigit  e6) rfl rfl rfl (by decide) rfl rfl rfl rfl (by omega) (pc' := 55) rfl (S' := [.int v4]) rfl ?_
  refine g_if (v4 = 0) rfl (t := 62) rfl rfl (fun c7 => ?_) (fun c7 => ?_)
  · replace h := (if_pos c7).symm.trans h
    refine g_run 1 (pc' := 63) (L' := [some (.ref 526), some (.int y1), none]) (S' := [.int y1]) (M' := gm g5) rfl ?_
    cases h
    exact g_ret rfl rfl rfl rfl
  · replace h := (if_neg c7).symm.trans h
    refine g_run 1 (pc' := 59) (L' := [some (.ref 526), some (.int y1), none]) (S' := [.ref 526]) (M' := gm g5) rfl ?_
    replace h := zB_of h
    obtain ⟨v8, g9, e10, h⟩ := h
    refine g_inv2 (kd := 1) (p_X12_bad  e10) rfl rfl rfl (by decide) rfl rfl rfl rfl (by omega) (pc' := 62) rfl (S' := []) rfl ?_
    refine g_run 1 (pc' := 63) (L' := [some (.ref 526), some (.int y1), none]) (S' := [.int y1]) (M' := gm g9) rfl ?_
    cases h
    exact g_ret rfl rfl rfl rfl
def fb_X12_plainNumber_4 (kk : Int32 → Int32 → zSg → Option (Int32 × zSg)) (y1 : Int32) (y2 : Int32) (g : zSg) : Option (Int32 × zSg) := (if 4 ≤ y2 then f_X12_plainNumber_48 (y1) g else (zB (f_X12_here g) (fun v2 g3 => (zB (f_X12_isDigit v2 g3) (fun v5 g6 => (if v5 = 0 then f_X12_plainNumber_48 (y1) g6 else (zB (f_X12_here g6) (fun v9 g10 => kk (((10 * y1) + v9) - 48) (y2 + 1) (gsI g10 526 3 ((gI g10 526 3) + 1))))))))))
def f_X12_plainNumber_4 : Nat → Int32 → Int32 → zSg → Option (Int32 × zSg)
  | 0, _, _, _ => none
  | n + 1, y1, y2, g => fb_X12_plainNumber_4 (f_X12_plainNumber_4 n) y1 y2 g
set_option maxRecDepth 100000 in
set_option maxHeartbeats 4000000 in
theorem p_X12_plainNumber_4 {sc : zSc} {hp : zHp} {d : Nat} (hD : 1 ≤ d) : ∀ (n : Nat) (y1 : Int32) (y2 : Int32) (g : zSg) (r : Int32 × zSg), f_X12_plainNumber_4 n y1 y2 g = some r → zG d sc hp (zcd zM_X12_plainNumber) 4 [some (.ref 526), some (.int y1), some (.int y2)] [] (gm g) ((some (.int r.1)), gm r.2) := by
  obtain ⟨d, rfl⟩ : ∃ d', d = d' + 1 := ⟨d - 1, by omega⟩
  intro n
  induction n with
  | zero => intro y1 y2 g r h; cases h
  | succ n ih =>
    intro y1 y2 g r h
    replace h : fb_X12_plainNumber_4 (f_X12_plainNumber_4 n) y1 y2 g = some r := h
    unfold fb_X12_plainNumber_4 at h
    refine g_run 2 (pc' := 6) (L' := [some (.ref 526), some (.int y1), some (.int y2)]) (S' := [.int 4, .int y2]) (M' := gm g) rfl ?_
    refine g_icmp (4 ≤ y2) rfl (t := 48) rfl rfl (fun c1 => ?_) (fun c1 => ?_)
    · replace h := (if_pos c1).symm.trans h
      refine g_forget (L' := [some (.ref 526), some (.int y1), none]) (And.intro rfl (And.intro rfl True.intro)) ?_
      exact p_X12_plainNumber_48 hD (y1) g _ h
    · replace h := (if_neg c1).symm.trans h
      refine g_run 1 (pc' := 10) (L' := [some (.ref 526), some (.int y1), some (.int y2)]) (S' := [.ref 526]) (M' := gm g) rfl ?_
      replace h := zB_of h
      obtain ⟨v2, g3, e4, h⟩ := h
      refine g_inv2 (kd := 1) (p_X12_here  e4) rfl rfl rfl (by decide) rfl rfl rfl rfl (by omega) (pc' := 13) rfl (S' := [.int v2]) rfl ?_
      replace h := zB_of h
      obtain ⟨v5, g6, e7, h⟩ := h
      refine g_inv2 (kd := 0) (p_X12_isDigit  e7) rfl rfl rfl (by decide) rfl rfl rfl rfl (by omega) (pc' := 16) rfl (S' := [.int v5]) rfl ?_
      refine g_if (v5 = 0) rfl (t := 48) rfl rfl (fun c8 => ?_) (fun c8 => ?_)
      · replace h := (if_pos c8).symm.trans h
        refine g_forget (L' := [some (.ref 526), some (.int y1), none]) (And.intro rfl (And.intro rfl True.intro)) ?_
        exact p_X12_plainNumber_48 hD (y1) g6 _ h
      · replace h := (if_neg c8).symm.trans h
        refine g_run 4 (pc' := 24) (L' := [some (.ref 526), some (.int y1), some (.int y2)]) (S' := [.ref 526, .int ((10 * y1))]) (M' := gm g6) rfl ?_
        replace h := zB_of h
        obtain ⟨v9, g10, e11, h⟩ := h
        refine g_inv2 (kd := 1) (p_X12_here  e11) rfl rfl rfl (by decide) rfl rfl rfl rfl (by omega) (pc' := 27) rfl (S' := [.int v9, .int ((10 * y1))]) rfl ?_
        refine g_run 12 (pc' := 4) (L' := [some (.ref 526), some (.int ((((10 * y1) + v9) - 48))), some (.int ((y2 + 1)))]) (S' := []) (M' := gm (gsI g10 526 3 ((gI g10 526 3) + 1))) rfl ?_
        exact ih (((10 * y1) + v9) - 48) (y2 + 1) (gsI g10 526 3 ((gI g10 526 3) + 1)) _ h
def f_X12_plainNumber (g : zSg) : Option (Int32 × zSg) := f_X12_plainNumber_4 zFu (0) (0) g
set_option maxRecDepth 100000 in
set_option maxHeartbeats 4000000 in
theorem p_X12_plainNumber {sc : zSc} {hp : zHp} {g : zSg} {r : Int32 × zSg} (h : f_X12_plainNumber g = some r) : zRn sc hp 1 zM_X12_plainNumber [.ref 526] (gm g) (some (.int r.1)) (gm r.2) := by
  intro d hD
  obtain ⟨d, rfl⟩ : ∃ d', d = d' + 1 := ⟨d - 1, by omega⟩
  show zG _ sc hp (zcd zM_X12_plainNumber) 0 [some (.ref 526), none, none] [] (gm g) _
  unfold f_X12_plainNumber at h
  refine g_run 4 (pc' := 4) (L' := [some (.ref 526), some (.int 0), some (.int 0)]) (S' := []) (M' := gm g) rfl ?_
  exact p_X12_plainNumber_4 hD zFu (0) (0) g _ h
def f_X12_atom (rs : zSg → Option (Unit × zSg)) (g : zSg) : Option (Unit × zSg) := (zB (f_X12_look g) (fun v1 g2 => (zB (f_X12_isDigit v1 g2) (fun v4 g5 => (if v4 = 0 then (zB (f_X12_letterOf v1 g5) (fun v8 g9 => (if v8 = (-1) then (if ¬ v1 = 91 then (zB (f_X12_bad g9) (fun v13 g14 => some ((), g14))) else (zB (f_X12_opens g9) (fun v16 g17 => (if ¬ (gI g17 526 4) = (-1) then some ((), g17) else (zB (rs g17) (fun v20 g21 => (zB (f_X12_closes 93 g21) (fun v23 g24 => some ((), g24))))))))) else (zB (f_X12_letterOf v1 (gsI g9 526 3 ((gI g9 526 3) + 1))) (fun v26 g27 => (zB (f_X12_put 1 v26 g27) (fun v29 g30 => some ((), g30)))))))) else (zB (f_X12_plainNumber g5) (fun v32 g33 => (zB (f_X12_put 0 v32 g33) (fun v35 g36 => some ((), g36))))))))))
set_option maxRecDepth 100000 in
set_option maxHeartbeats 4000000 in
theorem p_X12_atom {sc : zSc} {hp : zHp} {Ds : Nat} (rs : zSg → Option (Unit × zSg)) (hrs : ∀ (g : zSg) (r : Unit × zSg), rs g = some r → zRn sc hp Ds zM_X12_sum [.ref 526] (gm g) none (gm r.2)) {g : zSg} {r : Unit × zSg} (h : f_X12_atom rs g = some r) : zRn sc hp (max (Ds + 1) 3) zM_X12_atom [.ref 526] (gm g) none (gm r.2) := by
  intro d hD
  obtain ⟨hD1, hD⟩ := Nat.max_le.mp hD
  obtain ⟨d, rfl⟩ : ∃ d', d = d' + 1 := ⟨d - 1, by omega⟩
  show zG _ sc hp (zcd zM_X12_atom) 0 [some (.ref 526), none] [] (gm g) _
  unfold f_X12_atom at h
  refine g_run 1 (pc' := 1) (L' := [some (.ref 526), none]) (S' := [.ref 526]) (M' := gm g) rfl ?_
  replace h := zB_of h
  obtain ⟨v1, g2, e3, h⟩ := h
  refine g_inv2 (kd := 1) (p_X12_look  e3) rfl rfl rfl (by decide) rfl rfl rfl rfl (by omega) (pc' := 4) rfl (S' := [.int v1]) rfl ?_
  refine g_run 2 (pc' := 6) (L' := [some (.ref 526), some (.int v1)]) (S' := [.int v1]) (M' := gm g2) rfl ?_
  replace h := zB_of h
  obtain ⟨v4, g5, e6, h⟩ := h
  refine g_inv2 (kd := 0) (p_X12_isDigit  e6) rfl rfl rfl (by decide) rfl rfl rfl rfl (by omega) (pc' := 9) rfl (S' := [.int v4]) rfl ?_
  refine g_if (v4 = 0) rfl (t := 24) rfl rfl (fun c7 => ?_) (fun c7 => ?_)
  · replace h := (if_pos c7).symm.trans h
    refine g_run 1 (pc' := 25) (L' := [some (.ref 526), some (.int v1)]) (S' := [.int v1]) (M' := gm g5) rfl ?_
    replace h := zB_of h
    obtain ⟨v8, g9, e10, h⟩ := h
    refine g_inv2 (kd := 0) (p_X12_letterOf  e10) rfl rfl rfl (by decide) rfl rfl rfl rfl (by omega) (pc' := 28) rfl (S' := [.int v8]) rfl ?_
    refine g_run 1 (pc' := 29) (L' := [some (.ref 526), some (.int v1)]) (S' := [.int (-1), .int v8]) (M' := gm g9) rfl ?_
    refine g_icmp (v8 = (-1)) rfl (t := 54) rfl rfl (fun c11 => ?_) (fun c11 => ?_)
    · replace h := (if_pos c11).symm.trans h
      refine g_run 2 (pc' := 57) (L' := [some (.ref 526), some (.int v1)]) (S' := [.int 91, .int v1]) (M' := gm g9) rfl ?_
      refine g_icmp (¬ v1 = 91) rfl (t := 85) rfl rfl (fun c12 => ?_) (fun c12 => ?_)
      · replace h := (if_pos c12).symm.trans h
        refine g_run 1 (pc' := 86) (L' := [some (.ref 526), some (.int v1)]) (S' := [.ref 526]) (M' := gm g9) rfl ?_
        replace h := zB_of h
        obtain ⟨v13, g14, e15, h⟩ := h
        refine g_inv2 (kd := 1) (p_X12_bad  e15) rfl rfl rfl (by decide) rfl rfl rfl rfl (by omega) (pc' := 89) rfl (S' := []) rfl ?_
        cases h
        exact g_ret rfl rfl rfl rfl
      · replace h := (if_neg c12).symm.trans h
        refine g_run 1 (pc' := 61) (L' := [some (.ref 526), some (.int v1)]) (S' := [.ref 526]) (M' := gm g9) rfl ?_
        replace h := zB_of h
        obtain ⟨v16, g17, e18, h⟩ := h
        refine g_inv2 (kd := 1) (p_X12_opens  e18) rfl rfl rfl (by decide) rfl rfl rfl rfl (by omega) (pc' := 64) rfl (S' := []) rfl ?_
        refine g_run 3 (pc' := 69) (L' := [some (.ref 526), some (.int v1)]) (S' := [.int (-1), .int ((gI g17 526 4))]) (M' := gm g17) rfl ?_
        refine g_icmp (¬ (gI g17 526 4) = (-1)) rfl (t := 89) rfl rfl (fun c19 => ?_) (fun c19 => ?_)
        · replace h := (if_pos c19).symm.trans h
          cases h
          exact g_ret rfl rfl rfl rfl
        · replace h := (if_neg c19).symm.trans h
          refine g_run 1 (pc' := 73) (L' := [some (.ref 526), some (.int v1)]) (S' := [.ref 526]) (M' := gm g17) rfl ?_
          replace h := zB_of h
          obtain ⟨v20, g21, e22, h⟩ := h
          refine g_inv2 (kd := 1) (hrs  g17 _ e22) rfl rfl rfl (by decide) rfl rfl rfl rfl (by omega) (pc' := 76) rfl (S' := []) rfl ?_
          refine g_run 2 (pc' := 79) (L' := [some (.ref 526), some (.int v1)]) (S' := [.int 93, .ref 526]) (M' := gm g21) rfl ?_
          replace h := zB_of h
          obtain ⟨v23, g24, e25, h⟩ := h
          refine g_inv2 (kd := 1) (p_X12_closes  e25) rfl rfl rfl (by decide) rfl rfl rfl rfl (by omega) (pc' := 82) rfl (S' := []) rfl ?_
          refine g_run 1 (pc' := 89) (L' := [some (.ref 526), some (.int v1)]) (S' := []) (M' := gm g24) rfl ?_
          cases h
          exact g_ret rfl rfl rfl rfl
    · replace h := (if_neg c11).symm.trans h
      refine g_run 9 (pc' := 45) (L' := [some (.ref 526), some (.int v1)]) (S' := [.int v1, .int 1, .ref 526]) (M' := gm (gsI g9 526 3 ((gI g9 526 3) + 1))) rfl ?_
      replace h := zB_of h
      obtain ⟨v26, g27, e28, h⟩ := h
      refine g_inv2 (kd := 0) (p_X12_letterOf  e28) rfl rfl rfl (by decide) rfl rfl rfl rfl (by omega) (pc' := 48) rfl (S' := [.int v26, .int 1, .ref 526]) rfl ?_
      replace h := zB_of h
      obtain ⟨v29, g30, e31, h⟩ := h
      refine g_inv2 (kd := 1) (p_X12_put  e31) rfl rfl rfl (by decide) rfl rfl rfl rfl (by omega) (pc' := 51) rfl (S' := []) rfl ?_
      refine g_run 1 (pc' := 89) (L' := [some (.ref 526), some (.int v1)]) (S' := []) (M' := gm g30) rfl ?_
      cases h
      exact g_ret rfl rfl rfl rfl
  · replace h := (if_neg c7).symm.trans h
    refine g_run 3 (pc' := 15) (L' := [some (.ref 526), some (.int v1)]) (S' := [.ref 526, .int 0, .ref 526]) (M' := gm g5) rfl ?_
    replace h := zB_of h
    obtain ⟨v32, g33, e34, h⟩ := h
    refine g_inv2 (kd := 1) (p_X12_plainNumber  e34) rfl rfl rfl (by decide) rfl rfl rfl rfl (by omega) (pc' := 18) rfl (S' := [.int v32, .int 0, .ref 526]) rfl ?_
    replace h := zB_of h
    obtain ⟨v35, g36, e37, h⟩ := h
    refine g_inv2 (kd := 1) (p_X12_put  e37) rfl rfl rfl (by decide) rfl rfl rfl rfl (by omega) (pc' := 21) rfl (S' := []) rfl ?_
    refine g_run 1 (pc' := 89) (L' := [some (.ref 526), some (.int v1)]) (S' := []) (M' := gm g36) rfl ?_
    cases h
    exact g_ret rfl rfl rfl rfl
def f_X12_term_79 (rs : zSg → Option (Unit × zSg)) (k21 : Int32 → zSg → Option (Unit × zSg)) (s0 : Int32) (g : zSg) : Option (Unit × zSg) := k21 (s0) g
set_option maxRecDepth 100000 in
set_option maxHeartbeats 4000000 in
theorem p_X12_term_79 {sc : zSc} {hp : zHp} {d : Nat} (hD : 4 ≤ d) {Ds : Nat} (hD1 : Ds + 2 ≤ d) (rs : zSg → Option (Unit × zSg)) (hrs : ∀ (g : zSg) (r : Unit × zSg), rs g = some r → zRn sc hp Ds zM_X12_sum [.ref 526] (gm g) none (gm r.2)) (k21 : Int32 → zSg → Option (Unit × zSg)) (hk21 : ∀ (y1 : Int32) (g : zSg) (r : Unit × zSg), k21 y1 g = some r → zG d sc hp (zcd zM_X12_term) 21 [some (.ref 526), some (.int y1)] [] (gm g) (none, gm r.2)) (s0 : Int32) (g : zSg) (r : Unit × zSg) (h : f_X12_term_79 rs k21 s0 g = some r) : zG d sc hp (zcd zM_X12_term) 79 [some (.ref 526), none] [.int s0] (gm g) (none, gm r.2) := by
  obtain ⟨d, rfl⟩ : ∃ d', d = d' + 1 := ⟨d - 1, by omega⟩
  unfold f_X12_term_79 at h
  refine g_run 2 (pc' := 21) (L' := [some (.ref 526), some (.int s0)]) (S' := []) (M' := gm g) rfl ?_
  exact hk21 (s0) g _ h
def f_X12_term_59 (rs : zSg → Option (Unit × zSg)) (k21 : Int32 → zSg → Option (Unit × zSg)) (s0 : Int32) (g : zSg) : Option (Unit × zSg) := (zB (f_X12_put s0 0 g) (fun v1 g2 => (if ¬ (gI g2 526 4) = (-1) then f_X12_term_79 rs k21 (-1) g2 else (zB (f_X12_look g2) (fun v5 g6 => f_X12_term_79 rs k21 (v5) g6)))))
set_option maxRecDepth 100000 in
set_option maxHeartbeats 4000000 in
theorem p_X12_term_59 {sc : zSc} {hp : zHp} {d : Nat} (hD : 4 ≤ d) {Ds : Nat} (hD1 : Ds + 2 ≤ d) (rs : zSg → Option (Unit × zSg)) (hrs : ∀ (g : zSg) (r : Unit × zSg), rs g = some r → zRn sc hp Ds zM_X12_sum [.ref 526] (gm g) none (gm r.2)) (k21 : Int32 → zSg → Option (Unit × zSg)) (hk21 : ∀ (y1 : Int32) (g : zSg) (r : Unit × zSg), k21 y1 g = some r → zG d sc hp (zcd zM_X12_term) 21 [some (.ref 526), some (.int y1)] [] (gm g) (none, gm r.2)) (s0 : Int32) (g : zSg) (r : Unit × zSg) (h : f_X12_term_59 rs k21 s0 g = some r) : zG d sc hp (zcd zM_X12_term) 59 [some (.ref 526), none] [.int s0, .ref 526] (gm g) (none, gm r.2) := by
  obtain ⟨d, rfl⟩ : ∃ d', d = d' + 1 := ⟨d - 1, by omega⟩
  unfold f_X12_term_59 at h
  refine g_run 1 (pc' := 60) (L' := [some (.ref 526), none]) (S' := [.int 0, .int s0, .ref 526]) (M' := gm g) rfl ?_
  replace h := zB_of h
  obtain ⟨v1, g2, e3, h⟩ := h
  refine g_inv2 (kd := 1) (p_X12_put  e3) rfl rfl rfl (by decide) rfl rfl rfl rfl (by omega) (pc' := 63) rfl (S' := []) rfl ?_
  refine g_run 3 (pc' := 68) (L' := [some (.ref 526), none]) (S' := [.int (-1), .int ((gI g2 526 4))]) (M' := gm g2) rfl ?_
  refine g_icmp (¬ (gI g2 526 4) = (-1)) rfl (t := 78) rfl rfl (fun c4 => ?_) (fun c4 => ?_)
  · replace h := (if_pos c4).symm.trans h
    refine g_run 1 (pc' := 79) (L' := [some (.ref 526), none]) (S' := [.int (-1)]) (M' := gm g2) rfl ?_
    exact p_X12_term_79 hD hD1 rs hrs k21 hk21 (-1) g2 _ h
  · replace h := (if_neg c4).symm.trans h
    refine g_run 1 (pc' := 72) (L' := [some (.ref 526), none]) (S' := [.ref 526]) (M' := gm g2) rfl ?_
    replace h := zB_of h
    obtain ⟨v5, g6, e7, h⟩ := h
    refine g_inv2 (kd := 1) (p_X12_look  e7) rfl rfl rfl (by decide) rfl rfl rfl rfl (by omega) (pc' := 75) rfl (S' := [.int v5]) rfl ?_
    refine g_run 1 (pc' := 79) (L' := [some (.ref 526), none]) (S' := [.int v5]) (M' := gm g6) rfl ?_
    exact p_X12_term_79 hD hD1 rs hrs k21 hk21 (v5) g6 _ h
def f_X12_term_33 (rs : zSg → Option (Unit × zSg)) (k21 : Int32 → zSg → Option (Unit × zSg)) (y1 : Int32) (g : zSg) : Option (Unit × zSg) := (zB (f_X12_atom rs (gsI g 526 3 ((gI g 526 3) + 1))) (fun v1 g2 => (if ¬ y1 = 42 then f_X12_term_59 rs k21 (5) g2 else f_X12_term_59 rs k21 (4) g2)))
set_option maxRecDepth 100000 in
set_option maxHeartbeats 4000000 in
theorem p_X12_term_33 {sc : zSc} {hp : zHp} {d : Nat} (hD : 4 ≤ d) {Ds : Nat} (hD1 : Ds + 2 ≤ d) (rs : zSg → Option (Unit × zSg)) (hrs : ∀ (g : zSg) (r : Unit × zSg), rs g = some r → zRn sc hp Ds zM_X12_sum [.ref 526] (gm g) none (gm r.2)) (k21 : Int32 → zSg → Option (Unit × zSg)) (hk21 : ∀ (y1 : Int32) (g : zSg) (r : Unit × zSg), k21 y1 g = some r → zG d sc hp (zcd zM_X12_term) 21 [some (.ref 526), some (.int y1)] [] (gm g) (none, gm r.2)) (y1 : Int32) (g : zSg) (r : Unit × zSg) (h : f_X12_term_33 rs k21 y1 g = some r) : zG d sc hp (zcd zM_X12_term) 33 [some (.ref 526), some (.int y1)] [] (gm g) (none, gm r.2) := by
  obtain ⟨d, rfl⟩ : ∃ d', d = d' + 1 := ⟨d - 1, by omega⟩
  unfold f_X12_term_33 at h
  refine g_run 7 (pc' := 44) (L' := [some (.ref 526), some (.int y1)]) (S' := [.ref 526]) (M' := gm (gsI g 526 3 ((gI g 526 3) + 1))) rfl ?_
  replace h := zB_of h
  obtain ⟨v1, g2, e3, h⟩ := h
  refine g_inv2 (kd := 1) (p_X12_atom rs hrs  e3) rfl rfl rfl (by decide) rfl rfl rfl rfl (Nat.max_le.mpr ⟨by omega, by omega⟩) (pc' := 47) rfl (S' := []) rfl ?_
  refine g_run 3 (pc' := 51) (L' := [some (.ref 526), some (.int y1)]) (S' := [.int 42, .int y1, .ref 526]) (M' := gm g2) rfl ?_
  refine g_icmp (¬ y1 = 42) rfl (t := 58) rfl rfl (fun c4 => ?_) (fun c4 => ?_)
  · replace h := (if_pos c4).symm.trans h
    refine g_run 1 (pc' := 59) (L' := [some (.ref 526), some (.int y1)]) (S' := [.int 5, .ref 526]) (M' := gm g2) rfl ?_
    refine g_forget (L' := [some (.ref 526), none]) (And.intro rfl True.intro) ?_
    exact p_X12_term_59 hD hD1 rs hrs k21 hk21 (5) g2 _ h
  · replace h := (if_neg c4).symm.trans h
    refine g_run 2 (pc' := 59) (L' := [some (.ref 526), some (.int y1)]) (S' := [.int 4, .ref 526]) (M' := gm g2) rfl ?_
    refine g_forget (L' := [some (.ref 526), none]) (And.intro rfl True.intro) ?_
    exact p_X12_term_59 hD hD1 rs hrs k21 hk21 (4) g2 _ h
def fb_X12_term_21 (rs : zSg → Option (Unit × zSg)) (kk : Int32 → zSg → Option (Unit × zSg)) (y1 : Int32) (g : zSg) : Option (Unit × zSg) := (if y1 = 42 then f_X12_term_33 rs kk (y1) g else (if ¬ y1 = 47 then some ((), g) else f_X12_term_33 rs kk (y1) g))
def f_X12_term_21 (rs : zSg → Option (Unit × zSg)) : Nat → Int32 → zSg → Option (Unit × zSg)
  | 0, _, _ => none
  | n + 1, y1, g => fb_X12_term_21 rs (f_X12_term_21 rs n) y1 g
set_option maxRecDepth 100000 in
set_option maxHeartbeats 4000000 in
theorem p_X12_term_21 {sc : zSc} {hp : zHp} {d : Nat} (hD : 4 ≤ d) {Ds : Nat} (hD1 : Ds + 2 ≤ d) (rs : zSg → Option (Unit × zSg)) (hrs : ∀ (g : zSg) (r : Unit × zSg), rs g = some r → zRn sc hp Ds zM_X12_sum [.ref 526] (gm g) none (gm r.2)) : ∀ (n : Nat) (y1 : Int32) (g : zSg) (r : Unit × zSg), f_X12_term_21 rs n y1 g = some r → zG d sc hp (zcd zM_X12_term) 21 [some (.ref 526), some (.int y1)] [] (gm g) (none, gm r.2) := by
  obtain ⟨d, rfl⟩ : ∃ d', d = d' + 1 := ⟨d - 1, by omega⟩
  intro n
  induction n with
  | zero => intro y1 g r h; cases h
  | succ n ih =>
    intro y1 g r h
    replace h : fb_X12_term_21 rs (f_X12_term_21 rs n) y1 g = some r := h
    unfold fb_X12_term_21 at h
    refine g_run 2 (pc' := 24) (L' := [some (.ref 526), some (.int y1)]) (S' := [.int 42, .int y1]) (M' := gm g) rfl ?_
    refine g_icmp (y1 = 42) rfl (t := 33) rfl rfl (fun c1 => ?_) (fun c1 => ?_)
    · replace h := (if_pos c1).symm.trans h
      exact p_X12_term_33 hD hD1 rs hrs (f_X12_term_21 rs n) ih (y1) g _ h
    · replace h := (if_neg c1).symm.trans h
      refine g_run 2 (pc' := 30) (L' := [some (.ref 526), some (.int y1)]) (S' := [.int 47, .int y1]) (M' := gm g) rfl ?_
      refine g_icmp (¬ y1 = 47) rfl (t := 83) rfl rfl (fun c2 => ?_) (fun c2 => ?_)
      · replace h := (if_pos c2).symm.trans h
        cases h
        exact g_ret rfl rfl rfl rfl
      · replace h := (if_neg c2).symm.trans h
        exact p_X12_term_33 hD hD1 rs hrs (f_X12_term_21 rs n) ih (y1) g _ h
def f_X12_term_20 (rs : zSg → Option (Unit × zSg)) (s0 : Int32) (g : zSg) : Option (Unit × zSg) := f_X12_term_21 rs zFu (s0) g
set_option maxRecDepth 100000 in
set_option maxHeartbeats 4000000 in
theorem p_X12_term_20 {sc : zSc} {hp : zHp} {d : Nat} (hD : 4 ≤ d) {Ds : Nat} (hD1 : Ds + 2 ≤ d) (rs : zSg → Option (Unit × zSg)) (hrs : ∀ (g : zSg) (r : Unit × zSg), rs g = some r → zRn sc hp Ds zM_X12_sum [.ref 526] (gm g) none (gm r.2)) (s0 : Int32) (g : zSg) (r : Unit × zSg) (h : f_X12_term_20 rs s0 g = some r) : zG d sc hp (zcd zM_X12_term) 20 [some (.ref 526), none] [.int s0] (gm g) (none, gm r.2) := by
  obtain ⟨d, rfl⟩ : ∃ d', d = d' + 1 := ⟨d - 1, by omega⟩
  unfold f_X12_term_20 at h
  refine g_run 1 (pc' := 21) (L' := [some (.ref 526), some (.int s0)]) (S' := []) (M' := gm g) rfl ?_
  exact p_X12_term_21 hD hD1 rs hrs zFu (s0) g _ h
def f_X12_term (rs : zSg → Option (Unit × zSg)) (g : zSg) : Option (Unit × zSg) := (zB (f_X12_atom rs g) (fun v1 g2 => (if ¬ (gI g2 526 4) = (-1) then f_X12_term_20 rs (-1) g2 else (zB (f_X12_look g2) (fun v5 g6 => f_X12_term_20 rs (v5) g6)))))
set_option maxRecDepth 100000 in
set_option maxHeartbeats 4000000 in
theorem p_X12_term {sc : zSc} {hp : zHp} {Ds : Nat} (rs : zSg → Option (Unit × zSg)) (hrs : ∀ (g : zSg) (r : Unit × zSg), rs g = some r → zRn sc hp Ds zM_X12_sum [.ref 526] (gm g) none (gm r.2)) {g : zSg} {r : Unit × zSg} (h : f_X12_term rs g = some r) : zRn sc hp (max (Ds + 2) 4) zM_X12_term [.ref 526] (gm g) none (gm r.2) := by
  intro d hD
  obtain ⟨hD1, hD⟩ := Nat.max_le.mp hD
  obtain ⟨d, rfl⟩ : ∃ d', d = d' + 1 := ⟨d - 1, by omega⟩
  show zG _ sc hp (zcd zM_X12_term) 0 [some (.ref 526), none] [] (gm g) _
  unfold f_X12_term at h
  refine g_run 1 (pc' := 1) (L' := [some (.ref 526), none]) (S' := [.ref 526]) (M' := gm g) rfl ?_
  replace h := zB_of h
  obtain ⟨v1, g2, e3, h⟩ := h
  refine g_inv2 (kd := 1) (p_X12_atom rs hrs  e3) rfl rfl rfl (by decide) rfl rfl rfl rfl (Nat.max_le.mpr ⟨by omega, by omega⟩) (pc' := 4) rfl (S' := []) rfl ?_
  refine g_run 3 (pc' := 9) (L' := [some (.ref 526), none]) (S' := [.int (-1), .int ((gI g2 526 4))]) (M' := gm g2) rfl ?_
  refine g_icmp (¬ (gI g2 526 4) = (-1)) rfl (t := 19) rfl rfl (fun c4 => ?_) (fun c4 => ?_)
  · replace h := (if_pos c4).symm.trans h
    refine g_run 1 (pc' := 20) (L' := [some (.ref 526), none]) (S' := [.int (-1)]) (M' := gm g2) rfl ?_
    exact p_X12_term_20 hD hD1 rs hrs (-1) g2 _ h
  · replace h := (if_neg c4).symm.trans h
    refine g_run 1 (pc' := 13) (L' := [some (.ref 526), none]) (S' := [.ref 526]) (M' := gm g2) rfl ?_
    replace h := zB_of h
    obtain ⟨v5, g6, e7, h⟩ := h
    refine g_inv2 (kd := 1) (p_X12_look  e7) rfl rfl rfl (by decide) rfl rfl rfl rfl (by omega) (pc' := 16) rfl (S' := [.int v5]) rfl ?_
    refine g_run 1 (pc' := 20) (L' := [some (.ref 526), none]) (S' := [.int v5]) (M' := gm g6) rfl ?_
    exact p_X12_term_20 hD hD1 rs hrs (v5) g6 _ h
def f_X12_sum_79 (rs : zSg → Option (Unit × zSg)) (k21 : Int32 → zSg → Option (Unit × zSg)) (s0 : Int32) (g : zSg) : Option (Unit × zSg) := k21 (s0) g
set_option maxRecDepth 100000 in
set_option maxHeartbeats 4000000 in
theorem p_X12_sum_79 {sc : zSc} {hp : zHp} {d : Nat} (hD : 5 ≤ d) {Ds : Nat} (hD1 : Ds + 3 ≤ d) (rs : zSg → Option (Unit × zSg)) (hrs : ∀ (g : zSg) (r : Unit × zSg), rs g = some r → zRn sc hp Ds zM_X12_sum [.ref 526] (gm g) none (gm r.2)) (k21 : Int32 → zSg → Option (Unit × zSg)) (hk21 : ∀ (y1 : Int32) (g : zSg) (r : Unit × zSg), k21 y1 g = some r → zG d sc hp (zcd zM_X12_sum) 21 [some (.ref 526), some (.int y1)] [] (gm g) (none, gm r.2)) (s0 : Int32) (g : zSg) (r : Unit × zSg) (h : f_X12_sum_79 rs k21 s0 g = some r) : zG d sc hp (zcd zM_X12_sum) 79 [some (.ref 526), none] [.int s0] (gm g) (none, gm r.2) := by
  obtain ⟨d, rfl⟩ : ∃ d', d = d' + 1 := ⟨d - 1, by omega⟩
  unfold f_X12_sum_79 at h
  refine g_run 2 (pc' := 21) (L' := [some (.ref 526), some (.int s0)]) (S' := []) (M' := gm g) rfl ?_
  exact hk21 (s0) g _ h
def f_X12_sum_59 (rs : zSg → Option (Unit × zSg)) (k21 : Int32 → zSg → Option (Unit × zSg)) (s0 : Int32) (g : zSg) : Option (Unit × zSg) := (zB (f_X12_put s0 0 g) (fun v1 g2 => (if ¬ (gI g2 526 4) = (-1) then f_X12_sum_79 rs k21 (-1) g2 else (zB (f_X12_look g2) (fun v5 g6 => f_X12_sum_79 rs k21 (v5) g6)))))
set_option maxRecDepth 100000 in
set_option maxHeartbeats 4000000 in
theorem p_X12_sum_59 {sc : zSc} {hp : zHp} {d : Nat} (hD : 5 ≤ d) {Ds : Nat} (hD1 : Ds + 3 ≤ d) (rs : zSg → Option (Unit × zSg)) (hrs : ∀ (g : zSg) (r : Unit × zSg), rs g = some r → zRn sc hp Ds zM_X12_sum [.ref 526] (gm g) none (gm r.2)) (k21 : Int32 → zSg → Option (Unit × zSg)) (hk21 : ∀ (y1 : Int32) (g : zSg) (r : Unit × zSg), k21 y1 g = some r → zG d sc hp (zcd zM_X12_sum) 21 [some (.ref 526), some (.int y1)] [] (gm g) (none, gm r.2)) (s0 : Int32) (g : zSg) (r : Unit × zSg) (h : f_X12_sum_59 rs k21 s0 g = some r) : zG d sc hp (zcd zM_X12_sum) 59 [some (.ref 526), none] [.int s0, .ref 526] (gm g) (none, gm r.2) := by
  obtain ⟨d, rfl⟩ : ∃ d', d = d' + 1 := ⟨d - 1, by omega⟩
  unfold f_X12_sum_59 at h
  refine g_run 1 (pc' := 60) (L' := [some (.ref 526), none]) (S' := [.int 0, .int s0, .ref 526]) (M' := gm g) rfl ?_
  replace h := zB_of h
  obtain ⟨v1, g2, e3, h⟩ := h
  refine g_inv2 (kd := 1) (p_X12_put  e3) rfl rfl rfl (by decide) rfl rfl rfl rfl (by omega) (pc' := 63) rfl (S' := []) rfl ?_
  refine g_run 3 (pc' := 68) (L' := [some (.ref 526), none]) (S' := [.int (-1), .int ((gI g2 526 4))]) (M' := gm g2) rfl ?_
  refine g_icmp (¬ (gI g2 526 4) = (-1)) rfl (t := 78) rfl rfl (fun c4 => ?_) (fun c4 => ?_)
  · replace h := (if_pos c4).symm.trans h
    refine g_run 1 (pc' := 79) (L' := [some (.ref 526), none]) (S' := [.int (-1)]) (M' := gm g2) rfl ?_
    exact p_X12_sum_79 hD hD1 rs hrs k21 hk21 (-1) g2 _ h
  · replace h := (if_neg c4).symm.trans h
    refine g_run 1 (pc' := 72) (L' := [some (.ref 526), none]) (S' := [.ref 526]) (M' := gm g2) rfl ?_
    replace h := zB_of h
    obtain ⟨v5, g6, e7, h⟩ := h
    refine g_inv2 (kd := 1) (p_X12_look  e7) rfl rfl rfl (by decide) rfl rfl rfl rfl (by omega) (pc' := 75) rfl (S' := [.int v5]) rfl ?_
    refine g_run 1 (pc' := 79) (L' := [some (.ref 526), none]) (S' := [.int v5]) (M' := gm g6) rfl ?_
    exact p_X12_sum_79 hD hD1 rs hrs k21 hk21 (v5) g6 _ h
def f_X12_sum_33 (rs : zSg → Option (Unit × zSg)) (k21 : Int32 → zSg → Option (Unit × zSg)) (y1 : Int32) (g : zSg) : Option (Unit × zSg) := (zB (f_X12_term rs (gsI g 526 3 ((gI g 526 3) + 1))) (fun v1 g2 => (if ¬ y1 = 43 then f_X12_sum_59 rs k21 (3) g2 else f_X12_sum_59 rs k21 (2) g2)))
set_option maxRecDepth 100000 in
set_option maxHeartbeats 4000000 in
theorem p_X12_sum_33 {sc : zSc} {hp : zHp} {d : Nat} (hD : 5 ≤ d) {Ds : Nat} (hD1 : Ds + 3 ≤ d) (rs : zSg → Option (Unit × zSg)) (hrs : ∀ (g : zSg) (r : Unit × zSg), rs g = some r → zRn sc hp Ds zM_X12_sum [.ref 526] (gm g) none (gm r.2)) (k21 : Int32 → zSg → Option (Unit × zSg)) (hk21 : ∀ (y1 : Int32) (g : zSg) (r : Unit × zSg), k21 y1 g = some r → zG d sc hp (zcd zM_X12_sum) 21 [some (.ref 526), some (.int y1)] [] (gm g) (none, gm r.2)) (y1 : Int32) (g : zSg) (r : Unit × zSg) (h : f_X12_sum_33 rs k21 y1 g = some r) : zG d sc hp (zcd zM_X12_sum) 33 [some (.ref 526), some (.int y1)] [] (gm g) (none, gm r.2) := by
  obtain ⟨d, rfl⟩ : ∃ d', d = d' + 1 := ⟨d - 1, by omega⟩
  unfold f_X12_sum_33 at h
  refine g_run 7 (pc' := 44) (L' := [some (.ref 526), some (.int y1)]) (S' := [.ref 526]) (M' := gm (gsI g 526 3 ((gI g 526 3) + 1))) rfl ?_
  replace h := zB_of h
  obtain ⟨v1, g2, e3, h⟩ := h
  refine g_inv2 (kd := 1) (p_X12_term rs hrs  e3) rfl rfl rfl (by decide) rfl rfl rfl rfl (Nat.max_le.mpr ⟨by omega, by omega⟩) (pc' := 47) rfl (S' := []) rfl ?_
  refine g_run 3 (pc' := 51) (L' := [some (.ref 526), some (.int y1)]) (S' := [.int 43, .int y1, .ref 526]) (M' := gm g2) rfl ?_
  refine g_icmp (¬ y1 = 43) rfl (t := 58) rfl rfl (fun c4 => ?_) (fun c4 => ?_)
  · replace h := (if_pos c4).symm.trans h
    refine g_run 1 (pc' := 59) (L' := [some (.ref 526), some (.int y1)]) (S' := [.int 3, .ref 526]) (M' := gm g2) rfl ?_
    refine g_forget (L' := [some (.ref 526), none]) (And.intro rfl True.intro) ?_
    exact p_X12_sum_59 hD hD1 rs hrs k21 hk21 (3) g2 _ h
  · replace h := (if_neg c4).symm.trans h
    refine g_run 2 (pc' := 59) (L' := [some (.ref 526), some (.int y1)]) (S' := [.int 2, .ref 526]) (M' := gm g2) rfl ?_
    refine g_forget (L' := [some (.ref 526), none]) (And.intro rfl True.intro) ?_
    exact p_X12_sum_59 hD hD1 rs hrs k21 hk21 (2) g2 _ h
def fb_X12_sum_21 (rs : zSg → Option (Unit × zSg)) (kk : Int32 → zSg → Option (Unit × zSg)) (y1 : Int32) (g : zSg) : Option (Unit × zSg) := (if y1 = 43 then f_X12_sum_33 rs kk (y1) g else (if ¬ y1 = 45 then some ((), g) else f_X12_sum_33 rs kk (y1) g))
def f_X12_sum_21 (rs : zSg → Option (Unit × zSg)) : Nat → Int32 → zSg → Option (Unit × zSg)
  | 0, _, _ => none
  | n + 1, y1, g => fb_X12_sum_21 rs (f_X12_sum_21 rs n) y1 g
set_option maxRecDepth 100000 in
set_option maxHeartbeats 4000000 in
theorem p_X12_sum_21 {sc : zSc} {hp : zHp} {d : Nat} (hD : 5 ≤ d) {Ds : Nat} (hD1 : Ds + 3 ≤ d) (rs : zSg → Option (Unit × zSg)) (hrs : ∀ (g : zSg) (r : Unit × zSg), rs g = some r → zRn sc hp Ds zM_X12_sum [.ref 526] (gm g) none (gm r.2)) : ∀ (n : Nat) (y1 : Int32) (g : zSg) (r : Unit × zSg), f_X12_sum_21 rs n y1 g = some r → zG d sc hp (zcd zM_X12_sum) 21 [some (.ref 526), some (.int y1)] [] (gm g) (none, gm r.2) := by
  obtain ⟨d, rfl⟩ : ∃ d', d = d' + 1 := ⟨d - 1, by omega⟩
  intro n
  induction n with
  | zero => intro y1 g r h; cases h
  | succ n ih =>
    intro y1 g r h
    replace h : fb_X12_sum_21 rs (f_X12_sum_21 rs n) y1 g = some r := h
    unfold fb_X12_sum_21 at h
    refine g_run 2 (pc' := 24) (L' := [some (.ref 526), some (.int y1)]) (S' := [.int 43, .int y1]) (M' := gm g) rfl ?_
    refine g_icmp (y1 = 43) rfl (t := 33) rfl rfl (fun c1 => ?_) (fun c1 => ?_)
    · replace h := (if_pos c1).symm.trans h
      exact p_X12_sum_33 hD hD1 rs hrs (f_X12_sum_21 rs n) ih (y1) g _ h
    · replace h := (if_neg c1).symm.trans h
      refine g_run 2 (pc' := 30) (L' := [some (.ref 526), some (.int y1)]) (S' := [.int 45, .int y1]) (M' := gm g) rfl ?_
      refine g_icmp (¬ y1 = 45) rfl (t := 83) rfl rfl (fun c2 => ?_) (fun c2 => ?_)
      · replace h := (if_pos c2).symm.trans h
        cases h
        exact g_ret rfl rfl rfl rfl
      · replace h := (if_neg c2).symm.trans h
        exact p_X12_sum_33 hD hD1 rs hrs (f_X12_sum_21 rs n) ih (y1) g _ h
def f_X12_sum_20 (rs : zSg → Option (Unit × zSg)) (s0 : Int32) (g : zSg) : Option (Unit × zSg) := f_X12_sum_21 rs zFu (s0) g
set_option maxRecDepth 100000 in
set_option maxHeartbeats 4000000 in
theorem p_X12_sum_20 {sc : zSc} {hp : zHp} {d : Nat} (hD : 5 ≤ d) {Ds : Nat} (hD1 : Ds + 3 ≤ d) (rs : zSg → Option (Unit × zSg)) (hrs : ∀ (g : zSg) (r : Unit × zSg), rs g = some r → zRn sc hp Ds zM_X12_sum [.ref 526] (gm g) none (gm r.2)) (s0 : Int32) (g : zSg) (r : Unit × zSg) (h : f_X12_sum_20 rs s0 g = some r) : zG d sc hp (zcd zM_X12_sum) 20 [some (.ref 526), none] [.int s0] (gm g) (none, gm r.2) := by
  obtain ⟨d, rfl⟩ : ∃ d', d = d' + 1 := ⟨d - 1, by omega⟩
  unfold f_X12_sum_20 at h
  refine g_run 1 (pc' := 21) (L' := [some (.ref 526), some (.int s0)]) (S' := []) (M' := gm g) rfl ?_
  exact p_X12_sum_21 hD hD1 rs hrs zFu (s0) g _ h
def f_X12_sum_b (rs : zSg → Option (Unit × zSg)) (g : zSg) : Option (Unit × zSg) := (zB (f_X12_term rs g) (fun v1 g2 => (if ¬ (gI g2 526 4) = (-1) then f_X12_sum_20 rs (-1) g2 else (zB (f_X12_look g2) (fun v5 g6 => f_X12_sum_20 rs (v5) g6)))))
set_option maxRecDepth 100000 in
set_option maxHeartbeats 4000000 in
theorem p_X12_sum_b {sc : zSc} {hp : zHp} {Ds : Nat} (rs : zSg → Option (Unit × zSg)) (hrs : ∀ (g : zSg) (r : Unit × zSg), rs g = some r → zRn sc hp Ds zM_X12_sum [.ref 526] (gm g) none (gm r.2)) {g : zSg} {r : Unit × zSg} (h : f_X12_sum_b rs g = some r) : zRn sc hp (max (Ds + 3) 5) zM_X12_sum [.ref 526] (gm g) none (gm r.2) := by
  intro d hD
  obtain ⟨hD1, hD⟩ := Nat.max_le.mp hD
  obtain ⟨d, rfl⟩ : ∃ d', d = d' + 1 := ⟨d - 1, by omega⟩
  show zG _ sc hp (zcd zM_X12_sum) 0 [some (.ref 526), none] [] (gm g) _
  unfold f_X12_sum_b at h
  refine g_run 1 (pc' := 1) (L' := [some (.ref 526), none]) (S' := [.ref 526]) (M' := gm g) rfl ?_
  replace h := zB_of h
  obtain ⟨v1, g2, e3, h⟩ := h
  refine g_inv2 (kd := 1) (p_X12_term rs hrs  e3) rfl rfl rfl (by decide) rfl rfl rfl rfl (Nat.max_le.mpr ⟨by omega, by omega⟩) (pc' := 4) rfl (S' := []) rfl ?_
  refine g_run 3 (pc' := 9) (L' := [some (.ref 526), none]) (S' := [.int (-1), .int ((gI g2 526 4))]) (M' := gm g2) rfl ?_
  refine g_icmp (¬ (gI g2 526 4) = (-1)) rfl (t := 19) rfl rfl (fun c4 => ?_) (fun c4 => ?_)
  · replace h := (if_pos c4).symm.trans h
    refine g_run 1 (pc' := 20) (L' := [some (.ref 526), none]) (S' := [.int (-1)]) (M' := gm g2) rfl ?_
    exact p_X12_sum_20 hD hD1 rs hrs (-1) g2 _ h
  · replace h := (if_neg c4).symm.trans h
    refine g_run 1 (pc' := 13) (L' := [some (.ref 526), none]) (S' := [.ref 526]) (M' := gm g2) rfl ?_
    replace h := zB_of h
    obtain ⟨v5, g6, e7, h⟩ := h
    refine g_inv2 (kd := 1) (p_X12_look  e7) rfl rfl rfl (by decide) rfl rfl rfl rfl (by omega) (pc' := 16) rfl (S' := [.int v5]) rfl ?_
    refine g_run 1 (pc' := 20) (L' := [some (.ref 526), none]) (S' := [.int v5]) (M' := gm g6) rfl ?_
    exact p_X12_sum_20 hD hD1 rs hrs (v5) g6 _ h
def f_X12_sum : Nat → zSg → Option (Unit × zSg)
  | 0, _ => none
  | n + 1, g => f_X12_sum_b (f_X12_sum n) g
theorem p_X12_sum {sc : zSc} {hp : zHp} : ∀ (n : Nat) (g : zSg) (r : Unit × zSg), f_X12_sum n g = some r → zRn sc hp (5 + 3 * n) zM_X12_sum [.ref 526] (gm g) none (gm r.2) := by
  intro n
  induction n with
  | zero => intro g r h; cases h
  | succ n ih =>
    intro g r h d hd
    exact p_X12_sum_b (f_X12_sum n) ih h d (Nat.max_le.mpr ⟨by omega, by omega⟩)
def f_X12_isSign (x1 : Int32) (g : zSg) : Option (Int32 × zSg) := (if x1 = 61 then some (1, g) else (if x1 = 60 then some (1, g) else (if ¬ x1 = 62 then some (0, g) else some (1, g))))
set_option maxRecDepth 100000 in
set_option maxHeartbeats 4000000 in
theorem p_X12_isSign {sc : zSc} {hp : zHp} {x1 : Int32} {g : zSg} {r : Int32 × zSg} (h : f_X12_isSign x1 g = some r) : zRn sc hp 0 zM_X12_isSign [.int x1] (gm g) (some (.int r.1)) (gm r.2) := by
  intro d hD
  show zG _ sc hp (zcd zM_X12_isSign) 0 [some (.int x1)] [] (gm g) _
  unfold f_X12_isSign at h
  refine g_run 2 (pc' := 3) (L' := [some (.int x1)]) (S' := [.int 61, .int x1]) (M' := gm g) rfl ?_
  refine g_icmp (x1 = 61) rfl (t := 18) rfl rfl (fun c1 => ?_) (fun c1 => ?_)
  · replace h := (if_pos c1).symm.trans h
    refine g_run 2 (pc' := 23) (L' := [some (.int x1)]) (S' := [.int 1]) (M' := gm g) rfl ?_
    cases h
    exact g_ret rfl rfl rfl rfl
  · replace h := (if_neg c1).symm.trans h
    refine g_run 2 (pc' := 9) (L' := [some (.int x1)]) (S' := [.int 60, .int x1]) (M' := gm g) rfl ?_
    refine g_icmp (x1 = 60) rfl (t := 18) rfl rfl (fun c2 => ?_) (fun c2 => ?_)
    · replace h := (if_pos c2).symm.trans h
      refine g_run 2 (pc' := 23) (L' := [some (.int x1)]) (S' := [.int 1]) (M' := gm g) rfl ?_
      cases h
      exact g_ret rfl rfl rfl rfl
    · replace h := (if_neg c2).symm.trans h
      refine g_run 2 (pc' := 15) (L' := [some (.int x1)]) (S' := [.int 62, .int x1]) (M' := gm g) rfl ?_
      refine g_icmp (¬ x1 = 62) rfl (t := 22) rfl rfl (fun c3 => ?_) (fun c3 => ?_)
      · replace h := (if_pos c3).symm.trans h
        refine g_run 1 (pc' := 23) (L' := [some (.int x1)]) (S' := [.int 0]) (M' := gm g) rfl ?_
        cases h
        exact g_ret rfl rfl rfl rfl
      · replace h := (if_neg c3).symm.trans h
        refine g_run 2 (pc' := 23) (L' := [some (.int x1)]) (S' := [.int 1]) (M' := gm g) rfl ?_
        cases h
        exact g_ret rfl rfl rfl rfl
def f_X12_compare_68 (s0 : Int32) (g : zSg) : Option (Unit × zSg) := (zB (f_X12_put s0 0 g) (fun v1 g2 => some ((), g2)))
set_option maxRecDepth 100000 in
set_option maxHeartbeats 4000000 in
theorem p_X12_compare_68 {sc : zSc} {hp : zHp} {d : Nat} (hD : 78 ≤ d) (s0 : Int32) (g : zSg) (r : Unit × zSg) (h : f_X12_compare_68 s0 g = some r) : zG d sc hp (zcd zM_X12_compare) 68 [none, none] [.int s0, .ref 526] (gm g) (none, gm r.2) := by
  obtain ⟨d, rfl⟩ : ∃ d', d = d' + 1 := ⟨d - 1, by omega⟩
  unfold f_X12_compare_68 at h
  refine g_run 1 (pc' := 69) (L' := [none, none]) (S' := [.int 0, .int s0, .ref 526]) (M' := gm g) rfl ?_
  replace h := zB_of h
  obtain ⟨v1, g2, e3, h⟩ := h
  refine g_inv2 (kd := 1) (p_X12_put  e3) rfl rfl rfl (by decide) rfl rfl rfl rfl (by omega) (pc' := 72) rfl (S' := []) rfl ?_
  cases h
  exact g_ret rfl rfl rfl rfl
def f_X12_compare_16 (s0 : Int32) (g : zSg) : Option (Unit × zSg) := (zB (f_X12_isSign s0 g) (fun v1 g2 => (if ¬ v1 = 0 then (zB (f_X12_sum zDp (gsI g2 526 3 ((gI g2 526 3) + 1))) (fun v5 g6 => (if ¬ s0 = 61 then (if ¬ s0 = 60 then f_X12_compare_68 (8) g6 else f_X12_compare_68 (7) g6) else f_X12_compare_68 (6) g6))) else (zB (f_X12_bad g2) (fun v10 g11 => some ((), g11))))))
set_option maxRecDepth 100000 in
set_option maxHeartbeats 4000000 in
theorem p_X12_compare_16 {sc : zSc} {hp : zHp} {d : Nat} (hD : 78 ≤ d) (s0 : Int32) (g : zSg) (r : Unit × zSg) (h : f_X12_compare_16 s0 g = some r) : zG d sc hp (zcd zM_X12_compare) 16 [some (.ref 526), none] [.int s0] (gm g) (none, gm r.2) := by
  obtain ⟨d, rfl⟩ : ∃ d', d = d' + 1 := ⟨d - 1, by omega⟩
  unfold f_X12_compare_16 at h
  refine g_run 2 (pc' := 18) (L' := [some (.ref 526), some (.int s0)]) (S' := [.int s0]) (M' := gm g) rfl ?_
  replace h := zB_of h
  obtain ⟨v1, g2, e3, h⟩ := h
  refine g_inv2 (kd := 0) (p_X12_isSign  e3) rfl rfl rfl (by decide) rfl rfl rfl rfl (by omega) (pc' := 21) rfl (S' := [.int v1]) rfl ?_
  refine g_if (¬ v1 = 0) rfl (t := 29) rfl rfl (fun c4 => ?_) (fun c4 => ?_)
  · replace h := (if_pos c4).symm.trans h
    refine g_run 7 (pc' := 40) (L' := [some (.ref 526), some (.int s0)]) (S' := [.ref 526]) (M' := gm (gsI g2 526 3 ((gI g2 526 3) + 1))) rfl ?_
    replace h := zB_of h
    obtain ⟨v5, g6, e7, h⟩ := h
    refine g_inv2 (kd := 1) (p_X12_sum zDp  (gsI g2 526 3 ((gI g2 526 3) + 1)) _ e7) rfl rfl rfl (by decide) rfl rfl rfl rfl (by show _ ≤ _; unfold zDp; omega) (pc' := 43) rfl (S' := []) rfl ?_
    refine g_run 3 (pc' := 47) (L' := [some (.ref 526), some (.int s0)]) (S' := [.int 61, .int s0, .ref 526]) (M' := gm g6) rfl ?_
    refine g_icmp (¬ s0 = 61) rfl (t := 55) rfl rfl (fun c8 => ?_) (fun c8 => ?_)
    · replace h := (if_pos c8).symm.trans h
      refine g_run 2 (pc' := 58) (L' := [some (.ref 526), some (.int s0)]) (S' := [.int 60, .int s0, .ref 526]) (M' := gm g6) rfl ?_
      refine g_icmp (¬ s0 = 60) rfl (t := 66) rfl rfl (fun c9 => ?_) (fun c9 => ?_)
      · replace h := (if_pos c9).symm.trans h
        refine g_run 1 (pc' := 68) (L' := [some (.ref 526), some (.int s0)]) (S' := [.int 8, .ref 526]) (M' := gm g6) rfl ?_
        refine g_forget (L' := [none, none]) True.intro ?_
        exact p_X12_compare_68 hD (8) g6 _ h
      · replace h := (if_neg c9).symm.trans h
        refine g_run 2 (pc' := 68) (L' := [some (.ref 526), some (.int s0)]) (S' := [.int 7, .ref 526]) (M' := gm g6) rfl ?_
        refine g_forget (L' := [none, none]) True.intro ?_
        exact p_X12_compare_68 hD (7) g6 _ h
    · replace h := (if_neg c8).symm.trans h
      refine g_run 2 (pc' := 68) (L' := [some (.ref 526), some (.int s0)]) (S' := [.int 6, .ref 526]) (M' := gm g6) rfl ?_
      refine g_forget (L' := [none, none]) True.intro ?_
      exact p_X12_compare_68 hD (6) g6 _ h
  · replace h := (if_neg c4).symm.trans h
    refine g_run 1 (pc' := 25) (L' := [some (.ref 526), some (.int s0)]) (S' := [.ref 526]) (M' := gm g2) rfl ?_
    replace h := zB_of h
    obtain ⟨v10, g11, e12, h⟩ := h
    refine g_inv2 (kd := 1) (p_X12_bad  e12) rfl rfl rfl (by decide) rfl rfl rfl rfl (by omega) (pc' := 28) rfl (S' := []) rfl ?_
    cases h
    exact g_ret rfl rfl rfl rfl
def f_X12_compare (g : zSg) : Option (Unit × zSg) := (if ¬ (gI g 526 4) = (-1) then f_X12_compare_16 (-1) g else (zB (f_X12_look g) (fun v2 g3 => f_X12_compare_16 (v2) g3)))
set_option maxRecDepth 100000 in
set_option maxHeartbeats 4000000 in
theorem p_X12_compare {sc : zSc} {hp : zHp} {g : zSg} {r : Unit × zSg} (h : f_X12_compare g = some r) : zRn sc hp 78 zM_X12_compare [.ref 526] (gm g) none (gm r.2) := by
  intro d hD
  obtain ⟨d, rfl⟩ : ∃ d', d = d' + 1 := ⟨d - 1, by omega⟩
  show zG _ sc hp (zcd zM_X12_compare) 0 [some (.ref 526), none] [] (gm g) _
  unfold f_X12_compare at h
  refine g_run 3 (pc' := 5) (L' := [some (.ref 526), none]) (S' := [.int (-1), .int ((gI g 526 4))]) (M' := gm g) rfl ?_
  refine g_icmp (¬ (gI g 526 4) = (-1)) rfl (t := 15) rfl rfl (fun c1 => ?_) (fun c1 => ?_)
  · replace h := (if_pos c1).symm.trans h
    refine g_run 1 (pc' := 16) (L' := [some (.ref 526), none]) (S' := [.int (-1)]) (M' := gm g) rfl ?_
    exact p_X12_compare_16 hD (-1) g _ h
  · replace h := (if_neg c1).symm.trans h
    refine g_run 1 (pc' := 9) (L' := [some (.ref 526), none]) (S' := [.ref 526]) (M' := gm g) rfl ?_
    replace h := zB_of h
    obtain ⟨v2, g3, e4, h⟩ := h
    refine g_inv2 (kd := 1) (p_X12_look  e4) rfl rfl rfl (by decide) rfl rfl rfl rfl (by omega) (pc' := 12) rfl (S' := [.int v2]) rfl ?_
    refine g_run 1 (pc' := 16) (L' := [some (.ref 526), none]) (S' := [.int v2]) (M' := gm g3) rfl ?_
    exact p_X12_compare_16 hD (v2) g3 _ h
def fb_X12_goOnAnd_0 (rs : zSg → Option (Unit × zSg)) (kk : zSg → Option (Unit × zSg)) (g : zSg) : Option (Unit × zSg) := (if ¬ (gI g 526 4) = (-1) then some ((), g) else (zB (f_X12_look g) (fun v2 g3 => (if ¬ v2 = 38 then some ((), g3) else (zB (rs (gsI g3 526 3 ((gI g3 526 3) + 1))) (fun v6 g7 => (zB (f_X12_put 10 0 g7) (fun v9 g10 => kk g10))))))))
def f_X12_goOnAnd_0 (rs : zSg → Option (Unit × zSg)) : Nat → zSg → Option (Unit × zSg)
  | 0, _ => none
  | n + 1, g => fb_X12_goOnAnd_0 rs (f_X12_goOnAnd_0 rs n) g
set_option maxRecDepth 100000 in
set_option maxHeartbeats 4000000 in
theorem p_X12_goOnAnd_0 {sc : zSc} {hp : zHp} {d : Nat} (hD : 2 ≤ d) {Ds : Nat} (hD1 : Ds + 1 ≤ d) (rs : zSg → Option (Unit × zSg)) (hrs : ∀ (g : zSg) (r : Unit × zSg), rs g = some r → zRn sc hp Ds zM_X12_unit [.ref 526] (gm g) none (gm r.2)) : ∀ (n : Nat) (g : zSg) (r : Unit × zSg), f_X12_goOnAnd_0 rs n g = some r → zG d sc hp (zcd zM_X12_goOnAnd) 0 [some (.ref 526)] [] (gm g) (none, gm r.2) := by
  obtain ⟨d, rfl⟩ : ∃ d', d = d' + 1 := ⟨d - 1, by omega⟩
  intro n
  induction n with
  | zero => intro g r h; cases h
  | succ n ih =>
    intro g r h
    replace h : fb_X12_goOnAnd_0 rs (f_X12_goOnAnd_0 rs n) g = some r := h
    unfold fb_X12_goOnAnd_0 at h
    refine g_run 3 (pc' := 5) (L' := [some (.ref 526)]) (S' := [.int (-1), .int ((gI g 526 4))]) (M' := gm g) rfl ?_
    refine g_icmp (¬ (gI g 526 4) = (-1)) rfl (t := 41) rfl rfl (fun c1 => ?_) (fun c1 => ?_)
    · replace h := (if_pos c1).symm.trans h
      cases h
      exact g_ret rfl rfl rfl rfl
    · replace h := (if_neg c1).symm.trans h
      refine g_run 1 (pc' := 9) (L' := [some (.ref 526)]) (S' := [.ref 526]) (M' := gm g) rfl ?_
      replace h := zB_of h
      obtain ⟨v2, g3, e4, h⟩ := h
      refine g_inv2 (kd := 1) (p_X12_look  e4) rfl rfl rfl (by decide) rfl rfl rfl rfl (by omega) (pc' := 12) rfl (S' := [.int v2]) rfl ?_
      refine g_run 1 (pc' := 14) (L' := [some (.ref 526)]) (S' := [.int 38, .int v2]) (M' := gm g3) rfl ?_
      refine g_icmp (¬ v2 = 38) rfl (t := 41) rfl rfl (fun c5 => ?_) (fun c5 => ?_)
      · replace h := (if_pos c5).symm.trans h
        cases h
        exact g_ret rfl rfl rfl rfl
      · replace h := (if_neg c5).symm.trans h
        refine g_run 7 (pc' := 28) (L' := [some (.ref 526)]) (S' := [.ref 526]) (M' := gm (gsI g3 526 3 ((gI g3 526 3) + 1))) rfl ?_
        replace h := zB_of h
        obtain ⟨v6, g7, e8, h⟩ := h
        refine g_inv2 (kd := 1) (hrs  (gsI g3 526 3 ((gI g3 526 3) + 1)) _ e8) rfl rfl rfl (by decide) rfl rfl rfl rfl (by omega) (pc' := 31) rfl (S' := []) rfl ?_
        refine g_run 3 (pc' := 35) (L' := [some (.ref 526)]) (S' := [.int 0, .int 10, .ref 526]) (M' := gm g7) rfl ?_
        replace h := zB_of h
        obtain ⟨v9, g10, e11, h⟩ := h
        refine g_inv2 (kd := 1) (p_X12_put  e11) rfl rfl rfl (by decide) rfl rfl rfl rfl (by omega) (pc' := 38) rfl (S' := []) rfl ?_
        refine g_run 1 (pc' := 0) (L' := [some (.ref 526)]) (S' := []) (M' := gm g10) rfl ?_
        exact ih g10 _ h
def f_X12_goOnAnd (rs : zSg → Option (Unit × zSg)) (g : zSg) : Option (Unit × zSg) := f_X12_goOnAnd_0 rs zFu g
set_option maxRecDepth 100000 in
set_option maxHeartbeats 4000000 in
theorem p_X12_goOnAnd {sc : zSc} {hp : zHp} {Ds : Nat} (rs : zSg → Option (Unit × zSg)) (hrs : ∀ (g : zSg) (r : Unit × zSg), rs g = some r → zRn sc hp Ds zM_X12_unit [.ref 526] (gm g) none (gm r.2)) {g : zSg} {r : Unit × zSg} (h : f_X12_goOnAnd rs g = some r) : zRn sc hp (max (Ds + 1) 2) zM_X12_goOnAnd [.ref 526] (gm g) none (gm r.2) := by
  intro d hD
  obtain ⟨hD1, hD⟩ := Nat.max_le.mp hD
  obtain ⟨d, rfl⟩ : ∃ d', d = d' + 1 := ⟨d - 1, by omega⟩
  show zG _ sc hp (zcd zM_X12_goOnAnd) 0 [some (.ref 526)] [] (gm g) _
  unfold f_X12_goOnAnd at h
  exact p_X12_goOnAnd_0 hD hD1 rs hrs zFu g _ h
def fb_X12_goOnOr_0 (rs : zSg → Option (Unit × zSg)) (kk : zSg → Option (Unit × zSg)) (g : zSg) : Option (Unit × zSg) := (if ¬ (gI g 526 4) = (-1) then some ((), g) else (zB (f_X12_look g) (fun v2 g3 => (if ¬ v2 = 124 then some ((), g3) else (zB (rs (gsI g3 526 3 ((gI g3 526 3) + 1))) (fun v6 g7 => (zB (f_X12_goOnAnd rs g7) (fun v9 g10 => (zB (f_X12_put 11 0 g10) (fun v12 g13 => kk g13))))))))))
def f_X12_goOnOr_0 (rs : zSg → Option (Unit × zSg)) : Nat → zSg → Option (Unit × zSg)
  | 0, _ => none
  | n + 1, g => fb_X12_goOnOr_0 rs (f_X12_goOnOr_0 rs n) g
set_option maxRecDepth 100000 in
set_option maxHeartbeats 4000000 in
theorem p_X12_goOnOr_0 {sc : zSc} {hp : zHp} {d : Nat} (hD : 3 ≤ d) {Ds : Nat} (hD1 : Ds + 2 ≤ d) (rs : zSg → Option (Unit × zSg)) (hrs : ∀ (g : zSg) (r : Unit × zSg), rs g = some r → zRn sc hp Ds zM_X12_unit [.ref 526] (gm g) none (gm r.2)) : ∀ (n : Nat) (g : zSg) (r : Unit × zSg), f_X12_goOnOr_0 rs n g = some r → zG d sc hp (zcd zM_X12_goOnOr) 0 [some (.ref 526)] [] (gm g) (none, gm r.2) := by
  obtain ⟨d, rfl⟩ : ∃ d', d = d' + 1 := ⟨d - 1, by omega⟩
  intro n
  induction n with
  | zero => intro g r h; cases h
  | succ n ih =>
    intro g r h
    replace h : fb_X12_goOnOr_0 rs (f_X12_goOnOr_0 rs n) g = some r := h
    unfold fb_X12_goOnOr_0 at h
    refine g_run 3 (pc' := 5) (L' := [some (.ref 526)]) (S' := [.int (-1), .int ((gI g 526 4))]) (M' := gm g) rfl ?_
    refine g_icmp (¬ (gI g 526 4) = (-1)) rfl (t := 45) rfl rfl (fun c1 => ?_) (fun c1 => ?_)
    · replace h := (if_pos c1).symm.trans h
      cases h
      exact g_ret rfl rfl rfl rfl
    · replace h := (if_neg c1).symm.trans h
      refine g_run 1 (pc' := 9) (L' := [some (.ref 526)]) (S' := [.ref 526]) (M' := gm g) rfl ?_
      replace h := zB_of h
      obtain ⟨v2, g3, e4, h⟩ := h
      refine g_inv2 (kd := 1) (p_X12_look  e4) rfl rfl rfl (by decide) rfl rfl rfl rfl (by omega) (pc' := 12) rfl (S' := [.int v2]) rfl ?_
      refine g_run 1 (pc' := 14) (L' := [some (.ref 526)]) (S' := [.int 124, .int v2]) (M' := gm g3) rfl ?_
      refine g_icmp (¬ v2 = 124) rfl (t := 45) rfl rfl (fun c5 => ?_) (fun c5 => ?_)
      · replace h := (if_pos c5).symm.trans h
        cases h
        exact g_ret rfl rfl rfl rfl
      · replace h := (if_neg c5).symm.trans h
        refine g_run 7 (pc' := 28) (L' := [some (.ref 526)]) (S' := [.ref 526]) (M' := gm (gsI g3 526 3 ((gI g3 526 3) + 1))) rfl ?_
        replace h := zB_of h
        obtain ⟨v6, g7, e8, h⟩ := h
        refine g_inv2 (kd := 1) (hrs  (gsI g3 526 3 ((gI g3 526 3) + 1)) _ e8) rfl rfl rfl (by decide) rfl rfl rfl rfl (by omega) (pc' := 31) rfl (S' := []) rfl ?_
        refine g_run 1 (pc' := 32) (L' := [some (.ref 526)]) (S' := [.ref 526]) (M' := gm g7) rfl ?_
        replace h := zB_of h
        obtain ⟨v9, g10, e11, h⟩ := h
        refine g_inv2 (kd := 1) (p_X12_goOnAnd rs hrs  e11) rfl rfl rfl (by decide) rfl rfl rfl rfl (Nat.max_le.mpr ⟨by omega, by omega⟩) (pc' := 35) rfl (S' := []) rfl ?_
        refine g_run 3 (pc' := 39) (L' := [some (.ref 526)]) (S' := [.int 0, .int 11, .ref 526]) (M' := gm g10) rfl ?_
        replace h := zB_of h
        obtain ⟨v12, g13, e14, h⟩ := h
        refine g_inv2 (kd := 1) (p_X12_put  e14) rfl rfl rfl (by decide) rfl rfl rfl rfl (by omega) (pc' := 42) rfl (S' := []) rfl ?_
        refine g_run 1 (pc' := 0) (L' := [some (.ref 526)]) (S' := []) (M' := gm g13) rfl ?_
        exact ih g13 _ h
def f_X12_goOnOr (rs : zSg → Option (Unit × zSg)) (g : zSg) : Option (Unit × zSg) := f_X12_goOnOr_0 rs zFu g
set_option maxRecDepth 100000 in
set_option maxHeartbeats 4000000 in
theorem p_X12_goOnOr {sc : zSc} {hp : zHp} {Ds : Nat} (rs : zSg → Option (Unit × zSg)) (hrs : ∀ (g : zSg) (r : Unit × zSg), rs g = some r → zRn sc hp Ds zM_X12_unit [.ref 526] (gm g) none (gm r.2)) {g : zSg} {r : Unit × zSg} (h : f_X12_goOnOr rs g = some r) : zRn sc hp (max (Ds + 2) 3) zM_X12_goOnOr [.ref 526] (gm g) none (gm r.2) := by
  intro d hD
  obtain ⟨hD1, hD⟩ := Nat.max_le.mp hD
  obtain ⟨d, rfl⟩ : ∃ d', d = d' + 1 := ⟨d - 1, by omega⟩
  show zG _ sc hp (zcd zM_X12_goOnOr) 0 [some (.ref 526)] [] (gm g) _
  unfold f_X12_goOnOr at h
  exact p_X12_goOnOr_0 hD hD1 rs hrs zFu g _ h
def f_X12_condition (rs : zSg → Option (Unit × zSg)) (g : zSg) : Option (Unit × zSg) := (zB (rs g) (fun v1 g2 => (zB (f_X12_goOnAnd rs g2) (fun v4 g5 => (zB (f_X12_goOnOr rs g5) (fun v7 g8 => some ((), g8)))))))
set_option maxRecDepth 100000 in
set_option maxHeartbeats 4000000 in
theorem p_X12_condition {sc : zSc} {hp : zHp} {Ds : Nat} (rs : zSg → Option (Unit × zSg)) (hrs : ∀ (g : zSg) (r : Unit × zSg), rs g = some r → zRn sc hp Ds zM_X12_unit [.ref 526] (gm g) none (gm r.2)) {g : zSg} {r : Unit × zSg} (h : f_X12_condition rs g = some r) : zRn sc hp (max (Ds + 3) 4) zM_X12_condition [.ref 526] (gm g) none (gm r.2) := by
  intro d hD
  obtain ⟨hD1, hD⟩ := Nat.max_le.mp hD
  obtain ⟨d, rfl⟩ : ∃ d', d = d' + 1 := ⟨d - 1, by omega⟩
  show zG _ sc hp (zcd zM_X12_condition) 0 [some (.ref 526)] [] (gm g) _
  unfold f_X12_condition at h
  refine g_run 1 (pc' := 1) (L' := [some (.ref 526)]) (S' := [.ref 526]) (M' := gm g) rfl ?_
  replace h := zB_of h
  obtain ⟨v1, g2, e3, h⟩ := h
  refine g_inv2 (kd := 1) (hrs  g _ e3) rfl rfl rfl (by decide) rfl rfl rfl rfl (by omega) (pc' := 4) rfl (S' := []) rfl ?_
  refine g_run 1 (pc' := 5) (L' := [some (.ref 526)]) (S' := [.ref 526]) (M' := gm g2) rfl ?_
  replace h := zB_of h
  obtain ⟨v4, g5, e6, h⟩ := h
  refine g_inv2 (kd := 1) (p_X12_goOnAnd rs hrs  e6) rfl rfl rfl (by decide) rfl rfl rfl rfl (Nat.max_le.mpr ⟨by omega, by omega⟩) (pc' := 8) rfl (S' := []) rfl ?_
  refine g_run 1 (pc' := 9) (L' := [some (.ref 526)]) (S' := [.ref 526]) (M' := gm g5) rfl ?_
  replace h := zB_of h
  obtain ⟨v7, g8, e9, h⟩ := h
  refine g_inv2 (kd := 1) (p_X12_goOnOr rs hrs  e9) rfl rfl rfl (by decide) rfl rfl rfl rfl (Nat.max_le.mpr ⟨by omega, by omega⟩) (pc' := 12) rfl (S' := []) rfl ?_
  cases h
  exact g_ret rfl rfl rfl rfl
def f_X12_unit_b (rs : zSg → Option (Unit × zSg)) (g : zSg) : Option (Unit × zSg) := (zB (f_X12_look g) (fun v1 g2 => (if ¬ v1 = 33 then (if ¬ v1 = 40 then (zB (f_X12_sum zDp g2) (fun v6 g7 => (if ¬ (gI g7 526 4) = (-1) then some ((), g7) else (zB (f_X12_compare g7) (fun v10 g11 => some ((), g11)))))) else (zB (f_X12_opens g2) (fun v13 g14 => (if ¬ (gI g14 526 4) = (-1) then some ((), g14) else (zB (f_X12_condition rs g14) (fun v17 g18 => (zB (f_X12_closes 41 g18) (fun v20 g21 => some ((), g21))))))))) else (zB (f_X12_opens g2) (fun v23 g24 => (if ¬ (gI g24 526 4) = (-1) then some ((), g24) else (zB (rs g24) (fun v27 g28 => (zB (f_X12_put 9 0 g28) (fun v30 g31 => some ((), (gsI g31 526 5 ((gI g31 526 5) - 1)))))))))))))
set_option maxRecDepth 100000 in
set_option maxHeartbeats 4000000 in
theorem p_X12_unit_b {sc : zSc} {hp : zHp} {Ds : Nat} (rs : zSg → Option (Unit × zSg)) (hrs : ∀ (g : zSg) (r : Unit × zSg), rs g = some r → zRn sc hp Ds zM_X12_unit [.ref 526] (gm g) none (gm r.2)) {g : zSg} {r : Unit × zSg} (h : f_X12_unit_b rs g = some r) : zRn sc hp (max (Ds + 4) 79) zM_X12_unit [.ref 526] (gm g) none (gm r.2) := by
  intro d hD
  obtain ⟨hD1, hD⟩ := Nat.max_le.mp hD
  obtain ⟨d, rfl⟩ : ∃ d', d = d' + 1 := ⟨d - 1, by omega⟩
  show zG _ sc hp (zcd zM_X12_unit) 0 [some (.ref 526), none] [] (gm g) _
  unfold f_X12_unit_b at h
  refine g_run 1 (pc' := 1) (L' := [some (.ref 526), none]) (S' := [.ref 526]) (M' := gm g) rfl ?_
  replace h := zB_of h
  obtain ⟨v1, g2, e3, h⟩ := h
  refine g_inv2 (kd := 1) (p_X12_look  e3) rfl rfl rfl (by decide) rfl rfl rfl rfl (by omega) (pc' := 4) rfl (S' := [.int v1]) rfl ?_
  refine g_run 3 (pc' := 8) (L' := [some (.ref 526), some (.int v1)]) (S' := [.int 33, .int v1]) (M' := gm g2) rfl ?_
  refine g_icmp (¬ v1 = 33) rfl (t := 47) rfl rfl (fun c4 => ?_) (fun c4 => ?_)
  · replace h := (if_pos c4).symm.trans h
    refine g_run 2 (pc' := 50) (L' := [some (.ref 526), some (.int v1)]) (S' := [.int 40, .int v1]) (M' := gm g2) rfl ?_
    refine g_icmp (¬ v1 = 40) rfl (t := 78) rfl rfl (fun c5 => ?_) (fun c5 => ?_)
    · replace h := (if_pos c5).symm.trans h
      refine g_run 1 (pc' := 79) (L' := [some (.ref 526), some (.int v1)]) (S' := [.ref 526]) (M' := gm g2) rfl ?_
      replace h := zB_of h
      obtain ⟨v6, g7, e8, h⟩ := h
      refine g_inv2 (kd := 1) (p_X12_sum zDp  g2 _ e8) rfl rfl rfl (by decide) rfl rfl rfl rfl (by show _ ≤ _; unfold zDp; omega) (pc' := 82) rfl (S' := []) rfl ?_
      refine g_run 3 (pc' := 87) (L' := [some (.ref 526), some (.int v1)]) (S' := [.int (-1), .int ((gI g7 526 4))]) (M' := gm g7) rfl ?_
      refine g_icmp (¬ (gI g7 526 4) = (-1)) rfl (t := 94) rfl rfl (fun c9 => ?_) (fun c9 => ?_)
      · replace h := (if_pos c9).symm.trans h
        cases h
        exact g_ret rfl rfl rfl rfl
      · replace h := (if_neg c9).symm.trans h
        refine g_run 1 (pc' := 91) (L' := [some (.ref 526), some (.int v1)]) (S' := [.ref 526]) (M' := gm g7) rfl ?_
        replace h := zB_of h
        obtain ⟨v10, g11, e12, h⟩ := h
        refine g_inv2 (kd := 1) (p_X12_compare  e12) rfl rfl rfl (by decide) rfl rfl rfl rfl (by omega) (pc' := 94) rfl (S' := []) rfl ?_
        cases h
        exact g_ret rfl rfl rfl rfl
    · replace h := (if_neg c5).symm.trans h
      refine g_run 1 (pc' := 54) (L' := [some (.ref 526), some (.int v1)]) (S' := [.ref 526]) (M' := gm g2) rfl ?_
      replace h := zB_of h
      obtain ⟨v13, g14, e15, h⟩ := h
      refine g_inv2 (kd := 1) (p_X12_opens  e15) rfl rfl rfl (by decide) rfl rfl rfl rfl (by omega) (pc' := 57) rfl (S' := []) rfl ?_
      refine g_run 3 (pc' := 62) (L' := [some (.ref 526), some (.int v1)]) (S' := [.int (-1), .int ((gI g14 526 4))]) (M' := gm g14) rfl ?_
      refine g_icmp (¬ (gI g14 526 4) = (-1)) rfl (t := 94) rfl rfl (fun c16 => ?_) (fun c16 => ?_)
      · replace h := (if_pos c16).symm.trans h
        cases h
        exact g_ret rfl rfl rfl rfl
      · replace h := (if_neg c16).symm.trans h
        refine g_run 1 (pc' := 66) (L' := [some (.ref 526), some (.int v1)]) (S' := [.ref 526]) (M' := gm g14) rfl ?_
        replace h := zB_of h
        obtain ⟨v17, g18, e19, h⟩ := h
        refine g_inv2 (kd := 1) (p_X12_condition rs hrs  e19) rfl rfl rfl (by decide) rfl rfl rfl rfl (Nat.max_le.mpr ⟨by omega, by omega⟩) (pc' := 69) rfl (S' := []) rfl ?_
        refine g_run 2 (pc' := 72) (L' := [some (.ref 526), some (.int v1)]) (S' := [.int 41, .ref 526]) (M' := gm g18) rfl ?_
        replace h := zB_of h
        obtain ⟨v20, g21, e22, h⟩ := h
        refine g_inv2 (kd := 1) (p_X12_closes  e22) rfl rfl rfl (by decide) rfl rfl rfl rfl (by omega) (pc' := 75) rfl (S' := []) rfl ?_
        refine g_run 1 (pc' := 94) (L' := [some (.ref 526), some (.int v1)]) (S' := []) (M' := gm g21) rfl ?_
        cases h
        exact g_ret rfl rfl rfl rfl
  · replace h := (if_neg c4).symm.trans h
    refine g_run 1 (pc' := 12) (L' := [some (.ref 526), some (.int v1)]) (S' := [.ref 526]) (M' := gm g2) rfl ?_
    replace h := zB_of h
    obtain ⟨v23, g24, e25, h⟩ := h
    refine g_inv2 (kd := 1) (p_X12_opens  e25) rfl rfl rfl (by decide) rfl rfl rfl rfl (by omega) (pc' := 15) rfl (S' := []) rfl ?_
    refine g_run 3 (pc' := 20) (L' := [some (.ref 526), some (.int v1)]) (S' := [.int (-1), .int ((gI g24 526 4))]) (M' := gm g24) rfl ?_
    refine g_icmp (¬ (gI g24 526 4) = (-1)) rfl (t := 94) rfl rfl (fun c26 => ?_) (fun c26 => ?_)
    · replace h := (if_pos c26).symm.trans h
      cases h
      exact g_ret rfl rfl rfl rfl
    · replace h := (if_neg c26).symm.trans h
      refine g_run 1 (pc' := 24) (L' := [some (.ref 526), some (.int v1)]) (S' := [.ref 526]) (M' := gm g24) rfl ?_
      replace h := zB_of h
      obtain ⟨v27, g28, e29, h⟩ := h
      refine g_inv2 (kd := 1) (hrs  g24 _ e29) rfl rfl rfl (by decide) rfl rfl rfl rfl (by omega) (pc' := 27) rfl (S' := []) rfl ?_
      refine g_run 3 (pc' := 31) (L' := [some (.ref 526), some (.int v1)]) (S' := [.int 0, .int 9, .ref 526]) (M' := gm g28) rfl ?_
      replace h := zB_of h
      obtain ⟨v30, g31, e32, h⟩ := h
      refine g_inv2 (kd := 1) (p_X12_put  e32) rfl rfl rfl (by decide) rfl rfl rfl rfl (by omega) (pc' := 34) rfl (S' := []) rfl ?_
      refine g_run 7 (pc' := 94) (L' := [some (.ref 526), some (.int v1)]) (S' := []) (M' := gm (gsI g31 526 5 ((gI g31 526 5) - 1))) rfl ?_
      cases h
      exact g_ret rfl rfl rfl rfl
def f_X12_unit : Nat → zSg → Option (Unit × zSg)
  | 0, _ => none
  | n + 1, g => f_X12_unit_b (f_X12_unit n) g
theorem p_X12_unit {sc : zSc} {hp : zHp} : ∀ (n : Nat) (g : zSg) (r : Unit × zSg), f_X12_unit n g = some r → zRn sc hp (79 + 4 * n) zM_X12_unit [.ref 526] (gm g) none (gm r.2) := by
  intro n
  induction n with
  | zero => intro g r h; cases h
  | succ n ih =>
    intro g r h d hd
    exact p_X12_unit_b (f_X12_unit n) ih h d (Nat.max_le.mpr ⟨by omega, by omega⟩)
def f_X12_clause_251 (y1 : Int32) (g : zSg) : Option (Unit × zSg) := (if zib (gI g 526 14) 5 = true then (if zib y1 700 = true then (if zib (gI (gsI g (534) (ix y1) (gI g 530 (ix (gI g 526 14)))) 526 14) 5 = true then (if zib (gI (gsI g (534) (ix y1) (gI g 530 (ix (gI g 526 14)))) 526 14) 5 = true then some ((), (gsI (gsI g (534) (ix y1) (gI g 530 (ix (gI g 526 14)))) (531) (ix (gI (gsI g (534) (ix y1) (gI g 530 (ix (gI g 526 14)))) 526 14)) ((gI (gsI g (534) (ix y1) (gI g 530 (ix (gI g 526 14)))) 531 (ix (gI (gsI g (534) (ix y1) (gI g 530 (ix (gI g 526 14)))) 526 14))) + 1))) else none) else none) else none) else none)
set_option maxRecDepth 100000 in
set_option maxHeartbeats 4000000 in
theorem p_X12_clause_251 {sc : zSc} {hp : zHp} {d : Nat} (hD : 184 ≤ d) (y1 : Int32) (g : zSg) (r : Unit × zSg) (h : f_X12_clause_251 y1 g = some r) : zG d sc hp (zcd zM_X12_clause) 251 [some (.ref 526), some (.int y1), none] [] (gm g) (none, gm r.2) := by
  obtain ⟨d, rfl⟩ : ∃ d', d = d' + 1 := ⟨d - 1, by omega⟩
  unfold f_X12_clause_251 at h
  refine g_run 7 (pc' := 264) (L' := [some (.ref 526), some (.int y1), none]) (S' := [.int ((gI g 526 14)), .ref 530, .int y1, .ref 534]) (M' := gm g) rfl ?_
  by_cases c1 : zib (gI g 526 14) 5 = true
  case neg => exact nomatch ((if_neg c1).symm.trans h)
  replace h := (if_pos c1).symm.trans h
  refine g_iald rfl (a := 530) rfl c1 ?_
  by_cases c2 : zib y1 700 = true
  case neg => exact nomatch ((if_neg c2).symm.trans h)
  replace h := (if_pos c2).symm.trans h
  refine g_iast rfl (a := 534) rfl c2 ?_
  refine g_run 5 (pc' := 275) (L' := [some (.ref 526), some (.int y1), none]) (S' := [.int ((gI (gsI g (534) (ix y1) (gI g 530 (ix (gI g 526 14)))) 526 14)), .ref 531, .int ((gI (gsI g (534) (ix y1) (gI g 530 (ix (gI g 526 14)))) 526 14)), .ref 531]) (M' := gm (gsI g (534) (ix y1) (gI g 530 (ix (gI g 526 14))))) rfl ?_
  by_cases c3 : zib (gI (gsI g (534) (ix y1) (gI g 530 (ix (gI g 526 14)))) 526 14) 5 = true
  case neg => exact nomatch ((if_neg c3).symm.trans h)
  replace h := (if_pos c3).symm.trans h
  refine g_iald rfl (a := 531) rfl c3 ?_
  refine g_run 2 (pc' := 278) (L' := [some (.ref 526), some (.int y1), none]) (S' := [.int (((gI (gsI g (534) (ix y1) (gI g 530 (ix (gI g 526 14)))) 531 (ix (gI (gsI g (534) (ix y1) (gI g 530 (ix (gI g 526 14)))) 526 14))) + 1)), .int ((gI (gsI g (534) (ix y1) (gI g 530 (ix (gI g 526 14)))) 526 14)), .ref 531]) (M' := gm (gsI g (534) (ix y1) (gI g 530 (ix (gI g 526 14))))) rfl ?_
  by_cases c4 : zib (gI (gsI g (534) (ix y1) (gI g 530 (ix (gI g 526 14)))) 526 14) 5 = true
  case neg => exact nomatch ((if_neg c4).symm.trans h)
  replace h := (if_pos c4).symm.trans h
  refine g_iast rfl (a := 531) rfl c4 ?_
  cases h
  exact g_ret rfl rfl rfl rfl
def f_X12_clause_184 (y1 : Int32) (y2 : Int32) (g : zSg) : Option (Unit × zSg) := (if zib y1 700 = true then (if zib y1 700 = true then (if y2 = 0 then f_X12_clause_251 (y1) (gsI g (533) (ix y1) (gI g 532 (ix y1))) else (if ¬ (gI (gsI g (533) (ix y1) (gI g 532 (ix y1))) 526 4) = (-1) then f_X12_clause_251 (y1) (gsI g (533) (ix y1) (gI g 532 (ix y1))) else (zB (f_X12_look (gsI g (533) (ix y1) (gI g 532 (ix y1)))) (fun v5 g6 => (if v5 = 63 then (if zib (gI (gsI g6 526 3 ((gI g6 526 3) + 1)) 526 14) 5 = true then (if zib y1 700 = true then (zB (f_X12_sum zDp (gsI (gsI g6 526 3 ((gI g6 526 3) + 1)) (533) (ix y1) (gI (gsI g6 526 3 ((gI g6 526 3) + 1)) 530 (ix (gI (gsI g6 526 3 ((gI g6 526 3) + 1)) 526 14))))) (fun v11 g12 => f_X12_clause_251 (y1) g12)) else none) else none) else (zB (f_X12_bad g6) (fun v14 g15 => some ((), g15)))))))) else none) else none)
set_option maxRecDepth 100000 in
set_option maxHeartbeats 4000000 in
theorem p_X12_clause_184 {sc : zSc} {hp : zHp} {d : Nat} (hD : 184 ≤ d) (y1 : Int32) (y2 : Int32) (g : zSg) (r : Unit × zSg) (h : f_X12_clause_184 y1 y2 g = some r) : zG d sc hp (zcd zM_X12_clause) 184 [some (.ref 526), some (.int y1), some (.int y2)] [] (gm g) (none, gm r.2) := by
  obtain ⟨d, rfl⟩ : ∃ d', d = d' + 1 := ⟨d - 1, by omega⟩
  unfold f_X12_clause_184 at h
  refine g_run 6 (pc' := 194) (L' := [some (.ref 526), some (.int y1), some (.int y2)]) (S' := [.int y1, .ref 532, .int y1, .ref 533]) (M' := gm g) rfl ?_
  by_cases c1 : zib y1 700 = true
  case neg => exact nomatch ((if_neg c1).symm.trans h)
  replace h := (if_pos c1).symm.trans h
  refine g_iald rfl (a := 532) rfl c1 ?_
  by_cases c2 : zib y1 700 = true
  case neg => exact nomatch ((if_neg c2).symm.trans h)
  replace h := (if_pos c2).symm.trans h
  refine g_iast rfl (a := 533) rfl c2 ?_
  refine g_run 1 (pc' := 197) (L' := [some (.ref 526), some (.int y1), some (.int y2)]) (S' := [.int y2]) (M' := gm (gsI g (533) (ix y1) (gI g 532 (ix y1)))) rfl ?_
  refine g_if (y2 = 0) rfl (t := 251) rfl rfl (fun c3 => ?_) (fun c3 => ?_)
  · replace h := (if_pos c3).symm.trans h
    refine g_forget (L' := [some (.ref 526), some (.int y1), none]) (And.intro rfl (And.intro rfl True.intro)) ?_
    exact p_X12_clause_251 hD (y1) (gsI g (533) (ix y1) (gI g 532 (ix y1))) _ h
  · replace h := (if_neg c3).symm.trans h
    refine g_run 3 (pc' := 205) (L' := [some (.ref 526), some (.int y1), some (.int y2)]) (S' := [.int (-1), .int ((gI (gsI g (533) (ix y1) (gI g 532 (ix y1))) 526 4))]) (M' := gm (gsI g (533) (ix y1) (gI g 532 (ix y1)))) rfl ?_
    refine g_icmp (¬ (gI (gsI g (533) (ix y1) (gI g 532 (ix y1))) 526 4) = (-1)) rfl (t := 251) rfl rfl (fun c4 => ?_) (fun c4 => ?_)
    · replace h := (if_pos c4).symm.trans h
      refine g_forget (L' := [some (.ref 526), some (.int y1), none]) (And.intro rfl (And.intro rfl True.intro)) ?_
      exact p_X12_clause_251 hD (y1) (gsI g (533) (ix y1) (gI g 532 (ix y1))) _ h
    · replace h := (if_neg c4).symm.trans h
      refine g_run 1 (pc' := 209) (L' := [some (.ref 526), some (.int y1), some (.int y2)]) (S' := [.ref 526]) (M' := gm (gsI g (533) (ix y1) (gI g 532 (ix y1)))) rfl ?_
      replace h := zB_of h
      obtain ⟨v5, g6, e7, h⟩ := h
      refine g_inv2 (kd := 1) (p_X12_look  e7) rfl rfl rfl (by decide) rfl rfl rfl rfl (by omega) (pc' := 212) rfl (S' := [.int v5]) rfl ?_
      refine g_run 1 (pc' := 214) (L' := [some (.ref 526), some (.int y1), some (.int y2)]) (S' := [.int 63, .int v5]) (M' := gm g6) rfl ?_
      refine g_icmp (v5 = 63) rfl (t := 222) rfl rfl (fun c8 => ?_) (fun c8 => ?_)
      · replace h := (if_pos c8).symm.trans h
        refine g_run 13 (pc' := 245) (L' := [some (.ref 526), some (.int y1), some (.int y2)]) (S' := [.int ((gI (gsI g6 526 3 ((gI g6 526 3) + 1)) 526 14)), .ref 530, .int y1, .ref 533]) (M' := gm (gsI g6 526 3 ((gI g6 526 3) + 1))) rfl ?_
        by_cases c9 : zib (gI (gsI g6 526 3 ((gI g6 526 3) + 1)) 526 14) 5 = true
        case neg => exact nomatch ((if_neg c9).symm.trans h)
        replace h := (if_pos c9).symm.trans h
        refine g_iald rfl (a := 530) rfl c9 ?_
        by_cases c10 : zib y1 700 = true
        case neg => exact nomatch ((if_neg c10).symm.trans h)
        replace h := (if_pos c10).symm.trans h
        refine g_iast rfl (a := 533) rfl c10 ?_
        refine g_run 1 (pc' := 248) (L' := [some (.ref 526), some (.int y1), some (.int y2)]) (S' := [.ref 526]) (M' := gm (gsI (gsI g6 526 3 ((gI g6 526 3) + 1)) (533) (ix y1) (gI (gsI g6 526 3 ((gI g6 526 3) + 1)) 530 (ix (gI (gsI g6 526 3 ((gI g6 526 3) + 1)) 526 14))))) rfl ?_
        replace h := zB_of h
        obtain ⟨v11, g12, e13, h⟩ := h
        refine g_inv2 (kd := 1) (p_X12_sum zDp  (gsI (gsI g6 526 3 ((gI g6 526 3) + 1)) (533) (ix y1) (gI (gsI g6 526 3 ((gI g6 526 3) + 1)) 530 (ix (gI (gsI g6 526 3 ((gI g6 526 3) + 1)) 526 14)))) _ e13) rfl rfl rfl (by decide) rfl rfl rfl rfl (by show _ ≤ _; unfold zDp; omega) (pc' := 251) rfl (S' := []) rfl ?_
        refine g_forget (L' := [some (.ref 526), some (.int y1), none]) (And.intro rfl (And.intro rfl True.intro)) ?_
        exact p_X12_clause_251 hD (y1) g12 _ h
      · replace h := (if_neg c8).symm.trans h
        refine g_run 1 (pc' := 218) (L' := [some (.ref 526), some (.int y1), some (.int y2)]) (S' := [.ref 526]) (M' := gm g6) rfl ?_
        replace h := zB_of h
        obtain ⟨v14, g15, e16, h⟩ := h
        refine g_inv2 (kd := 1) (p_X12_bad  e16) rfl rfl rfl (by decide) rfl rfl rfl rfl (by omega) (pc' := 221) rfl (S' := []) rfl ?_
        cases h
        exact g_ret rfl rfl rfl rfl
def f_X12_clause_167 (y1 : Int32) (s0 : Int32) (g : zSg) : Option (Unit × zSg) := (if s0 = 0 then f_X12_clause_184 (y1) (s0) g else (zB (f_X12_compare g) (fun v2 g3 => (zB (f_X12_goOnAnd (f_X12_unit zDp) g3) (fun v5 g6 => (zB (f_X12_goOnOr (f_X12_unit zDp) g6) (fun v8 g9 => f_X12_clause_184 (y1) (s0) g9)))))))
set_option maxRecDepth 100000 in
set_option maxHeartbeats 4000000 in
theorem p_X12_clause_167 {sc : zSc} {hp : zHp} {d : Nat} (hD : 184 ≤ d) (y1 : Int32) (s0 : Int32) (g : zSg) (r : Unit × zSg) (h : f_X12_clause_167 y1 s0 g = some r) : zG d sc hp (zcd zM_X12_clause) 167 [some (.ref 526), some (.int y1), none] [.int s0] (gm g) (none, gm r.2) := by
  obtain ⟨d, rfl⟩ : ∃ d', d = d' + 1 := ⟨d - 1, by omega⟩
  unfold f_X12_clause_167 at h
  refine g_run 2 (pc' := 169) (L' := [some (.ref 526), some (.int y1), some (.int s0)]) (S' := [.int s0]) (M' := gm g) rfl ?_
  refine g_if (s0 = 0) rfl (t := 184) rfl rfl (fun c1 => ?_) (fun c1 => ?_)
  · replace h := (if_pos c1).symm.trans h
    exact p_X12_clause_184 hD (y1) (s0) g _ h
  · replace h := (if_neg c1).symm.trans h
    refine g_run 1 (pc' := 173) (L' := [some (.ref 526), some (.int y1), some (.int s0)]) (S' := [.ref 526]) (M' := gm g) rfl ?_
    replace h := zB_of h
    obtain ⟨v2, g3, e4, h⟩ := h
    refine g_inv2 (kd := 1) (p_X12_compare  e4) rfl rfl rfl (by decide) rfl rfl rfl rfl (by omega) (pc' := 176) rfl (S' := []) rfl ?_
    refine g_run 1 (pc' := 177) (L' := [some (.ref 526), some (.int y1), some (.int s0)]) (S' := [.ref 526]) (M' := gm g3) rfl ?_
    replace h := zB_of h
    obtain ⟨v5, g6, e7, h⟩ := h
    refine g_inv2 (kd := 1) (p_X12_goOnAnd (f_X12_unit zDp) (p_X12_unit zDp)  e7) rfl rfl rfl (by decide) rfl rfl rfl rfl (by show _ ≤ _; unfold zDp; omega) (pc' := 180) rfl (S' := []) rfl ?_
    refine g_run 1 (pc' := 181) (L' := [some (.ref 526), some (.int y1), some (.int s0)]) (S' := [.ref 526]) (M' := gm g6) rfl ?_
    replace h := zB_of h
    obtain ⟨v8, g9, e10, h⟩ := h
    refine g_inv2 (kd := 1) (p_X12_goOnOr (f_X12_unit zDp) (p_X12_unit zDp)  e10) rfl rfl rfl (by decide) rfl rfl rfl rfl (by show _ ≤ _; unfold zDp; omega) (pc' := 184) rfl (S' := []) rfl ?_
    exact p_X12_clause_184 hD (y1) (s0) g9 _ h
def f_X12_clause_166 (y1 : Int32) (g : zSg) : Option (Unit × zSg) := f_X12_clause_167 (y1) (0) g
set_option maxRecDepth 100000 in
set_option maxHeartbeats 4000000 in
theorem p_X12_clause_166 {sc : zSc} {hp : zHp} {d : Nat} (hD : 184 ≤ d) (y1 : Int32) (g : zSg) (r : Unit × zSg) (h : f_X12_clause_166 y1 g = some r) : zG d sc hp (zcd zM_X12_clause) 166 [some (.ref 526), some (.int y1), none] [] (gm g) (none, gm r.2) := by
  obtain ⟨d, rfl⟩ : ∃ d', d = d' + 1 := ⟨d - 1, by omega⟩
  unfold f_X12_clause_166 at h
  refine g_run 1 (pc' := 167) (L' := [some (.ref 526), some (.int y1), none]) (S' := [.int 0]) (M' := gm g) rfl ?_
  exact p_X12_clause_167 hD (y1) (0) g _ h
def f_X12_clause_128 (y1 : Int32) (s0 : Int32) (g : zSg) : Option (Unit × zSg) := (if s0 = 0 then (zB (f_X12_sum zDp g) (fun v2 g3 => (if ¬ (gI g3 526 4) = (-1) then f_X12_clause_166 (y1) g3 else (zB (f_X12_look g3) (fun v6 g7 => (zB (f_X12_isSign v6 g7) (fun v9 g10 => (if v9 = 0 then f_X12_clause_166 (y1) g10 else f_X12_clause_167 (y1) (1) g10)))))))) else (zB (f_X12_condition (f_X12_unit zDp) g) (fun v13 g14 => f_X12_clause_184 (y1) (s0) g14)))
set_option maxRecDepth 100000 in
set_option maxHeartbeats 4000000 in
theorem p_X12_clause_128 {sc : zSc} {hp : zHp} {d : Nat} (hD : 184 ≤ d) (y1 : Int32) (s0 : Int32) (g : zSg) (r : Unit × zSg) (h : f_X12_clause_128 y1 s0 g = some r) : zG d sc hp (zcd zM_X12_clause) 128 [some (.ref 526), some (.int y1), none] [.int s0] (gm g) (none, gm r.2) := by
  obtain ⟨d, rfl⟩ : ∃ d', d = d' + 1 := ⟨d - 1, by omega⟩
  unfold f_X12_clause_128 at h
  refine g_run 2 (pc' := 130) (L' := [some (.ref 526), some (.int y1), some (.int s0)]) (S' := [.int s0]) (M' := gm g) rfl ?_
  refine g_if (s0 = 0) rfl (t := 140) rfl rfl (fun c1 => ?_) (fun c1 => ?_)
  · replace h := (if_pos c1).symm.trans h
    refine g_run 1 (pc' := 141) (L' := [some (.ref 526), some (.int y1), some (.int s0)]) (S' := [.ref 526]) (M' := gm g) rfl ?_
    replace h := zB_of h
    obtain ⟨v2, g3, e4, h⟩ := h
    refine g_inv2 (kd := 1) (p_X12_sum zDp  g _ e4) rfl rfl rfl (by decide) rfl rfl rfl rfl (by show _ ≤ _; unfold zDp; omega) (pc' := 144) rfl (S' := []) rfl ?_
    refine g_run 3 (pc' := 149) (L' := [some (.ref 526), some (.int y1), some (.int s0)]) (S' := [.int (-1), .int ((gI g3 526 4))]) (M' := gm g3) rfl ?_
    refine g_icmp (¬ (gI g3 526 4) = (-1)) rfl (t := 166) rfl rfl (fun c5 => ?_) (fun c5 => ?_)
    · replace h := (if_pos c5).symm.trans h
      refine g_forget (L' := [some (.ref 526), some (.int y1), none]) (And.intro rfl (And.intro rfl True.intro)) ?_
      exact p_X12_clause_166 hD (y1) g3 _ h
    · replace h := (if_neg c5).symm.trans h
      refine g_run 1 (pc' := 153) (L' := [some (.ref 526), some (.int y1), some (.int s0)]) (S' := [.ref 526]) (M' := gm g3) rfl ?_
      replace h := zB_of h
      obtain ⟨v6, g7, e8, h⟩ := h
      refine g_inv2 (kd := 1) (p_X12_look  e8) rfl rfl rfl (by decide) rfl rfl rfl rfl (by omega) (pc' := 156) rfl (S' := [.int v6]) rfl ?_
      replace h := zB_of h
      obtain ⟨v9, g10, e11, h⟩ := h
      refine g_inv2 (kd := 0) (p_X12_isSign  e11) rfl rfl rfl (by decide) rfl rfl rfl rfl (by omega) (pc' := 159) rfl (S' := [.int v9]) rfl ?_
      refine g_if (v9 = 0) rfl (t := 166) rfl rfl (fun c12 => ?_) (fun c12 => ?_)
      · replace h := (if_pos c12).symm.trans h
        refine g_forget (L' := [some (.ref 526), some (.int y1), none]) (And.intro rfl (And.intro rfl True.intro)) ?_
        exact p_X12_clause_166 hD (y1) g10 _ h
      · replace h := (if_neg c12).symm.trans h
        refine g_run 2 (pc' := 167) (L' := [some (.ref 526), some (.int y1), some (.int s0)]) (S' := [.int 1]) (M' := gm g10) rfl ?_
        refine g_forget (L' := [some (.ref 526), some (.int y1), none]) (And.intro rfl (And.intro rfl True.intro)) ?_
        exact p_X12_clause_167 hD (y1) (1) g10 _ h
  · replace h := (if_neg c1).symm.trans h
    refine g_run 1 (pc' := 134) (L' := [some (.ref 526), some (.int y1), some (.int s0)]) (S' := [.ref 526]) (M' := gm g) rfl ?_
    replace h := zB_of h
    obtain ⟨v13, g14, e15, h⟩ := h
    refine g_inv2 (kd := 1) (p_X12_condition (f_X12_unit zDp) (p_X12_unit zDp)  e15) rfl rfl rfl (by decide) rfl rfl rfl rfl (by show _ ≤ _; unfold zDp; omega) (pc' := 137) rfl (S' := []) rfl ?_
    refine g_run 1 (pc' := 184) (L' := [some (.ref 526), some (.int y1), some (.int s0)]) (S' := []) (M' := gm g14) rfl ?_
    exact p_X12_clause_184 hD (y1) (s0) g14 _ h
def f_X12_clause_123 (y1 : Int32) (g : zSg) : Option (Unit × zSg) := f_X12_clause_128 (y1) (1) g
set_option maxRecDepth 100000 in
set_option maxHeartbeats 4000000 in
theorem p_X12_clause_123 {sc : zSc} {hp : zHp} {d : Nat} (hD : 184 ≤ d) (y1 : Int32) (g : zSg) (r : Unit × zSg) (h : f_X12_clause_123 y1 g = some r) : zG d sc hp (zcd zM_X12_clause) 123 [some (.ref 526), some (.int y1), none] [] (gm g) (none, gm r.2) := by
  obtain ⟨d, rfl⟩ : ∃ d', d = d' + 1 := ⟨d - 1, by omega⟩
  unfold f_X12_clause_123 at h
  refine g_run 2 (pc' := 128) (L' := [some (.ref 526), some (.int y1), none]) (S' := [.int 1]) (M' := gm g) rfl ?_
  exact p_X12_clause_128 hD (y1) (1) g _ h
def f_X12_clause_71 (y1 : Int32) (g : zSg) : Option (Unit × zSg) := (if (gI (gsI g 526 3 ((gI g 526 3) + 1)) 526 4) = (-1) then (if zib (gI (gsI g 526 3 ((gI g 526 3) + 1)) 526 14) 5 = true then (if zib y1 700 = true then (zB (f_X12_look (gsI (gsI g 526 3 ((gI g 526 3) + 1)) (532) (ix y1) (gI (gsI g 526 3 ((gI g 526 3) + 1)) 530 (ix (gI (gsI g 526 3 ((gI g 526 3) + 1)) 526 14))))) (fun v4 g5 => (if v4 = 33 then f_X12_clause_123 (y1) g5 else (zB (f_X12_look g5) (fun v8 g9 => (if ¬ v8 = 40 then f_X12_clause_128 (y1) (0) g9 else f_X12_clause_123 (y1) g9)))))) else none) else none) else some ((), (gsI g 526 3 ((gI g 526 3) + 1))))
set_option maxRecDepth 100000 in
set_option maxHeartbeats 4000000 in
theorem p_X12_clause_71 {sc : zSc} {hp : zHp} {d : Nat} (hD : 184 ≤ d) (y1 : Int32) (g : zSg) (r : Unit × zSg) (h : f_X12_clause_71 y1 g = some r) : zG d sc hp (zcd zM_X12_clause) 71 [some (.ref 526), some (.int y1), none] [] (gm g) (none, gm r.2) := by
  obtain ⟨d, rfl⟩ : ∃ d', d = d' + 1 := ⟨d - 1, by omega⟩
  unfold f_X12_clause_71 at h
  refine g_run 9 (pc' := 86) (L' := [some (.ref 526), some (.int y1), none]) (S' := [.int (-1), .int ((gI (gsI g 526 3 ((gI g 526 3) + 1)) 526 4))]) (M' := gm (gsI g 526 3 ((gI g 526 3) + 1))) rfl ?_
  refine g_icmp ((gI (gsI g 526 3 ((gI g 526 3) + 1)) 526 4) = (-1)) rfl (t := 90) rfl rfl (fun c1 => ?_) (fun c1 => ?_)
  · replace h := (if_pos c1).symm.trans h
    refine g_run 7 (pc' := 103) (L' := [some (.ref 526), some (.int y1), none]) (S' := [.int ((gI (gsI g 526 3 ((gI g 526 3) + 1)) 526 14)), .ref 530, .int y1, .ref 532]) (M' := gm (gsI g 526 3 ((gI g 526 3) + 1))) rfl ?_
    by_cases c2 : zib (gI (gsI g 526 3 ((gI g 526 3) + 1)) 526 14) 5 = true
    case neg => exact nomatch ((if_neg c2).symm.trans h)
    replace h := (if_pos c2).symm.trans h
    refine g_iald rfl (a := 530) rfl c2 ?_
    by_cases c3 : zib y1 700 = true
    case neg => exact nomatch ((if_neg c3).symm.trans h)
    replace h := (if_pos c3).symm.trans h
    refine g_iast rfl (a := 532) rfl c3 ?_
    refine g_run 1 (pc' := 106) (L' := [some (.ref 526), some (.int y1), none]) (S' := [.ref 526]) (M' := gm (gsI (gsI g 526 3 ((gI g 526 3) + 1)) (532) (ix y1) (gI (gsI g 526 3 ((gI g 526 3) + 1)) 530 (ix (gI (gsI g 526 3 ((gI g 526 3) + 1)) 526 14))))) rfl ?_
    replace h := zB_of h
    obtain ⟨v4, g5, e6, h⟩ := h
    refine g_inv2 (kd := 1) (p_X12_look  e6) rfl rfl rfl (by decide) rfl rfl rfl rfl (by omega) (pc' := 109) rfl (S' := [.int v4]) rfl ?_
    refine g_run 1 (pc' := 111) (L' := [some (.ref 526), some (.int y1), none]) (S' := [.int 33, .int v4]) (M' := gm g5) rfl ?_
    refine g_icmp (v4 = 33) rfl (t := 123) rfl rfl (fun c7 => ?_) (fun c7 => ?_)
    · replace h := (if_pos c7).symm.trans h
      exact p_X12_clause_123 hD (y1) g5 _ h
    · replace h := (if_neg c7).symm.trans h
      refine g_run 1 (pc' := 115) (L' := [some (.ref 526), some (.int y1), none]) (S' := [.ref 526]) (M' := gm g5) rfl ?_
      replace h := zB_of h
      obtain ⟨v8, g9, e10, h⟩ := h
      refine g_inv2 (kd := 1) (p_X12_look  e10) rfl rfl rfl (by decide) rfl rfl rfl rfl (by omega) (pc' := 118) rfl (S' := [.int v8]) rfl ?_
      refine g_run 1 (pc' := 120) (L' := [some (.ref 526), some (.int y1), none]) (S' := [.int 40, .int v8]) (M' := gm g9) rfl ?_
      refine g_icmp (¬ v8 = 40) rfl (t := 127) rfl rfl (fun c11 => ?_) (fun c11 => ?_)
      · replace h := (if_pos c11).symm.trans h
        refine g_run 1 (pc' := 128) (L' := [some (.ref 526), some (.int y1), none]) (S' := [.int 0]) (M' := gm g9) rfl ?_
        exact p_X12_clause_128 hD (y1) (0) g9 _ h
      · replace h := (if_neg c11).symm.trans h
        exact p_X12_clause_123 hD (y1) g9 _ h
  · replace h := (if_neg c1).symm.trans h
    cases h
    exact g_ret rfl rfl rfl rfl
def f_X12_clause_40 (y1 : Int32) (g : zSg) : Option (Unit × zSg) := (if ¬ (gI (gsI g 526 3 ((gI g 526 3) + 1)) 526 4) = (-1) then f_X12_clause_71 (y1) (gsI g 526 3 ((gI g 526 3) + 1)) else (zB (f_X12_look (gsI g 526 3 ((gI g 526 3) + 1))) (fun v2 g3 => (if v2 = 58 then f_X12_clause_71 (y1) g3 else (zB (f_X12_bad g3) (fun v6 g7 => f_X12_clause_71 (y1) g7))))))
set_option maxRecDepth 100000 in
set_option maxHeartbeats 4000000 in
theorem p_X12_clause_40 {sc : zSc} {hp : zHp} {d : Nat} (hD : 184 ≤ d) (y1 : Int32) (g : zSg) (r : Unit × zSg) (h : f_X12_clause_40 y1 g = some r) : zG d sc hp (zcd zM_X12_clause) 40 [some (.ref 526), some (.int y1), none] [] (gm g) (none, gm r.2) := by
  obtain ⟨d, rfl⟩ : ∃ d', d = d' + 1 := ⟨d - 1, by omega⟩
  unfold f_X12_clause_40 at h
  refine g_run 9 (pc' := 55) (L' := [some (.ref 526), some (.int y1), none]) (S' := [.int (-1), .int ((gI (gsI g 526 3 ((gI g 526 3) + 1)) 526 4))]) (M' := gm (gsI g 526 3 ((gI g 526 3) + 1))) rfl ?_
  refine g_icmp (¬ (gI (gsI g 526 3 ((gI g 526 3) + 1)) 526 4) = (-1)) rfl (t := 71) rfl rfl (fun c1 => ?_) (fun c1 => ?_)
  · replace h := (if_pos c1).symm.trans h
    exact p_X12_clause_71 hD (y1) (gsI g 526 3 ((gI g 526 3) + 1)) _ h
  · replace h := (if_neg c1).symm.trans h
    refine g_run 1 (pc' := 59) (L' := [some (.ref 526), some (.int y1), none]) (S' := [.ref 526]) (M' := gm (gsI g 526 3 ((gI g 526 3) + 1))) rfl ?_
    replace h := zB_of h
    obtain ⟨v2, g3, e4, h⟩ := h
    refine g_inv2 (kd := 1) (p_X12_look  e4) rfl rfl rfl (by decide) rfl rfl rfl rfl (by omega) (pc' := 62) rfl (S' := [.int v2]) rfl ?_
    refine g_run 1 (pc' := 64) (L' := [some (.ref 526), some (.int y1), none]) (S' := [.int 58, .int v2]) (M' := gm g3) rfl ?_
    refine g_icmp (v2 = 58) rfl (t := 71) rfl rfl (fun c5 => ?_) (fun c5 => ?_)
    · replace h := (if_pos c5).symm.trans h
      exact p_X12_clause_71 hD (y1) g3 _ h
    · replace h := (if_neg c5).symm.trans h
      refine g_run 1 (pc' := 68) (L' := [some (.ref 526), some (.int y1), none]) (S' := [.ref 526]) (M' := gm g3) rfl ?_
      replace h := zB_of h
      obtain ⟨v6, g7, e8, h⟩ := h
      refine g_inv2 (kd := 1) (p_X12_bad  e8) rfl rfl rfl (by decide) rfl rfl rfl rfl (by omega) (pc' := 71) rfl (S' := []) rfl ?_
      exact p_X12_clause_71 hD (y1) g7 _ h
def f_X12_clause (g : zSg) : Option (Unit × zSg) := (if zib (gI g 526 14) 5 = true then (if ¬ (gI g 526 4) = (-1) then f_X12_clause_40 ((140 * (gI g 526 14)) + (gI g 531 (ix (gI g 526 14)))) g else (zB (f_X12_look g) (fun v3 g4 => (if v3 = 121 then f_X12_clause_40 ((140 * (gI g 526 14)) + (gI g 531 (ix (gI g 526 14)))) g4 else (zB (f_X12_bad g4) (fun v7 g8 => f_X12_clause_40 ((140 * (gI g 526 14)) + (gI g 531 (ix (gI g 526 14)))) g8)))))) else none)
set_option maxRecDepth 100000 in
set_option maxHeartbeats 4000000 in
theorem p_X12_clause {sc : zSc} {hp : zHp} {g : zSg} {r : Unit × zSg} (h : f_X12_clause g = some r) : zRn sc hp 184 zM_X12_clause [.ref 526] (gm g) none (gm r.2) := by
  intro d hD
  obtain ⟨d, rfl⟩ : ∃ d', d = d' + 1 := ⟨d - 1, by omega⟩
  show zG _ sc hp (zcd zM_X12_clause) 0 [some (.ref 526), none, none] [] (gm g) _
  unfold f_X12_clause at h
  refine g_run 8 (pc' := 16) (L' := [some (.ref 526), none, none]) (S' := [.int ((gI g 526 14)), .ref 531, .int ((140 * (gI g 526 14)))]) (M' := gm g) rfl ?_
  by_cases c1 : zib (gI g 526 14) 5 = true
  case neg => exact nomatch ((if_neg c1).symm.trans h)
  replace h := (if_pos c1).symm.trans h
  refine g_iald rfl (a := 531) rfl c1 ?_
  refine g_run 5 (pc' := 24) (L' := [some (.ref 526), some (.int (((140 * (gI g 526 14)) + (gI g 531 (ix (gI g 526 14)))))), none]) (S' := [.int (-1), .int ((gI g 526 4))]) (M' := gm g) rfl ?_
  refine g_icmp (¬ (gI g 526 4) = (-1)) rfl (t := 40) rfl rfl (fun c2 => ?_) (fun c2 => ?_)
  · replace h := (if_pos c2).symm.trans h
    exact p_X12_clause_40 hD ((140 * (gI g 526 14)) + (gI g 531 (ix (gI g 526 14)))) g _ h
  · replace h := (if_neg c2).symm.trans h
    refine g_run 1 (pc' := 28) (L' := [some (.ref 526), some (.int (((140 * (gI g 526 14)) + (gI g 531 (ix (gI g 526 14)))))), none]) (S' := [.ref 526]) (M' := gm g) rfl ?_
    replace h := zB_of h
    obtain ⟨v3, g4, e5, h⟩ := h
    refine g_inv2 (kd := 1) (p_X12_look  e5) rfl rfl rfl (by decide) rfl rfl rfl rfl (by omega) (pc' := 31) rfl (S' := [.int v3]) rfl ?_
    refine g_run 1 (pc' := 33) (L' := [some (.ref 526), some (.int (((140 * (gI g 526 14)) + (gI g 531 (ix (gI g 526 14)))))), none]) (S' := [.int 121, .int v3]) (M' := gm g4) rfl ?_
    refine g_icmp (v3 = 121) rfl (t := 40) rfl rfl (fun c6 => ?_) (fun c6 => ?_)
    · replace h := (if_pos c6).symm.trans h
      exact p_X12_clause_40 hD ((140 * (gI g 526 14)) + (gI g 531 (ix (gI g 526 14)))) g4 _ h
    · replace h := (if_neg c6).symm.trans h
      refine g_run 1 (pc' := 37) (L' := [some (.ref 526), some (.int (((140 * (gI g 526 14)) + (gI g 531 (ix (gI g 526 14)))))), none]) (S' := [.ref 526]) (M' := gm g4) rfl ?_
      replace h := zB_of h
      obtain ⟨v7, g8, e9, h⟩ := h
      refine g_inv2 (kd := 1) (p_X12_bad  e9) rfl rfl rfl (by decide) rfl rfl rfl rfl (by omega) (pc' := 40) rfl (S' := []) rfl ?_
      exact p_X12_clause_40 hD ((140 * (gI g 526 14)) + (gI g 531 (ix (gI g 526 14)))) g8 _ h
def f_X12_open (x1 : Int32) (g : zSg) : Option (Unit × zSg) := (if zib x1 5 = true then (if zib x1 5 = true then some ((), (gsI (gsI (gsI (gsI (gsI (gsI g 526 14 x1) 526 3 0) 526 4 (-1)) 526 5 0) (530) (ix x1) 0) (531) (ix x1) 0)) else none) else none)
set_option maxRecDepth 100000 in
set_option maxHeartbeats 4000000 in
theorem p_X12_open {sc : zSc} {hp : zHp} {x1 : Int32} {g : zSg} {r : Unit × zSg} (h : f_X12_open x1 g = some r) : zRn sc hp 0 zM_X12_open [.ref 526, .int x1] (gm g) none (gm r.2) := by
  intro d hD
  show zG _ sc hp (zcd zM_X12_open) 0 [some (.ref 526), some (.int x1)] [] (gm g) _
  unfold f_X12_open at h
  refine g_run 16 (pc' := 26) (L' := [some (.ref 526), some (.int x1)]) (S' := [.int 0, .int x1, .ref 530]) (M' := gm (gsI (gsI (gsI (gsI g 526 14 x1) 526 3 0) 526 4 (-1)) 526 5 0)) rfl ?_
  by_cases c1 : zib x1 5 = true
  case neg => exact nomatch ((if_neg c1).symm.trans h)
  replace h := (if_pos c1).symm.trans h
  refine g_iast rfl (a := 530) rfl c1 ?_
  refine g_run 4 (pc' := 33) (L' := [some (.ref 526), some (.int x1)]) (S' := [.int 0, .int x1, .ref 531]) (M' := gm (gsI (gsI (gsI (gsI (gsI g 526 14 x1) 526 3 0) 526 4 (-1)) 526 5 0) (530) (ix x1) 0)) rfl ?_
  by_cases c2 : zib x1 5 = true
  case neg => exact nomatch ((if_neg c2).symm.trans h)
  replace h := (if_pos c2).symm.trans h
  refine g_iast rfl (a := 531) rfl c2 ?_
  cases h
  exact g_ret rfl rfl rfl rfl
def f_X12_atEnd_20 (g : zSg) : Option (Int32 × zSg) := some ((gI g 526 4), g)
set_option maxRecDepth 100000 in
set_option maxHeartbeats 4000000 in
theorem p_X12_atEnd_20 {sc : zSc} {hp : zHp} {d : Nat} (hD : 2 ≤ d) (g : zSg) (r : Int32 × zSg) (h : f_X12_atEnd_20 g = some r) : zG d sc hp (zcd zM_X12_atEnd) 20 [some (.ref 526)] [] (gm g) ((some (.int r.1)), gm r.2) := by
  obtain ⟨d, rfl⟩ : ∃ d', d = d' + 1 := ⟨d - 1, by omega⟩
  unfold f_X12_atEnd_20 at h
  refine g_run 2 (pc' := 24) (L' := [some (.ref 526)]) (S' := [.int ((gI g 526 4))]) (M' := gm g) rfl ?_
  cases h
  exact g_ret rfl rfl rfl rfl
def f_X12_atEnd (g : zSg) : Option (Int32 × zSg) := (if ¬ (gI g 526 4) = (-1) then f_X12_atEnd_20 g else (zB (f_X12_look g) (fun v2 g3 => (if v2 = (-1) then f_X12_atEnd_20 g3 else (zB (f_X12_bad g3) (fun v6 g7 => f_X12_atEnd_20 g7))))))
set_option maxRecDepth 100000 in
set_option maxHeartbeats 4000000 in
theorem p_X12_atEnd {sc : zSc} {hp : zHp} {g : zSg} {r : Int32 × zSg} (h : f_X12_atEnd g = some r) : zRn sc hp 2 zM_X12_atEnd [.ref 526] (gm g) (some (.int r.1)) (gm r.2) := by
  intro d hD
  obtain ⟨d, rfl⟩ : ∃ d', d = d' + 1 := ⟨d - 1, by omega⟩
  show zG _ sc hp (zcd zM_X12_atEnd) 0 [some (.ref 526)] [] (gm g) _
  unfold f_X12_atEnd at h
  refine g_run 3 (pc' := 5) (L' := [some (.ref 526)]) (S' := [.int (-1), .int ((gI g 526 4))]) (M' := gm g) rfl ?_
  refine g_icmp (¬ (gI g 526 4) = (-1)) rfl (t := 20) rfl rfl (fun c1 => ?_) (fun c1 => ?_)
  · replace h := (if_pos c1).symm.trans h
    exact p_X12_atEnd_20 hD g _ h
  · replace h := (if_neg c1).symm.trans h
    refine g_run 1 (pc' := 9) (L' := [some (.ref 526)]) (S' := [.ref 526]) (M' := gm g) rfl ?_
    replace h := zB_of h
    obtain ⟨v2, g3, e4, h⟩ := h
    refine g_inv2 (kd := 1) (p_X12_look  e4) rfl rfl rfl (by decide) rfl rfl rfl rfl (by omega) (pc' := 12) rfl (S' := [.int v2]) rfl ?_
    refine g_run 1 (pc' := 13) (L' := [some (.ref 526)]) (S' := [.int (-1), .int v2]) (M' := gm g3) rfl ?_
    refine g_icmp (v2 = (-1)) rfl (t := 20) rfl rfl (fun c5 => ?_) (fun c5 => ?_)
    · replace h := (if_pos c5).symm.trans h
      exact p_X12_atEnd_20 hD g3 _ h
    · replace h := (if_neg c5).symm.trans h
      refine g_run 1 (pc' := 17) (L' := [some (.ref 526)]) (S' := [.ref 526]) (M' := gm g3) rfl ?_
      replace h := zB_of h
      obtain ⟨v6, g7, e8, h⟩ := h
      refine g_inv2 (kd := 1) (p_X12_bad  e8) rfl rfl rfl (by decide) rfl rfl rfl rfl (by omega) (pc' := 20) rfl (S' := []) rfl ?_
      exact p_X12_atEnd_20 hD g7 _ h
def f_X12_readLaw_43 (g : zSg) : Option (Int32 × zSg) := (zB (f_X12_atEnd g) (fun v1 g2 => some (v1, g2)))
set_option maxRecDepth 100000 in
set_option maxHeartbeats 4000000 in
theorem p_X12_readLaw_43 {sc : zSc} {hp : zHp} {d : Nat} (hD : 185 ≤ d) (g : zSg) (r : Int32 × zSg) (h : f_X12_readLaw_43 g = some r) : zG d sc hp (zcd zM_X12_readLaw) 43 [some (.ref 526), none] [] (gm g) ((some (.int r.1)), gm r.2) := by
  obtain ⟨d, rfl⟩ : ∃ d', d = d' + 1 := ⟨d - 1, by omega⟩
  unfold f_X12_readLaw_43 at h
  refine g_run 1 (pc' := 44) (L' := [some (.ref 526), none]) (S' := [.ref 526]) (M' := gm g) rfl ?_
  replace h := zB_of h
  obtain ⟨v1, g2, e3, h⟩ := h
  refine g_inv2 (kd := 1) (p_X12_atEnd  e3) rfl rfl rfl (by decide) rfl rfl rfl rfl (by omega) (pc' := 47) rfl (S' := [.int v1]) rfl ?_
  cases h
  exact g_ret rfl rfl rfl rfl
def fb_X12_readLaw_9 (kk : zSg → Option (Int32 × zSg)) (g : zSg) : Option (Int32 × zSg) := (if ¬ (gI g 526 4) = (-1) then f_X12_readLaw_43 g else (zB (f_X12_look g) (fun v2 g3 => (if ¬ v2 = 59 then f_X12_readLaw_43 g3 else (zB (f_X12_clause (gsI g3 526 3 ((gI g3 526 3) + 1))) (fun v6 g7 => kk g7))))))
def f_X12_readLaw_9 : Nat → zSg → Option (Int32 × zSg)
  | 0, _ => none
  | n + 1, g => fb_X12_readLaw_9 (f_X12_readLaw_9 n) g
set_option maxRecDepth 100000 in
set_option maxHeartbeats 4000000 in
theorem p_X12_readLaw_9 {sc : zSc} {hp : zHp} {d : Nat} (hD : 185 ≤ d) : ∀ (n : Nat) (g : zSg) (r : Int32 × zSg), f_X12_readLaw_9 n g = some r → zG d sc hp (zcd zM_X12_readLaw) 9 [some (.ref 526), none] [] (gm g) ((some (.int r.1)), gm r.2) := by
  obtain ⟨d, rfl⟩ : ∃ d', d = d' + 1 := ⟨d - 1, by omega⟩
  intro n
  induction n with
  | zero => intro g r h; cases h
  | succ n ih =>
    intro g r h
    replace h : fb_X12_readLaw_9 (f_X12_readLaw_9 n) g = some r := h
    unfold fb_X12_readLaw_9 at h
    refine g_run 3 (pc' := 14) (L' := [some (.ref 526), none]) (S' := [.int (-1), .int ((gI g 526 4))]) (M' := gm g) rfl ?_
    refine g_icmp (¬ (gI g 526 4) = (-1)) rfl (t := 43) rfl rfl (fun c1 => ?_) (fun c1 => ?_)
    · replace h := (if_pos c1).symm.trans h
      exact p_X12_readLaw_43 hD g _ h
    · replace h := (if_neg c1).symm.trans h
      refine g_run 1 (pc' := 18) (L' := [some (.ref 526), none]) (S' := [.ref 526]) (M' := gm g) rfl ?_
      replace h := zB_of h
      obtain ⟨v2, g3, e4, h⟩ := h
      refine g_inv2 (kd := 1) (p_X12_look  e4) rfl rfl rfl (by decide) rfl rfl rfl rfl (by omega) (pc' := 21) rfl (S' := [.int v2]) rfl ?_
      refine g_run 1 (pc' := 23) (L' := [some (.ref 526), none]) (S' := [.int 59, .int v2]) (M' := gm g3) rfl ?_
      refine g_icmp (¬ v2 = 59) rfl (t := 43) rfl rfl (fun c5 => ?_) (fun c5 => ?_)
      · replace h := (if_pos c5).symm.trans h
        exact p_X12_readLaw_43 hD g3 _ h
      · replace h := (if_neg c5).symm.trans h
        refine g_run 7 (pc' := 37) (L' := [some (.ref 526), none]) (S' := [.ref 526]) (M' := gm (gsI g3 526 3 ((gI g3 526 3) + 1))) rfl ?_
        replace h := zB_of h
        obtain ⟨v6, g7, e8, h⟩ := h
        refine g_inv2 (kd := 1) (p_X12_clause  e8) rfl rfl rfl (by decide) rfl rfl rfl rfl (by omega) (pc' := 40) rfl (S' := []) rfl ?_
        refine g_run 1 (pc' := 9) (L' := [some (.ref 526), none]) (S' := []) (M' := gm g7) rfl ?_
        exact ih g7 _ h
def f_X12_readLaw (x1 : Int32) (g : zSg) : Option (Int32 × zSg) := (zB (f_X12_open x1 g) (fun v1 g2 => (zB (f_X12_clause g2) (fun v4 g5 => f_X12_readLaw_9 zFu g5))))
set_option maxRecDepth 100000 in
set_option maxHeartbeats 4000000 in
theorem p_X12_readLaw {sc : zSc} {hp : zHp} {x1 : Int32} {g : zSg} {r : Int32 × zSg} (h : f_X12_readLaw x1 g = some r) : zRn sc hp 185 zM_X12_readLaw [.ref 526, .int x1] (gm g) (some (.int r.1)) (gm r.2) := by
  intro d hD
  obtain ⟨d, rfl⟩ : ∃ d', d = d' + 1 := ⟨d - 1, by omega⟩
  show zG _ sc hp (zcd zM_X12_readLaw) 0 [some (.ref 526), some (.int x1)] [] (gm g) _
  unfold f_X12_readLaw at h
  refine g_run 2 (pc' := 2) (L' := [some (.ref 526), some (.int x1)]) (S' := [.int x1, .ref 526]) (M' := gm g) rfl ?_
  replace h := zB_of h
  obtain ⟨v1, g2, e3, h⟩ := h
  refine g_inv2 (kd := 1) (p_X12_open  e3) rfl rfl rfl (by decide) rfl rfl rfl rfl (by omega) (pc' := 5) rfl (S' := []) rfl ?_
  refine g_run 1 (pc' := 6) (L' := [some (.ref 526), some (.int x1)]) (S' := [.ref 526]) (M' := gm g2) rfl ?_
  replace h := zB_of h
  obtain ⟨v4, g5, e6, h⟩ := h
  refine g_inv2 (kd := 1) (p_X12_clause  e6) rfl rfl rfl (by decide) rfl rfl rfl rfl (by omega) (pc' := 9) rfl (S' := []) rfl ?_
  refine g_forget (L' := [some (.ref 526), none]) (And.intro rfl True.intro) ?_
  exact p_X12_readLaw_9 hD zFu g5 _ h
def f_X12_bounded (x1 : Int64) (g : zSg) : Option (Int32 × zSg) := some (((lmax (-1000000) (lmin 1000000 x1))).toInt32, g)
set_option maxRecDepth 100000 in
set_option maxHeartbeats 4000000 in
theorem p_X12_bounded {sc : zSc} {hp : zHp} {x1 : Int64} {g : zSg} {r : Int32 × zSg} (h : f_X12_bounded x1 g = some r) : zRn sc hp 1 zM_X12_bounded [.long (x1)] (gm g) (some (.int r.1)) (gm r.2) := by
  intro d hD
  obtain ⟨d, rfl⟩ : ∃ d', d = d' + 1 := ⟨d - 1, by omega⟩
  show zG _ sc hp (zcd zM_X12_bounded) 0 [some (.long (x1)), none] [] (gm g) _
  unfold f_X12_bounded at h
  refine g_run 3 (pc' := 7) (L' := [some (.long (x1)), none]) (S' := [.long (x1), .long (1000000), .long ((-1000000))]) (M' := gm g) rfl ?_
  refine g_spec2 (kd := 0) rfl rfl rfl (by decide) rfl (jd := 1004) rfl (by decide) rfl (Or.inl (by decide)) (S' := [.long ((lmin 1000000 x1)), .long ((-1000000))]) (M' := gm g) rfl rfl (pc' := 10) rfl ?_
  refine g_spec2 (kd := 0) rfl rfl rfl (by decide) rfl (jd := 1005) rfl (by decide) rfl (Or.inl (by decide)) (S' := [.long ((lmax (-1000000) (lmin 1000000 x1)))]) (M' := gm g) rfl rfl (pc' := 13) rfl ?_
  refine g_run 1 (pc' := 14) (L' := [some (.long (x1)), none]) (S' := [.int (((lmax (-1000000) (lmin 1000000 x1))).toInt32)]) (M' := gm g) rfl ?_
  cases h
  exact g_ret rfl rfl rfl rfl
def f_X12_worked (x1 : Int32) (x2 : Int64) (x3 : Int64) (g : zSg) : Option (Int32 × zSg) := (if x1 = 2 then (zB (f_X12_bounded (x2 + x3) g) (fun v2 g3 => some (v2, g3))) else (if x1 = 3 then (zB (f_X12_bounded (x2 - x3) g) (fun v6 g7 => some (v6, g7))) else (if x1 = 4 then (zB (f_X12_bounded (x2 * x3) g) (fun v10 g11 => some (v10, g11))) else (if x1 = 5 then (if ¬ (lg_cmp x3 0) = 0 then (if x3 = 0 then none else (zB (f_X12_bounded (x2 / x3) g) (fun v16 g17 => some (v16, g17)))) else some (0, g)) else (if x1 = 6 then (if ¬ (lg_cmp x2 x3) = 0 then some (0, g) else some (1, g)) else (if x1 = 7 then (if 0 ≤ (lg_cmp x2 x3) then some (0, g) else some (1, g)) else (if x1 = 8 then (if (lg_cmp x2 x3) ≤ 0 then some (0, g) else some (1, g)) else (if x1 = 9 then (if ¬ (lg_cmp x2 0) = 0 then some (1, g) else (if (lg_cmp x3 0) = 0 then some (0, g) else some (1, g))) else (if x1 = 10 then (if (lg_cmp x2 0) = 0 then some (0, g) else (if (lg_cmp x3 0) = 0 then some (0, g) else some (1, g))) else (if ¬ (lg_cmp x2 0) = 0 then some (1, g) else (if (lg_cmp x3 0) = 0 then some (0, g) else some (1, g))))))))))))
set_option maxRecDepth 100000 in
set_option maxHeartbeats 4000000 in
theorem p_X12_worked {sc : zSc} {hp : zHp} {x1 : Int32} {x2 : Int64} {x3 : Int64} {g : zSg} {r : Int32 × zSg} (h : f_X12_worked x1 x2 x3 g = some r) : zRn sc hp 2 zM_X12_worked [.int x1, .long (x2), .long (x3)] (gm g) (some (.int r.1)) (gm r.2) := by
  intro d hD
  obtain ⟨d, rfl⟩ : ∃ d', d = d' + 1 := ⟨d - 1, by omega⟩
  show zG _ sc hp (zcd zM_X12_worked) 0 [some (.int x1), some (.long (x2)), none, some (.long (x3)), none] [] (gm g) _
  unfold f_X12_worked at h
  refine g_run 1 (pc' := 1) (L' := [some (.int x1), some (.long (x2)), none, some (.long (x3)), none]) (S' := [.int x1]) (M' := gm g) rfl ?_
  by_cases c1 : x1 = 2
  · replace h := (if_pos c1).symm.trans h
    refine g_swc c1 rfl rfl rfl (pc' := 52) rfl ?_
    refine g_run 3 (pc' := 55) (L' := [some (.int x1), some (.long (x2)), none, some (.long (x3)), none]) (S' := [.long ((x2 + x3))]) (M' := gm g) rfl ?_
    replace h := zB_of h
    obtain ⟨v2, g3, e4, h⟩ := h
    refine g_inv2 (kd := 0) (p_X12_bounded  e4) rfl rfl rfl (by decide) rfl rfl rfl rfl (by omega) (pc' := 58) rfl (S' := [.int v2]) rfl ?_
    cases h
    exact g_ret rfl rfl rfl rfl
  replace h := (if_neg c1).symm.trans h
  by_cases c5 : x1 = 3
  · replace h := (if_pos c5).symm.trans h
    refine g_swc c5 rfl rfl rfl (pc' := 59) rfl ?_
    refine g_run 3 (pc' := 62) (L' := [some (.int x1), some (.long (x2)), none, some (.long (x3)), none]) (S' := [.long ((x2 - x3))]) (M' := gm g) rfl ?_
    replace h := zB_of h
    obtain ⟨v6, g7, e8, h⟩ := h
    refine g_inv2 (kd := 0) (p_X12_bounded  e8) rfl rfl rfl (by decide) rfl rfl rfl rfl (by omega) (pc' := 65) rfl (S' := [.int v6]) rfl ?_
    cases h
    exact g_ret rfl rfl rfl rfl
  replace h := (if_neg c5).symm.trans h
  by_cases c9 : x1 = 4
  · replace h := (if_pos c9).symm.trans h
    refine g_swc c9 rfl rfl rfl (pc' := 66) rfl ?_
    refine g_run 3 (pc' := 69) (L' := [some (.int x1), some (.long (x2)), none, some (.long (x3)), none]) (S' := [.long ((x2 * x3))]) (M' := gm g) rfl ?_
    replace h := zB_of h
    obtain ⟨v10, g11, e12, h⟩ := h
    refine g_inv2 (kd := 0) (p_X12_bounded  e12) rfl rfl rfl (by decide) rfl rfl rfl rfl (by omega) (pc' := 72) rfl (S' := [.int v10]) rfl ?_
    cases h
    exact g_ret rfl rfl rfl rfl
  replace h := (if_neg c9).symm.trans h
  by_cases c13 : x1 = 5
  · replace h := (if_pos c13).symm.trans h
    refine g_swc c13 rfl rfl rfl (pc' := 73) rfl ?_
    refine g_run 3 (pc' := 76) (L' := [some (.int x1), some (.long (x2)), none, some (.long (x3)), none]) (S' := [.int ((lg_cmp x3 0))]) (M' := gm g) rfl ?_
    refine g_if (¬ (lg_cmp x3 0) = 0) rfl (t := 83) rfl rfl (fun c14 => ?_) (fun c14 => ?_)
    · replace h := (if_pos c14).symm.trans h
      refine g_run 2 (pc' := 85) (L' := [some (.int x1), some (.long (x2)), none, some (.long (x3)), none]) (S' := [.long (x3), .long (x2)]) (M' := gm g) rfl ?_
      by_cases c15 : x3 = 0
      case pos => exact nomatch ((if_pos c15).symm.trans h)
      replace h := (if_neg c15).symm.trans h
      refine g_ldiv rfl c15 ?_
      replace h := zB_of h
      obtain ⟨v16, g17, e18, h⟩ := h
      refine g_inv2 (kd := 0) (p_X12_bounded  e18) rfl rfl rfl (by decide) rfl rfl rfl rfl (by omega) (pc' := 89) rfl (S' := [.int v16]) rfl ?_
      cases h
      exact g_ret rfl rfl rfl rfl
    · replace h := (if_neg c14).symm.trans h
      refine g_run 2 (pc' := 89) (L' := [some (.int x1), some (.long (x2)), none, some (.long (x3)), none]) (S' := [.int 0]) (M' := gm g) rfl ?_
      cases h
      exact g_ret rfl rfl rfl rfl
  replace h := (if_neg c13).symm.trans h
  by_cases c19 : x1 = 6
  · replace h := (if_pos c19).symm.trans h
    refine g_swc c19 rfl rfl rfl (pc' := 90) rfl ?_
    refine g_run 3 (pc' := 93) (L' := [some (.int x1), some (.long (x2)), none, some (.long (x3)), none]) (S' := [.int ((lg_cmp x2 x3))]) (M' := gm g) rfl ?_
    refine g_if (¬ (lg_cmp x2 x3) = 0) rfl (t := 100) rfl rfl (fun c20 => ?_) (fun c20 => ?_)
    · replace h := (if_pos c20).symm.trans h
      refine g_run 1 (pc' := 101) (L' := [some (.int x1), some (.long (x2)), none, some (.long (x3)), none]) (S' := [.int 0]) (M' := gm g) rfl ?_
      cases h
      exact g_ret rfl rfl rfl rfl
    · replace h := (if_neg c20).symm.trans h
      refine g_run 2 (pc' := 101) (L' := [some (.int x1), some (.long (x2)), none, some (.long (x3)), none]) (S' := [.int 1]) (M' := gm g) rfl ?_
      cases h
      exact g_ret rfl rfl rfl rfl
  replace h := (if_neg c19).symm.trans h
  by_cases c21 : x1 = 7
  · replace h := (if_pos c21).symm.trans h
    refine g_swc c21 rfl rfl rfl (pc' := 102) rfl ?_
    refine g_run 3 (pc' := 105) (L' := [some (.int x1), some (.long (x2)), none, some (.long (x3)), none]) (S' := [.int ((lg_cmp x2 x3))]) (M' := gm g) rfl ?_
    refine g_if (0 ≤ (lg_cmp x2 x3)) rfl (t := 112) rfl rfl (fun c22 => ?_) (fun c22 => ?_)
    · replace h := (if_pos c22).symm.trans h
      refine g_run 1 (pc' := 113) (L' := [some (.int x1), some (.long (x2)), none, some (.long (x3)), none]) (S' := [.int 0]) (M' := gm g) rfl ?_
      cases h
      exact g_ret rfl rfl rfl rfl
    · replace h := (if_neg c22).symm.trans h
      refine g_run 2 (pc' := 113) (L' := [some (.int x1), some (.long (x2)), none, some (.long (x3)), none]) (S' := [.int 1]) (M' := gm g) rfl ?_
      cases h
      exact g_ret rfl rfl rfl rfl
  replace h := (if_neg c21).symm.trans h
  by_cases c23 : x1 = 8
  · replace h := (if_pos c23).symm.trans h
    refine g_swc c23 rfl rfl rfl (pc' := 114) rfl ?_
    refine g_run 3 (pc' := 117) (L' := [some (.int x1), some (.long (x2)), none, some (.long (x3)), none]) (S' := [.int ((lg_cmp x2 x3))]) (M' := gm g) rfl ?_
    refine g_if ((lg_cmp x2 x3) ≤ 0) rfl (t := 124) rfl rfl (fun c24 => ?_) (fun c24 => ?_)
    · replace h := (if_pos c24).symm.trans h
      refine g_run 1 (pc' := 125) (L' := [some (.int x1), some (.long (x2)), none, some (.long (x3)), none]) (S' := [.int 0]) (M' := gm g) rfl ?_
      cases h
      exact g_ret rfl rfl rfl rfl
    · replace h := (if_neg c24).symm.trans h
      refine g_run 2 (pc' := 125) (L' := [some (.int x1), some (.long (x2)), none, some (.long (x3)), none]) (S' := [.int 1]) (M' := gm g) rfl ?_
      cases h
      exact g_ret rfl rfl rfl rfl
  replace h := (if_neg c23).symm.trans h
  by_cases c25 : x1 = 9
  · replace h := (if_pos c25).symm.trans h
    refine g_swc c25 rfl rfl rfl (pc' := 144) rfl ?_
    refine g_run 3 (pc' := 147) (L' := [some (.int x1), some (.long (x2)), none, some (.long (x3)), none]) (S' := [.int ((lg_cmp x2 0))]) (M' := gm g) rfl ?_
    refine g_if (¬ (lg_cmp x2 0) = 0) rfl (t := 156) rfl rfl (fun c26 => ?_) (fun c26 => ?_)
    · replace h := (if_pos c26).symm.trans h
      refine g_run 2 (pc' := 161) (L' := [some (.int x1), some (.long (x2)), none, some (.long (x3)), none]) (S' := [.int 1]) (M' := gm g) rfl ?_
      cases h
      exact g_ret rfl rfl rfl rfl
    · replace h := (if_neg c26).symm.trans h
      refine g_run 3 (pc' := 153) (L' := [some (.int x1), some (.long (x2)), none, some (.long (x3)), none]) (S' := [.int ((lg_cmp x3 0))]) (M' := gm g) rfl ?_
      refine g_if ((lg_cmp x3 0) = 0) rfl (t := 160) rfl rfl (fun c27 => ?_) (fun c27 => ?_)
      · replace h := (if_pos c27).symm.trans h
        refine g_run 1 (pc' := 161) (L' := [some (.int x1), some (.long (x2)), none, some (.long (x3)), none]) (S' := [.int 0]) (M' := gm g) rfl ?_
        cases h
        exact g_ret rfl rfl rfl rfl
      · replace h := (if_neg c27).symm.trans h
        refine g_run 2 (pc' := 161) (L' := [some (.int x1), some (.long (x2)), none, some (.long (x3)), none]) (S' := [.int 1]) (M' := gm g) rfl ?_
        cases h
        exact g_ret rfl rfl rfl rfl
  replace h := (if_neg c25).symm.trans h
  by_cases c28 : x1 = 10
  · replace h := (if_pos c28).symm.trans h
    refine g_swc c28 rfl rfl rfl (pc' := 126) rfl ?_
    refine g_run 3 (pc' := 129) (L' := [some (.int x1), some (.long (x2)), none, some (.long (x3)), none]) (S' := [.int ((lg_cmp x2 0))]) (M' := gm g) rfl ?_
    refine g_if ((lg_cmp x2 0) = 0) rfl (t := 142) rfl rfl (fun c29 => ?_) (fun c29 => ?_)
    · replace h := (if_pos c29).symm.trans h
      refine g_run 1 (pc' := 143) (L' := [some (.int x1), some (.long (x2)), none, some (.long (x3)), none]) (S' := [.int 0]) (M' := gm g) rfl ?_
      cases h
      exact g_ret rfl rfl rfl rfl
    · replace h := (if_neg c29).symm.trans h
      refine g_run 3 (pc' := 135) (L' := [some (.int x1), some (.long (x2)), none, some (.long (x3)), none]) (S' := [.int ((lg_cmp x3 0))]) (M' := gm g) rfl ?_
      refine g_if ((lg_cmp x3 0) = 0) rfl (t := 142) rfl rfl (fun c30 => ?_) (fun c30 => ?_)
      · replace h := (if_pos c30).symm.trans h
        refine g_run 1 (pc' := 143) (L' := [some (.int x1), some (.long (x2)), none, some (.long (x3)), none]) (S' := [.int 0]) (M' := gm g) rfl ?_
        cases h
        exact g_ret rfl rfl rfl rfl
      · replace h := (if_neg c30).symm.trans h
        refine g_run 2 (pc' := 143) (L' := [some (.int x1), some (.long (x2)), none, some (.long (x3)), none]) (S' := [.int 1]) (M' := gm g) rfl ?_
        cases h
        exact g_ret rfl rfl rfl rfl
  replace h := (if_neg c28).symm.trans h
  have hsw : (x1).toInt < 2 ∨ 10 < (x1).toInt := by
    have nc1 := lv_neT c1 (a := 2) rfl
    have nc5 := lv_neT c5 (a := 3) rfl
    have nc9 := lv_neT c9 (a := 4) rfl
    have nc13 := lv_neT c13 (a := 5) rfl
    have nc19 := lv_neT c19 (a := 6) rfl
    have nc21 := lv_neT c21 (a := 7) rfl
    have nc23 := lv_neT c23 (a := 8) rfl
    have nc25 := lv_neT c25 (a := 9) rfl
    have nc28 := lv_neT c28 (a := 10) rfl
    omega
  refine g_tsd rfl hsw (t := 144) rfl ?_
  refine g_run 3 (pc' := 147) (L' := [some (.int x1), some (.long (x2)), none, some (.long (x3)), none]) (S' := [.int ((lg_cmp x2 0))]) (M' := gm g) rfl ?_
  refine g_if (¬ (lg_cmp x2 0) = 0) rfl (t := 156) rfl rfl (fun c31 => ?_) (fun c31 => ?_)
  · replace h := (if_pos c31).symm.trans h
    refine g_run 2 (pc' := 161) (L' := [some (.int x1), some (.long (x2)), none, some (.long (x3)), none]) (S' := [.int 1]) (M' := gm g) rfl ?_
    cases h
    exact g_ret rfl rfl rfl rfl
  · replace h := (if_neg c31).symm.trans h
    refine g_run 3 (pc' := 153) (L' := [some (.int x1), some (.long (x2)), none, some (.long (x3)), none]) (S' := [.int ((lg_cmp x3 0))]) (M' := gm g) rfl ?_
    refine g_if ((lg_cmp x3 0) = 0) rfl (t := 160) rfl rfl (fun c32 => ?_) (fun c32 => ?_)
    · replace h := (if_pos c32).symm.trans h
      refine g_run 1 (pc' := 161) (L' := [some (.int x1), some (.long (x2)), none, some (.long (x3)), none]) (S' := [.int 0]) (M' := gm g) rfl ?_
      cases h
      exact g_ret rfl rfl rfl rfl
    · replace h := (if_neg c32).symm.trans h
      refine g_run 2 (pc' := 161) (L' := [some (.int x1), some (.long (x2)), none, some (.long (x3)), none]) (S' := [.int 1]) (M' := gm g) rfl ?_
      cases h
      exact g_ret rfl rfl rfl rfl
def f_X12_workOut_171 (g : zSg) : Option (Int32 × zSg) := some ((gI g 536 0), g)
set_option maxRecDepth 100000 in
set_option maxHeartbeats 4000000 in
theorem p_X12_workOut_171 {sc : zSc} {hp : zHp} {d : Nat} (hD : 3 ≤ d) (g : zSg) (r : Int32 × zSg) (h : f_X12_workOut_171 g = some r) : zG d sc hp (zcd zM_X12_workOut) 171 [some (.ref 526), none, none, none, none, none] [] (gm g) ((some (.int r.1)), gm r.2) := by
  obtain ⟨d, rfl⟩ : ∃ d', d = d' + 1 := ⟨d - 1, by omega⟩
  unfold f_X12_workOut_171 at h
  refine g_run 4 (pc' := 177) (L' := [some (.ref 526), none, none, none, none, none]) (S' := [.int ((gI g 536 0))]) (M' := gm g) rfl ?_
  cases h
  exact g_ret rfl rfl rfl rfl
def f_X12_workOut_165 (k12 : Int32 → Int32 → Int32 → Int32 → zSg → Option (Int32 × zSg)) (y1 : Int32) (y3 : Int32) (y4 : Int32) (y5 : Int32) (g : zSg) : Option (Int32 × zSg) := k12 (y1) (y3) (y4) (y5 + 1) g
set_option maxRecDepth 100000 in
set_option maxHeartbeats 4000000 in
theorem p_X12_workOut_165 {sc : zSc} {hp : zHp} {d : Nat} (hD : 3 ≤ d) (k12 : Int32 → Int32 → Int32 → Int32 → zSg → Option (Int32 × zSg)) (hk12 : ∀ (y1 : Int32) (y3 : Int32) (y4 : Int32) (y5 : Int32) (g : zSg) (r : Int32 × zSg), k12 y1 y3 y4 y5 g = some r → zG d sc hp (zcd zM_X12_workOut) 12 [some (.ref 526), some (.int y1), none, some (.int y3), some (.int y4), some (.int y5)] [] (gm g) ((some (.int r.1)), gm r.2)) (y1 : Int32) (y3 : Int32) (y4 : Int32) (y5 : Int32) (g : zSg) (r : Int32 × zSg) (h : f_X12_workOut_165 k12 y1 y3 y4 y5 g = some r) : zG d sc hp (zcd zM_X12_workOut) 165 [some (.ref 526), some (.int y1), none, some (.int y3), some (.int y4), some (.int y5)] [] (gm g) ((some (.int r.1)), gm r.2) := by
  obtain ⟨d, rfl⟩ : ∃ d', d = d' + 1 := ⟨d - 1, by omega⟩
  unfold f_X12_workOut_165 at h
  refine g_run 2 (pc' := 12) (L' := [some (.ref 526), some (.int y1), none, some (.int y3), some (.int y4), some (.int ((y5 + 1)))]) (S' := []) (M' := gm g) rfl ?_
  exact hk12 (y1) (y3) (y4) (y5 + 1) g _ h
def f_X12_workOut_83 (k12 : Int32 → Int32 → Int32 → Int32 → zSg → Option (Int32 × zSg)) (y1 : Int32) (y3 : Int32) (y4 : Int32) (y5 : Int32) (s0 : Int32) (s1 : Int32) (g : zSg) : Option (Int32 × zSg) := (if zib s1 80 = true then f_X12_workOut_165 k12 (y1) (y3) (y4 + 1) (y5) (gsI g (536) (ix s1) s0) else none)
set_option maxRecDepth 100000 in
set_option maxHeartbeats 4000000 in
theorem p_X12_workOut_83 {sc : zSc} {hp : zHp} {d : Nat} (hD : 3 ≤ d) (k12 : Int32 → Int32 → Int32 → Int32 → zSg → Option (Int32 × zSg)) (hk12 : ∀ (y1 : Int32) (y3 : Int32) (y4 : Int32) (y5 : Int32) (g : zSg) (r : Int32 × zSg), k12 y1 y3 y4 y5 g = some r → zG d sc hp (zcd zM_X12_workOut) 12 [some (.ref 526), some (.int y1), none, some (.int y3), some (.int y4), some (.int y5)] [] (gm g) ((some (.int r.1)), gm r.2)) (y1 : Int32) (y3 : Int32) (y4 : Int32) (y5 : Int32) (s0 : Int32) (s1 : Int32) (g : zSg) (r : Int32 × zSg) (h : f_X12_workOut_83 k12 y1 y3 y4 y5 s0 s1 g = some r) : zG d sc hp (zcd zM_X12_workOut) 83 [some (.ref 526), some (.int y1), none, some (.int y3), some (.int y4), some (.int y5)] [.int s0, .int s1, .ref 536] (gm g) ((some (.int r.1)), gm r.2) := by
  obtain ⟨d, rfl⟩ : ∃ d', d = d' + 1 := ⟨d - 1, by omega⟩
  unfold f_X12_workOut_83 at h
  by_cases c1 : zib s1 80 = true
  case neg => exact nomatch ((if_neg c1).symm.trans h)
  replace h := (if_pos c1).symm.trans h
  refine g_iast rfl (a := 536) rfl c1 ?_
  refine g_run 2 (pc' := 165) (L' := [some (.ref 526), some (.int y1), none, some (.int y3), some (.int ((y4 + 1))), some (.int y5)]) (S' := []) (M' := gm (gsI g (536) (ix s1) s0)) rfl ?_
  exact p_X12_workOut_165 hD k12 hk12 (y1) (y3) (y4 + 1) (y5) (gsI g (536) (ix s1) s0) _ h
def f_X12_workOut_45 (k12 : Int32 → Int32 → Int32 → Int32 → zSg → Option (Int32 × zSg)) (y1 : Int32) (y3 : Int32) (y4 : Int32) (y5 : Int32) (g : zSg) : Option (Int32 × zSg) := (if zib y5 2600 = true then (if ¬ (gI g 528 (ix y5)) = 0 then (if zib y5 2600 = true then (if zib (gI g 529 (ix y5)) 6 = true then f_X12_workOut_83 k12 (y1) (y3) (y4) (y5) (gI g 535 (ix (gI g 529 (ix y5)))) (y4) g else none) else none) else (if zib y5 2600 = true then f_X12_workOut_83 k12 (y1) (y3) (y4) (y5) (gI g 529 (ix y5)) (y4) g else none)) else none)
set_option maxRecDepth 100000 in
set_option maxHeartbeats 4000000 in
theorem p_X12_workOut_45 {sc : zSc} {hp : zHp} {d : Nat} (hD : 3 ≤ d) (k12 : Int32 → Int32 → Int32 → Int32 → zSg → Option (Int32 × zSg)) (hk12 : ∀ (y1 : Int32) (y3 : Int32) (y4 : Int32) (y5 : Int32) (g : zSg) (r : Int32 × zSg), k12 y1 y3 y4 y5 g = some r → zG d sc hp (zcd zM_X12_workOut) 12 [some (.ref 526), some (.int y1), none, some (.int y3), some (.int y4), some (.int y5)] [] (gm g) ((some (.int r.1)), gm r.2)) (y1 : Int32) (y3 : Int32) (y4 : Int32) (y5 : Int32) (g : zSg) (r : Int32 × zSg) (h : f_X12_workOut_45 k12 y1 y3 y4 y5 g = some r) : zG d sc hp (zcd zM_X12_workOut) 45 [some (.ref 526), some (.int y1), none, some (.int y3), some (.int y4), some (.int y5)] [] (gm g) ((some (.int r.1)), gm r.2) := by
  obtain ⟨d, rfl⟩ : ∃ d', d = d' + 1 := ⟨d - 1, by omega⟩
  unfold f_X12_workOut_45 at h
  refine g_run 6 (pc' := 57) (L' := [some (.ref 526), some (.int y1), none, some (.int y3), some (.int y4), some (.int y5)]) (S' := [.int y5, .ref 528, .int y4, .ref 536]) (M' := gm g) rfl ?_
  by_cases c1 : zib y5 2600 = true
  case neg => exact nomatch ((if_neg c1).symm.trans h)
  replace h := (if_pos c1).symm.trans h
  refine g_iald rfl (a := 528) rfl c1 ?_
  refine g_if (¬ (gI g 528 (ix y5)) = 0) rfl (t := 71) rfl rfl (fun c2 => ?_) (fun c2 => ?_)
  · replace h := (if_pos c2).symm.trans h
    refine g_run 5 (pc' := 81) (L' := [some (.ref 526), some (.int y1), none, some (.int y3), some (.int y4), some (.int y5)]) (S' := [.int y5, .ref 529, .ref 535, .int y4, .ref 536]) (M' := gm g) rfl ?_
    by_cases c3 : zib y5 2600 = true
    case neg => exact nomatch ((if_neg c3).symm.trans h)
    replace h := (if_pos c3).symm.trans h
    refine g_iald rfl (a := 529) rfl c3 ?_
    by_cases c4 : zib (gI g 529 (ix y5)) 6 = true
    case neg => exact nomatch ((if_neg c4).symm.trans h)
    replace h := (if_pos c4).symm.trans h
    refine g_iald rfl (a := 535) rfl c4 ?_
    exact p_X12_workOut_83 hD k12 hk12 (y1) (y3) (y4) (y5) (gI g 535 (ix (gI g 529 (ix y5)))) (y4) g _ h
  · replace h := (if_neg c2).symm.trans h
    refine g_run 3 (pc' := 67) (L' := [some (.ref 526), some (.int y1), none, some (.int y3), some (.int y4), some (.int y5)]) (S' := [.int y5, .ref 529, .int y4, .ref 536]) (M' := gm g) rfl ?_
    by_cases c5 : zib y5 2600 = true
    case neg => exact nomatch ((if_neg c5).symm.trans h)
    replace h := (if_pos c5).symm.trans h
    refine g_iald rfl (a := 529) rfl c5 ?_
    refine g_run 1 (pc' := 83) (L' := [some (.ref 526), some (.int y1), none, some (.int y3), some (.int y4), some (.int y5)]) (S' := [.int ((gI g 529 (ix y5))), .int y4, .ref 536]) (M' := gm g) rfl ?_
    exact p_X12_workOut_83 hD k12 hk12 (y1) (y3) (y4) (y5) (gI g 529 (ix y5)) (y4) g _ h
def fb_X12_workOut_12 (kk : Int32 → Int32 → Int32 → Int32 → zSg → Option (Int32 × zSg)) (y1 : Int32) (y3 : Int32) (y4 : Int32) (y5 : Int32) (g : zSg) : Option (Int32 × zSg) := (if ((520 * y1) + y3) ≤ y5 then f_X12_workOut_171 g else (if zib y5 2600 = true then (if (gI g 528 (ix y5)) = 0 then f_X12_workOut_45 kk (y1) (y3) (y4) (y5) g else (if zib y5 2600 = true then (if ¬ (gI g 528 (ix y5)) = 1 then (if zib y5 2600 = true then (if ¬ (gI g 528 (ix y5)) = 9 then (if zib y5 2600 = true then (if zib ((y4 + (-1)) - 1) 80 = true then (if zib (y4 + (-1)) 80 = true then (zB (f_X12_worked (gI g 528 (ix y5)) (((gI g 536 (ix ((y4 + (-1)) - 1)))).toInt64) (((gI g 536 (ix (y4 + (-1))))).toInt64) g) (fun v11 g12 => (if zib ((y4 + (-1)) - 1) 80 = true then f_X12_workOut_165 kk (y1) (y3) (y4 + (-1)) (y5) (gsI g12 (536) (ix ((y4 + (-1)) - 1)) v11) else none))) else none) else none) else none) else (if zib (y4 - 1) 80 = true then (if zib (y4 - 1) 80 = true then f_X12_workOut_165 kk (y1) (y3) (y4) (y5) (gsI g (536) (ix (y4 - 1)) (1 - (gI g 536 (ix (y4 - 1))))) else none) else none)) else none) else f_X12_workOut_45 kk (y1) (y3) (y4) (y5) g) else none)) else none))
def f_X12_workOut_12 : Nat → Int32 → Int32 → Int32 → Int32 → zSg → Option (Int32 × zSg)
  | 0, _, _, _, _, _ => none
  | n + 1, y1, y3, y4, y5, g => fb_X12_workOut_12 (f_X12_workOut_12 n) y1 y3 y4 y5 g
set_option maxRecDepth 100000 in
set_option maxHeartbeats 4000000 in
theorem p_X12_workOut_12 {sc : zSc} {hp : zHp} {d : Nat} (hD : 3 ≤ d) : ∀ (n : Nat) (y1 : Int32) (y3 : Int32) (y4 : Int32) (y5 : Int32) (g : zSg) (r : Int32 × zSg), f_X12_workOut_12 n y1 y3 y4 y5 g = some r → zG d sc hp (zcd zM_X12_workOut) 12 [some (.ref 526), some (.int y1), none, some (.int y3), some (.int y4), some (.int y5)] [] (gm g) ((some (.int r.1)), gm r.2) := by
  obtain ⟨d, rfl⟩ : ∃ d', d = d' + 1 := ⟨d - 1, by omega⟩
  intro n
  induction n with
  | zero => intro y1 y3 y4 y5 g r h; cases h
  | succ n ih =>
    intro y1 y3 y4 y5 g r h
    replace h : fb_X12_workOut_12 (f_X12_workOut_12 n) y1 y3 y4 y5 g = some r := h
    unfold fb_X12_workOut_12 at h
    refine g_run 6 (pc' := 21) (L' := [some (.ref 526), some (.int y1), none, some (.int y3), some (.int y4), some (.int y5)]) (S' := [.int (((520 * y1) + y3)), .int y5]) (M' := gm g) rfl ?_
    refine g_icmp (((520 * y1) + y3) ≤ y5) rfl (t := 171) rfl rfl (fun c1 => ?_) (fun c1 => ?_)
    · replace h := (if_pos c1).symm.trans h
      refine g_forget (L' := [some (.ref 526), none, none, none, none, none]) (And.intro rfl True.intro) ?_
      exact p_X12_workOut_171 hD g _ h
    · replace h := (if_neg c1).symm.trans h
      refine g_run 3 (pc' := 30) (L' := [some (.ref 526), some (.int y1), none, some (.int y3), some (.int y4), some (.int y5)]) (S' := [.int y5, .ref 528]) (M' := gm g) rfl ?_
      by_cases c2 : zib y5 2600 = true
      case neg => exact nomatch ((if_neg c2).symm.trans h)
      replace h := (if_pos c2).symm.trans h
      refine g_iald rfl (a := 528) rfl c2 ?_
      refine g_if ((gI g 528 (ix y5)) = 0) rfl (t := 45) rfl rfl (fun c3 => ?_) (fun c3 => ?_)
      · replace h := (if_pos c3).symm.trans h
        exact p_X12_workOut_45 hD (f_X12_workOut_12 n) ih (y1) (y3) (y4) (y5) g _ h
      · replace h := (if_neg c3).symm.trans h
        refine g_run 3 (pc' := 40) (L' := [some (.ref 526), some (.int y1), none, some (.int y3), some (.int y4), some (.int y5)]) (S' := [.int y5, .ref 528]) (M' := gm g) rfl ?_
        by_cases c4 : zib y5 2600 = true
        case neg => exact nomatch ((if_neg c4).symm.trans h)
        replace h := (if_pos c4).symm.trans h
        refine g_iald rfl (a := 528) rfl c4 ?_
        refine g_run 1 (pc' := 42) (L' := [some (.ref 526), some (.int y1), none, some (.int y3), some (.int y4), some (.int y5)]) (S' := [.int 1, .int ((gI g 528 (ix y5)))]) (M' := gm g) rfl ?_
        refine g_icmp (¬ (gI g 528 (ix y5)) = 1) rfl (t := 90) rfl rfl (fun c5 => ?_) (fun c5 => ?_)
        · replace h := (if_pos c5).symm.trans h
          refine g_run 3 (pc' := 96) (L' := [some (.ref 526), some (.int y1), none, some (.int y3), some (.int y4), some (.int y5)]) (S' := [.int y5, .ref 528]) (M' := gm g) rfl ?_
          by_cases c6 : zib y5 2600 = true
          case neg => exact nomatch ((if_neg c6).symm.trans h)
          replace h := (if_pos c6).symm.trans h
          refine g_iald rfl (a := 528) rfl c6 ?_
          refine g_run 1 (pc' := 99) (L' := [some (.ref 526), some (.int y1), none, some (.int y3), some (.int y4), some (.int y5)]) (S' := [.int 9, .int ((gI g 528 (ix y5)))]) (M' := gm g) rfl ?_
          refine g_icmp (¬ (gI g 528 (ix y5)) = 9) rfl (t := 125) rfl rfl (fun c7 => ?_) (fun c7 => ?_)
          · replace h := (if_pos c7).symm.trans h
            refine g_run 9 (pc' := 142) (L' := [some (.ref 526), some (.int y1), none, some (.int y3), some (.int ((y4 + (-1)))), some (.int y5)]) (S' := [.int y5, .ref 528, .int (((y4 + (-1)) - 1)), .ref 536]) (M' := gm g) rfl ?_
            by_cases c8 : zib y5 2600 = true
            case neg => exact nomatch ((if_neg c8).symm.trans h)
            replace h := (if_pos c8).symm.trans h
            refine g_iald rfl (a := 528) rfl c8 ?_
            refine g_run 5 (pc' := 151) (L' := [some (.ref 526), some (.int y1), none, some (.int y3), some (.int ((y4 + (-1)))), some (.int y5)]) (S' := [.int (((y4 + (-1)) - 1)), .ref 536, .int ((gI g 528 (ix y5))), .int (((y4 + (-1)) - 1)), .ref 536]) (M' := gm g) rfl ?_
            by_cases c9 : zib ((y4 + (-1)) - 1) 80 = true
            case neg => exact nomatch ((if_neg c9).symm.trans h)
            replace h := (if_pos c9).symm.trans h
            refine g_iald rfl (a := 536) rfl c9 ?_
            refine g_run 4 (pc' := 159) (L' := [some (.ref 526), some (.int y1), none, some (.int y3), some (.int ((y4 + (-1)))), some (.int y5)]) (S' := [.int ((y4 + (-1))), .ref 536, .long (((gI g 536 (ix ((y4 + (-1)) - 1)))).toInt64), .int ((gI g 528 (ix y5))), .int (((y4 + (-1)) - 1)), .ref 536]) (M' := gm g) rfl ?_
            by_cases c10 : zib (y4 + (-1)) 80 = true
            case neg => exact nomatch ((if_neg c10).symm.trans h)
            replace h := (if_pos c10).symm.trans h
            refine g_iald rfl (a := 536) rfl c10 ?_
            refine g_run 1 (pc' := 161) (L' := [some (.ref 526), some (.int y1), none, some (.int y3), some (.int ((y4 + (-1)))), some (.int y5)]) (S' := [.long (((gI g 536 (ix (y4 + (-1))))).toInt64), .long (((gI g 536 (ix ((y4 + (-1)) - 1)))).toInt64), .int ((gI g 528 (ix y5))), .int (((y4 + (-1)) - 1)), .ref 536]) (M' := gm g) rfl ?_
            replace h := zB_of h
            obtain ⟨v11, g12, e13, h⟩ := h
            refine g_inv2 (kd := 0) (p_X12_worked  e13) rfl rfl rfl (by decide) rfl rfl rfl rfl (by omega) (pc' := 164) rfl (S' := [.int v11, .int (((y4 + (-1)) - 1)), .ref 536]) rfl ?_
            by_cases c14 : zib ((y4 + (-1)) - 1) 80 = true
            case neg => exact nomatch ((if_neg c14).symm.trans h)
            replace h := (if_pos c14).symm.trans h
            refine g_iast rfl (a := 536) rfl c14 ?_
            exact p_X12_workOut_165 hD (f_X12_workOut_12 n) ih (y1) (y3) (y4 + (-1)) (y5) (gsI g12 (536) (ix ((y4 + (-1)) - 1)) v11) _ h
          · replace h := (if_neg c7).symm.trans h
            refine g_run 11 (pc' := 119) (L' := [some (.ref 526), some (.int y1), none, some (.int y3), some (.int y4), some (.int y5)]) (S' := [.int ((y4 - 1)), .ref 536, .int 1, .int ((y4 - 1)), .ref 536]) (M' := gm g) rfl ?_
            by_cases c15 : zib (y4 - 1) 80 = true
            case neg => exact nomatch ((if_neg c15).symm.trans h)
            replace h := (if_pos c15).symm.trans h
            refine g_iald rfl (a := 536) rfl c15 ?_
            refine g_run 1 (pc' := 121) (L' := [some (.ref 526), some (.int y1), none, some (.int y3), some (.int y4), some (.int y5)]) (S' := [.int ((1 - (gI g 536 (ix (y4 - 1))))), .int ((y4 - 1)), .ref 536]) (M' := gm g) rfl ?_
            by_cases c16 : zib (y4 - 1) 80 = true
            case neg => exact nomatch ((if_neg c16).symm.trans h)
            replace h := (if_pos c16).symm.trans h
            refine g_iast rfl (a := 536) rfl c16 ?_
            refine g_run 1 (pc' := 165) (L' := [some (.ref 526), some (.int y1), none, some (.int y3), some (.int y4), some (.int y5)]) (S' := []) (M' := gm (gsI g (536) (ix (y4 - 1)) (1 - (gI g 536 (ix (y4 - 1)))))) rfl ?_
            exact p_X12_workOut_165 hD (f_X12_workOut_12 n) ih (y1) (y3) (y4) (y5) (gsI g (536) (ix (y4 - 1)) (1 - (gI g 536 (ix (y4 - 1))))) _ h
        · replace h := (if_neg c5).symm.trans h
          exact p_X12_workOut_45 hD (f_X12_workOut_12 n) ih (y1) (y3) (y4) (y5) g _ h
def f_X12_workOut (x1 : Int32) (x2 : Int32) (x3 : Int32) (g : zSg) : Option (Int32 × zSg) := f_X12_workOut_12 zFu (x1) (x3) (0) ((520 * x1) + x2) g
set_option maxRecDepth 100000 in
set_option maxHeartbeats 4000000 in
theorem p_X12_workOut {sc : zSc} {hp : zHp} {x1 : Int32} {x2 : Int32} {x3 : Int32} {g : zSg} {r : Int32 × zSg} (h : f_X12_workOut x1 x2 x3 g = some r) : zRn sc hp 3 zM_X12_workOut [.ref 526, .int x1, .int x2, .int x3] (gm g) (some (.int r.1)) (gm r.2) := by
  intro d hD
  obtain ⟨d, rfl⟩ : ∃ d', d = d' + 1 := ⟨d - 1, by omega⟩
  show zG _ sc hp (zcd zM_X12_workOut) 0 [some (.ref 526), some (.int x1), some (.int x2), some (.int x3), none, none] [] (gm g) _
  unfold f_X12_workOut at h
  refine g_run 8 (pc' := 12) (L' := [some (.ref 526), some (.int x1), some (.int x2), some (.int x3), some (.int 0), some (.int (((520 * x1) + x2)))]) (S' := []) (M' := gm g) rfl ?_
  refine g_forget (L' := [some (.ref 526), some (.int x1), none, some (.int x3), some (.int 0), some (.int (((520 * x1) + x2)))]) (And.intro rfl (And.intro rfl (And.intro rfl (And.intro rfl (And.intro rfl True.intro))))) ?_
  exact p_X12_workOut_12 hD zFu (x1) (x3) (0) ((520 * x1) + x2) g _ h
def f_X12_worthOf_57 (y1 : Int32) (y2 : Int32) (g : zSg) : Option (Int32 × zSg) := (if zib y2 700 = true then (if zib y2 700 = true then (zB (f_X12_workOut y1 (gI g 533 (ix y2)) (gI g 534 (ix y2)) g) (fun v3 g4 => some (v3, g4))) else none) else none)
set_option maxRecDepth 100000 in
set_option maxHeartbeats 4000000 in
theorem p_X12_worthOf_57 {sc : zSc} {hp : zHp} {d : Nat} (hD : 4 ≤ d) (y1 : Int32) (y2 : Int32) (g : zSg) (r : Int32 × zSg) (h : f_X12_worthOf_57 y1 y2 g = some r) : zG d sc hp (zcd zM_X12_worthOf) 57 [some (.ref 526), some (.int y1), some (.int y2)] [] (gm g) ((some (.int r.1)), gm r.2) := by
  obtain ⟨d, rfl⟩ : ∃ d', d = d' + 1 := ⟨d - 1, by omega⟩
  unfold f_X12_worthOf_57 at h
  refine g_run 5 (pc' := 64) (L' := [some (.ref 526), some (.int y1), some (.int y2)]) (S' := [.int y2, .ref 533, .int y1, .ref 526]) (M' := gm g) rfl ?_
  by_cases c1 : zib y2 700 = true
  case neg => exact nomatch ((if_neg c1).symm.trans h)
  replace h := (if_pos c1).symm.trans h
  refine g_iald rfl (a := 533) rfl c1 ?_
  refine g_run 3 (pc' := 70) (L' := [some (.ref 526), some (.int y1), some (.int y2)]) (S' := [.int y2, .ref 534, .int ((gI g 533 (ix y2))), .int y1, .ref 526]) (M' := gm g) rfl ?_
  by_cases c2 : zib y2 700 = true
  case neg => exact nomatch ((if_neg c2).symm.trans h)
  replace h := (if_pos c2).symm.trans h
  refine g_iald rfl (a := 534) rfl c2 ?_
  replace h := zB_of h
  obtain ⟨v3, g4, e5, h⟩ := h
  refine g_inv2 (kd := 1) (p_X12_workOut  e5) rfl rfl rfl (by decide) rfl rfl rfl rfl (by omega) (pc' := 74) rfl (S' := [.int v3]) rfl ?_
  cases h
  exact g_ret rfl rfl rfl rfl
def fb_X12_worthOf_6 (kk : Int32 → Int32 → zSg → Option (Int32 × zSg)) (y1 : Int32) (y2 : Int32) (g : zSg) : Option (Int32 × zSg) := (if zib y1 5 = true then (if ((140 * y1) + (gI g 531 (ix y1))) ≤ y2 then some (0, g) else (if zib y2 700 = true then (if zib y2 700 = true then (if (gI g 532 (ix y2)) = (gI g 533 (ix y2)) then f_X12_worthOf_57 (y1) (y2) g else (if zib y2 700 = true then (if zib y2 700 = true then (zB (f_X12_workOut y1 (gI g 532 (ix y2)) (gI g 533 (ix y2)) g) (fun v8 g9 => (if v8 = 0 then kk (y1) (y2 + 1) g9 else f_X12_worthOf_57 (y1) (y2) g9))) else none) else none)) else none) else none)) else none)
def f_X12_worthOf_6 : Nat → Int32 → Int32 → zSg → Option (Int32 × zSg)
  | 0, _, _, _ => none
  | n + 1, y1, y2, g => fb_X12_worthOf_6 (f_X12_worthOf_6 n) y1 y2 g
set_option maxRecDepth 100000 in
set_option maxHeartbeats 4000000 in
theorem p_X12_worthOf_6 {sc : zSc} {hp : zHp} {d : Nat} (hD : 4 ≤ d) : ∀ (n : Nat) (y1 : Int32) (y2 : Int32) (g : zSg) (r : Int32 × zSg), f_X12_worthOf_6 n y1 y2 g = some r → zG d sc hp (zcd zM_X12_worthOf) 6 [some (.ref 526), some (.int y1), some (.int y2)] [] (gm g) ((some (.int r.1)), gm r.2) := by
  obtain ⟨d, rfl⟩ : ∃ d', d = d' + 1 := ⟨d - 1, by omega⟩
  intro n
  induction n with
  | zero => intro y1 y2 g r h; cases h
  | succ n ih =>
    intro y1 y2 g r h
    replace h : fb_X12_worthOf_6 (f_X12_worthOf_6 n) y1 y2 g = some r := h
    unfold fb_X12_worthOf_6 at h
    refine g_run 7 (pc' := 17) (L' := [some (.ref 526), some (.int y1), some (.int y2)]) (S' := [.int y1, .ref 531, .int ((140 * y1)), .int y2]) (M' := gm g) rfl ?_
    by_cases c1 : zib y1 5 = true
    case neg => exact nomatch ((if_neg c1).symm.trans h)
    replace h := (if_pos c1).symm.trans h
    refine g_iald rfl (a := 531) rfl c1 ?_
    refine g_run 1 (pc' := 19) (L' := [some (.ref 526), some (.int y1), some (.int y2)]) (S' := [.int (((140 * y1) + (gI g 531 (ix y1)))), .int y2]) (M' := gm g) rfl ?_
    refine g_icmp (((140 * y1) + (gI g 531 (ix y1))) ≤ y2) rfl (t := 81) rfl rfl (fun c2 => ?_) (fun c2 => ?_)
    · replace h := (if_pos c2).symm.trans h
      refine g_run 1 (pc' := 82) (L' := [some (.ref 526), some (.int y1), some (.int y2)]) (S' := [.int 0]) (M' := gm g) rfl ?_
      cases h
      exact g_ret rfl rfl rfl rfl
    · replace h := (if_neg c2).symm.trans h
      refine g_run 3 (pc' := 27) (L' := [some (.ref 526), some (.int y1), some (.int y2)]) (S' := [.int y2, .ref 532]) (M' := gm g) rfl ?_
      by_cases c3 : zib y2 700 = true
      case neg => exact nomatch ((if_neg c3).symm.trans h)
      replace h := (if_pos c3).symm.trans h
      refine g_iald rfl (a := 532) rfl c3 ?_
      refine g_run 3 (pc' := 33) (L' := [some (.ref 526), some (.int y1), some (.int y2)]) (S' := [.int y2, .ref 533, .int ((gI g 532 (ix y2)))]) (M' := gm g) rfl ?_
      by_cases c4 : zib y2 700 = true
      case neg => exact nomatch ((if_neg c4).symm.trans h)
      replace h := (if_pos c4).symm.trans h
      refine g_iald rfl (a := 533) rfl c4 ?_
      refine g_icmp ((gI g 532 (ix y2)) = (gI g 533 (ix y2))) rfl (t := 57) rfl rfl (fun c5 => ?_) (fun c5 => ?_)
      · replace h := (if_pos c5).symm.trans h
        exact p_X12_worthOf_57 hD (y1) (y2) g _ h
      · replace h := (if_neg c5).symm.trans h
        refine g_run 5 (pc' := 44) (L' := [some (.ref 526), some (.int y1), some (.int y2)]) (S' := [.int y2, .ref 532, .int y1, .ref 526]) (M' := gm g) rfl ?_
        by_cases c6 : zib y2 700 = true
        case neg => exact nomatch ((if_neg c6).symm.trans h)
        replace h := (if_pos c6).symm.trans h
        refine g_iald rfl (a := 532) rfl c6 ?_
        refine g_run 3 (pc' := 50) (L' := [some (.ref 526), some (.int y1), some (.int y2)]) (S' := [.int y2, .ref 533, .int ((gI g 532 (ix y2))), .int y1, .ref 526]) (M' := gm g) rfl ?_
        by_cases c7 : zib y2 700 = true
        case neg => exact nomatch ((if_neg c7).symm.trans h)
        replace h := (if_pos c7).symm.trans h
        refine g_iald rfl (a := 533) rfl c7 ?_
        replace h := zB_of h
        obtain ⟨v8, g9, e10, h⟩ := h
        refine g_inv2 (kd := 1) (p_X12_workOut  e10) rfl rfl rfl (by decide) rfl rfl rfl rfl (by omega) (pc' := 54) rfl (S' := [.int v8]) rfl ?_
        refine g_if (v8 = 0) rfl (t := 75) rfl rfl (fun c11 => ?_) (fun c11 => ?_)
        · replace h := (if_pos c11).symm.trans h
          refine g_run 2 (pc' := 6) (L' := [some (.ref 526), some (.int y1), some (.int ((y2 + 1)))]) (S' := []) (M' := gm g9) rfl ?_
          exact ih (y1) (y2 + 1) g9 _ h
        · replace h := (if_neg c11).symm.trans h
          exact p_X12_worthOf_57 hD (y1) (y2) g9 _ h
def f_X12_worthOf (x1 : Int32) (g : zSg) : Option (Int32 × zSg) := f_X12_worthOf_6 zFu (x1) (140 * x1) g
set_option maxRecDepth 100000 in
set_option maxHeartbeats 4000000 in
theorem p_X12_worthOf {sc : zSc} {hp : zHp} {x1 : Int32} {g : zSg} {r : Int32 × zSg} (h : f_X12_worthOf x1 g = some r) : zRn sc hp 4 zM_X12_worthOf [.ref 526, .int x1] (gm g) (some (.int r.1)) (gm r.2) := by
  intro d hD
  obtain ⟨d, rfl⟩ : ∃ d', d = d' + 1 := ⟨d - 1, by omega⟩
  show zG _ sc hp (zcd zM_X12_worthOf) 0 [some (.ref 526), some (.int x1), none] [] (gm g) _
  unfold f_X12_worthOf at h
  refine g_run 4 (pc' := 6) (L' := [some (.ref 526), some (.int x1), some (.int ((140 * x1)))]) (S' := []) (M' := gm g) rfl ?_
  exact p_X12_worthOf_6 hD zFu (x1) (140 * x1) g _ h
def f_X12_number_67 (y1 : Int32) (y2 : Int32) (y3 : Int32) (g : zSg) : Option (Int32 × zSg) := (zB (f_X12_here g) (fun v1 g2 => (zB (f_X12_isDigit v1 g2) (fun v4 g5 => (if v4 = 0 then (zB (f_X12_in y3 y1 y2 g5) (fun v8 g9 => (if ¬ v8 = 0 then some (y3, g9) else (zB (f_X12_bad (gsI g9 526 3 ((gI g9 526 3) - 1))) (fun v12 g13 => some (y3, g13)))))) else (zB (f_X12_bad g5) (fun v15 g16 => some (y3, g16))))))))
set_option maxRecDepth 100000 in
set_option maxHeartbeats 4000000 in
theorem p_X12_number_67 {sc : zSc} {hp : zHp} {d : Nat} (hD : 2 ≤ d) (y1 : Int32) (y2 : Int32) (y3 : Int32) (g : zSg) (r : Int32 × zSg) (h : f_X12_number_67 y1 y2 y3 g = some r) : zG d sc hp (zcd zM_X12_number) 67 [some (.ref 526), some (.int y1), some (.int y2), some (.int y3)] [] (gm g) ((some (.int r.1)), gm r.2) := by
  obtain ⟨d, rfl⟩ : ∃ d', d = d' + 1 := ⟨d - 1, by omega⟩
  unfold f_X12_number_67 at h
  refine g_run 1 (pc' := 68) (L' := [some (.ref 526), some (.int y1), some (.int y2), some (.int y3)]) (S' := [.ref 526]) (M' := gm g) rfl ?_
  replace h := zB_of h
  obtain ⟨v1, g2, e3, h⟩ := h
  refine g_inv2 (kd := 1) (p_X12_here  e3) rfl rfl rfl (by decide) rfl rfl rfl rfl (by omega) (pc' := 71) rfl (S' := [.int v1]) rfl ?_
  replace h := zB_of h
  obtain ⟨v4, g5, e6, h⟩ := h
  refine g_inv2 (kd := 0) (p_X12_isDigit  e6) rfl rfl rfl (by decide) rfl rfl rfl rfl (by omega) (pc' := 74) rfl (S' := [.int v4]) rfl ?_
  refine g_if (v4 = 0) rfl (t := 84) rfl rfl (fun c7 => ?_) (fun c7 => ?_)
  · replace h := (if_pos c7).symm.trans h
    refine g_run 3 (pc' := 87) (L' := [some (.ref 526), some (.int y1), some (.int y2), some (.int y3)]) (S' := [.int y2, .int y1, .int y3]) (M' := gm g5) rfl ?_
    replace h := zB_of h
    obtain ⟨v8, g9, e10, h⟩ := h
    refine g_inv2 (kd := 0) (p_X12_in  e10) rfl rfl rfl (by decide) rfl rfl rfl rfl (by omega) (pc' := 90) rfl (S' := [.int v8]) rfl ?_
    refine g_if (¬ v8 = 0) rfl (t := 107) rfl rfl (fun c11 => ?_) (fun c11 => ?_)
    · replace h := (if_pos c11).symm.trans h
      refine g_run 1 (pc' := 108) (L' := [some (.ref 526), some (.int y1), some (.int y2), some (.int y3)]) (S' := [.int y3]) (M' := gm g9) rfl ?_
      cases h
      exact g_ret rfl rfl rfl rfl
    · replace h := (if_neg c11).symm.trans h
      refine g_run 7 (pc' := 104) (L' := [some (.ref 526), some (.int y1), some (.int y2), some (.int y3)]) (S' := [.ref 526]) (M' := gm (gsI g9 526 3 ((gI g9 526 3) - 1))) rfl ?_
      replace h := zB_of h
      obtain ⟨v12, g13, e14, h⟩ := h
      refine g_inv2 (kd := 1) (p_X12_bad  e14) rfl rfl rfl (by decide) rfl rfl rfl rfl (by omega) (pc' := 107) rfl (S' := []) rfl ?_
      refine g_run 1 (pc' := 108) (L' := [some (.ref 526), some (.int y1), some (.int y2), some (.int y3)]) (S' := [.int y3]) (M' := gm g13) rfl ?_
      cases h
      exact g_ret rfl rfl rfl rfl
  · replace h := (if_neg c7).symm.trans h
    refine g_run 1 (pc' := 78) (L' := [some (.ref 526), some (.int y1), some (.int y2), some (.int y3)]) (S' := [.ref 526]) (M' := gm g5) rfl ?_
    replace h := zB_of h
    obtain ⟨v15, g16, e17, h⟩ := h
    refine g_inv2 (kd := 1) (p_X12_bad  e17) rfl rfl rfl (by decide) rfl rfl rfl rfl (by omega) (pc' := 81) rfl (S' := []) rfl ?_
    refine g_run 2 (pc' := 108) (L' := [some (.ref 526), some (.int y1), some (.int y2), some (.int y3)]) (S' := [.int y3]) (M' := gm g16) rfl ?_
    cases h
    exact g_ret rfl rfl rfl rfl
def f_X12_number (x1 : Int32) (x2 : Int32) (g : zSg) : Option (Int32 × zSg) := (zB (f_X12_look g) (fun v1 g2 => (zB (f_X12_isDigit v1 g2) (fun v4 g5 => (if ¬ v4 = 0 then (zB (f_X12_here g5) (fun v8 g9 => (zB (f_X12_here (gsI g9 526 3 ((gI g9 526 3) + 1))) (fun v11 g12 => (zB (f_X12_isDigit v11 g12) (fun v14 g15 => (if v14 = 0 then f_X12_number_67 (x1) (x2) (v8 - 48) g15 else (zB (f_X12_here g15) (fun v18 g19 => f_X12_number_67 (x1) (x2) (((10 * (v8 - 48)) + v18) - 48) (gsI g19 526 3 ((gI g19 526 3) + 1))))))))))) else (zB (f_X12_bad g5) (fun v21 g22 => some (x1, g22))))))))
set_option maxRecDepth 100000 in
set_option maxHeartbeats 4000000 in
theorem p_X12_number {sc : zSc} {hp : zHp} {x1 : Int32} {x2 : Int32} {g : zSg} {r : Int32 × zSg} (h : f_X12_number x1 x2 g = some r) : zRn sc hp 2 zM_X12_number [.ref 526, .int x1, .int x2] (gm g) (some (.int r.1)) (gm r.2) := by
  intro d hD
  obtain ⟨d, rfl⟩ : ∃ d', d = d' + 1 := ⟨d - 1, by omega⟩
  show zG _ sc hp (zcd zM_X12_number) 0 [some (.ref 526), some (.int x1), some (.int x2), none] [] (gm g) _
  unfold f_X12_number at h
  refine g_run 1 (pc' := 1) (L' := [some (.ref 526), some (.int x1), some (.int x2), none]) (S' := [.ref 526]) (M' := gm g) rfl ?_
  replace h := zB_of h
  obtain ⟨v1, g2, e3, h⟩ := h
  refine g_inv2 (kd := 1) (p_X12_look  e3) rfl rfl rfl (by decide) rfl rfl rfl rfl (by omega) (pc' := 4) rfl (S' := [.int v1]) rfl ?_
  replace h := zB_of h
  obtain ⟨v4, g5, e6, h⟩ := h
  refine g_inv2 (kd := 0) (p_X12_isDigit  e6) rfl rfl rfl (by decide) rfl rfl rfl rfl (by omega) (pc' := 7) rfl (S' := [.int v4]) rfl ?_
  refine g_if (¬ v4 = 0) rfl (t := 16) rfl rfl (fun c7 => ?_) (fun c7 => ?_)
  · replace h := (if_pos c7).symm.trans h
    refine g_run 1 (pc' := 17) (L' := [some (.ref 526), some (.int x1), some (.int x2), none]) (S' := [.ref 526]) (M' := gm g5) rfl ?_
    replace h := zB_of h
    obtain ⟨v8, g9, e10, h⟩ := h
    refine g_inv2 (kd := 1) (p_X12_here  e10) rfl rfl rfl (by decide) rfl rfl rfl rfl (by omega) (pc' := 20) rfl (S' := [.int v8]) rfl ?_
    refine g_run 10 (pc' := 35) (L' := [some (.ref 526), some (.int x1), some (.int x2), some (.int ((v8 - 48)))]) (S' := [.ref 526]) (M' := gm (gsI g9 526 3 ((gI g9 526 3) + 1))) rfl ?_
    replace h := zB_of h
    obtain ⟨v11, g12, e13, h⟩ := h
    refine g_inv2 (kd := 1) (p_X12_here  e13) rfl rfl rfl (by decide) rfl rfl rfl rfl (by omega) (pc' := 38) rfl (S' := [.int v11]) rfl ?_
    replace h := zB_of h
    obtain ⟨v14, g15, e16, h⟩ := h
    refine g_inv2 (kd := 0) (p_X12_isDigit  e16) rfl rfl rfl (by decide) rfl rfl rfl rfl (by omega) (pc' := 41) rfl (S' := [.int v14]) rfl ?_
    refine g_if (v14 = 0) rfl (t := 67) rfl rfl (fun c17 => ?_) (fun c17 => ?_)
    · replace h := (if_pos c17).symm.trans h
      exact p_X12_number_67 hD (x1) (x2) (v8 - 48) g15 _ h
    · replace h := (if_neg c17).symm.trans h
      refine g_run 4 (pc' := 49) (L' := [some (.ref 526), some (.int x1), some (.int x2), some (.int ((v8 - 48)))]) (S' := [.ref 526, .int ((10 * (v8 - 48)))]) (M' := gm g15) rfl ?_
      replace h := zB_of h
      obtain ⟨v18, g19, e20, h⟩ := h
      refine g_inv2 (kd := 1) (p_X12_here  e20) rfl rfl rfl (by decide) rfl rfl rfl rfl (by omega) (pc' := 52) rfl (S' := [.int v18, .int ((10 * (v8 - 48)))]) rfl ?_
      refine g_run 10 (pc' := 67) (L' := [some (.ref 526), some (.int x1), some (.int x2), some (.int ((((10 * (v8 - 48)) + v18) - 48)))]) (S' := []) (M' := gm (gsI g19 526 3 ((gI g19 526 3) + 1))) rfl ?_
      exact p_X12_number_67 hD (x1) (x2) (((10 * (v8 - 48)) + v18) - 48) (gsI g19 526 3 ((gI g19 526 3) + 1)) _ h
  · replace h := (if_neg c7).symm.trans h
    refine g_run 1 (pc' := 11) (L' := [some (.ref 526), some (.int x1), some (.int x2), none]) (S' := [.ref 526]) (M' := gm g5) rfl ?_
    replace h := zB_of h
    obtain ⟨v21, g22, e23, h⟩ := h
    refine g_inv2 (kd := 1) (p_X12_bad  e23) rfl rfl rfl (by decide) rfl rfl rfl rfl (by omega) (pc' := 14) rfl (S' := []) rfl ?_
    refine g_run 1 (pc' := 15) (L' := [some (.ref 526), some (.int x1), some (.int x2), none]) (S' := [.int x1]) (M' := gm g22) rfl ?_
    cases h
    exact g_ret rfl rfl rfl rfl
def f_X12_itemOf (x1 : Int32) (x2 : Int32) (g : zSg) : Option (Int32 × zSg) := (if x1 = 112 then (if ¬ x2 = 120 then (if ¬ x2 = 121 then (if ¬ x2 = 110 then some ((-1), g) else some (2, g)) else some (1, g)) else some (0, g)) else (if x1 = 115 then (if ¬ x2 = 119 then (if ¬ x2 = 104 then (if ¬ x2 = 111 then (if ¬ x2 = 107 then (if ¬ x2 = 118 then some ((-1), g) else some (4, g)) else some (3, g)) else some (2, g)) else some (1, g)) else some (0, g)) else (if ¬ x2 = 97 then (if ¬ x2 = 107 then (if ¬ x2 = 120 then (if ¬ x2 = 121 then some ((-1), g) else some (3, g)) else some (2, g)) else some (1, g)) else some (0, g))))
set_option maxRecDepth 100000 in
set_option maxHeartbeats 4000000 in
theorem p_X12_itemOf {sc : zSc} {hp : zHp} {x1 : Int32} {x2 : Int32} {g : zSg} {r : Int32 × zSg} (h : f_X12_itemOf x1 x2 g = some r) : zRn sc hp 0 zM_X12_itemOf [.int x1, .int x2] (gm g) (some (.int r.1)) (gm r.2) := by
  intro d hD
  show zG _ sc hp (zcd zM_X12_itemOf) 0 [some (.int x1), some (.int x2)] [] (gm g) _
  unfold f_X12_itemOf at h
  refine g_run 1 (pc' := 1) (L' := [some (.int x1), some (.int x2)]) (S' := [.int x1]) (M' := gm g) rfl ?_
  by_cases c1 : x1 = 112
  · replace h := (if_pos c1).symm.trans h
    refine g_swc c1 rfl rfl rfl (pc' := 80) rfl ?_
    refine g_run 2 (pc' := 83) (L' := [some (.int x1), some (.int x2)]) (S' := [.int 120, .int x2]) (M' := gm g) rfl ?_
    refine g_icmp (¬ x2 = 120) rfl (t := 90) rfl rfl (fun c2 => ?_) (fun c2 => ?_)
    · replace h := (if_pos c2).symm.trans h
      refine g_run 2 (pc' := 93) (L' := [some (.int x1), some (.int x2)]) (S' := [.int 121, .int x2]) (M' := gm g) rfl ?_
      refine g_icmp (¬ x2 = 121) rfl (t := 100) rfl rfl (fun c3 => ?_) (fun c3 => ?_)
      · replace h := (if_pos c3).symm.trans h
        refine g_run 2 (pc' := 103) (L' := [some (.int x1), some (.int x2)]) (S' := [.int 110, .int x2]) (M' := gm g) rfl ?_
        refine g_icmp (¬ x2 = 110) rfl (t := 110) rfl rfl (fun c4 => ?_) (fun c4 => ?_)
        · replace h := (if_pos c4).symm.trans h
          refine g_run 1 (pc' := 111) (L' := [some (.int x1), some (.int x2)]) (S' := [.int (-1)]) (M' := gm g) rfl ?_
          cases h
          exact g_ret rfl rfl rfl rfl
        · replace h := (if_neg c4).symm.trans h
          refine g_run 2 (pc' := 111) (L' := [some (.int x1), some (.int x2)]) (S' := [.int 2]) (M' := gm g) rfl ?_
          cases h
          exact g_ret rfl rfl rfl rfl
      · replace h := (if_neg c3).symm.trans h
        refine g_run 2 (pc' := 111) (L' := [some (.int x1), some (.int x2)]) (S' := [.int 1]) (M' := gm g) rfl ?_
        cases h
        exact g_ret rfl rfl rfl rfl
    · replace h := (if_neg c2).symm.trans h
      refine g_run 2 (pc' := 111) (L' := [some (.int x1), some (.int x2)]) (S' := [.int 0]) (M' := gm g) rfl ?_
      cases h
      exact g_ret rfl rfl rfl rfl
  replace h := (if_neg c1).symm.trans h
  by_cases c5 : x1 = 115
  · replace h := (if_pos c5).symm.trans h
    refine g_swc c5 rfl rfl rfl (pc' := 28) rfl ?_
    refine g_run 2 (pc' := 31) (L' := [some (.int x1), some (.int x2)]) (S' := [.int 119, .int x2]) (M' := gm g) rfl ?_
    refine g_icmp (¬ x2 = 119) rfl (t := 38) rfl rfl (fun c6 => ?_) (fun c6 => ?_)
    · replace h := (if_pos c6).symm.trans h
      refine g_run 2 (pc' := 41) (L' := [some (.int x1), some (.int x2)]) (S' := [.int 104, .int x2]) (M' := gm g) rfl ?_
      refine g_icmp (¬ x2 = 104) rfl (t := 48) rfl rfl (fun c7 => ?_) (fun c7 => ?_)
      · replace h := (if_pos c7).symm.trans h
        refine g_run 2 (pc' := 51) (L' := [some (.int x1), some (.int x2)]) (S' := [.int 111, .int x2]) (M' := gm g) rfl ?_
        refine g_icmp (¬ x2 = 111) rfl (t := 58) rfl rfl (fun c8 => ?_) (fun c8 => ?_)
        · replace h := (if_pos c8).symm.trans h
          refine g_run 2 (pc' := 61) (L' := [some (.int x1), some (.int x2)]) (S' := [.int 107, .int x2]) (M' := gm g) rfl ?_
          refine g_icmp (¬ x2 = 107) rfl (t := 68) rfl rfl (fun c9 => ?_) (fun c9 => ?_)
          · replace h := (if_pos c9).symm.trans h
            refine g_run 2 (pc' := 71) (L' := [some (.int x1), some (.int x2)]) (S' := [.int 118, .int x2]) (M' := gm g) rfl ?_
            refine g_icmp (¬ x2 = 118) rfl (t := 78) rfl rfl (fun c10 => ?_) (fun c10 => ?_)
            · replace h := (if_pos c10).symm.trans h
              refine g_run 1 (pc' := 79) (L' := [some (.int x1), some (.int x2)]) (S' := [.int (-1)]) (M' := gm g) rfl ?_
              cases h
              exact g_ret rfl rfl rfl rfl
            · replace h := (if_neg c10).symm.trans h
              refine g_run 2 (pc' := 79) (L' := [some (.int x1), some (.int x2)]) (S' := [.int 4]) (M' := gm g) rfl ?_
              cases h
              exact g_ret rfl rfl rfl rfl
          · replace h := (if_neg c9).symm.trans h
            refine g_run 2 (pc' := 79) (L' := [some (.int x1), some (.int x2)]) (S' := [.int 3]) (M' := gm g) rfl ?_
            cases h
            exact g_ret rfl rfl rfl rfl
        · replace h := (if_neg c8).symm.trans h
          refine g_run 2 (pc' := 79) (L' := [some (.int x1), some (.int x2)]) (S' := [.int 2]) (M' := gm g) rfl ?_
          cases h
          exact g_ret rfl rfl rfl rfl
      · replace h := (if_neg c7).symm.trans h
        refine g_run 2 (pc' := 79) (L' := [some (.int x1), some (.int x2)]) (S' := [.int 1]) (M' := gm g) rfl ?_
        cases h
        exact g_ret rfl rfl rfl rfl
    · replace h := (if_neg c6).symm.trans h
      refine g_run 2 (pc' := 79) (L' := [some (.int x1), some (.int x2)]) (S' := [.int 0]) (M' := gm g) rfl ?_
      cases h
      exact g_ret rfl rfl rfl rfl
  replace h := (if_neg c5).symm.trans h
  refine g_lsd rfl rfl (off := 111) (by show Op.lookupswitch.offset [(112, 79), (115, 27)] 111 (x1).toInt = _; rw [lv_osw (a := 112) c1 rfl]; rw [lv_osw (a := 115) c5 rfl]; rfl) (t := 112) rfl ?_
  refine g_run 2 (pc' := 115) (L' := [some (.int x1), some (.int x2)]) (S' := [.int 97, .int x2]) (M' := gm g) rfl ?_
  refine g_icmp (¬ x2 = 97) rfl (t := 122) rfl rfl (fun c11 => ?_) (fun c11 => ?_)
  · replace h := (if_pos c11).symm.trans h
    refine g_run 2 (pc' := 125) (L' := [some (.int x1), some (.int x2)]) (S' := [.int 107, .int x2]) (M' := gm g) rfl ?_
    refine g_icmp (¬ x2 = 107) rfl (t := 132) rfl rfl (fun c12 => ?_) (fun c12 => ?_)
    · replace h := (if_pos c12).symm.trans h
      refine g_run 2 (pc' := 135) (L' := [some (.int x1), some (.int x2)]) (S' := [.int 120, .int x2]) (M' := gm g) rfl ?_
      refine g_icmp (¬ x2 = 120) rfl (t := 142) rfl rfl (fun c13 => ?_) (fun c13 => ?_)
      · replace h := (if_pos c13).symm.trans h
        refine g_run 2 (pc' := 145) (L' := [some (.int x1), some (.int x2)]) (S' := [.int 121, .int x2]) (M' := gm g) rfl ?_
        refine g_icmp (¬ x2 = 121) rfl (t := 152) rfl rfl (fun c14 => ?_) (fun c14 => ?_)
        · replace h := (if_pos c14).symm.trans h
          refine g_run 1 (pc' := 153) (L' := [some (.int x1), some (.int x2)]) (S' := [.int (-1)]) (M' := gm g) rfl ?_
          cases h
          exact g_ret rfl rfl rfl rfl
        · replace h := (if_neg c14).symm.trans h
          refine g_run 2 (pc' := 153) (L' := [some (.int x1), some (.int x2)]) (S' := [.int 3]) (M' := gm g) rfl ?_
          cases h
          exact g_ret rfl rfl rfl rfl
      · replace h := (if_neg c13).symm.trans h
        refine g_run 2 (pc' := 153) (L' := [some (.int x1), some (.int x2)]) (S' := [.int 2]) (M' := gm g) rfl ?_
        cases h
        exact g_ret rfl rfl rfl rfl
    · replace h := (if_neg c12).symm.trans h
      refine g_run 2 (pc' := 153) (L' := [some (.int x1), some (.int x2)]) (S' := [.int 1]) (M' := gm g) rfl ?_
      cases h
      exact g_ret rfl rfl rfl rfl
  · replace h := (if_neg c11).symm.trans h
    refine g_run 2 (pc' := 153) (L' := [some (.int x1), some (.int x2)]) (S' := [.int 0]) (M' := gm g) rfl ?_
    cases h
    exact g_ret rfl rfl rfl rfl
def f_X12_lowest (x1 : Int32) (x2 : Int32) (g : zSg) : Option (Int32 × zSg) := (if x1 = 112 then (if ¬ x2 = 2 then some (0, g) else some (1, g)) else (if x1 = 115 then (if x2 = 0 then some (2, g) else (if ¬ x2 = 1 then some (0, g) else some (2, g))) else (if ¬ x2 = 1 then some (0, g) else some (1, g))))
set_option maxRecDepth 100000 in
set_option maxHeartbeats 4000000 in
theorem p_X12_lowest {sc : zSc} {hp : zHp} {x1 : Int32} {x2 : Int32} {g : zSg} {r : Int32 × zSg} (h : f_X12_lowest x1 x2 g = some r) : zRn sc hp 0 zM_X12_lowest [.int x1, .int x2] (gm g) (some (.int r.1)) (gm r.2) := by
  intro d hD
  show zG _ sc hp (zcd zM_X12_lowest) 0 [some (.int x1), some (.int x2)] [] (gm g) _
  unfold f_X12_lowest at h
  refine g_run 1 (pc' := 1) (L' := [some (.int x1), some (.int x2)]) (S' := [.int x1]) (M' := gm g) rfl ?_
  by_cases c1 : x1 = 112
  · replace h := (if_pos c1).symm.trans h
    refine g_swc c1 rfl rfl rfl (pc' := 43) rfl ?_
    refine g_run 2 (pc' := 45) (L' := [some (.int x1), some (.int x2)]) (S' := [.int 2, .int x2]) (M' := gm g) rfl ?_
    refine g_icmp (¬ x2 = 2) rfl (t := 52) rfl rfl (fun c2 => ?_) (fun c2 => ?_)
    · replace h := (if_pos c2).symm.trans h
      refine g_run 1 (pc' := 53) (L' := [some (.int x1), some (.int x2)]) (S' := [.int 0]) (M' := gm g) rfl ?_
      cases h
      exact g_ret rfl rfl rfl rfl
    · replace h := (if_neg c2).symm.trans h
      refine g_run 2 (pc' := 53) (L' := [some (.int x1), some (.int x2)]) (S' := [.int 1]) (M' := gm g) rfl ?_
      cases h
      exact g_ret rfl rfl rfl rfl
  replace h := (if_neg c1).symm.trans h
  by_cases c3 : x1 = 115
  · replace h := (if_pos c3).symm.trans h
    refine g_swc c3 rfl rfl rfl (pc' := 28) rfl ?_
    refine g_run 1 (pc' := 29) (L' := [some (.int x1), some (.int x2)]) (S' := [.int x2]) (M' := gm g) rfl ?_
    refine g_if (x2 = 0) rfl (t := 37) rfl rfl (fun c4 => ?_) (fun c4 => ?_)
    · replace h := (if_pos c4).symm.trans h
      refine g_run 2 (pc' := 42) (L' := [some (.int x1), some (.int x2)]) (S' := [.int 2]) (M' := gm g) rfl ?_
      cases h
      exact g_ret rfl rfl rfl rfl
    · replace h := (if_neg c4).symm.trans h
      refine g_run 2 (pc' := 34) (L' := [some (.int x1), some (.int x2)]) (S' := [.int 1, .int x2]) (M' := gm g) rfl ?_
      refine g_icmp (¬ x2 = 1) rfl (t := 41) rfl rfl (fun c5 => ?_) (fun c5 => ?_)
      · replace h := (if_pos c5).symm.trans h
        refine g_run 1 (pc' := 42) (L' := [some (.int x1), some (.int x2)]) (S' := [.int 0]) (M' := gm g) rfl ?_
        cases h
        exact g_ret rfl rfl rfl rfl
      · replace h := (if_neg c5).symm.trans h
        refine g_run 2 (pc' := 42) (L' := [some (.int x1), some (.int x2)]) (S' := [.int 2]) (M' := gm g) rfl ?_
        cases h
        exact g_ret rfl rfl rfl rfl
  replace h := (if_neg c3).symm.trans h
  refine g_lsd rfl rfl (off := 53) (by show Op.lookupswitch.offset [(112, 42), (115, 27)] 53 (x1).toInt = _; rw [lv_osw (a := 112) c1 rfl]; rw [lv_osw (a := 115) c3 rfl]; rfl) (t := 54) rfl ?_
  refine g_run 2 (pc' := 56) (L' := [some (.int x1), some (.int x2)]) (S' := [.int 1, .int x2]) (M' := gm g) rfl ?_
  refine g_icmp (¬ x2 = 1) rfl (t := 63) rfl rfl (fun c6 => ?_) (fun c6 => ?_)
  · replace h := (if_pos c6).symm.trans h
    refine g_run 1 (pc' := 64) (L' := [some (.int x1), some (.int x2)]) (S' := [.int 0]) (M' := gm g) rfl ?_
    cases h
    exact g_ret rfl rfl rfl rfl
  · replace h := (if_neg c6).symm.trans h
    refine g_run 2 (pc' := 64) (L' := [some (.int x1), some (.int x2)]) (S' := [.int 1]) (M' := gm g) rfl ?_
    cases h
    exact g_ret rfl rfl rfl rfl
def f_X12_highest (x1 : Int32) (x2 : Int32) (g : zSg) : Option (Int32 × zSg) := (if x1 = 112 then (if ¬ x2 = 0 then (if ¬ x2 = 1 then some (9, g) else some (4, g)) else some (5, g)) else (if x1 = 115 then (if ¬ x2 = 0 then (if ¬ x2 = 1 then (if ¬ x2 = 4 then some (99, g) else some (3, g)) else some (5, g)) else some (6, g)) else (if ¬ x2 = 0 then (if ¬ x2 = 1 then (if ¬ x2 = 2 then some (4, g) else some (5, g)) else some (9, g)) else some (5, g))))
set_option maxRecDepth 100000 in
set_option maxHeartbeats 4000000 in
theorem p_X12_highest {sc : zSc} {hp : zHp} {x1 : Int32} {x2 : Int32} {g : zSg} {r : Int32 × zSg} (h : f_X12_highest x1 x2 g = some r) : zRn sc hp 0 zM_X12_highest [.int x1, .int x2] (gm g) (some (.int r.1)) (gm r.2) := by
  intro d hD
  show zG _ sc hp (zcd zM_X12_highest) 0 [some (.int x1), some (.int x2)] [] (gm g) _
  unfold f_X12_highest at h
  refine g_run 1 (pc' := 1) (L' := [some (.int x1), some (.int x2)]) (S' := [.int x1]) (M' := gm g) rfl ?_
  by_cases c1 : x1 = 112
  · replace h := (if_pos c1).symm.trans h
    refine g_swc c1 rfl rfl rfl (pc' := 58) rfl ?_
    refine g_run 1 (pc' := 59) (L' := [some (.int x1), some (.int x2)]) (S' := [.int x2]) (M' := gm g) rfl ?_
    refine g_if (¬ x2 = 0) rfl (t := 66) rfl rfl (fun c2 => ?_) (fun c2 => ?_)
    · replace h := (if_pos c2).symm.trans h
      refine g_run 2 (pc' := 68) (L' := [some (.int x1), some (.int x2)]) (S' := [.int 1, .int x2]) (M' := gm g) rfl ?_
      refine g_icmp (¬ x2 = 1) rfl (t := 75) rfl rfl (fun c3 => ?_) (fun c3 => ?_)
      · replace h := (if_pos c3).symm.trans h
        refine g_run 1 (pc' := 77) (L' := [some (.int x1), some (.int x2)]) (S' := [.int 9]) (M' := gm g) rfl ?_
        cases h
        exact g_ret rfl rfl rfl rfl
      · replace h := (if_neg c3).symm.trans h
        refine g_run 2 (pc' := 77) (L' := [some (.int x1), some (.int x2)]) (S' := [.int 4]) (M' := gm g) rfl ?_
        cases h
        exact g_ret rfl rfl rfl rfl
    · replace h := (if_neg c2).symm.trans h
      refine g_run 2 (pc' := 77) (L' := [some (.int x1), some (.int x2)]) (S' := [.int 5]) (M' := gm g) rfl ?_
      cases h
      exact g_ret rfl rfl rfl rfl
  replace h := (if_neg c1).symm.trans h
  by_cases c4 : x1 = 115
  · replace h := (if_pos c4).symm.trans h
    refine g_swc c4 rfl rfl rfl (pc' := 28) rfl ?_
    refine g_run 1 (pc' := 29) (L' := [some (.int x1), some (.int x2)]) (S' := [.int x2]) (M' := gm g) rfl ?_
    refine g_if (¬ x2 = 0) rfl (t := 37) rfl rfl (fun c5 => ?_) (fun c5 => ?_)
    · replace h := (if_pos c5).symm.trans h
      refine g_run 2 (pc' := 39) (L' := [some (.int x1), some (.int x2)]) (S' := [.int 1, .int x2]) (M' := gm g) rfl ?_
      refine g_icmp (¬ x2 = 1) rfl (t := 46) rfl rfl (fun c6 => ?_) (fun c6 => ?_)
      · replace h := (if_pos c6).symm.trans h
        refine g_run 2 (pc' := 48) (L' := [some (.int x1), some (.int x2)]) (S' := [.int 4, .int x2]) (M' := gm g) rfl ?_
        refine g_icmp (¬ x2 = 4) rfl (t := 55) rfl rfl (fun c7 => ?_) (fun c7 => ?_)
        · replace h := (if_pos c7).symm.trans h
          refine g_run 1 (pc' := 57) (L' := [some (.int x1), some (.int x2)]) (S' := [.int 99]) (M' := gm g) rfl ?_
          cases h
          exact g_ret rfl rfl rfl rfl
        · replace h := (if_neg c7).symm.trans h
          refine g_run 2 (pc' := 57) (L' := [some (.int x1), some (.int x2)]) (S' := [.int 3]) (M' := gm g) rfl ?_
          cases h
          exact g_ret rfl rfl rfl rfl
      · replace h := (if_neg c6).symm.trans h
        refine g_run 2 (pc' := 57) (L' := [some (.int x1), some (.int x2)]) (S' := [.int 5]) (M' := gm g) rfl ?_
        cases h
        exact g_ret rfl rfl rfl rfl
    · replace h := (if_neg c5).symm.trans h
      refine g_run 2 (pc' := 57) (L' := [some (.int x1), some (.int x2)]) (S' := [.int 6]) (M' := gm g) rfl ?_
      cases h
      exact g_ret rfl rfl rfl rfl
  replace h := (if_neg c4).symm.trans h
  refine g_lsd rfl rfl (off := 77) (by show Op.lookupswitch.offset [(112, 57), (115, 27)] 77 (x1).toInt = _; rw [lv_osw (a := 112) c1 rfl]; rw [lv_osw (a := 115) c4 rfl]; rfl) (t := 78) rfl ?_
  refine g_run 1 (pc' := 79) (L' := [some (.int x1), some (.int x2)]) (S' := [.int x2]) (M' := gm g) rfl ?_
  refine g_if (¬ x2 = 0) rfl (t := 86) rfl rfl (fun c8 => ?_) (fun c8 => ?_)
  · replace h := (if_pos c8).symm.trans h
    refine g_run 2 (pc' := 88) (L' := [some (.int x1), some (.int x2)]) (S' := [.int 1, .int x2]) (M' := gm g) rfl ?_
    refine g_icmp (¬ x2 = 1) rfl (t := 96) rfl rfl (fun c9 => ?_) (fun c9 => ?_)
    · replace h := (if_pos c9).symm.trans h
      refine g_run 2 (pc' := 98) (L' := [some (.int x1), some (.int x2)]) (S' := [.int 2, .int x2]) (M' := gm g) rfl ?_
      refine g_icmp (¬ x2 = 2) rfl (t := 105) rfl rfl (fun c10 => ?_) (fun c10 => ?_)
      · replace h := (if_pos c10).symm.trans h
        refine g_run 1 (pc' := 106) (L' := [some (.int x1), some (.int x2)]) (S' := [.int 4]) (M' := gm g) rfl ?_
        cases h
        exact g_ret rfl rfl rfl rfl
      · replace h := (if_neg c10).symm.trans h
        refine g_run 2 (pc' := 106) (L' := [some (.int x1), some (.int x2)]) (S' := [.int 5]) (M' := gm g) rfl ?_
        cases h
        exact g_ret rfl rfl rfl rfl
    · replace h := (if_neg c9).symm.trans h
      refine g_run 2 (pc' := 106) (L' := [some (.int x1), some (.int x2)]) (S' := [.int 9]) (M' := gm g) rfl ?_
      cases h
      exact g_ret rfl rfl rfl rfl
  · replace h := (if_neg c8).symm.trans h
    refine g_run 2 (pc' := 106) (L' := [some (.int x1), some (.int x2)]) (S' := [.int 5]) (M' := gm g) rfl ?_
    cases h
    exact g_ret rfl rfl rfl rfl
def f_X12_usual (x1 : Int32) (x2 : Int32) (g : zSg) : Option (Int32 × zSg) := (if x1 = 112 then (if ¬ x2 = 2 then some (0, g) else some (3, g)) else (if x1 = 115 then (if ¬ x2 = 0 then (if ¬ x2 = 1 then (if ¬ x2 = 2 then (if ¬ x2 = 3 then some (1, g) else some (20, g)) else some (30, g)) else some (4, g)) else some (5, g)) else (if ¬ x2 = 1 then some (0, g) else some (3, g))))
set_option maxRecDepth 100000 in
set_option maxHeartbeats 4000000 in
theorem p_X12_usual {sc : zSc} {hp : zHp} {x1 : Int32} {x2 : Int32} {g : zSg} {r : Int32 × zSg} (h : f_X12_usual x1 x2 g = some r) : zRn sc hp 0 zM_X12_usual [.int x1, .int x2] (gm g) (some (.int r.1)) (gm r.2) := by
  intro d hD
  show zG _ sc hp (zcd zM_X12_usual) 0 [some (.int x1), some (.int x2)] [] (gm g) _
  unfold f_X12_usual at h
  refine g_run 1 (pc' := 1) (L' := [some (.int x1), some (.int x2)]) (S' := [.int x1]) (M' := gm g) rfl ?_
  by_cases c1 : x1 = 112
  · replace h := (if_pos c1).symm.trans h
    refine g_swc c1 rfl rfl rfl (pc' := 67) rfl ?_
    refine g_run 2 (pc' := 69) (L' := [some (.int x1), some (.int x2)]) (S' := [.int 2, .int x2]) (M' := gm g) rfl ?_
    refine g_icmp (¬ x2 = 2) rfl (t := 76) rfl rfl (fun c2 => ?_) (fun c2 => ?_)
    · replace h := (if_pos c2).symm.trans h
      refine g_run 1 (pc' := 77) (L' := [some (.int x1), some (.int x2)]) (S' := [.int 0]) (M' := gm g) rfl ?_
      cases h
      exact g_ret rfl rfl rfl rfl
    · replace h := (if_neg c2).symm.trans h
      refine g_run 2 (pc' := 77) (L' := [some (.int x1), some (.int x2)]) (S' := [.int 3]) (M' := gm g) rfl ?_
      cases h
      exact g_ret rfl rfl rfl rfl
  replace h := (if_neg c1).symm.trans h
  by_cases c3 : x1 = 115
  · replace h := (if_pos c3).symm.trans h
    refine g_swc c3 rfl rfl rfl (pc' := 28) rfl ?_
    refine g_run 1 (pc' := 29) (L' := [some (.int x1), some (.int x2)]) (S' := [.int x2]) (M' := gm g) rfl ?_
    refine g_if (¬ x2 = 0) rfl (t := 36) rfl rfl (fun c4 => ?_) (fun c4 => ?_)
    · replace h := (if_pos c4).symm.trans h
      refine g_run 2 (pc' := 38) (L' := [some (.int x1), some (.int x2)]) (S' := [.int 1, .int x2]) (M' := gm g) rfl ?_
      refine g_icmp (¬ x2 = 1) rfl (t := 45) rfl rfl (fun c5 => ?_) (fun c5 => ?_)
      · replace h := (if_pos c5).symm.trans h
        refine g_run 2 (pc' := 47) (L' := [some (.int x1), some (.int x2)]) (S' := [.int 2, .int x2]) (M' := gm g) rfl ?_
        refine g_icmp (¬ x2 = 2) rfl (t := 55) rfl rfl (fun c6 => ?_) (fun c6 => ?_)
        · replace h := (if_pos c6).symm.trans h
          refine g_run 2 (pc' := 57) (L' := [some (.int x1), some (.int x2)]) (S' := [.int 3, .int x2]) (M' := gm g) rfl ?_
          refine g_icmp (¬ x2 = 3) rfl (t := 65) rfl rfl (fun c7 => ?_) (fun c7 => ?_)
          · replace h := (if_pos c7).symm.trans h
            refine g_run 1 (pc' := 66) (L' := [some (.int x1), some (.int x2)]) (S' := [.int 1]) (M' := gm g) rfl ?_
            cases h
            exact g_ret rfl rfl rfl rfl
          · replace h := (if_neg c7).symm.trans h
            refine g_run 2 (pc' := 66) (L' := [some (.int x1), some (.int x2)]) (S' := [.int 20]) (M' := gm g) rfl ?_
            cases h
            exact g_ret rfl rfl rfl rfl
        · replace h := (if_neg c6).symm.trans h
          refine g_run 2 (pc' := 66) (L' := [some (.int x1), some (.int x2)]) (S' := [.int 30]) (M' := gm g) rfl ?_
          cases h
          exact g_ret rfl rfl rfl rfl
      · replace h := (if_neg c5).symm.trans h
        refine g_run 2 (pc' := 66) (L' := [some (.int x1), some (.int x2)]) (S' := [.int 4]) (M' := gm g) rfl ?_
        cases h
        exact g_ret rfl rfl rfl rfl
    · replace h := (if_neg c4).symm.trans h
      refine g_run 2 (pc' := 66) (L' := [some (.int x1), some (.int x2)]) (S' := [.int 5]) (M' := gm g) rfl ?_
      cases h
      exact g_ret rfl rfl rfl rfl
  replace h := (if_neg c3).symm.trans h
  refine g_lsd rfl rfl (off := 77) (by show Op.lookupswitch.offset [(112, 66), (115, 27)] 77 (x1).toInt = _; rw [lv_osw (a := 112) c1 rfl]; rw [lv_osw (a := 115) c3 rfl]; rfl) (t := 78) rfl ?_
  refine g_run 2 (pc' := 80) (L' := [some (.int x1), some (.int x2)]) (S' := [.int 1, .int x2]) (M' := gm g) rfl ?_
  refine g_icmp (¬ x2 = 1) rfl (t := 87) rfl rfl (fun c8 => ?_) (fun c8 => ?_)
  · replace h := (if_pos c8).symm.trans h
    refine g_run 1 (pc' := 88) (L' := [some (.int x1), some (.int x2)]) (S' := [.int 0]) (M' := gm g) rfl ?_
    cases h
    exact g_ret rfl rfl rfl rfl
  · replace h := (if_neg c8).symm.trans h
    refine g_run 2 (pc' := 88) (L' := [some (.int x1), some (.int x2)]) (S' := [.int 3]) (M' := gm g) rfl ?_
    cases h
    exact g_ret rfl rfl rfl rfl
def f_X12_items_126 (b2 : Nat) (k41 : Int32 → Int32 → Int32 → Int32 → zSg → Option (Unit × zSg)) (y1 : Int32) (y3 : Int32) (y5 : Int32) (s0 : Int32) (g : zSg) : Option (Unit × zSg) := k41 (y1) (y3) (y5) (s0) g
set_option maxRecDepth 100000 in
set_option maxHeartbeats 4000000 in
theorem p_X12_items_126 {sc : zSc} {hp : zHp} {d : Nat} (hD : 3 ≤ d) (b2 : Nat) (hb2 : (zK0 b2).1 = 13) (k41 : Int32 → Int32 → Int32 → Int32 → zSg → Option (Unit × zSg)) (hk41 : ∀ (y1 : Int32) (y3 : Int32) (y5 : Int32) (y6 : Int32) (g : zSg) (r : Unit × zSg), k41 y1 y3 y5 y6 g = some r → zG d sc hp (zcd zM_X12_items) 41 [some (.ref 526), some (.int y1), some (.ref b2), some (.int y3), none, some (.int y5), some (.int y6)] [] (gm g) (none, gm r.2)) (y1 : Int32) (y3 : Int32) (y5 : Int32) (s0 : Int32) (g : zSg) (r : Unit × zSg) (h : f_X12_items_126 b2 k41 y1 y3 y5 s0 g = some r) : zG d sc hp (zcd zM_X12_items) 126 [some (.ref 526), some (.int y1), some (.ref b2), some (.int y3), none, some (.int y5), none] [.int s0] (gm g) (none, gm r.2) := by
  obtain ⟨d, rfl⟩ : ∃ d', d = d' + 1 := ⟨d - 1, by omega⟩
  unfold f_X12_items_126 at h
  refine g_run 2 (pc' := 41) (L' := [some (.ref 526), some (.int y1), some (.ref b2), some (.int y3), none, some (.int y5), some (.int s0)]) (S' := []) (M' := gm g) rfl ?_
  exact hk41 (y1) (y3) (y5) (s0) g _ h
def fb_X12_items_41 (b2 : Nat) (kk : Int32 → Int32 → Int32 → Int32 → zSg → Option (Unit × zSg)) (y1 : Int32) (y3 : Int32) (y5 : Int32) (y6 : Int32) (g : zSg) : Option (Unit × zSg) := (if ¬ (gI g 526 4) = (-1) then some ((), g) else (if y6 = (-1) then some ((), g) else (zB (f_X12_has y5 y6 g) (fun v3 g4 => (if ¬ v3 = 0 then some ((), g4) else (zB (f_X12_lowest y1 y6 (gsI g4 526 3 ((gI g4 526 3) + 1))) (fun v7 g8 => (zB (f_X12_highest y1 y6 g8) (fun v10 g11 => (zB (f_X12_number v7 v10 g11) (fun v13 g14 => (if zib (y3 + y6) (zK0 (b2)).2 = true then (if ¬ (gI (gsI g14 (b2) (ix (y3 + y6)) v13) 526 4) = (-1) then f_X12_items_126 b2 kk (y1) (y3) (y5 ||| (1 <<< (y6 &&& 31))) (-1) (gsI g14 (b2) (ix (y3 + y6)) v13) else (zB (f_X12_look (gsI g14 (b2) (ix (y3 + y6)) v13)) (fun v18 g19 => (zB (f_X12_itemOf y1 v18 g19) (fun v21 g22 => f_X12_items_126 b2 kk (y1) (y3) (y5 ||| (1 <<< (y6 &&& 31))) (v21) g22))))) else none))))))))))))
def f_X12_items_41 (b2 : Nat) : Nat → Int32 → Int32 → Int32 → Int32 → zSg → Option (Unit × zSg)
  | 0, _, _, _, _, _ => none
  | n + 1, y1, y3, y5, y6, g => fb_X12_items_41 b2 (f_X12_items_41 b2 n) y1 y3 y5 y6 g
set_option maxRecDepth 100000 in
set_option maxHeartbeats 4000000 in
theorem p_X12_items_41 {sc : zSc} {hp : zHp} {d : Nat} (hD : 3 ≤ d) (b2 : Nat) (hb2 : (zK0 b2).1 = 13) : ∀ (n : Nat) (y1 : Int32) (y3 : Int32) (y5 : Int32) (y6 : Int32) (g : zSg) (r : Unit × zSg), f_X12_items_41 b2 n y1 y3 y5 y6 g = some r → zG d sc hp (zcd zM_X12_items) 41 [some (.ref 526), some (.int y1), some (.ref b2), some (.int y3), none, some (.int y5), some (.int y6)] [] (gm g) (none, gm r.2) := by
  obtain ⟨d, rfl⟩ : ∃ d', d = d' + 1 := ⟨d - 1, by omega⟩
  intro n
  induction n with
  | zero => intro y1 y3 y5 y6 g r h; cases h
  | succ n ih =>
    intro y1 y3 y5 y6 g r h
    replace h : fb_X12_items_41 b2 (f_X12_items_41 b2 n) y1 y3 y5 y6 g = some r := h
    unfold fb_X12_items_41 at h
    refine g_run 3 (pc' := 46) (L' := [some (.ref 526), some (.int y1), some (.ref b2), some (.int y3), none, some (.int y5), some (.int y6)]) (S' := [.int (-1), .int ((gI g 526 4))]) (M' := gm g) rfl ?_
    refine g_icmp (¬ (gI g 526 4) = (-1)) rfl (t := 131) rfl rfl (fun c1 => ?_) (fun c1 => ?_)
    · replace h := (if_pos c1).symm.trans h
      cases h
      exact g_ret rfl rfl rfl rfl
    · replace h := (if_neg c1).symm.trans h
      refine g_run 2 (pc' := 52) (L' := [some (.ref 526), some (.int y1), some (.ref b2), some (.int y3), none, some (.int y5), some (.int y6)]) (S' := [.int (-1), .int y6]) (M' := gm g) rfl ?_
      refine g_icmp (y6 = (-1)) rfl (t := 131) rfl rfl (fun c2 => ?_) (fun c2 => ?_)
      · replace h := (if_pos c2).symm.trans h
        cases h
        exact g_ret rfl rfl rfl rfl
      · replace h := (if_neg c2).symm.trans h
        refine g_run 2 (pc' := 59) (L' := [some (.ref 526), some (.int y1), some (.ref b2), some (.int y3), none, some (.int y5), some (.int y6)]) (S' := [.int y6, .int y5]) (M' := gm g) rfl ?_
        replace h := zB_of h
        obtain ⟨v3, g4, e5, h⟩ := h
        refine g_inv2 (kd := 0) (p_X12_has  e5) rfl rfl rfl (by decide) rfl rfl rfl rfl (by omega) (pc' := 62) rfl (S' := [.int v3]) rfl ?_
        refine g_if (¬ v3 = 0) rfl (t := 131) rfl rfl (fun c6 => ?_) (fun c6 => ?_)
        · replace h := (if_pos c6).symm.trans h
          cases h
          exact g_ret rfl rfl rfl rfl
        · replace h := (if_neg c6).symm.trans h
          refine g_run 19 (pc' := 93) (L' := [some (.ref 526), some (.int y1), some (.ref b2), some (.int y3), none, some (.int ((y5 ||| (1 <<< (y6 &&& 31))))), some (.int y6)]) (S' := [.int y6, .int y1, .ref 526, .int ((y3 + y6)), .ref b2]) (M' := gm (gsI g4 526 3 ((gI g4 526 3) + 1))) rfl ?_
          replace h := zB_of h
          obtain ⟨v7, g8, e9, h⟩ := h
          refine g_inv2 (kd := 0) (p_X12_lowest  e9) rfl rfl rfl (by decide) rfl rfl rfl rfl (by omega) (pc' := 96) rfl (S' := [.int v7, .ref 526, .int ((y3 + y6)), .ref b2]) rfl ?_
          refine g_run 2 (pc' := 99) (L' := [some (.ref 526), some (.int y1), some (.ref b2), some (.int y3), none, some (.int ((y5 ||| (1 <<< (y6 &&& 31))))), some (.int y6)]) (S' := [.int y6, .int y1, .int v7, .ref 526, .int ((y3 + y6)), .ref b2]) (M' := gm g8) rfl ?_
          replace h := zB_of h
          obtain ⟨v10, g11, e12, h⟩ := h
          refine g_inv2 (kd := 0) (p_X12_highest  e12) rfl rfl rfl (by decide) rfl rfl rfl rfl (by omega) (pc' := 102) rfl (S' := [.int v10, .int v7, .ref 526, .int ((y3 + y6)), .ref b2]) rfl ?_
          replace h := zB_of h
          obtain ⟨v13, g14, e15, h⟩ := h
          refine g_inv2 (kd := 1) (p_X12_number  e15) rfl rfl rfl (by decide) rfl rfl rfl rfl (by omega) (pc' := 105) rfl (S' := [.int v13, .int ((y3 + y6)), .ref b2]) rfl ?_
          by_cases c16 : zib (y3 + y6) (zK0 (b2)).2 = true
          case neg => exact nomatch ((if_neg c16).symm.trans h)
          replace h := (if_pos c16).symm.trans h
          refine g_iast rfl (a := b2) hb2 c16 ?_
          refine g_run 3 (pc' := 111) (L' := [some (.ref 526), some (.int y1), some (.ref b2), some (.int y3), none, some (.int ((y5 ||| (1 <<< (y6 &&& 31))))), some (.int y6)]) (S' := [.int (-1), .int ((gI (gsI g14 (b2) (ix (y3 + y6)) v13) 526 4))]) (M' := gm (gsI g14 (b2) (ix (y3 + y6)) v13)) rfl ?_
          refine g_icmp (¬ (gI (gsI g14 (b2) (ix (y3 + y6)) v13) 526 4) = (-1)) rfl (t := 125) rfl rfl (fun c17 => ?_) (fun c17 => ?_)
          · replace h := (if_pos c17).symm.trans h
            refine g_run 1 (pc' := 126) (L' := [some (.ref 526), some (.int y1), some (.ref b2), some (.int y3), none, some (.int ((y5 ||| (1 <<< (y6 &&& 31))))), some (.int y6)]) (S' := [.int (-1)]) (M' := gm (gsI g14 (b2) (ix (y3 + y6)) v13)) rfl ?_
            refine g_forget (L' := [some (.ref 526), some (.int y1), some (.ref b2), some (.int y3), none, some (.int ((y5 ||| (1 <<< (y6 &&& 31))))), none]) (And.intro rfl (And.intro rfl (And.intro rfl (And.intro rfl (And.intro rfl True.intro))))) ?_
            exact p_X12_items_126 hD b2 hb2 (f_X12_items_41 b2 n) ih (y1) (y3) (y5 ||| (1 <<< (y6 &&& 31))) (-1) (gsI g14 (b2) (ix (y3 + y6)) v13) _ h
          · replace h := (if_neg c17).symm.trans h
            refine g_run 2 (pc' := 116) (L' := [some (.ref 526), some (.int y1), some (.ref b2), some (.int y3), none, some (.int ((y5 ||| (1 <<< (y6 &&& 31))))), some (.int y6)]) (S' := [.ref 526, .int y1]) (M' := gm (gsI g14 (b2) (ix (y3 + y6)) v13)) rfl ?_
            replace h := zB_of h
            obtain ⟨v18, g19, e20, h⟩ := h
            refine g_inv2 (kd := 1) (p_X12_look  e20) rfl rfl rfl (by decide) rfl rfl rfl rfl (by omega) (pc' := 119) rfl (S' := [.int v18, .int y1]) rfl ?_
            replace h := zB_of h
            obtain ⟨v21, g22, e23, h⟩ := h
            refine g_inv2 (kd := 0) (p_X12_itemOf  e23) rfl rfl rfl (by decide) rfl rfl rfl rfl (by omega) (pc' := 122) rfl (S' := [.int v21]) rfl ?_
            refine g_run 1 (pc' := 126) (L' := [some (.ref 526), some (.int y1), some (.ref b2), some (.int y3), none, some (.int ((y5 ||| (1 <<< (y6 &&& 31))))), some (.int y6)]) (S' := [.int v21]) (M' := gm g22) rfl ?_
            refine g_forget (L' := [some (.ref 526), some (.int y1), some (.ref b2), some (.int y3), none, some (.int ((y5 ||| (1 <<< (y6 &&& 31))))), none]) (And.intro rfl (And.intro rfl (And.intro rfl (And.intro rfl (And.intro rfl True.intro))))) ?_
            exact p_X12_items_126 hD b2 hb2 (f_X12_items_41 b2 n) ih (y1) (y3) (y5 ||| (1 <<< (y6 &&& 31))) (v21) g22 _ h
def f_X12_items_28 (b2 : Nat) (y1 : Int32) (y3 : Int32) (g : zSg) : Option (Unit × zSg) := (zB (f_X12_look g) (fun v1 g2 => (zB (f_X12_itemOf y1 v1 g2) (fun v4 g5 => f_X12_items_41 b2 zFu (y1) (y3) (0) (v4) g5))))
set_option maxRecDepth 100000 in
set_option maxHeartbeats 4000000 in
theorem p_X12_items_28 {sc : zSc} {hp : zHp} {d : Nat} (hD : 3 ≤ d) (b2 : Nat) (hb2 : (zK0 b2).1 = 13) (y1 : Int32) (y3 : Int32) (g : zSg) (r : Unit × zSg) (h : f_X12_items_28 b2 y1 y3 g = some r) : zG d sc hp (zcd zM_X12_items) 28 [some (.ref 526), some (.int y1), some (.ref b2), some (.int y3), none, none, none] [] (gm g) (none, gm r.2) := by
  obtain ⟨d, rfl⟩ : ∃ d', d = d' + 1 := ⟨d - 1, by omega⟩
  unfold f_X12_items_28 at h
  refine g_run 4 (pc' := 33) (L' := [some (.ref 526), some (.int y1), some (.ref b2), some (.int y3), none, some (.int 0), none]) (S' := [.ref 526, .int y1]) (M' := gm g) rfl ?_
  replace h := zB_of h
  obtain ⟨v1, g2, e3, h⟩ := h
  refine g_inv2 (kd := 1) (p_X12_look  e3) rfl rfl rfl (by decide) rfl rfl rfl rfl (by omega) (pc' := 36) rfl (S' := [.int v1, .int y1]) rfl ?_
  replace h := zB_of h
  obtain ⟨v4, g5, e6, h⟩ := h
  refine g_inv2 (kd := 0) (p_X12_itemOf  e6) rfl rfl rfl (by decide) rfl rfl rfl rfl (by omega) (pc' := 39) rfl (S' := [.int v4]) rfl ?_
  refine g_run 1 (pc' := 41) (L' := [some (.ref 526), some (.int y1), some (.ref b2), some (.int y3), none, some (.int 0), some (.int v4)]) (S' := []) (M' := gm g5) rfl ?_
  exact p_X12_items_41 hD b2 hb2 zFu (y1) (y3) (0) (v4) g5 _ h
def fb_X12_items_3 (b2 : Nat) (kk : Int32 → Int32 → Int32 → Int32 → zSg → Option (Unit × zSg)) (y1 : Int32) (y3 : Int32) (y4 : Int32) (y5 : Int32) (g : zSg) : Option (Unit × zSg) := (if y4 ≤ y5 then f_X12_items_28 b2 (y1) (y3) g else (zB (f_X12_usual y1 y5 g) (fun v2 g3 => (if zib (y3 + y5) (zK0 (b2)).2 = true then kk (y1) (y3) (y4) (y5 + 1) (gsI g3 (b2) (ix (y3 + y5)) v2) else none))))
def f_X12_items_3 (b2 : Nat) : Nat → Int32 → Int32 → Int32 → Int32 → zSg → Option (Unit × zSg)
  | 0, _, _, _, _, _ => none
  | n + 1, y1, y3, y4, y5, g => fb_X12_items_3 b2 (f_X12_items_3 b2 n) y1 y3 y4 y5 g
set_option maxRecDepth 100000 in
set_option maxHeartbeats 4000000 in
theorem p_X12_items_3 {sc : zSc} {hp : zHp} {d : Nat} (hD : 3 ≤ d) (b2 : Nat) (hb2 : (zK0 b2).1 = 13) : ∀ (n : Nat) (y1 : Int32) (y3 : Int32) (y4 : Int32) (y5 : Int32) (g : zSg) (r : Unit × zSg), f_X12_items_3 b2 n y1 y3 y4 y5 g = some r → zG d sc hp (zcd zM_X12_items) 3 [some (.ref 526), some (.int y1), some (.ref b2), some (.int y3), some (.int y4), some (.int y5), none] [] (gm g) (none, gm r.2) := by
  obtain ⟨d, rfl⟩ : ∃ d', d = d' + 1 := ⟨d - 1, by omega⟩
  intro n
  induction n with
  | zero => intro y1 y3 y4 y5 g r h; cases h
  | succ n ih =>
    intro y1 y3 y4 y5 g r h
    replace h : fb_X12_items_3 b2 (f_X12_items_3 b2 n) y1 y3 y4 y5 g = some r := h
    unfold fb_X12_items_3 at h
    refine g_run 2 (pc' := 7) (L' := [some (.ref 526), some (.int y1), some (.ref b2), some (.int y3), some (.int y4), some (.int y5), none]) (S' := [.int y4, .int y5]) (M' := gm g) rfl ?_
    refine g_icmp (y4 ≤ y5) rfl (t := 28) rfl rfl (fun c1 => ?_) (fun c1 => ?_)
    · replace h := (if_pos c1).symm.trans h
      refine g_forget (L' := [some (.ref 526), some (.int y1), some (.ref b2), some (.int y3), none, none, none]) (And.intro rfl (And.intro rfl (And.intro rfl (And.intro rfl True.intro)))) ?_
      exact p_X12_items_28 hD b2 hb2 (y1) (y3) g _ h
    · replace h := (if_neg c1).symm.trans h
      refine g_run 6 (pc' := 18) (L' := [some (.ref 526), some (.int y1), some (.ref b2), some (.int y3), some (.int y4), some (.int y5), none]) (S' := [.int y5, .int y1, .int ((y3 + y5)), .ref b2]) (M' := gm g) rfl ?_
      replace h := zB_of h
      obtain ⟨v2, g3, e4, h⟩ := h
      refine g_inv2 (kd := 0) (p_X12_usual  e4) rfl rfl rfl (by decide) rfl rfl rfl rfl (by omega) (pc' := 21) rfl (S' := [.int v2, .int ((y3 + y5)), .ref b2]) rfl ?_
      by_cases c5 : zib (y3 + y5) (zK0 (b2)).2 = true
      case neg => exact nomatch ((if_neg c5).symm.trans h)
      replace h := (if_pos c5).symm.trans h
      refine g_iast rfl (a := b2) hb2 c5 ?_
      refine g_run 2 (pc' := 3) (L' := [some (.ref 526), some (.int y1), some (.ref b2), some (.int y3), some (.int y4), some (.int ((y5 + 1))), none]) (S' := []) (M' := gm (gsI g3 (b2) (ix (y3 + y5)) v2)) rfl ?_
      exact ih (y1) (y3) (y4) (y5 + 1) (gsI g3 (b2) (ix (y3 + y5)) v2) _ h
def f_X12_items (b2 : Nat) (x1 : Int32) (x3 : Int32) (x4 : Int32) (g : zSg) : Option (Unit × zSg) := f_X12_items_3 b2 zFu (x1) (x3) (x4) (0) g
set_option maxRecDepth 100000 in
set_option maxHeartbeats 4000000 in
theorem p_X12_items {sc : zSc} {hp : zHp} (b2 : Nat) (hb2 : (zK0 b2).1 = 13) {x1 : Int32} {x3 : Int32} {x4 : Int32} {g : zSg} {r : Unit × zSg} (h : f_X12_items b2 x1 x3 x4 g = some r) : zRn sc hp 3 zM_X12_items [.ref 526, .int x1, .ref b2, .int x3, .int x4] (gm g) none (gm r.2) := by
  intro d hD
  obtain ⟨d, rfl⟩ : ∃ d', d = d' + 1 := ⟨d - 1, by omega⟩
  show zG _ sc hp (zcd zM_X12_items) 0 [some (.ref 526), some (.int x1), some (.ref b2), some (.int x3), some (.int x4), none, none] [] (gm g) _
  unfold f_X12_items at h
  refine g_run 2 (pc' := 3) (L' := [some (.ref 526), some (.int x1), some (.ref b2), some (.int x3), some (.int x4), some (.int 0), none]) (S' := []) (M' := gm g) rfl ?_
  exact p_X12_items_3 hD b2 hb2 zFu (x1) (x3) (x4) (0) g _ h
def f_X12_isWhole_159 (k87 : Int32 → Int32 → zSg → Option (Int32 × zSg)) (y2 : Int32) (s0 : Int32) (g : zSg) : Option (Int32 × zSg) := k87 (s0) (y2 + 1) g
set_option maxRecDepth 100000 in
set_option maxHeartbeats 4000000 in
theorem p_X12_isWhole_159 {sc : zSc} {hp : zHp} {d : Nat} (hD : 0 ≤ d) (k87 : Int32 → Int32 → zSg → Option (Int32 × zSg)) (hk87 : ∀ (y1 : Int32) (y2 : Int32) (g : zSg) (r : Int32 × zSg), k87 y1 y2 g = some r → zG d sc hp (zcd zM_X12_isWhole) 87 [some (.ref 526), some (.int y1), some (.int y2)] [] (gm g) ((some (.int r.1)), gm r.2)) (y2 : Int32) (s0 : Int32) (g : zSg) (r : Int32 × zSg) (h : f_X12_isWhole_159 k87 y2 s0 g = some r) : zG d sc hp (zcd zM_X12_isWhole) 159 [some (.ref 526), none, some (.int y2)] [.int s0] (gm g) ((some (.int r.1)), gm r.2) := by
  unfold f_X12_isWhole_159 at h
  refine g_run 3 (pc' := 87) (L' := [some (.ref 526), some (.int s0), some (.int ((y2 + 1)))]) (S' := []) (M' := gm g) rfl ?_
  exact hk87 (s0) (y2 + 1) g _ h
def f_X12_isWhole_158 (k87 : Int32 → Int32 → zSg → Option (Int32 × zSg)) (y2 : Int32) (g : zSg) : Option (Int32 × zSg) := f_X12_isWhole_159 k87 (y2) (0) g
set_option maxRecDepth 100000 in
set_option maxHeartbeats 4000000 in
theorem p_X12_isWhole_158 {sc : zSc} {hp : zHp} {d : Nat} (hD : 0 ≤ d) (k87 : Int32 → Int32 → zSg → Option (Int32 × zSg)) (hk87 : ∀ (y1 : Int32) (y2 : Int32) (g : zSg) (r : Int32 × zSg), k87 y1 y2 g = some r → zG d sc hp (zcd zM_X12_isWhole) 87 [some (.ref 526), some (.int y1), some (.int y2)] [] (gm g) ((some (.int r.1)), gm r.2)) (y2 : Int32) (g : zSg) (r : Int32 × zSg) (h : f_X12_isWhole_158 k87 y2 g = some r) : zG d sc hp (zcd zM_X12_isWhole) 158 [some (.ref 526), none, some (.int y2)] [] (gm g) ((some (.int r.1)), gm r.2) := by
  unfold f_X12_isWhole_158 at h
  refine g_run 1 (pc' := 159) (L' := [some (.ref 526), none, some (.int y2)]) (S' := [.int 0]) (M' := gm g) rfl ?_
  exact p_X12_isWhole_159 hD k87 hk87 (y2) (0) g _ h
def fb_X12_isWhole_87 (kk : Int32 → Int32 → zSg → Option (Int32 × zSg)) (y1 : Int32) (y2 : Int32) (g : zSg) : Option (Int32 × zSg) := (if (gI g 526 21) ≤ y2 then (if y1 = 0 ∨ y1 = 1 then some (y1, g) else none) else (if y1 = 0 then f_X12_isWhole_158 kk (y2) g else (if zib ((4 * y2) + 0) 24 = true then (if (gI g 526 20) ≤ (gI g 539 (ix ((4 * y2) + 0))) then f_X12_isWhole_158 kk (y2) g else (if zib ((4 * y2) + 2) 24 = true then (if (gI g 537 0) ≤ (gI g 539 (ix ((4 * y2) + 2))) then f_X12_isWhole_158 kk (y2) g else (if zib ((4 * y2) + 3) 24 = true then (if (gI g 537 1) ≤ (gI g 539 (ix ((4 * y2) + 3))) then f_X12_isWhole_158 kk (y2) g else f_X12_isWhole_159 kk (y2) (1) g) else none)) else none)) else none)))
def f_X12_isWhole_87 : Nat → Int32 → Int32 → zSg → Option (Int32 × zSg)
  | 0, _, _, _ => none
  | n + 1, y1, y2, g => fb_X12_isWhole_87 (f_X12_isWhole_87 n) y1 y2 g
set_option maxRecDepth 100000 in
set_option maxHeartbeats 4000000 in
theorem p_X12_isWhole_87 {sc : zSc} {hp : zHp} {d : Nat} (hD : 0 ≤ d) : ∀ (n : Nat) (y1 : Int32) (y2 : Int32) (g : zSg) (r : Int32 × zSg), f_X12_isWhole_87 n y1 y2 g = some r → zG d sc hp (zcd zM_X12_isWhole) 87 [some (.ref 526), some (.int y1), some (.int y2)] [] (gm g) ((some (.int r.1)), gm r.2) := by
  intro n
  induction n with
  | zero => intro y1 y2 g r h; cases h
  | succ n ih =>
    intro y1 y2 g r h
    replace h : fb_X12_isWhole_87 (f_X12_isWhole_87 n) y1 y2 g = some r := h
    unfold fb_X12_isWhole_87 at h
    refine g_run 3 (pc' := 92) (L' := [some (.ref 526), some (.int y1), some (.int y2)]) (S' := [.int ((gI g 526 21)), .int y2]) (M' := gm g) rfl ?_
    refine g_icmp ((gI g 526 21) ≤ y2) rfl (t := 166) rfl rfl (fun c1 => ?_) (fun c1 => ?_)
    · replace h := (if_pos c1).symm.trans h
      refine g_run 1 (pc' := 167) (L' := [some (.ref 526), some (.int y1), some (.int y2)]) (S' := [.int y1]) (M' := gm g) rfl ?_
      by_cases c2 : y1 = 0 ∨ y1 = 1
      case neg => exact nomatch ((if_neg c2).symm.trans h)
      replace h := (if_pos c2).symm.trans h
      cases h
      exact g_retz rfl rfl c2
    · replace h := (if_neg c1).symm.trans h
      refine g_run 1 (pc' := 96) (L' := [some (.ref 526), some (.int y1), some (.int y2)]) (S' := [.int y1]) (M' := gm g) rfl ?_
      refine g_if (y1 = 0) rfl (t := 158) rfl rfl (fun c3 => ?_) (fun c3 => ?_)
      · replace h := (if_pos c3).symm.trans h
        refine g_forget (L' := [some (.ref 526), none, some (.int y2)]) (And.intro rfl (And.intro rfl True.intro)) ?_
        exact p_X12_isWhole_158 hD (f_X12_isWhole_87 n) ih (y2) g _ h
      · replace h := (if_neg c3).symm.trans h
        refine g_run 7 (pc' := 108) (L' := [some (.ref 526), some (.int y1), some (.int y2)]) (S' := [.int (((4 * y2) + 0)), .ref 539]) (M' := gm g) rfl ?_
        by_cases c4 : zib ((4 * y2) + 0) 24 = true
        case neg => exact nomatch ((if_neg c4).symm.trans h)
        replace h := (if_pos c4).symm.trans h
        refine g_iald rfl (a := 539) rfl c4 ?_
        refine g_run 2 (pc' := 113) (L' := [some (.ref 526), some (.int y1), some (.int y2)]) (S' := [.int ((gI g 526 20)), .int ((gI g 539 (ix ((4 * y2) + 0))))]) (M' := gm g) rfl ?_
        refine g_icmp ((gI g 526 20) ≤ (gI g 539 (ix ((4 * y2) + 0)))) rfl (t := 158) rfl rfl (fun c5 => ?_) (fun c5 => ?_)
        · replace h := (if_pos c5).symm.trans h
          refine g_forget (L' := [some (.ref 526), none, some (.int y2)]) (And.intro rfl (And.intro rfl True.intro)) ?_
          exact p_X12_isWhole_158 hD (f_X12_isWhole_87 n) ih (y2) g _ h
        · replace h := (if_neg c5).symm.trans h
          refine g_run 7 (pc' := 125) (L' := [some (.ref 526), some (.int y1), some (.int y2)]) (S' := [.int (((4 * y2) + 2)), .ref 539]) (M' := gm g) rfl ?_
          by_cases c6 : zib ((4 * y2) + 2) 24 = true
          case neg => exact nomatch ((if_neg c6).symm.trans h)
          replace h := (if_pos c6).symm.trans h
          refine g_iald rfl (a := 539) rfl c6 ?_
          refine g_run 4 (pc' := 132) (L' := [some (.ref 526), some (.int y1), some (.int y2)]) (S' := [.int ((gI g 537 0)), .int ((gI g 539 (ix ((4 * y2) + 2))))]) (M' := gm g) rfl ?_
          refine g_icmp ((gI g 537 0) ≤ (gI g 539 (ix ((4 * y2) + 2)))) rfl (t := 158) rfl rfl (fun c7 => ?_) (fun c7 => ?_)
          · replace h := (if_pos c7).symm.trans h
            refine g_forget (L' := [some (.ref 526), none, some (.int y2)]) (And.intro rfl (And.intro rfl True.intro)) ?_
            exact p_X12_isWhole_158 hD (f_X12_isWhole_87 n) ih (y2) g _ h
          · replace h := (if_neg c7).symm.trans h
            refine g_run 7 (pc' := 144) (L' := [some (.ref 526), some (.int y1), some (.int y2)]) (S' := [.int (((4 * y2) + 3)), .ref 539]) (M' := gm g) rfl ?_
            by_cases c8 : zib ((4 * y2) + 3) 24 = true
            case neg => exact nomatch ((if_neg c8).symm.trans h)
            replace h := (if_pos c8).symm.trans h
            refine g_iald rfl (a := 539) rfl c8 ?_
            refine g_run 4 (pc' := 151) (L' := [some (.ref 526), some (.int y1), some (.int y2)]) (S' := [.int ((gI g 537 1)), .int ((gI g 539 (ix ((4 * y2) + 3))))]) (M' := gm g) rfl ?_
            refine g_icmp ((gI g 537 1) ≤ (gI g 539 (ix ((4 * y2) + 3)))) rfl (t := 158) rfl rfl (fun c9 => ?_) (fun c9 => ?_)
            · replace h := (if_pos c9).symm.trans h
              refine g_forget (L' := [some (.ref 526), none, some (.int y2)]) (And.intro rfl (And.intro rfl True.intro)) ?_
              exact p_X12_isWhole_158 hD (f_X12_isWhole_87 n) ih (y2) g _ h
            · replace h := (if_neg c9).symm.trans h
              refine g_run 2 (pc' := 159) (L' := [some (.ref 526), some (.int y1), some (.int y2)]) (S' := [.int 1]) (M' := gm g) rfl ?_
              refine g_forget (L' := [some (.ref 526), none, some (.int y2)]) (And.intro rfl (And.intro rfl True.intro)) ?_
              exact p_X12_isWhole_159 hD (f_X12_isWhole_87 n) ih (y2) (1) g _ h
def f_X12_isWhole_85 (y1 : Int32) (g : zSg) : Option (Int32 × zSg) := f_X12_isWhole_87 zFu (y1) (0) g
set_option maxRecDepth 100000 in
set_option maxHeartbeats 4000000 in
theorem p_X12_isWhole_85 {sc : zSc} {hp : zHp} {d : Nat} (hD : 0 ≤ d) (y1 : Int32) (g : zSg) (r : Int32 × zSg) (h : f_X12_isWhole_85 y1 g = some r) : zG d sc hp (zcd zM_X12_isWhole) 85 [some (.ref 526), some (.int y1), none] [] (gm g) ((some (.int r.1)), gm r.2) := by
  unfold f_X12_isWhole_85 at h
  refine g_run 2 (pc' := 87) (L' := [some (.ref 526), some (.int y1), some (.int 0)]) (S' := []) (M' := gm g) rfl ?_
  exact p_X12_isWhole_87 hD zFu (y1) (0) g _ h
def f_X12_isWhole_78 (k23 : Int32 → Int32 → zSg → Option (Int32 × zSg)) (y2 : Int32) (s0 : Int32) (g : zSg) : Option (Int32 × zSg) := k23 (s0) (y2 + 1) g
set_option maxRecDepth 100000 in
set_option maxHeartbeats 4000000 in
theorem p_X12_isWhole_78 {sc : zSc} {hp : zHp} {d : Nat} (hD : 0 ≤ d) (k23 : Int32 → Int32 → zSg → Option (Int32 × zSg)) (hk23 : ∀ (y1 : Int32) (y2 : Int32) (g : zSg) (r : Int32 × zSg), k23 y1 y2 g = some r → zG d sc hp (zcd zM_X12_isWhole) 23 [some (.ref 526), some (.int y1), some (.int y2)] [] (gm g) ((some (.int r.1)), gm r.2)) (y2 : Int32) (s0 : Int32) (g : zSg) (r : Int32 × zSg) (h : f_X12_isWhole_78 k23 y2 s0 g = some r) : zG d sc hp (zcd zM_X12_isWhole) 78 [some (.ref 526), none, some (.int y2)] [.int s0] (gm g) ((some (.int r.1)), gm r.2) := by
  unfold f_X12_isWhole_78 at h
  refine g_run 3 (pc' := 23) (L' := [some (.ref 526), some (.int s0), some (.int ((y2 + 1)))]) (S' := []) (M' := gm g) rfl ?_
  exact hk23 (s0) (y2 + 1) g _ h
def f_X12_isWhole_77 (k23 : Int32 → Int32 → zSg → Option (Int32 × zSg)) (y2 : Int32) (g : zSg) : Option (Int32 × zSg) := f_X12_isWhole_78 k23 (y2) (0) g
set_option maxRecDepth 100000 in
set_option maxHeartbeats 4000000 in
theorem p_X12_isWhole_77 {sc : zSc} {hp : zHp} {d : Nat} (hD : 0 ≤ d) (k23 : Int32 → Int32 → zSg → Option (Int32 × zSg)) (hk23 : ∀ (y1 : Int32) (y2 : Int32) (g : zSg) (r : Int32 × zSg), k23 y1 y2 g = some r → zG d sc hp (zcd zM_X12_isWhole) 23 [some (.ref 526), some (.int y1), some (.int y2)] [] (gm g) ((some (.int r.1)), gm r.2)) (y2 : Int32) (g : zSg) (r : Int32 × zSg) (h : f_X12_isWhole_77 k23 y2 g = some r) : zG d sc hp (zcd zM_X12_isWhole) 77 [some (.ref 526), none, some (.int y2)] [] (gm g) ((some (.int r.1)), gm r.2) := by
  unfold f_X12_isWhole_77 at h
  refine g_run 1 (pc' := 78) (L' := [some (.ref 526), none, some (.int y2)]) (S' := [.int 0]) (M' := gm g) rfl ?_
  exact p_X12_isWhole_78 hD k23 hk23 (y2) (0) g _ h
def fb_X12_isWhole_23 (kk : Int32 → Int32 → zSg → Option (Int32 × zSg)) (y1 : Int32) (y2 : Int32) (g : zSg) : Option (Int32 × zSg) := (if (gI g 526 20) ≤ y2 then f_X12_isWhole_85 (y1) g else (if y1 = 0 then f_X12_isWhole_77 kk (y2) g else (if zib ((3 * y2) + 0) 18 = true then (if (gI g 537 0) ≤ (gI g 538 (ix ((3 * y2) + 0))) then f_X12_isWhole_77 kk (y2) g else (if zib ((3 * y2) + 1) 18 = true then (if (gI g 537 1) ≤ (gI g 538 (ix ((3 * y2) + 1))) then f_X12_isWhole_77 kk (y2) g else f_X12_isWhole_78 kk (y2) (1) g) else none)) else none)))
def f_X12_isWhole_23 : Nat → Int32 → Int32 → zSg → Option (Int32 × zSg)
  | 0, _, _, _ => none
  | n + 1, y1, y2, g => fb_X12_isWhole_23 (f_X12_isWhole_23 n) y1 y2 g
set_option maxRecDepth 100000 in
set_option maxHeartbeats 4000000 in
theorem p_X12_isWhole_23 {sc : zSc} {hp : zHp} {d : Nat} (hD : 0 ≤ d) : ∀ (n : Nat) (y1 : Int32) (y2 : Int32) (g : zSg) (r : Int32 × zSg), f_X12_isWhole_23 n y1 y2 g = some r → zG d sc hp (zcd zM_X12_isWhole) 23 [some (.ref 526), some (.int y1), some (.int y2)] [] (gm g) ((some (.int r.1)), gm r.2) := by
  intro n
  induction n with
  | zero => intro y1 y2 g r h; cases h
  | succ n ih =>
    intro y1 y2 g r h
    replace h : fb_X12_isWhole_23 (f_X12_isWhole_23 n) y1 y2 g = some r := h
    unfold fb_X12_isWhole_23 at h
    refine g_run 3 (pc' := 28) (L' := [some (.ref 526), some (.int y1), some (.int y2)]) (S' := [.int ((gI g 526 20)), .int y2]) (M' := gm g) rfl ?_
    refine g_icmp ((gI g 526 20) ≤ y2) rfl (t := 85) rfl rfl (fun c1 => ?_) (fun c1 => ?_)
    · replace h := (if_pos c1).symm.trans h
      refine g_forget (L' := [some (.ref 526), some (.int y1), none]) (And.intro rfl (And.intro rfl True.intro)) ?_
      exact p_X12_isWhole_85 hD (y1) g _ h
    · replace h := (if_neg c1).symm.trans h
      refine g_run 1 (pc' := 32) (L' := [some (.ref 526), some (.int y1), some (.int y2)]) (S' := [.int y1]) (M' := gm g) rfl ?_
      refine g_if (y1 = 0) rfl (t := 77) rfl rfl (fun c2 => ?_) (fun c2 => ?_)
      · replace h := (if_pos c2).symm.trans h
        refine g_forget (L' := [some (.ref 526), none, some (.int y2)]) (And.intro rfl (And.intro rfl True.intro)) ?_
        exact p_X12_isWhole_77 hD (f_X12_isWhole_23 n) ih (y2) g _ h
      · replace h := (if_neg c2).symm.trans h
        refine g_run 7 (pc' := 44) (L' := [some (.ref 526), some (.int y1), some (.int y2)]) (S' := [.int (((3 * y2) + 0)), .ref 538]) (M' := gm g) rfl ?_
        by_cases c3 : zib ((3 * y2) + 0) 18 = true
        case neg => exact nomatch ((if_neg c3).symm.trans h)
        replace h := (if_pos c3).symm.trans h
        refine g_iald rfl (a := 538) rfl c3 ?_
        refine g_run 4 (pc' := 51) (L' := [some (.ref 526), some (.int y1), some (.int y2)]) (S' := [.int ((gI g 537 0)), .int ((gI g 538 (ix ((3 * y2) + 0))))]) (M' := gm g) rfl ?_
        refine g_icmp ((gI g 537 0) ≤ (gI g 538 (ix ((3 * y2) + 0)))) rfl (t := 77) rfl rfl (fun c4 => ?_) (fun c4 => ?_)
        · replace h := (if_pos c4).symm.trans h
          refine g_forget (L' := [some (.ref 526), none, some (.int y2)]) (And.intro rfl (And.intro rfl True.intro)) ?_
          exact p_X12_isWhole_77 hD (f_X12_isWhole_23 n) ih (y2) g _ h
        · replace h := (if_neg c4).symm.trans h
          refine g_run 7 (pc' := 63) (L' := [some (.ref 526), some (.int y1), some (.int y2)]) (S' := [.int (((3 * y2) + 1)), .ref 538]) (M' := gm g) rfl ?_
          by_cases c5 : zib ((3 * y2) + 1) 18 = true
          case neg => exact nomatch ((if_neg c5).symm.trans h)
          replace h := (if_pos c5).symm.trans h
          refine g_iald rfl (a := 538) rfl c5 ?_
          refine g_run 4 (pc' := 70) (L' := [some (.ref 526), some (.int y1), some (.int y2)]) (S' := [.int ((gI g 537 1)), .int ((gI g 538 (ix ((3 * y2) + 1))))]) (M' := gm g) rfl ?_
          refine g_icmp ((gI g 537 1) ≤ (gI g 538 (ix ((3 * y2) + 1)))) rfl (t := 77) rfl rfl (fun c6 => ?_) (fun c6 => ?_)
          · replace h := (if_pos c6).symm.trans h
            refine g_forget (L' := [some (.ref 526), none, some (.int y2)]) (And.intro rfl (And.intro rfl True.intro)) ?_
            exact p_X12_isWhole_77 hD (f_X12_isWhole_23 n) ih (y2) g _ h
          · replace h := (if_neg c6).symm.trans h
            refine g_run 2 (pc' := 78) (L' := [some (.ref 526), some (.int y1), some (.int y2)]) (S' := [.int 1]) (M' := gm g) rfl ?_
            refine g_forget (L' := [some (.ref 526), none, some (.int y2)]) (And.intro rfl (And.intro rfl True.intro)) ?_
            exact p_X12_isWhole_78 hD (f_X12_isWhole_23 n) ih (y2) (1) g _ h
def f_X12_isWhole_20 (s0 : Int32) (g : zSg) : Option (Int32 × zSg) := f_X12_isWhole_23 zFu (s0) (0) g
set_option maxRecDepth 100000 in
set_option maxHeartbeats 4000000 in
theorem p_X12_isWhole_20 {sc : zSc} {hp : zHp} {d : Nat} (hD : 0 ≤ d) (s0 : Int32) (g : zSg) (r : Int32 × zSg) (h : f_X12_isWhole_20 s0 g = some r) : zG d sc hp (zcd zM_X12_isWhole) 20 [some (.ref 526), none, none] [.int s0] (gm g) ((some (.int r.1)), gm r.2) := by
  unfold f_X12_isWhole_20 at h
  refine g_run 3 (pc' := 23) (L' := [some (.ref 526), some (.int s0), some (.int 0)]) (S' := []) (M' := gm g) rfl ?_
  exact p_X12_isWhole_23 hD zFu (s0) (0) g _ h
def f_X12_isWhole_19 (g : zSg) : Option (Int32 × zSg) := f_X12_isWhole_20 (0) g
set_option maxRecDepth 100000 in
set_option maxHeartbeats 4000000 in
theorem p_X12_isWhole_19 {sc : zSc} {hp : zHp} {d : Nat} (hD : 0 ≤ d) (g : zSg) (r : Int32 × zSg) (h : f_X12_isWhole_19 g = some r) : zG d sc hp (zcd zM_X12_isWhole) 19 [some (.ref 526), none, none] [] (gm g) ((some (.int r.1)), gm r.2) := by
  unfold f_X12_isWhole_19 at h
  refine g_run 1 (pc' := 20) (L' := [some (.ref 526), none, none]) (S' := [.int 0]) (M' := gm g) rfl ?_
  exact p_X12_isWhole_20 hD (0) g _ h
def f_X12_isWhole (g : zSg) : Option (Int32 × zSg) := (if (gI g 526 20) ≤ 1 then f_X12_isWhole_19 g else (if (gI g 526 21) ≤ 0 then f_X12_isWhole_19 g else f_X12_isWhole_20 (1) g))
set_option maxRecDepth 100000 in
set_option maxHeartbeats 4000000 in
theorem p_X12_isWhole {sc : zSc} {hp : zHp} {g : zSg} {r : Int32 × zSg} (h : f_X12_isWhole g = some r) : zRn sc hp 0 zM_X12_isWhole [.ref 526] (gm g) (some (.int r.1)) (gm r.2) := by
  intro d hD
  show zG _ sc hp (zcd zM_X12_isWhole) 0 [some (.ref 526), none, none] [] (gm g) _
  unfold f_X12_isWhole at h
  refine g_run 3 (pc' := 5) (L' := [some (.ref 526), none, none]) (S' := [.int 1, .int ((gI g 526 20))]) (M' := gm g) rfl ?_
  refine g_icmp ((gI g 526 20) ≤ 1) rfl (t := 19) rfl rfl (fun c1 => ?_) (fun c1 => ?_)
  · replace h := (if_pos c1).symm.trans h
    exact p_X12_isWhole_19 hD g _ h
  · replace h := (if_neg c1).symm.trans h
    refine g_run 2 (pc' := 12) (L' := [some (.ref 526), none, none]) (S' := [.int ((gI g 526 21))]) (M' := gm g) rfl ?_
    refine g_if ((gI g 526 21) ≤ 0) rfl (t := 19) rfl rfl (fun c2 => ?_) (fun c2 => ?_)
    · replace h := (if_pos c2).symm.trans h
      exact p_X12_isWhole_19 hD g _ h
    · replace h := (if_neg c2).symm.trans h
      refine g_run 2 (pc' := 20) (L' := [some (.ref 526), none, none]) (S' := [.int 1]) (M' := gm g) rfl ?_
      exact p_X12_isWhole_20 hD (1) g _ h
def f_X12_readCoast_285 (g : zSg) : Option (Int32 × zSg) := some ((gI g 526 4), g)
set_option maxRecDepth 100000 in
set_option maxHeartbeats 4000000 in
theorem p_X12_readCoast_285 {sc : zSc} {hp : zHp} {d : Nat} (hD : 4 ≤ d) (g : zSg) (r : Int32 × zSg) (h : f_X12_readCoast_285 g = some r) : zG d sc hp (zcd zM_X12_readCoast) 285 [some (.ref 526), none, none, none] [] (gm g) ((some (.int r.1)), gm r.2) := by
  obtain ⟨d, rfl⟩ : ∃ d', d = d' + 1 := ⟨d - 1, by omega⟩
  unfold f_X12_readCoast_285 at h
  refine g_run 2 (pc' := 289) (L' := [some (.ref 526), none, none, none]) (S' := [.int ((gI g 526 4))]) (M' := gm g) rfl ?_
  cases h
  exact g_ret rfl rfl rfl rfl
def f_X12_readCoast_281 (g : zSg) : Option (Int32 × zSg) := (zB (f_X12_bad g) (fun v1 g2 => f_X12_readCoast_285 g2))
set_option maxRecDepth 100000 in
set_option maxHeartbeats 4000000 in
theorem p_X12_readCoast_281 {sc : zSc} {hp : zHp} {d : Nat} (hD : 4 ≤ d) (g : zSg) (r : Int32 × zSg) (h : f_X12_readCoast_281 g = some r) : zG d sc hp (zcd zM_X12_readCoast) 281 [some (.ref 526), none, none, none] [] (gm g) ((some (.int r.1)), gm r.2) := by
  obtain ⟨d, rfl⟩ : ∃ d', d = d' + 1 := ⟨d - 1, by omega⟩
  unfold f_X12_readCoast_281 at h
  refine g_run 1 (pc' := 282) (L' := [some (.ref 526), none, none, none]) (S' := [.ref 526]) (M' := gm g) rfl ?_
  replace h := zB_of h
  obtain ⟨v1, g2, e3, h⟩ := h
  refine g_inv2 (kd := 1) (p_X12_bad  e3) rfl rfl rfl (by decide) rfl rfl rfl rfl (by omega) (pc' := 285) rfl (S' := []) rfl ?_
  exact p_X12_readCoast_285 hD g2 _ h
def f_X12_readCoast_258 (g : zSg) : Option (Int32 × zSg) := (if ¬ (gI g 526 4) = (-1) then f_X12_readCoast_285 g else (zB (f_X12_look g) (fun v2 g3 => (if ¬ v2 = (-1) then f_X12_readCoast_281 g3 else (zB (f_X12_isWhole g3) (fun v6 g7 => (if ¬ v6 = 0 then f_X12_readCoast_285 g7 else f_X12_readCoast_281 g7)))))))
set_option maxRecDepth 100000 in
set_option maxHeartbeats 4000000 in
theorem p_X12_readCoast_258 {sc : zSc} {hp : zHp} {d : Nat} (hD : 4 ≤ d) (g : zSg) (r : Int32 × zSg) (h : f_X12_readCoast_258 g = some r) : zG d sc hp (zcd zM_X12_readCoast) 258 [some (.ref 526), none, none, none] [] (gm g) ((some (.int r.1)), gm r.2) := by
  obtain ⟨d, rfl⟩ : ∃ d', d = d' + 1 := ⟨d - 1, by omega⟩
  unfold f_X12_readCoast_258 at h
  refine g_run 3 (pc' := 263) (L' := [some (.ref 526), none, none, none]) (S' := [.int (-1), .int ((gI g 526 4))]) (M' := gm g) rfl ?_
  refine g_icmp (¬ (gI g 526 4) = (-1)) rfl (t := 285) rfl rfl (fun c1 => ?_) (fun c1 => ?_)
  · replace h := (if_pos c1).symm.trans h
    exact p_X12_readCoast_285 hD g _ h
  · replace h := (if_neg c1).symm.trans h
    refine g_run 1 (pc' := 267) (L' := [some (.ref 526), none, none, none]) (S' := [.ref 526]) (M' := gm g) rfl ?_
    replace h := zB_of h
    obtain ⟨v2, g3, e4, h⟩ := h
    refine g_inv2 (kd := 1) (p_X12_look  e4) rfl rfl rfl (by decide) rfl rfl rfl rfl (by omega) (pc' := 270) rfl (S' := [.int v2]) rfl ?_
    refine g_run 1 (pc' := 271) (L' := [some (.ref 526), none, none, none]) (S' := [.int (-1), .int v2]) (M' := gm g3) rfl ?_
    refine g_icmp (¬ v2 = (-1)) rfl (t := 281) rfl rfl (fun c5 => ?_) (fun c5 => ?_)
    · replace h := (if_pos c5).symm.trans h
      exact p_X12_readCoast_281 hD g3 _ h
    · replace h := (if_neg c5).symm.trans h
      refine g_run 1 (pc' := 275) (L' := [some (.ref 526), none, none, none]) (S' := [.ref 526]) (M' := gm g3) rfl ?_
      replace h := zB_of h
      obtain ⟨v6, g7, e8, h⟩ := h
      refine g_inv2 (kd := 1) (p_X12_isWhole  e8) rfl rfl rfl (by decide) rfl rfl rfl rfl (by omega) (pc' := 278) rfl (S' := [.int v6]) rfl ?_
      refine g_if (¬ v6 = 0) rfl (t := 285) rfl rfl (fun c9 => ?_) (fun c9 => ?_)
      · replace h := (if_pos c9).symm.trans h
        exact p_X12_readCoast_285 hD g7 _ h
      · replace h := (if_neg c9).symm.trans h
        exact p_X12_readCoast_281 hD g7 _ h
def f_X12_readCoast_251 (k49 : Int32 → Int32 → zSg → Option (Int32 × zSg)) (y1 : Int32) (y2 : Int32) (s0 : Int32) (s1 : Int32) (g : zSg) : Option (Int32 × zSg) := k49 (y1) (y2) (gsI g 526 3 (s1 + s0))
set_option maxRecDepth 100000 in
set_option maxHeartbeats 4000000 in
theorem p_X12_readCoast_251 {sc : zSc} {hp : zHp} {d : Nat} (hD : 4 ≤ d) (k49 : Int32 → Int32 → zSg → Option (Int32 × zSg)) (hk49 : ∀ (y1 : Int32) (y2 : Int32) (g : zSg) (r : Int32 × zSg), k49 y1 y2 g = some r → zG d sc hp (zcd zM_X12_readCoast) 49 [some (.ref 526), some (.int y1), some (.int y2), none] [] (gm g) ((some (.int r.1)), gm r.2)) (y1 : Int32) (y2 : Int32) (s0 : Int32) (s1 : Int32) (g : zSg) (r : Int32 × zSg) (h : f_X12_readCoast_251 k49 y1 y2 s0 s1 g = some r) : zG d sc hp (zcd zM_X12_readCoast) 251 [some (.ref 526), some (.int y1), some (.int y2), none] [.int s0, .int s1, .ref 526] (gm g) ((some (.int r.1)), gm r.2) := by
  obtain ⟨d, rfl⟩ : ∃ d', d = d' + 1 := ⟨d - 1, by omega⟩
  unfold f_X12_readCoast_251 at h
  refine g_run 3 (pc' := 49) (L' := [some (.ref 526), some (.int y1), some (.int y2), none]) (S' := []) (M' := gm (gsI g 526 3 (s1 + s0))) rfl ?_
  exact hk49 (y1) (y2) (gsI g 526 3 (s1 + s0)) _ h
def f_X12_readCoast_236 (k49 : Int32 → Int32 → zSg → Option (Int32 × zSg)) (y1 : Int32) (s0 : Int32) (g : zSg) : Option (Int32 × zSg) := (if s0 = 0 then f_X12_readCoast_251 k49 (y1) (s0) (0) (gI g 526 3) g else f_X12_readCoast_251 k49 (y1) (s0) (1) (gI g 526 3) g)
set_option maxRecDepth 100000 in
set_option maxHeartbeats 4000000 in
theorem p_X12_readCoast_236 {sc : zSc} {hp : zHp} {d : Nat} (hD : 4 ≤ d) (k49 : Int32 → Int32 → zSg → Option (Int32 × zSg)) (hk49 : ∀ (y1 : Int32) (y2 : Int32) (g : zSg) (r : Int32 × zSg), k49 y1 y2 g = some r → zG d sc hp (zcd zM_X12_readCoast) 49 [some (.ref 526), some (.int y1), some (.int y2), none] [] (gm g) ((some (.int r.1)), gm r.2)) (y1 : Int32) (s0 : Int32) (g : zSg) (r : Int32 × zSg) (h : f_X12_readCoast_236 k49 y1 s0 g = some r) : zG d sc hp (zcd zM_X12_readCoast) 236 [some (.ref 526), some (.int y1), none, none] [.int s0] (gm g) ((some (.int r.1)), gm r.2) := by
  obtain ⟨d, rfl⟩ : ∃ d', d = d' + 1 := ⟨d - 1, by omega⟩
  unfold f_X12_readCoast_236 at h
  refine g_run 5 (pc' := 243) (L' := [some (.ref 526), some (.int y1), some (.int s0), none]) (S' := [.int s0, .int ((gI g 526 3)), .ref 526]) (M' := gm g) rfl ?_
  refine g_if (s0 = 0) rfl (t := 250) rfl rfl (fun c1 => ?_) (fun c1 => ?_)
  · replace h := (if_pos c1).symm.trans h
    refine g_run 1 (pc' := 251) (L' := [some (.ref 526), some (.int y1), some (.int s0), none]) (S' := [.int 0, .int ((gI g 526 3)), .ref 526]) (M' := gm g) rfl ?_
    exact p_X12_readCoast_251 hD k49 hk49 (y1) (s0) (0) (gI g 526 3) g _ h
  · replace h := (if_neg c1).symm.trans h
    refine g_run 2 (pc' := 251) (L' := [some (.ref 526), some (.int y1), some (.int s0), none]) (S' := [.int 1, .int ((gI g 526 3)), .ref 526]) (M' := gm g) rfl ?_
    exact p_X12_readCoast_251 hD k49 hk49 (y1) (s0) (1) (gI g 526 3) g _ h
def f_X12_readCoast_235 (k49 : Int32 → Int32 → zSg → Option (Int32 × zSg)) (y1 : Int32) (g : zSg) : Option (Int32 × zSg) := f_X12_readCoast_236 k49 (y1) (0) g
set_option maxRecDepth 100000 in
set_option maxHeartbeats 4000000 in
theorem p_X12_readCoast_235 {sc : zSc} {hp : zHp} {d : Nat} (hD : 4 ≤ d) (k49 : Int32 → Int32 → zSg → Option (Int32 × zSg)) (hk49 : ∀ (y1 : Int32) (y2 : Int32) (g : zSg) (r : Int32 × zSg), k49 y1 y2 g = some r → zG d sc hp (zcd zM_X12_readCoast) 49 [some (.ref 526), some (.int y1), some (.int y2), none] [] (gm g) ((some (.int r.1)), gm r.2)) (y1 : Int32) (g : zSg) (r : Int32 × zSg) (h : f_X12_readCoast_235 k49 y1 g = some r) : zG d sc hp (zcd zM_X12_readCoast) 235 [some (.ref 526), some (.int y1), none, none] [] (gm g) ((some (.int r.1)), gm r.2) := by
  obtain ⟨d, rfl⟩ : ∃ d', d = d' + 1 := ⟨d - 1, by omega⟩
  unfold f_X12_readCoast_235 at h
  refine g_run 1 (pc' := 236) (L' := [some (.ref 526), some (.int y1), none, none]) (S' := [.int 0]) (M' := gm g) rfl ?_
  exact p_X12_readCoast_236 hD k49 hk49 (y1) (0) g _ h
def f_X12_readCoast_214 (k49 : Int32 → Int32 → zSg → Option (Int32 × zSg)) (y1 : Int32) (g : zSg) : Option (Int32 × zSg) := (if ¬ (gI g 526 4) = (-1) then f_X12_readCoast_235 k49 (y1) g else (zB (f_X12_look g) (fun v2 g3 => (if ¬ v2 = 59 then f_X12_readCoast_235 k49 (y1) g3 else f_X12_readCoast_236 k49 (y1) (1) g3))))
set_option maxRecDepth 100000 in
set_option maxHeartbeats 4000000 in
theorem p_X12_readCoast_214 {sc : zSc} {hp : zHp} {d : Nat} (hD : 4 ≤ d) (k49 : Int32 → Int32 → zSg → Option (Int32 × zSg)) (hk49 : ∀ (y1 : Int32) (y2 : Int32) (g : zSg) (r : Int32 × zSg), k49 y1 y2 g = some r → zG d sc hp (zcd zM_X12_readCoast) 49 [some (.ref 526), some (.int y1), some (.int y2), none] [] (gm g) ((some (.int r.1)), gm r.2)) (y1 : Int32) (g : zSg) (r : Int32 × zSg) (h : f_X12_readCoast_214 k49 y1 g = some r) : zG d sc hp (zcd zM_X12_readCoast) 214 [some (.ref 526), some (.int y1), none, none] [] (gm g) ((some (.int r.1)), gm r.2) := by
  obtain ⟨d, rfl⟩ : ∃ d', d = d' + 1 := ⟨d - 1, by omega⟩
  unfold f_X12_readCoast_214 at h
  refine g_run 3 (pc' := 219) (L' := [some (.ref 526), some (.int y1), none, none]) (S' := [.int (-1), .int ((gI g 526 4))]) (M' := gm g) rfl ?_
  refine g_icmp (¬ (gI g 526 4) = (-1)) rfl (t := 235) rfl rfl (fun c1 => ?_) (fun c1 => ?_)
  · replace h := (if_pos c1).symm.trans h
    exact p_X12_readCoast_235 hD k49 hk49 (y1) g _ h
  · replace h := (if_neg c1).symm.trans h
    refine g_run 1 (pc' := 223) (L' := [some (.ref 526), some (.int y1), none, none]) (S' := [.ref 526]) (M' := gm g) rfl ?_
    replace h := zB_of h
    obtain ⟨v2, g3, e4, h⟩ := h
    refine g_inv2 (kd := 1) (p_X12_look  e4) rfl rfl rfl (by decide) rfl rfl rfl rfl (by omega) (pc' := 226) rfl (S' := [.int v2]) rfl ?_
    refine g_run 1 (pc' := 228) (L' := [some (.ref 526), some (.int y1), none, none]) (S' := [.int 59, .int v2]) (M' := gm g3) rfl ?_
    refine g_icmp (¬ v2 = 59) rfl (t := 235) rfl rfl (fun c5 => ?_) (fun c5 => ?_)
    · replace h := (if_pos c5).symm.trans h
      exact p_X12_readCoast_235 hD k49 hk49 (y1) g3 _ h
    · replace h := (if_neg c5).symm.trans h
      refine g_run 2 (pc' := 236) (L' := [some (.ref 526), some (.int y1), none, none]) (S' := [.int 1]) (M' := gm g3) rfl ?_
      exact p_X12_readCoast_236 hD k49 hk49 (y1) (1) g3 _ h
def f_X12_readCoast_210 (k49 : Int32 → Int32 → zSg → Option (Int32 × zSg)) (y1 : Int32) (g : zSg) : Option (Int32 × zSg) := (zB (f_X12_bad g) (fun v1 g2 => f_X12_readCoast_214 k49 (y1) g2))
set_option maxRecDepth 100000 in
set_option maxHeartbeats 4000000 in
theorem p_X12_readCoast_210 {sc : zSc} {hp : zHp} {d : Nat} (hD : 4 ≤ d) (k49 : Int32 → Int32 → zSg → Option (Int32 × zSg)) (hk49 : ∀ (y1 : Int32) (y2 : Int32) (g : zSg) (r : Int32 × zSg), k49 y1 y2 g = some r → zG d sc hp (zcd zM_X12_readCoast) 49 [some (.ref 526), some (.int y1), some (.int y2), none] [] (gm g) ((some (.int r.1)), gm r.2)) (y1 : Int32) (g : zSg) (r : Int32 × zSg) (h : f_X12_readCoast_210 k49 y1 g = some r) : zG d sc hp (zcd zM_X12_readCoast) 210 [some (.ref 526), some (.int y1), none, none] [] (gm g) ((some (.int r.1)), gm r.2) := by
  obtain ⟨d, rfl⟩ : ∃ d', d = d' + 1 := ⟨d - 1, by omega⟩
  unfold f_X12_readCoast_210 at h
  refine g_run 1 (pc' := 211) (L' := [some (.ref 526), some (.int y1), none, none]) (S' := [.ref 526]) (M' := gm g) rfl ?_
  replace h := zB_of h
  obtain ⟨v1, g2, e3, h⟩ := h
  refine g_inv2 (kd := 1) (p_X12_bad  e3) rfl rfl rfl (by decide) rfl rfl rfl rfl (by omega) (pc' := 214) rfl (S' := []) rfl ?_
  exact p_X12_readCoast_214 hD k49 hk49 (y1) g2 _ h
def f_X12_readCoast_156 (k49 : Int32 → Int32 → zSg → Option (Int32 × zSg)) (y1 : Int32) (y3 : Int32) (g : zSg) : Option (Int32 × zSg) := (if ¬ y3 = 99 then f_X12_readCoast_210 k49 (y1) g else (if 6 ≤ (gI g 526 21) then f_X12_readCoast_210 k49 (y1) g else (zB (f_X12_items 539 y3 (4 * (gI (gsI g 526 3 ((gI g 526 3) + 1)) 526 21)) 4 (gsI g 526 3 ((gI g 526 3) + 1))) (fun v3 g4 => f_X12_readCoast_214 k49 (y1) (gsI g4 526 21 ((gI g4 526 21) + 1))))))
set_option maxRecDepth 100000 in
set_option maxHeartbeats 4000000 in
theorem p_X12_readCoast_156 {sc : zSc} {hp : zHp} {d : Nat} (hD : 4 ≤ d) (k49 : Int32 → Int32 → zSg → Option (Int32 × zSg)) (hk49 : ∀ (y1 : Int32) (y2 : Int32) (g : zSg) (r : Int32 × zSg), k49 y1 y2 g = some r → zG d sc hp (zcd zM_X12_readCoast) 49 [some (.ref 526), some (.int y1), some (.int y2), none] [] (gm g) ((some (.int r.1)), gm r.2)) (y1 : Int32) (y3 : Int32) (g : zSg) (r : Int32 × zSg) (h : f_X12_readCoast_156 k49 y1 y3 g = some r) : zG d sc hp (zcd zM_X12_readCoast) 156 [some (.ref 526), some (.int y1), none, some (.int y3)] [] (gm g) ((some (.int r.1)), gm r.2) := by
  obtain ⟨d, rfl⟩ : ∃ d', d = d' + 1 := ⟨d - 1, by omega⟩
  unfold f_X12_readCoast_156 at h
  refine g_run 2 (pc' := 159) (L' := [some (.ref 526), some (.int y1), none, some (.int y3)]) (S' := [.int 99, .int y3]) (M' := gm g) rfl ?_
  refine g_icmp (¬ y3 = 99) rfl (t := 210) rfl rfl (fun c1 => ?_) (fun c1 => ?_)
  · replace h := (if_pos c1).symm.trans h
    refine g_forget (L' := [some (.ref 526), some (.int y1), none, none]) (And.intro rfl (And.intro rfl True.intro)) ?_
    exact p_X12_readCoast_210 hD k49 hk49 (y1) g _ h
  · replace h := (if_neg c1).symm.trans h
    refine g_run 3 (pc' := 168) (L' := [some (.ref 526), some (.int y1), none, some (.int y3)]) (S' := [.int 6, .int ((gI g 526 21))]) (M' := gm g) rfl ?_
    refine g_icmp (6 ≤ (gI g 526 21)) rfl (t := 210) rfl rfl (fun c2 => ?_) (fun c2 => ?_)
    · replace h := (if_pos c2).symm.trans h
      refine g_forget (L' := [some (.ref 526), some (.int y1), none, none]) (And.intro rfl (And.intro rfl True.intro)) ?_
      exact p_X12_readCoast_210 hD k49 hk49 (y1) g _ h
    · replace h := (if_neg c2).symm.trans h
      refine g_run 15 (pc' := 194) (L' := [some (.ref 526), some (.int y1), none, some (.int y3)]) (S' := [.int 4, .int ((4 * (gI (gsI g 526 3 ((gI g 526 3) + 1)) 526 21))), .ref 539, .int y3, .ref 526]) (M' := gm (gsI g 526 3 ((gI g 526 3) + 1))) rfl ?_
      replace h := zB_of h
      obtain ⟨v3, g4, e5, h⟩ := h
      refine g_inv2 (kd := 1) (p_X12_items 539 rfl e5) rfl rfl rfl (by decide) rfl rfl rfl rfl (by omega) (pc' := 197) rfl (S' := []) rfl ?_
      refine g_run 7 (pc' := 214) (L' := [some (.ref 526), some (.int y1), none, some (.int y3)]) (S' := []) (M' := gm (gsI g4 526 21 ((gI g4 526 21) + 1))) rfl ?_
      refine g_forget (L' := [some (.ref 526), some (.int y1), none, none]) (And.intro rfl (And.intro rfl True.intro)) ?_
      exact p_X12_readCoast_214 hD k49 hk49 (y1) (gsI g4 526 21 ((gI g4 526 21) + 1)) _ h
def f_X12_readCoast_102 (k49 : Int32 → Int32 → zSg → Option (Int32 × zSg)) (y1 : Int32) (y3 : Int32) (g : zSg) : Option (Int32 × zSg) := (if ¬ y3 = 112 then f_X12_readCoast_156 k49 (y1) (y3) g else (if 6 ≤ (gI g 526 20) then f_X12_readCoast_156 k49 (y1) (y3) g else (zB (f_X12_items 538 y3 (3 * (gI (gsI g 526 3 ((gI g 526 3) + 1)) 526 20)) 3 (gsI g 526 3 ((gI g 526 3) + 1))) (fun v3 g4 => f_X12_readCoast_214 k49 (y1) (gsI g4 526 20 ((gI g4 526 20) + 1))))))
set_option maxRecDepth 100000 in
set_option maxHeartbeats 4000000 in
theorem p_X12_readCoast_102 {sc : zSc} {hp : zHp} {d : Nat} (hD : 4 ≤ d) (k49 : Int32 → Int32 → zSg → Option (Int32 × zSg)) (hk49 : ∀ (y1 : Int32) (y2 : Int32) (g : zSg) (r : Int32 × zSg), k49 y1 y2 g = some r → zG d sc hp (zcd zM_X12_readCoast) 49 [some (.ref 526), some (.int y1), some (.int y2), none] [] (gm g) ((some (.int r.1)), gm r.2)) (y1 : Int32) (y3 : Int32) (g : zSg) (r : Int32 × zSg) (h : f_X12_readCoast_102 k49 y1 y3 g = some r) : zG d sc hp (zcd zM_X12_readCoast) 102 [some (.ref 526), some (.int y1), none, some (.int y3)] [] (gm g) ((some (.int r.1)), gm r.2) := by
  obtain ⟨d, rfl⟩ : ∃ d', d = d' + 1 := ⟨d - 1, by omega⟩
  unfold f_X12_readCoast_102 at h
  refine g_run 2 (pc' := 105) (L' := [some (.ref 526), some (.int y1), none, some (.int y3)]) (S' := [.int 112, .int y3]) (M' := gm g) rfl ?_
  refine g_icmp (¬ y3 = 112) rfl (t := 156) rfl rfl (fun c1 => ?_) (fun c1 => ?_)
  · replace h := (if_pos c1).symm.trans h
    exact p_X12_readCoast_156 hD k49 hk49 (y1) (y3) g _ h
  · replace h := (if_neg c1).symm.trans h
    refine g_run 3 (pc' := 114) (L' := [some (.ref 526), some (.int y1), none, some (.int y3)]) (S' := [.int 6, .int ((gI g 526 20))]) (M' := gm g) rfl ?_
    refine g_icmp (6 ≤ (gI g 526 20)) rfl (t := 156) rfl rfl (fun c2 => ?_) (fun c2 => ?_)
    · replace h := (if_pos c2).symm.trans h
      exact p_X12_readCoast_156 hD k49 hk49 (y1) (y3) g _ h
    · replace h := (if_neg c2).symm.trans h
      refine g_run 15 (pc' := 140) (L' := [some (.ref 526), some (.int y1), none, some (.int y3)]) (S' := [.int 3, .int ((3 * (gI (gsI g 526 3 ((gI g 526 3) + 1)) 526 20))), .ref 538, .int y3, .ref 526]) (M' := gm (gsI g 526 3 ((gI g 526 3) + 1))) rfl ?_
      replace h := zB_of h
      obtain ⟨v3, g4, e5, h⟩ := h
      refine g_inv2 (kd := 1) (p_X12_items 538 rfl e5) rfl rfl rfl (by decide) rfl rfl rfl rfl (by omega) (pc' := 143) rfl (S' := []) rfl ?_
      refine g_run 7 (pc' := 214) (L' := [some (.ref 526), some (.int y1), none, some (.int y3)]) (S' := []) (M' := gm (gsI g4 526 20 ((gI g4 526 20) + 1))) rfl ?_
      refine g_forget (L' := [some (.ref 526), some (.int y1), none, none]) (And.intro rfl (And.intro rfl True.intro)) ?_
      exact p_X12_readCoast_214 hD k49 hk49 (y1) (gsI g4 526 20 ((gI g4 526 20) + 1)) _ h
def fb_X12_readCoast_49 (kk : Int32 → Int32 → zSg → Option (Int32 × zSg)) (y1 : Int32) (y2 : Int32) (g : zSg) : Option (Int32 × zSg) := (if y2 = 0 then f_X12_readCoast_258 g else (if ¬ (gI g 526 4) = (-1) then f_X12_readCoast_258 g else (zB (f_X12_look g) (fun v3 g4 => (if ¬ v3 = 115 then f_X12_readCoast_102 kk (y1) (v3) g4 else (if ¬ y1 = 0 then f_X12_readCoast_102 kk (y1) (v3) g4 else (zB (f_X12_items 537 v3 0 5 (gsI g4 526 3 ((gI g4 526 3) + 1))) (fun v8 g9 => f_X12_readCoast_214 kk (1) g9))))))))
def f_X12_readCoast_49 : Nat → Int32 → Int32 → zSg → Option (Int32 × zSg)
  | 0, _, _, _ => none
  | n + 1, y1, y2, g => fb_X12_readCoast_49 (f_X12_readCoast_49 n) y1 y2 g
set_option maxRecDepth 100000 in
set_option maxHeartbeats 4000000 in
theorem p_X12_readCoast_49 {sc : zSc} {hp : zHp} {d : Nat} (hD : 4 ≤ d) : ∀ (n : Nat) (y1 : Int32) (y2 : Int32) (g : zSg) (r : Int32 × zSg), f_X12_readCoast_49 n y1 y2 g = some r → zG d sc hp (zcd zM_X12_readCoast) 49 [some (.ref 526), some (.int y1), some (.int y2), none] [] (gm g) ((some (.int r.1)), gm r.2) := by
  obtain ⟨d, rfl⟩ : ∃ d', d = d' + 1 := ⟨d - 1, by omega⟩
  intro n
  induction n with
  | zero => intro y1 y2 g r h; cases h
  | succ n ih =>
    intro y1 y2 g r h
    replace h : fb_X12_readCoast_49 (f_X12_readCoast_49 n) y1 y2 g = some r := h
    unfold fb_X12_readCoast_49 at h
    refine g_run 1 (pc' := 50) (L' := [some (.ref 526), some (.int y1), some (.int y2), none]) (S' := [.int y2]) (M' := gm g) rfl ?_
    refine g_if (y2 = 0) rfl (t := 258) rfl rfl (fun c1 => ?_) (fun c1 => ?_)
    · replace h := (if_pos c1).symm.trans h
      refine g_forget (L' := [some (.ref 526), none, none, none]) (And.intro rfl True.intro) ?_
      exact p_X12_readCoast_258 hD g _ h
    · replace h := (if_neg c1).symm.trans h
      refine g_run 3 (pc' := 58) (L' := [some (.ref 526), some (.int y1), some (.int y2), none]) (S' := [.int (-1), .int ((gI g 526 4))]) (M' := gm g) rfl ?_
      refine g_icmp (¬ (gI g 526 4) = (-1)) rfl (t := 258) rfl rfl (fun c2 => ?_) (fun c2 => ?_)
      · replace h := (if_pos c2).symm.trans h
        refine g_forget (L' := [some (.ref 526), none, none, none]) (And.intro rfl True.intro) ?_
        exact p_X12_readCoast_258 hD g _ h
      · replace h := (if_neg c2).symm.trans h
        refine g_run 1 (pc' := 62) (L' := [some (.ref 526), some (.int y1), some (.int y2), none]) (S' := [.ref 526]) (M' := gm g) rfl ?_
        replace h := zB_of h
        obtain ⟨v3, g4, e5, h⟩ := h
        refine g_inv2 (kd := 1) (p_X12_look  e5) rfl rfl rfl (by decide) rfl rfl rfl rfl (by omega) (pc' := 65) rfl (S' := [.int v3]) rfl ?_
        refine g_run 3 (pc' := 69) (L' := [some (.ref 526), some (.int y1), some (.int y2), some (.int v3)]) (S' := [.int 115, .int v3]) (M' := gm g4) rfl ?_
        refine g_icmp (¬ v3 = 115) rfl (t := 102) rfl rfl (fun c6 => ?_) (fun c6 => ?_)
        · replace h := (if_pos c6).symm.trans h
          refine g_forget (L' := [some (.ref 526), some (.int y1), none, some (.int v3)]) (And.intro rfl (And.intro rfl (And.intro rfl True.intro))) ?_
          exact p_X12_readCoast_102 hD (f_X12_readCoast_49 n) ih (y1) (v3) g4 _ h
        · replace h := (if_neg c6).symm.trans h
          refine g_run 1 (pc' := 73) (L' := [some (.ref 526), some (.int y1), some (.int y2), some (.int v3)]) (S' := [.int y1]) (M' := gm g4) rfl ?_
          refine g_if (¬ y1 = 0) rfl (t := 102) rfl rfl (fun c7 => ?_) (fun c7 => ?_)
          · replace h := (if_pos c7).symm.trans h
            refine g_forget (L' := [some (.ref 526), some (.int y1), none, some (.int v3)]) (And.intro rfl (And.intro rfl (And.intro rfl True.intro))) ?_
            exact p_X12_readCoast_102 hD (f_X12_readCoast_49 n) ih (y1) (v3) g4 _ h
          · replace h := (if_neg c7).symm.trans h
            refine g_run 14 (pc' := 96) (L' := [some (.ref 526), some (.int 1), some (.int y2), some (.int v3)]) (S' := [.int 5, .int 0, .ref 537, .int v3, .ref 526]) (M' := gm (gsI g4 526 3 ((gI g4 526 3) + 1))) rfl ?_
            replace h := zB_of h
            obtain ⟨v8, g9, e10, h⟩ := h
            refine g_inv2 (kd := 1) (p_X12_items 537 rfl e10) rfl rfl rfl (by decide) rfl rfl rfl rfl (by omega) (pc' := 99) rfl (S' := []) rfl ?_
            refine g_run 1 (pc' := 214) (L' := [some (.ref 526), some (.int 1), some (.int y2), some (.int v3)]) (S' := []) (M' := gm g9) rfl ?_
            refine g_forget (L' := [some (.ref 526), some (.int 1), none, none]) (And.intro rfl (And.intro rfl True.intro)) ?_
            exact p_X12_readCoast_214 hD (f_X12_readCoast_49 n) ih (1) g9 _ h
def f_X12_readCoast_47 (y1 : Int32) (g : zSg) : Option (Int32 × zSg) := f_X12_readCoast_49 zFu (y1) (1) g
set_option maxRecDepth 100000 in
set_option maxHeartbeats 4000000 in
theorem p_X12_readCoast_47 {sc : zSc} {hp : zHp} {d : Nat} (hD : 4 ≤ d) (y1 : Int32) (g : zSg) (r : Int32 × zSg) (h : f_X12_readCoast_47 y1 g = some r) : zG d sc hp (zcd zM_X12_readCoast) 47 [some (.ref 526), some (.int y1), none, none] [] (gm g) ((some (.int r.1)), gm r.2) := by
  obtain ⟨d, rfl⟩ : ∃ d', d = d' + 1 := ⟨d - 1, by omega⟩
  unfold f_X12_readCoast_47 at h
  refine g_run 2 (pc' := 49) (L' := [some (.ref 526), some (.int y1), some (.int 1), none]) (S' := []) (M' := gm g) rfl ?_
  exact p_X12_readCoast_49 hD zFu (y1) (1) g _ h
def fb_X12_readCoast_24 (kk : Int32 → Int32 → zSg → Option (Int32 × zSg)) (y1 : Int32) (y2 : Int32) (g : zSg) : Option (Int32 × zSg) := (if 5 ≤ y2 then f_X12_readCoast_47 (y1) g else (zB (f_X12_usual 115 y2 g) (fun v2 g3 => (if zib y2 5 = true then kk (y1) (y2 + 1) (gsI g3 (537) (ix y2) v2) else none))))
def f_X12_readCoast_24 : Nat → Int32 → Int32 → zSg → Option (Int32 × zSg)
  | 0, _, _, _ => none
  | n + 1, y1, y2, g => fb_X12_readCoast_24 (f_X12_readCoast_24 n) y1 y2 g
set_option maxRecDepth 100000 in
set_option maxHeartbeats 4000000 in
theorem p_X12_readCoast_24 {sc : zSc} {hp : zHp} {d : Nat} (hD : 4 ≤ d) : ∀ (n : Nat) (y1 : Int32) (y2 : Int32) (g : zSg) (r : Int32 × zSg), f_X12_readCoast_24 n y1 y2 g = some r → zG d sc hp (zcd zM_X12_readCoast) 24 [some (.ref 526), some (.int y1), some (.int y2), none] [] (gm g) ((some (.int r.1)), gm r.2) := by
  obtain ⟨d, rfl⟩ : ∃ d', d = d' + 1 := ⟨d - 1, by omega⟩
  intro n
  induction n with
  | zero => intro y1 y2 g r h; cases h
  | succ n ih =>
    intro y1 y2 g r h
    replace h : fb_X12_readCoast_24 (f_X12_readCoast_24 n) y1 y2 g = some r := h
    unfold fb_X12_readCoast_24 at h
    refine g_run 2 (pc' := 26) (L' := [some (.ref 526), some (.int y1), some (.int y2), none]) (S' := [.int 5, .int y2]) (M' := gm g) rfl ?_
    refine g_icmp (5 ≤ y2) rfl (t := 47) rfl rfl (fun c1 => ?_) (fun c1 => ?_)
    · replace h := (if_pos c1).symm.trans h
      refine g_forget (L' := [some (.ref 526), some (.int y1), none, none]) (And.intro rfl (And.intro rfl True.intro)) ?_
      exact p_X12_readCoast_47 hD (y1) g _ h
    · replace h := (if_neg c1).symm.trans h
      refine g_run 5 (pc' := 37) (L' := [some (.ref 526), some (.int y1), some (.int y2), none]) (S' := [.int y2, .int 115, .int y2, .ref 537]) (M' := gm g) rfl ?_
      replace h := zB_of h
      obtain ⟨v2, g3, e4, h⟩ := h
      refine g_inv2 (kd := 0) (p_X12_usual  e4) rfl rfl rfl (by decide) rfl rfl rfl rfl (by omega) (pc' := 40) rfl (S' := [.int v2, .int y2, .ref 537]) rfl ?_
      by_cases c5 : zib y2 5 = true
      case neg => exact nomatch ((if_neg c5).symm.trans h)
      replace h := (if_pos c5).symm.trans h
      refine g_iast rfl (a := 537) rfl c5 ?_
      refine g_run 2 (pc' := 24) (L' := [some (.ref 526), some (.int y1), some (.int ((y2 + 1))), none]) (S' := []) (M' := gm (gsI g3 (537) (ix y2) v2)) rfl ?_
      exact ih (y1) (y2 + 1) (gsI g3 (537) (ix y2) v2) _ h
def f_X12_readCoast (g : zSg) : Option (Int32 × zSg) := f_X12_readCoast_24 zFu (0) (0) (gsI (gsI (gsI (gsI g 526 3 0) 526 4 (-1)) 526 20 0) 526 21 0)
set_option maxRecDepth 100000 in
set_option maxHeartbeats 4000000 in
theorem p_X12_readCoast {sc : zSc} {hp : zHp} {g : zSg} {r : Int32 × zSg} (h : f_X12_readCoast g = some r) : zRn sc hp 4 zM_X12_readCoast [.ref 526] (gm g) (some (.int r.1)) (gm r.2) := by
  intro d hD
  obtain ⟨d, rfl⟩ : ∃ d', d = d' + 1 := ⟨d - 1, by omega⟩
  show zG _ sc hp (zcd zM_X12_readCoast) 0 [some (.ref 526), none, none, none] [] (gm g) _
  unfold f_X12_readCoast at h
  refine g_run 16 (pc' := 24) (L' := [some (.ref 526), some (.int 0), some (.int 0), none]) (S' := []) (M' := gm (gsI (gsI (gsI (gsI g 526 3 0) 526 4 (-1)) 526 20 0) 526 21 0)) rfl ?_
  exact p_X12_readCoast_24 hD zFu (0) (0) (gsI (gsI (gsI (gsI g 526 3 0) 526 4 (-1)) 526 20 0) 526 21 0) _ h
def f_X12_fault (x1 : Int32) (g : zSg) : Option (Int32 × zSg) := (if ¬ x1 = 0 then (if ¬ x1 = 1 then some ((-2), g) else (zB (f_X12_readLaw 4 g) (fun v3 g4 => some (v3, g4)))) else (zB (f_X12_readCoast g) (fun v6 g7 => some (v6, g7))))
set_option maxRecDepth 100000 in
set_option maxHeartbeats 4000000 in
theorem p_X12_fault {sc : zSc} {hp : zHp} {x1 : Int32} {g : zSg} {r : Int32 × zSg} (h : f_X12_fault x1 g = some r) : zRn sc hp 186 zM_X12_fault [.ref 526, .int x1] (gm g) (some (.int r.1)) (gm r.2) := by
  intro d hD
  obtain ⟨d, rfl⟩ : ∃ d', d = d' + 1 := ⟨d - 1, by omega⟩
  show zG _ sc hp (zcd zM_X12_fault) 0 [some (.ref 526), some (.int x1)] [] (gm g) _
  unfold f_X12_fault at h
  refine g_run 1 (pc' := 1) (L' := [some (.ref 526), some (.int x1)]) (S' := [.int x1]) (M' := gm g) rfl ?_
  refine g_if (¬ x1 = 0) rfl (t := 11) rfl rfl (fun c1 => ?_) (fun c1 => ?_)
  · replace h := (if_pos c1).symm.trans h
    refine g_run 2 (pc' := 13) (L' := [some (.ref 526), some (.int x1)]) (S' := [.int 1, .int x1]) (M' := gm g) rfl ?_
    refine g_icmp (¬ x1 = 1) rfl (t := 24) rfl rfl (fun c2 => ?_) (fun c2 => ?_)
    · replace h := (if_pos c2).symm.trans h
      refine g_run 1 (pc' := 26) (L' := [some (.ref 526), some (.int x1)]) (S' := [.int (-2)]) (M' := gm g) rfl ?_
      cases h
      exact g_ret rfl rfl rfl rfl
    · replace h := (if_neg c2).symm.trans h
      refine g_run 2 (pc' := 18) (L' := [some (.ref 526), some (.int x1)]) (S' := [.int 4, .ref 526]) (M' := gm g) rfl ?_
      replace h := zB_of h
      obtain ⟨v3, g4, e5, h⟩ := h
      refine g_inv2 (kd := 1) (p_X12_readLaw  e5) rfl rfl rfl (by decide) rfl rfl rfl rfl (by omega) (pc' := 21) rfl (S' := [.int v3]) rfl ?_
      refine g_run 1 (pc' := 26) (L' := [some (.ref 526), some (.int x1)]) (S' := [.int v3]) (M' := gm g4) rfl ?_
      cases h
      exact g_ret rfl rfl rfl rfl
  · replace h := (if_neg c1).symm.trans h
    refine g_run 1 (pc' := 5) (L' := [some (.ref 526), some (.int x1)]) (S' := [.ref 526]) (M' := gm g) rfl ?_
    replace h := zB_of h
    obtain ⟨v6, g7, e8, h⟩ := h
    refine g_inv2 (kd := 1) (p_X12_readCoast  e8) rfl rfl rfl (by decide) rfl rfl rfl rfl (by omega) (pc' := 8) rfl (S' := [.int v6]) rfl ?_
    refine g_run 1 (pc' := 26) (L' := [some (.ref 526), some (.int x1)]) (S' := [.int v6]) (M' := gm g7) rfl ?_
    cases h
    exact g_ret rfl rfl rfl rfl
def f_X12_ofPerson (x1 : Int32) (x2 : Int32) (g : zSg) : Option (Int32 × zSg) := (if zib ((3 * x1) + x2) 18 = true then some ((gI g 541 (ix ((3 * x1) + x2))), g) else none)
set_option maxRecDepth 100000 in
set_option maxHeartbeats 4000000 in
theorem p_X12_ofPerson {sc : zSc} {hp : zHp} {x1 : Int32} {x2 : Int32} {g : zSg} {r : Int32 × zSg} (h : f_X12_ofPerson x1 x2 g = some r) : zRn sc hp 0 zM_X12_ofPerson [.ref 526, .int x1, .int x2] (gm g) (some (.int r.1)) (gm r.2) := by
  intro d hD
  show zG _ sc hp (zcd zM_X12_ofPerson) 0 [some (.ref 526), some (.int x1), some (.int x2)] [] (gm g) _
  unfold f_X12_ofPerson at h
  refine g_run 7 (pc' := 9) (L' := [some (.ref 526), some (.int x1), some (.int x2)]) (S' := [.int (((3 * x1) + x2)), .ref 541]) (M' := gm g) rfl ?_
  by_cases c1 : zib ((3 * x1) + x2) 18 = true
  case neg => exact nomatch ((if_neg c1).symm.trans h)
  replace h := (if_pos c1).symm.trans h
  refine g_iald rfl (a := 541) rfl c1 ?_
  cases h
  exact g_ret rfl rfl rfl rfl
def f_X12_takeCoast_176 (g : zSg) : Option (Int32 × zSg) := some ((gI (gsI (gsI (gsI (gsI (gsI (gsI g 543 50 (gI g 540 4)) 543 51 (gI (gsI g 543 50 (gI g 540 4)) 540 2)) 543 52 (gI (gsI (gsI g 543 50 (gI g 540 4)) 543 51 (gI (gsI g 543 50 (gI g 540 4)) 540 2)) 540 3)) 526 43 0) 526 35 0) 526 47 0) 526 27), (gsI (gsI (gsI (gsI (gsI (gsI g 543 50 (gI g 540 4)) 543 51 (gI (gsI g 543 50 (gI g 540 4)) 540 2)) 543 52 (gI (gsI (gsI g 543 50 (gI g 540 4)) 543 51 (gI (gsI g 543 50 (gI g 540 4)) 540 2)) 540 3)) 526 43 0) 526 35 0) 526 47 0))
set_option maxRecDepth 100000 in
set_option maxHeartbeats 4000000 in
theorem p_X12_takeCoast_176 {sc : zSc} {hp : zHp} {d : Nat} (hD : 1 ≤ d) (g : zSg) (r : Int32 × zSg) (h : f_X12_takeCoast_176 g = some r) : zG d sc hp (zcd zM_X12_takeCoast) 176 [some (.ref 526), none] [] (gm g) ((some (.int r.1)), gm r.2) := by
  obtain ⟨d, rfl⟩ : ∃ d', d = d' + 1 := ⟨d - 1, by omega⟩
  unfold f_X12_takeCoast_176 at h
  refine g_run 35 (pc' := 234) (L' := [some (.ref 526), none]) (S' := [.int ((gI (gsI (gsI (gsI (gsI (gsI (gsI g 543 50 (gI g 540 4)) 543 51 (gI (gsI g 543 50 (gI g 540 4)) 540 2)) 543 52 (gI (gsI (gsI g 543 50 (gI g 540 4)) 543 51 (gI (gsI g 543 50 (gI g 540 4)) 540 2)) 540 3)) 526 43 0) 526 35 0) 526 47 0) 526 27))]) (M' := gm (gsI (gsI (gsI (gsI (gsI (gsI g 543 50 (gI g 540 4)) 543 51 (gI (gsI g 543 50 (gI g 540 4)) 540 2)) 543 52 (gI (gsI (gsI g 543 50 (gI g 540 4)) 543 51 (gI (gsI g 543 50 (gI g 540 4)) 540 2)) 540 3)) 526 43 0) 526 35 0) 526 47 0)) rfl ?_
  cases h
  exact g_ret rfl rfl rfl rfl
def fb_X12_takeCoast_134 (kk : Int32 → zSg → Option (Int32 × zSg)) (y1 : Int32) (g : zSg) : Option (Int32 × zSg) := (if (gI g 526 25) ≤ y1 then f_X12_takeCoast_176 g else (zB (f_X12_ofPerson y1 1 g) (fun v2 g3 => (zB (f_X12_ofPerson y1 0 g3) (fun v5 g6 => (if zib (0 + y1) 235 = true then kk (y1 + 1) (gsI g6 (543) (ix (0 + y1)) (((gI g 540 0) * v2) + v5)) else none))))))
def f_X12_takeCoast_134 : Nat → Int32 → zSg → Option (Int32 × zSg)
  | 0, _, _ => none
  | n + 1, y1, g => fb_X12_takeCoast_134 (f_X12_takeCoast_134 n) y1 g
set_option maxRecDepth 100000 in
set_option maxHeartbeats 4000000 in
theorem p_X12_takeCoast_134 {sc : zSc} {hp : zHp} {d : Nat} (hD : 1 ≤ d) : ∀ (n : Nat) (y1 : Int32) (g : zSg) (r : Int32 × zSg), f_X12_takeCoast_134 n y1 g = some r → zG d sc hp (zcd zM_X12_takeCoast) 134 [some (.ref 526), some (.int y1)] [] (gm g) ((some (.int r.1)), gm r.2) := by
  obtain ⟨d, rfl⟩ : ∃ d', d = d' + 1 := ⟨d - 1, by omega⟩
  intro n
  induction n with
  | zero => intro y1 g r h; cases h
  | succ n ih =>
    intro y1 g r h
    replace h : fb_X12_takeCoast_134 (f_X12_takeCoast_134 n) y1 g = some r := h
    unfold fb_X12_takeCoast_134 at h
    refine g_run 3 (pc' := 139) (L' := [some (.ref 526), some (.int y1)]) (S' := [.int ((gI g 526 25)), .int y1]) (M' := gm g) rfl ?_
    refine g_icmp ((gI g 526 25) ≤ y1) rfl (t := 176) rfl rfl (fun c1 => ?_) (fun c1 => ?_)
    · replace h := (if_pos c1).symm.trans h
      refine g_forget (L' := [some (.ref 526), none]) (And.intro rfl True.intro) ?_
      exact p_X12_takeCoast_176 hD g _ h
    · replace h := (if_neg c1).symm.trans h
      refine g_run 12 (pc' := 158) (L' := [some (.ref 526), some (.int y1)]) (S' := [.int 1, .int y1, .ref 526, .int ((gI g 540 0)), .int ((0 + y1)), .ref 543]) (M' := gm g) rfl ?_
      replace h := zB_of h
      obtain ⟨v2, g3, e4, h⟩ := h
      refine g_inv2 (kd := 1) (p_X12_ofPerson  e4) rfl rfl rfl (by decide) rfl rfl rfl rfl (by omega) (pc' := 161) rfl (S' := [.int v2, .int ((gI g 540 0)), .int ((0 + y1)), .ref 543]) rfl ?_
      refine g_run 4 (pc' := 165) (L' := [some (.ref 526), some (.int y1)]) (S' := [.int 0, .int y1, .ref 526, .int (((gI g 540 0) * v2)), .int ((0 + y1)), .ref 543]) (M' := gm g3) rfl ?_
      replace h := zB_of h
      obtain ⟨v5, g6, e7, h⟩ := h
      refine g_inv2 (kd := 1) (p_X12_ofPerson  e7) rfl rfl rfl (by decide) rfl rfl rfl rfl (by omega) (pc' := 168) rfl (S' := [.int v5, .int (((gI g 540 0) * v2)), .int ((0 + y1)), .ref 543]) rfl ?_
      refine g_run 1 (pc' := 169) (L' := [some (.ref 526), some (.int y1)]) (S' := [.int ((((gI g 540 0) * v2) + v5)), .int ((0 + y1)), .ref 543]) (M' := gm g6) rfl ?_
      by_cases c8 : zib (0 + y1) 235 = true
      case neg => exact nomatch ((if_neg c8).symm.trans h)
      replace h := (if_pos c8).symm.trans h
      refine g_iast rfl (a := 543) rfl c8 ?_
      refine g_run 2 (pc' := 134) (L' := [some (.ref 526), some (.int ((y1 + 1)))]) (S' := []) (M' := gm (gsI g6 (543) (ix (0 + y1)) (((gI g 540 0) * v2) + v5))) rfl ?_
      exact ih (y1 + 1) (gsI g6 (543) (ix (0 + y1)) (((gI g 540 0) * v2) + v5)) _ h
def f_X12_takeCoast_132 (g : zSg) : Option (Int32 × zSg) := f_X12_takeCoast_134 zFu (0) g
set_option maxRecDepth 100000 in
set_option maxHeartbeats 4000000 in
theorem p_X12_takeCoast_132 {sc : zSc} {hp : zHp} {d : Nat} (hD : 1 ≤ d) (g : zSg) (r : Int32 × zSg) (h : f_X12_takeCoast_132 g = some r) : zG d sc hp (zcd zM_X12_takeCoast) 132 [some (.ref 526), none] [] (gm g) ((some (.int r.1)), gm r.2) := by
  obtain ⟨d, rfl⟩ : ∃ d', d = d' + 1 := ⟨d - 1, by omega⟩
  unfold f_X12_takeCoast_132 at h
  refine g_run 2 (pc' := 134) (L' := [some (.ref 526), some (.int 0)]) (S' := []) (M' := gm g) rfl ?_
  exact p_X12_takeCoast_134 hD zFu (0) g _ h
def fb_X12_takeCoast_112 (kk : Int32 → zSg → Option (Int32 × zSg)) (y1 : Int32) (g : zSg) : Option (Int32 × zSg) := (if 235 ≤ y1 then f_X12_takeCoast_132 g else (if zib y1 235 = true then kk (y1 + 1) (gsI g (543) (ix y1) 0) else none))
def f_X12_takeCoast_112 : Nat → Int32 → zSg → Option (Int32 × zSg)
  | 0, _, _ => none
  | n + 1, y1, g => fb_X12_takeCoast_112 (f_X12_takeCoast_112 n) y1 g
set_option maxRecDepth 100000 in
set_option maxHeartbeats 4000000 in
theorem p_X12_takeCoast_112 {sc : zSc} {hp : zHp} {d : Nat} (hD : 1 ≤ d) : ∀ (n : Nat) (y1 : Int32) (g : zSg) (r : Int32 × zSg), f_X12_takeCoast_112 n y1 g = some r → zG d sc hp (zcd zM_X12_takeCoast) 112 [some (.ref 526), some (.int y1)] [] (gm g) ((some (.int r.1)), gm r.2) := by
  obtain ⟨d, rfl⟩ : ∃ d', d = d' + 1 := ⟨d - 1, by omega⟩
  intro n
  induction n with
  | zero => intro y1 g r h; cases h
  | succ n ih =>
    intro y1 g r h
    replace h : fb_X12_takeCoast_112 (f_X12_takeCoast_112 n) y1 g = some r := h
    unfold fb_X12_takeCoast_112 at h
    refine g_run 2 (pc' := 116) (L' := [some (.ref 526), some (.int y1)]) (S' := [.int 235, .int y1]) (M' := gm g) rfl ?_
    refine g_icmp (235 ≤ y1) rfl (t := 132) rfl rfl (fun c1 => ?_) (fun c1 => ?_)
    · replace h := (if_pos c1).symm.trans h
      refine g_forget (L' := [some (.ref 526), none]) (And.intro rfl True.intro) ?_
      exact p_X12_takeCoast_132 hD g _ h
    · replace h := (if_neg c1).symm.trans h
      refine g_run 4 (pc' := 125) (L' := [some (.ref 526), some (.int y1)]) (S' := [.int 0, .int y1, .ref 543]) (M' := gm g) rfl ?_
      by_cases c2 : zib y1 235 = true
      case neg => exact nomatch ((if_neg c2).symm.trans h)
      replace h := (if_pos c2).symm.trans h
      refine g_iast rfl (a := 543) rfl c2 ?_
      refine g_run 2 (pc' := 112) (L' := [some (.ref 526), some (.int ((y1 + 1)))]) (S' := []) (M' := gm (gsI g (543) (ix y1) 0)) rfl ?_
      exact ih (y1 + 1) (gsI g (543) (ix y1) 0) _ h
def f_X12_takeCoast_110 (g : zSg) : Option (Int32 × zSg) := f_X12_takeCoast_112 zFu (0) g
set_option maxRecDepth 100000 in
set_option maxHeartbeats 4000000 in
theorem p_X12_takeCoast_110 {sc : zSc} {hp : zHp} {d : Nat} (hD : 1 ≤ d) (g : zSg) (r : Int32 × zSg) (h : f_X12_takeCoast_110 g = some r) : zG d sc hp (zcd zM_X12_takeCoast) 110 [some (.ref 526), none] [] (gm g) ((some (.int r.1)), gm r.2) := by
  obtain ⟨d, rfl⟩ : ∃ d', d = d' + 1 := ⟨d - 1, by omega⟩
  unfold f_X12_takeCoast_110 at h
  refine g_run 2 (pc' := 112) (L' := [some (.ref 526), some (.int 0)]) (S' := []) (M' := gm g) rfl ?_
  exact p_X12_takeCoast_112 hD zFu (0) g _ h
def fb_X12_takeCoast_86 (kk : Int32 → zSg → Option (Int32 × zSg)) (y1 : Int32) (g : zSg) : Option (Int32 × zSg) := (if 24 ≤ y1 then f_X12_takeCoast_110 g else (if zib y1 24 = true then (if zib y1 24 = true then kk (y1 + 1) (gsI g (542) (ix y1) (gI g 539 (ix y1))) else none) else none))
def f_X12_takeCoast_86 : Nat → Int32 → zSg → Option (Int32 × zSg)
  | 0, _, _ => none
  | n + 1, y1, g => fb_X12_takeCoast_86 (f_X12_takeCoast_86 n) y1 g
set_option maxRecDepth 100000 in
set_option maxHeartbeats 4000000 in
theorem p_X12_takeCoast_86 {sc : zSc} {hp : zHp} {d : Nat} (hD : 1 ≤ d) : ∀ (n : Nat) (y1 : Int32) (g : zSg) (r : Int32 × zSg), f_X12_takeCoast_86 n y1 g = some r → zG d sc hp (zcd zM_X12_takeCoast) 86 [some (.ref 526), some (.int y1)] [] (gm g) ((some (.int r.1)), gm r.2) := by
  obtain ⟨d, rfl⟩ : ∃ d', d = d' + 1 := ⟨d - 1, by omega⟩
  intro n
  induction n with
  | zero => intro y1 g r h; cases h
  | succ n ih =>
    intro y1 g r h
    replace h : fb_X12_takeCoast_86 (f_X12_takeCoast_86 n) y1 g = some r := h
    unfold fb_X12_takeCoast_86 at h
    refine g_run 2 (pc' := 89) (L' := [some (.ref 526), some (.int y1)]) (S' := [.int 24, .int y1]) (M' := gm g) rfl ?_
    refine g_icmp (24 ≤ y1) rfl (t := 110) rfl rfl (fun c1 => ?_) (fun c1 => ?_)
    · replace h := (if_pos c1).symm.trans h
      refine g_forget (L' := [some (.ref 526), none]) (And.intro rfl True.intro) ?_
      exact p_X12_takeCoast_110 hD g _ h
    · replace h := (if_neg c1).symm.trans h
      refine g_run 6 (pc' := 102) (L' := [some (.ref 526), some (.int y1)]) (S' := [.int y1, .ref 539, .int y1, .ref 542]) (M' := gm g) rfl ?_
      by_cases c2 : zib y1 24 = true
      case neg => exact nomatch ((if_neg c2).symm.trans h)
      replace h := (if_pos c2).symm.trans h
      refine g_iald rfl (a := 539) rfl c2 ?_
      by_cases c3 : zib y1 24 = true
      case neg => exact nomatch ((if_neg c3).symm.trans h)
      replace h := (if_pos c3).symm.trans h
      refine g_iast rfl (a := 542) rfl c3 ?_
      refine g_run 2 (pc' := 86) (L' := [some (.ref 526), some (.int ((y1 + 1)))]) (S' := []) (M' := gm (gsI g (542) (ix y1) (gI g 539 (ix y1)))) rfl ?_
      exact ih (y1 + 1) (gsI g (542) (ix y1) (gI g 539 (ix y1))) _ h
def f_X12_takeCoast_84 (g : zSg) : Option (Int32 × zSg) := f_X12_takeCoast_86 zFu (0) g
set_option maxRecDepth 100000 in
set_option maxHeartbeats 4000000 in
theorem p_X12_takeCoast_84 {sc : zSc} {hp : zHp} {d : Nat} (hD : 1 ≤ d) (g : zSg) (r : Int32 × zSg) (h : f_X12_takeCoast_84 g = some r) : zG d sc hp (zcd zM_X12_takeCoast) 84 [some (.ref 526), none] [] (gm g) ((some (.int r.1)), gm r.2) := by
  obtain ⟨d, rfl⟩ : ∃ d', d = d' + 1 := ⟨d - 1, by omega⟩
  unfold f_X12_takeCoast_84 at h
  refine g_run 2 (pc' := 86) (L' := [some (.ref 526), some (.int 0)]) (S' := []) (M' := gm g) rfl ?_
  exact p_X12_takeCoast_86 hD zFu (0) g _ h
def fb_X12_takeCoast_60 (kk : Int32 → zSg → Option (Int32 × zSg)) (y1 : Int32) (g : zSg) : Option (Int32 × zSg) := (if 18 ≤ y1 then f_X12_takeCoast_84 g else (if zib y1 18 = true then (if zib y1 18 = true then kk (y1 + 1) (gsI g (541) (ix y1) (gI g 538 (ix y1))) else none) else none))
def f_X12_takeCoast_60 : Nat → Int32 → zSg → Option (Int32 × zSg)
  | 0, _, _ => none
  | n + 1, y1, g => fb_X12_takeCoast_60 (f_X12_takeCoast_60 n) y1 g
set_option maxRecDepth 100000 in
set_option maxHeartbeats 4000000 in
theorem p_X12_takeCoast_60 {sc : zSc} {hp : zHp} {d : Nat} (hD : 1 ≤ d) : ∀ (n : Nat) (y1 : Int32) (g : zSg) (r : Int32 × zSg), f_X12_takeCoast_60 n y1 g = some r → zG d sc hp (zcd zM_X12_takeCoast) 60 [some (.ref 526), some (.int y1)] [] (gm g) ((some (.int r.1)), gm r.2) := by
  obtain ⟨d, rfl⟩ : ∃ d', d = d' + 1 := ⟨d - 1, by omega⟩
  intro n
  induction n with
  | zero => intro y1 g r h; cases h
  | succ n ih =>
    intro y1 g r h
    replace h : fb_X12_takeCoast_60 (f_X12_takeCoast_60 n) y1 g = some r := h
    unfold fb_X12_takeCoast_60 at h
    refine g_run 2 (pc' := 63) (L' := [some (.ref 526), some (.int y1)]) (S' := [.int 18, .int y1]) (M' := gm g) rfl ?_
    refine g_icmp (18 ≤ y1) rfl (t := 84) rfl rfl (fun c1 => ?_) (fun c1 => ?_)
    · replace h := (if_pos c1).symm.trans h
      refine g_forget (L' := [some (.ref 526), none]) (And.intro rfl True.intro) ?_
      exact p_X12_takeCoast_84 hD g _ h
    · replace h := (if_neg c1).symm.trans h
      refine g_run 6 (pc' := 76) (L' := [some (.ref 526), some (.int y1)]) (S' := [.int y1, .ref 538, .int y1, .ref 541]) (M' := gm g) rfl ?_
      by_cases c2 : zib y1 18 = true
      case neg => exact nomatch ((if_neg c2).symm.trans h)
      replace h := (if_pos c2).symm.trans h
      refine g_iald rfl (a := 538) rfl c2 ?_
      by_cases c3 : zib y1 18 = true
      case neg => exact nomatch ((if_neg c3).symm.trans h)
      replace h := (if_pos c3).symm.trans h
      refine g_iast rfl (a := 541) rfl c3 ?_
      refine g_run 2 (pc' := 60) (L' := [some (.ref 526), some (.int ((y1 + 1)))]) (S' := []) (M' := gm (gsI g (541) (ix y1) (gI g 538 (ix y1)))) rfl ?_
      exact ih (y1 + 1) (gsI g (541) (ix y1) (gI g 538 (ix y1))) _ h
def f_X12_takeCoast_41 (g : zSg) : Option (Int32 × zSg) := f_X12_takeCoast_60 zFu (0) (gsI g 526 27 ((gI g 540 0) * (gI g 540 1)))
set_option maxRecDepth 100000 in
set_option maxHeartbeats 4000000 in
theorem p_X12_takeCoast_41 {sc : zSc} {hp : zHp} {d : Nat} (hD : 1 ≤ d) (g : zSg) (r : Int32 × zSg) (h : f_X12_takeCoast_41 g = some r) : zG d sc hp (zcd zM_X12_takeCoast) 41 [some (.ref 526), none] [] (gm g) ((some (.int r.1)), gm r.2) := by
  obtain ⟨d, rfl⟩ : ∃ d', d = d' + 1 := ⟨d - 1, by omega⟩
  unfold f_X12_takeCoast_41 at h
  refine g_run 13 (pc' := 60) (L' := [some (.ref 526), some (.int 0)]) (S' := []) (M' := gm (gsI g 526 27 ((gI g 540 0) * (gI g 540 1)))) rfl ?_
  exact p_X12_takeCoast_60 hD zFu (0) (gsI g 526 27 ((gI g 540 0) * (gI g 540 1))) _ h
def fb_X12_takeCoast_18 (kk : Int32 → zSg → Option (Int32 × zSg)) (y1 : Int32) (g : zSg) : Option (Int32 × zSg) := (if 5 ≤ y1 then f_X12_takeCoast_41 g else (if zib y1 5 = true then (if zib y1 5 = true then kk (y1 + 1) (gsI g (540) (ix y1) (gI g 537 (ix y1))) else none) else none))
def f_X12_takeCoast_18 : Nat → Int32 → zSg → Option (Int32 × zSg)
  | 0, _, _ => none
  | n + 1, y1, g => fb_X12_takeCoast_18 (f_X12_takeCoast_18 n) y1 g
set_option maxRecDepth 100000 in
set_option maxHeartbeats 4000000 in
theorem p_X12_takeCoast_18 {sc : zSc} {hp : zHp} {d : Nat} (hD : 1 ≤ d) : ∀ (n : Nat) (y1 : Int32) (g : zSg) (r : Int32 × zSg), f_X12_takeCoast_18 n y1 g = some r → zG d sc hp (zcd zM_X12_takeCoast) 18 [some (.ref 526), some (.int y1)] [] (gm g) ((some (.int r.1)), gm r.2) := by
  obtain ⟨d, rfl⟩ : ∃ d', d = d' + 1 := ⟨d - 1, by omega⟩
  intro n
  induction n with
  | zero => intro y1 g r h; cases h
  | succ n ih =>
    intro y1 g r h
    replace h : fb_X12_takeCoast_18 (f_X12_takeCoast_18 n) y1 g = some r := h
    unfold fb_X12_takeCoast_18 at h
    refine g_run 2 (pc' := 20) (L' := [some (.ref 526), some (.int y1)]) (S' := [.int 5, .int y1]) (M' := gm g) rfl ?_
    refine g_icmp (5 ≤ y1) rfl (t := 41) rfl rfl (fun c1 => ?_) (fun c1 => ?_)
    · replace h := (if_pos c1).symm.trans h
      refine g_forget (L' := [some (.ref 526), none]) (And.intro rfl True.intro) ?_
      exact p_X12_takeCoast_41 hD g _ h
    · replace h := (if_neg c1).symm.trans h
      refine g_run 6 (pc' := 33) (L' := [some (.ref 526), some (.int y1)]) (S' := [.int y1, .ref 537, .int y1, .ref 540]) (M' := gm g) rfl ?_
      by_cases c2 : zib y1 5 = true
      case neg => exact nomatch ((if_neg c2).symm.trans h)
      replace h := (if_pos c2).symm.trans h
      refine g_iald rfl (a := 537) rfl c2 ?_
      by_cases c3 : zib y1 5 = true
      case neg => exact nomatch ((if_neg c3).symm.trans h)
      replace h := (if_pos c3).symm.trans h
      refine g_iast rfl (a := 540) rfl c3 ?_
      refine g_run 2 (pc' := 18) (L' := [some (.ref 526), some (.int ((y1 + 1)))]) (S' := []) (M' := gm (gsI g (540) (ix y1) (gI g 537 (ix y1)))) rfl ?_
      exact ih (y1 + 1) (gsI g (540) (ix y1) (gI g 537 (ix y1))) _ h
def f_X12_takeCoast (g : zSg) : Option (Int32 × zSg) := f_X12_takeCoast_18 zFu (0) (gsI (gsI g 526 25 (gI g 526 20)) 526 26 (gI (gsI g 526 25 (gI g 526 20)) 526 21))
set_option maxRecDepth 100000 in
set_option maxHeartbeats 4000000 in
theorem p_X12_takeCoast {sc : zSc} {hp : zHp} {g : zSg} {r : Int32 × zSg} (h : f_X12_takeCoast g = some r) : zRn sc hp 1 zM_X12_takeCoast [.ref 526] (gm g) (some (.int r.1)) (gm r.2) := by
  intro d hD
  obtain ⟨d, rfl⟩ : ∃ d', d = d' + 1 := ⟨d - 1, by omega⟩
  show zG _ sc hp (zcd zM_X12_takeCoast) 0 [some (.ref 526), none] [] (gm g) _
  unfold f_X12_takeCoast at h
  refine g_run 10 (pc' := 18) (L' := [some (.ref 526), some (.int 0)]) (S' := []) (M' := gm (gsI (gsI g 526 25 (gI g 526 20)) 526 26 (gI (gsI g 526 25 (gI g 526 20)) 526 21))) rfl ?_
  exact p_X12_takeCoast_18 hD zFu (0) (gsI (gsI g 526 25 (gI g 526 20)) 526 26 (gI (gsI g 526 25 (gI g 526 20)) 526 21)) _ h
def f_X12_text_22 (y1 : Int32) (g : zSg) : Option (Int32 × zSg) := (if ¬ y1 = 1 then some ((-1), g) else (if 4 ≤ (gI g 526 13) then some ((-1), g) else (zB (f_X12_readLaw (gI g 526 13) g) (fun v3 g4 => (if ¬ v3 = (-1) then some ((-1), g4) else some (((gI (gsI (gsI g4 526 2 0) 526 13 ((gI (gsI g4 526 2 0) 526 13) + 1)) 526 13) - 1), (gsI (gsI g4 526 2 0) 526 13 ((gI (gsI g4 526 2 0) 526 13) + 1))))))))
set_option maxRecDepth 100000 in
set_option maxHeartbeats 4000000 in
theorem p_X12_text_22 {sc : zSc} {hp : zHp} {d : Nat} (hD : 186 ≤ d) (y1 : Int32) (g : zSg) (r : Int32 × zSg) (h : f_X12_text_22 y1 g = some r) : zG d sc hp (zcd zM_X12_text) 22 [some (.ref 526), some (.int y1)] [] (gm g) ((some (.int r.1)), gm r.2) := by
  obtain ⟨d, rfl⟩ : ∃ d', d = d' + 1 := ⟨d - 1, by omega⟩
  unfold f_X12_text_22 at h
  refine g_run 2 (pc' := 24) (L' := [some (.ref 526), some (.int y1)]) (S' := [.int 1, .int y1]) (M' := gm g) rfl ?_
  refine g_icmp (¬ y1 = 1) rfl (t := 69) rfl rfl (fun c1 => ?_) (fun c1 => ?_)
  · replace h := (if_pos c1).symm.trans h
    refine g_run 1 (pc' := 70) (L' := [some (.ref 526), some (.int y1)]) (S' := [.int (-1)]) (M' := gm g) rfl ?_
    cases h
    exact g_ret rfl rfl rfl rfl
  · replace h := (if_neg c1).symm.trans h
    refine g_run 3 (pc' := 32) (L' := [some (.ref 526), some (.int y1)]) (S' := [.int 4, .int ((gI g 526 13))]) (M' := gm g) rfl ?_
    refine g_icmp (4 ≤ (gI g 526 13)) rfl (t := 69) rfl rfl (fun c2 => ?_) (fun c2 => ?_)
    · replace h := (if_pos c2).symm.trans h
      refine g_run 1 (pc' := 70) (L' := [some (.ref 526), some (.int y1)]) (S' := [.int (-1)]) (M' := gm g) rfl ?_
      cases h
      exact g_ret rfl rfl rfl rfl
    · replace h := (if_neg c2).symm.trans h
      refine g_run 3 (pc' := 40) (L' := [some (.ref 526), some (.int y1)]) (S' := [.int ((gI g 526 13)), .ref 526]) (M' := gm g) rfl ?_
      replace h := zB_of h
      obtain ⟨v3, g4, e5, h⟩ := h
      refine g_inv2 (kd := 1) (p_X12_readLaw  e5) rfl rfl rfl (by decide) rfl rfl rfl rfl (by omega) (pc' := 43) rfl (S' := [.int v3]) rfl ?_
      refine g_run 1 (pc' := 44) (L' := [some (.ref 526), some (.int y1)]) (S' := [.int (-1), .int v3]) (M' := gm g4) rfl ?_
      refine g_icmp (¬ v3 = (-1)) rfl (t := 69) rfl rfl (fun c6 => ?_) (fun c6 => ?_)
      · replace h := (if_pos c6).symm.trans h
        refine g_run 1 (pc' := 70) (L' := [some (.ref 526), some (.int y1)]) (S' := [.int (-1)]) (M' := gm g4) rfl ?_
        cases h
        exact g_ret rfl rfl rfl rfl
      · replace h := (if_neg c6).symm.trans h
        refine g_run 13 (pc' := 68) (L' := [some (.ref 526), some (.int y1)]) (S' := [.int (((gI (gsI (gsI g4 526 2 0) 526 13 ((gI (gsI g4 526 2 0) 526 13) + 1)) 526 13) - 1))]) (M' := gm (gsI (gsI g4 526 2 0) 526 13 ((gI (gsI g4 526 2 0) 526 13) + 1))) rfl ?_
        cases h
        exact g_ret rfl rfl rfl rfl
def f_X12_text (x1 : Int32) (g : zSg) : Option (Int32 × zSg) := (if ¬ x1 = 0 then f_X12_text_22 (x1) g else (zB (f_X12_readCoast g) (fun v2 g3 => (if ¬ v2 = (-1) then f_X12_text_22 (x1) g3 else (zB (f_X12_takeCoast (gsI g3 526 2 0)) (fun v6 g7 => some (v6, g7)))))))
set_option maxRecDepth 100000 in
set_option maxHeartbeats 4000000 in
theorem p_X12_text {sc : zSc} {hp : zHp} {x1 : Int32} {g : zSg} {r : Int32 × zSg} (h : f_X12_text x1 g = some r) : zRn sc hp 186 zM_X12_text [.ref 526, .int x1] (gm g) (some (.int r.1)) (gm r.2) := by
  intro d hD
  obtain ⟨d, rfl⟩ : ∃ d', d = d' + 1 := ⟨d - 1, by omega⟩
  show zG _ sc hp (zcd zM_X12_text) 0 [some (.ref 526), some (.int x1)] [] (gm g) _
  unfold f_X12_text at h
  refine g_run 1 (pc' := 1) (L' := [some (.ref 526), some (.int x1)]) (S' := [.int x1]) (M' := gm g) rfl ?_
  refine g_if (¬ x1 = 0) rfl (t := 22) rfl rfl (fun c1 => ?_) (fun c1 => ?_)
  · replace h := (if_pos c1).symm.trans h
    exact p_X12_text_22 hD (x1) g _ h
  · replace h := (if_neg c1).symm.trans h
    refine g_run 1 (pc' := 5) (L' := [some (.ref 526), some (.int x1)]) (S' := [.ref 526]) (M' := gm g) rfl ?_
    replace h := zB_of h
    obtain ⟨v2, g3, e4, h⟩ := h
    refine g_inv2 (kd := 1) (p_X12_readCoast  e4) rfl rfl rfl (by decide) rfl rfl rfl rfl (by omega) (pc' := 8) rfl (S' := [.int v2]) rfl ?_
    refine g_run 1 (pc' := 9) (L' := [some (.ref 526), some (.int x1)]) (S' := [.int (-1), .int v2]) (M' := gm g3) rfl ?_
    refine g_icmp (¬ v2 = (-1)) rfl (t := 22) rfl rfl (fun c5 => ?_) (fun c5 => ?_)
    · replace h := (if_pos c5).symm.trans h
      exact p_X12_text_22 hD (x1) g3 _ h
    · replace h := (if_neg c5).symm.trans h
      refine g_run 4 (pc' := 18) (L' := [some (.ref 526), some (.int x1)]) (S' := [.ref 526]) (M' := gm (gsI g3 526 2 0)) rfl ?_
      replace h := zB_of h
      obtain ⟨v6, g7, e8, h⟩ := h
      refine g_inv2 (kd := 1) (p_X12_takeCoast  e8) rfl rfl rfl (by decide) rfl rfl rfl rfl (by omega) (pc' := 21) rfl (S' := [.int v6]) rfl ?_
      cases h
      exact g_ret rfl rfl rfl rfl
def f_X12_isPerson (x1 : Int32) (g : zSg) : Option (Int32 × zSg) := (zB (f_X12_in x1 0 ((gI g 526 25) - 1) g) (fun v1 g2 => (if v1 = 0 ∨ v1 = 1 then some (v1, g2) else none)))
set_option maxRecDepth 100000 in
set_option maxHeartbeats 4000000 in
theorem p_X12_isPerson {sc : zSc} {hp : zHp} {x1 : Int32} {g : zSg} {r : Int32 × zSg} (h : f_X12_isPerson x1 g = some r) : zRn sc hp 1 zM_X12_isPerson [.ref 526, .int x1] (gm g) (some (.int r.1)) (gm r.2) := by
  intro d hD
  obtain ⟨d, rfl⟩ : ∃ d', d = d' + 1 := ⟨d - 1, by omega⟩
  show zG _ sc hp (zcd zM_X12_isPerson) 0 [some (.ref 526), some (.int x1)] [] (gm g) _
  unfold f_X12_isPerson at h
  refine g_run 6 (pc' := 8) (L' := [some (.ref 526), some (.int x1)]) (S' := [.int (((gI g 526 25) - 1)), .int 0, .int x1]) (M' := gm g) rfl ?_
  replace h := zB_of h
  obtain ⟨v1, g2, e3, h⟩ := h
  refine g_inv2 (kd := 0) (p_X12_in  e3) rfl rfl rfl (by decide) rfl rfl rfl rfl (by omega) (pc' := 11) rfl (S' := [.int v1]) rfl ?_
  by_cases c4 : v1 = 0 ∨ v1 = 1
  case neg => exact nomatch ((if_neg c4).symm.trans h)
  replace h := (if_pos c4).symm.trans h
  cases h
  exact g_retz rfl rfl c4
def f_X12_isSecret (x1 : Int32) (g : zSg) : Option (Int32 × zSg) := (zB (f_X12_in x1 0 ((gI g 526 26) - 1) g) (fun v1 g2 => (if v1 = 0 ∨ v1 = 1 then some (v1, g2) else none)))
set_option maxRecDepth 100000 in
set_option maxHeartbeats 4000000 in
theorem p_X12_isSecret {sc : zSc} {hp : zHp} {x1 : Int32} {g : zSg} {r : Int32 × zSg} (h : f_X12_isSecret x1 g = some r) : zRn sc hp 1 zM_X12_isSecret [.ref 526, .int x1] (gm g) (some (.int r.1)) (gm r.2) := by
  intro d hD
  obtain ⟨d, rfl⟩ : ∃ d', d = d' + 1 := ⟨d - 1, by omega⟩
  show zG _ sc hp (zcd zM_X12_isSecret) 0 [some (.ref 526), some (.int x1)] [] (gm g) _
  unfold f_X12_isSecret at h
  refine g_run 6 (pc' := 8) (L' := [some (.ref 526), some (.int x1)]) (S' := [.int (((gI g 526 26) - 1)), .int 0, .int x1]) (M' := gm g) rfl ?_
  replace h := zB_of h
  obtain ⟨v1, g2, e3, h⟩ := h
  refine g_inv2 (kd := 0) (p_X12_in  e3) rfl rfl rfl (by decide) rfl rfl rfl rfl (by omega) (pc' := 11) rfl (S' := [.int v1]) rfl ?_
  by_cases c4 : v1 = 0 ∨ v1 = 1
  case neg => exact nomatch ((if_neg c4).symm.trans h)
  replace h := (if_pos c4).symm.trans h
  cases h
  exact g_retz rfl rfl c4
def f_X12_isCell (x1 : Int32) (g : zSg) : Option (Int32 × zSg) := (zB (f_X12_in x1 0 ((gI g 526 27) - 1) g) (fun v1 g2 => (if v1 = 0 ∨ v1 = 1 then some (v1, g2) else none)))
set_option maxRecDepth 100000 in
set_option maxHeartbeats 4000000 in
theorem p_X12_isCell {sc : zSc} {hp : zHp} {x1 : Int32} {g : zSg} {r : Int32 × zSg} (h : f_X12_isCell x1 g = some r) : zRn sc hp 1 zM_X12_isCell [.ref 526, .int x1] (gm g) (some (.int r.1)) (gm r.2) := by
  intro d hD
  obtain ⟨d, rfl⟩ : ∃ d', d = d' + 1 := ⟨d - 1, by omega⟩
  show zG _ sc hp (zcd zM_X12_isCell) 0 [some (.ref 526), some (.int x1)] [] (gm g) _
  unfold f_X12_isCell at h
  refine g_run 6 (pc' := 8) (L' := [some (.ref 526), some (.int x1)]) (S' := [.int (((gI g 526 27) - 1)), .int 0, .int x1]) (M' := gm g) rfl ?_
  replace h := zB_of h
  obtain ⟨v1, g2, e3, h⟩ := h
  refine g_inv2 (kd := 0) (p_X12_in  e3) rfl rfl rfl (by decide) rfl rfl rfl rfl (by omega) (pc' := 11) rfl (S' := [.int v1]) rfl ?_
  by_cases c4 : v1 = 0 ∨ v1 = 1
  case neg => exact nomatch ((if_neg c4).symm.trans h)
  replace h := (if_pos c4).symm.trans h
  cases h
  exact g_retz rfl rfl c4
def f_X12_of (x1 : Int32) (x2 : Int32) (g : zSg) : Option (Int32 × zSg) := (if zib ((4 * x1) + x2) 24 = true then some ((gI g 542 (ix ((4 * x1) + x2))), g) else none)
set_option maxRecDepth 100000 in
set_option maxHeartbeats 4000000 in
theorem p_X12_of {sc : zSc} {hp : zHp} {x1 : Int32} {x2 : Int32} {g : zSg} {r : Int32 × zSg} (h : f_X12_of x1 x2 g = some r) : zRn sc hp 0 zM_X12_of [.ref 526, .int x1, .int x2] (gm g) (some (.int r.1)) (gm r.2) := by
  intro d hD
  show zG _ sc hp (zcd zM_X12_of) 0 [some (.ref 526), some (.int x1), some (.int x2)] [] (gm g) _
  unfold f_X12_of at h
  refine g_run 7 (pc' := 9) (L' := [some (.ref 526), some (.int x1), some (.int x2)]) (S' := [.int (((4 * x1) + x2)), .ref 542]) (M' := gm g) rfl ?_
  by_cases c1 : zib ((4 * x1) + x2) 24 = true
  case neg => exact nomatch ((if_neg c1).symm.trans h)
  replace h := (if_pos c1).symm.trans h
  refine g_iald rfl (a := 542) rfl c1 ?_
  cases h
  exact g_ret rfl rfl rfl rfl
def f_X12_shedOf (x1 : Int32) (g : zSg) : Option (Int32 × zSg) := (zB (f_X12_of x1 3 g) (fun v1 g2 => (zB (f_X12_of x1 2 g2) (fun v4 g5 => some ((((gI g 540 0) * v1) + v4), g5)))))
set_option maxRecDepth 100000 in
set_option maxHeartbeats 4000000 in
theorem p_X12_shedOf {sc : zSc} {hp : zHp} {x1 : Int32} {g : zSg} {r : Int32 × zSg} (h : f_X12_shedOf x1 g = some r) : zRn sc hp 1 zM_X12_shedOf [.ref 526, .int x1] (gm g) (some (.int r.1)) (gm r.2) := by
  intro d hD
  obtain ⟨d, rfl⟩ : ∃ d', d = d' + 1 := ⟨d - 1, by omega⟩
  show zG _ sc hp (zcd zM_X12_shedOf) 0 [some (.ref 526), some (.int x1)] [] (gm g) _
  unfold f_X12_shedOf at h
  refine g_run 7 (pc' := 9) (L' := [some (.ref 526), some (.int x1)]) (S' := [.int 3, .int x1, .ref 526, .int ((gI g 540 0))]) (M' := gm g) rfl ?_
  replace h := zB_of h
  obtain ⟨v1, g2, e3, h⟩ := h
  refine g_inv2 (kd := 1) (p_X12_of  e3) rfl rfl rfl (by decide) rfl rfl rfl rfl (by omega) (pc' := 12) rfl (S' := [.int v1, .int ((gI g 540 0))]) rfl ?_
  refine g_run 4 (pc' := 16) (L' := [some (.ref 526), some (.int x1)]) (S' := [.int 2, .int x1, .ref 526, .int (((gI g 540 0) * v1))]) (M' := gm g2) rfl ?_
  replace h := zB_of h
  obtain ⟨v4, g5, e6, h⟩ := h
  refine g_inv2 (kd := 1) (p_X12_of  e6) rfl rfl rfl (by decide) rfl rfl rfl rfl (by omega) (pc' := 19) rfl (S' := [.int v4, .int (((gI g 540 0) * v1))]) rfl ?_
  refine g_run 1 (pc' := 20) (L' := [some (.ref 526), some (.int x1)]) (S' := [.int ((((gI g 540 0) * v1) + v4))]) (M' := gm g5) rfl ?_
  cases h
  exact g_ret rfl rfl rfl rfl
def f_X12_hangs (x1 : Int32) (g : zSg) : Option (Int32 × zSg) := (zB (f_X12_has (gI g 543 48) x1 g) (fun v1 g2 => (if v1 = 0 ∨ v1 = 1 then some (v1, g2) else none)))
set_option maxRecDepth 100000 in
set_option maxHeartbeats 4000000 in
theorem p_X12_hangs {sc : zSc} {hp : zHp} {x1 : Int32} {g : zSg} {r : Int32 × zSg} (h : f_X12_hangs x1 g = some r) : zRn sc hp 1 zM_X12_hangs [.ref 526, .int x1] (gm g) (some (.int r.1)) (gm r.2) := by
  intro d hD
  obtain ⟨d, rfl⟩ : ∃ d', d = d' + 1 := ⟨d - 1, by omega⟩
  show zG _ sc hp (zcd zM_X12_hangs) 0 [some (.ref 526), some (.int x1)] [] (gm g) _
  unfold f_X12_hangs at h
  refine g_run 5 (pc' := 8) (L' := [some (.ref 526), some (.int x1)]) (S' := [.int x1, .int ((gI g 543 48))]) (M' := gm g) rfl ?_
  replace h := zB_of h
  obtain ⟨v1, g2, e3, h⟩ := h
  refine g_inv2 (kd := 0) (p_X12_has  e3) rfl rfl rfl (by decide) rfl rfl rfl rfl (by omega) (pc' := 11) rfl (S' := [.int v1]) rfl ?_
  by_cases c4 : v1 = 0 ∨ v1 = 1
  case neg => exact nomatch ((if_neg c4).symm.trans h)
  replace h := (if_pos c4).symm.trans h
  cases h
  exact g_retz rfl rfl c4
def f_X12_isRaw (x1 : Int32) (g : zSg) : Option (Int32 × zSg) := (zB (f_X12_has (gI g 543 49) x1 g) (fun v1 g2 => (if ¬ v1 = 0 then some (0, g2) else some (1, g2))))
set_option maxRecDepth 100000 in
set_option maxHeartbeats 4000000 in
theorem p_X12_isRaw {sc : zSc} {hp : zHp} {x1 : Int32} {g : zSg} {r : Int32 × zSg} (h : f_X12_isRaw x1 g = some r) : zRn sc hp 1 zM_X12_isRaw [.ref 526, .int x1] (gm g) (some (.int r.1)) (gm r.2) := by
  intro d hD
  obtain ⟨d, rfl⟩ : ∃ d', d = d' + 1 := ⟨d - 1, by omega⟩
  show zG _ sc hp (zcd zM_X12_isRaw) 0 [some (.ref 526), some (.int x1)] [] (gm g) _
  unfold f_X12_isRaw at h
  refine g_run 5 (pc' := 8) (L' := [some (.ref 526), some (.int x1)]) (S' := [.int x1, .int ((gI g 543 49))]) (M' := gm g) rfl ?_
  replace h := zB_of h
  obtain ⟨v1, g2, e3, h⟩ := h
  refine g_inv2 (kd := 0) (p_X12_has  e3) rfl rfl rfl (by decide) rfl rfl rfl rfl (by omega) (pc' := 11) rfl (S' := [.int v1]) rfl ?_
  refine g_if (¬ v1 = 0) rfl (t := 18) rfl rfl (fun c4 => ?_) (fun c4 => ?_)
  · replace h := (if_pos c4).symm.trans h
    refine g_run 1 (pc' := 19) (L' := [some (.ref 526), some (.int x1)]) (S' := [.int 0]) (M' := gm g2) rfl ?_
    cases h
    exact g_ret rfl rfl rfl rfl
  · replace h := (if_neg c4).symm.trans h
    refine g_run 2 (pc' := 19) (L' := [some (.ref 526), some (.int x1)]) (S' := [.int 1]) (M' := gm g2) rfl ?_
    cases h
    exact g_ret rfl rfl rfl rfl
def f_X12_breathOf (x1 : Int32) (x2 : Int32) (g : zSg) : Option (Int32 × zSg) := (if zib ((6 + (6 * x1)) + x2) 235 = true then some ((gI g 543 (ix ((6 + (6 * x1)) + x2))), g) else none)
set_option maxRecDepth 100000 in
set_option maxHeartbeats 4000000 in
theorem p_X12_breathOf {sc : zSc} {hp : zHp} {x1 : Int32} {x2 : Int32} {g : zSg} {r : Int32 × zSg} (h : f_X12_breathOf x1 x2 g = some r) : zRn sc hp 0 zM_X12_breathOf [.ref 526, .int x1, .int x2] (gm g) (some (.int r.1)) (gm r.2) := by
  intro d hD
  show zG _ sc hp (zcd zM_X12_breathOf) 0 [some (.ref 526), some (.int x1), some (.int x2)] [] (gm g) _
  unfold f_X12_breathOf at h
  refine g_run 9 (pc' := 13) (L' := [some (.ref 526), some (.int x1), some (.int x2)]) (S' := [.int (((6 + (6 * x1)) + x2)), .ref 543]) (M' := gm g) rfl ?_
  by_cases c1 : zib ((6 + (6 * x1)) + x2) 235 = true
  case neg => exact nomatch ((if_neg c1).symm.trans h)
  replace h := (if_pos c1).symm.trans h
  refine g_iald rfl (a := 543) rfl c1 ?_
  cases h
  exact g_ret rfl rfl rfl rfl
def f_X12_breathe (x1 : Int32) (x2 : Int32) (x3 : Int32) (g : zSg) : Option (Unit × zSg) := (zB (f_X12_breathOf x1 x2 g) (fun v1 g2 => (if zib ((6 + (6 * x1)) + x2) 235 = true then some ((), (gsI g2 (543) (ix ((6 + (6 * x1)) + x2)) (imin 99 (v1 + x3)))) else none)))
set_option maxRecDepth 100000 in
set_option maxHeartbeats 4000000 in
theorem p_X12_breathe {sc : zSc} {hp : zHp} {x1 : Int32} {x2 : Int32} {x3 : Int32} {g : zSg} {r : Unit × zSg} (h : f_X12_breathe x1 x2 x3 g = some r) : zRn sc hp 1 zM_X12_breathe [.ref 526, .int x1, .int x2, .int x3] (gm g) none (gm r.2) := by
  intro d hD
  obtain ⟨d, rfl⟩ : ∃ d', d = d' + 1 := ⟨d - 1, by omega⟩
  show zG _ sc hp (zcd zM_X12_breathe) 0 [some (.ref 526), some (.int x1), some (.int x2), some (.int x3)] [] (gm g) _
  unfold f_X12_breathe at h
  refine g_run 13 (pc' := 18) (L' := [some (.ref 526), some (.int x1), some (.int x2), some (.int x3)]) (S' := [.int x2, .int x1, .ref 526, .int 99, .int (((6 + (6 * x1)) + x2)), .ref 543]) (M' := gm g) rfl ?_
  replace h := zB_of h
  obtain ⟨v1, g2, e3, h⟩ := h
  refine g_inv2 (kd := 1) (p_X12_breathOf  e3) rfl rfl rfl (by decide) rfl rfl rfl rfl (by omega) (pc' := 21) rfl (S' := [.int v1, .int 99, .int (((6 + (6 * x1)) + x2)), .ref 543]) rfl ?_
  refine g_run 2 (pc' := 23) (L' := [some (.ref 526), some (.int x1), some (.int x2), some (.int x3)]) (S' := [.int ((v1 + x3)), .int 99, .int (((6 + (6 * x1)) + x2)), .ref 543]) (M' := gm g2) rfl ?_
  refine g_spec2 (kd := 0) rfl rfl rfl (by decide) rfl (jd := 1001) rfl (by decide) rfl (Or.inl (by decide)) (S' := [.int ((imin 99 (v1 + x3))), .int (((6 + (6 * x1)) + x2)), .ref 543]) (M' := gm g2) rfl rfl (pc' := 26) rfl ?_
  by_cases c4 : zib ((6 + (6 * x1)) + x2) 235 = true
  case neg => exact nomatch ((if_neg c4).symm.trans h)
  replace h := (if_pos c4).symm.trans h
  refine g_iast rfl (a := 543) rfl c4 ?_
  cases h
  exact g_ret rfl rfl rfl rfl
